def f_X12_thrown (I : MI) (L : ML) : Option (Int32) := some (I 149 0)
set_option maxRecDepth 100000 in
theorem S_X12_thrown {g : Gx} (I : MI) (L : ML) (res : Int32) (h : f_X12_thrown I L = some res) : E g 1 0 mX12_thrown 0 [(0, .ref 149)] [] (I, L) (.inl (some (.int res))) (I, L) := by
  unfold f_X12_thrown at h
  refine E_aload_n 1 rfl dX12_thrown_0 rfl 0 rfl ?_
  refine E_gI 4 rfl dX12_thrown_1 shc_149 fl_X12_3 rfl ?_
  cases h
  exact E_iret rfl dX12_thrown_4
theorem C_X12_thrown {g : Gx} {I : MI} {L : ML} {res : Int32} (h : f_X12_thrown I L = some res) : Ent g 1 0 mX12_thrown [.ref 149] (I, L) (.inl (some (.int res))) (I, L) := Ent_of (by decide +kernel) (Nat.le_of_ble_eq_true rfl) (S_X12_thrown I L _ h)
def f_X12_throwsIf_9 (x1 : Bool) (I : MI) (L : ML) : Option (Bool × MI × ML) := some (x1, I, L)
set_option maxRecDepth 100000 in
theorem S_X12_throwsIf_9 {g : Gx} (x1 : Bool) (I : MI) (L : ML) (res : Bool × MI × ML) (h : f_X12_throwsIf_9 x1 I L = some res) : E g 1 0 mX12_throwsIf 9 [(1, .int (bI x1))] [] (I, L) (.inl (some (.int (bI res.1)))) (res.2.1, res.2.2) := by
  unfold f_X12_throwsIf_9 at h
  refine E_iload_n 10 rfl dX12_throwsIf_9 rfl 0 rfl ?_
  cases h
  exact E_zret (x := x1) rfl dX12_throwsIf_10
def f_X12_throwsIf (x1 : Bool) (x2 : Int32) (I : MI) (L : ML) : Option (Bool × MI × ML) := if x1 = true then (Option.bind (pfI I 149 0 x2) fun I2 => f_X12_throwsIf_9 x1 I2 L) else (f_X12_throwsIf_9 x1 I L)
set_option maxRecDepth 100000 in
theorem S_X12_throwsIf {g : Gx} (x1 : Bool) (x2 : Int32) (I : MI) (L : ML) (res : Bool × MI × ML) (h : f_X12_throwsIf x1 x2 I L = some res) : E g 1 0 mX12_throwsIf 0 [(0, .ref 149), (1, .int (bI x1)), (2, .int x2)] [] (I, L) (.inl (some (.int (bI res.1)))) (res.2.1, res.2.2) := by
  unfold f_X12_throwsIf at h
  refine E_iload_n 1 rfl dX12_throwsIf_0 rfl 1 rfl ?_
  refine E_if_eqB 9 4 (by decide) rfl dX12_throwsIf_1 (fun c1 => ?_) (fun c1 => ?_)
  · rw [if_neg (by rw [c1]; decide)] at h
    refine E_sub (lv' := [(1, .int (bI x1))]) [1] rfl ?_
    exact S_X12_throwsIf_9 x1 I L _ h
  · rw [if_pos c1] at h
    refine E_aload_n 5 rfl dX12_throwsIf_4 rfl 0 rfl ?_
    refine E_iload_n 6 rfl dX12_throwsIf_5 rfl 2 rfl ?_
    obtain ⟨I2, hI2, h⟩ := Option.bind_eq_some_iff.mp h
    refine E_pfI 9 rfl dX12_throwsIf_6 shc_149 fl_X12_3 rfl hI2 ?_
    refine E_sub (lv' := [(1, .int (bI x1))]) [1] rfl ?_
    exact S_X12_throwsIf_9 x1 I2 L _ h
theorem C_X12_throwsIf {g : Gx} {x1 : Bool} {x2 : Int32} {I : MI} {L : ML} {res : Bool × MI × ML} (h : f_X12_throwsIf x1 x2 I L = some res) : Ent g 1 0 mX12_throwsIf [.ref 149, .int (bI x1), .int x2] (I, L) (.inl (some (.int (bI res.1)))) (res.2.1, res.2.2) := Ent_of (by decide +kernel) (Nat.le_of_ble_eq_true rfl) (S_X12_throwsIf x1 x2 I L _ h)
def f_X12_in_15 (y0 : Bool) (I : MI) (L : ML) : Option (Bool) := some y0
set_option maxRecDepth 100000 in
theorem S_X12_in_15 {g : Gx} (y0 : Bool) (I : MI) (L : ML) (res : Bool) (h : f_X12_in_15 y0 I L = some res) : E g 1 0 mX12_in 15 [] [.int (bI y0)] (I, L) (.inl (some (.int (bI res)))) (I, L) := by
  unfold f_X12_in_15 at h
  cases h
  exact E_zret (x := y0) rfl dX12_in_15
def f_X12_in_14 (I : MI) (L : ML) : Option (Bool) := f_X12_in_15 false I L
set_option maxRecDepth 100000 in
theorem S_X12_in_14 {g : Gx} (I : MI) (L : ML) (res : Bool) (h : f_X12_in_14 I L = some res) : E g 1 0 mX12_in 14 [] [] (I, L) (.inl (some (.int (bI res)))) (I, L) := by
  unfold f_X12_in_14 at h
  refine E_iconst (v := 0) 15 rfl dX12_in_14 (by decide) ?_
  refine E_sub (lv' := []) [] rfl ?_
  exact S_X12_in_15 false I L _ h
def f_X12_in (x0 : Int32) (x1 : Int32) (x2 : Int32) (I : MI) (L : ML) : Option (Bool) := if x0 < x1 then (f_X12_in_14 I L) else (if x2 < x0 then (f_X12_in_14 I L) else (f_X12_in_15 true I L))
set_option maxRecDepth 100000 in
theorem S_X12_in {g : Gx} (x0 : Int32) (x1 : Int32) (x2 : Int32) (I : MI) (L : ML) (res : Bool) (h : f_X12_in x0 x1 x2 I L = some res) : E g 1 0 mX12_in 0 [(0, .int x0), (1, .int x1), (2, .int x2)] [] (I, L) (.inl (some (.int (bI res)))) (I, L) := by
  unfold f_X12_in at h
  refine E_iload_n 1 rfl dX12_in_0 rfl 0 rfl ?_
  refine E_iload_n 2 rfl dX12_in_1 rfl 1 rfl ?_
  refine E_icmp_lt 14 5 (by decide) rfl dX12_in_2 (fun c1 => ?_) (fun c1 => ?_)
  · rw [if_pos c1] at h
    refine E_sub (lv' := []) [] rfl ?_
    exact S_X12_in_14 I L _ h
  · rw [if_neg c1] at h
    refine E_iload_n 6 rfl dX12_in_5 rfl 0 rfl ?_
    refine E_iload_n 7 rfl dX12_in_6 rfl 2 rfl ?_
    refine E_icmp_gt 14 10 (by decide) rfl dX12_in_7 (fun c2 => ?_) (fun c2 => ?_)
    · rw [if_pos c2] at h
      refine E_sub (lv' := []) [] rfl ?_
      exact S_X12_in_14 I L _ h
    · rw [if_neg c2] at h
      refine E_iconst (v := 1) 11 rfl dX12_in_10 (by decide) ?_
      refine E_goto 15 (by decide) dX12_in_11 ?_
      refine E_sub (lv' := []) [] rfl ?_
      exact S_X12_in_15 true I L _ h
theorem C_X12_in {g : Gx} {x0 : Int32} {x1 : Int32} {x2 : Int32} {I : MI} {L : ML} {res : Bool} (h : f_X12_in x0 x1 x2 I L = some res) : Ent g 1 0 mX12_in [.int x0, .int x1, .int x2] (I, L) (.inl (some (.int (bI res)))) (I, L) := Ent_of (by decide +kernel) (Nat.le_of_ble_eq_true rfl) (S_X12_in x0 x1 x2 I L _ h)
def f_X12_has_14 (y0 : Bool) (I : MI) (L : ML) : Option (Bool) := some y0
set_option maxRecDepth 100000 in
theorem S_X12_has_14 {g : Gx} (y0 : Bool) (I : MI) (L : ML) (res : Bool) (h : f_X12_has_14 y0 I L = some res) : E g 1 0 mX12_has 14 [] [.int (bI y0)] (I, L) (.inl (some (.int (bI res)))) (I, L) := by
  unfold f_X12_has_14 at h
  cases h
  exact E_zret (x := y0) rfl dX12_has_14
def f_X12_has (x0 : Int32) (x1 : Int32) (I : MI) (L : ML) : Option (Bool) := if ((x0 >>> (x1 &&& 31)) &&& 1) = 1 then (f_X12_has_14 true I L) else (f_X12_has_14 false I L)
set_option maxRecDepth 100000 in
theorem S_X12_has {g : Gx} (x0 : Int32) (x1 : Int32) (I : MI) (L : ML) (res : Bool) (h : f_X12_has x0 x1 I L = some res) : E g 1 0 mX12_has 0 [(0, .int x0), (1, .int x1)] [] (I, L) (.inl (some (.int (bI res)))) (I, L) := by
  unfold f_X12_has at h
  refine E_iload_n 1 rfl dX12_has_0 rfl 0 rfl ?_
  refine E_iload_n 2 rfl dX12_has_1 rfl 1 rfl ?_
  refine E_ishr 3 rfl dX12_has_2 ?_
  refine E_iconst (v := 1) 4 rfl dX12_has_3 (by decide) ?_
  refine E_iand 5 rfl dX12_has_4 ?_
  refine E_iconst (v := 1) 6 rfl dX12_has_5 (by decide) ?_
  refine E_icmp_ne 13 9 (by decide) rfl dX12_has_6 (fun c1 => ?_) (fun c1 => ?_)
  · rw [if_neg c1] at h
    refine E_iconst (v := 0) 14 rfl dX12_has_13 (by decide) ?_
    refine E_sub (lv' := []) [] rfl ?_
    exact S_X12_has_14 false I L _ h
  · rw [if_pos c1] at h
    refine E_iconst (v := 1) 10 rfl dX12_has_9 (by decide) ?_
    refine E_goto 14 (by decide) dX12_has_10 ?_
    refine E_sub (lv' := []) [] rfl ?_
    exact S_X12_has_14 true I L _ h
theorem C_X12_has {g : Gx} {x0 : Int32} {x1 : Int32} {I : MI} {L : ML} {res : Bool} (h : f_X12_has x0 x1 I L = some res) : Ent g 1 0 mX12_has [.int x0, .int x1] (I, L) (.inl (some (.int (bI res)))) (I, L) := Ent_of (by decide +kernel) (Nat.le_of_ble_eq_true rfl) (S_X12_has x0 x1 I L _ h)
def f_X12_image_7 : Nat → Int32 → MI → ML → Option (MI × ML)
  | 0, _, _, _ => none
  | n + 1, x1, I, L => if 1294 ≤ x1 then (Option.bind (pfI I 149 5 (bI true)) fun I2 => some (I2, L)) else (Option.bind (ldI I 150 2143 x1) fun v3 => Option.bind (stI I 151 1294 x1 v3) fun I4 => f_X12_image_7 n (x1 + 1) I4 L)
set_option maxRecDepth 100000 in
theorem S_X12_image_7 {g : Gx} : ∀ (n : Nat) (x1 : Int32) (I : MI) (L : ML) (res : MI × ML), f_X12_image_7 n x1 I L = some res → E g 1 0 mX12_image 7 [(0, .ref 149), (1, .int x1)] [] (I, L) (.inl none) (res.1, res.2) := by
  intro n
  induction n with
  | zero =>
    intros
    rename_i h
    cases h
  | succ n ih =>
    intro x1 I L res h
    rw [f_X12_image_7] at h
    refine E_iload_n 8 rfl dX12_image_7 rfl 1 rfl ?_
    refine E_sipush (v := 1294) 11 rfl dX12_image_8 (by decide) ?_
    refine E_icmp_ge 32 14 (by decide) rfl dX12_image_11 (fun c1 => ?_) (fun c1 => ?_)
    · rw [if_pos c1] at h
      refine E_aload_n 33 rfl dX12_image_32 rfl 0 rfl ?_
      refine E_iconst (v := 1) 34 rfl dX12_image_33 (by decide) ?_
      obtain ⟨I2, hI2, h⟩ := Option.bind_eq_some_iff.mp h
      refine E_pfB (x := true) 37 rfl dX12_image_34 shc_149 fl_X12_49 rfl hI2 ?_
      cases h
      exact E_vret rfl dX12_image_37
    · rw [if_neg c1] at h
      refine E_aload_n 15 rfl dX12_image_14 rfl 0 rfl ?_
      refine E_gR 151 18 rfl dX12_image_15 shc_149 fl_X12_17 rfl (by decide) (by decide) ?_
      refine E_iload_n 19 rfl dX12_image_18 rfl 1 rfl ?_
      refine E_aload_n 20 rfl dX12_image_19 rfl 0 rfl ?_
      refine E_gR 150 23 rfl dX12_image_20 shc_149 fl_X12_13 rfl (by decide) (by decide) ?_
      refine E_iload_n 24 rfl dX12_image_23 rfl 1 rfl ?_
      obtain ⟨v3, hv3, h⟩ := Option.bind_eq_some_iff.mp h
      refine E_ldI 25 rfl dX12_image_24 shc_150 hv3 ?_
      obtain ⟨I4, hI4, h⟩ := Option.bind_eq_some_iff.mp h
      refine E_stI 26 rfl dX12_image_25 shc_151 hI4 ?_
      refine E_iinc (j := 1) (v := x1 + 1) (lv' := [(1, .int (x1 + 1)), (0, .ref 149)]) 29 rfl dX12_image_26 rfl rfl (Nat.le_of_ble_eq_true rfl) rfl ?_
      refine E_goto 7 (by decide) dX12_image_29 ?_
      refine E_sub (lv' := [(0, .ref 149), (1, .int (x1 + 1))]) [1, 0] rfl ?_
      exact ih (x1 + 1) I4 L _ h
def f_X12_image (I : MI) (L : ML) : Option (MI × ML) := Option.bind (pfI I 149 0 0) fun I1 => f_X12_image_7 FU 0 I1 L
set_option maxRecDepth 100000 in
theorem S_X12_image {g : Gx} (I : MI) (L : ML) (res : MI × ML) (h : f_X12_image I L = some res) : E g 1 0 mX12_image 0 [(0, .ref 149)] [] (I, L) (.inl none) (res.1, res.2) := by
  unfold f_X12_image at h
  refine E_aload_n 1 rfl dX12_image_0 rfl 0 rfl ?_
  refine E_iconst (v := 0) 2 rfl dX12_image_1 (by decide) ?_
  obtain ⟨I1, hI1, h⟩ := Option.bind_eq_some_iff.mp h
  refine E_pfI 5 rfl dX12_image_2 shc_149 fl_X12_3 rfl hI1 ?_
  refine E_iconst (v := 0) 6 rfl dX12_image_5 (by decide) ?_
  refine E_istore_n (lv' := [(1, .int 0), (0, .ref 149)]) 7 rfl dX12_image_6 rfl (Nat.le_of_ble_eq_true rfl) rfl ?_
  refine E_sub (lv' := [(0, .ref 149), (1, .int 0)]) [1, 0] rfl ?_
  exact S_X12_image_7 FU 0 I1 L _ h
theorem C_X12_image {g : Gx} {I : MI} {L : ML} {res : MI × ML} (h : f_X12_image I L = some res) : Ent g 1 0 mX12_image [.ref 149] (I, L) (.inl none) (res.1, res.2) := Ent_of (by decide +kernel) (Nat.le_of_ble_eq_true rfl) (S_X12_image I L _ h)
def f_X12_back_16 : Nat → Int32 → MI → ML → Option (Bool × MI × ML)
  | 0, _, _, _ => none
  | n + 1, x1, I, L => if 1294 ≤ x1 then (Option.bind (pfI I 149 6 0) fun I2 => some (true, I2, L)) else (Option.bind (ldI I 151 1294 x1) fun v3 => Option.bind (stI I 150 2143 x1 v3) fun I4 => f_X12_back_16 n (x1 + 1) I4 L)
set_option maxRecDepth 100000 in
theorem S_X12_back_16 {g : Gx} : ∀ (n : Nat) (x1 : Int32) (I : MI) (L : ML) (res : Bool × MI × ML), f_X12_back_16 n x1 I L = some res → E g 1 0 mX12_back 16 [(0, .ref 149), (1, .int x1)] [] (I, L) (.inl (some (.int (bI res.1)))) (res.2.1, res.2.2) := by
  intro n
  induction n with
  | zero =>
    intros
    rename_i h
    cases h
  | succ n ih =>
    intro x1 I L res h
    rw [f_X12_back_16] at h
    refine E_iload_n 17 rfl dX12_back_16 rfl 1 rfl ?_
    refine E_sipush (v := 1294) 20 rfl dX12_back_17 (by decide) ?_
    refine E_icmp_ge 41 23 (by decide) rfl dX12_back_20 (fun c1 => ?_) (fun c1 => ?_)
    · rw [if_pos c1] at h
      refine E_aload_n 42 rfl dX12_back_41 rfl 0 rfl ?_
      refine E_iconst (v := 0) 43 rfl dX12_back_42 (by decide) ?_
      obtain ⟨I2, hI2, h⟩ := Option.bind_eq_some_iff.mp h
      refine E_pfI 46 rfl dX12_back_43 shc_149 fl_X12_53 rfl hI2 ?_
      refine E_iconst (v := 1) 47 rfl dX12_back_46 (by decide) ?_
      cases h
      exact E_zret (x := true) rfl dX12_back_47
    · rw [if_neg c1] at h
      refine E_aload_n 24 rfl dX12_back_23 rfl 0 rfl ?_
      refine E_gR 150 27 rfl dX12_back_24 shc_149 fl_X12_13 rfl (by decide) (by decide) ?_
      refine E_iload_n 28 rfl dX12_back_27 rfl 1 rfl ?_
      refine E_aload_n 29 rfl dX12_back_28 rfl 0 rfl ?_
      refine E_gR 151 32 rfl dX12_back_29 shc_149 fl_X12_17 rfl (by decide) (by decide) ?_
      refine E_iload_n 33 rfl dX12_back_32 rfl 1 rfl ?_
      obtain ⟨v3, hv3, h⟩ := Option.bind_eq_some_iff.mp h
      refine E_ldI 34 rfl dX12_back_33 shc_151 hv3 ?_
      obtain ⟨I4, hI4, h⟩ := Option.bind_eq_some_iff.mp h
      refine E_stI 35 rfl dX12_back_34 shc_150 hI4 ?_
      refine E_iinc (j := 1) (v := x1 + 1) (lv' := [(1, .int (x1 + 1)), (0, .ref 149)]) 38 rfl dX12_back_35 rfl rfl (Nat.le_of_ble_eq_true rfl) rfl ?_
      refine E_goto 16 (by decide) dX12_back_38 ?_
      refine E_sub (lv' := [(0, .ref 149), (1, .int (x1 + 1))]) [1, 0] rfl ?_
      exact ih (x1 + 1) I4 L _ h
def f_X12_back (I : MI) (L : ML) : Option (Bool × MI × ML) := Option.bind (pfI I 149 0 0) fun I1 => if (I1 149 5 != 0) = true then (f_X12_back_16 FU 0 I1 L) else (some (false, I1, L))
set_option maxRecDepth 100000 in
theorem S_X12_back {g : Gx} (I : MI) (L : ML) (res : Bool × MI × ML) (h : f_X12_back I L = some res) : E g 1 0 mX12_back 0 [(0, .ref 149)] [] (I, L) (.inl (some (.int (bI res.1)))) (res.2.1, res.2.2) := by
  unfold f_X12_back at h
  refine E_aload_n 1 rfl dX12_back_0 rfl 0 rfl ?_
  refine E_iconst (v := 0) 2 rfl dX12_back_1 (by decide) ?_
  obtain ⟨I1, hI1, h⟩ := Option.bind_eq_some_iff.mp h
  refine E_pfI 5 rfl dX12_back_2 shc_149 fl_X12_3 rfl hI1 ?_
  refine E_aload_n 6 rfl dX12_back_5 rfl 0 rfl ?_
  refine E_gB 9 rfl dX12_back_6 shc_149 fl_X12_49 rfl ?_
  refine E_if_neB 14 12 (by decide) rfl dX12_back_9 (fun c2 => ?_) (fun c2 => ?_)
  · rw [if_pos c2] at h
    refine E_iconst (v := 0) 15 rfl dX12_back_14 (by decide) ?_
    refine E_istore_n (lv' := [(1, .int 0), (0, .ref 149)]) 16 rfl dX12_back_15 rfl (Nat.le_of_ble_eq_true rfl) rfl ?_
    refine E_sub (lv' := [(0, .ref 149), (1, .int 0)]) [1, 0] rfl ?_
    exact S_X12_back_16 FU 0 I1 L _ h
  · rw [if_neg (by rw [c2]; decide)] at h
    refine E_iconst (v := 0) 13 rfl dX12_back_12 (by decide) ?_
    cases h
    exact E_zret (x := false) rfl dX12_back_13
theorem C_X12_back {g : Gx} {I : MI} {L : ML} {res : Bool × MI × ML} (h : f_X12_back I L = some res) : Ent g 1 0 mX12_back [.ref 149] (I, L) (.inl (some (.int (bI res.1)))) (res.2.1, res.2.2) := Ent_of (by decide +kernel) (Nat.le_of_ble_eq_true rfl) (S_X12_back I L _ h)
def f_X12_remembers_55 : Nat → Int32 → MI → ML → Option (MI × ML)
  | 0, _, _, _ => none
  | n + 1, x1, I, L => if 445 ≤ x1 then (some (I, L)) else (Option.bind (ldI I 150 2143 x1) fun v2 => Option.bind (stI I 153 5340 ((445 * ((I 149 6) - 1)) + x1) v2) fun I3 => f_X12_remembers_55 n (x1 + 1) I3 L)
set_option maxRecDepth 100000 in
theorem S_X12_remembers_55 {g : Gx} : ∀ (n : Nat) (x1 : Int32) (I : MI) (L : ML) (res : MI × ML), f_X12_remembers_55 n x1 I L = some res → E g 1 0 mX12_remembers 55 [(0, .ref 149), (1, .int x1)] [] (I, L) (.inl none) (res.1, res.2) := by
  intro n
  induction n with
  | zero =>
    intros
    rename_i h
    cases h
  | succ n ih =>
    intro x1 I L res h
    rw [f_X12_remembers_55] at h
    refine E_iload_n 56 rfl dX12_remembers_55 rfl 1 rfl ?_
    refine E_sipush (v := 445) 59 rfl dX12_remembers_56 (by decide) ?_
    refine E_icmp_ge 91 62 (by decide) rfl dX12_remembers_59 (fun c1 => ?_) (fun c1 => ?_)
    · rw [if_pos c1] at h
      cases h
      exact E_vret rfl dX12_remembers_91
    · rw [if_neg c1] at h
      refine E_aload_n 63 rfl dX12_remembers_62 rfl 0 rfl ?_
      refine E_gR 153 66 rfl dX12_remembers_63 shc_149 fl_X12_23 rfl (by decide) (by decide) ?_
      refine E_sipush (v := 445) 69 rfl dX12_remembers_66 (by decide) ?_
      refine E_aload_n 70 rfl dX12_remembers_69 rfl 0 rfl ?_
      refine E_gI 73 rfl dX12_remembers_70 shc_149 fl_X12_53 rfl ?_
      refine E_iconst (v := 1) 74 rfl dX12_remembers_73 (by decide) ?_
      refine E_isub 75 rfl dX12_remembers_74 ?_
      refine E_imul 76 rfl dX12_remembers_75 ?_
      refine E_iload_n 77 rfl dX12_remembers_76 rfl 1 rfl ?_
      refine E_iadd 78 rfl dX12_remembers_77 ?_
      refine E_aload_n 79 rfl dX12_remembers_78 rfl 0 rfl ?_
      refine E_gR 150 82 rfl dX12_remembers_79 shc_149 fl_X12_13 rfl (by decide) (by decide) ?_
      refine E_iload_n 83 rfl dX12_remembers_82 rfl 1 rfl ?_
      obtain ⟨v2, hv2, h⟩ := Option.bind_eq_some_iff.mp h
      refine E_ldI 84 rfl dX12_remembers_83 shc_150 hv2 ?_
      obtain ⟨I3, hI3, h⟩ := Option.bind_eq_some_iff.mp h
      refine E_stI 85 rfl dX12_remembers_84 shc_153 hI3 ?_
      refine E_iinc (j := 1) (v := x1 + 1) (lv' := [(1, .int (x1 + 1)), (0, .ref 149)]) 88 rfl dX12_remembers_85 rfl rfl (Nat.le_of_ble_eq_true rfl) rfl ?_
      refine E_goto 55 (by decide) dX12_remembers_88 ?_
      refine E_sub (lv' := [(0, .ref 149), (1, .int (x1 + 1))]) [1, 0] rfl ?_
      exact ih (x1 + 1) I3 L _ h
def f_X12_remembers_53 (I : MI) (L : ML) : Option (MI × ML) := f_X12_remembers_55 FU 0 I L
set_option maxRecDepth 100000 in
theorem S_X12_remembers_53 {g : Gx} (I : MI) (L : ML) (res : MI × ML) (h : f_X12_remembers_53 I L = some res) : E g 1 0 mX12_remembers 53 [(0, .ref 149)] [] (I, L) (.inl none) (res.1, res.2) := by
  unfold f_X12_remembers_53 at h
  refine E_iconst (v := 0) 54 rfl dX12_remembers_53 (by decide) ?_
  refine E_istore_n (lv' := [(1, .int 0), (0, .ref 149)]) 55 rfl dX12_remembers_54 rfl (Nat.le_of_ble_eq_true rfl) rfl ?_
  refine E_sub (lv' := [(0, .ref 149), (1, .int 0)]) [1, 0] rfl ?_
  exact S_X12_remembers_55 FU 0 I L _ h
def f_X12_remembers_11 : Nat → Int32 → MI → ML → Option (MI × ML)
  | 0, _, _, _ => none
  | n + 1, x1, I, L => if 4895 ≤ x1 then (f_X12_remembers_53 I L) else (Option.bind (ldI I 153 5340 (x1 + 445)) fun v2 => Option.bind (stI I 153 5340 x1 v2) fun I3 => f_X12_remembers_11 n (x1 + 1) I3 L)
set_option maxRecDepth 100000 in
theorem S_X12_remembers_11 {g : Gx} : ∀ (n : Nat) (x1 : Int32) (I : MI) (L : ML) (res : MI × ML), f_X12_remembers_11 n x1 I L = some res → E g 1 0 mX12_remembers 11 [(0, .ref 149), (1, .int x1)] [] (I, L) (.inl none) (res.1, res.2) := by
  intro n
  induction n with
  | zero =>
    intros
    rename_i h
    cases h
  | succ n ih =>
    intro x1 I L res h
    rw [f_X12_remembers_11] at h
    refine E_iload_n 12 rfl dX12_remembers_11 rfl 1 rfl ?_
    refine E_sipush (v := 4895) 15 rfl dX12_remembers_12 (by decide) ?_
    refine E_icmp_ge 40 18 (by decide) rfl dX12_remembers_15 (fun c1 => ?_) (fun c1 => ?_)
    · rw [if_pos c1] at h
      refine E_goto 53 (by decide) dX12_remembers_40 ?_
      refine E_sub (lv' := [(0, .ref 149)]) [0] rfl ?_
      exact S_X12_remembers_53 I L _ h
    · rw [if_neg c1] at h
      refine E_aload_n 19 rfl dX12_remembers_18 rfl 0 rfl ?_
      refine E_gR 153 22 rfl dX12_remembers_19 shc_149 fl_X12_23 rfl (by decide) (by decide) ?_
      refine E_iload_n 23 rfl dX12_remembers_22 rfl 1 rfl ?_
      refine E_aload_n 24 rfl dX12_remembers_23 rfl 0 rfl ?_
      refine E_gR 153 27 rfl dX12_remembers_24 shc_149 fl_X12_23 rfl (by decide) (by decide) ?_
      refine E_iload_n 28 rfl dX12_remembers_27 rfl 1 rfl ?_
      refine E_sipush (v := 445) 31 rfl dX12_remembers_28 (by decide) ?_
      refine E_iadd 32 rfl dX12_remembers_31 ?_
      obtain ⟨v2, hv2, h⟩ := Option.bind_eq_some_iff.mp h
      refine E_ldI 33 rfl dX12_remembers_32 shc_153 hv2 ?_
      obtain ⟨I3, hI3, h⟩ := Option.bind_eq_some_iff.mp h
      refine E_stI 34 rfl dX12_remembers_33 shc_153 hI3 ?_
      refine E_iinc (j := 1) (v := x1 + 1) (lv' := [(1, .int (x1 + 1)), (0, .ref 149)]) 37 rfl dX12_remembers_34 rfl rfl (Nat.le_of_ble_eq_true rfl) rfl ?_
      refine E_goto 11 (by decide) dX12_remembers_37 ?_
      refine E_sub (lv' := [(0, .ref 149), (1, .int (x1 + 1))]) [1, 0] rfl ?_
      exact ih (x1 + 1) I3 L _ h
def f_X12_remembers (I : MI) (L : ML) : Option (MI × ML) := if (I 149 6) = 12 then (f_X12_remembers_11 FU 0 I L) else (Option.bind (pfI I 149 6 ((I 149 6) + 1)) fun I2 => f_X12_remembers_53 I2 L)
set_option maxRecDepth 100000 in
theorem S_X12_remembers {g : Gx} (I : MI) (L : ML) (res : MI × ML) (h : f_X12_remembers I L = some res) : E g 1 0 mX12_remembers 0 [(0, .ref 149)] [] (I, L) (.inl none) (res.1, res.2) := by
  unfold f_X12_remembers at h
  refine E_aload_n 1 rfl dX12_remembers_0 rfl 0 rfl ?_
  refine E_gI 4 rfl dX12_remembers_1 shc_149 fl_X12_53 rfl ?_
  refine E_bipush (v := 12) 6 rfl dX12_remembers_4 (by decide) ?_
  refine E_icmp_ne 43 9 (by decide) rfl dX12_remembers_6 (fun c1 => ?_) (fun c1 => ?_)
  · rw [if_neg c1] at h
    refine E_aload_n 44 rfl dX12_remembers_43 rfl 0 rfl ?_
    refine E_dup 45 rfl dX12_remembers_44 rfl ?_
    refine E_gI 48 rfl dX12_remembers_45 shc_149 fl_X12_53 rfl ?_
    refine E_iconst (v := 1) 49 rfl dX12_remembers_48 (by decide) ?_
    refine E_iadd 50 rfl dX12_remembers_49 ?_
    obtain ⟨I2, hI2, h⟩ := Option.bind_eq_some_iff.mp h
    refine E_pfI 53 rfl dX12_remembers_50 shc_149 fl_X12_53 rfl hI2 ?_
    refine E_sub (lv' := [(0, .ref 149)]) [0] rfl ?_
    exact S_X12_remembers_53 I2 L _ h
  · rw [if_pos c1] at h
    refine E_iconst (v := 0) 10 rfl dX12_remembers_9 (by decide) ?_
    refine E_istore_n (lv' := [(1, .int 0), (0, .ref 149)]) 11 rfl dX12_remembers_10 rfl (Nat.le_of_ble_eq_true rfl) rfl ?_
    refine E_sub (lv' := [(0, .ref 149), (1, .int 0)]) [1, 0] rfl ?_
    exact S_X12_remembers_11 FU 0 I L _ h
theorem C_X12_remembers {g : Gx} {I : MI} {L : ML} {res : MI × ML} (h : f_X12_remembers I L = some res) : Ent g 1 0 mX12_remembers [.ref 149] (I, L) (.inl none) (res.1, res.2) := Ent_of (by decide +kernel) (Nat.le_of_ble_eq_true rfl) (S_X12_remembers I L _ h)
def f_X12_undo_26 : Nat → Int32 → MI → ML → Option (Bool × MI × ML)
  | 0, _, _, _ => none
  | n + 1, x1, I, L => if 445 ≤ x1 then (some (true, I, L)) else (Option.bind (ldI I 153 5340 ((445 * (I 149 6)) + x1)) fun v2 => Option.bind (stI I 150 2143 x1 v2) fun I3 => f_X12_undo_26 n (x1 + 1) I3 L)
set_option maxRecDepth 100000 in
theorem S_X12_undo_26 {g : Gx} : ∀ (n : Nat) (x1 : Int32) (I : MI) (L : ML) (res : Bool × MI × ML), f_X12_undo_26 n x1 I L = some res → E g 1 0 mX12_undo 26 [(0, .ref 149), (1, .int x1)] [] (I, L) (.inl (some (.int (bI res.1)))) (res.2.1, res.2.2) := by
  intro n
  induction n with
  | zero =>
    intros
    rename_i h
    cases h
  | succ n ih =>
    intro x1 I L res h
    rw [f_X12_undo_26] at h
    refine E_iload_n 27 rfl dX12_undo_26 rfl 1 rfl ?_
    refine E_sipush (v := 445) 30 rfl dX12_undo_27 (by decide) ?_
    refine E_icmp_ge 60 33 (by decide) rfl dX12_undo_30 (fun c1 => ?_) (fun c1 => ?_)
    · rw [if_pos c1] at h
      refine E_iconst (v := 1) 61 rfl dX12_undo_60 (by decide) ?_
      cases h
      exact E_zret (x := true) rfl dX12_undo_61
    · rw [if_neg c1] at h
      refine E_aload_n 34 rfl dX12_undo_33 rfl 0 rfl ?_
      refine E_gR 150 37 rfl dX12_undo_34 shc_149 fl_X12_13 rfl (by decide) (by decide) ?_
      refine E_iload_n 38 rfl dX12_undo_37 rfl 1 rfl ?_
      refine E_aload_n 39 rfl dX12_undo_38 rfl 0 rfl ?_
      refine E_gR 153 42 rfl dX12_undo_39 shc_149 fl_X12_23 rfl (by decide) (by decide) ?_
      refine E_sipush (v := 445) 45 rfl dX12_undo_42 (by decide) ?_
      refine E_aload_n 46 rfl dX12_undo_45 rfl 0 rfl ?_
      refine E_gI 49 rfl dX12_undo_46 shc_149 fl_X12_53 rfl ?_
      refine E_imul 50 rfl dX12_undo_49 ?_
      refine E_iload_n 51 rfl dX12_undo_50 rfl 1 rfl ?_
      refine E_iadd 52 rfl dX12_undo_51 ?_
      obtain ⟨v2, hv2, h⟩ := Option.bind_eq_some_iff.mp h
      refine E_ldI 53 rfl dX12_undo_52 shc_153 hv2 ?_
      obtain ⟨I3, hI3, h⟩ := Option.bind_eq_some_iff.mp h
      refine E_stI 54 rfl dX12_undo_53 shc_150 hI3 ?_
      refine E_iinc (j := 1) (v := x1 + 1) (lv' := [(1, .int (x1 + 1)), (0, .ref 149)]) 57 rfl dX12_undo_54 rfl rfl (Nat.le_of_ble_eq_true rfl) rfl ?_
      refine E_goto 26 (by decide) dX12_undo_57 ?_
      refine E_sub (lv' := [(0, .ref 149), (1, .int (x1 + 1))]) [1, 0] rfl ?_
      exact ih (x1 + 1) I3 L _ h
def f_X12_undo (I : MI) (L : ML) : Option (Bool × MI × ML) := Option.bind (pfI I 149 0 0) fun I1 => if (I1 149 6) = 0 then (some (false, I1, L)) else (Option.bind (pfI I1 149 6 ((I1 149 6) - 1)) fun I3 => f_X12_undo_26 FU 0 I3 L)
set_option maxRecDepth 100000 in
theorem S_X12_undo {g : Gx} (I : MI) (L : ML) (res : Bool × MI × ML) (h : f_X12_undo I L = some res) : E g 1 0 mX12_undo 0 [(0, .ref 149)] [] (I, L) (.inl (some (.int (bI res.1)))) (res.2.1, res.2.2) := by
  unfold f_X12_undo at h
  refine E_aload_n 1 rfl dX12_undo_0 rfl 0 rfl ?_
  refine E_iconst (v := 0) 2 rfl dX12_undo_1 (by decide) ?_
  obtain ⟨I1, hI1, h⟩ := Option.bind_eq_some_iff.mp h
  refine E_pfI 5 rfl dX12_undo_2 shc_149 fl_X12_3 rfl hI1 ?_
  refine E_aload_n 6 rfl dX12_undo_5 rfl 0 rfl ?_
  refine E_gI 9 rfl dX12_undo_6 shc_149 fl_X12_53 rfl ?_
  refine E_if_ne 14 12 (by decide) rfl dX12_undo_9 (fun c2 => ?_) (fun c2 => ?_)
  · rw [if_neg c2] at h
    refine E_aload_n 15 rfl dX12_undo_14 rfl 0 rfl ?_
    refine E_dup 16 rfl dX12_undo_15 rfl ?_
    refine E_gI 19 rfl dX12_undo_16 shc_149 fl_X12_53 rfl ?_
    refine E_iconst (v := 1) 20 rfl dX12_undo_19 (by decide) ?_
    refine E_isub 21 rfl dX12_undo_20 ?_
    obtain ⟨I3, hI3, h⟩ := Option.bind_eq_some_iff.mp h
    refine E_pfI 24 rfl dX12_undo_21 shc_149 fl_X12_53 rfl hI3 ?_
    refine E_iconst (v := 0) 25 rfl dX12_undo_24 (by decide) ?_
    refine E_istore_n (lv' := [(1, .int 0), (0, .ref 149)]) 26 rfl dX12_undo_25 rfl (Nat.le_of_ble_eq_true rfl) rfl ?_
    refine E_sub (lv' := [(0, .ref 149), (1, .int 0)]) [1, 0] rfl ?_
    exact S_X12_undo_26 FU 0 I3 L _ h
  · rw [if_pos c2] at h
    refine E_iconst (v := 0) 13 rfl dX12_undo_12 (by decide) ?_
    cases h
    exact E_zret (x := false) rfl dX12_undo_13
theorem C_X12_undo {g : Gx} {I : MI} {L : ML} {res : Bool × MI × ML} (h : f_X12_undo I L = some res) : Ent g 1 0 mX12_undo [.ref 149] (I, L) (.inl (some (.int (bI res.1)))) (res.2.1, res.2.2) := Ent_of (by decide +kernel) (Nat.le_of_ble_eq_true rfl) (S_X12_undo I L _ h)
def f_X12_rooms (I : MI) (L : ML) : Option (Int32) := Option.bind (ldI I 150 2143 0) fun v1 => some v1
set_option maxRecDepth 100000 in
theorem S_X12_rooms {g : Gx} (I : MI) (L : ML) (res : Int32) (h : f_X12_rooms I L = some res) : E g 1 0 mX12_rooms 0 [(0, .ref 149)] [] (I, L) (.inl (some (.int res))) (I, L) := by
  unfold f_X12_rooms at h
  refine E_aload_n 1 rfl dX12_rooms_0 rfl 0 rfl ?_
  refine E_gR 150 4 rfl dX12_rooms_1 shc_149 fl_X12_13 rfl (by decide) (by decide) ?_
  refine E_iconst (v := 0) 5 rfl dX12_rooms_4 (by decide) ?_
  obtain ⟨v1, hv1, h⟩ := Option.bind_eq_some_iff.mp h
  refine E_ldI 6 rfl dX12_rooms_5 shc_150 hv1 ?_
  cases h
  exact E_iret rfl dX12_rooms_6
theorem C_X12_rooms {g : Gx} {I : MI} {L : ML} {res : Int32} (h : f_X12_rooms I L = some res) : Ent g 1 0 mX12_rooms [.ref 149] (I, L) (.inl (some (.int res))) (I, L) := Ent_of (by decide +kernel) (Nat.le_of_ble_eq_true rfl) (S_X12_rooms I L _ h)
def f_X12_heirs (I : MI) (L : ML) : Option (Int32) := Option.bind (ldI I 150 2143 2) fun v1 => some v1
set_option maxRecDepth 100000 in
theorem S_X12_heirs {g : Gx} (I : MI) (L : ML) (res : Int32) (h : f_X12_heirs I L = some res) : E g 1 0 mX12_heirs 0 [(0, .ref 149)] [] (I, L) (.inl (some (.int res))) (I, L) := by
  unfold f_X12_heirs at h
  refine E_aload_n 1 rfl dX12_heirs_0 rfl 0 rfl ?_
  refine E_gR 150 4 rfl dX12_heirs_1 shc_149 fl_X12_13 rfl (by decide) (by decide) ?_
  refine E_iconst (v := 2) 5 rfl dX12_heirs_4 (by decide) ?_
  obtain ⟨v1, hv1, h⟩ := Option.bind_eq_some_iff.mp h
  refine E_ldI 6 rfl dX12_heirs_5 shc_150 hv1 ?_
  cases h
  exact E_iret rfl dX12_heirs_6
theorem C_X12_heirs {g : Gx} {I : MI} {L : ML} {res : Int32} (h : f_X12_heirs I L = some res) : Ent g 1 0 mX12_heirs [.ref 149] (I, L) (.inl (some (.int res))) (I, L) := Ent_of (by decide +kernel) (Nat.le_of_ble_eq_true rfl) (S_X12_heirs I L _ h)
def f_X12_noises (I : MI) (L : ML) : Option (Int32) := Option.bind (ldI I 150 2143 3) fun v1 => some v1
set_option maxRecDepth 100000 in
theorem S_X12_noises {g : Gx} (I : MI) (L : ML) (res : Int32) (h : f_X12_noises I L = some res) : E g 1 0 mX12_noises 0 [(0, .ref 149)] [] (I, L) (.inl (some (.int res))) (I, L) := by
  unfold f_X12_noises at h
  refine E_aload_n 1 rfl dX12_noises_0 rfl 0 rfl ?_
  refine E_gR 150 4 rfl dX12_noises_1 shc_149 fl_X12_13 rfl (by decide) (by decide) ?_
  refine E_iconst (v := 3) 5 rfl dX12_noises_4 (by decide) ?_
  obtain ⟨v1, hv1, h⟩ := Option.bind_eq_some_iff.mp h
  refine E_ldI 6 rfl dX12_noises_5 shc_150 hv1 ?_
  cases h
  exact E_iret rfl dX12_noises_6
theorem C_X12_noises {g : Gx} {I : MI} {L : ML} {res : Int32} (h : f_X12_noises I L = some res) : Ent g 1 0 mX12_noises [.ref 149] (I, L) (.inl (some (.int res))) (I, L) := Ent_of (by decide +kernel) (Nat.le_of_ble_eq_true rfl) (S_X12_noises I L _ h)
def f_X12_ofDoor (x1 : Int32) (x2 : Int32) (I : MI) (L : ML) : Option (Int32) := Option.bind (ldI I 150 2143 ((25 + (3 * x1)) + x2)) fun v1 => some v1
set_option maxRecDepth 100000 in
theorem S_X12_ofDoor {g : Gx} (x1 : Int32) (x2 : Int32) (I : MI) (L : ML) (res : Int32) (h : f_X12_ofDoor x1 x2 I L = some res) : E g 1 0 mX12_ofDoor 0 [(0, .ref 149), (1, .int x1), (2, .int x2)] [] (I, L) (.inl (some (.int res))) (I, L) := by
  unfold f_X12_ofDoor at h
  refine E_aload_n 1 rfl dX12_ofDoor_0 rfl 0 rfl ?_
  refine E_gR 150 4 rfl dX12_ofDoor_1 shc_149 fl_X12_13 rfl (by decide) (by decide) ?_
  refine E_bipush (v := 25) 6 rfl dX12_ofDoor_4 (by decide) ?_
  refine E_iconst (v := 3) 7 rfl dX12_ofDoor_6 (by decide) ?_
  refine E_iload_n 8 rfl dX12_ofDoor_7 rfl 1 rfl ?_
  refine E_imul 9 rfl dX12_ofDoor_8 ?_
  refine E_iadd 10 rfl dX12_ofDoor_9 ?_
  refine E_iload_n 11 rfl dX12_ofDoor_10 rfl 2 rfl ?_
  refine E_iadd 12 rfl dX12_ofDoor_11 ?_
  obtain ⟨v1, hv1, h⟩ := Option.bind_eq_some_iff.mp h
  refine E_ldI 13 rfl dX12_ofDoor_12 shc_150 hv1 ?_
  cases h
  exact E_iret rfl dX12_ofDoor_13
theorem C_X12_ofDoor {g : Gx} {x1 : Int32} {x2 : Int32} {I : MI} {L : ML} {res : Int32} (h : f_X12_ofDoor x1 x2 I L = some res) : Ent g 1 0 mX12_ofDoor [.ref 149, .int x1, .int x2] (I, L) (.inl (some (.int res))) (I, L) := Ent_of (by decide +kernel) (Nat.le_of_ble_eq_true rfl) (S_X12_ofDoor x1 x2 I L _ h)
def f_X12_ofHeir (x1 : Int32) (x2 : Int32) (I : MI) (L : ML) : Option (Int32) := Option.bind (ldI I 150 2143 ((67 + (3 * x1)) + x2)) fun v1 => some v1
set_option maxRecDepth 100000 in
theorem S_X12_ofHeir {g : Gx} (x1 : Int32) (x2 : Int32) (I : MI) (L : ML) (res : Int32) (h : f_X12_ofHeir x1 x2 I L = some res) : E g 1 0 mX12_ofHeir 0 [(0, .ref 149), (1, .int x1), (2, .int x2)] [] (I, L) (.inl (some (.int res))) (I, L) := by
  unfold f_X12_ofHeir at h
  refine E_aload_n 1 rfl dX12_ofHeir_0 rfl 0 rfl ?_
  refine E_gR 150 4 rfl dX12_ofHeir_1 shc_149 fl_X12_13 rfl (by decide) (by decide) ?_
  refine E_bipush (v := 67) 6 rfl dX12_ofHeir_4 (by decide) ?_
  refine E_iconst (v := 3) 7 rfl dX12_ofHeir_6 (by decide) ?_
  refine E_iload_n 8 rfl dX12_ofHeir_7 rfl 1 rfl ?_
  refine E_imul 9 rfl dX12_ofHeir_8 ?_
  refine E_iadd 10 rfl dX12_ofHeir_9 ?_
  refine E_iload_n 11 rfl dX12_ofHeir_10 rfl 2 rfl ?_
  refine E_iadd 12 rfl dX12_ofHeir_11 ?_
  obtain ⟨v1, hv1, h⟩ := Option.bind_eq_some_iff.mp h
  refine E_ldI 13 rfl dX12_ofHeir_12 shc_150 hv1 ?_
  cases h
  exact E_iret rfl dX12_ofHeir_13
theorem C_X12_ofHeir {g : Gx} {x1 : Int32} {x2 : Int32} {I : MI} {L : ML} {res : Int32} (h : f_X12_ofHeir x1 x2 I L = some res) : Ent g 1 0 mX12_ofHeir [.ref 149, .int x1, .int x2] (I, L) (.inl (some (.int res))) (I, L) := Ent_of (by decide +kernel) (Nat.le_of_ble_eq_true rfl) (S_X12_ofHeir x1 x2 I L _ h)
def f_X12_setsHeir (x1 : Int32) (x2 : Int32) (x3 : Int32) (I : MI) (L : ML) : Option (MI × ML) := Option.bind (stI I 150 2143 ((67 + (3 * x1)) + x2) x3) fun I1 => some (I1, L)
set_option maxRecDepth 100000 in
theorem S_X12_setsHeir {g : Gx} (x1 : Int32) (x2 : Int32) (x3 : Int32) (I : MI) (L : ML) (res : MI × ML) (h : f_X12_setsHeir x1 x2 x3 I L = some res) : E g 1 0 mX12_setsHeir 0 [(0, .ref 149), (1, .int x1), (2, .int x2), (3, .int x3)] [] (I, L) (.inl none) (res.1, res.2) := by
  unfold f_X12_setsHeir at h
  refine E_aload_n 1 rfl dX12_setsHeir_0 rfl 0 rfl ?_
  refine E_gR 150 4 rfl dX12_setsHeir_1 shc_149 fl_X12_13 rfl (by decide) (by decide) ?_
  refine E_bipush (v := 67) 6 rfl dX12_setsHeir_4 (by decide) ?_
  refine E_iconst (v := 3) 7 rfl dX12_setsHeir_6 (by decide) ?_
  refine E_iload_n 8 rfl dX12_setsHeir_7 rfl 1 rfl ?_
  refine E_imul 9 rfl dX12_setsHeir_8 ?_
  refine E_iadd 10 rfl dX12_setsHeir_9 ?_
  refine E_iload_n 11 rfl dX12_setsHeir_10 rfl 2 rfl ?_
  refine E_iadd 12 rfl dX12_setsHeir_11 ?_
  refine E_iload_n 13 rfl dX12_setsHeir_12 rfl 3 rfl ?_
  obtain ⟨I1, hI1, h⟩ := Option.bind_eq_some_iff.mp h
  refine E_stI 14 rfl dX12_setsHeir_13 shc_150 hI1 ?_
  cases h
  exact E_vret rfl dX12_setsHeir_14
theorem C_X12_setsHeir {g : Gx} {x1 : Int32} {x2 : Int32} {x3 : Int32} {I : MI} {L : ML} {res : MI × ML} (h : f_X12_setsHeir x1 x2 x3 I L = some res) : Ent g 1 0 mX12_setsHeir [.ref 149, .int x1, .int x2, .int x3] (I, L) (.inl none) (res.1, res.2) := Ent_of (by decide +kernel) (Nat.le_of_ble_eq_true rfl) (S_X12_setsHeir x1 x2 x3 I L _ h)
def f_X12_of (x1 : Int32) (x2 : Int32) (I : MI) (L : ML) : Option (Int32) := Option.bind (ldI I 150 2143 ((85 + (10 * x1)) + x2)) fun v1 => some v1
set_option maxRecDepth 100000 in
theorem S_X12_of {g : Gx} (x1 : Int32) (x2 : Int32) (I : MI) (L : ML) (res : Int32) (h : f_X12_of x1 x2 I L = some res) : E g 1 0 mX12_of 0 [(0, .ref 149), (1, .int x1), (2, .int x2)] [] (I, L) (.inl (some (.int res))) (I, L) := by
  unfold f_X12_of at h
  refine E_aload_n 1 rfl dX12_of_0 rfl 0 rfl ?_
  refine E_gR 150 4 rfl dX12_of_1 shc_149 fl_X12_13 rfl (by decide) (by decide) ?_
  refine E_bipush (v := 85) 6 rfl dX12_of_4 (by decide) ?_
  refine E_bipush (v := 10) 8 rfl dX12_of_6 (by decide) ?_
  refine E_iload_n 9 rfl dX12_of_8 rfl 1 rfl ?_
  refine E_imul 10 rfl dX12_of_9 ?_
  refine E_iadd 11 rfl dX12_of_10 ?_
  refine E_iload_n 12 rfl dX12_of_11 rfl 2 rfl ?_
  refine E_iadd 13 rfl dX12_of_12 ?_
  obtain ⟨v1, hv1, h⟩ := Option.bind_eq_some_iff.mp h
  refine E_ldI 14 rfl dX12_of_13 shc_150 hv1 ?_
  cases h
  exact E_iret rfl dX12_of_14
theorem C_X12_of {g : Gx} {x1 : Int32} {x2 : Int32} {I : MI} {L : ML} {res : Int32} (h : f_X12_of x1 x2 I L = some res) : Ent g 1 0 mX12_of [.ref 149, .int x1, .int x2] (I, L) (.inl (some (.int res))) (I, L) := Ent_of (by decide +kernel) (Nat.le_of_ble_eq_true rfl) (S_X12_of x1 x2 I L _ h)
def f_X12_sets (x1 : Int32) (x2 : Int32) (x3 : Int32) (I : MI) (L : ML) : Option (MI × ML) := Option.bind (stI I 150 2143 ((85 + (10 * x1)) + x2) x3) fun I1 => some (I1, L)
set_option maxRecDepth 100000 in
theorem S_X12_sets {g : Gx} (x1 : Int32) (x2 : Int32) (x3 : Int32) (I : MI) (L : ML) (res : MI × ML) (h : f_X12_sets x1 x2 x3 I L = some res) : E g 1 0 mX12_sets 0 [(0, .ref 149), (1, .int x1), (2, .int x2), (3, .int x3)] [] (I, L) (.inl none) (res.1, res.2) := by
  unfold f_X12_sets at h
  refine E_aload_n 1 rfl dX12_sets_0 rfl 0 rfl ?_
  refine E_gR 150 4 rfl dX12_sets_1 shc_149 fl_X12_13 rfl (by decide) (by decide) ?_
  refine E_bipush (v := 85) 6 rfl dX12_sets_4 (by decide) ?_
  refine E_bipush (v := 10) 8 rfl dX12_sets_6 (by decide) ?_
  refine E_iload_n 9 rfl dX12_sets_8 rfl 1 rfl ?_
  refine E_imul 10 rfl dX12_sets_9 ?_
  refine E_iadd 11 rfl dX12_sets_10 ?_
  refine E_iload_n 12 rfl dX12_sets_11 rfl 2 rfl ?_
  refine E_iadd 13 rfl dX12_sets_12 ?_
  refine E_iload_n 14 rfl dX12_sets_13 rfl 3 rfl ?_
  obtain ⟨I1, hI1, h⟩ := Option.bind_eq_some_iff.mp h
  refine E_stI 15 rfl dX12_sets_14 shc_150 hI1 ?_
  cases h
  exact E_vret rfl dX12_sets_15
theorem C_X12_sets {g : Gx} {x1 : Int32} {x2 : Int32} {x3 : Int32} {I : MI} {L : ML} {res : MI × ML} (h : f_X12_sets x1 x2 x3 I L = some res) : Ent g 1 0 mX12_sets [.ref 149, .int x1, .int x2, .int x3] (I, L) (.inl none) (res.1, res.2) := Ent_of (by decide +kernel) (Nat.le_of_ble_eq_true rfl) (S_X12_sets x1 x2 x3 I L _ h)
def f_X12_noRoom_19 (y0 : Bool) (I : MI) (L : ML) : Option (Bool) := some y0
set_option maxRecDepth 100000 in
theorem S_X12_noRoom_19 {g : Gx} (y0 : Bool) (I : MI) (L : ML) (res : Bool) (h : f_X12_noRoom_19 y0 I L = some res) : E g 2 0 mX12_noRoom 19 [] [.int (bI y0)] (I, L) (.inl (some (.int (bI res)))) (I, L) := by
  unfold f_X12_noRoom_19 at h
  cases h
  exact E_zret (x := y0) rfl dX12_noRoom_19
def f_X12_noRoom (x1 : Int32) (I : MI) (L : ML) : Option (Bool) := Option.bind (f_X12_rooms I L) fun v1 => Option.bind (f_X12_in x1 0 (v1 - 1) I L) fun v2 => if v2 = true then (f_X12_noRoom_19 false I L) else (f_X12_noRoom_19 true I L)
set_option maxRecDepth 100000 in
theorem S_X12_noRoom {g : Gx} (x1 : Int32) (I : MI) (L : ML) (res : Bool) (h : f_X12_noRoom x1 I L = some res) : E g 2 0 mX12_noRoom 0 [(0, .ref 149), (1, .int x1)] [] (I, L) (.inl (some (.int (bI res)))) (I, L) := by
  unfold f_X12_noRoom at h
  refine E_iload_n 1 rfl dX12_noRoom_0 rfl 1 rfl ?_
  refine E_iconst (v := 0) 2 rfl dX12_noRoom_1 (by decide) ?_
  refine E_aload_n 3 rfl dX12_noRoom_2 rfl 0 rfl ?_
  obtain ⟨v1, hv1, h⟩ := Option.bind_eq_some_iff.mp h
  refine E_cV1 (As := []) 6 rfl dX12_noRoom_3 shc_149 ck_X12_56 cv_X12_rooms rfl (by decide) (Nat.le_of_ble_eq_true rfl) (C_X12_rooms (g := g) hv1) rfl ?_
  refine E_iconst (v := 1) 7 rfl dX12_noRoom_6 (by decide) ?_
  refine E_isub 8 rfl dX12_noRoom_7 ?_
  obtain ⟨v2, hv2, h⟩ := Option.bind_eq_some_iff.mp h
  refine E_cS1 (As := [.int x1, .int 0, .int (v1 - 1)]) 11 rfl dX12_noRoom_8 ck_X12_60 ss_X12_in rfl (by decide) (Nat.le_of_ble_eq_true rfl) (C_X12_in (g := g) hv2) rfl ?_
  refine E_if_neB 18 14 (by decide) rfl dX12_noRoom_11 (fun c3 => ?_) (fun c3 => ?_)
  · rw [if_pos c3] at h
    refine E_iconst (v := 0) 19 rfl dX12_noRoom_18 (by decide) ?_
    refine E_sub (lv' := []) [] rfl ?_
    exact S_X12_noRoom_19 false I L _ h
  · rw [if_neg (by rw [c3]; decide)] at h
    refine E_iconst (v := 1) 15 rfl dX12_noRoom_14 (by decide) ?_
    refine E_goto 19 (by decide) dX12_noRoom_15 ?_
    refine E_sub (lv' := []) [] rfl ?_
    exact S_X12_noRoom_19 true I L _ h
theorem C_X12_noRoom {g : Gx} {x1 : Int32} {I : MI} {L : ML} {res : Bool} (h : f_X12_noRoom x1 I L = some res) : Ent g 2 0 mX12_noRoom [.ref 149, .int x1] (I, L) (.inl (some (.int (bI res)))) (I, L) := Ent_of (by decide +kernel) (Nat.le_of_ble_eq_true rfl) (S_X12_noRoom x1 I L _ h)
def f_X12_noHeir_19 (y0 : Bool) (I : MI) (L : ML) : Option (Bool) := some y0
set_option maxRecDepth 100000 in
theorem S_X12_noHeir_19 {g : Gx} (y0 : Bool) (I : MI) (L : ML) (res : Bool) (h : f_X12_noHeir_19 y0 I L = some res) : E g 2 0 mX12_noHeir 19 [] [.int (bI y0)] (I, L) (.inl (some (.int (bI res)))) (I, L) := by
  unfold f_X12_noHeir_19 at h
  cases h
  exact E_zret (x := y0) rfl dX12_noHeir_19
def f_X12_noHeir (x1 : Int32) (I : MI) (L : ML) : Option (Bool) := Option.bind (f_X12_heirs I L) fun v1 => Option.bind (f_X12_in x1 0 (v1 - 1) I L) fun v2 => if v2 = true then (f_X12_noHeir_19 false I L) else (f_X12_noHeir_19 true I L)
set_option maxRecDepth 100000 in
theorem S_X12_noHeir {g : Gx} (x1 : Int32) (I : MI) (L : ML) (res : Bool) (h : f_X12_noHeir x1 I L = some res) : E g 2 0 mX12_noHeir 0 [(0, .ref 149), (1, .int x1)] [] (I, L) (.inl (some (.int (bI res)))) (I, L) := by
  unfold f_X12_noHeir at h
  refine E_iload_n 1 rfl dX12_noHeir_0 rfl 1 rfl ?_
  refine E_iconst (v := 0) 2 rfl dX12_noHeir_1 (by decide) ?_
  refine E_aload_n 3 rfl dX12_noHeir_2 rfl 0 rfl ?_
  obtain ⟨v1, hv1, h⟩ := Option.bind_eq_some_iff.mp h
  refine E_cV1 (As := []) 6 rfl dX12_noHeir_3 shc_149 ck_X12_64 cv_X12_heirs rfl (by decide) (Nat.le_of_ble_eq_true rfl) (C_X12_heirs (g := g) hv1) rfl ?_
  refine E_iconst (v := 1) 7 rfl dX12_noHeir_6 (by decide) ?_
  refine E_isub 8 rfl dX12_noHeir_7 ?_
  obtain ⟨v2, hv2, h⟩ := Option.bind_eq_some_iff.mp h
  refine E_cS1 (As := [.int x1, .int 0, .int (v1 - 1)]) 11 rfl dX12_noHeir_8 ck_X12_60 ss_X12_in rfl (by decide) (Nat.le_of_ble_eq_true rfl) (C_X12_in (g := g) hv2) rfl ?_
  refine E_if_neB 18 14 (by decide) rfl dX12_noHeir_11 (fun c3 => ?_) (fun c3 => ?_)
  · rw [if_pos c3] at h
    refine E_iconst (v := 0) 19 rfl dX12_noHeir_18 (by decide) ?_
    refine E_sub (lv' := []) [] rfl ?_
    exact S_X12_noHeir_19 false I L _ h
  · rw [if_neg (by rw [c3]; decide)] at h
    refine E_iconst (v := 1) 15 rfl dX12_noHeir_14 (by decide) ?_
    refine E_goto 19 (by decide) dX12_noHeir_15 ?_
    refine E_sub (lv' := []) [] rfl ?_
    exact S_X12_noHeir_19 true I L _ h
theorem C_X12_noHeir {g : Gx} {x1 : Int32} {I : MI} {L : ML} {res : Bool} (h : f_X12_noHeir x1 I L = some res) : Ent g 2 0 mX12_noHeir [.ref 149, .int x1] (I, L) (.inl (some (.int (bI res)))) (I, L) := Ent_of (by decide +kernel) (Nat.le_of_ble_eq_true rfl) (S_X12_noHeir x1 I L _ h)
def f_X12_noNoise_19 (y0 : Bool) (I : MI) (L : ML) : Option (Bool) := some y0
set_option maxRecDepth 100000 in
theorem S_X12_noNoise_19 {g : Gx} (y0 : Bool) (I : MI) (L : ML) (res : Bool) (h : f_X12_noNoise_19 y0 I L = some res) : E g 2 0 mX12_noNoise 19 [] [.int (bI y0)] (I, L) (.inl (some (.int (bI res)))) (I, L) := by
  unfold f_X12_noNoise_19 at h
  cases h
  exact E_zret (x := y0) rfl dX12_noNoise_19
def f_X12_noNoise (x1 : Int32) (I : MI) (L : ML) : Option (Bool) := Option.bind (f_X12_noises I L) fun v1 => Option.bind (f_X12_in x1 0 (v1 - 1) I L) fun v2 => if v2 = true then (f_X12_noNoise_19 false I L) else (f_X12_noNoise_19 true I L)
set_option maxRecDepth 100000 in
theorem S_X12_noNoise {g : Gx} (x1 : Int32) (I : MI) (L : ML) (res : Bool) (h : f_X12_noNoise x1 I L = some res) : E g 2 0 mX12_noNoise 0 [(0, .ref 149), (1, .int x1)] [] (I, L) (.inl (some (.int (bI res)))) (I, L) := by
  unfold f_X12_noNoise at h
  refine E_iload_n 1 rfl dX12_noNoise_0 rfl 1 rfl ?_
  refine E_iconst (v := 0) 2 rfl dX12_noNoise_1 (by decide) ?_
  refine E_aload_n 3 rfl dX12_noNoise_2 rfl 0 rfl ?_
  obtain ⟨v1, hv1, h⟩ := Option.bind_eq_some_iff.mp h
  refine E_cV1 (As := []) 6 rfl dX12_noNoise_3 shc_149 ck_X12_67 cv_X12_noises rfl (by decide) (Nat.le_of_ble_eq_true rfl) (C_X12_noises (g := g) hv1) rfl ?_
  refine E_iconst (v := 1) 7 rfl dX12_noNoise_6 (by decide) ?_
  refine E_isub 8 rfl dX12_noNoise_7 ?_
  obtain ⟨v2, hv2, h⟩ := Option.bind_eq_some_iff.mp h
  refine E_cS1 (As := [.int x1, .int 0, .int (v1 - 1)]) 11 rfl dX12_noNoise_8 ck_X12_60 ss_X12_in rfl (by decide) (Nat.le_of_ble_eq_true rfl) (C_X12_in (g := g) hv2) rfl ?_
  refine E_if_neB 18 14 (by decide) rfl dX12_noNoise_11 (fun c3 => ?_) (fun c3 => ?_)
  · rw [if_pos c3] at h
    refine E_iconst (v := 0) 19 rfl dX12_noNoise_18 (by decide) ?_
    refine E_sub (lv' := []) [] rfl ?_
    exact S_X12_noNoise_19 false I L _ h
  · rw [if_neg (by rw [c3]; decide)] at h
    refine E_iconst (v := 1) 15 rfl dX12_noNoise_14 (by decide) ?_
    refine E_goto 19 (by decide) dX12_noNoise_15 ?_
    refine E_sub (lv' := []) [] rfl ?_
    exact S_X12_noNoise_19 true I L _ h
theorem C_X12_noNoise {g : Gx} {x1 : Int32} {I : MI} {L : ML} {res : Bool} (h : f_X12_noNoise x1 I L = some res) : Ent g 2 0 mX12_noNoise [.ref 149, .int x1] (I, L) (.inl (some (.int (bI res)))) (I, L) := Ent_of (by decide +kernel) (Nat.le_of_ble_eq_true rfl) (S_X12_noNoise x1 I L _ h)
def f_X12_feed_60 : Nat → Int32 → MI → ML → Option (Int32 × MI × ML)
  | 0, _, _, _ => none
  | n + 1, x6, I, L => if 20 ≤ x6 then (Option.bind (pfI I 149 8 ((I 149 8) + 20)) fun I2 => some (I2 149 8, I2, L)) else (Option.bind (ldI I 155 5 (x6 / 4)) fun v4 => Option.bind (stB I 154 400 ((I 149 8) + x6) ((v4 >>> ((24 - (8 * (x6 - x6 / 4 * 4))) &&& 31)).toInt8.toInt32)) fun I6 => f_X12_feed_60 n (x6 + 1) I6 L)
set_option maxRecDepth 100000 in
theorem S_X12_feed_60 {g : Gx} : ∀ (n : Nat) (x6 : Int32) (I : MI) (L : ML) (res : Int32 × MI × ML), f_X12_feed_60 n x6 I L = some res → E g 1 0 mX12_feed 60 [(0, .ref 149), (6, .int x6)] [] (I, L) (.inl (some (.int res.1))) (res.2.1, res.2.2) := by
  intro n
  induction n with
  | zero =>
    intros
    rename_i h
    cases h
  | succ n ih =>
    intro x6 I L res h
    rw [f_X12_feed_60] at h
    refine E_iload 62 rfl dX12_feed_60 1 rfl ?_
    refine E_bipush (v := 20) 64 rfl dX12_feed_62 (by decide) ?_
    refine E_icmp_ge 106 67 (by decide) rfl dX12_feed_64 (fun c1 => ?_) (fun c1 => ?_)
    · rw [if_pos c1] at h
      refine E_aload_n 107 rfl dX12_feed_106 rfl 0 rfl ?_
      refine E_dup 108 rfl dX12_feed_107 rfl ?_
      refine E_gI 111 rfl dX12_feed_108 shc_149 fl_X12_70 rfl ?_
      refine E_bipush (v := 20) 113 rfl dX12_feed_111 (by decide) ?_
      refine E_iadd 114 rfl dX12_feed_113 ?_
      obtain ⟨I2, hI2, h⟩ := Option.bind_eq_some_iff.mp h
      refine E_pfI 117 rfl dX12_feed_114 shc_149 fl_X12_70 rfl hI2 ?_
      refine E_aload_n 118 rfl dX12_feed_117 rfl 0 rfl ?_
      refine E_gI 121 rfl dX12_feed_118 shc_149 fl_X12_70 rfl ?_
      cases h
      exact E_iret rfl dX12_feed_121
    · rw [if_neg c1] at h
      refine E_aload_n 68 rfl dX12_feed_67 rfl 0 rfl ?_
      refine E_gR 154 71 rfl dX12_feed_68 shc_149 fl_X12_26 rfl (by decide) (by decide) ?_
      refine E_aload_n 72 rfl dX12_feed_71 rfl 0 rfl ?_
      refine E_gI 75 rfl dX12_feed_72 shc_149 fl_X12_70 rfl ?_
      refine E_iload 77 rfl dX12_feed_75 1 rfl ?_
      refine E_iadd 78 rfl dX12_feed_77 ?_
      refine E_aload_n 79 rfl dX12_feed_78 rfl 0 rfl ?_
      refine E_gR 155 82 rfl dX12_feed_79 shc_149 fl_X12_33 rfl (by decide) (by decide) ?_
      refine E_iload 84 rfl dX12_feed_82 1 rfl ?_
      refine E_iconst (v := 4) 85 rfl dX12_feed_84 (by decide) ?_
      refine E_idiv 86 rfl dX12_feed_85 (by decide) ?_
      obtain ⟨v4, hv4, h⟩ := Option.bind_eq_some_iff.mp h
      refine E_ldI 87 rfl dX12_feed_86 shc_155 hv4 ?_
      refine E_bipush (v := 24) 89 rfl dX12_feed_87 (by decide) ?_
      refine E_bipush (v := 8) 91 rfl dX12_feed_89 (by decide) ?_
      refine E_iload 93 rfl dX12_feed_91 1 rfl ?_
      refine E_iconst (v := 4) 94 rfl dX12_feed_93 (by decide) ?_
      refine E_irem 95 rfl dX12_feed_94 (by decide) ?_
      refine E_imul 96 rfl dX12_feed_95 ?_
      refine E_isub 97 rfl dX12_feed_96 ?_
      refine E_ishr 98 rfl dX12_feed_97 ?_
      refine E_i2b 99 rfl dX12_feed_98 ?_
      obtain ⟨I6, hI6, h⟩ := Option.bind_eq_some_iff.mp h
      refine E_stB 100 rfl dX12_feed_99 shc_154 hI6 ?_
      refine E_iinc (j := 1) (v := x6 + 1) (lv' := [(6, .int (x6 + 1)), (0, .ref 149)]) 103 rfl dX12_feed_100 rfl rfl (Nat.le_of_ble_eq_true rfl) rfl ?_
      refine E_goto 60 (by decide) dX12_feed_103 ?_
      refine E_sub (lv' := [(0, .ref 149), (6, .int (x6 + 1))]) [1, 0] rfl ?_
      exact ih (x6 + 1) I6 L _ h
def f_X12_feed (x1 : Int32) (x2 : Int32) (x3 : Int32) (x4 : Int32) (x5 : Int32) (I : MI) (L : ML) : Option (Int32 × MI × ML) := Option.bind (pfI I 149 0 0) fun I1 => if ((I1 149 8) + 20) ≤ 400 then (Option.bind (stI I1 155 5 0 x1) fun I3 => Option.bind (stI I3 155 5 1 x2) fun I4 => Option.bind (stI I4 155 5 2 x3) fun I5 => Option.bind (stI I5 155 5 3 x4) fun I6 => Option.bind (stI I6 155 5 4 x5) fun I7 => f_X12_feed_60 FU 0 I7 L) else (some ((-1), I1, L))
set_option maxRecDepth 100000 in
theorem S_X12_feed {g : Gx} (x1 : Int32) (x2 : Int32) (x3 : Int32) (x4 : Int32) (x5 : Int32) (I : MI) (L : ML) (res : Int32 × MI × ML) (h : f_X12_feed x1 x2 x3 x4 x5 I L = some res) : E g 1 0 mX12_feed 0 [(0, .ref 149), (1, .int x1), (2, .int x2), (3, .int x3), (4, .int x4), (5, .int x5)] [] (I, L) (.inl (some (.int res.1))) (res.2.1, res.2.2) := by
  unfold f_X12_feed at h
  refine E_aload_n 1 rfl dX12_feed_0 rfl 0 rfl ?_
  refine E_iconst (v := 0) 2 rfl dX12_feed_1 (by decide) ?_
  obtain ⟨I1, hI1, h⟩ := Option.bind_eq_some_iff.mp h
  refine E_pfI 5 rfl dX12_feed_2 shc_149 fl_X12_3 rfl hI1 ?_
  refine E_aload_n 6 rfl dX12_feed_5 rfl 0 rfl ?_
  refine E_gI 9 rfl dX12_feed_6 shc_149 fl_X12_70 rfl ?_
  refine E_bipush (v := 20) 11 rfl dX12_feed_9 (by decide) ?_
  refine E_iadd 12 rfl dX12_feed_11 ?_
  refine E_sipush (v := 400) 15 rfl dX12_feed_12 (by decide) ?_
  refine E_icmp_le 20 18 (by decide) rfl dX12_feed_15 (fun c2 => ?_) (fun c2 => ?_)
  · rw [if_pos c2] at h
    refine E_aload_n 21 rfl dX12_feed_20 rfl 0 rfl ?_
    refine E_gR 155 24 rfl dX12_feed_21 shc_149 fl_X12_33 rfl (by decide) (by decide) ?_
    refine E_iconst (v := 0) 25 rfl dX12_feed_24 (by decide) ?_
    refine E_iload_n 26 rfl dX12_feed_25 rfl 1 rfl ?_
    obtain ⟨I3, hI3, h⟩ := Option.bind_eq_some_iff.mp h
    refine E_stI 27 rfl dX12_feed_26 shc_155 hI3 ?_
    refine E_aload_n 28 rfl dX12_feed_27 rfl 0 rfl ?_
    refine E_gR 155 31 rfl dX12_feed_28 shc_149 fl_X12_33 rfl (by decide) (by decide) ?_
    refine E_iconst (v := 1) 32 rfl dX12_feed_31 (by decide) ?_
    refine E_iload_n 33 rfl dX12_feed_32 rfl 2 rfl ?_
    obtain ⟨I4, hI4, h⟩ := Option.bind_eq_some_iff.mp h
    refine E_stI 34 rfl dX12_feed_33 shc_155 hI4 ?_
    refine E_aload_n 35 rfl dX12_feed_34 rfl 0 rfl ?_
    refine E_gR 155 38 rfl dX12_feed_35 shc_149 fl_X12_33 rfl (by decide) (by decide) ?_
    refine E_iconst (v := 2) 39 rfl dX12_feed_38 (by decide) ?_
    refine E_iload_n 40 rfl dX12_feed_39 rfl 3 rfl ?_
    obtain ⟨I5, hI5, h⟩ := Option.bind_eq_some_iff.mp h
    refine E_stI 41 rfl dX12_feed_40 shc_155 hI5 ?_
    refine E_aload_n 42 rfl dX12_feed_41 rfl 0 rfl ?_
    refine E_gR 155 45 rfl dX12_feed_42 shc_149 fl_X12_33 rfl (by decide) (by decide) ?_
    refine E_iconst (v := 3) 46 rfl dX12_feed_45 (by decide) ?_
    refine E_iload 48 rfl dX12_feed_46 4 rfl ?_
    obtain ⟨I6, hI6, h⟩ := Option.bind_eq_some_iff.mp h
    refine E_stI 49 rfl dX12_feed_48 shc_155 hI6 ?_
    refine E_aload_n 50 rfl dX12_feed_49 rfl 0 rfl ?_
    refine E_gR 155 53 rfl dX12_feed_50 shc_149 fl_X12_33 rfl (by decide) (by decide) ?_
    refine E_iconst (v := 4) 54 rfl dX12_feed_53 (by decide) ?_
    refine E_iload 56 rfl dX12_feed_54 5 rfl ?_
    obtain ⟨I7, hI7, h⟩ := Option.bind_eq_some_iff.mp h
    refine E_stI 57 rfl dX12_feed_56 shc_155 hI7 ?_
    refine E_iconst (v := 0) 58 rfl dX12_feed_57 (by decide) ?_
    refine E_istore (lv' := [(6, .int 0), (0, .ref 149), (1, .int x1), (2, .int x2), (3, .int x3), (4, .int x4), (5, .int x5)]) 60 rfl dX12_feed_58 (Nat.le_of_ble_eq_true rfl) rfl ?_
    refine E_sub (lv' := [(0, .ref 149), (6, .int 0)]) [1, 0] rfl ?_
    exact S_X12_feed_60 FU 0 I7 L _ h
  · rw [if_neg c2] at h
    refine E_iconst (v := (-1)) 19 rfl dX12_feed_18 (by decide) ?_
    cases h
    exact E_iret rfl dX12_feed_19
theorem C_X12_feed {g : Gx} {x1 : Int32} {x2 : Int32} {x3 : Int32} {x4 : Int32} {x5 : Int32} {I : MI} {L : ML} {res : Int32 × MI × ML} (h : f_X12_feed x1 x2 x3 x4 x5 I L = some res) : Ent g 1 0 mX12_feed [.ref 149, .int x1, .int x2, .int x3, .int x4, .int x5] (I, L) (.inl (some (.int res.1))) (res.2.1, res.2.2) := Ent_of (by decide +kernel) (Nat.le_of_ble_eq_true rfl) (S_X12_feed x1 x2 x3 x4 x5 I L _ h)
def f_X12_end_17 (I : MI) (L : ML) : Option (Bool × MI × ML) := some (false, I, L)
set_option maxRecDepth 100000 in
theorem S_X12_end_17 {g : Gx} (I : MI) (L : ML) (res : Bool × MI × ML) (h : f_X12_end_17 I L = some res) : E g 1 0 mX12_end 17 [] [] (I, L) (.inl (some (.int (bI res.1)))) (res.2.1, res.2.2) := by
  unfold f_X12_end_17 at h
  refine E_iconst (v := 0) 18 rfl dX12_end_17 (by decide) ?_
  cases h
  exact E_zret (x := false) rfl dX12_end_18
def f_X12_end (x1 : Int32) (I : MI) (L : ML) : Option (Bool × MI × ML) := Option.bind (pfI I 149 0 0) fun I1 => if x1 < 0 then (f_X12_end_17 I1 L) else (if x1 ≤ (I1 149 8) then (Option.bind (pfI I1 149 8 x1) fun I4 => some (true, I4, L)) else (f_X12_end_17 I1 L))
set_option maxRecDepth 100000 in
theorem S_X12_end {g : Gx} (x1 : Int32) (I : MI) (L : ML) (res : Bool × MI × ML) (h : f_X12_end x1 I L = some res) : E g 1 0 mX12_end 0 [(0, .ref 149), (1, .int x1)] [] (I, L) (.inl (some (.int (bI res.1)))) (res.2.1, res.2.2) := by
  unfold f_X12_end at h
  refine E_aload_n 1 rfl dX12_end_0 rfl 0 rfl ?_
  refine E_iconst (v := 0) 2 rfl dX12_end_1 (by decide) ?_
  obtain ⟨I1, hI1, h⟩ := Option.bind_eq_some_iff.mp h
  refine E_pfI 5 rfl dX12_end_2 shc_149 fl_X12_3 rfl hI1 ?_
  refine E_iload_n 6 rfl dX12_end_5 rfl 1 rfl ?_
  refine E_if_lt 17 9 (by decide) rfl dX12_end_6 (fun c2 => ?_) (fun c2 => ?_)
  · rw [if_pos c2] at h
    refine E_sub (lv' := []) [] rfl ?_
    exact S_X12_end_17 I1 L _ h
  · rw [if_neg c2] at h
    refine E_iload_n 10 rfl dX12_end_9 rfl 1 rfl ?_
    refine E_aload_n 11 rfl dX12_end_10 rfl 0 rfl ?_
    refine E_gI 14 rfl dX12_end_11 shc_149 fl_X12_70 rfl ?_
    refine E_icmp_le 19 17 (by decide) rfl dX12_end_14 (fun c3 => ?_) (fun c3 => ?_)
    · rw [if_pos c3] at h
      refine E_aload_n 20 rfl dX12_end_19 rfl 0 rfl ?_
      refine E_iload_n 21 rfl dX12_end_20 rfl 1 rfl ?_
      obtain ⟨I4, hI4, h⟩ := Option.bind_eq_some_iff.mp h
      refine E_pfI 24 rfl dX12_end_21 shc_149 fl_X12_70 rfl hI4 ?_
      refine E_iconst (v := 1) 25 rfl dX12_end_24 (by decide) ?_
      cases h
      exact E_zret (x := true) rfl dX12_end_25
    · rw [if_neg c3] at h
      refine E_sub (lv' := []) [] rfl ?_
      exact S_X12_end_17 I1 L _ h
theorem C_X12_end {g : Gx} {x1 : Int32} {I : MI} {L : ML} {res : Bool × MI × ML} (h : f_X12_end x1 I L = some res) : Ent g 1 0 mX12_end [.ref 149, .int x1] (I, L) (.inl (some (.int (bI res.1)))) (res.2.1, res.2.2) := Ent_of (by decide +kernel) (Nat.le_of_ble_eq_true rfl) (S_X12_end x1 I L _ h)
def f_X12_isAt_42 (y0 : Bool) (I : MI) (L : ML) : Option (Bool) := some y0
set_option maxRecDepth 100000 in
theorem S_X12_isAt_42 {g : Gx} (y0 : Bool) (I : MI) (L : ML) (res : Bool) (h : f_X12_isAt_42 y0 I L = some res) : E g 1 0 mX12_isAt 42 [] [.int (bI y0)] (I, L) (.inl (some (.int (bI res)))) (I, L) := by
  unfold f_X12_isAt_42 at h
  cases h
  exact E_zret (x := y0) rfl dX12_isAt_42
def f_X12_isAt_41 (I : MI) (L : ML) : Option (Bool) := f_X12_isAt_42 false I L
set_option maxRecDepth 100000 in
theorem S_X12_isAt_41 {g : Gx} (I : MI) (L : ML) (res : Bool) (h : f_X12_isAt_41 I L = some res) : E g 1 0 mX12_isAt 41 [] [] (I, L) (.inl (some (.int (bI res)))) (I, L) := by
  unfold f_X12_isAt_41 at h
  refine E_iconst (v := 0) 42 rfl dX12_isAt_41 (by decide) ?_
  refine E_sub (lv' := []) [] rfl ?_
  exact S_X12_isAt_42 false I L _ h
def f_X12_isAt (x1 : Int32) (x2 : Int32) (I : MI) (L : ML) : Option (Bool) := if (I 149 10) ≤ (I 149 9) then (f_X12_isAt_41 I L) else (Option.bind (ldI I 154 400 (I 149 9)) fun v2 => if v2 < x1 then (f_X12_isAt_41 I L) else (Option.bind (ldI I 154 400 (I 149 9)) fun v4 => if x2 < v4 then (f_X12_isAt_41 I L) else (f_X12_isAt_42 true I L)))
set_option maxRecDepth 100000 in
theorem S_X12_isAt {g : Gx} (x1 : Int32) (x2 : Int32) (I : MI) (L : ML) (res : Bool) (h : f_X12_isAt x1 x2 I L = some res) : E g 1 0 mX12_isAt 0 [(0, .ref 149), (1, .int x1), (2, .int x2)] [] (I, L) (.inl (some (.int (bI res)))) (I, L) := by
  unfold f_X12_isAt at h
  refine E_aload_n 1 rfl dX12_isAt_0 rfl 0 rfl ?_
  refine E_gI 4 rfl dX12_isAt_1 shc_149 fl_X12_73 rfl ?_
  refine E_aload_n 5 rfl dX12_isAt_4 rfl 0 rfl ?_
  refine E_gI 8 rfl dX12_isAt_5 shc_149 fl_X12_76 rfl ?_
  refine E_icmp_ge 41 11 (by decide) rfl dX12_isAt_8 (fun c1 => ?_) (fun c1 => ?_)
  · rw [if_pos c1] at h
    refine E_sub (lv' := []) [] rfl ?_
    exact S_X12_isAt_41 I L _ h
  · rw [if_neg c1] at h
    refine E_aload_n 12 rfl dX12_isAt_11 rfl 0 rfl ?_
    refine E_gR 154 15 rfl dX12_isAt_12 shc_149 fl_X12_26 rfl (by decide) (by decide) ?_
    refine E_aload_n 16 rfl dX12_isAt_15 rfl 0 rfl ?_
    refine E_gI 19 rfl dX12_isAt_16 shc_149 fl_X12_73 rfl ?_
    obtain ⟨v2, hv2, h⟩ := Option.bind_eq_some_iff.mp h
    refine E_ldB 20 rfl dX12_isAt_19 shc_154 hv2 ?_
    refine E_iload_n 21 rfl dX12_isAt_20 rfl 1 rfl ?_
    refine E_icmp_lt 41 24 (by decide) rfl dX12_isAt_21 (fun c3 => ?_) (fun c3 => ?_)
    · rw [if_pos c3] at h
      refine E_sub (lv' := []) [] rfl ?_
      exact S_X12_isAt_41 I L _ h
    · rw [if_neg c3] at h
      refine E_aload_n 25 rfl dX12_isAt_24 rfl 0 rfl ?_
      refine E_gR 154 28 rfl dX12_isAt_25 shc_149 fl_X12_26 rfl (by decide) (by decide) ?_
      refine E_aload_n 29 rfl dX12_isAt_28 rfl 0 rfl ?_
      refine E_gI 32 rfl dX12_isAt_29 shc_149 fl_X12_73 rfl ?_
      obtain ⟨v4, hv4, h⟩ := Option.bind_eq_some_iff.mp h
      refine E_ldB 33 rfl dX12_isAt_32 shc_154 hv4 ?_
      refine E_iload_n 34 rfl dX12_isAt_33 rfl 2 rfl ?_
      refine E_icmp_gt 41 37 (by decide) rfl dX12_isAt_34 (fun c5 => ?_) (fun c5 => ?_)
      · rw [if_pos c5] at h
        refine E_sub (lv' := []) [] rfl ?_
        exact S_X12_isAt_41 I L _ h
      · rw [if_neg c5] at h
        refine E_iconst (v := 1) 38 rfl dX12_isAt_37 (by decide) ?_
        refine E_goto 42 (by decide) dX12_isAt_38 ?_
        refine E_sub (lv' := []) [] rfl ?_
        exact S_X12_isAt_42 true I L _ h
theorem C_X12_isAt {g : Gx} {x1 : Int32} {x2 : Int32} {I : MI} {L : ML} {res : Bool} (h : f_X12_isAt x1 x2 I L = some res) : Ent g 1 0 mX12_isAt [.ref 149, .int x1, .int x2] (I, L) (.inl (some (.int (bI res)))) (I, L) := Ent_of (by decide +kernel) (Nat.le_of_ble_eq_true rfl) (S_X12_isAt x1 x2 I L _ h)
def f_X12_blanks_0 : Nat → MI → ML → Option (MI × ML)
  | 0, _, _ => none
  | n + 1, I, L => Option.bind (f_X12_isAt 32 32 I L) fun v1 => if v1 = true then (Option.bind (pfI I 149 9 ((I 149 9) + 1)) fun I4 => f_X12_blanks_0 n I4 L) else (Option.bind (pfI I 149 11 (I 149 9)) fun I3 => some (I3, L))
set_option maxRecDepth 100000 in
theorem S_X12_blanks_0 {g : Gx} : ∀ (n : Nat) (I : MI) (L : ML) (res : MI × ML), f_X12_blanks_0 n I L = some res → E g 2 0 mX12_blanks 0 [(0, .ref 149)] [] (I, L) (.inl none) (res.1, res.2) := by
  intro n
  induction n with
  | zero =>
    intros
    rename_i h
    cases h
  | succ n ih =>
    intro I L res h
    rw [f_X12_blanks_0] at h
    refine E_aload_n 1 rfl dX12_blanks_0 rfl 0 rfl ?_
    refine E_bipush (v := 32) 3 rfl dX12_blanks_1 (by decide) ?_
    refine E_bipush (v := 32) 5 rfl dX12_blanks_3 (by decide) ?_
    obtain ⟨v1, hv1, h⟩ := Option.bind_eq_some_iff.mp h
    refine E_cV1 (As := [.int 32, .int 32]) 8 rfl dX12_blanks_5 shc_149 ck_X12_79 cv_X12_isAt rfl (by decide) (Nat.le_of_ble_eq_true rfl) (C_X12_isAt (g := g) hv1) rfl ?_
    refine E_if_eqB 24 11 (by decide) rfl dX12_blanks_8 (fun c2 => ?_) (fun c2 => ?_)
    · rw [if_neg (by rw [c2]; decide)] at h
      refine E_aload_n 25 rfl dX12_blanks_24 rfl 0 rfl ?_
      refine E_aload_n 26 rfl dX12_blanks_25 rfl 0 rfl ?_
      refine E_gI 29 rfl dX12_blanks_26 shc_149 fl_X12_73 rfl ?_
      obtain ⟨I3, hI3, h⟩ := Option.bind_eq_some_iff.mp h
      refine E_pfI 32 rfl dX12_blanks_29 shc_149 fl_X12_83 rfl hI3 ?_
      cases h
      exact E_vret rfl dX12_blanks_32
    · rw [if_pos c2] at h
      refine E_aload_n 12 rfl dX12_blanks_11 rfl 0 rfl ?_
      refine E_dup 13 rfl dX12_blanks_12 rfl ?_
      refine E_gI 16 rfl dX12_blanks_13 shc_149 fl_X12_73 rfl ?_
      refine E_iconst (v := 1) 17 rfl dX12_blanks_16 (by decide) ?_
      refine E_iadd 18 rfl dX12_blanks_17 ?_
      obtain ⟨I4, hI4, h⟩ := Option.bind_eq_some_iff.mp h
      refine E_pfI 21 rfl dX12_blanks_18 shc_149 fl_X12_73 rfl hI4 ?_
      refine E_goto 0 (by decide) dX12_blanks_21 ?_
      refine E_sub (lv' := [(0, .ref 149)]) [0] rfl ?_
      exact ih I4 L _ h
def f_X12_blanks (I : MI) (L : ML) : Option (MI × ML) := f_X12_blanks_0 FU I L
theorem C_X12_blanks {g : Gx} {I : MI} {L : ML} {res : MI × ML} (h : f_X12_blanks I L = some res) : Ent g 2 0 mX12_blanks [.ref 149] (I, L) (.inl none) (res.1, res.2) := Ent_of (by decide +kernel) (Nat.le_of_ble_eq_true rfl) (S_X12_blanks_0 FU I L _ h)
def f_X12_letters_4 : Nat → MI → ML → Option (MI × ML)
  | 0, _, _ => none
  | n + 1, I, L => Option.bind (f_X12_isAt 97 122 I L) fun v1 => if v1 = true then (Option.bind (pfI I 149 9 ((I 149 9) + 1)) fun I3 => f_X12_letters_4 n I3 L) else (some (I, L))
set_option maxRecDepth 100000 in
theorem S_X12_letters_4 {g : Gx} : ∀ (n : Nat) (I : MI) (L : ML) (res : MI × ML), f_X12_letters_4 n I L = some res → E g 3 0 mX12_letters 4 [(0, .ref 149)] [] (I, L) (.inl none) (res.1, res.2) := by
  intro n
  induction n with
  | zero =>
    intros
    rename_i h
    cases h
  | succ n ih =>
    intro I L res h
    rw [f_X12_letters_4] at h
    refine E_aload_n 5 rfl dX12_letters_4 rfl 0 rfl ?_
    refine E_bipush (v := 97) 7 rfl dX12_letters_5 (by decide) ?_
    refine E_bipush (v := 122) 9 rfl dX12_letters_7 (by decide) ?_
    obtain ⟨v1, hv1, h⟩ := Option.bind_eq_some_iff.mp h
    refine E_cV1 (As := [.int 97, .int 122]) 12 rfl dX12_letters_9 shc_149 ck_X12_79 cv_X12_isAt rfl (by decide) (Nat.le_of_ble_eq_true rfl) (C_X12_isAt (g := g) hv1) rfl ?_
    refine E_if_eqB 28 15 (by decide) rfl dX12_letters_12 (fun c2 => ?_) (fun c2 => ?_)
    · rw [if_neg (by rw [c2]; decide)] at h
      cases h
      exact E_vret rfl dX12_letters_28
    · rw [if_pos c2] at h
      refine E_aload_n 16 rfl dX12_letters_15 rfl 0 rfl ?_
      refine E_dup 17 rfl dX12_letters_16 rfl ?_
      refine E_gI 20 rfl dX12_letters_17 shc_149 fl_X12_73 rfl ?_
      refine E_iconst (v := 1) 21 rfl dX12_letters_20 (by decide) ?_
      refine E_iadd 22 rfl dX12_letters_21 ?_
      obtain ⟨I3, hI3, h⟩ := Option.bind_eq_some_iff.mp h
      refine E_pfI 25 rfl dX12_letters_22 shc_149 fl_X12_73 rfl hI3 ?_
      refine E_goto 4 (by decide) dX12_letters_25 ?_
      refine E_sub (lv' := [(0, .ref 149)]) [0] rfl ?_
      exact ih I3 L _ h
def f_X12_letters (I : MI) (L : ML) : Option (MI × ML) := Option.bind (f_X12_blanks I L) fun w1 => f_X12_letters_4 FU w1.1 w1.2
set_option maxRecDepth 100000 in
theorem S_X12_letters {g : Gx} (I : MI) (L : ML) (res : MI × ML) (h : f_X12_letters I L = some res) : E g 3 0 mX12_letters 0 [(0, .ref 149)] [] (I, L) (.inl none) (res.1, res.2) := by
  unfold f_X12_letters at h
  refine E_aload_n 1 rfl dX12_letters_0 rfl 0 rfl ?_
  obtain ⟨w1, hw1, h⟩ := Option.bind_eq_some_iff.mp h
  refine E_cV0 (As := []) 4 rfl dX12_letters_1 shc_149 ck_X12_86 cv_X12_blanks rfl (by decide) (Nat.le_of_ble_eq_true rfl) (C_X12_blanks (g := g) hw1) rfl ?_
  refine E_sub (lv' := [(0, .ref 149)]) [0] rfl ?_
  exact S_X12_letters_4 FU w1.1 w1.2 _ h
theorem C_X12_letters {g : Gx} {I : MI} {L : ML} {res : MI × ML} (h : f_X12_letters I L = some res) : Ent g 3 0 mX12_letters [.ref 149] (I, L) (.inl none) (res.1, res.2) := Ent_of (by decide +kernel) (Nat.le_of_ble_eq_true rfl) (S_X12_letters I L _ h)
def f_X12_isWord_67 (x2 : Bool) (I : MI) (L : ML) : Option (Bool) := some x2
set_option maxRecDepth 100000 in
theorem S_X12_isWord_67 {g : Gx} (x2 : Bool) (I : MI) (L : ML) (res : Bool) (h : f_X12_isWord_67 x2 I L = some res) : E g 4 0 mX12_isWord 67 [(2, .int (bI x2))] [] (I, L) (.inl (some (.int (bI res)))) (I, L) := by
  unfold f_X12_isWord_67 at h
  refine E_iload_n 68 rfl dX12_isWord_67 rfl 0 rfl ?_
  cases h
  exact E_zret (x := x2) rfl dX12_isWord_68
def f_X12_isWord_60 (k24 : Nat → Bool → Int32 → MI → ML → Option (Bool)) (x1 : Nat) (x3 : Int32) (y0 : Bool) (I : MI) (L : ML) : Option (Bool) := k24 x1 y0 (x3 + 1) I L
set_option maxRecDepth 100000 in
theorem S_X12_isWord_60 {g : Gx} {k24 : Nat → Bool → Int32 → MI → ML → Option (Bool)} (hk24 : ∀ (x1z : Nat) (x2z : Bool) (x3z : Int32) (hx1z : x1z < 66) (I : MI) (L : ML) (res : Bool), k24 x1z x2z x3z I L = some res → E g 4 0 mX12_isWord 24 [(0, .ref 149), (1, .ref (100000 + x1z)), (2, .int (bI x2z)), (3, .int x3z)] [] (I, L) (.inl (some (.int (bI res)))) (I, L)) (x1 : Nat) (x3 : Int32) (y0 : Bool) (hx1 : x1 < 66) (I : MI) (L : ML) (res : Bool) (h : f_X12_isWord_60 k24 x1 x3 y0 I L = some res) : E g 4 0 mX12_isWord 60 [(0, .ref 149), (1, .ref (100000 + x1)), (3, .int x3)] [.int (bI y0)] (I, L) (.inl (some (.int (bI res)))) (I, L) := by
  unfold f_X12_isWord_60 at h
  refine E_istore_n (lv' := [(2, .int (bI y0)), (0, .ref 149), (1, .ref (100000 + x1)), (3, .int x3)]) 61 rfl dX12_isWord_60 rfl (Nat.le_of_ble_eq_true rfl) rfl ?_
  refine E_iinc (j := 3) (v := x3 + 1) (lv' := [(3, .int (x3 + 1)), (2, .int (bI y0)), (0, .ref 149), (1, .ref (100000 + x1))]) 64 rfl dX12_isWord_61 rfl rfl (Nat.le_of_ble_eq_true rfl) rfl ?_
  refine E_goto 24 (by decide) dX12_isWord_64 ?_
  refine E_sub (lv' := [(0, .ref 149), (1, .ref (100000 + x1)), (2, .int (bI y0)), (3, .int (x3 + 1))]) [2, 3, 1, 0] rfl ?_
  exact hk24 x1 y0 (x3 + 1) hx1 I L _ h
def f_X12_isWord_24 : Nat → Nat → Bool → Int32 → MI → ML → Option (Bool)
  | 0, _, _, _, _, _ => none
  | n + 1, x1, x2, x3, I, L => if x2 = true then (if (nI (sLen x1)) ≤ x3 then (f_X12_isWord_67 x2 I L) else (Option.bind (ldI I 154 400 ((I 149 11) + x3)) fun v3 => Option.bind (chrAt x1 x3) fun v4 => if v3 = v4 then (f_X12_isWord_60 (f_X12_isWord_24 n) x1 x3 true I L) else (f_X12_isWord_60 (f_X12_isWord_24 n) x1 x3 false I L))) else (f_X12_isWord_67 x2 I L)
set_option maxRecDepth 100000 in
theorem S_X12_isWord_24 {g : Gx} : ∀ (n : Nat) (x1 : Nat) (x2 : Bool) (x3 : Int32) (hx1 : x1 < 66) (I : MI) (L : ML) (res : Bool), f_X12_isWord_24 n x1 x2 x3 I L = some res → E g 4 0 mX12_isWord 24 [(0, .ref 149), (1, .ref (100000 + x1)), (2, .int (bI x2)), (3, .int x3)] [] (I, L) (.inl (some (.int (bI res)))) (I, L) := by
  intro n
  induction n with
  | zero =>
    intros
    rename_i h
    cases h
  | succ n ih =>
    intro x1 x2 x3 hx1 I L res h
    rw [f_X12_isWord_24] at h
    refine E_iload_n 25 rfl dX12_isWord_24 rfl 2 rfl ?_
    refine E_if_eqB 67 28 (by decide) rfl dX12_isWord_25 (fun c1 => ?_) (fun c1 => ?_)
    · rw [if_neg (by rw [c1]; decide)] at h
      refine E_sub (lv' := [(2, .int (bI x2))]) [2] rfl ?_
      exact S_X12_isWord_67 x2 I L _ h
    · rw [if_pos c1] at h
      refine E_iload_n 29 rfl dX12_isWord_28 rfl 3 rfl ?_
      refine E_aload_n 30 rfl dX12_isWord_29 rfl 1 rfl ?_
      refine E_slen hx1 33 rfl dX12_isWord_30 jb_X12_89 (by decide) (Nat.le_of_ble_eq_true rfl) ?_
      refine E_icmp_ge 67 36 (by decide) rfl dX12_isWord_33 (fun c2 => ?_) (fun c2 => ?_)
      · rw [if_pos c2] at h
        refine E_sub (lv' := [(2, .int (bI x2))]) [2] rfl ?_
        exact S_X12_isWord_67 x2 I L _ h
      · rw [if_neg c2] at h
        refine E_aload_n 37 rfl dX12_isWord_36 rfl 0 rfl ?_
        refine E_gR 154 40 rfl dX12_isWord_37 shc_149 fl_X12_26 rfl (by decide) (by decide) ?_
        refine E_aload_n 41 rfl dX12_isWord_40 rfl 0 rfl ?_
        refine E_gI 44 rfl dX12_isWord_41 shc_149 fl_X12_83 rfl ?_
        refine E_iload_n 45 rfl dX12_isWord_44 rfl 3 rfl ?_
        refine E_iadd 46 rfl dX12_isWord_45 ?_
        obtain ⟨v3, hv3, h⟩ := Option.bind_eq_some_iff.mp h
        refine E_ldB 47 rfl dX12_isWord_46 shc_154 hv3 ?_
        refine E_aload_n 48 rfl dX12_isWord_47 rfl 1 rfl ?_
        refine E_iload_n 49 rfl dX12_isWord_48 rfl 3 rfl ?_
        obtain ⟨v4, hv4, h⟩ := Option.bind_eq_some_iff.mp h
        refine E_schr hx1 52 rfl dX12_isWord_49 jb_X12_94 (by decide) (Nat.le_of_ble_eq_true rfl) hv4 ?_
        refine E_icmp_ne 59 55 (by decide) rfl dX12_isWord_52 (fun c5 => ?_) (fun c5 => ?_)
        · rw [if_neg c5] at h
          refine E_iconst (v := 0) 60 rfl dX12_isWord_59 (by decide) ?_
          refine E_sub (lv' := [(0, .ref 149), (1, .ref (100000 + x1)), (3, .int x3)]) [0, 1, 3] rfl ?_
          exact S_X12_isWord_60 ih x1 x3 false hx1 I L _ h
        · rw [if_pos c5] at h
          refine E_iconst (v := 1) 56 rfl dX12_isWord_55 (by decide) ?_
          refine E_goto 60 (by decide) dX12_isWord_56 ?_
          refine E_sub (lv' := [(0, .ref 149), (1, .ref (100000 + x1)), (3, .int x3)]) [0, 1, 3] rfl ?_
          exact S_X12_isWord_60 ih x1 x3 true hx1 I L _ h
def f_X12_isWord_21 (x1 : Nat) (y0 : Bool) (I : MI) (L : ML) : Option (Bool) := f_X12_isWord_24 FU x1 y0 0 I L
set_option maxRecDepth 100000 in
theorem S_X12_isWord_21 {g : Gx} (x1 : Nat) (y0 : Bool) (hx1 : x1 < 66) (I : MI) (L : ML) (res : Bool) (h : f_X12_isWord_21 x1 y0 I L = some res) : E g 4 0 mX12_isWord 21 [(0, .ref 149), (1, .ref (100000 + x1))] [.int (bI y0)] (I, L) (.inl (some (.int (bI res)))) (I, L) := by
  unfold f_X12_isWord_21 at h
  refine E_istore_n (lv' := [(2, .int (bI y0)), (0, .ref 149), (1, .ref (100000 + x1))]) 22 rfl dX12_isWord_21 rfl (Nat.le_of_ble_eq_true rfl) rfl ?_
  refine E_iconst (v := 0) 23 rfl dX12_isWord_22 (by decide) ?_
  refine E_istore_n (lv' := [(3, .int 0), (2, .int (bI y0)), (0, .ref 149), (1, .ref (100000 + x1))]) 24 rfl dX12_isWord_23 rfl (Nat.le_of_ble_eq_true rfl) rfl ?_
  refine E_sub (lv' := [(0, .ref 149), (1, .ref (100000 + x1)), (2, .int (bI y0)), (3, .int 0)]) [2, 3, 1, 0] rfl ?_
  exact S_X12_isWord_24 FU x1 y0 0 hx1 I L _ h
def f_X12_isWord (x1 : Nat) (I : MI) (L : ML) : Option (Bool) := if ((I 149 9) - (I 149 11)) = (nI (sLen x1)) then (f_X12_isWord_21 x1 true I L) else (f_X12_isWord_21 x1 false I L)
set_option maxRecDepth 100000 in
theorem S_X12_isWord {g : Gx} (x1 : Nat) (hx1 : x1 < 66) (I : MI) (L : ML) (res : Bool) (h : f_X12_isWord x1 I L = some res) : E g 4 0 mX12_isWord 0 [(0, .ref 149), (1, .ref (100000 + x1))] [] (I, L) (.inl (some (.int (bI res)))) (I, L) := by
  unfold f_X12_isWord at h
  refine E_aload_n 1 rfl dX12_isWord_0 rfl 0 rfl ?_
  refine E_gI 4 rfl dX12_isWord_1 shc_149 fl_X12_73 rfl ?_
  refine E_aload_n 5 rfl dX12_isWord_4 rfl 0 rfl ?_
  refine E_gI 8 rfl dX12_isWord_5 shc_149 fl_X12_83 rfl ?_
  refine E_isub 9 rfl dX12_isWord_8 ?_
  refine E_aload_n 10 rfl dX12_isWord_9 rfl 1 rfl ?_
  refine E_slen hx1 13 rfl dX12_isWord_10 jb_X12_89 (by decide) (Nat.le_of_ble_eq_true rfl) ?_
  refine E_icmp_ne 20 16 (by decide) rfl dX12_isWord_13 (fun c1 => ?_) (fun c1 => ?_)
  · rw [if_neg c1] at h
    refine E_iconst (v := 0) 21 rfl dX12_isWord_20 (by decide) ?_
    refine E_sub (lv' := [(0, .ref 149), (1, .ref (100000 + x1))]) [0, 1] rfl ?_
    exact S_X12_isWord_21 x1 false hx1 I L _ h
  · rw [if_pos c1] at h
    refine E_iconst (v := 1) 17 rfl dX12_isWord_16 (by decide) ?_
    refine E_goto 21 (by decide) dX12_isWord_17 ?_
    refine E_sub (lv' := [(0, .ref 149), (1, .ref (100000 + x1))]) [0, 1] rfl ?_
    exact S_X12_isWord_21 x1 true hx1 I L _ h
theorem C_X12_isWord {g : Gx} {x1 : Nat} (hx1 : x1 < 66) {I : MI} {L : ML} {res : Bool} (h : f_X12_isWord x1 I L = some res) : Ent g 4 0 mX12_isWord [.ref 149, .ref (100000 + x1)] (I, L) (.inl (some (.int (bI res)))) (I, L) := Ent_of (by decide +kernel) (Nat.le_of_ble_eq_true rfl) (S_X12_isWord x1 hx1 I L _ h)
def f_X12_passes (x1 : Nat) (I : MI) (L : ML) : Option (Bool × MI × ML) := Option.bind (f_X12_letters I L) fun w1 => Option.bind (f_X12_isWord x1 w1.1 w1.2) fun v2 => if v2 = true then (some (true, w1.1, w1.2)) else (Option.bind (pfI w1.1 149 9 (w1.1 149 11)) fun I4 => some (false, I4, w1.2))
set_option maxRecDepth 100000 in
theorem S_X12_passes {g : Gx} (x1 : Nat) (hx1 : x1 < 66) (I : MI) (L : ML) (res : Bool × MI × ML) (h : f_X12_passes x1 I L = some res) : E g 5 0 mX12_passes 0 [(0, .ref 149), (1, .ref (100000 + x1))] [] (I, L) (.inl (some (.int (bI res.1)))) (res.2.1, res.2.2) := by
  unfold f_X12_passes at h
  refine E_aload_n 1 rfl dX12_passes_0 rfl 0 rfl ?_
  obtain ⟨w1, hw1, h⟩ := Option.bind_eq_some_iff.mp h
  refine E_cV0 (As := []) 4 rfl dX12_passes_1 shc_149 ck_X12_98 cv_X12_letters rfl (by decide) (Nat.le_of_ble_eq_true rfl) (C_X12_letters (g := g) hw1) rfl ?_
  refine E_aload_n 5 rfl dX12_passes_4 rfl 0 rfl ?_
  refine E_aload_n 6 rfl dX12_passes_5 rfl 1 rfl ?_
  obtain ⟨v2, hv2, h⟩ := Option.bind_eq_some_iff.mp h
  refine E_cV1 (As := [.ref (100000 + x1)]) 9 rfl dX12_passes_6 shc_149 ck_X12_101 cv_X12_isWord rfl (by decide) (Nat.le_of_ble_eq_true rfl) (C_X12_isWord (g := g) hx1 hv2) rfl ?_
  refine E_if_eqB 14 12 (by decide) rfl dX12_passes_9 (fun c3 => ?_) (fun c3 => ?_)
  · rw [if_neg (by rw [c3]; decide)] at h
    refine E_aload_n 15 rfl dX12_passes_14 rfl 0 rfl ?_
    refine E_aload_n 16 rfl dX12_passes_15 rfl 0 rfl ?_
    refine E_gI 19 rfl dX12_passes_16 shc_149 fl_X12_83 rfl ?_
    obtain ⟨I4, hI4, h⟩ := Option.bind_eq_some_iff.mp h
    refine E_pfI 22 rfl dX12_passes_19 shc_149 fl_X12_73 rfl hI4 ?_
    refine E_iconst (v := 0) 23 rfl dX12_passes_22 (by decide) ?_
    cases h
    exact E_zret (x := false) rfl dX12_passes_23
  · rw [if_pos c3] at h
    refine E_iconst (v := 1) 13 rfl dX12_passes_12 (by decide) ?_
    cases h
    exact E_zret (x := true) rfl dX12_passes_13
theorem C_X12_passes {g : Gx} {x1 : Nat} (hx1 : x1 < 66) {I : MI} {L : ML} {res : Bool × MI × ML} (h : f_X12_passes x1 I L = some res) : Ent g 5 0 mX12_passes [.ref 149, .ref (100000 + x1)] (I, L) (.inl (some (.int (bI res.1)))) (res.2.1, res.2.2) := Ent_of (by decide +kernel) (Nat.le_of_ble_eq_true rfl) (S_X12_passes x1 hx1 I L _ h)
def f_X12_needs (x1 : Nat) (I : MI) (L : ML) : Option (Bool × MI × ML) := Option.bind (f_X12_letters I L) fun w1 => Option.bind (f_X12_isWord x1 w1.1 w1.2) fun v2 => some (v2, w1.1, w1.2)
set_option maxRecDepth 100000 in
theorem S_X12_needs {g : Gx} (x1 : Nat) (hx1 : x1 < 66) (I : MI) (L : ML) (res : Bool × MI × ML) (h : f_X12_needs x1 I L = some res) : E g 5 0 mX12_needs 0 [(0, .ref 149), (1, .ref (100000 + x1))] [] (I, L) (.inl (some (.int (bI res.1)))) (res.2.1, res.2.2) := by
  unfold f_X12_needs at h
  refine E_aload_n 1 rfl dX12_needs_0 rfl 0 rfl ?_
  obtain ⟨w1, hw1, h⟩ := Option.bind_eq_some_iff.mp h
  refine E_cV0 (As := []) 4 rfl dX12_needs_1 shc_149 ck_X12_98 cv_X12_letters rfl (by decide) (Nat.le_of_ble_eq_true rfl) (C_X12_letters (g := g) hw1) rfl ?_
  refine E_aload_n 5 rfl dX12_needs_4 rfl 0 rfl ?_
  refine E_aload_n 6 rfl dX12_needs_5 rfl 1 rfl ?_
  obtain ⟨v2, hv2, h⟩ := Option.bind_eq_some_iff.mp h
  refine E_cV1 (As := [.ref (100000 + x1)]) 9 rfl dX12_needs_6 shc_149 ck_X12_101 cv_X12_isWord rfl (by decide) (Nat.le_of_ble_eq_true rfl) (C_X12_isWord (g := g) hx1 hv2) rfl ?_
  cases h
  exact E_zret (x := v2) rfl dX12_needs_9
theorem C_X12_needs {g : Gx} {x1 : Nat} (hx1 : x1 < 66) {I : MI} {L : ML} {res : Bool × MI × ML} (h : f_X12_needs x1 I L = some res) : Ent g 5 0 mX12_needs [.ref 149, .ref (100000 + x1)] (I, L) (.inl (some (.int (bI res.1)))) (res.2.1, res.2.2) := Ent_of (by decide +kernel) (Nat.le_of_ble_eq_true rfl) (S_X12_needs x1 hx1 I L _ h)
def f_X12_sign (x1 : Int32) (I : MI) (L : ML) : Option (Bool × MI × ML) := Option.bind (f_X12_blanks I L) fun w1 => Option.bind (f_X12_isAt x1 x1 w1.1 w1.2) fun v2 => if v2 = true then (Option.bind (pfI w1.1 149 9 ((w1.1 149 9) + 1)) fun I4 => some (true, I4, w1.2)) else (some (false, w1.1, w1.2))
set_option maxRecDepth 100000 in
theorem S_X12_sign {g : Gx} (x1 : Int32) (I : MI) (L : ML) (res : Bool × MI × ML) (h : f_X12_sign x1 I L = some res) : E g 3 0 mX12_sign 0 [(0, .ref 149), (1, .int x1)] [] (I, L) (.inl (some (.int (bI res.1)))) (res.2.1, res.2.2) := by
  unfold f_X12_sign at h
  refine E_aload_n 1 rfl dX12_sign_0 rfl 0 rfl ?_
  obtain ⟨w1, hw1, h⟩ := Option.bind_eq_some_iff.mp h
  refine E_cV0 (As := []) 4 rfl dX12_sign_1 shc_149 ck_X12_86 cv_X12_blanks rfl (by decide) (Nat.le_of_ble_eq_true rfl) (C_X12_blanks (g := g) hw1) rfl ?_
  refine E_aload_n 5 rfl dX12_sign_4 rfl 0 rfl ?_
  refine E_iload_n 6 rfl dX12_sign_5 rfl 1 rfl ?_
  refine E_iload_n 7 rfl dX12_sign_6 rfl 1 rfl ?_
  obtain ⟨v2, hv2, h⟩ := Option.bind_eq_some_iff.mp h
  refine E_cV1 (As := [.int x1, .int x1]) 10 rfl dX12_sign_7 shc_149 ck_X12_79 cv_X12_isAt rfl (by decide) (Nat.le_of_ble_eq_true rfl) (C_X12_isAt (g := g) hv2) rfl ?_
  refine E_if_neB 15 13 (by decide) rfl dX12_sign_10 (fun c3 => ?_) (fun c3 => ?_)
  · rw [if_pos c3] at h
    refine E_aload_n 16 rfl dX12_sign_15 rfl 0 rfl ?_
    refine E_dup 17 rfl dX12_sign_16 rfl ?_
    refine E_gI 20 rfl dX12_sign_17 shc_149 fl_X12_73 rfl ?_
    refine E_iconst (v := 1) 21 rfl dX12_sign_20 (by decide) ?_
    refine E_iadd 22 rfl dX12_sign_21 ?_
    obtain ⟨I4, hI4, h⟩ := Option.bind_eq_some_iff.mp h
    refine E_pfI 25 rfl dX12_sign_22 shc_149 fl_X12_73 rfl hI4 ?_
    refine E_iconst (v := 1) 26 rfl dX12_sign_25 (by decide) ?_
    cases h
    exact E_zret (x := true) rfl dX12_sign_26
  · rw [if_neg (by rw [c3]; decide)] at h
    refine E_iconst (v := 0) 14 rfl dX12_sign_13 (by decide) ?_
    cases h
    exact E_zret (x := false) rfl dX12_sign_14
theorem C_X12_sign {g : Gx} {x1 : Int32} {I : MI} {L : ML} {res : Bool × MI × ML} (h : f_X12_sign x1 I L = some res) : Ent g 3 0 mX12_sign [.ref 149, .int x1] (I, L) (.inl (some (.int (bI res.1)))) (res.2.1, res.2.2) := Ent_of (by decide +kernel) (Nat.le_of_ble_eq_true rfl) (S_X12_sign x1 I L _ h)
def f_X12_number_104 (y0 : Int32) (I : MI) (L : ML) : Option (Int32 × MI × ML) := some (y0, I, L)
set_option maxRecDepth 100000 in
theorem S_X12_number_104 {g : Gx} (y0 : Int32) (I : MI) (L : ML) (res : Int32 × MI × ML) (h : f_X12_number_104 y0 I L = some res) : E g 3 0 mX12_number 104 [] [.int y0] (I, L) (.inl (some (.int res.1))) (res.2.1, res.2.2) := by
  unfold f_X12_number_104 at h
  cases h
  exact E_iret rfl dX12_number_104
def f_X12_number_99 (I : MI) (L : ML) : Option (Int32 × MI × ML) := f_X12_number_104 ((-1)) I L
set_option maxRecDepth 100000 in
theorem S_X12_number_99 {g : Gx} (I : MI) (L : ML) (res : Int32 × MI × ML) (h : f_X12_number_99 I L = some res) : E g 3 0 mX12_number 99 [] [] (I, L) (.inl (some (.int res.1))) (res.2.1, res.2.2) := by
  unfold f_X12_number_99 at h
  refine E_iconst (v := (-1)) 100 rfl dX12_number_99 (by decide) ?_
  refine E_goto 104 (by decide) dX12_number_100 ?_
  refine E_sub (lv' := []) [] rfl ?_
  exact S_X12_number_104 ((-1)) I L _ h
def f_X12_number_51 (k6 : Int32 → Int32 → Int32 → MI → ML → Option (Int32 × MI × ML)) (x1 : Int32) (x2 : Int32) (y0 : Int32) (I : MI) (L : ML) : Option (Int32 × MI × ML) := Option.bind (pfI I 149 9 ((I 149 9) + 1)) fun I1 => k6 x1 x2 y0 I1 L
set_option maxRecDepth 100000 in
theorem S_X12_number_51 {g : Gx} {k6 : Int32 → Int32 → Int32 → MI → ML → Option (Int32 × MI × ML)} (hk6 : ∀ (x1z : Int32) (x2z : Int32) (x3z : Int32) (I : MI) (L : ML) (res : Int32 × MI × ML), k6 x1z x2z x3z I L = some res → E g 3 0 mX12_number 6 [(0, .ref 149), (1, .int x1z), (2, .int x2z), (3, .int x3z)] [] (I, L) (.inl (some (.int res.1))) (res.2.1, res.2.2)) (x1 : Int32) (x2 : Int32) (y0 : Int32) (I : MI) (L : ML) (res : Int32 × MI × ML) (h : f_X12_number_51 k6 x1 x2 y0 I L = some res) : E g 3 0 mX12_number 51 [(0, .ref 149), (1, .int x1), (2, .int x2)] [.int y0] (I, L) (.inl (some (.int res.1))) (res.2.1, res.2.2) := by
  unfold f_X12_number_51 at h
  refine E_istore_n (lv' := [(3, .int y0), (0, .ref 149), (1, .int x1), (2, .int x2)]) 52 rfl dX12_number_51 rfl (Nat.le_of_ble_eq_true rfl) rfl ?_
  refine E_aload_n 53 rfl dX12_number_52 rfl 1 rfl ?_
  refine E_dup 54 rfl dX12_number_53 rfl ?_
  refine E_gI 57 rfl dX12_number_54 shc_149 fl_X12_73 rfl ?_
  refine E_iconst (v := 1) 58 rfl dX12_number_57 (by decide) ?_
  refine E_iadd 59 rfl dX12_number_58 ?_
  obtain ⟨I1, hI1, h⟩ := Option.bind_eq_some_iff.mp h
  refine E_pfI 62 rfl dX12_number_59 shc_149 fl_X12_73 rfl hI1 ?_
  refine E_goto 6 (by decide) dX12_number_62 ?_
  refine E_sub (lv' := [(0, .ref 149), (1, .int x1), (2, .int x2), (3, .int y0)]) [1, 2, 3, 0] rfl ?_
  exact hk6 x1 x2 y0 I1 L _ h
def f_X12_number_6 : Nat → Int32 → Int32 → Int32 → MI → ML → Option (Int32 × MI × ML)
  | 0, _, _, _, _, _ => none
  | n + 1, x1, x2, x3, I, L => Option.bind (f_X12_isAt 48 57 I L) fun v1 => if v1 = true then (if 3 ≤ ((I 149 9) - (I 149 11)) then (f_X12_number_51 (f_X12_number_6 n) x1 x2 x3 I L) else (Option.bind (ldI I 154 400 (I 149 9)) fun v8 => f_X12_number_51 (f_X12_number_6 n) x1 x2 (((10 * x3) + v8) - 48) I L)) else (if (I 149 9) = (I 149 11) then (f_X12_number_99 I L) else (if 3 < ((I 149 9) - (I 149 11)) then (f_X12_number_99 I L) else (if x3 < x1 then (f_X12_number_99 I L) else (if x3 ≤ x2 then (f_X12_number_104 x3 I L) else (f_X12_number_99 I L)))))
set_option maxRecDepth 100000 in
theorem S_X12_number_6 {g : Gx} : ∀ (n : Nat) (x1 : Int32) (x2 : Int32) (x3 : Int32) (I : MI) (L : ML) (res : Int32 × MI × ML), f_X12_number_6 n x1 x2 x3 I L = some res → E g 3 0 mX12_number 6 [(0, .ref 149), (1, .int x1), (2, .int x2), (3, .int x3)] [] (I, L) (.inl (some (.int res.1))) (res.2.1, res.2.2) := by
  intro n
  induction n with
  | zero =>
    intros
    rename_i h
    cases h
  | succ n ih =>
    intro x1 x2 x3 I L res h
    rw [f_X12_number_6] at h
    refine E_aload_n 7 rfl dX12_number_6 rfl 0 rfl ?_
    refine E_bipush (v := 48) 9 rfl dX12_number_7 (by decide) ?_
    refine E_bipush (v := 57) 11 rfl dX12_number_9 (by decide) ?_
    obtain ⟨v1, hv1, h⟩ := Option.bind_eq_some_iff.mp h
    refine E_cV1 (As := [.int 48, .int 57]) 14 rfl dX12_number_11 shc_149 ck_X12_79 cv_X12_isAt rfl (by decide) (Nat.le_of_ble_eq_true rfl) (C_X12_isAt (g := g) hv1) rfl ?_
    refine E_if_eqB 65 17 (by decide) rfl dX12_number_14 (fun c2 => ?_) (fun c2 => ?_)
    · rw [if_neg (by rw [c2]; decide)] at h
      refine E_aload_n 66 rfl dX12_number_65 rfl 0 rfl ?_
      refine E_gI 69 rfl dX12_number_66 shc_149 fl_X12_73 rfl ?_
      refine E_aload_n 70 rfl dX12_number_69 rfl 0 rfl ?_
      refine E_gI 73 rfl dX12_number_70 shc_149 fl_X12_83 rfl ?_
      refine E_icmp_eq 99 76 (by decide) rfl dX12_number_73 (fun c3 => ?_) (fun c3 => ?_)
      · rw [if_pos c3] at h
        refine E_sub (lv' := []) [] rfl ?_
        exact S_X12_number_99 I L _ h
      · rw [if_neg c3] at h
        refine E_aload_n 77 rfl dX12_number_76 rfl 0 rfl ?_
        refine E_gI 80 rfl dX12_number_77 shc_149 fl_X12_73 rfl ?_
        refine E_aload_n 81 rfl dX12_number_80 rfl 0 rfl ?_
        refine E_gI 84 rfl dX12_number_81 shc_149 fl_X12_83 rfl ?_
        refine E_isub 85 rfl dX12_number_84 ?_
        refine E_iconst (v := 3) 86 rfl dX12_number_85 (by decide) ?_
        refine E_icmp_gt 99 89 (by decide) rfl dX12_number_86 (fun c4 => ?_) (fun c4 => ?_)
        · rw [if_pos c4] at h
          refine E_sub (lv' := []) [] rfl ?_
          exact S_X12_number_99 I L _ h
        · rw [if_neg c4] at h
          refine E_iload_n 90 rfl dX12_number_89 rfl 3 rfl ?_
          refine E_iload_n 91 rfl dX12_number_90 rfl 1 rfl ?_
          refine E_icmp_lt 99 94 (by decide) rfl dX12_number_91 (fun c5 => ?_) (fun c5 => ?_)
          · rw [if_pos c5] at h
            refine E_sub (lv' := []) [] rfl ?_
            exact S_X12_number_99 I L _ h
          · rw [if_neg c5] at h
            refine E_iload_n 95 rfl dX12_number_94 rfl 3 rfl ?_
            refine E_iload_n 96 rfl dX12_number_95 rfl 2 rfl ?_
            refine E_icmp_le 103 99 (by decide) rfl dX12_number_96 (fun c6 => ?_) (fun c6 => ?_)
            · rw [if_pos c6] at h
              refine E_iload_n 104 rfl dX12_number_103 rfl 3 rfl ?_
              refine E_sub (lv' := []) [] rfl ?_
              exact S_X12_number_104 x3 I L _ h
            · rw [if_neg c6] at h
              refine E_sub (lv' := []) [] rfl ?_
              exact S_X12_number_99 I L _ h
    · rw [if_pos c2] at h
      refine E_aload_n 18 rfl dX12_number_17 rfl 0 rfl ?_
      refine E_gI 21 rfl dX12_number_18 shc_149 fl_X12_73 rfl ?_
      refine E_aload_n 22 rfl dX12_number_21 rfl 0 rfl ?_
      refine E_gI 25 rfl dX12_number_22 shc_149 fl_X12_83 rfl ?_
      refine E_isub 26 rfl dX12_number_25 ?_
      refine E_iconst (v := 3) 27 rfl dX12_number_26 (by decide) ?_
      refine E_icmp_ge 50 30 (by decide) rfl dX12_number_27 (fun c7 => ?_) (fun c7 => ?_)
      · rw [if_pos c7] at h
        refine E_iload_n 51 rfl dX12_number_50 rfl 3 rfl ?_
        refine E_sub (lv' := [(0, .ref 149), (1, .int x1), (2, .int x2)]) [0, 1, 2] rfl ?_
        exact S_X12_number_51 ih x1 x2 x3 I L _ h
      · rw [if_neg c7] at h
        refine E_bipush (v := 10) 32 rfl dX12_number_30 (by decide) ?_
        refine E_iload_n 33 rfl dX12_number_32 rfl 3 rfl ?_
        refine E_imul 34 rfl dX12_number_33 ?_
        refine E_aload_n 35 rfl dX12_number_34 rfl 0 rfl ?_
        refine E_gR 154 38 rfl dX12_number_35 shc_149 fl_X12_26 rfl (by decide) (by decide) ?_
        refine E_aload_n 39 rfl dX12_number_38 rfl 0 rfl ?_
        refine E_gI 42 rfl dX12_number_39 shc_149 fl_X12_73 rfl ?_
        obtain ⟨v8, hv8, h⟩ := Option.bind_eq_some_iff.mp h
        refine E_ldB 43 rfl dX12_number_42 shc_154 hv8 ?_
        refine E_iadd 44 rfl dX12_number_43 ?_
        refine E_bipush (v := 48) 46 rfl dX12_number_44 (by decide) ?_
        refine E_isub 47 rfl dX12_number_46 ?_
        refine E_goto 51 (by decide) dX12_number_47 ?_
        refine E_sub (lv' := [(0, .ref 149), (1, .int x1), (2, .int x2)]) [0, 1, 2] rfl ?_
        exact S_X12_number_51 ih x1 x2 (((10 * x3) + v8) - 48) I L _ h
def f_X12_number (x1 : Int32) (x2 : Int32) (I : MI) (L : ML) : Option (Int32 × MI × ML) := Option.bind (f_X12_blanks I L) fun w1 => f_X12_number_6 FU x1 x2 0 w1.1 w1.2
set_option maxRecDepth 100000 in
theorem S_X12_number {g : Gx} (x1 : Int32) (x2 : Int32) (I : MI) (L : ML) (res : Int32 × MI × ML) (h : f_X12_number x1 x2 I L = some res) : E g 3 0 mX12_number 0 [(0, .ref 149), (1, .int x1), (2, .int x2)] [] (I, L) (.inl (some (.int res.1))) (res.2.1, res.2.2) := by
  unfold f_X12_number at h
  refine E_aload_n 1 rfl dX12_number_0 rfl 0 rfl ?_
  obtain ⟨w1, hw1, h⟩ := Option.bind_eq_some_iff.mp h
  refine E_cV0 (As := []) 4 rfl dX12_number_1 shc_149 ck_X12_86 cv_X12_blanks rfl (by decide) (Nat.le_of_ble_eq_true rfl) (C_X12_blanks (g := g) hw1) rfl ?_
  refine E_iconst (v := 0) 5 rfl dX12_number_4 (by decide) ?_
  refine E_istore_n (lv' := [(3, .int 0), (0, .ref 149), (1, .int x1), (2, .int x2)]) 6 rfl dX12_number_5 rfl (Nat.le_of_ble_eq_true rfl) rfl ?_
  refine E_sub (lv' := [(0, .ref 149), (1, .int x1), (2, .int x2), (3, .int 0)]) [1, 2, 3, 0] rfl ?_
  exact S_X12_number_6 FU x1 x2 0 w1.1 w1.2 _ h
theorem C_X12_number {g : Gx} {x1 : Int32} {x2 : Int32} {I : MI} {L : ML} {res : Int32 × MI × ML} (h : f_X12_number x1 x2 I L = some res) : Ent g 3 0 mX12_number [.ref 149, .int x1, .int x2] (I, L) (.inl (some (.int res.1))) (res.2.1, res.2.2) := Ent_of (by decide +kernel) (Nat.le_of_ble_eq_true rfl) (S_X12_number x1 x2 I L _ h)
def f_X12_after_18 (y0 : Int32) (I : MI) (L : ML) : Option (Int32 × MI × ML) := some (y0, I, L)
set_option maxRecDepth 100000 in
theorem S_X12_after_18 {g : Gx} (y0 : Int32) (I : MI) (L : ML) (res : Int32 × MI × ML) (h : f_X12_after_18 y0 I L = some res) : E g 6 0 mX12_after 18 [] [.int y0] (I, L) (.inl (some (.int res.1))) (res.2.1, res.2.2) := by
  unfold f_X12_after_18 at h
  cases h
  exact E_iret rfl dX12_after_18
def f_X12_after (x1 : Nat) (x2 : Int32) (x3 : Int32) (I : MI) (L : ML) : Option (Int32 × MI × ML) := Option.bind (f_X12_needs x1 I L) fun w1 => if w1.1 = true then (Option.bind (f_X12_number x2 x3 w1.2.1 w1.2.2) fun w3 => f_X12_after_18 w3.1 w3.2.1 w3.2.2) else (f_X12_after_18 ((-1)) w1.2.1 w1.2.2)
set_option maxRecDepth 100000 in
theorem S_X12_after {g : Gx} (x1 : Nat) (x2 : Int32) (x3 : Int32) (hx1 : x1 < 66) (I : MI) (L : ML) (res : Int32 × MI × ML) (h : f_X12_after x1 x2 x3 I L = some res) : E g 6 0 mX12_after 0 [(0, .ref 149), (1, .ref (100000 + x1)), (2, .int x2), (3, .int x3)] [] (I, L) (.inl (some (.int res.1))) (res.2.1, res.2.2) := by
  unfold f_X12_after at h
  refine E_aload_n 1 rfl dX12_after_0 rfl 0 rfl ?_
  refine E_aload_n 2 rfl dX12_after_1 rfl 1 rfl ?_
  obtain ⟨w1, hw1, h⟩ := Option.bind_eq_some_iff.mp h
  refine E_cV1 (As := [.ref (100000 + x1)]) 5 rfl dX12_after_2 shc_149 ck_X12_105 cv_X12_needs rfl (by decide) (Nat.le_of_ble_eq_true rfl) (C_X12_needs (g := g) hx1 hw1) rfl ?_
  refine E_if_eqB 17 8 (by decide) rfl dX12_after_5 (fun c2 => ?_) (fun c2 => ?_)
  · rw [if_neg (by rw [c2]; decide)] at h
    refine E_iconst (v := (-1)) 18 rfl dX12_after_17 (by decide) ?_
    refine E_sub (lv' := []) [] rfl ?_
    exact S_X12_after_18 ((-1)) w1.2.1 w1.2.2 _ h
  · rw [if_pos c2] at h
    refine E_aload_n 9 rfl dX12_after_8 rfl 0 rfl ?_
    refine E_iload_n 10 rfl dX12_after_9 rfl 2 rfl ?_
    refine E_iload_n 11 rfl dX12_after_10 rfl 3 rfl ?_
    obtain ⟨w3, hw3, h⟩ := Option.bind_eq_some_iff.mp h
    refine E_cV1 (As := [.int x2, .int x3]) 14 rfl dX12_after_11 shc_149 ck_X12_108 cv_X12_number rfl (by decide) (Nat.le_of_ble_eq_true rfl) (C_X12_number (g := g) hw3) rfl ?_
    refine E_goto 18 (by decide) dX12_after_14 ?_
    refine E_sub (lv' := []) [] rfl ?_
    exact S_X12_after_18 w3.1 w3.2.1 w3.2.2 _ h
theorem C_X12_after {g : Gx} {x1 : Nat} {x2 : Int32} {x3 : Int32} (hx1 : x1 < 66) {I : MI} {L : ML} {res : Int32 × MI × ML} (h : f_X12_after x1 x2 x3 I L = some res) : Ent g 6 0 mX12_after [.ref 149, .ref (100000 + x1), .int x2, .int x3] (I, L) (.inl (some (.int res.1))) (res.2.1, res.2.2) := Ent_of (by decide +kernel) (Nat.le_of_ble_eq_true rfl) (S_X12_after x1 x2 x3 hx1 I L _ h)
def f_X12_fault (I : MI) (L : ML) : Option (Int32 × MI × ML) := Option.bind (pfI I 149 0 0) fun I1 => some (I1 149 13, I1, L)
set_option maxRecDepth 100000 in
theorem S_X12_fault {g : Gx} (I : MI) (L : ML) (res : Int32 × MI × ML) (h : f_X12_fault I L = some res) : E g 1 0 mX12_fault 0 [(0, .ref 149)] [] (I, L) (.inl (some (.int res.1))) (res.2.1, res.2.2) := by
  unfold f_X12_fault at h
  refine E_aload_n 1 rfl dX12_fault_0 rfl 0 rfl ?_
  refine E_iconst (v := 0) 2 rfl dX12_fault_1 (by decide) ?_
  obtain ⟨I1, hI1, h⟩ := Option.bind_eq_some_iff.mp h
  refine E_pfI 5 rfl dX12_fault_2 shc_149 fl_X12_3 rfl hI1 ?_
  refine E_aload_n 6 rfl dX12_fault_5 rfl 0 rfl ?_
  refine E_gI 9 rfl dX12_fault_6 shc_149 fl_X12_30 rfl ?_
  cases h
  exact E_iret rfl dX12_fault_9
theorem C_X12_fault {g : Gx} {I : MI} {L : ML} {res : Int32 × MI × ML} (h : f_X12_fault I L = some res) : Ent g 1 0 mX12_fault [.ref 149] (I, L) (.inl (some (.int res.1))) (res.2.1, res.2.2) := Ent_of (by decide +kernel) (Nat.le_of_ble_eq_true rfl) (S_X12_fault I L _ h)
def f_X12_uses (I : MI) (L : ML) : Option (MI × ML) := Option.bind (pfI I 149 0 0) fun I1 => Option.bind (pfI I1 149 10 (I1 149 8)) fun I2 => Option.bind (pfI I2 149 8 0) fun I3 => Option.bind (pfI I3 149 9 0) fun I4 => some (I4, L)
set_option maxRecDepth 100000 in
theorem S_X12_uses {g : Gx} (I : MI) (L : ML) (res : MI × ML) (h : f_X12_uses I L = some res) : E g 1 0 mX12_uses 0 [(0, .ref 149)] [] (I, L) (.inl none) (res.1, res.2) := by
  unfold f_X12_uses at h
  refine E_aload_n 1 rfl dX12_uses_0 rfl 0 rfl ?_
  refine E_iconst (v := 0) 2 rfl dX12_uses_1 (by decide) ?_
  obtain ⟨I1, hI1, h⟩ := Option.bind_eq_some_iff.mp h
  refine E_pfI 5 rfl dX12_uses_2 shc_149 fl_X12_3 rfl hI1 ?_
  refine E_aload_n 6 rfl dX12_uses_5 rfl 0 rfl ?_
  refine E_aload_n 7 rfl dX12_uses_6 rfl 0 rfl ?_
  refine E_gI 10 rfl dX12_uses_7 shc_149 fl_X12_70 rfl ?_
  obtain ⟨I2, hI2, h⟩ := Option.bind_eq_some_iff.mp h
  refine E_pfI 13 rfl dX12_uses_10 shc_149 fl_X12_76 rfl hI2 ?_
  refine E_aload_n 14 rfl dX12_uses_13 rfl 0 rfl ?_
  refine E_iconst (v := 0) 15 rfl dX12_uses_14 (by decide) ?_
  obtain ⟨I3, hI3, h⟩ := Option.bind_eq_some_iff.mp h
  refine E_pfI 18 rfl dX12_uses_15 shc_149 fl_X12_70 rfl hI3 ?_
  refine E_aload_n 19 rfl dX12_uses_18 rfl 0 rfl ?_
  refine E_iconst (v := 0) 20 rfl dX12_uses_19 (by decide) ?_
  obtain ⟨I4, hI4, h⟩ := Option.bind_eq_some_iff.mp h
  refine E_pfI 23 rfl dX12_uses_20 shc_149 fl_X12_73 rfl hI4 ?_
  cases h
  exact E_vret rfl dX12_uses_23
theorem C_X12_uses {g : Gx} {I : MI} {L : ML} {res : MI × ML} (h : f_X12_uses I L = some res) : Ent g 1 0 mX12_uses [.ref 149] (I, L) (.inl none) (res.1, res.2) := Ent_of (by decide +kernel) (Nat.le_of_ble_eq_true rfl) (S_X12_uses I L _ h)
def f_X12_roomTold (I : MI) (L : ML) : Option (Int32 × MI × ML) := Option.bind (f_X12_rooms I L) fun v1 => Option.bind (f_X12_number 0 (v1 - 1) I L) fun w2 => some (w2.1, w2.2.1, w2.2.2)
set_option maxRecDepth 100000 in
theorem S_X12_roomTold {g : Gx} (I : MI) (L : ML) (res : Int32 × MI × ML) (h : f_X12_roomTold I L = some res) : E g 4 0 mX12_roomTold 0 [(0, .ref 149)] [] (I, L) (.inl (some (.int res.1))) (res.2.1, res.2.2) := by
  unfold f_X12_roomTold at h
  refine E_aload_n 1 rfl dX12_roomTold_0 rfl 0 rfl ?_
  refine E_iconst (v := 0) 2 rfl dX12_roomTold_1 (by decide) ?_
  refine E_aload_n 3 rfl dX12_roomTold_2 rfl 0 rfl ?_
  obtain ⟨v1, hv1, h⟩ := Option.bind_eq_some_iff.mp h
  refine E_cV1 (As := []) 6 rfl dX12_roomTold_3 shc_149 ck_X12_56 cv_X12_rooms rfl (by decide) (Nat.le_of_ble_eq_true rfl) (C_X12_rooms (g := g) hv1) rfl ?_
  refine E_iconst (v := 1) 7 rfl dX12_roomTold_6 (by decide) ?_
  refine E_isub 8 rfl dX12_roomTold_7 ?_
  obtain ⟨w2, hw2, h⟩ := Option.bind_eq_some_iff.mp h
  refine E_cV1 (As := [.int 0, .int (v1 - 1)]) 11 rfl dX12_roomTold_8 shc_149 ck_X12_108 cv_X12_number rfl (by decide) (Nat.le_of_ble_eq_true rfl) (C_X12_number (g := g) hw2) rfl ?_
  cases h
  exact E_iret rfl dX12_roomTold_11
theorem C_X12_roomTold {g : Gx} {I : MI} {L : ML} {res : Int32 × MI × ML} (h : f_X12_roomTold I L = some res) : Ent g 4 0 mX12_roomTold [.ref 149] (I, L) (.inl (some (.int res.1))) (res.2.1, res.2.2) := Ent_of (by decide +kernel) (Nat.le_of_ble_eq_true rfl) (S_X12_roomTold I L _ h)
def f_X12_readRoom_55 (y0 : Bool) (I : MI) (L : ML) : Option (Bool × MI × ML) := some (y0, I, L)
set_option maxRecDepth 100000 in
theorem S_X12_readRoom_55 {g : Gx} (y0 : Bool) (I : MI) (L : ML) (res : Bool × MI × ML) (h : f_X12_readRoom_55 y0 I L = some res) : E g 4 0 mX12_readRoom 55 [] [.int (bI y0)] (I, L) (.inl (some (.int (bI res.1)))) (res.2.1, res.2.2) := by
  unfold f_X12_readRoom_55 at h
  cases h
  exact E_zret (x := y0) rfl dX12_readRoom_55
def f_X12_readRoom_46 (x1 : Int32) (I : MI) (L : ML) : Option (Bool × MI × ML) := if x1 < 0 then (f_X12_readRoom_55 false I L) else (f_X12_readRoom_55 true I L)
set_option maxRecDepth 100000 in
theorem S_X12_readRoom_46 {g : Gx} (x1 : Int32) (I : MI) (L : ML) (res : Bool × MI × ML) (h : f_X12_readRoom_46 x1 I L = some res) : E g 4 0 mX12_readRoom 46 [(1, .int x1)] [] (I, L) (.inl (some (.int (bI res.1)))) (res.2.1, res.2.2) := by
  unfold f_X12_readRoom_46 at h
  refine E_iload_n 47 rfl dX12_readRoom_46 rfl 0 rfl ?_
  refine E_if_lt 54 50 (by decide) rfl dX12_readRoom_47 (fun c1 => ?_) (fun c1 => ?_)
  · rw [if_pos c1] at h
    refine E_iconst (v := 0) 55 rfl dX12_readRoom_54 (by decide) ?_
    refine E_sub (lv' := []) [] rfl ?_
    exact S_X12_readRoom_55 false I L _ h
  · rw [if_neg c1] at h
    refine E_iconst (v := 1) 51 rfl dX12_readRoom_50 (by decide) ?_
    refine E_goto 55 (by decide) dX12_readRoom_51 ?_
    refine E_sub (lv' := []) [] rfl ?_
    exact S_X12_readRoom_55 true I L _ h
def f_X12_readRoom (I : MI) (L : ML) : Option (Bool × MI × ML) := Option.bind (f_X12_rooms I L) fun v1 => if v1 = 10 then (some (false, I, L)) else (Option.bind (f_X12_number 0 20 I L) fun w3 => Option.bind (f_X12_rooms w3.2.1 w3.2.2) fun v4 => Option.bind (stI w3.2.1 150 2143 (15 + v4) w3.1) fun I5 => if w3.1 < 0 then (f_X12_readRoom_46 w3.1 I5 w3.2.2) else (Option.bind (ldI I5 150 2143 0) fun v7 => Option.bind (stI I5 150 2143 0 (v7 + 1)) fun I8 => f_X12_readRoom_46 w3.1 I8 w3.2.2))
set_option maxRecDepth 100000 in
theorem S_X12_readRoom {g : Gx} (I : MI) (L : ML) (res : Bool × MI × ML) (h : f_X12_readRoom I L = some res) : E g 4 0 mX12_readRoom 0 [(0, .ref 149)] [] (I, L) (.inl (some (.int (bI res.1)))) (res.2.1, res.2.2) := by
  unfold f_X12_readRoom at h
  refine E_aload_n 1 rfl dX12_readRoom_0 rfl 0 rfl ?_
  obtain ⟨v1, hv1, h⟩ := Option.bind_eq_some_iff.mp h
  refine E_cV1 (As := []) 4 rfl dX12_readRoom_1 shc_149 ck_X12_56 cv_X12_rooms rfl (by decide) (Nat.le_of_ble_eq_true rfl) (C_X12_rooms (g := g) hv1) rfl ?_
  refine E_bipush (v := 10) 6 rfl dX12_readRoom_4 (by decide) ?_
  refine E_icmp_ne 11 9 (by decide) rfl dX12_readRoom_6 (fun c2 => ?_) (fun c2 => ?_)
  · rw [if_neg c2] at h
    refine E_aload_n 12 rfl dX12_readRoom_11 rfl 0 rfl ?_
    refine E_iconst (v := 0) 13 rfl dX12_readRoom_12 (by decide) ?_
    refine E_bipush (v := 20) 15 rfl dX12_readRoom_13 (by decide) ?_
    obtain ⟨w3, hw3, h⟩ := Option.bind_eq_some_iff.mp h
    refine E_cV1 (As := [.int 0, .int 20]) 18 rfl dX12_readRoom_15 shc_149 ck_X12_108 cv_X12_number rfl (by decide) (Nat.le_of_ble_eq_true rfl) (C_X12_number (g := g) hw3) rfl ?_
    refine E_istore_n (lv' := [(1, .int w3.1), (0, .ref 149)]) 19 rfl dX12_readRoom_18 rfl (Nat.le_of_ble_eq_true rfl) rfl ?_
    refine E_aload_n 20 rfl dX12_readRoom_19 rfl 1 rfl ?_
    refine E_gR 150 23 rfl dX12_readRoom_20 shc_149 fl_X12_13 rfl (by decide) (by decide) ?_
    refine E_bipush (v := 15) 25 rfl dX12_readRoom_23 (by decide) ?_
    refine E_aload_n 26 rfl dX12_readRoom_25 rfl 1 rfl ?_
    obtain ⟨v4, hv4, h⟩ := Option.bind_eq_some_iff.mp h
    refine E_cV1 (As := []) 29 rfl dX12_readRoom_26 shc_149 ck_X12_56 cv_X12_rooms rfl (by decide) (Nat.le_of_ble_eq_true rfl) (C_X12_rooms (g := g) hv4) rfl ?_
    refine E_iadd 30 rfl dX12_readRoom_29 ?_
    refine E_iload_n 31 rfl dX12_readRoom_30 rfl 0 rfl ?_
    obtain ⟨I5, hI5, h⟩ := Option.bind_eq_some_iff.mp h
    refine E_stI 32 rfl dX12_readRoom_31 shc_150 hI5 ?_
    refine E_iload_n 33 rfl dX12_readRoom_32 rfl 0 rfl ?_
    refine E_if_lt 46 36 (by decide) rfl dX12_readRoom_33 (fun c6 => ?_) (fun c6 => ?_)
    · rw [if_pos c6] at h
      refine E_sub (lv' := [(1, .int w3.1)]) [0] rfl ?_
      exact S_X12_readRoom_46 w3.1 I5 w3.2.2 _ h
    · rw [if_neg c6] at h
      refine E_aload_n 37 rfl dX12_readRoom_36 rfl 1 rfl ?_
      refine E_gR 150 40 rfl dX12_readRoom_37 shc_149 fl_X12_13 rfl (by decide) (by decide) ?_
      refine E_iconst (v := 0) 41 rfl dX12_readRoom_40 (by decide) ?_
      refine E_dup2 42 rfl dX12_readRoom_41 rfl rfl ?_
      obtain ⟨v7, hv7, h⟩ := Option.bind_eq_some_iff.mp h
      refine E_ldI 43 rfl dX12_readRoom_42 shc_150 hv7 ?_
      refine E_iconst (v := 1) 44 rfl dX12_readRoom_43 (by decide) ?_
      refine E_iadd 45 rfl dX12_readRoom_44 ?_
      obtain ⟨I8, hI8, h⟩ := Option.bind_eq_some_iff.mp h
      refine E_stI 46 rfl dX12_readRoom_45 shc_150 hI8 ?_
      refine E_sub (lv' := [(1, .int w3.1)]) [0] rfl ?_
      exact S_X12_readRoom_46 w3.1 I8 w3.2.2 _ h
  · rw [if_pos c2] at h
    refine E_iconst (v := 0) 10 rfl dX12_readRoom_9 (by decide) ?_
    cases h
    exact E_zret (x := false) rfl dX12_readRoom_10
theorem C_X12_readRoom {g : Gx} {I : MI} {L : ML} {res : Bool × MI × ML} (h : f_X12_readRoom I L = some res) : Ent g 4 0 mX12_readRoom [.ref 149] (I, L) (.inl (some (.int (bI res.1)))) (res.2.1, res.2.2) := Ent_of (by decide +kernel) (Nat.le_of_ble_eq_true rfl) (S_X12_readRoom I L _ h)
def f_X12_readDoor_42 (I : MI) (L : ML) : Option (Bool × MI × ML) := some (false, I, L)
set_option maxRecDepth 100000 in
theorem S_X12_readDoor_42 {g : Gx} (I : MI) (L : ML) (res : Bool × MI × ML) (h : f_X12_readDoor_42 I L = some res) : E g 5 0 mX12_readDoor 42 [] [] (I, L) (.inl (some (.int (bI res.1)))) (res.2.1, res.2.2) := by
  unfold f_X12_readDoor_42 at h
  refine E_iconst (v := 0) 43 rfl dX12_readDoor_42 (by decide) ?_
  cases h
  exact E_zret (x := false) rfl dX12_readDoor_43
def f_X12_readDoor_32 (x1 : Int32) (x2 : Int32) (y0 : Int32) (I : MI) (L : ML) : Option (Bool × MI × ML) := if y0 < 0 then (f_X12_readDoor_42 I L) else (if x2 = y0 then (f_X12_readDoor_42 I L) else (Option.bind (f_X12_number 1 30 I L) fun w3 => if 0 ≤ w3.1 then (Option.bind (stI w3.2.1 150 2143 (25 + (3 * x1)) x2) fun I5 => Option.bind (stI I5 150 2143 ((25 + (3 * x1)) + 1) y0) fun I6 => Option.bind (stI I6 150 2143 ((25 + (3 * x1)) + 2) w3.1) fun I7 => Option.bind (ldI I7 150 2143 1) fun v8 => Option.bind (stI I7 150 2143 1 (v8 + 1)) fun I9 => some (true, I9, w3.2.2)) else (some (false, w3.2.1, w3.2.2))))
set_option maxRecDepth 100000 in
theorem S_X12_readDoor_32 {g : Gx} (x1 : Int32) (x2 : Int32) (y0 : Int32) (I : MI) (L : ML) (res : Bool × MI × ML) (h : f_X12_readDoor_32 x1 x2 y0 I L = some res) : E g 5 0 mX12_readDoor 32 [(0, .ref 149), (1, .int x1), (2, .int x2)] [.int y0] (I, L) (.inl (some (.int (bI res.1)))) (res.2.1, res.2.2) := by
  unfold f_X12_readDoor_32 at h
  refine E_istore_n (lv' := [(3, .int y0), (0, .ref 149), (1, .int x1), (2, .int x2)]) 33 rfl dX12_readDoor_32 rfl (Nat.le_of_ble_eq_true rfl) rfl ?_
  refine E_iload_n 34 rfl dX12_readDoor_33 rfl 0 rfl ?_
  refine E_if_lt 42 37 (by decide) rfl dX12_readDoor_34 (fun c1 => ?_) (fun c1 => ?_)
  · rw [if_pos c1] at h
    refine E_sub (lv' := []) [] rfl ?_
    exact S_X12_readDoor_42 I L _ h
  · rw [if_neg c1] at h
    refine E_iload_n 38 rfl dX12_readDoor_37 rfl 3 rfl ?_
    refine E_iload_n 39 rfl dX12_readDoor_38 rfl 0 rfl ?_
    refine E_icmp_ne 44 42 (by decide) rfl dX12_readDoor_39 (fun c2 => ?_) (fun c2 => ?_)
    · rw [if_neg c2] at h
      refine E_aload_n 45 rfl dX12_readDoor_44 rfl 1 rfl ?_
      refine E_iconst (v := 1) 46 rfl dX12_readDoor_45 (by decide) ?_
      refine E_bipush (v := 30) 48 rfl dX12_readDoor_46 (by decide) ?_
      obtain ⟨w3, hw3, h⟩ := Option.bind_eq_some_iff.mp h
      refine E_cV1 (As := [.int 1, .int 30]) 51 rfl dX12_readDoor_48 shc_149 ck_X12_108 cv_X12_number rfl (by decide) (Nat.le_of_ble_eq_true rfl) (C_X12_number (g := g) hw3) rfl ?_
      refine E_istore (lv' := [(4, .int w3.1), (3, .int y0), (0, .ref 149), (1, .int x1), (2, .int x2)]) 53 rfl dX12_readDoor_51 (Nat.le_of_ble_eq_true rfl) rfl ?_
      refine E_iload 55 rfl dX12_readDoor_53 0 rfl ?_
      refine E_if_ge 60 58 (by decide) rfl dX12_readDoor_55 (fun c4 => ?_) (fun c4 => ?_)
      · rw [if_pos c4] at h
        refine E_aload_n 61 rfl dX12_readDoor_60 rfl 2 rfl ?_
        refine E_gR 150 64 rfl dX12_readDoor_61 shc_149 fl_X12_13 rfl (by decide) (by decide) ?_
        refine E_bipush (v := 25) 66 rfl dX12_readDoor_64 (by decide) ?_
        refine E_iconst (v := 3) 67 rfl dX12_readDoor_66 (by decide) ?_
        refine E_iload_n 68 rfl dX12_readDoor_67 rfl 3 rfl ?_
        refine E_imul 69 rfl dX12_readDoor_68 ?_
        refine E_iadd 70 rfl dX12_readDoor_69 ?_
        refine E_iload_n 71 rfl dX12_readDoor_70 rfl 4 rfl ?_
        obtain ⟨I5, hI5, h⟩ := Option.bind_eq_some_iff.mp h
        refine E_stI 72 rfl dX12_readDoor_71 shc_150 hI5 ?_
        refine E_aload_n 73 rfl dX12_readDoor_72 rfl 2 rfl ?_
        refine E_gR 150 76 rfl dX12_readDoor_73 shc_149 fl_X12_13 rfl (by decide) (by decide) ?_
        refine E_bipush (v := 25) 78 rfl dX12_readDoor_76 (by decide) ?_
        refine E_iconst (v := 3) 79 rfl dX12_readDoor_78 (by decide) ?_
        refine E_iload_n 80 rfl dX12_readDoor_79 rfl 3 rfl ?_
        refine E_imul 81 rfl dX12_readDoor_80 ?_
        refine E_iadd 82 rfl dX12_readDoor_81 ?_
        refine E_iconst (v := 1) 83 rfl dX12_readDoor_82 (by decide) ?_
        refine E_iadd 84 rfl dX12_readDoor_83 ?_
        refine E_iload_n 85 rfl dX12_readDoor_84 rfl 1 rfl ?_
        obtain ⟨I6, hI6, h⟩ := Option.bind_eq_some_iff.mp h
        refine E_stI 86 rfl dX12_readDoor_85 shc_150 hI6 ?_
        refine E_aload_n 87 rfl dX12_readDoor_86 rfl 2 rfl ?_
        refine E_gR 150 90 rfl dX12_readDoor_87 shc_149 fl_X12_13 rfl (by decide) (by decide) ?_
        refine E_bipush (v := 25) 92 rfl dX12_readDoor_90 (by decide) ?_
        refine E_iconst (v := 3) 93 rfl dX12_readDoor_92 (by decide) ?_
        refine E_iload_n 94 rfl dX12_readDoor_93 rfl 3 rfl ?_
        refine E_imul 95 rfl dX12_readDoor_94 ?_
        refine E_iadd 96 rfl dX12_readDoor_95 ?_
        refine E_iconst (v := 2) 97 rfl dX12_readDoor_96 (by decide) ?_
        refine E_iadd 98 rfl dX12_readDoor_97 ?_
        refine E_iload 100 rfl dX12_readDoor_98 0 rfl ?_
        obtain ⟨I7, hI7, h⟩ := Option.bind_eq_some_iff.mp h
        refine E_stI 101 rfl dX12_readDoor_100 shc_150 hI7 ?_
        refine E_aload_n 102 rfl dX12_readDoor_101 rfl 2 rfl ?_
        refine E_gR 150 105 rfl dX12_readDoor_102 shc_149 fl_X12_13 rfl (by decide) (by decide) ?_
        refine E_iconst (v := 1) 106 rfl dX12_readDoor_105 (by decide) ?_
        refine E_dup2 107 rfl dX12_readDoor_106 rfl rfl ?_
        obtain ⟨v8, hv8, h⟩ := Option.bind_eq_some_iff.mp h
        refine E_ldI 108 rfl dX12_readDoor_107 shc_150 hv8 ?_
        refine E_iconst (v := 1) 109 rfl dX12_readDoor_108 (by decide) ?_
        refine E_iadd 110 rfl dX12_readDoor_109 ?_
        obtain ⟨I9, hI9, h⟩ := Option.bind_eq_some_iff.mp h
        refine E_stI 111 rfl dX12_readDoor_110 shc_150 hI9 ?_
        refine E_iconst (v := 1) 112 rfl dX12_readDoor_111 (by decide) ?_
        cases h
        exact E_zret (x := true) rfl dX12_readDoor_112
      · rw [if_neg c4] at h
        refine E_iconst (v := 0) 59 rfl dX12_readDoor_58 (by decide) ?_
        cases h
        exact E_zret (x := false) rfl dX12_readDoor_59
    · rw [if_pos c2] at h
      refine E_sub (lv' := []) [] rfl ?_
      exact S_X12_readDoor_42 I L _ h
def f_X12_readDoor (I : MI) (L : ML) : Option (Bool × MI × ML) := Option.bind (ldI I 150 2143 1) fun v1 => if v1 = 14 then (some (false, I, L)) else (Option.bind (f_X12_roomTold I L) fun w3 => if 0 ≤ w3.1 then (Option.bind (f_X12_roomTold w3.2.1 w3.2.2) fun w5 => f_X12_readDoor_32 v1 w3.1 w5.1 w5.2.1 w5.2.2) else (f_X12_readDoor_32 v1 w3.1 ((-1)) w3.2.1 w3.2.2))
set_option maxRecDepth 100000 in
theorem S_X12_readDoor {g : Gx} (I : MI) (L : ML) (res : Bool × MI × ML) (h : f_X12_readDoor I L = some res) : E g 5 0 mX12_readDoor 0 [(0, .ref 149)] [] (I, L) (.inl (some (.int (bI res.1)))) (res.2.1, res.2.2) := by
  unfold f_X12_readDoor at h
  refine E_aload_n 1 rfl dX12_readDoor_0 rfl 0 rfl ?_
  refine E_gR 150 4 rfl dX12_readDoor_1 shc_149 fl_X12_13 rfl (by decide) (by decide) ?_
  refine E_iconst (v := 1) 5 rfl dX12_readDoor_4 (by decide) ?_
  obtain ⟨v1, hv1, h⟩ := Option.bind_eq_some_iff.mp h
  refine E_ldI 6 rfl dX12_readDoor_5 shc_150 hv1 ?_
  refine E_istore_n (lv' := [(1, .int v1), (0, .ref 149)]) 7 rfl dX12_readDoor_6 rfl (Nat.le_of_ble_eq_true rfl) rfl ?_
  refine E_iload_n 8 rfl dX12_readDoor_7 rfl 0 rfl ?_
  refine E_bipush (v := 14) 10 rfl dX12_readDoor_8 (by decide) ?_
  refine E_icmp_ne 15 13 (by decide) rfl dX12_readDoor_10 (fun c2 => ?_) (fun c2 => ?_)
  · rw [if_neg c2] at h
    refine E_aload_n 16 rfl dX12_readDoor_15 rfl 1 rfl ?_
    obtain ⟨w3, hw3, h⟩ := Option.bind_eq_some_iff.mp h
    refine E_cV1 (As := []) 19 rfl dX12_readDoor_16 shc_149 ck_X12_112 cv_X12_roomTold rfl (by decide) (Nat.le_of_ble_eq_true rfl) (C_X12_roomTold (g := g) hw3) rfl ?_
    refine E_istore_n (lv' := [(2, .int w3.1), (1, .int v1), (0, .ref 149)]) 20 rfl dX12_readDoor_19 rfl (Nat.le_of_ble_eq_true rfl) rfl ?_
    refine E_iload_n 21 rfl dX12_readDoor_20 rfl 0 rfl ?_
    refine E_if_ge 28 24 (by decide) rfl dX12_readDoor_21 (fun c4 => ?_) (fun c4 => ?_)
    · rw [if_pos c4] at h
      refine E_aload_n 29 rfl dX12_readDoor_28 rfl 2 rfl ?_
      obtain ⟨w5, hw5, h⟩ := Option.bind_eq_some_iff.mp h
      refine E_cV1 (As := []) 32 rfl dX12_readDoor_29 shc_149 ck_X12_112 cv_X12_roomTold rfl (by decide) (Nat.le_of_ble_eq_true rfl) (C_X12_roomTold (g := g) hw5) rfl ?_
      refine E_sub (lv' := [(0, .ref 149), (1, .int v1), (2, .int w3.1)]) [2, 1, 0] rfl ?_
      exact S_X12_readDoor_32 v1 w3.1 w5.1 w5.2.1 w5.2.2 _ h
    · rw [if_neg c4] at h
      refine E_iconst (v := (-1)) 25 rfl dX12_readDoor_24 (by decide) ?_
      refine E_goto 32 (by decide) dX12_readDoor_25 ?_
      refine E_sub (lv' := [(0, .ref 149), (1, .int v1), (2, .int w3.1)]) [2, 1, 0] rfl ?_
      exact S_X12_readDoor_32 v1 w3.1 ((-1)) w3.2.1 w3.2.2 _ h
  · rw [if_pos c2] at h
    refine E_iconst (v := 0) 14 rfl dX12_readDoor_13 (by decide) ?_
    cases h
    exact E_zret (x := false) rfl dX12_readDoor_14
theorem C_X12_readDoor {g : Gx} {I : MI} {L : ML} {res : Bool × MI × ML} (h : f_X12_readDoor I L = some res) : Ent g 5 0 mX12_readDoor [.ref 149] (I, L) (.inl (some (.int (bI res.1)))) (res.2.1, res.2.2) := Ent_of (by decide +kernel) (Nat.le_of_ble_eq_true rfl) (S_X12_readDoor I L _ h)
def f_X12_readHeir_44 (x1 : Int32) (x2 : Int32) (y0 : Int32) (I : MI) (L : ML) : Option (Bool × MI × ML) := if 0 ≤ y0 then (Option.bind (f_X12_setsHeir x1 0 x2 I L) fun w2 => Option.bind (f_X12_setsHeir x1 1 y0 w2.1 w2.2) fun w3 => Option.bind (f_X12_setsHeir x1 2 0 w3.1 w3.2) fun w4 => Option.bind (ldI w4.1 150 2143 2) fun v5 => Option.bind (stI w4.1 150 2143 2 (v5 + 1)) fun I6 => some (true, I6, w4.2)) else (some (false, I, L))
set_option maxRecDepth 100000 in
theorem S_X12_readHeir_44 {g : Gx} (x1 : Int32) (x2 : Int32) (y0 : Int32) (I : MI) (L : ML) (res : Bool × MI × ML) (h : f_X12_readHeir_44 x1 x2 y0 I L = some res) : E g 7 0 mX12_readHeir 44 [(0, .ref 149), (1, .int x1), (2, .int x2)] [.int y0] (I, L) (.inl (some (.int (bI res.1)))) (res.2.1, res.2.2) := by
  unfold f_X12_readHeir_44 at h
  refine E_istore_n (lv' := [(3, .int y0), (0, .ref 149), (1, .int x1), (2, .int x2)]) 45 rfl dX12_readHeir_44 rfl (Nat.le_of_ble_eq_true rfl) rfl ?_
  refine E_iload_n 46 rfl dX12_readHeir_45 rfl 0 rfl ?_
  refine E_if_ge 51 49 (by decide) rfl dX12_readHeir_46 (fun c1 => ?_) (fun c1 => ?_)
  · rw [if_pos c1] at h
    refine E_aload_n 52 rfl dX12_readHeir_51 rfl 1 rfl ?_
    refine E_iload_n 53 rfl dX12_readHeir_52 rfl 2 rfl ?_
    refine E_iconst (v := 0) 54 rfl dX12_readHeir_53 (by decide) ?_
    refine E_iload_n 55 rfl dX12_readHeir_54 rfl 3 rfl ?_
    obtain ⟨w2, hw2, h⟩ := Option.bind_eq_some_iff.mp h
    refine E_cV0 (As := [.int x1, .int 0, .int x2]) 58 rfl dX12_readHeir_55 shc_149 ck_X12_122 cv_X12_setsHeir rfl (by decide) (Nat.le_of_ble_eq_true rfl) (C_X12_setsHeir (g := g) hw2) rfl ?_
    refine E_aload_n 59 rfl dX12_readHeir_58 rfl 1 rfl ?_
    refine E_iload_n 60 rfl dX12_readHeir_59 rfl 2 rfl ?_
    refine E_iconst (v := 1) 61 rfl dX12_readHeir_60 (by decide) ?_
    refine E_iload_n 62 rfl dX12_readHeir_61 rfl 0 rfl ?_
    obtain ⟨w3, hw3, h⟩ := Option.bind_eq_some_iff.mp h
    refine E_cV0 (As := [.int x1, .int 1, .int y0]) 65 rfl dX12_readHeir_62 shc_149 ck_X12_122 cv_X12_setsHeir rfl (by decide) (Nat.le_of_ble_eq_true rfl) (C_X12_setsHeir (g := g) hw3) rfl ?_
    refine E_aload_n 66 rfl dX12_readHeir_65 rfl 1 rfl ?_
    refine E_iload_n 67 rfl dX12_readHeir_66 rfl 2 rfl ?_
    refine E_iconst (v := 2) 68 rfl dX12_readHeir_67 (by decide) ?_
    refine E_iconst (v := 0) 69 rfl dX12_readHeir_68 (by decide) ?_
    obtain ⟨w4, hw4, h⟩ := Option.bind_eq_some_iff.mp h
    refine E_cV0 (As := [.int x1, .int 2, .int 0]) 72 rfl dX12_readHeir_69 shc_149 ck_X12_122 cv_X12_setsHeir rfl (by decide) (Nat.le_of_ble_eq_true rfl) (C_X12_setsHeir (g := g) hw4) rfl ?_
    refine E_aload_n 73 rfl dX12_readHeir_72 rfl 1 rfl ?_
    refine E_gR 150 76 rfl dX12_readHeir_73 shc_149 fl_X12_13 rfl (by decide) (by decide) ?_
    refine E_iconst (v := 2) 77 rfl dX12_readHeir_76 (by decide) ?_
    refine E_dup2 78 rfl dX12_readHeir_77 rfl rfl ?_
    obtain ⟨v5, hv5, h⟩ := Option.bind_eq_some_iff.mp h
    refine E_ldI 79 rfl dX12_readHeir_78 shc_150 hv5 ?_
    refine E_iconst (v := 1) 80 rfl dX12_readHeir_79 (by decide) ?_
    refine E_iadd 81 rfl dX12_readHeir_80 ?_
    obtain ⟨I6, hI6, h⟩ := Option.bind_eq_some_iff.mp h
    refine E_stI 82 rfl dX12_readHeir_81 shc_150 hI6 ?_
    refine E_iconst (v := 1) 83 rfl dX12_readHeir_82 (by decide) ?_
    cases h
    exact E_zret (x := true) rfl dX12_readHeir_83
  · rw [if_neg c1] at h
    refine E_iconst (v := 0) 50 rfl dX12_readHeir_49 (by decide) ?_
    cases h
    exact E_zret (x := false) rfl dX12_readHeir_50
def f_X12_readHeir_20 (I : MI) (L : ML) : Option (Bool × MI × ML) := some (false, I, L)
set_option maxRecDepth 100000 in
theorem S_X12_readHeir_20 {g : Gx} (I : MI) (L : ML) (res : Bool × MI × ML) (h : f_X12_readHeir_20 I L = some res) : E g 7 0 mX12_readHeir 20 [] [] (I, L) (.inl (some (.int (bI res.1)))) (res.2.1, res.2.2) := by
  unfold f_X12_readHeir_20 at h
  refine E_iconst (v := 0) 21 rfl dX12_readHeir_20 (by decide) ?_
  cases h
  exact E_zret (x := false) rfl dX12_readHeir_21
def f_X12_readHeir (I : MI) (L : ML) : Option (Bool × MI × ML) := Option.bind (f_X12_heirs I L) fun v1 => if v1 = 6 then (f_X12_readHeir_20 I L) else (Option.bind (f_X12_needs 43 I L) fun w3 => if w3.1 = true then (Option.bind (f_X12_roomTold w3.2.1 w3.2.2) fun w5 => if 0 ≤ w5.1 then (Option.bind (f_X12_after 44 1 50 w5.2.1 w5.2.2) fun w7 => f_X12_readHeir_44 v1 w5.1 w7.1 w7.2.1 w7.2.2) else (f_X12_readHeir_44 v1 w5.1 ((-1)) w5.2.1 w5.2.2)) else (f_X12_readHeir_20 w3.2.1 w3.2.2))
set_option maxRecDepth 100000 in
theorem S_X12_readHeir {g : Gx} (I : MI) (L : ML) (res : Bool × MI × ML) (h : f_X12_readHeir I L = some res) : E g 7 0 mX12_readHeir 0 [(0, .ref 149)] [] (I, L) (.inl (some (.int (bI res.1)))) (res.2.1, res.2.2) := by
  unfold f_X12_readHeir at h
  refine E_aload_n 1 rfl dX12_readHeir_0 rfl 0 rfl ?_
  obtain ⟨v1, hv1, h⟩ := Option.bind_eq_some_iff.mp h
  refine E_cV1 (As := []) 4 rfl dX12_readHeir_1 shc_149 ck_X12_64 cv_X12_heirs rfl (by decide) (Nat.le_of_ble_eq_true rfl) (C_X12_heirs (g := g) hv1) rfl ?_
  refine E_istore_n (lv' := [(1, .int v1), (0, .ref 149)]) 5 rfl dX12_readHeir_4 rfl (Nat.le_of_ble_eq_true rfl) rfl ?_
  refine E_iload_n 6 rfl dX12_readHeir_5 rfl 0 rfl ?_
  refine E_bipush (v := 6) 8 rfl dX12_readHeir_6 (by decide) ?_
  refine E_icmp_eq 20 11 (by decide) rfl dX12_readHeir_8 (fun c2 => ?_) (fun c2 => ?_)
  · rw [if_pos c2] at h
    refine E_sub (lv' := []) [] rfl ?_
    exact S_X12_readHeir_20 I L _ h
  · rw [if_neg c2] at h
    refine E_aload_n 12 rfl dX12_readHeir_11 rfl 1 rfl ?_
    refine E_ldcS 43 (by decide) 14 rfl dX12_readHeir_12 rfl ?_
    obtain ⟨w3, hw3, h⟩ := Option.bind_eq_some_iff.mp h
    refine E_cV1 (As := [.ref (100000 + 43)]) 17 rfl dX12_readHeir_14 shc_149 ck_X12_105 cv_X12_needs rfl (by decide) (Nat.le_of_ble_eq_true rfl) (C_X12_needs (g := g) (by decide) hw3) rfl ?_
    refine E_if_neB 22 20 (by decide) rfl dX12_readHeir_17 (fun c4 => ?_) (fun c4 => ?_)
    · rw [if_pos c4] at h
      refine E_aload_n 23 rfl dX12_readHeir_22 rfl 1 rfl ?_
      obtain ⟨w5, hw5, h⟩ := Option.bind_eq_some_iff.mp h
      refine E_cV1 (As := []) 26 rfl dX12_readHeir_23 shc_149 ck_X12_112 cv_X12_roomTold rfl (by decide) (Nat.le_of_ble_eq_true rfl) (C_X12_roomTold (g := g) hw5) rfl ?_
      refine E_istore_n (lv' := [(2, .int w5.1), (1, .int v1), (0, .ref 149)]) 27 rfl dX12_readHeir_26 rfl (Nat.le_of_ble_eq_true rfl) rfl ?_
      refine E_iload_n 28 rfl dX12_readHeir_27 rfl 0 rfl ?_
      refine E_if_ge 35 31 (by decide) rfl dX12_readHeir_28 (fun c6 => ?_) (fun c6 => ?_)
      · rw [if_pos c6] at h
        refine E_aload_n 36 rfl dX12_readHeir_35 rfl 2 rfl ?_
        refine E_ldcS 44 (by decide) 38 rfl dX12_readHeir_36 rfl ?_
        refine E_iconst (v := 1) 39 rfl dX12_readHeir_38 (by decide) ?_
        refine E_bipush (v := 50) 41 rfl dX12_readHeir_39 (by decide) ?_
        obtain ⟨w7, hw7, h⟩ := Option.bind_eq_some_iff.mp h
        refine E_cV1 (As := [.ref (100000 + 44), .int 1, .int 50]) 44 rfl dX12_readHeir_41 shc_149 ck_X12_118 cv_X12_after rfl (by decide) (Nat.le_of_ble_eq_true rfl) (C_X12_after (g := g) (by decide) hw7) rfl ?_
        refine E_sub (lv' := [(0, .ref 149), (1, .int v1), (2, .int w5.1)]) [2, 1, 0] rfl ?_
        exact S_X12_readHeir_44 v1 w5.1 w7.1 w7.2.1 w7.2.2 _ h
      · rw [if_neg c6] at h
        refine E_iconst (v := (-1)) 32 rfl dX12_readHeir_31 (by decide) ?_
        refine E_goto 44 (by decide) dX12_readHeir_32 ?_
        refine E_sub (lv' := [(0, .ref 149), (1, .int v1), (2, .int w5.1)]) [2, 1, 0] rfl ?_
        exact S_X12_readHeir_44 v1 w5.1 ((-1)) w5.2.1 w5.2.2 _ h
    · rw [if_neg (by rw [c4]; decide)] at h
      refine E_sub (lv' := []) [] rfl ?_
      exact S_X12_readHeir_20 w3.2.1 w3.2.2 _ h
theorem C_X12_readHeir {g : Gx} {I : MI} {L : ML} {res : Bool × MI × ML} (h : f_X12_readHeir I L = some res) : Ent g 7 0 mX12_readHeir [.ref 149] (I, L) (.inl (some (.int (bI res.1)))) (res.2.1, res.2.2) := Ent_of (by decide +kernel) (Nat.le_of_ble_eq_true rfl) (S_X12_readHeir I L _ h)
def f_X12_readHours_2 : Nat → Int32 → MI → ML → Option (Int32 × MI × ML)
  | 0, _, _, _ => none
  | n + 1, x1, I, L => Option.bind (f_X12_number 0 23 I L) fun w1 => if 0 ≤ w1.1 then (Option.bind (f_X12_blanks w1.2.1 w1.2.2) fun w3 => Option.bind (f_X12_isAt 48 57 w3.1 w3.2) fun v4 => if v4 = true then (f_X12_readHours_2 n (x1 ||| (1 <<< (w1.1 &&& 31))) w3.1 w3.2) else (some (x1 ||| (1 <<< (w1.1 &&& 31)), w3.1, w3.2))) else (some ((-1), w1.2.1, w1.2.2))
set_option maxRecDepth 100000 in
theorem S_X12_readHours_2 {g : Gx} : ∀ (n : Nat) (x1 : Int32) (I : MI) (L : ML) (res : Int32 × MI × ML), f_X12_readHours_2 n x1 I L = some res → E g 4 0 mX12_readHours 2 [(0, .ref 149), (1, .int x1)] [] (I, L) (.inl (some (.int res.1))) (res.2.1, res.2.2) := by
  intro n
  induction n with
  | zero =>
    intros
    rename_i h
    cases h
  | succ n ih =>
    intro x1 I L res h
    rw [f_X12_readHours_2] at h
    refine E_aload_n 3 rfl dX12_readHours_2 rfl 0 rfl ?_
    refine E_iconst (v := 0) 4 rfl dX12_readHours_3 (by decide) ?_
    refine E_bipush (v := 23) 6 rfl dX12_readHours_4 (by decide) ?_
    obtain ⟨w1, hw1, h⟩ := Option.bind_eq_some_iff.mp h
    refine E_cV1 (As := [.int 0, .int 23]) 9 rfl dX12_readHours_6 shc_149 ck_X12_108 cv_X12_number rfl (by decide) (Nat.le_of_ble_eq_true rfl) (C_X12_number (g := g) hw1) rfl ?_
    refine E_istore_n (lv' := [(2, .int w1.1), (0, .ref 149), (1, .int x1)]) 10 rfl dX12_readHours_9 rfl (Nat.le_of_ble_eq_true rfl) rfl ?_
    refine E_iload_n 11 rfl dX12_readHours_10 rfl 0 rfl ?_
    refine E_if_ge 16 14 (by decide) rfl dX12_readHours_11 (fun c2 => ?_) (fun c2 => ?_)
    · rw [if_pos c2] at h
      refine E_iload_n 17 rfl dX12_readHours_16 rfl 2 rfl ?_
      refine E_iconst (v := 1) 18 rfl dX12_readHours_17 (by decide) ?_
      refine E_iload_n 19 rfl dX12_readHours_18 rfl 0 rfl ?_
      refine E_ishl 20 rfl dX12_readHours_19 ?_
      refine E_ior 21 rfl dX12_readHours_20 ?_
      refine E_istore_n (lv' := [(1, .int (x1 ||| (1 <<< (w1.1 &&& 31)))), (2, .int w1.1), (0, .ref 149)]) 22 rfl dX12_readHours_21 rfl (Nat.le_of_ble_eq_true rfl) rfl ?_
      refine E_aload_n 23 rfl dX12_readHours_22 rfl 2 rfl ?_
      obtain ⟨w3, hw3, h⟩ := Option.bind_eq_some_iff.mp h
      refine E_cV0 (As := []) 26 rfl dX12_readHours_23 shc_149 ck_X12_86 cv_X12_blanks rfl (by decide) (Nat.le_of_ble_eq_true rfl) (C_X12_blanks (g := g) hw3) rfl ?_
      refine E_aload_n 27 rfl dX12_readHours_26 rfl 2 rfl ?_
      refine E_bipush (v := 48) 29 rfl dX12_readHours_27 (by decide) ?_
      refine E_bipush (v := 57) 31 rfl dX12_readHours_29 (by decide) ?_
      obtain ⟨v4, hv4, h⟩ := Option.bind_eq_some_iff.mp h
      refine E_cV1 (As := [.int 48, .int 57]) 34 rfl dX12_readHours_31 shc_149 ck_X12_79 cv_X12_isAt rfl (by decide) (Nat.le_of_ble_eq_true rfl) (C_X12_isAt (g := g) hv4) rfl ?_
      refine E_if_neB 2 37 (by decide) rfl dX12_readHours_34 (fun c5 => ?_) (fun c5 => ?_)
      · rw [if_pos c5] at h
        refine E_sub (lv' := [(0, .ref 149), (1, .int (x1 ||| (1 <<< (w1.1 &&& 31))))]) [2, 0] rfl ?_
        exact ih (x1 ||| (1 <<< (w1.1 &&& 31))) w3.1 w3.2 _ h
      · rw [if_neg (by rw [c5]; decide)] at h
        refine E_iload_n 38 rfl dX12_readHours_37 rfl 0 rfl ?_
        cases h
        exact E_iret rfl dX12_readHours_38
    · rw [if_neg c2] at h
      refine E_iconst (v := (-1)) 15 rfl dX12_readHours_14 (by decide) ?_
      cases h
      exact E_iret rfl dX12_readHours_15
def f_X12_readHours (I : MI) (L : ML) : Option (Int32 × MI × ML) := f_X12_readHours_2 FU 0 I L
set_option maxRecDepth 100000 in
theorem S_X12_readHours {g : Gx} (I : MI) (L : ML) (res : Int32 × MI × ML) (h : f_X12_readHours I L = some res) : E g 4 0 mX12_readHours 0 [(0, .ref 149)] [] (I, L) (.inl (some (.int res.1))) (res.2.1, res.2.2) := by
  unfold f_X12_readHours at h
  refine E_iconst (v := 0) 1 rfl dX12_readHours_0 (by decide) ?_
  refine E_istore_n (lv' := [(1, .int 0), (0, .ref 149)]) 2 rfl dX12_readHours_1 rfl (Nat.le_of_ble_eq_true rfl) rfl ?_
  refine E_sub (lv' := [(0, .ref 149), (1, .int 0)]) [1, 0] rfl ?_
  exact S_X12_readHours_2 FU 0 I L _ h
theorem C_X12_readHours {g : Gx} {I : MI} {L : ML} {res : Int32 × MI × ML} (h : f_X12_readHours I L = some res) : Ent g 4 0 mX12_readHours [.ref 149] (I, L) (.inl (some (.int res.1))) (res.2.1, res.2.2) := Ent_of (by decide +kernel) (Nat.le_of_ble_eq_true rfl) (S_X12_readHours I L _ h)
def f_X12_readNoise_196 : Nat → Int32 → Int32 → Int32 → Int32 → Int32 → Int32 → Int32 → Int32 → MI → ML → Option (Bool × MI × ML)
  | 0, _, _, _, _, _, _, _, _, _, _ => none
  | n + 1, x1, x2, x3, x4, x5, x6, x7, x8, I, L => if 10 ≤ x8 then (Option.bind (f_X12_sets x1 0 x2 I L) fun w2 => Option.bind (f_X12_sets x1 1 x4 w2.1 w2.2) fun w3 => Option.bind (f_X12_sets x1 2 x5 w3.1 w3.2) fun w4 => Option.bind (f_X12_sets x1 3 x6 w4.1 w4.2) fun w5 => Option.bind (f_X12_sets x1 4 x7 w5.1 w5.2) fun w6 => Option.bind (f_X12_sets x1 6 x3 w6.1 w6.2) fun w7 => Option.bind (f_X12_sets x1 7 ((-1)) w7.1 w7.2) fun w8 => Option.bind (ldI w8.1 150 2143 3) fun v9 => Option.bind (stI w8.1 150 2143 3 (v9 + 1)) fun I10 => some (true, I10, w8.2)) else (Option.bind (f_X12_sets x1 x8 0 I L) fun w11 => f_X12_readNoise_196 n x1 x2 x3 x4 x5 x6 x7 (x8 + 1) w11.1 w11.2)
set_option maxRecDepth 100000 in
theorem S_X12_readNoise_196 {g : Gx} : ∀ (n : Nat) (x1 : Int32) (x2 : Int32) (x3 : Int32) (x4 : Int32) (x5 : Int32) (x6 : Int32) (x7 : Int32) (x8 : Int32) (I : MI) (L : ML) (res : Bool × MI × ML), f_X12_readNoise_196 n x1 x2 x3 x4 x5 x6 x7 x8 I L = some res → E g 7 0 mX12_readNoise 196 [(0, .ref 149), (1, .int x1), (2, .int x2), (3, .int x3), (4, .int x4), (5, .int x5), (6, .int x6), (7, .int x7), (8, .int x8)] [] (I, L) (.inl (some (.int (bI res.1)))) (res.2.1, res.2.2) := by
  intro n
  induction n with
  | zero =>
    intros
    rename_i h
    cases h
  | succ n ih =>
    intro x1 x2 x3 x4 x5 x6 x7 x8 I L res h
    rw [f_X12_readNoise_196] at h
    refine E_iload 198 rfl dX12_readNoise_196 8 rfl ?_
    refine E_bipush (v := 10) 200 rfl dX12_readNoise_198 (by decide) ?_
    refine E_icmp_ge 217 203 (by decide) rfl dX12_readNoise_200 (fun c1 => ?_) (fun c1 => ?_)
    · rw [if_pos c1] at h
      refine E_aload_n 218 rfl dX12_readNoise_217 rfl 0 rfl ?_
      refine E_iload_n 219 rfl dX12_readNoise_218 rfl 1 rfl ?_
      refine E_iconst (v := 0) 220 rfl dX12_readNoise_219 (by decide) ?_
      refine E_iload_n 221 rfl dX12_readNoise_220 rfl 2 rfl ?_
      obtain ⟨w2, hw2, h⟩ := Option.bind_eq_some_iff.mp h
      refine E_cV0 (As := [.int x1, .int 0, .int x2]) 224 rfl dX12_readNoise_221 shc_149 ck_X12_143 cv_X12_sets rfl (by decide) (Nat.le_of_ble_eq_true rfl) (C_X12_sets (g := g) hw2) rfl ?_
      refine E_aload_n 225 rfl dX12_readNoise_224 rfl 0 rfl ?_
      refine E_iload_n 226 rfl dX12_readNoise_225 rfl 1 rfl ?_
      refine E_iconst (v := 1) 227 rfl dX12_readNoise_226 (by decide) ?_
      refine E_iload 229 rfl dX12_readNoise_227 4 rfl ?_
      obtain ⟨w3, hw3, h⟩ := Option.bind_eq_some_iff.mp h
      refine E_cV0 (As := [.int x1, .int 1, .int x4]) 232 rfl dX12_readNoise_229 shc_149 ck_X12_143 cv_X12_sets rfl (by decide) (Nat.le_of_ble_eq_true rfl) (C_X12_sets (g := g) hw3) rfl ?_
      refine E_aload_n 233 rfl dX12_readNoise_232 rfl 0 rfl ?_
      refine E_iload_n 234 rfl dX12_readNoise_233 rfl 1 rfl ?_
      refine E_iconst (v := 2) 235 rfl dX12_readNoise_234 (by decide) ?_
      refine E_iload 237 rfl dX12_readNoise_235 5 rfl ?_
      obtain ⟨w4, hw4, h⟩ := Option.bind_eq_some_iff.mp h
      refine E_cV0 (As := [.int x1, .int 2, .int x5]) 240 rfl dX12_readNoise_237 shc_149 ck_X12_143 cv_X12_sets rfl (by decide) (Nat.le_of_ble_eq_true rfl) (C_X12_sets (g := g) hw4) rfl ?_
      refine E_aload_n 241 rfl dX12_readNoise_240 rfl 0 rfl ?_
      refine E_iload_n 242 rfl dX12_readNoise_241 rfl 1 rfl ?_
      refine E_iconst (v := 3) 243 rfl dX12_readNoise_242 (by decide) ?_
      refine E_iload 245 rfl dX12_readNoise_243 6 rfl ?_
      obtain ⟨w5, hw5, h⟩ := Option.bind_eq_some_iff.mp h
      refine E_cV0 (As := [.int x1, .int 3, .int x6]) 248 rfl dX12_readNoise_245 shc_149 ck_X12_143 cv_X12_sets rfl (by decide) (Nat.le_of_ble_eq_true rfl) (C_X12_sets (g := g) hw5) rfl ?_
      refine E_aload_n 249 rfl dX12_readNoise_248 rfl 0 rfl ?_
      refine E_iload_n 250 rfl dX12_readNoise_249 rfl 1 rfl ?_
      refine E_iconst (v := 4) 251 rfl dX12_readNoise_250 (by decide) ?_
      refine E_iload 253 rfl dX12_readNoise_251 7 rfl ?_
      obtain ⟨w6, hw6, h⟩ := Option.bind_eq_some_iff.mp h
      refine E_cV0 (As := [.int x1, .int 4, .int x7]) 256 rfl dX12_readNoise_253 shc_149 ck_X12_143 cv_X12_sets rfl (by decide) (Nat.le_of_ble_eq_true rfl) (C_X12_sets (g := g) hw6) rfl ?_
      refine E_aload_n 257 rfl dX12_readNoise_256 rfl 0 rfl ?_
      refine E_iload_n 258 rfl dX12_readNoise_257 rfl 1 rfl ?_
      refine E_bipush (v := 6) 260 rfl dX12_readNoise_258 (by decide) ?_
      refine E_iload_n 261 rfl dX12_readNoise_260 rfl 3 rfl ?_
      obtain ⟨w7, hw7, h⟩ := Option.bind_eq_some_iff.mp h
      refine E_cV0 (As := [.int x1, .int 6, .int x3]) 264 rfl dX12_readNoise_261 shc_149 ck_X12_143 cv_X12_sets rfl (by decide) (Nat.le_of_ble_eq_true rfl) (C_X12_sets (g := g) hw7) rfl ?_
      refine E_aload_n 265 rfl dX12_readNoise_264 rfl 0 rfl ?_
      refine E_iload_n 266 rfl dX12_readNoise_265 rfl 1 rfl ?_
      refine E_bipush (v := 7) 268 rfl dX12_readNoise_266 (by decide) ?_
      refine E_iconst (v := (-1)) 269 rfl dX12_readNoise_268 (by decide) ?_
      obtain ⟨w8, hw8, h⟩ := Option.bind_eq_some_iff.mp h
      refine E_cV0 (As := [.int x1, .int 7, .int ((-1))]) 272 rfl dX12_readNoise_269 shc_149 ck_X12_143 cv_X12_sets rfl (by decide) (Nat.le_of_ble_eq_true rfl) (C_X12_sets (g := g) hw8) rfl ?_
      refine E_aload_n 273 rfl dX12_readNoise_272 rfl 0 rfl ?_
      refine E_gR 150 276 rfl dX12_readNoise_273 shc_149 fl_X12_13 rfl (by decide) (by decide) ?_
      refine E_iconst (v := 3) 277 rfl dX12_readNoise_276 (by decide) ?_
      refine E_dup2 278 rfl dX12_readNoise_277 rfl rfl ?_
      obtain ⟨v9, hv9, h⟩ := Option.bind_eq_some_iff.mp h
      refine E_ldI 279 rfl dX12_readNoise_278 shc_150 hv9 ?_
      refine E_iconst (v := 1) 280 rfl dX12_readNoise_279 (by decide) ?_
      refine E_iadd 281 rfl dX12_readNoise_280 ?_
      obtain ⟨I10, hI10, h⟩ := Option.bind_eq_some_iff.mp h
      refine E_stI 282 rfl dX12_readNoise_281 shc_150 hI10 ?_
      refine E_iconst (v := 1) 283 rfl dX12_readNoise_282 (by decide) ?_
      cases h
      exact E_zret (x := true) rfl dX12_readNoise_283
    · rw [if_neg c1] at h
      refine E_aload_n 204 rfl dX12_readNoise_203 rfl 0 rfl ?_
      refine E_iload_n 205 rfl dX12_readNoise_204 rfl 1 rfl ?_
      refine E_iload 207 rfl dX12_readNoise_205 8 rfl ?_
      refine E_iconst (v := 0) 208 rfl dX12_readNoise_207 (by decide) ?_
      obtain ⟨w11, hw11, h⟩ := Option.bind_eq_some_iff.mp h
      refine E_cV0 (As := [.int x1, .int x8, .int 0]) 211 rfl dX12_readNoise_208 shc_149 ck_X12_143 cv_X12_sets rfl (by decide) (Nat.le_of_ble_eq_true rfl) (C_X12_sets (g := g) hw11) rfl ?_
      refine E_iinc (j := 8) (v := x8 + 1) (lv' := [(8, .int (x8 + 1)), (0, .ref 149), (1, .int x1), (2, .int x2), (3, .int x3), (4, .int x4), (5, .int x5), (6, .int x6), (7, .int x7)]) 214 rfl dX12_readNoise_211 rfl rfl (Nat.le_of_ble_eq_true rfl) rfl ?_
      refine E_goto 196 (by decide) dX12_readNoise_214 ?_
      refine E_sub (lv' := [(0, .ref 149), (1, .int x1), (2, .int x2), (3, .int x3), (4, .int x4), (5, .int x5), (6, .int x6), (7, .int x7), (8, .int (x8 + 1))]) [1, 2, 3, 4, 5, 6, 7, 8, 0] rfl ?_
      exact ih x1 x2 x3 x4 x5 x6 x7 (x8 + 1) w11.1 w11.2 _ h
def f_X12_readNoise_184 (x1 : Int32) (x2 : Int32) (x3 : Int32) (x4 : Int32) (x5 : Int32) (x6 : Int32) (y0 : Int32) (I : MI) (L : ML) : Option (Bool × MI × ML) := if 0 ≤ y0 then (f_X12_readNoise_196 FU x1 x2 x3 x4 x5 x6 y0 0 I L) else (some (false, I, L))
set_option maxRecDepth 100000 in
theorem S_X12_readNoise_184 {g : Gx} (x1 : Int32) (x2 : Int32) (x3 : Int32) (x4 : Int32) (x5 : Int32) (x6 : Int32) (y0 : Int32) (I : MI) (L : ML) (res : Bool × MI × ML) (h : f_X12_readNoise_184 x1 x2 x3 x4 x5 x6 y0 I L = some res) : E g 7 0 mX12_readNoise 184 [(0, .ref 149), (1, .int x1), (2, .int x2), (3, .int x3), (4, .int x4), (5, .int x5), (6, .int x6)] [.int y0] (I, L) (.inl (some (.int (bI res.1)))) (res.2.1, res.2.2) := by
  unfold f_X12_readNoise_184 at h
  refine E_istore (lv' := [(7, .int y0), (0, .ref 149), (1, .int x1), (2, .int x2), (3, .int x3), (4, .int x4), (5, .int x5), (6, .int x6)]) 186 rfl dX12_readNoise_184 (Nat.le_of_ble_eq_true rfl) rfl ?_
  refine E_iload 188 rfl dX12_readNoise_186 0 rfl ?_
  refine E_if_ge 193 191 (by decide) rfl dX12_readNoise_188 (fun c1 => ?_) (fun c1 => ?_)
  · rw [if_pos c1] at h
    refine E_iconst (v := 0) 194 rfl dX12_readNoise_193 (by decide) ?_
    refine E_istore (lv' := [(8, .int 0), (7, .int y0), (0, .ref 149), (1, .int x1), (2, .int x2), (3, .int x3), (4, .int x4), (5, .int x5), (6, .int x6)]) 196 rfl dX12_readNoise_194 (Nat.le_of_ble_eq_true rfl) rfl ?_
    refine E_sub (lv' := [(0, .ref 149), (1, .int x1), (2, .int x2), (3, .int x3), (4, .int x4), (5, .int x5), (6, .int x6), (7, .int y0), (8, .int 0)]) [2, 3, 4, 5, 6, 7, 8, 1, 0] rfl ?_
    exact S_X12_readNoise_196 FU x1 x2 x3 x4 x5 x6 y0 0 I L _ h
  · rw [if_neg c1] at h
    refine E_iconst (v := 0) 192 rfl dX12_readNoise_191 (by decide) ?_
    cases h
    exact E_zret (x := false) rfl dX12_readNoise_192
def f_X12_readNoise_164 (x1 : Int32) (x2 : Int32) (x3 : Int32) (x4 : Int32) (x5 : Int32) (y0 : Int32) (I : MI) (L : ML) : Option (Bool × MI × ML) := if 0 ≤ y0 then (Option.bind (f_X12_after 52 0 99 I L) fun w2 => f_X12_readNoise_184 x1 x2 x3 x4 x5 y0 w2.1 w2.2.1 w2.2.2) else (f_X12_readNoise_184 x1 x2 x3 x4 x5 y0 ((-1)) I L)
set_option maxRecDepth 100000 in
theorem S_X12_readNoise_164 {g : Gx} (x1 : Int32) (x2 : Int32) (x3 : Int32) (x4 : Int32) (x5 : Int32) (y0 : Int32) (I : MI) (L : ML) (res : Bool × MI × ML) (h : f_X12_readNoise_164 x1 x2 x3 x4 x5 y0 I L = some res) : E g 7 0 mX12_readNoise 164 [(0, .ref 149), (1, .int x1), (2, .int x2), (3, .int x3), (4, .int x4), (5, .int x5)] [.int y0] (I, L) (.inl (some (.int (bI res.1)))) (res.2.1, res.2.2) := by
  unfold f_X12_readNoise_164 at h
  refine E_istore (lv' := [(6, .int y0), (0, .ref 149), (1, .int x1), (2, .int x2), (3, .int x3), (4, .int x4), (5, .int x5)]) 166 rfl dX12_readNoise_164 (Nat.le_of_ble_eq_true rfl) rfl ?_
  refine E_iload 168 rfl dX12_readNoise_166 0 rfl ?_
  refine E_if_ge 175 171 (by decide) rfl dX12_readNoise_168 (fun c1 => ?_) (fun c1 => ?_)
  · rw [if_pos c1] at h
    refine E_aload_n 176 rfl dX12_readNoise_175 rfl 1 rfl ?_
    refine E_ldcS 52 (by decide) 178 rfl dX12_readNoise_176 rfl ?_
    refine E_iconst (v := 0) 179 rfl dX12_readNoise_178 (by decide) ?_
    refine E_bipush (v := 99) 181 rfl dX12_readNoise_179 (by decide) ?_
    obtain ⟨w2, hw2, h⟩ := Option.bind_eq_some_iff.mp h
    refine E_cV1 (As := [.ref (100000 + 52), .int 0, .int 99]) 184 rfl dX12_readNoise_181 shc_149 ck_X12_118 cv_X12_after rfl (by decide) (Nat.le_of_ble_eq_true rfl) (C_X12_after (g := g) (by decide) hw2) rfl ?_
    refine E_sub (lv' := [(0, .ref 149), (1, .int x1), (2, .int x2), (3, .int x3), (4, .int x4), (5, .int x5), (6, .int y0)]) [1, 2, 3, 4, 5, 6, 0] rfl ?_
    exact S_X12_readNoise_184 x1 x2 x3 x4 x5 y0 w2.1 w2.2.1 w2.2.2 _ h
  · rw [if_neg c1] at h
    refine E_iconst (v := (-1)) 172 rfl dX12_readNoise_171 (by decide) ?_
    refine E_goto 184 (by decide) dX12_readNoise_172 ?_
    refine E_sub (lv' := [(0, .ref 149), (1, .int x1), (2, .int x2), (3, .int x3), (4, .int x4), (5, .int x5), (6, .int y0)]) [1, 2, 3, 4, 5, 6, 0] rfl ?_
    exact S_X12_readNoise_184 x1 x2 x3 x4 x5 y0 ((-1)) I L _ h
def f_X12_readNoise_144 (x1 : Int32) (x2 : Int32) (x3 : Int32) (x4 : Int32) (y0 : Int32) (I : MI) (L : ML) : Option (Bool × MI × ML) := if 0 ≤ y0 then (Option.bind (f_X12_after 51 1 99 I L) fun w2 => f_X12_readNoise_164 x1 x2 x3 x4 y0 w2.1 w2.2.1 w2.2.2) else (f_X12_readNoise_164 x1 x2 x3 x4 y0 ((-1)) I L)
set_option maxRecDepth 100000 in
theorem S_X12_readNoise_144 {g : Gx} (x1 : Int32) (x2 : Int32) (x3 : Int32) (x4 : Int32) (y0 : Int32) (I : MI) (L : ML) (res : Bool × MI × ML) (h : f_X12_readNoise_144 x1 x2 x3 x4 y0 I L = some res) : E g 7 0 mX12_readNoise 144 [(0, .ref 149), (1, .int x1), (2, .int x2), (3, .int x3), (4, .int x4)] [.int y0] (I, L) (.inl (some (.int (bI res.1)))) (res.2.1, res.2.2) := by
  unfold f_X12_readNoise_144 at h
  refine E_istore (lv' := [(5, .int y0), (0, .ref 149), (1, .int x1), (2, .int x2), (3, .int x3), (4, .int x4)]) 146 rfl dX12_readNoise_144 (Nat.le_of_ble_eq_true rfl) rfl ?_
  refine E_iload 148 rfl dX12_readNoise_146 0 rfl ?_
  refine E_if_ge 155 151 (by decide) rfl dX12_readNoise_148 (fun c1 => ?_) (fun c1 => ?_)
  · rw [if_pos c1] at h
    refine E_aload_n 156 rfl dX12_readNoise_155 rfl 1 rfl ?_
    refine E_ldcS 51 (by decide) 158 rfl dX12_readNoise_156 rfl ?_
    refine E_iconst (v := 1) 159 rfl dX12_readNoise_158 (by decide) ?_
    refine E_bipush (v := 99) 161 rfl dX12_readNoise_159 (by decide) ?_
    obtain ⟨w2, hw2, h⟩ := Option.bind_eq_some_iff.mp h
    refine E_cV1 (As := [.ref (100000 + 51), .int 1, .int 99]) 164 rfl dX12_readNoise_161 shc_149 ck_X12_118 cv_X12_after rfl (by decide) (Nat.le_of_ble_eq_true rfl) (C_X12_after (g := g) (by decide) hw2) rfl ?_
    refine E_sub (lv' := [(0, .ref 149), (1, .int x1), (2, .int x2), (3, .int x3), (4, .int x4), (5, .int y0)]) [1, 2, 3, 4, 5, 0] rfl ?_
    exact S_X12_readNoise_164 x1 x2 x3 x4 y0 w2.1 w2.2.1 w2.2.2 _ h
  · rw [if_neg c1] at h
    refine E_iconst (v := (-1)) 152 rfl dX12_readNoise_151 (by decide) ?_
    refine E_goto 164 (by decide) dX12_readNoise_152 ?_
    refine E_sub (lv' := [(0, .ref 149), (1, .int x1), (2, .int x2), (3, .int x3), (4, .int x4), (5, .int y0)]) [1, 2, 3, 4, 5, 0] rfl ?_
    exact S_X12_readNoise_164 x1 x2 x3 x4 y0 ((-1)) I L _ h
def f_X12_readNoise_118 (I : MI) (L : ML) : Option (Bool × MI × ML) := some (false, I, L)
set_option maxRecDepth 100000 in
theorem S_X12_readNoise_118 {g : Gx} (I : MI) (L : ML) (res : Bool × MI × ML) (h : f_X12_readNoise_118 I L = some res) : E g 7 0 mX12_readNoise 118 [] [] (I, L) (.inl (some (.int (bI res.1)))) (res.2.1, res.2.2) := by
  unfold f_X12_readNoise_118 at h
  refine E_iconst (v := 0) 119 rfl dX12_readNoise_118 (by decide) ?_
  cases h
  exact E_zret (x := false) rfl dX12_readNoise_119
def f_X12_readNoise_104 (x1 : Int32) (x2 : Int32) (y0 : Int32) (I : MI) (L : ML) : Option (Bool × MI × ML) := if y0 < 0 then (f_X12_readNoise_118 I L) else (Option.bind (f_X12_needs 43 I L) fun w2 => if w2.1 = true then (Option.bind (f_X12_roomTold w2.2.1 w2.2.2) fun w4 => if 0 ≤ w4.1 then (Option.bind (f_X12_after 50 0 99 w4.2.1 w4.2.2) fun w6 => f_X12_readNoise_144 x1 x2 y0 w4.1 w6.1 w6.2.1 w6.2.2) else (f_X12_readNoise_144 x1 x2 y0 w4.1 ((-1)) w4.2.1 w4.2.2)) else (f_X12_readNoise_118 w2.2.1 w2.2.2))
set_option maxRecDepth 100000 in
theorem S_X12_readNoise_104 {g : Gx} (x1 : Int32) (x2 : Int32) (y0 : Int32) (I : MI) (L : ML) (res : Bool × MI × ML) (h : f_X12_readNoise_104 x1 x2 y0 I L = some res) : E g 7 0 mX12_readNoise 104 [(0, .ref 149), (1, .int x1), (2, .int x2)] [.int y0] (I, L) (.inl (some (.int (bI res.1)))) (res.2.1, res.2.2) := by
  unfold f_X12_readNoise_104 at h
  refine E_istore_n (lv' := [(3, .int y0), (0, .ref 149), (1, .int x1), (2, .int x2)]) 105 rfl dX12_readNoise_104 rfl (Nat.le_of_ble_eq_true rfl) rfl ?_
  refine E_iload_n 106 rfl dX12_readNoise_105 rfl 0 rfl ?_
  refine E_if_lt 118 109 (by decide) rfl dX12_readNoise_106 (fun c1 => ?_) (fun c1 => ?_)
  · rw [if_pos c1] at h
    refine E_sub (lv' := []) [] rfl ?_
    exact S_X12_readNoise_118 I L _ h
  · rw [if_neg c1] at h
    refine E_aload_n 110 rfl dX12_readNoise_109 rfl 1 rfl ?_
    refine E_ldcS 43 (by decide) 112 rfl dX12_readNoise_110 rfl ?_
    obtain ⟨w2, hw2, h⟩ := Option.bind_eq_some_iff.mp h
    refine E_cV1 (As := [.ref (100000 + 43)]) 115 rfl dX12_readNoise_112 shc_149 ck_X12_105 cv_X12_needs rfl (by decide) (Nat.le_of_ble_eq_true rfl) (C_X12_needs (g := g) (by decide) hw2) rfl ?_
    refine E_if_neB 120 118 (by decide) rfl dX12_readNoise_115 (fun c3 => ?_) (fun c3 => ?_)
    · rw [if_pos c3] at h
      refine E_aload_n 121 rfl dX12_readNoise_120 rfl 1 rfl ?_
      obtain ⟨w4, hw4, h⟩ := Option.bind_eq_some_iff.mp h
      refine E_cV1 (As := []) 124 rfl dX12_readNoise_121 shc_149 ck_X12_112 cv_X12_roomTold rfl (by decide) (Nat.le_of_ble_eq_true rfl) (C_X12_roomTold (g := g) hw4) rfl ?_
      refine E_istore (lv' := [(4, .int w4.1), (3, .int y0), (0, .ref 149), (1, .int x1), (2, .int x2)]) 126 rfl dX12_readNoise_124 (Nat.le_of_ble_eq_true rfl) rfl ?_
      refine E_iload 128 rfl dX12_readNoise_126 0 rfl ?_
      refine E_if_ge 135 131 (by decide) rfl dX12_readNoise_128 (fun c5 => ?_) (fun c5 => ?_)
      · rw [if_pos c5] at h
        refine E_aload_n 136 rfl dX12_readNoise_135 rfl 2 rfl ?_
        refine E_ldcS 50 (by decide) 138 rfl dX12_readNoise_136 rfl ?_
        refine E_iconst (v := 0) 139 rfl dX12_readNoise_138 (by decide) ?_
        refine E_bipush (v := 99) 141 rfl dX12_readNoise_139 (by decide) ?_
        obtain ⟨w6, hw6, h⟩ := Option.bind_eq_some_iff.mp h
        refine E_cV1 (As := [.ref (100000 + 50), .int 0, .int 99]) 144 rfl dX12_readNoise_141 shc_149 ck_X12_118 cv_X12_after rfl (by decide) (Nat.le_of_ble_eq_true rfl) (C_X12_after (g := g) (by decide) hw6) rfl ?_
        refine E_sub (lv' := [(0, .ref 149), (1, .int x1), (2, .int x2), (3, .int y0), (4, .int w4.1)]) [2, 3, 4, 1, 0] rfl ?_
        exact S_X12_readNoise_144 x1 x2 y0 w4.1 w6.1 w6.2.1 w6.2.2 _ h
      · rw [if_neg c5] at h
        refine E_iconst (v := (-1)) 132 rfl dX12_readNoise_131 (by decide) ?_
        refine E_goto 144 (by decide) dX12_readNoise_132 ?_
        refine E_sub (lv' := [(0, .ref 149), (1, .int x1), (2, .int x2), (3, .int y0), (4, .int w4.1)]) [2, 3, 4, 1, 0] rfl ?_
        exact S_X12_readNoise_144 x1 x2 y0 w4.1 ((-1)) w4.2.1 w4.2.2 _ h
    · rw [if_neg (by rw [c3]; decide)] at h
      refine E_sub (lv' := []) [] rfl ?_
      exact S_X12_readNoise_118 w2.2.1 w2.2.2 _ h
def f_X12_readNoise_70 (x1 : Int32) (y0 : Int32) (I : MI) (L : ML) : Option (Bool × MI × ML) := if 0 ≤ y0 then (if y0 = 0 then (Option.bind (f_X12_readHours I L) fun w5 => f_X12_readNoise_104 x1 y0 w5.1 w5.2.1 w5.2.2) else (if y0 = 2 then (Option.bind (f_X12_number 0 100 I L) fun w4 => f_X12_readNoise_104 x1 y0 w4.1 w4.2.1 w4.2.2) else (f_X12_readNoise_104 x1 y0 0 I L))) else (some (false, I, L))
set_option maxRecDepth 100000 in
theorem S_X12_readNoise_70 {g : Gx} (x1 : Int32) (y0 : Int32) (I : MI) (L : ML) (res : Bool × MI × ML) (h : f_X12_readNoise_70 x1 y0 I L = some res) : E g 7 0 mX12_readNoise 70 [(0, .ref 149), (1, .int x1)] [.int y0] (I, L) (.inl (some (.int (bI res.1)))) (res.2.1, res.2.2) := by
  unfold f_X12_readNoise_70 at h
  refine E_istore_n (lv' := [(2, .int y0), (0, .ref 149), (1, .int x1)]) 71 rfl dX12_readNoise_70 rfl (Nat.le_of_ble_eq_true rfl) rfl ?_
  refine E_iload_n 72 rfl dX12_readNoise_71 rfl 0 rfl ?_
  refine E_if_ge 77 75 (by decide) rfl dX12_readNoise_72 (fun c1 => ?_) (fun c1 => ?_)
  · rw [if_pos c1] at h
    refine E_iload_n 78 rfl dX12_readNoise_77 rfl 0 rfl ?_
    refine E_if_ne 88 81 (by decide) rfl dX12_readNoise_78 (fun c2 => ?_) (fun c2 => ?_)
    · rw [if_neg c2] at h
      refine E_iload_n 89 rfl dX12_readNoise_88 rfl 0 rfl ?_
      refine E_iconst (v := 2) 90 rfl dX12_readNoise_89 (by decide) ?_
      refine E_icmp_ne 103 93 (by decide) rfl dX12_readNoise_90 (fun c3 => ?_) (fun c3 => ?_)
      · rw [if_neg c3] at h
        refine E_iconst (v := 0) 104 rfl dX12_readNoise_103 (by decide) ?_
        refine E_sub (lv' := [(0, .ref 149), (1, .int x1), (2, .int y0)]) [1, 2, 0] rfl ?_
        exact S_X12_readNoise_104 x1 y0 0 I L _ h
      · rw [if_pos c3] at h
        refine E_aload_n 94 rfl dX12_readNoise_93 rfl 1 rfl ?_
        refine E_iconst (v := 0) 95 rfl dX12_readNoise_94 (by decide) ?_
        refine E_bipush (v := 100) 97 rfl dX12_readNoise_95 (by decide) ?_
        obtain ⟨w4, hw4, h⟩ := Option.bind_eq_some_iff.mp h
        refine E_cV1 (As := [.int 0, .int 100]) 100 rfl dX12_readNoise_97 shc_149 ck_X12_108 cv_X12_number rfl (by decide) (Nat.le_of_ble_eq_true rfl) (C_X12_number (g := g) hw4) rfl ?_
        refine E_goto 104 (by decide) dX12_readNoise_100 ?_
        refine E_sub (lv' := [(0, .ref 149), (1, .int x1), (2, .int y0)]) [1, 2, 0] rfl ?_
        exact S_X12_readNoise_104 x1 y0 w4.1 w4.2.1 w4.2.2 _ h
    · rw [if_pos c2] at h
      refine E_aload_n 82 rfl dX12_readNoise_81 rfl 1 rfl ?_
      obtain ⟨w5, hw5, h⟩ := Option.bind_eq_some_iff.mp h
      refine E_cV1 (As := []) 85 rfl dX12_readNoise_82 shc_149 ck_X12_134 cv_X12_readHours rfl (by decide) (Nat.le_of_ble_eq_true rfl) (C_X12_readHours (g := g) hw5) rfl ?_
      refine E_goto 104 (by decide) dX12_readNoise_85 ?_
      refine E_sub (lv' := [(0, .ref 149), (1, .int x1), (2, .int y0)]) [1, 2, 0] rfl ?_
      exact S_X12_readNoise_104 x1 y0 w5.1 w5.2.1 w5.2.2 _ h
  · rw [if_neg c1] at h
    refine E_iconst (v := 0) 76 rfl dX12_readNoise_75 (by decide) ?_
    cases h
    exact E_zret (x := false) rfl dX12_readNoise_76
def f_X12_readNoise (I : MI) (L : ML) : Option (Bool × MI × ML) := Option.bind (f_X12_noises I L) fun v1 => if v1 = 12 then (some (false, I, L)) else (Option.bind (f_X12_letters I L) fun w3 => Option.bind (f_X12_isWord 46 w3.1 w3.2) fun v4 => if v4 = true then (f_X12_readNoise_70 v1 0 w3.1 w3.2) else (Option.bind (f_X12_isWord 47 w3.1 w3.2) fun v6 => if v6 = true then (f_X12_readNoise_70 v1 1 w3.1 w3.2) else (Option.bind (f_X12_isWord 48 w3.1 w3.2) fun v8 => if v8 = true then (f_X12_readNoise_70 v1 2 w3.1 w3.2) else (Option.bind (f_X12_isWord 49 w3.1 w3.2) fun v10 => if v10 = true then (f_X12_readNoise_70 v1 3 w3.1 w3.2) else (f_X12_readNoise_70 v1 ((-1)) w3.1 w3.2)))))
set_option maxRecDepth 100000 in
theorem S_X12_readNoise {g : Gx} (I : MI) (L : ML) (res : Bool × MI × ML) (h : f_X12_readNoise I L = some res) : E g 7 0 mX12_readNoise 0 [(0, .ref 149)] [] (I, L) (.inl (some (.int (bI res.1)))) (res.2.1, res.2.2) := by
  unfold f_X12_readNoise at h
  refine E_aload_n 1 rfl dX12_readNoise_0 rfl 0 rfl ?_
  obtain ⟨v1, hv1, h⟩ := Option.bind_eq_some_iff.mp h
  refine E_cV1 (As := []) 4 rfl dX12_readNoise_1 shc_149 ck_X12_67 cv_X12_noises rfl (by decide) (Nat.le_of_ble_eq_true rfl) (C_X12_noises (g := g) hv1) rfl ?_
  refine E_istore_n (lv' := [(1, .int v1), (0, .ref 149)]) 5 rfl dX12_readNoise_4 rfl (Nat.le_of_ble_eq_true rfl) rfl ?_
  refine E_iload_n 6 rfl dX12_readNoise_5 rfl 0 rfl ?_
  refine E_bipush (v := 12) 8 rfl dX12_readNoise_6 (by decide) ?_
  refine E_icmp_ne 13 11 (by decide) rfl dX12_readNoise_8 (fun c2 => ?_) (fun c2 => ?_)
  · rw [if_neg c2] at h
    refine E_aload_n 14 rfl dX12_readNoise_13 rfl 1 rfl ?_
    obtain ⟨w3, hw3, h⟩ := Option.bind_eq_some_iff.mp h
    refine E_cV0 (As := []) 17 rfl dX12_readNoise_14 shc_149 ck_X12_98 cv_X12_letters rfl (by decide) (Nat.le_of_ble_eq_true rfl) (C_X12_letters (g := g) hw3) rfl ?_
    refine E_aload_n 18 rfl dX12_readNoise_17 rfl 1 rfl ?_
    refine E_ldcS 46 (by decide) 20 rfl dX12_readNoise_18 rfl ?_
    obtain ⟨v4, hv4, h⟩ := Option.bind_eq_some_iff.mp h
    refine E_cV1 (As := [.ref (100000 + 46)]) 23 rfl dX12_readNoise_20 shc_149 ck_X12_101 cv_X12_isWord rfl (by decide) (Nat.le_of_ble_eq_true rfl) (C_X12_isWord (g := g) (by decide) hv4) rfl ?_
    refine E_if_eqB 30 26 (by decide) rfl dX12_readNoise_23 (fun c5 => ?_) (fun c5 => ?_)
    · rw [if_neg (by rw [c5]; decide)] at h
      refine E_aload_n 31 rfl dX12_readNoise_30 rfl 1 rfl ?_
      refine E_ldcS 47 (by decide) 33 rfl dX12_readNoise_31 rfl ?_
      obtain ⟨v6, hv6, h⟩ := Option.bind_eq_some_iff.mp h
      refine E_cV1 (As := [.ref (100000 + 47)]) 36 rfl dX12_readNoise_33 shc_149 ck_X12_101 cv_X12_isWord rfl (by decide) (Nat.le_of_ble_eq_true rfl) (C_X12_isWord (g := g) (by decide) hv6) rfl ?_
      refine E_if_eqB 43 39 (by decide) rfl dX12_readNoise_36 (fun c7 => ?_) (fun c7 => ?_)
      · rw [if_neg (by rw [c7]; decide)] at h
        refine E_aload_n 44 rfl dX12_readNoise_43 rfl 1 rfl ?_
        refine E_ldcS 48 (by decide) 46 rfl dX12_readNoise_44 rfl ?_
        obtain ⟨v8, hv8, h⟩ := Option.bind_eq_some_iff.mp h
        refine E_cV1 (As := [.ref (100000 + 48)]) 49 rfl dX12_readNoise_46 shc_149 ck_X12_101 cv_X12_isWord rfl (by decide) (Nat.le_of_ble_eq_true rfl) (C_X12_isWord (g := g) (by decide) hv8) rfl ?_
        refine E_if_eqB 56 52 (by decide) rfl dX12_readNoise_49 (fun c9 => ?_) (fun c9 => ?_)
        · rw [if_neg (by rw [c9]; decide)] at h
          refine E_aload_n 57 rfl dX12_readNoise_56 rfl 1 rfl ?_
          refine E_ldcS 49 (by decide) 59 rfl dX12_readNoise_57 rfl ?_
          obtain ⟨v10, hv10, h⟩ := Option.bind_eq_some_iff.mp h
          refine E_cV1 (As := [.ref (100000 + 49)]) 62 rfl dX12_readNoise_59 shc_149 ck_X12_101 cv_X12_isWord rfl (by decide) (Nat.le_of_ble_eq_true rfl) (C_X12_isWord (g := g) (by decide) hv10) rfl ?_
          refine E_if_eqB 69 65 (by decide) rfl dX12_readNoise_62 (fun c11 => ?_) (fun c11 => ?_)
          · rw [if_neg (by rw [c11]; decide)] at h
            refine E_iconst (v := (-1)) 70 rfl dX12_readNoise_69 (by decide) ?_
            refine E_sub (lv' := [(0, .ref 149), (1, .int v1)]) [1, 0] rfl ?_
            exact S_X12_readNoise_70 v1 ((-1)) w3.1 w3.2 _ h
          · rw [if_pos c11] at h
            refine E_iconst (v := 3) 66 rfl dX12_readNoise_65 (by decide) ?_
            refine E_goto 70 (by decide) dX12_readNoise_66 ?_
            refine E_sub (lv' := [(0, .ref 149), (1, .int v1)]) [1, 0] rfl ?_
            exact S_X12_readNoise_70 v1 3 w3.1 w3.2 _ h
        · rw [if_pos c9] at h
          refine E_iconst (v := 2) 53 rfl dX12_readNoise_52 (by decide) ?_
          refine E_goto 70 (by decide) dX12_readNoise_53 ?_
          refine E_sub (lv' := [(0, .ref 149), (1, .int v1)]) [1, 0] rfl ?_
          exact S_X12_readNoise_70 v1 2 w3.1 w3.2 _ h
      · rw [if_pos c7] at h
        refine E_iconst (v := 1) 40 rfl dX12_readNoise_39 (by decide) ?_
        refine E_goto 70 (by decide) dX12_readNoise_40 ?_
        refine E_sub (lv' := [(0, .ref 149), (1, .int v1)]) [1, 0] rfl ?_
        exact S_X12_readNoise_70 v1 1 w3.1 w3.2 _ h
    · rw [if_pos c5] at h
      refine E_iconst (v := 0) 27 rfl dX12_readNoise_26 (by decide) ?_
      refine E_goto 70 (by decide) dX12_readNoise_27 ?_
      refine E_sub (lv' := [(0, .ref 149), (1, .int v1)]) [1, 0] rfl ?_
      exact S_X12_readNoise_70 v1 0 w3.1 w3.2 _ h
  · rw [if_pos c2] at h
    refine E_iconst (v := 0) 12 rfl dX12_readNoise_11 (by decide) ?_
    cases h
    exact E_zret (x := false) rfl dX12_readNoise_12
theorem C_X12_readNoise {g : Gx} {I : MI} {L : ML} {res : Bool × MI × ML} (h : f_X12_readNoise I L = some res) : Ent g 7 0 mX12_readNoise [.ref 149] (I, L) (.inl (some (.int (bI res.1)))) (res.2.1, res.2.2) := Ent_of (by decide +kernel) (Nat.le_of_ble_eq_true rfl) (S_X12_readNoise I L _ h)
def f_X12_readHouseLine_146 (y0 : Bool) (I : MI) (L : ML) : Option (Bool × MI × ML) := some (y0, I, L)
set_option maxRecDepth 100000 in
theorem S_X12_readHouseLine_146 {g : Gx} (y0 : Bool) (I : MI) (L : ML) (res : Bool × MI × ML) (h : f_X12_readHouseLine_146 y0 I L = some res) : E g 8 0 mX12_readHouseLine 146 [] [.int (bI y0)] (I, L) (.inl (some (.int (bI res.1)))) (res.2.1, res.2.2) := by
  unfold f_X12_readHouseLine_146 at h
  cases h
  exact E_zret (x := y0) rfl dX12_readHouseLine_146
def f_X12_readHouseLine_137 (x2 : Int32) (I : MI) (L : ML) : Option (Bool × MI × ML) := if x2 < 0 then (f_X12_readHouseLine_146 false I L) else (f_X12_readHouseLine_146 true I L)
set_option maxRecDepth 100000 in
theorem S_X12_readHouseLine_137 {g : Gx} (x2 : Int32) (I : MI) (L : ML) (res : Bool × MI × ML) (h : f_X12_readHouseLine_137 x2 I L = some res) : E g 8 0 mX12_readHouseLine 137 [(2, .int x2)] [] (I, L) (.inl (some (.int (bI res.1)))) (res.2.1, res.2.2) := by
  unfold f_X12_readHouseLine_137 at h
  refine E_iload_n 138 rfl dX12_readHouseLine_137 rfl 0 rfl ?_
  refine E_if_lt 145 141 (by decide) rfl dX12_readHouseLine_138 (fun c1 => ?_) (fun c1 => ?_)
  · rw [if_pos c1] at h
    refine E_iconst (v := 0) 146 rfl dX12_readHouseLine_145 (by decide) ?_
    refine E_sub (lv' := []) [] rfl ?_
    exact S_X12_readHouseLine_146 false I L _ h
  · rw [if_neg c1] at h
    refine E_iconst (v := 1) 142 rfl dX12_readHouseLine_141 (by decide) ?_
    refine E_goto 146 (by decide) dX12_readHouseLine_142 ?_
    refine E_sub (lv' := []) [] rfl ?_
    exact S_X12_readHouseLine_146 true I L _ h
def f_X12_readHouseLine_122 (x1 : Int32) (y0 : Int32) (I : MI) (L : ML) : Option (Bool × MI × ML) := if y0 < 0 then (f_X12_readHouseLine_137 y0 I L) else (Option.bind (stI I 150 2143 (15 + x1) y0) fun I2 => f_X12_readHouseLine_137 y0 I2 L)
set_option maxRecDepth 100000 in
theorem S_X12_readHouseLine_122 {g : Gx} (x1 : Int32) (y0 : Int32) (I : MI) (L : ML) (res : Bool × MI × ML) (h : f_X12_readHouseLine_122 x1 y0 I L = some res) : E g 8 0 mX12_readHouseLine 122 [(0, .ref 149), (1, .int x1)] [.int y0] (I, L) (.inl (some (.int (bI res.1)))) (res.2.1, res.2.2) := by
  unfold f_X12_readHouseLine_122 at h
  refine E_istore_n (lv' := [(2, .int y0), (0, .ref 149), (1, .int x1)]) 123 rfl dX12_readHouseLine_122 rfl (Nat.le_of_ble_eq_true rfl) rfl ?_
  refine E_iload_n 124 rfl dX12_readHouseLine_123 rfl 0 rfl ?_
  refine E_if_lt 137 127 (by decide) rfl dX12_readHouseLine_124 (fun c1 => ?_) (fun c1 => ?_)
  · rw [if_pos c1] at h
    refine E_sub (lv' := [(2, .int y0)]) [0] rfl ?_
    exact S_X12_readHouseLine_137 y0 I L _ h
  · rw [if_neg c1] at h
    refine E_aload_n 128 rfl dX12_readHouseLine_127 rfl 1 rfl ?_
    refine E_gR 150 131 rfl dX12_readHouseLine_128 shc_149 fl_X12_13 rfl (by decide) (by decide) ?_
    refine E_bipush (v := 15) 133 rfl dX12_readHouseLine_131 (by decide) ?_
    refine E_iload_n 134 rfl dX12_readHouseLine_133 rfl 2 rfl ?_
    refine E_iadd 135 rfl dX12_readHouseLine_134 ?_
    refine E_iload_n 136 rfl dX12_readHouseLine_135 rfl 0 rfl ?_
    obtain ⟨I2, hI2, h⟩ := Option.bind_eq_some_iff.mp h
    refine E_stI 137 rfl dX12_readHouseLine_136 shc_150 hI2 ?_
    refine E_sub (lv' := [(2, .int y0)]) [0] rfl ?_
    exact S_X12_readHouseLine_137 y0 I2 L _ h
def f_X12_readHouseLine_90 (y0 : Bool) (I : MI) (L : ML) : Option (Bool × MI × ML) := some (y0, I, L)
set_option maxRecDepth 100000 in
theorem S_X12_readHouseLine_90 {g : Gx} (y0 : Bool) (I : MI) (L : ML) (res : Bool × MI × ML) (h : f_X12_readHouseLine_90 y0 I L = some res) : E g 8 0 mX12_readHouseLine 90 [] [.int (bI y0)] (I, L) (.inl (some (.int (bI res.1)))) (res.2.1, res.2.2) := by
  unfold f_X12_readHouseLine_90 at h
  cases h
  exact E_zret (x := y0) rfl dX12_readHouseLine_90
def f_X12_readHouseLine (I : MI) (L : ML) : Option (Bool × MI × ML) := Option.bind (f_X12_isWord 40 I L) fun v1 => if v1 = true then (Option.bind (f_X12_readRoom I L) fun w22 => some (w22.1, w22.2.1, w22.2.2)) else (Option.bind (f_X12_isWord 41 I L) fun v3 => if v3 = true then (Option.bind (f_X12_readDoor I L) fun w21 => some (w21.1, w21.2.1, w21.2.2)) else (Option.bind (f_X12_isWord 42 I L) fun v5 => if v5 = true then (Option.bind (f_X12_readHeir I L) fun w20 => some (w20.1, w20.2.1, w20.2.2)) else (Option.bind (f_X12_isWord 45 I L) fun v7 => if v7 = true then (Option.bind (f_X12_readNoise I L) fun w19 => some (w19.1, w19.2.1, w19.2.2)) else (Option.bind (f_X12_isWord 53 I L) fun v9 => if v9 = true then (Option.bind (f_X12_number 0 100 I L) fun w16 => Option.bind (stI w16.2.1 150 2143 8 w16.1) fun I17 => if w16.1 < 0 then (f_X12_readHouseLine_90 false I17 w16.2.2) else (f_X12_readHouseLine_90 true I17 w16.2.2)) else (Option.bind (f_X12_isWord 54 I L) fun v11 => if v11 = true then (Option.bind (f_X12_roomTold I L) fun w13 => if 0 ≤ w13.1 then (Option.bind (f_X12_number 0 20 w13.2.1 w13.2.2) fun w15 => f_X12_readHouseLine_122 w13.1 w15.1 w15.2.1 w15.2.2) else (f_X12_readHouseLine_122 w13.1 ((-1)) w13.2.1 w13.2.2)) else (some (false, I, L)))))))
set_option maxRecDepth 100000 in
theorem S_X12_readHouseLine {g : Gx} (I : MI) (L : ML) (res : Bool × MI × ML) (h : f_X12_readHouseLine I L = some res) : E g 8 0 mX12_readHouseLine 0 [(0, .ref 149)] [] (I, L) (.inl (some (.int (bI res.1)))) (res.2.1, res.2.2) := by
  unfold f_X12_readHouseLine at h
  refine E_aload_n 1 rfl dX12_readHouseLine_0 rfl 0 rfl ?_
  refine E_ldcS 40 (by decide) 3 rfl dX12_readHouseLine_1 rfl ?_
  obtain ⟨v1, hv1, h⟩ := Option.bind_eq_some_iff.mp h
  refine E_cV1 (As := [.ref (100000 + 40)]) 6 rfl dX12_readHouseLine_3 shc_149 ck_X12_101 cv_X12_isWord rfl (by decide) (Nat.le_of_ble_eq_true rfl) (C_X12_isWord (g := g) (by decide) hv1) rfl ?_
  refine E_if_eqB 14 9 (by decide) rfl dX12_readHouseLine_6 (fun c2 => ?_) (fun c2 => ?_)
  · rw [if_neg (by rw [c2]; decide)] at h
    refine E_aload_n 15 rfl dX12_readHouseLine_14 rfl 0 rfl ?_
    refine E_ldcS 41 (by decide) 17 rfl dX12_readHouseLine_15 rfl ?_
    obtain ⟨v3, hv3, h⟩ := Option.bind_eq_some_iff.mp h
    refine E_cV1 (As := [.ref (100000 + 41)]) 20 rfl dX12_readHouseLine_17 shc_149 ck_X12_101 cv_X12_isWord rfl (by decide) (Nat.le_of_ble_eq_true rfl) (C_X12_isWord (g := g) (by decide) hv3) rfl ?_
    refine E_if_eqB 28 23 (by decide) rfl dX12_readHouseLine_20 (fun c4 => ?_) (fun c4 => ?_)
    · rw [if_neg (by rw [c4]; decide)] at h
      refine E_aload_n 29 rfl dX12_readHouseLine_28 rfl 0 rfl ?_
      refine E_ldcS 42 (by decide) 31 rfl dX12_readHouseLine_29 rfl ?_
      obtain ⟨v5, hv5, h⟩ := Option.bind_eq_some_iff.mp h
      refine E_cV1 (As := [.ref (100000 + 42)]) 34 rfl dX12_readHouseLine_31 shc_149 ck_X12_101 cv_X12_isWord rfl (by decide) (Nat.le_of_ble_eq_true rfl) (C_X12_isWord (g := g) (by decide) hv5) rfl ?_
      refine E_if_eqB 42 37 (by decide) rfl dX12_readHouseLine_34 (fun c6 => ?_) (fun c6 => ?_)
      · rw [if_neg (by rw [c6]; decide)] at h
        refine E_aload_n 43 rfl dX12_readHouseLine_42 rfl 0 rfl ?_
        refine E_ldcS 45 (by decide) 45 rfl dX12_readHouseLine_43 rfl ?_
        obtain ⟨v7, hv7, h⟩ := Option.bind_eq_some_iff.mp h
        refine E_cV1 (As := [.ref (100000 + 45)]) 48 rfl dX12_readHouseLine_45 shc_149 ck_X12_101 cv_X12_isWord rfl (by decide) (Nat.le_of_ble_eq_true rfl) (C_X12_isWord (g := g) (by decide) hv7) rfl ?_
        refine E_if_eqB 56 51 (by decide) rfl dX12_readHouseLine_48 (fun c8 => ?_) (fun c8 => ?_)
        · rw [if_neg (by rw [c8]; decide)] at h
          refine E_aload_n 57 rfl dX12_readHouseLine_56 rfl 0 rfl ?_
          refine E_ldcS 53 (by decide) 59 rfl dX12_readHouseLine_57 rfl ?_
          obtain ⟨v9, hv9, h⟩ := Option.bind_eq_some_iff.mp h
          refine E_cV1 (As := [.ref (100000 + 53)]) 62 rfl dX12_readHouseLine_59 shc_149 ck_X12_101 cv_X12_isWord rfl (by decide) (Nat.le_of_ble_eq_true rfl) (C_X12_isWord (g := g) (by decide) hv9) rfl ?_
          refine E_if_eqB 91 65 (by decide) rfl dX12_readHouseLine_62 (fun c10 => ?_) (fun c10 => ?_)
          · rw [if_neg (by rw [c10]; decide)] at h
            refine E_aload_n 92 rfl dX12_readHouseLine_91 rfl 0 rfl ?_
            refine E_ldcS 54 (by decide) 94 rfl dX12_readHouseLine_92 rfl ?_
            obtain ⟨v11, hv11, h⟩ := Option.bind_eq_some_iff.mp h
            refine E_cV1 (As := [.ref (100000 + 54)]) 97 rfl dX12_readHouseLine_94 shc_149 ck_X12_101 cv_X12_isWord rfl (by decide) (Nat.le_of_ble_eq_true rfl) (C_X12_isWord (g := g) (by decide) hv11) rfl ?_
            refine E_if_neB 102 100 (by decide) rfl dX12_readHouseLine_97 (fun c12 => ?_) (fun c12 => ?_)
            · rw [if_pos c12] at h
              refine E_aload_n 103 rfl dX12_readHouseLine_102 rfl 0 rfl ?_
              obtain ⟨w13, hw13, h⟩ := Option.bind_eq_some_iff.mp h
              refine E_cV1 (As := []) 106 rfl dX12_readHouseLine_103 shc_149 ck_X12_112 cv_X12_roomTold rfl (by decide) (Nat.le_of_ble_eq_true rfl) (C_X12_roomTold (g := g) hw13) rfl ?_
              refine E_istore_n (lv' := [(1, .int w13.1), (0, .ref 149)]) 107 rfl dX12_readHouseLine_106 rfl (Nat.le_of_ble_eq_true rfl) rfl ?_
              refine E_iload_n 108 rfl dX12_readHouseLine_107 rfl 0 rfl ?_
              refine E_if_ge 115 111 (by decide) rfl dX12_readHouseLine_108 (fun c14 => ?_) (fun c14 => ?_)
              · rw [if_pos c14] at h
                refine E_aload_n 116 rfl dX12_readHouseLine_115 rfl 1 rfl ?_
                refine E_iconst (v := 0) 117 rfl dX12_readHouseLine_116 (by decide) ?_
                refine E_bipush (v := 20) 119 rfl dX12_readHouseLine_117 (by decide) ?_
                obtain ⟨w15, hw15, h⟩ := Option.bind_eq_some_iff.mp h
                refine E_cV1 (As := [.int 0, .int 20]) 122 rfl dX12_readHouseLine_119 shc_149 ck_X12_108 cv_X12_number rfl (by decide) (Nat.le_of_ble_eq_true rfl) (C_X12_number (g := g) hw15) rfl ?_
                refine E_sub (lv' := [(0, .ref 149), (1, .int w13.1)]) [1, 0] rfl ?_
                exact S_X12_readHouseLine_122 w13.1 w15.1 w15.2.1 w15.2.2 _ h
              · rw [if_neg c14] at h
                refine E_iconst (v := (-1)) 112 rfl dX12_readHouseLine_111 (by decide) ?_
                refine E_goto 122 (by decide) dX12_readHouseLine_112 ?_
                refine E_sub (lv' := [(0, .ref 149), (1, .int w13.1)]) [1, 0] rfl ?_
                exact S_X12_readHouseLine_122 w13.1 ((-1)) w13.2.1 w13.2.2 _ h
            · rw [if_neg (by rw [c12]; decide)] at h
              refine E_iconst (v := 0) 101 rfl dX12_readHouseLine_100 (by decide) ?_
              cases h
              exact E_zret (x := false) rfl dX12_readHouseLine_101
          · rw [if_pos c10] at h
            refine E_aload_n 66 rfl dX12_readHouseLine_65 rfl 0 rfl ?_
            refine E_iconst (v := 0) 67 rfl dX12_readHouseLine_66 (by decide) ?_
            refine E_bipush (v := 100) 69 rfl dX12_readHouseLine_67 (by decide) ?_
            obtain ⟨w16, hw16, h⟩ := Option.bind_eq_some_iff.mp h
            refine E_cV1 (As := [.int 0, .int 100]) 72 rfl dX12_readHouseLine_69 shc_149 ck_X12_108 cv_X12_number rfl (by decide) (Nat.le_of_ble_eq_true rfl) (C_X12_number (g := g) hw16) rfl ?_
            refine E_istore_n (lv' := [(1, .int w16.1), (0, .ref 149)]) 73 rfl dX12_readHouseLine_72 rfl (Nat.le_of_ble_eq_true rfl) rfl ?_
            refine E_aload_n 74 rfl dX12_readHouseLine_73 rfl 1 rfl ?_
            refine E_gR 150 77 rfl dX12_readHouseLine_74 shc_149 fl_X12_13 rfl (by decide) (by decide) ?_
            refine E_bipush (v := 8) 79 rfl dX12_readHouseLine_77 (by decide) ?_
            refine E_iload_n 80 rfl dX12_readHouseLine_79 rfl 0 rfl ?_
            obtain ⟨I17, hI17, h⟩ := Option.bind_eq_some_iff.mp h
            refine E_stI 81 rfl dX12_readHouseLine_80 shc_150 hI17 ?_
            refine E_iload_n 82 rfl dX12_readHouseLine_81 rfl 0 rfl ?_
            refine E_if_lt 89 85 (by decide) rfl dX12_readHouseLine_82 (fun c18 => ?_) (fun c18 => ?_)
            · rw [if_pos c18] at h
              refine E_iconst (v := 0) 90 rfl dX12_readHouseLine_89 (by decide) ?_
              refine E_sub (lv' := []) [] rfl ?_
              exact S_X12_readHouseLine_90 false I17 w16.2.2 _ h
            · rw [if_neg c18] at h
              refine E_iconst (v := 1) 86 rfl dX12_readHouseLine_85 (by decide) ?_
              refine E_goto 90 (by decide) dX12_readHouseLine_86 ?_
              refine E_sub (lv' := []) [] rfl ?_
              exact S_X12_readHouseLine_90 true I17 w16.2.2 _ h
        · rw [if_pos c8] at h
          refine E_aload_n 52 rfl dX12_readHouseLine_51 rfl 0 rfl ?_
          obtain ⟨w19, hw19, h⟩ := Option.bind_eq_some_iff.mp h
          refine E_cV1 (As := []) 55 rfl dX12_readHouseLine_52 shc_149 ck_X12_164 cv_X12_readNoise rfl (by decide) (Nat.le_of_ble_eq_true rfl) (C_X12_readNoise (g := g) hw19) rfl ?_
          cases h
          exact E_zret (x := w19.1) rfl dX12_readHouseLine_55
      · rw [if_pos c6] at h
        refine E_aload_n 38 rfl dX12_readHouseLine_37 rfl 0 rfl ?_
        obtain ⟨w20, hw20, h⟩ := Option.bind_eq_some_iff.mp h
        refine E_cV1 (As := []) 41 rfl dX12_readHouseLine_38 shc_149 ck_X12_159 cv_X12_readHeir rfl (by decide) (Nat.le_of_ble_eq_true rfl) (C_X12_readHeir (g := g) hw20) rfl ?_
        cases h
        exact E_zret (x := w20.1) rfl dX12_readHouseLine_41
    · rw [if_pos c4] at h
      refine E_aload_n 24 rfl dX12_readHouseLine_23 rfl 0 rfl ?_
      obtain ⟨w21, hw21, h⟩ := Option.bind_eq_some_iff.mp h
      refine E_cV1 (As := []) 27 rfl dX12_readHouseLine_24 shc_149 ck_X12_154 cv_X12_readDoor rfl (by decide) (Nat.le_of_ble_eq_true rfl) (C_X12_readDoor (g := g) hw21) rfl ?_
      cases h
      exact E_zret (x := w21.1) rfl dX12_readHouseLine_27
  · rw [if_pos c2] at h
    refine E_aload_n 10 rfl dX12_readHouseLine_9 rfl 0 rfl ?_
    obtain ⟨w22, hw22, h⟩ := Option.bind_eq_some_iff.mp h
    refine E_cV1 (As := []) 13 rfl dX12_readHouseLine_10 shc_149 ck_X12_148 cv_X12_readRoom rfl (by decide) (Nat.le_of_ble_eq_true rfl) (C_X12_readRoom (g := g) hw22) rfl ?_
    cases h
    exact E_zret (x := w22.1) rfl dX12_readHouseLine_13
theorem C_X12_readHouseLine {g : Gx} {I : MI} {L : ML} {res : Bool × MI × ML} (h : f_X12_readHouseLine I L = some res) : Ent g 8 0 mX12_readHouseLine [.ref 149] (I, L) (.inl (some (.int (bI res.1)))) (res.2.1, res.2.2) := Ent_of (by decide +kernel) (Nat.le_of_ble_eq_true rfl) (S_X12_readHouseLine I L _ h)
def f_X12_emits (x1 : Int32) (x2 : Int32) (I : MI) (L : ML) : Option (MI × ML) := Option.bind (stI I 150 2143 (1343 + (2 * (I 149 15))) x1) fun I1 => Option.bind (stI I1 150 2143 ((1343 + (2 * (I1 149 15))) + 1) x2) fun I2 => Option.bind (pfI I2 149 15 ((I2 149 15) + 1)) fun I3 => some (I3, L)
set_option maxRecDepth 100000 in
theorem S_X12_emits {g : Gx} (x1 : Int32) (x2 : Int32) (I : MI) (L : ML) (res : MI × ML) (h : f_X12_emits x1 x2 I L = some res) : E g 1 0 mX12_emits 0 [(0, .ref 149), (1, .int x1), (2, .int x2)] [] (I, L) (.inl none) (res.1, res.2) := by
  unfold f_X12_emits at h
  refine E_aload_n 1 rfl dX12_emits_0 rfl 0 rfl ?_
  refine E_gR 150 4 rfl dX12_emits_1 shc_149 fl_X12_13 rfl (by decide) (by decide) ?_
  refine E_sipush (v := 1343) 7 rfl dX12_emits_4 (by decide) ?_
  refine E_iconst (v := 2) 8 rfl dX12_emits_7 (by decide) ?_
  refine E_aload_n 9 rfl dX12_emits_8 rfl 0 rfl ?_
  refine E_gI 12 rfl dX12_emits_9 shc_149 fl_X12_171 rfl ?_
  refine E_imul 13 rfl dX12_emits_12 ?_
  refine E_iadd 14 rfl dX12_emits_13 ?_
  refine E_iload_n 15 rfl dX12_emits_14 rfl 1 rfl ?_
  obtain ⟨I1, hI1, h⟩ := Option.bind_eq_some_iff.mp h
  refine E_stI 16 rfl dX12_emits_15 shc_150 hI1 ?_
  refine E_aload_n 17 rfl dX12_emits_16 rfl 0 rfl ?_
  refine E_gR 150 20 rfl dX12_emits_17 shc_149 fl_X12_13 rfl (by decide) (by decide) ?_
  refine E_sipush (v := 1343) 23 rfl dX12_emits_20 (by decide) ?_
  refine E_iconst (v := 2) 24 rfl dX12_emits_23 (by decide) ?_
  refine E_aload_n 25 rfl dX12_emits_24 rfl 0 rfl ?_
  refine E_gI 28 rfl dX12_emits_25 shc_149 fl_X12_171 rfl ?_
  refine E_imul 29 rfl dX12_emits_28 ?_
  refine E_iadd 30 rfl dX12_emits_29 ?_
  refine E_iconst (v := 1) 31 rfl dX12_emits_30 (by decide) ?_
  refine E_iadd 32 rfl dX12_emits_31 ?_
  refine E_iload_n 33 rfl dX12_emits_32 rfl 2 rfl ?_
  obtain ⟨I2, hI2, h⟩ := Option.bind_eq_some_iff.mp h
  refine E_stI 34 rfl dX12_emits_33 shc_150 hI2 ?_
  refine E_aload_n 35 rfl dX12_emits_34 rfl 0 rfl ?_
  refine E_dup 36 rfl dX12_emits_35 rfl ?_
  refine E_gI 39 rfl dX12_emits_36 shc_149 fl_X12_171 rfl ?_
  refine E_iconst (v := 1) 40 rfl dX12_emits_39 (by decide) ?_
  refine E_iadd 41 rfl dX12_emits_40 ?_
  obtain ⟨I3, hI3, h⟩ := Option.bind_eq_some_iff.mp h
  refine E_pfI 44 rfl dX12_emits_41 shc_149 fl_X12_171 rfl hI3 ?_
  cases h
  exact E_vret rfl dX12_emits_44
theorem C_X12_emits {g : Gx} {x1 : Int32} {x2 : Int32} {I : MI} {L : ML} {res : MI × ML} (h : f_X12_emits x1 x2 I L = some res) : Ent g 1 0 mX12_emits [.ref 149, .int x1, .int x2] (I, L) (.inl none) (res.1, res.2) := Ent_of (by decide +kernel) (Nat.le_of_ble_eq_true rfl) (S_X12_emits x1 x2 I L _ h)
def f_X12_readPart_129 (y0 : Bool) (I : MI) (L : ML) : Option (Bool × MI × ML) := some (y0, I, L)
set_option maxRecDepth 100000 in
theorem S_X12_readPart_129 {g : Gx} (y0 : Bool) (I : MI) (L : ML) (res : Bool × MI × ML) (h : f_X12_readPart_129 y0 I L = some res) : E g 5 0 mX12_readPart 129 [] [.int (bI y0)] (I, L) (.inl (some (.int (bI res.1)))) (res.2.1, res.2.2) := by
  unfold f_X12_readPart_129 at h
  cases h
  exact E_zret (x := y0) rfl dX12_readPart_129
def f_X12_readPart_120 (x1 : Int32) (I : MI) (L : ML) : Option (Bool × MI × ML) := if x1 < 0 then (f_X12_readPart_129 false I L) else (f_X12_readPart_129 true I L)
set_option maxRecDepth 100000 in
theorem S_X12_readPart_120 {g : Gx} (x1 : Int32) (I : MI) (L : ML) (res : Bool × MI × ML) (h : f_X12_readPart_120 x1 I L = some res) : E g 5 0 mX12_readPart 120 [(1, .int x1)] [] (I, L) (.inl (some (.int (bI res.1)))) (res.2.1, res.2.2) := by
  unfold f_X12_readPart_120 at h
  refine E_iload_n 121 rfl dX12_readPart_120 rfl 0 rfl ?_
  refine E_if_lt 128 124 (by decide) rfl dX12_readPart_121 (fun c1 => ?_) (fun c1 => ?_)
  · rw [if_pos c1] at h
    refine E_iconst (v := 0) 129 rfl dX12_readPart_128 (by decide) ?_
    refine E_sub (lv' := []) [] rfl ?_
    exact S_X12_readPart_129 false I L _ h
  · rw [if_neg c1] at h
    refine E_iconst (v := 1) 125 rfl dX12_readPart_124 (by decide) ?_
    refine E_goto 129 (by decide) dX12_readPart_125 ?_
    refine E_sub (lv' := []) [] rfl ?_
    exact S_X12_readPart_129 true I L _ h
def f_X12_readPart_113 (y0 : Int32) (I : MI) (L : ML) : Option (Bool × MI × ML) := Option.bind (f_X12_emits y0 0 I L) fun w1 => f_X12_readPart_120 y0 w1.1 w1.2
set_option maxRecDepth 100000 in
theorem S_X12_readPart_113 {g : Gx} (y0 : Int32) (I : MI) (L : ML) (res : Bool × MI × ML) (h : f_X12_readPart_113 y0 I L = some res) : E g 5 0 mX12_readPart 113 [(0, .ref 149)] [.int y0] (I, L) (.inl (some (.int (bI res.1)))) (res.2.1, res.2.2) := by
  unfold f_X12_readPart_113 at h
  refine E_istore_n (lv' := [(1, .int y0), (0, .ref 149)]) 114 rfl dX12_readPart_113 rfl (Nat.le_of_ble_eq_true rfl) rfl ?_
  refine E_aload_n 115 rfl dX12_readPart_114 rfl 1 rfl ?_
  refine E_iload_n 116 rfl dX12_readPart_115 rfl 0 rfl ?_
  refine E_iconst (v := 0) 117 rfl dX12_readPart_116 (by decide) ?_
  obtain ⟨w1, hw1, h⟩ := Option.bind_eq_some_iff.mp h
  refine E_cV0 (As := [.int y0, .int 0]) 120 rfl dX12_readPart_117 shc_149 ck_X12_174 cv_X12_emits rfl (by decide) (Nat.le_of_ble_eq_true rfl) (C_X12_emits (g := g) hw1) rfl ?_
  refine E_sub (lv' := [(1, .int y0)]) [0] rfl ?_
  exact S_X12_readPart_120 y0 w1.1 w1.2 _ h
def f_X12_readPart (I : MI) (L : ML) : Option (Bool × MI × ML) := Option.bind (f_X12_letters I L) fun w1 => if (w1.1 149 9) = (w1.1 149 11) then (Option.bind (f_X12_number 0 999 w1.1 w1.2) fun w15 => Option.bind (f_X12_emits 9 w15.1 w15.2.1 w15.2.2) fun w16 => f_X12_readPart_120 w15.1 w16.1 w16.2) else (Option.bind (f_X12_isWord 50 w1.1 w1.2) fun v3 => if v3 = true then (f_X12_readPart_113 0 w1.1 w1.2) else (Option.bind (f_X12_isWord 51 w1.1 w1.2) fun v5 => if v5 = true then (f_X12_readPart_113 1 w1.1 w1.2) else (Option.bind (f_X12_isWord 62 w1.1 w1.2) fun v7 => if v7 = true then (f_X12_readPart_113 2 w1.1 w1.2) else (Option.bind (f_X12_isWord 40 w1.1 w1.2) fun v9 => if v9 = true then (f_X12_readPart_113 3 w1.1 w1.2) else (Option.bind (f_X12_isWord 45 w1.1 w1.2) fun v11 => if v11 = true then (f_X12_readPart_113 4 w1.1 w1.2) else (Option.bind (f_X12_isWord 63 w1.1 w1.2) fun v13 => if v13 = true then (f_X12_readPart_113 5 w1.1 w1.2) else (f_X12_readPart_113 ((-1)) w1.1 w1.2)))))))
set_option maxRecDepth 100000 in
theorem S_X12_readPart {g : Gx} (I : MI) (L : ML) (res : Bool × MI × ML) (h : f_X12_readPart I L = some res) : E g 5 0 mX12_readPart 0 [(0, .ref 149)] [] (I, L) (.inl (some (.int (bI res.1)))) (res.2.1, res.2.2) := by
  unfold f_X12_readPart at h
  refine E_aload_n 1 rfl dX12_readPart_0 rfl 0 rfl ?_
  obtain ⟨w1, hw1, h⟩ := Option.bind_eq_some_iff.mp h
  refine E_cV0 (As := []) 4 rfl dX12_readPart_1 shc_149 ck_X12_98 cv_X12_letters rfl (by decide) (Nat.le_of_ble_eq_true rfl) (C_X12_letters (g := g) hw1) rfl ?_
  refine E_aload_n 5 rfl dX12_readPart_4 rfl 0 rfl ?_
  refine E_gI 8 rfl dX12_readPart_5 shc_149 fl_X12_73 rfl ?_
  refine E_aload_n 9 rfl dX12_readPart_8 rfl 0 rfl ?_
  refine E_gI 12 rfl dX12_readPart_9 shc_149 fl_X12_83 rfl ?_
  refine E_icmp_ne 34 15 (by decide) rfl dX12_readPart_12 (fun c2 => ?_) (fun c2 => ?_)
  · rw [if_neg c2] at h
    refine E_aload_n 35 rfl dX12_readPart_34 rfl 0 rfl ?_
    refine E_ldcS 50 (by decide) 37 rfl dX12_readPart_35 rfl ?_
    obtain ⟨v3, hv3, h⟩ := Option.bind_eq_some_iff.mp h
    refine E_cV1 (As := [.ref (100000 + 50)]) 40 rfl dX12_readPart_37 shc_149 ck_X12_101 cv_X12_isWord rfl (by decide) (Nat.le_of_ble_eq_true rfl) (C_X12_isWord (g := g) (by decide) hv3) rfl ?_
    refine E_if_eqB 47 43 (by decide) rfl dX12_readPart_40 (fun c4 => ?_) (fun c4 => ?_)
    · rw [if_neg (by rw [c4]; decide)] at h
      refine E_aload_n 48 rfl dX12_readPart_47 rfl 0 rfl ?_
      refine E_ldcS 51 (by decide) 50 rfl dX12_readPart_48 rfl ?_
      obtain ⟨v5, hv5, h⟩ := Option.bind_eq_some_iff.mp h
      refine E_cV1 (As := [.ref (100000 + 51)]) 53 rfl dX12_readPart_50 shc_149 ck_X12_101 cv_X12_isWord rfl (by decide) (Nat.le_of_ble_eq_true rfl) (C_X12_isWord (g := g) (by decide) hv5) rfl ?_
      refine E_if_eqB 60 56 (by decide) rfl dX12_readPart_53 (fun c6 => ?_) (fun c6 => ?_)
      · rw [if_neg (by rw [c6]; decide)] at h
        refine E_aload_n 61 rfl dX12_readPart_60 rfl 0 rfl ?_
        refine E_ldcS 62 (by decide) 63 rfl dX12_readPart_61 rfl ?_
        obtain ⟨v7, hv7, h⟩ := Option.bind_eq_some_iff.mp h
        refine E_cV1 (As := [.ref (100000 + 62)]) 66 rfl dX12_readPart_63 shc_149 ck_X12_101 cv_X12_isWord rfl (by decide) (Nat.le_of_ble_eq_true rfl) (C_X12_isWord (g := g) (by decide) hv7) rfl ?_
        refine E_if_eqB 73 69 (by decide) rfl dX12_readPart_66 (fun c8 => ?_) (fun c8 => ?_)
        · rw [if_neg (by rw [c8]; decide)] at h
          refine E_aload_n 74 rfl dX12_readPart_73 rfl 0 rfl ?_
          refine E_ldcS 40 (by decide) 76 rfl dX12_readPart_74 rfl ?_
          obtain ⟨v9, hv9, h⟩ := Option.bind_eq_some_iff.mp h
          refine E_cV1 (As := [.ref (100000 + 40)]) 79 rfl dX12_readPart_76 shc_149 ck_X12_101 cv_X12_isWord rfl (by decide) (Nat.le_of_ble_eq_true rfl) (C_X12_isWord (g := g) (by decide) hv9) rfl ?_
          refine E_if_eqB 86 82 (by decide) rfl dX12_readPart_79 (fun c10 => ?_) (fun c10 => ?_)
          · rw [if_neg (by rw [c10]; decide)] at h
            refine E_aload_n 87 rfl dX12_readPart_86 rfl 0 rfl ?_
            refine E_ldcS 45 (by decide) 89 rfl dX12_readPart_87 rfl ?_
            obtain ⟨v11, hv11, h⟩ := Option.bind_eq_some_iff.mp h
            refine E_cV1 (As := [.ref (100000 + 45)]) 92 rfl dX12_readPart_89 shc_149 ck_X12_101 cv_X12_isWord rfl (by decide) (Nat.le_of_ble_eq_true rfl) (C_X12_isWord (g := g) (by decide) hv11) rfl ?_
            refine E_if_eqB 99 95 (by decide) rfl dX12_readPart_92 (fun c12 => ?_) (fun c12 => ?_)
            · rw [if_neg (by rw [c12]; decide)] at h
              refine E_aload_n 100 rfl dX12_readPart_99 rfl 0 rfl ?_
              refine E_ldcS 63 (by decide) 102 rfl dX12_readPart_100 rfl ?_
              obtain ⟨v13, hv13, h⟩ := Option.bind_eq_some_iff.mp h
              refine E_cV1 (As := [.ref (100000 + 63)]) 105 rfl dX12_readPart_102 shc_149 ck_X12_101 cv_X12_isWord rfl (by decide) (Nat.le_of_ble_eq_true rfl) (C_X12_isWord (g := g) (by decide) hv13) rfl ?_
              refine E_if_eqB 112 108 (by decide) rfl dX12_readPart_105 (fun c14 => ?_) (fun c14 => ?_)
              · rw [if_neg (by rw [c14]; decide)] at h
                refine E_iconst (v := (-1)) 113 rfl dX12_readPart_112 (by decide) ?_
                refine E_sub (lv' := [(0, .ref 149)]) [0] rfl ?_
                exact S_X12_readPart_113 ((-1)) w1.1 w1.2 _ h
              · rw [if_pos c14] at h
                refine E_iconst (v := 5) 109 rfl dX12_readPart_108 (by decide) ?_
                refine E_goto 113 (by decide) dX12_readPart_109 ?_
                refine E_sub (lv' := [(0, .ref 149)]) [0] rfl ?_
                exact S_X12_readPart_113 5 w1.1 w1.2 _ h
            · rw [if_pos c12] at h
              refine E_iconst (v := 4) 96 rfl dX12_readPart_95 (by decide) ?_
              refine E_goto 113 (by decide) dX12_readPart_96 ?_
              refine E_sub (lv' := [(0, .ref 149)]) [0] rfl ?_
              exact S_X12_readPart_113 4 w1.1 w1.2 _ h
          · rw [if_pos c10] at h
            refine E_iconst (v := 3) 83 rfl dX12_readPart_82 (by decide) ?_
            refine E_goto 113 (by decide) dX12_readPart_83 ?_
            refine E_sub (lv' := [(0, .ref 149)]) [0] rfl ?_
            exact S_X12_readPart_113 3 w1.1 w1.2 _ h
        · rw [if_pos c8] at h
          refine E_iconst (v := 2) 70 rfl dX12_readPart_69 (by decide) ?_
          refine E_goto 113 (by decide) dX12_readPart_70 ?_
          refine E_sub (lv' := [(0, .ref 149)]) [0] rfl ?_
          exact S_X12_readPart_113 2 w1.1 w1.2 _ h
      · rw [if_pos c6] at h
        refine E_iconst (v := 1) 57 rfl dX12_readPart_56 (by decide) ?_
        refine E_goto 113 (by decide) dX12_readPart_57 ?_
        refine E_sub (lv' := [(0, .ref 149)]) [0] rfl ?_
        exact S_X12_readPart_113 1 w1.1 w1.2 _ h
    · rw [if_pos c4] at h
      refine E_iconst (v := 0) 44 rfl dX12_readPart_43 (by decide) ?_
      refine E_goto 113 (by decide) dX12_readPart_44 ?_
      refine E_sub (lv' := [(0, .ref 149)]) [0] rfl ?_
      exact S_X12_readPart_113 0 w1.1 w1.2 _ h
  · rw [if_pos c2] at h
    refine E_aload_n 16 rfl dX12_readPart_15 rfl 0 rfl ?_
    refine E_iconst (v := 0) 17 rfl dX12_readPart_16 (by decide) ?_
    refine E_sipush (v := 999) 20 rfl dX12_readPart_17 (by decide) ?_
    obtain ⟨w15, hw15, h⟩ := Option.bind_eq_some_iff.mp h
    refine E_cV1 (As := [.int 0, .int 999]) 23 rfl dX12_readPart_20 shc_149 ck_X12_108 cv_X12_number rfl (by decide) (Nat.le_of_ble_eq_true rfl) (C_X12_number (g := g) hw15) rfl ?_
    refine E_istore_n (lv' := [(1, .int w15.1), (0, .ref 149)]) 24 rfl dX12_readPart_23 rfl (Nat.le_of_ble_eq_true rfl) rfl ?_
    refine E_aload_n 25 rfl dX12_readPart_24 rfl 1 rfl ?_
    refine E_bipush (v := 9) 27 rfl dX12_readPart_25 (by decide) ?_
    refine E_iload_n 28 rfl dX12_readPart_27 rfl 0 rfl ?_
    obtain ⟨w16, hw16, h⟩ := Option.bind_eq_some_iff.mp h
    refine E_cV0 (As := [.int 9, .int w15.1]) 31 rfl dX12_readPart_28 shc_149 ck_X12_174 cv_X12_emits rfl (by decide) (Nat.le_of_ble_eq_true rfl) (C_X12_emits (g := g) hw16) rfl ?_
    refine E_goto 120 (by decide) dX12_readPart_31 ?_
    refine E_sub (lv' := [(1, .int w15.1)]) [0] rfl ?_
    exact S_X12_readPart_120 w15.1 w16.1 w16.2 _ h
theorem C_X12_readPart {g : Gx} {I : MI} {L : ML} {res : Bool × MI × ML} (h : f_X12_readPart I L = some res) : Ent g 5 0 mX12_readPart [.ref 149] (I, L) (.inl (some (.int (bI res.1)))) (res.2.1, res.2.2) := Ent_of (by decide +kernel) (Nat.le_of_ble_eq_true rfl) (S_X12_readPart I L _ h)
def f_X12_readSum_9 : Nat → MI → ML → Option (Bool × MI × ML)
  | 0, _, _ => none
  | n + 1, I, L => Option.bind (f_X12_sign 43 I L) fun w1 => if w1.1 = true then (Option.bind (f_X12_readPart w1.2.1 w1.2.2) fun w3 => if w3.1 = true then (Option.bind (f_X12_emits 10 0 w3.2.1 w3.2.2) fun w5 => f_X12_readSum_9 n w5.1 w5.2) else (some (false, w3.2.1, w3.2.2))) else (some (true, w1.2.1, w1.2.2))
set_option maxRecDepth 100000 in
theorem S_X12_readSum_9 {g : Gx} : ∀ (n : Nat) (I : MI) (L : ML) (res : Bool × MI × ML), f_X12_readSum_9 n I L = some res → E g 6 0 mX12_readSum 9 [(0, .ref 149)] [] (I, L) (.inl (some (.int (bI res.1)))) (res.2.1, res.2.2) := by
  intro n
  induction n with
  | zero =>
    intros
    rename_i h
    cases h
  | succ n ih =>
    intro I L res h
    rw [f_X12_readSum_9] at h
    refine E_aload_n 10 rfl dX12_readSum_9 rfl 0 rfl ?_
    refine E_bipush (v := 43) 12 rfl dX12_readSum_10 (by decide) ?_
    obtain ⟨w1, hw1, h⟩ := Option.bind_eq_some_iff.mp h
    refine E_cV1 (As := [.int 43]) 15 rfl dX12_readSum_12 shc_149 ck_X12_185 cv_X12_sign rfl (by decide) (Nat.le_of_ble_eq_true rfl) (C_X12_sign (g := g) hw1) rfl ?_
    refine E_if_eqB 37 18 (by decide) rfl dX12_readSum_15 (fun c2 => ?_) (fun c2 => ?_)
    · rw [if_neg (by rw [c2]; decide)] at h
      refine E_iconst (v := 1) 38 rfl dX12_readSum_37 (by decide) ?_
      cases h
      exact E_zret (x := true) rfl dX12_readSum_38
    · rw [if_pos c2] at h
      refine E_aload_n 19 rfl dX12_readSum_18 rfl 0 rfl ?_
      obtain ⟨w3, hw3, h⟩ := Option.bind_eq_some_iff.mp h
      refine E_cV1 (As := []) 22 rfl dX12_readSum_19 shc_149 ck_X12_182 cv_X12_readPart rfl (by decide) (Nat.le_of_ble_eq_true rfl) (C_X12_readPart (g := g) hw3) rfl ?_
      refine E_if_neB 27 25 (by decide) rfl dX12_readSum_22 (fun c4 => ?_) (fun c4 => ?_)
      · rw [if_pos c4] at h
        refine E_aload_n 28 rfl dX12_readSum_27 rfl 0 rfl ?_
        refine E_bipush (v := 10) 30 rfl dX12_readSum_28 (by decide) ?_
        refine E_iconst (v := 0) 31 rfl dX12_readSum_30 (by decide) ?_
        obtain ⟨w5, hw5, h⟩ := Option.bind_eq_some_iff.mp h
        refine E_cV0 (As := [.int 10, .int 0]) 34 rfl dX12_readSum_31 shc_149 ck_X12_174 cv_X12_emits rfl (by decide) (Nat.le_of_ble_eq_true rfl) (C_X12_emits (g := g) hw5) rfl ?_
        refine E_goto 9 (by decide) dX12_readSum_34 ?_
        refine E_sub (lv' := [(0, .ref 149)]) [0] rfl ?_
        exact ih w5.1 w5.2 _ h
      · rw [if_neg (by rw [c4]; decide)] at h
        refine E_iconst (v := 0) 26 rfl dX12_readSum_25 (by decide) ?_
        cases h
        exact E_zret (x := false) rfl dX12_readSum_26
def f_X12_readSum (I : MI) (L : ML) : Option (Bool × MI × ML) := Option.bind (f_X12_readPart I L) fun w1 => if w1.1 = true then (f_X12_readSum_9 FU w1.2.1 w1.2.2) else (some (false, w1.2.1, w1.2.2))
set_option maxRecDepth 100000 in
theorem S_X12_readSum {g : Gx} (I : MI) (L : ML) (res : Bool × MI × ML) (h : f_X12_readSum I L = some res) : E g 6 0 mX12_readSum 0 [(0, .ref 149)] [] (I, L) (.inl (some (.int (bI res.1)))) (res.2.1, res.2.2) := by
  unfold f_X12_readSum at h
  refine E_aload_n 1 rfl dX12_readSum_0 rfl 0 rfl ?_
  obtain ⟨w1, hw1, h⟩ := Option.bind_eq_some_iff.mp h
  refine E_cV1 (As := []) 4 rfl dX12_readSum_1 shc_149 ck_X12_182 cv_X12_readPart rfl (by decide) (Nat.le_of_ble_eq_true rfl) (C_X12_readPart (g := g) hw1) rfl ?_
  refine E_if_neB 9 7 (by decide) rfl dX12_readSum_4 (fun c2 => ?_) (fun c2 => ?_)
  · rw [if_pos c2] at h
    refine E_sub (lv' := [(0, .ref 149)]) [0] rfl ?_
    exact S_X12_readSum_9 FU w1.2.1 w1.2.2 _ h
  · rw [if_neg (by rw [c2]; decide)] at h
    refine E_iconst (v := 0) 8 rfl dX12_readSum_7 (by decide) ?_
    cases h
    exact E_zret (x := false) rfl dX12_readSum_8
theorem C_X12_readSum {g : Gx} {I : MI} {L : ML} {res : Bool × MI × ML} (h : f_X12_readSum I L = some res) : Ent g 6 0 mX12_readSum [.ref 149] (I, L) (.inl (some (.int (bI res.1)))) (res.2.1, res.2.2) := Ent_of (by decide +kernel) (Nat.le_of_ble_eq_true rfl) (S_X12_readSum I L _ h)
def f_X12_readTag_127 (y0 : Bool) (I : MI) (L : ML) : Option (Bool × MI × ML) := some (y0, I, L)
set_option maxRecDepth 100000 in
theorem S_X12_readTag_127 {g : Gx} (y0 : Bool) (I : MI) (L : ML) (res : Bool × MI × ML) (h : f_X12_readTag_127 y0 I L = some res) : E g 5 0 mX12_readTag 127 [] [.int (bI y0)] (I, L) (.inl (some (.int (bI res.1)))) (res.2.1, res.2.2) := by
  unfold f_X12_readTag_127 at h
  cases h
  exact E_zret (x := y0) rfl dX12_readTag_127
def f_X12_readTag_118 (x2 : Int32) (I : MI) (L : ML) : Option (Bool × MI × ML) := if x2 < 0 then (f_X12_readTag_127 false I L) else (f_X12_readTag_127 true I L)
set_option maxRecDepth 100000 in
theorem S_X12_readTag_118 {g : Gx} (x2 : Int32) (I : MI) (L : ML) (res : Bool × MI × ML) (h : f_X12_readTag_118 x2 I L = some res) : E g 5 0 mX12_readTag 118 [(2, .int x2)] [] (I, L) (.inl (some (.int (bI res.1)))) (res.2.1, res.2.2) := by
  unfold f_X12_readTag_118 at h
  refine E_iload_n 119 rfl dX12_readTag_118 rfl 0 rfl ?_
  refine E_if_lt 126 122 (by decide) rfl dX12_readTag_119 (fun c1 => ?_) (fun c1 => ?_)
  · rw [if_pos c1] at h
    refine E_iconst (v := 0) 127 rfl dX12_readTag_126 (by decide) ?_
    refine E_sub (lv' := []) [] rfl ?_
    exact S_X12_readTag_127 false I L _ h
  · rw [if_neg c1] at h
    refine E_iconst (v := 1) 123 rfl dX12_readTag_122 (by decide) ?_
    refine E_goto 127 (by decide) dX12_readTag_123 ?_
    refine E_sub (lv' := []) [] rfl ?_
    exact S_X12_readTag_127 true I L _ h
def f_X12_readTag_96 (x1 : Int32) (y0 : Int32) (I : MI) (L : ML) : Option (Bool × MI × ML) := if y0 < 0 then (Option.bind (pfI I 149 9 (I 149 11)) fun I2 => f_X12_readTag_118 y0 I2 L) else (Option.bind (f_X12_emits y0 x1 I L) fun w3 => f_X12_readTag_118 y0 w3.1 w3.2)
set_option maxRecDepth 100000 in
theorem S_X12_readTag_96 {g : Gx} (x1 : Int32) (y0 : Int32) (I : MI) (L : ML) (res : Bool × MI × ML) (h : f_X12_readTag_96 x1 y0 I L = some res) : E g 5 0 mX12_readTag 96 [(0, .ref 149), (1, .int x1)] [.int y0] (I, L) (.inl (some (.int (bI res.1)))) (res.2.1, res.2.2) := by
  unfold f_X12_readTag_96 at h
  refine E_istore_n (lv' := [(2, .int y0), (0, .ref 149), (1, .int x1)]) 97 rfl dX12_readTag_96 rfl (Nat.le_of_ble_eq_true rfl) rfl ?_
  refine E_iload_n 98 rfl dX12_readTag_97 rfl 0 rfl ?_
  refine E_if_lt 110 101 (by decide) rfl dX12_readTag_98 (fun c1 => ?_) (fun c1 => ?_)
  · rw [if_pos c1] at h
    refine E_aload_n 111 rfl dX12_readTag_110 rfl 1 rfl ?_
    refine E_aload_n 112 rfl dX12_readTag_111 rfl 1 rfl ?_
    refine E_gI 115 rfl dX12_readTag_112 shc_149 fl_X12_83 rfl ?_
    obtain ⟨I2, hI2, h⟩ := Option.bind_eq_some_iff.mp h
    refine E_pfI 118 rfl dX12_readTag_115 shc_149 fl_X12_73 rfl hI2 ?_
    refine E_sub (lv' := [(2, .int y0)]) [0] rfl ?_
    exact S_X12_readTag_118 y0 I2 L _ h
  · rw [if_neg c1] at h
    refine E_aload_n 102 rfl dX12_readTag_101 rfl 1 rfl ?_
    refine E_iload_n 103 rfl dX12_readTag_102 rfl 0 rfl ?_
    refine E_iload_n 104 rfl dX12_readTag_103 rfl 2 rfl ?_
    obtain ⟨w3, hw3, h⟩ := Option.bind_eq_some_iff.mp h
    refine E_cV0 (As := [.int y0, .int x1]) 107 rfl dX12_readTag_104 shc_149 ck_X12_174 cv_X12_emits rfl (by decide) (Nat.le_of_ble_eq_true rfl) (C_X12_emits (g := g) hw3) rfl ?_
    refine E_goto 118 (by decide) dX12_readTag_107 ?_
    refine E_sub (lv' := [(2, .int y0)]) [0] rfl ?_
    exact S_X12_readTag_118 y0 w3.1 w3.2 _ h
def f_X12_readTag_57 (y0 : Int32) (I : MI) (L : ML) : Option (Bool × MI × ML) := if y0 < 0 then (Option.bind (f_X12_isWord 60 I L) fun v2 => if v2 = true then (f_X12_readTag_96 y0 7 I L) else (Option.bind (f_X12_isWord 61 I L) fun v4 => if v4 = true then (f_X12_readTag_96 y0 8 I L) else (f_X12_readTag_96 y0 ((-1)) I L))) else (f_X12_readTag_96 y0 6 I L)
set_option maxRecDepth 100000 in
theorem S_X12_readTag_57 {g : Gx} (y0 : Int32) (I : MI) (L : ML) (res : Bool × MI × ML) (h : f_X12_readTag_57 y0 I L = some res) : E g 5 0 mX12_readTag 57 [(0, .ref 149)] [.int y0] (I, L) (.inl (some (.int (bI res.1)))) (res.2.1, res.2.2) := by
  unfold f_X12_readTag_57 at h
  refine E_istore_n (lv' := [(1, .int y0), (0, .ref 149)]) 58 rfl dX12_readTag_57 rfl (Nat.le_of_ble_eq_true rfl) rfl ?_
  refine E_iload_n 59 rfl dX12_readTag_58 rfl 0 rfl ?_
  refine E_if_lt 67 62 (by decide) rfl dX12_readTag_59 (fun c1 => ?_) (fun c1 => ?_)
  · rw [if_pos c1] at h
    refine E_aload_n 68 rfl dX12_readTag_67 rfl 1 rfl ?_
    refine E_ldcS 60 (by decide) 70 rfl dX12_readTag_68 rfl ?_
    obtain ⟨v2, hv2, h⟩ := Option.bind_eq_some_iff.mp h
    refine E_cV1 (As := [.ref (100000 + 60)]) 73 rfl dX12_readTag_70 shc_149 ck_X12_101 cv_X12_isWord rfl (by decide) (Nat.le_of_ble_eq_true rfl) (C_X12_isWord (g := g) (by decide) hv2) rfl ?_
    refine E_if_eqB 81 76 (by decide) rfl dX12_readTag_73 (fun c3 => ?_) (fun c3 => ?_)
    · rw [if_neg (by rw [c3]; decide)] at h
      refine E_aload_n 82 rfl dX12_readTag_81 rfl 1 rfl ?_
      refine E_ldcS 61 (by decide) 84 rfl dX12_readTag_82 rfl ?_
      obtain ⟨v4, hv4, h⟩ := Option.bind_eq_some_iff.mp h
      refine E_cV1 (As := [.ref (100000 + 61)]) 87 rfl dX12_readTag_84 shc_149 ck_X12_101 cv_X12_isWord rfl (by decide) (Nat.le_of_ble_eq_true rfl) (C_X12_isWord (g := g) (by decide) hv4) rfl ?_
      refine E_if_eqB 95 90 (by decide) rfl dX12_readTag_87 (fun c5 => ?_) (fun c5 => ?_)
      · rw [if_neg (by rw [c5]; decide)] at h
        refine E_iconst (v := (-1)) 96 rfl dX12_readTag_95 (by decide) ?_
        refine E_sub (lv' := [(0, .ref 149), (1, .int y0)]) [1, 0] rfl ?_
        exact S_X12_readTag_96 y0 ((-1)) I L _ h
      · rw [if_pos c5] at h
        refine E_bipush (v := 8) 92 rfl dX12_readTag_90 (by decide) ?_
        refine E_goto 96 (by decide) dX12_readTag_92 ?_
        refine E_sub (lv' := [(0, .ref 149), (1, .int y0)]) [1, 0] rfl ?_
        exact S_X12_readTag_96 y0 8 I L _ h
    · rw [if_pos c3] at h
      refine E_bipush (v := 7) 78 rfl dX12_readTag_76 (by decide) ?_
      refine E_goto 96 (by decide) dX12_readTag_78 ?_
      refine E_sub (lv' := [(0, .ref 149), (1, .int y0)]) [1, 0] rfl ?_
      exact S_X12_readTag_96 y0 7 I L _ h
  · rw [if_neg c1] at h
    refine E_bipush (v := 6) 64 rfl dX12_readTag_62 (by decide) ?_
    refine E_goto 96 (by decide) dX12_readTag_64 ?_
    refine E_sub (lv' := [(0, .ref 149), (1, .int y0)]) [1, 0] rfl ?_
    exact S_X12_readTag_96 y0 6 I L _ h
def f_X12_readTag (I : MI) (L : ML) : Option (Bool × MI × ML) := Option.bind (f_X12_letters I L) fun w1 => Option.bind (f_X12_isWord 46 w1.1 w1.2) fun v2 => if v2 = true then (f_X12_readTag_57 0 w1.1 w1.2) else (Option.bind (f_X12_isWord 47 w1.1 w1.2) fun v4 => if v4 = true then (f_X12_readTag_57 1 w1.1 w1.2) else (Option.bind (f_X12_isWord 48 w1.1 w1.2) fun v6 => if v6 = true then (f_X12_readTag_57 2 w1.1 w1.2) else (Option.bind (f_X12_isWord 49 w1.1 w1.2) fun v8 => if v8 = true then (f_X12_readTag_57 3 w1.1 w1.2) else (f_X12_readTag_57 ((-1)) w1.1 w1.2))))
set_option maxRecDepth 100000 in
theorem S_X12_readTag {g : Gx} (I : MI) (L : ML) (res : Bool × MI × ML) (h : f_X12_readTag I L = some res) : E g 5 0 mX12_readTag 0 [(0, .ref 149)] [] (I, L) (.inl (some (.int (bI res.1)))) (res.2.1, res.2.2) := by
  unfold f_X12_readTag at h
  refine E_aload_n 1 rfl dX12_readTag_0 rfl 0 rfl ?_
  obtain ⟨w1, hw1, h⟩ := Option.bind_eq_some_iff.mp h
  refine E_cV0 (As := []) 4 rfl dX12_readTag_1 shc_149 ck_X12_98 cv_X12_letters rfl (by decide) (Nat.le_of_ble_eq_true rfl) (C_X12_letters (g := g) hw1) rfl ?_
  refine E_aload_n 5 rfl dX12_readTag_4 rfl 0 rfl ?_
  refine E_ldcS 46 (by decide) 7 rfl dX12_readTag_5 rfl ?_
  obtain ⟨v2, hv2, h⟩ := Option.bind_eq_some_iff.mp h
  refine E_cV1 (As := [.ref (100000 + 46)]) 10 rfl dX12_readTag_7 shc_149 ck_X12_101 cv_X12_isWord rfl (by decide) (Nat.le_of_ble_eq_true rfl) (C_X12_isWord (g := g) (by decide) hv2) rfl ?_
  refine E_if_eqB 17 13 (by decide) rfl dX12_readTag_10 (fun c3 => ?_) (fun c3 => ?_)
  · rw [if_neg (by rw [c3]; decide)] at h
    refine E_aload_n 18 rfl dX12_readTag_17 rfl 0 rfl ?_
    refine E_ldcS 47 (by decide) 20 rfl dX12_readTag_18 rfl ?_
    obtain ⟨v4, hv4, h⟩ := Option.bind_eq_some_iff.mp h
    refine E_cV1 (As := [.ref (100000 + 47)]) 23 rfl dX12_readTag_20 shc_149 ck_X12_101 cv_X12_isWord rfl (by decide) (Nat.le_of_ble_eq_true rfl) (C_X12_isWord (g := g) (by decide) hv4) rfl ?_
    refine E_if_eqB 30 26 (by decide) rfl dX12_readTag_23 (fun c5 => ?_) (fun c5 => ?_)
    · rw [if_neg (by rw [c5]; decide)] at h
      refine E_aload_n 31 rfl dX12_readTag_30 rfl 0 rfl ?_
      refine E_ldcS 48 (by decide) 33 rfl dX12_readTag_31 rfl ?_
      obtain ⟨v6, hv6, h⟩ := Option.bind_eq_some_iff.mp h
      refine E_cV1 (As := [.ref (100000 + 48)]) 36 rfl dX12_readTag_33 shc_149 ck_X12_101 cv_X12_isWord rfl (by decide) (Nat.le_of_ble_eq_true rfl) (C_X12_isWord (g := g) (by decide) hv6) rfl ?_
      refine E_if_eqB 43 39 (by decide) rfl dX12_readTag_36 (fun c7 => ?_) (fun c7 => ?_)
      · rw [if_neg (by rw [c7]; decide)] at h
        refine E_aload_n 44 rfl dX12_readTag_43 rfl 0 rfl ?_
        refine E_ldcS 49 (by decide) 46 rfl dX12_readTag_44 rfl ?_
        obtain ⟨v8, hv8, h⟩ := Option.bind_eq_some_iff.mp h
        refine E_cV1 (As := [.ref (100000 + 49)]) 49 rfl dX12_readTag_46 shc_149 ck_X12_101 cv_X12_isWord rfl (by decide) (Nat.le_of_ble_eq_true rfl) (C_X12_isWord (g := g) (by decide) hv8) rfl ?_
        refine E_if_eqB 56 52 (by decide) rfl dX12_readTag_49 (fun c9 => ?_) (fun c9 => ?_)
        · rw [if_neg (by rw [c9]; decide)] at h
          refine E_iconst (v := (-1)) 57 rfl dX12_readTag_56 (by decide) ?_
          refine E_sub (lv' := [(0, .ref 149)]) [0] rfl ?_
          exact S_X12_readTag_57 ((-1)) w1.1 w1.2 _ h
        · rw [if_pos c9] at h
          refine E_iconst (v := 3) 53 rfl dX12_readTag_52 (by decide) ?_
          refine E_goto 57 (by decide) dX12_readTag_53 ?_
          refine E_sub (lv' := [(0, .ref 149)]) [0] rfl ?_
          exact S_X12_readTag_57 3 w1.1 w1.2 _ h
      · rw [if_pos c7] at h
        refine E_iconst (v := 2) 40 rfl dX12_readTag_39 (by decide) ?_
        refine E_goto 57 (by decide) dX12_readTag_40 ?_
        refine E_sub (lv' := [(0, .ref 149)]) [0] rfl ?_
        exact S_X12_readTag_57 2 w1.1 w1.2 _ h
    · rw [if_pos c5] at h
      refine E_iconst (v := 1) 27 rfl dX12_readTag_26 (by decide) ?_
      refine E_goto 57 (by decide) dX12_readTag_27 ?_
      refine E_sub (lv' := [(0, .ref 149)]) [0] rfl ?_
      exact S_X12_readTag_57 1 w1.1 w1.2 _ h
  · rw [if_pos c3] at h
    refine E_iconst (v := 0) 14 rfl dX12_readTag_13 (by decide) ?_
    refine E_goto 57 (by decide) dX12_readTag_14 ?_
    refine E_sub (lv' := [(0, .ref 149)]) [0] rfl ?_
    exact S_X12_readTag_57 0 w1.1 w1.2 _ h
theorem C_X12_readTag {g : Gx} {I : MI} {L : ML} {res : Bool × MI × ML} (h : f_X12_readTag I L = some res) : Ent g 5 0 mX12_readTag [.ref 149] (I, L) (.inl (some (.int (bI res.1)))) (res.2.1, res.2.2) := Ent_of (by decide +kernel) (Nat.le_of_ble_eq_true rfl) (S_X12_readTag I L _ h)
def f_X12_costOf (x1 : Int32) (x2 : Int32) (I : MI) (L : ML) : Option (Int32) := Option.bind (ldI I 156 100 ((10 * x1) + x2)) fun v1 => some v1
set_option maxRecDepth 100000 in
theorem S_X12_costOf {g : Gx} (x1 : Int32) (x2 : Int32) (I : MI) (L : ML) (res : Int32) (h : f_X12_costOf x1 x2 I L = some res) : E g 1 0 mX12_costOf 0 [(0, .ref 149), (1, .int x1), (2, .int x2)] [] (I, L) (.inl (some (.int res))) (I, L) := by
  unfold f_X12_costOf at h
  refine E_aload_n 1 rfl dX12_costOf_0 rfl 0 rfl ?_
  refine E_gR 156 4 rfl dX12_costOf_1 shc_149 fl_X12_36 rfl (by decide) (by decide) ?_
  refine E_bipush (v := 10) 6 rfl dX12_costOf_4 (by decide) ?_
  refine E_iload_n 7 rfl dX12_costOf_6 rfl 1 rfl ?_
  refine E_imul 8 rfl dX12_costOf_7 ?_
  refine E_iload_n 9 rfl dX12_costOf_8 rfl 2 rfl ?_
  refine E_iadd 10 rfl dX12_costOf_9 ?_
  obtain ⟨v1, hv1, h⟩ := Option.bind_eq_some_iff.mp h
  refine E_ldI 11 rfl dX12_costOf_10 shc_156 hv1 ?_
  cases h
  exact E_iret rfl dX12_costOf_11
theorem C_X12_costOf {g : Gx} {x1 : Int32} {x2 : Int32} {I : MI} {L : ML} {res : Int32} (h : f_X12_costOf x1 x2 I L = some res) : Ent g 1 0 mX12_costOf [.ref 149, .int x1, .int x2] (I, L) (.inl (some (.int res))) (I, L) := Ent_of (by decide +kernel) (Nat.le_of_ble_eq_true rfl) (S_X12_costOf x1 x2 I L _ h)
def f_X12_spreads_159 (k151 : Int32 → Int32 → MI → ML → Option (MI × ML)) : Nat → Int32 → Int32 → Int32 → MI → ML → Option (MI × ML)
  | 0, _, _, _, _, _ => none
  | n + 1, x1, x2, x3, I, L => if 10 ≤ x3 then (k151 x1 (x2 + 1) I L) else (Option.bind (f_X12_costOf x2 x3 I L) fun v2 => Option.bind (f_X12_costOf x2 x1 I L) fun v3 => Option.bind (f_X12_costOf x1 x3 I L) fun v4 => Option.bind (stI I 156 100 ((10 * x2) + x3) (if (v3 + v4) < v2 then (v3 + v4) else v2)) fun I5 => f_X12_spreads_159 k151 n x1 x2 (x3 + 1) I5 L)
set_option maxRecDepth 100000 in
theorem S_X12_spreads_159 {g : Gx} {k151 : Int32 → Int32 → MI → ML → Option (MI × ML)} (hk151 : ∀ (x1z : Int32) (x2z : Int32) (I : MI) (L : ML) (res : MI × ML), k151 x1z x2z I L = some res → E g 4 0 mX12_spreads 151 [(0, .ref 149), (1, .int x1z), (2, .int x2z)] [] (I, L) (.inl none) (res.1, res.2)) : ∀ (n : Nat) (x1 : Int32) (x2 : Int32) (x3 : Int32) (I : MI) (L : ML) (res : MI × ML), f_X12_spreads_159 k151 n x1 x2 x3 I L = some res → E g 4 0 mX12_spreads 159 [(0, .ref 149), (1, .int x1), (2, .int x2), (3, .int x3)] [] (I, L) (.inl none) (res.1, res.2) := by
  intro n
  induction n with
  | zero =>
    intros
    rename_i h
    cases h
  | succ n ih =>
    intro x1 x2 x3 I L res h
    rw [f_X12_spreads_159] at h
    refine E_iload_n 160 rfl dX12_spreads_159 rfl 3 rfl ?_
    refine E_bipush (v := 10) 162 rfl dX12_spreads_160 (by decide) ?_
    refine E_icmp_ge 204 165 (by decide) rfl dX12_spreads_162 (fun c1 => ?_) (fun c1 => ?_)
    · rw [if_pos c1] at h
      refine E_iinc (j := 2) (v := x2 + 1) (lv' := [(2, .int (x2 + 1)), (0, .ref 149), (1, .int x1), (3, .int x3)]) 207 rfl dX12_spreads_204 rfl rfl (Nat.le_of_ble_eq_true rfl) rfl ?_
      refine E_goto 151 (by decide) dX12_spreads_207 ?_
      refine E_sub (lv' := [(0, .ref 149), (1, .int x1), (2, .int (x2 + 1))]) [1, 2, 0] rfl ?_
      exact hk151 x1 (x2 + 1) I L _ h
    · rw [if_neg c1] at h
      refine E_aload_n 166 rfl dX12_spreads_165 rfl 0 rfl ?_
      refine E_gR 156 169 rfl dX12_spreads_166 shc_149 fl_X12_36 rfl (by decide) (by decide) ?_
      refine E_bipush (v := 10) 171 rfl dX12_spreads_169 (by decide) ?_
      refine E_iload_n 172 rfl dX12_spreads_171 rfl 2 rfl ?_
      refine E_imul 173 rfl dX12_spreads_172 ?_
      refine E_iload_n 174 rfl dX12_spreads_173 rfl 3 rfl ?_
      refine E_iadd 175 rfl dX12_spreads_174 ?_
      refine E_aload_n 176 rfl dX12_spreads_175 rfl 0 rfl ?_
      refine E_iload_n 177 rfl dX12_spreads_176 rfl 2 rfl ?_
      refine E_iload_n 178 rfl dX12_spreads_177 rfl 3 rfl ?_
      obtain ⟨v2, hv2, h⟩ := Option.bind_eq_some_iff.mp h
      refine E_cV1 (As := [.int x2, .int x3]) 181 rfl dX12_spreads_178 shc_149 ck_X12_252 cv_X12_costOf rfl (by decide) (Nat.le_of_ble_eq_true rfl) (C_X12_costOf (g := g) hv2) rfl ?_
      refine E_aload_n 182 rfl dX12_spreads_181 rfl 0 rfl ?_
      refine E_iload_n 183 rfl dX12_spreads_182 rfl 2 rfl ?_
      refine E_iload_n 184 rfl dX12_spreads_183 rfl 1 rfl ?_
      obtain ⟨v3, hv3, h⟩ := Option.bind_eq_some_iff.mp h
      refine E_cV1 (As := [.int x2, .int x1]) 187 rfl dX12_spreads_184 shc_149 ck_X12_252 cv_X12_costOf rfl (by decide) (Nat.le_of_ble_eq_true rfl) (C_X12_costOf (g := g) hv3) rfl ?_
      refine E_aload_n 188 rfl dX12_spreads_187 rfl 0 rfl ?_
      refine E_iload_n 189 rfl dX12_spreads_188 rfl 1 rfl ?_
      refine E_iload_n 190 rfl dX12_spreads_189 rfl 3 rfl ?_
      obtain ⟨v4, hv4, h⟩ := Option.bind_eq_some_iff.mp h
      refine E_cV1 (As := [.int x1, .int x3]) 193 rfl dX12_spreads_190 shc_149 ck_X12_252 cv_X12_costOf rfl (by decide) (Nat.le_of_ble_eq_true rfl) (C_X12_costOf (g := g) hv4) rfl ?_
      refine E_iadd 194 rfl dX12_spreads_193 ?_
      refine E_min 197 rfl dX12_spreads_194 jm_X12_255 (by decide) (Nat.le_of_ble_eq_true rfl) ?_
      obtain ⟨I5, hI5, h⟩ := Option.bind_eq_some_iff.mp h
      refine E_stI 198 rfl dX12_spreads_197 shc_156 hI5 ?_
      refine E_iinc (j := 3) (v := x3 + 1) (lv' := [(3, .int (x3 + 1)), (0, .ref 149), (1, .int x1), (2, .int x2)]) 201 rfl dX12_spreads_198 rfl rfl (Nat.le_of_ble_eq_true rfl) rfl ?_
      refine E_goto 159 (by decide) dX12_spreads_201 ?_
      refine E_sub (lv' := [(0, .ref 149), (1, .int x1), (2, .int x2), (3, .int (x3 + 1))]) [1, 2, 3, 0] rfl ?_
      exact ih x1 x2 (x3 + 1) I5 L _ h
def f_X12_spreads_151 (k143 : Int32 → MI → ML → Option (MI × ML)) : Nat → Int32 → Int32 → MI → ML → Option (MI × ML)
  | 0, _, _, _, _ => none
  | n + 1, x1, x2, I, L => if 10 ≤ x2 then (k143 (x1 + 1) I L) else (f_X12_spreads_159 (f_X12_spreads_151 k143 n) FU x1 x2 0 I L)
set_option maxRecDepth 100000 in
theorem S_X12_spreads_151 {g : Gx} {k143 : Int32 → MI → ML → Option (MI × ML)} (hk143 : ∀ (x1z : Int32) (I : MI) (L : ML) (res : MI × ML), k143 x1z I L = some res → E g 4 0 mX12_spreads 143 [(0, .ref 149), (1, .int x1z)] [] (I, L) (.inl none) (res.1, res.2)) : ∀ (n : Nat) (x1 : Int32) (x2 : Int32) (I : MI) (L : ML) (res : MI × ML), f_X12_spreads_151 k143 n x1 x2 I L = some res → E g 4 0 mX12_spreads 151 [(0, .ref 149), (1, .int x1), (2, .int x2)] [] (I, L) (.inl none) (res.1, res.2) := by
  intro n
  induction n with
  | zero =>
    intros
    rename_i h
    cases h
  | succ n ih =>
    intro x1 x2 I L res h
    rw [f_X12_spreads_151] at h
    refine E_iload_n 152 rfl dX12_spreads_151 rfl 2 rfl ?_
    refine E_bipush (v := 10) 154 rfl dX12_spreads_152 (by decide) ?_
    refine E_icmp_ge 210 157 (by decide) rfl dX12_spreads_154 (fun c1 => ?_) (fun c1 => ?_)
    · rw [if_pos c1] at h
      refine E_iinc (j := 1) (v := x1 + 1) (lv' := [(1, .int (x1 + 1)), (0, .ref 149), (2, .int x2)]) 213 rfl dX12_spreads_210 rfl rfl (Nat.le_of_ble_eq_true rfl) rfl ?_
      refine E_goto 143 (by decide) dX12_spreads_213 ?_
      refine E_sub (lv' := [(0, .ref 149), (1, .int (x1 + 1))]) [1, 0] rfl ?_
      exact hk143 (x1 + 1) I L _ h
    · rw [if_neg c1] at h
      refine E_iconst (v := 0) 158 rfl dX12_spreads_157 (by decide) ?_
      refine E_istore_n (lv' := [(3, .int 0), (0, .ref 149), (1, .int x1), (2, .int x2)]) 159 rfl dX12_spreads_158 rfl (Nat.le_of_ble_eq_true rfl) rfl ?_
      refine E_sub (lv' := [(0, .ref 149), (1, .int x1), (2, .int x2), (3, .int 0)]) [1, 2, 3, 0] rfl ?_
      exact S_X12_spreads_159 ih FU x1 x2 0 I L _ h
def f_X12_spreads_143 : Nat → Int32 → MI → ML → Option (MI × ML)
  | 0, _, _, _ => none
  | n + 1, x1, I, L => if 10 ≤ x1 then (some (I, L)) else (f_X12_spreads_151 (f_X12_spreads_143 n) FU x1 0 I L)
set_option maxRecDepth 100000 in
theorem S_X12_spreads_143 {g : Gx} : ∀ (n : Nat) (x1 : Int32) (I : MI) (L : ML) (res : MI × ML), f_X12_spreads_143 n x1 I L = some res → E g 4 0 mX12_spreads 143 [(0, .ref 149), (1, .int x1)] [] (I, L) (.inl none) (res.1, res.2) := by
  intro n
  induction n with
  | zero =>
    intros
    rename_i h
    cases h
  | succ n ih =>
    intro x1 I L res h
    rw [f_X12_spreads_143] at h
    refine E_iload_n 144 rfl dX12_spreads_143 rfl 1 rfl ?_
    refine E_bipush (v := 10) 146 rfl dX12_spreads_144 (by decide) ?_
    refine E_icmp_ge 216 149 (by decide) rfl dX12_spreads_146 (fun c1 => ?_) (fun c1 => ?_)
    · rw [if_pos c1] at h
      cases h
      exact E_vret rfl dX12_spreads_216
    · rw [if_neg c1] at h
      refine E_iconst (v := 0) 150 rfl dX12_spreads_149 (by decide) ?_
      refine E_istore_n (lv' := [(2, .int 0), (0, .ref 149), (1, .int x1)]) 151 rfl dX12_spreads_150 rfl (Nat.le_of_ble_eq_true rfl) rfl ?_
      refine E_sub (lv' := [(0, .ref 149), (1, .int x1), (2, .int 0)]) [1, 2, 0] rfl ?_
      exact S_X12_spreads_151 ih FU x1 0 I L _ h
def f_X12_spreads_39 : Nat → Int32 → MI → ML → Option (MI × ML)
  | 0, _, _, _ => none
  | n + 1, x1, I, L => Option.bind (ldI I 150 2143 1) fun v1 => if v1 ≤ x1 then (f_X12_spreads_143 FU 0 I L) else (Option.bind (f_X12_ofDoor x1 0 I L) fun v3 => Option.bind (f_X12_ofDoor x1 1 I L) fun v4 => Option.bind (f_X12_costOf v3 v4 I L) fun v5 => Option.bind (f_X12_ofDoor x1 2 I L) fun v6 => Option.bind (ldI I 150 2143 (15 + v4)) fun v7 => Option.bind (stI I 156 100 ((10 * v3) + v4) (if (v6 + v7) < v5 then (v6 + v7) else v5)) fun I8 => Option.bind (f_X12_costOf v4 v3 I8 L) fun v9 => Option.bind (f_X12_ofDoor x1 2 I8 L) fun v10 => Option.bind (ldI I8 150 2143 (15 + v3)) fun v11 => Option.bind (stI I8 156 100 ((10 * v4) + v3) (if (v10 + v11) < v9 then (v10 + v11) else v9)) fun I12 => f_X12_spreads_39 n (x1 + 1) I12 L)
set_option maxRecDepth 100000 in
theorem S_X12_spreads_39 {g : Gx} : ∀ (n : Nat) (x1 : Int32) (I : MI) (L : ML) (res : MI × ML), f_X12_spreads_39 n x1 I L = some res → E g 4 0 mX12_spreads 39 [(0, .ref 149), (1, .int x1)] [] (I, L) (.inl none) (res.1, res.2) := by
  intro n
  induction n with
  | zero =>
    intros
    rename_i h
    cases h
  | succ n ih =>
    intro x1 I L res h
    rw [f_X12_spreads_39] at h
    refine E_iload_n 40 rfl dX12_spreads_39 rfl 1 rfl ?_
    refine E_aload_n 41 rfl dX12_spreads_40 rfl 0 rfl ?_
    refine E_gR 150 44 rfl dX12_spreads_41 shc_149 fl_X12_13 rfl (by decide) (by decide) ?_
    refine E_iconst (v := 1) 45 rfl dX12_spreads_44 (by decide) ?_
    obtain ⟨v1, hv1, h⟩ := Option.bind_eq_some_iff.mp h
    refine E_ldI 46 rfl dX12_spreads_45 shc_150 hv1 ?_
    refine E_icmp_ge 141 49 (by decide) rfl dX12_spreads_46 (fun c2 => ?_) (fun c2 => ?_)
    · rw [if_pos c2] at h
      refine E_iconst (v := 0) 142 rfl dX12_spreads_141 (by decide) ?_
      refine E_istore_n (lv' := [(1, .int 0), (0, .ref 149)]) 143 rfl dX12_spreads_142 rfl (Nat.le_of_ble_eq_true rfl) rfl ?_
      refine E_sub (lv' := [(0, .ref 149), (1, .int 0)]) [1, 0] rfl ?_
      exact S_X12_spreads_143 FU 0 I L _ h
    · rw [if_neg c2] at h
      refine E_aload_n 50 rfl dX12_spreads_49 rfl 0 rfl ?_
      refine E_iload_n 51 rfl dX12_spreads_50 rfl 1 rfl ?_
      refine E_iconst (v := 0) 52 rfl dX12_spreads_51 (by decide) ?_
      obtain ⟨v3, hv3, h⟩ := Option.bind_eq_some_iff.mp h
      refine E_cV1 (As := [.int x1, .int 0]) 55 rfl dX12_spreads_52 shc_149 ck_X12_249 cv_X12_ofDoor rfl (by decide) (Nat.le_of_ble_eq_true rfl) (C_X12_ofDoor (g := g) hv3) rfl ?_
      refine E_istore_n (lv' := [(2, .int v3), (0, .ref 149), (1, .int x1)]) 56 rfl dX12_spreads_55 rfl (Nat.le_of_ble_eq_true rfl) rfl ?_
      refine E_aload_n 57 rfl dX12_spreads_56 rfl 1 rfl ?_
      refine E_iload_n 58 rfl dX12_spreads_57 rfl 2 rfl ?_
      refine E_iconst (v := 1) 59 rfl dX12_spreads_58 (by decide) ?_
      obtain ⟨v4, hv4, h⟩ := Option.bind_eq_some_iff.mp h
      refine E_cV1 (As := [.int x1, .int 1]) 62 rfl dX12_spreads_59 shc_149 ck_X12_249 cv_X12_ofDoor rfl (by decide) (Nat.le_of_ble_eq_true rfl) (C_X12_ofDoor (g := g) hv4) rfl ?_
      refine E_istore_n (lv' := [(3, .int v4), (2, .int v3), (0, .ref 149), (1, .int x1)]) 63 rfl dX12_spreads_62 rfl (Nat.le_of_ble_eq_true rfl) rfl ?_
      refine E_aload_n 64 rfl dX12_spreads_63 rfl 2 rfl ?_
      refine E_gR 156 67 rfl dX12_spreads_64 shc_149 fl_X12_36 rfl (by decide) (by decide) ?_
      refine E_bipush (v := 10) 69 rfl dX12_spreads_67 (by decide) ?_
      refine E_iload_n 70 rfl dX12_spreads_69 rfl 1 rfl ?_
      refine E_imul 71 rfl dX12_spreads_70 ?_
      refine E_iload_n 72 rfl dX12_spreads_71 rfl 0 rfl ?_
      refine E_iadd 73 rfl dX12_spreads_72 ?_
      refine E_aload_n 74 rfl dX12_spreads_73 rfl 2 rfl ?_
      refine E_iload_n 75 rfl dX12_spreads_74 rfl 1 rfl ?_
      refine E_iload_n 76 rfl dX12_spreads_75 rfl 0 rfl ?_
      obtain ⟨v5, hv5, h⟩ := Option.bind_eq_some_iff.mp h
      refine E_cV1 (As := [.int v3, .int v4]) 79 rfl dX12_spreads_76 shc_149 ck_X12_252 cv_X12_costOf rfl (by decide) (Nat.le_of_ble_eq_true rfl) (C_X12_costOf (g := g) hv5) rfl ?_
      refine E_aload_n 80 rfl dX12_spreads_79 rfl 2 rfl ?_
      refine E_iload_n 81 rfl dX12_spreads_80 rfl 3 rfl ?_
      refine E_iconst (v := 2) 82 rfl dX12_spreads_81 (by decide) ?_
      obtain ⟨v6, hv6, h⟩ := Option.bind_eq_some_iff.mp h
      refine E_cV1 (As := [.int x1, .int 2]) 85 rfl dX12_spreads_82 shc_149 ck_X12_249 cv_X12_ofDoor rfl (by decide) (Nat.le_of_ble_eq_true rfl) (C_X12_ofDoor (g := g) hv6) rfl ?_
      refine E_aload_n 86 rfl dX12_spreads_85 rfl 2 rfl ?_
      refine E_gR 150 89 rfl dX12_spreads_86 shc_149 fl_X12_13 rfl (by decide) (by decide) ?_
      refine E_bipush (v := 15) 91 rfl dX12_spreads_89 (by decide) ?_
      refine E_iload_n 92 rfl dX12_spreads_91 rfl 0 rfl ?_
      refine E_iadd 93 rfl dX12_spreads_92 ?_
      obtain ⟨v7, hv7, h⟩ := Option.bind_eq_some_iff.mp h
      refine E_ldI 94 rfl dX12_spreads_93 shc_150 hv7 ?_
      refine E_iadd 95 rfl dX12_spreads_94 ?_
      refine E_min 98 rfl dX12_spreads_95 jm_X12_255 (by decide) (Nat.le_of_ble_eq_true rfl) ?_
      obtain ⟨I8, hI8, h⟩ := Option.bind_eq_some_iff.mp h
      refine E_stI 99 rfl dX12_spreads_98 shc_156 hI8 ?_
      refine E_aload_n 100 rfl dX12_spreads_99 rfl 2 rfl ?_
      refine E_gR 156 103 rfl dX12_spreads_100 shc_149 fl_X12_36 rfl (by decide) (by decide) ?_
      refine E_bipush (v := 10) 105 rfl dX12_spreads_103 (by decide) ?_
      refine E_iload_n 106 rfl dX12_spreads_105 rfl 0 rfl ?_
      refine E_imul 107 rfl dX12_spreads_106 ?_
      refine E_iload_n 108 rfl dX12_spreads_107 rfl 1 rfl ?_
      refine E_iadd 109 rfl dX12_spreads_108 ?_
      refine E_aload_n 110 rfl dX12_spreads_109 rfl 2 rfl ?_
      refine E_iload_n 111 rfl dX12_spreads_110 rfl 0 rfl ?_
      refine E_iload_n 112 rfl dX12_spreads_111 rfl 1 rfl ?_
      obtain ⟨v9, hv9, h⟩ := Option.bind_eq_some_iff.mp h
      refine E_cV1 (As := [.int v4, .int v3]) 115 rfl dX12_spreads_112 shc_149 ck_X12_252 cv_X12_costOf rfl (by decide) (Nat.le_of_ble_eq_true rfl) (C_X12_costOf (g := g) hv9) rfl ?_
      refine E_aload_n 116 rfl dX12_spreads_115 rfl 2 rfl ?_
      refine E_iload_n 117 rfl dX12_spreads_116 rfl 3 rfl ?_
      refine E_iconst (v := 2) 118 rfl dX12_spreads_117 (by decide) ?_
      obtain ⟨v10, hv10, h⟩ := Option.bind_eq_some_iff.mp h
      refine E_cV1 (As := [.int x1, .int 2]) 121 rfl dX12_spreads_118 shc_149 ck_X12_249 cv_X12_ofDoor rfl (by decide) (Nat.le_of_ble_eq_true rfl) (C_X12_ofDoor (g := g) hv10) rfl ?_
      refine E_aload_n 122 rfl dX12_spreads_121 rfl 2 rfl ?_
      refine E_gR 150 125 rfl dX12_spreads_122 shc_149 fl_X12_13 rfl (by decide) (by decide) ?_
      refine E_bipush (v := 15) 127 rfl dX12_spreads_125 (by decide) ?_
      refine E_iload_n 128 rfl dX12_spreads_127 rfl 1 rfl ?_
      refine E_iadd 129 rfl dX12_spreads_128 ?_
      obtain ⟨v11, hv11, h⟩ := Option.bind_eq_some_iff.mp h
      refine E_ldI 130 rfl dX12_spreads_129 shc_150 hv11 ?_
      refine E_iadd 131 rfl dX12_spreads_130 ?_
      refine E_min 134 rfl dX12_spreads_131 jm_X12_255 (by decide) (Nat.le_of_ble_eq_true rfl) ?_
      obtain ⟨I12, hI12, h⟩ := Option.bind_eq_some_iff.mp h
      refine E_stI 135 rfl dX12_spreads_134 shc_156 hI12 ?_
      refine E_iinc (j := 3) (v := x1 + 1) (lv' := [(1, .int (x1 + 1)), (3, .int v4), (2, .int v3), (0, .ref 149)]) 138 rfl dX12_spreads_135 rfl rfl (Nat.le_of_ble_eq_true rfl) rfl ?_
      refine E_goto 39 (by decide) dX12_spreads_138 ?_
      refine E_sub (lv' := [(0, .ref 149), (1, .int (x1 + 1))]) [3, 0] rfl ?_
      exact ih (x1 + 1) I12 L _ h
def f_X12_spreads_30 (k2 : Int32 → MI → ML → Option (MI × ML)) (x1 : Int32) (y1 : Int32) (y2 : Int32) (I : MI) (L : ML) : Option (MI × ML) := Option.bind (stI I 156 100 y1 y2) fun I1 => k2 (x1 + 1) I1 L
set_option maxRecDepth 100000 in
theorem S_X12_spreads_30 {g : Gx} {k2 : Int32 → MI → ML → Option (MI × ML)} (hk2 : ∀ (x1z : Int32) (I : MI) (L : ML) (res : MI × ML), k2 x1z I L = some res → E g 4 0 mX12_spreads 2 [(0, .ref 149), (1, .int x1z)] [] (I, L) (.inl none) (res.1, res.2)) (x1 : Int32) (y1 : Int32) (y2 : Int32) (I : MI) (L : ML) (res : MI × ML) (h : f_X12_spreads_30 k2 x1 y1 y2 I L = some res) : E g 4 0 mX12_spreads 30 [(0, .ref 149), (1, .int x1)] [.int y2, .int y1, .ref 156] (I, L) (.inl none) (res.1, res.2) := by
  unfold f_X12_spreads_30 at h
  obtain ⟨I1, hI1, h⟩ := Option.bind_eq_some_iff.mp h
  refine E_stI 31 rfl dX12_spreads_30 shc_156 hI1 ?_
  refine E_iinc (j := 1) (v := x1 + 1) (lv' := [(1, .int (x1 + 1)), (0, .ref 149)]) 34 rfl dX12_spreads_31 rfl rfl (Nat.le_of_ble_eq_true rfl) rfl ?_
  refine E_goto 2 (by decide) dX12_spreads_34 ?_
  refine E_sub (lv' := [(0, .ref 149), (1, .int (x1 + 1))]) [1, 0] rfl ?_
  exact hk2 (x1 + 1) I1 L _ h
def f_X12_spreads_2 : Nat → Int32 → MI → ML → Option (MI × ML)
  | 0, _, _, _ => none
  | n + 1, x1, I, L => if 100 ≤ x1 then (f_X12_spreads_39 FU 0 I L) else (if (x1 / 10) = (x1 - x1 / 10 * 10) then (f_X12_spreads_30 (f_X12_spreads_2 n) x1 x1 0 I L) else (f_X12_spreads_30 (f_X12_spreads_2 n) x1 x1 1000000 I L))
set_option maxRecDepth 100000 in
theorem S_X12_spreads_2 {g : Gx} : ∀ (n : Nat) (x1 : Int32) (I : MI) (L : ML) (res : MI × ML), f_X12_spreads_2 n x1 I L = some res → E g 4 0 mX12_spreads 2 [(0, .ref 149), (1, .int x1)] [] (I, L) (.inl none) (res.1, res.2) := by
  intro n
  induction n with
  | zero =>
    intros
    rename_i h
    cases h
  | succ n ih =>
    intro x1 I L res h
    rw [f_X12_spreads_2] at h
    refine E_iload_n 3 rfl dX12_spreads_2 rfl 1 rfl ?_
    refine E_bipush (v := 100) 5 rfl dX12_spreads_3 (by decide) ?_
    refine E_icmp_ge 37 8 (by decide) rfl dX12_spreads_5 (fun c1 => ?_) (fun c1 => ?_)
    · rw [if_pos c1] at h
      refine E_iconst (v := 0) 38 rfl dX12_spreads_37 (by decide) ?_
      refine E_istore_n (lv' := [(1, .int 0), (0, .ref 149)]) 39 rfl dX12_spreads_38 rfl (Nat.le_of_ble_eq_true rfl) rfl ?_
      refine E_sub (lv' := [(0, .ref 149), (1, .int 0)]) [1, 0] rfl ?_
      exact S_X12_spreads_39 FU 0 I L _ h
    · rw [if_neg c1] at h
      refine E_aload_n 9 rfl dX12_spreads_8 rfl 0 rfl ?_
      refine E_gR 156 12 rfl dX12_spreads_9 shc_149 fl_X12_36 rfl (by decide) (by decide) ?_
      refine E_iload_n 13 rfl dX12_spreads_12 rfl 1 rfl ?_
      refine E_iload_n 14 rfl dX12_spreads_13 rfl 1 rfl ?_
      refine E_bipush (v := 10) 16 rfl dX12_spreads_14 (by decide) ?_
      refine E_idiv 17 rfl dX12_spreads_16 (by decide) ?_
      refine E_iload_n 18 rfl dX12_spreads_17 rfl 1 rfl ?_
      refine E_bipush (v := 10) 20 rfl dX12_spreads_18 (by decide) ?_
      refine E_irem 21 rfl dX12_spreads_20 (by decide) ?_
      refine E_icmp_ne 28 24 (by decide) rfl dX12_spreads_21 (fun c4 => ?_) (fun c4 => ?_)
      · rw [if_neg c4] at h
        refine E_ldc 30 rfl dX12_spreads_28 cst_X12_248 ?_
        refine E_sub (lv' := [(0, .ref 149), (1, .int x1)]) [0, 1] rfl ?_
        exact S_X12_spreads_30 ih x1 x1 1000000 I L _ h
      · rw [if_pos c4] at h
        refine E_iconst (v := 0) 25 rfl dX12_spreads_24 (by decide) ?_
        refine E_goto 30 (by decide) dX12_spreads_25 ?_
        refine E_sub (lv' := [(0, .ref 149), (1, .int x1)]) [0, 1] rfl ?_
        exact S_X12_spreads_30 ih x1 x1 0 I L _ h
def f_X12_spreads (I : MI) (L : ML) : Option (MI × ML) := f_X12_spreads_2 FU 0 I L
set_option maxRecDepth 100000 in
theorem S_X12_spreads {g : Gx} (I : MI) (L : ML) (res : MI × ML) (h : f_X12_spreads I L = some res) : E g 4 0 mX12_spreads 0 [(0, .ref 149)] [] (I, L) (.inl none) (res.1, res.2) := by
  unfold f_X12_spreads at h
  refine E_iconst (v := 0) 1 rfl dX12_spreads_0 (by decide) ?_
  refine E_istore_n (lv' := [(1, .int 0), (0, .ref 149)]) 2 rfl dX12_spreads_1 rfl (Nat.le_of_ble_eq_true rfl) rfl ?_
  refine E_sub (lv' := [(0, .ref 149), (1, .int 0)]) [1, 0] rfl ?_
  exact S_X12_spreads_2 FU 0 I L _ h
theorem C_X12_spreads {g : Gx} {I : MI} {L : ML} {res : MI × ML} (h : f_X12_spreads I L = some res) : Ent g 4 0 mX12_spreads [.ref 149] (I, L) (.inl none) (res.1, res.2) := Ent_of (by decide +kernel) (Nat.le_of_ble_eq_true rfl) (S_X12_spreads I L _ h)
def f_X12_atOf (x1 : Int32) (x2 : Int32) (I : MI) (L : ML) : Option (Int32) := Option.bind (f_X12_of x1 3 I L) fun v1 => Option.bind (f_X12_of x1 5 I L) fun v2 => Option.bind (f_X12_of x1 1 I L) fun v3 => Option.bind (f_X12_costOf v3 x2 I L) fun v4 => Option.bind (f_X12_of x1 1 I L) fun v5 => Option.bind (ldI I 150 2143 (15 + v5)) fun v6 => some (if 0 < (((v1 - v2) - v4) - v6) then (((v1 - v2) - v4) - v6) else 0)
set_option maxRecDepth 100000 in
theorem S_X12_atOf {g : Gx} (x1 : Int32) (x2 : Int32) (I : MI) (L : ML) (res : Int32) (h : f_X12_atOf x1 x2 I L = some res) : E g 4 0 mX12_atOf 0 [(0, .ref 149), (1, .int x1), (2, .int x2)] [] (I, L) (.inl (some (.int res))) (I, L) := by
  unfold f_X12_atOf at h
  refine E_iconst (v := 0) 1 rfl dX12_atOf_0 (by decide) ?_
  refine E_aload_n 2 rfl dX12_atOf_1 rfl 0 rfl ?_
  refine E_iload_n 3 rfl dX12_atOf_2 rfl 1 rfl ?_
  refine E_iconst (v := 3) 4 rfl dX12_atOf_3 (by decide) ?_
  obtain ⟨v1, hv1, h⟩ := Option.bind_eq_some_iff.mp h
  refine E_cV1 (As := [.int x1, .int 3]) 7 rfl dX12_atOf_4 shc_149 ck_X12_260 cv_X12_of rfl (by decide) (Nat.le_of_ble_eq_true rfl) (C_X12_of (g := g) hv1) rfl ?_
  refine E_aload_n 8 rfl dX12_atOf_7 rfl 0 rfl ?_
  refine E_iload_n 9 rfl dX12_atOf_8 rfl 1 rfl ?_
  refine E_iconst (v := 5) 10 rfl dX12_atOf_9 (by decide) ?_
  obtain ⟨v2, hv2, h⟩ := Option.bind_eq_some_iff.mp h
  refine E_cV1 (As := [.int x1, .int 5]) 13 rfl dX12_atOf_10 shc_149 ck_X12_260 cv_X12_of rfl (by decide) (Nat.le_of_ble_eq_true rfl) (C_X12_of (g := g) hv2) rfl ?_
  refine E_isub 14 rfl dX12_atOf_13 ?_
  refine E_aload_n 15 rfl dX12_atOf_14 rfl 0 rfl ?_
  refine E_aload_n 16 rfl dX12_atOf_15 rfl 0 rfl ?_
  refine E_iload_n 17 rfl dX12_atOf_16 rfl 1 rfl ?_
  refine E_iconst (v := 1) 18 rfl dX12_atOf_17 (by decide) ?_
  obtain ⟨v3, hv3, h⟩ := Option.bind_eq_some_iff.mp h
  refine E_cV1 (As := [.int x1, .int 1]) 21 rfl dX12_atOf_18 shc_149 ck_X12_260 cv_X12_of rfl (by decide) (Nat.le_of_ble_eq_true rfl) (C_X12_of (g := g) hv3) rfl ?_
  refine E_iload_n 22 rfl dX12_atOf_21 rfl 2 rfl ?_
  obtain ⟨v4, hv4, h⟩ := Option.bind_eq_some_iff.mp h
  refine E_cV1 (As := [.int v3, .int x2]) 25 rfl dX12_atOf_22 shc_149 ck_X12_252 cv_X12_costOf rfl (by decide) (Nat.le_of_ble_eq_true rfl) (C_X12_costOf (g := g) hv4) rfl ?_
  refine E_isub 26 rfl dX12_atOf_25 ?_
  refine E_aload_n 27 rfl dX12_atOf_26 rfl 0 rfl ?_
  refine E_gR 150 30 rfl dX12_atOf_27 shc_149 fl_X12_13 rfl (by decide) (by decide) ?_
  refine E_bipush (v := 15) 32 rfl dX12_atOf_30 (by decide) ?_
  refine E_aload_n 33 rfl dX12_atOf_32 rfl 0 rfl ?_
  refine E_iload_n 34 rfl dX12_atOf_33 rfl 1 rfl ?_
  refine E_iconst (v := 1) 35 rfl dX12_atOf_34 (by decide) ?_
  obtain ⟨v5, hv5, h⟩ := Option.bind_eq_some_iff.mp h
  refine E_cV1 (As := [.int x1, .int 1]) 38 rfl dX12_atOf_35 shc_149 ck_X12_260 cv_X12_of rfl (by decide) (Nat.le_of_ble_eq_true rfl) (C_X12_of (g := g) hv5) rfl ?_
  refine E_iadd 39 rfl dX12_atOf_38 ?_
  obtain ⟨v6, hv6, h⟩ := Option.bind_eq_some_iff.mp h
  refine E_ldI 40 rfl dX12_atOf_39 shc_150 hv6 ?_
  refine E_isub 41 rfl dX12_atOf_40 ?_
  refine E_max 44 rfl dX12_atOf_41 jm_X12_263 (by decide) (Nat.le_of_ble_eq_true rfl) ?_
  cases h
  exact E_iret rfl dX12_atOf_44
theorem C_X12_atOf {g : Gx} {x1 : Int32} {x2 : Int32} {I : MI} {L : ML} {res : Int32} (h : f_X12_atOf x1 x2 I L = some res) : Ent g 4 0 mX12_atOf [.ref 149, .int x1, .int x2] (I, L) (.inl (some (.int res))) (I, L) := Ent_of (by decide +kernel) (Nat.le_of_ble_eq_true rfl) (S_X12_atOf x1 x2 I L _ h)
def f_X12_isHearing_25 (y0 : Bool) (I : MI) (L : ML) : Option (Bool) := some y0
set_option maxRecDepth 100000 in
theorem S_X12_isHearing_25 {g : Gx} (y0 : Bool) (I : MI) (L : ML) (res : Bool) (h : f_X12_isHearing_25 y0 I L = some res) : E g 5 0 mX12_isHearing 25 [] [.int (bI y0)] (I, L) (.inl (some (.int (bI res)))) (I, L) := by
  unfold f_X12_isHearing_25 at h
  cases h
  exact E_zret (x := y0) rfl dX12_isHearing_25
def f_X12_isHearing (x1 : Int32) (x2 : Int32) (I : MI) (L : ML) : Option (Bool) := Option.bind (f_X12_ofHeir x1 0 I L) fun v1 => Option.bind (f_X12_atOf x2 v1 I L) fun v2 => Option.bind (f_X12_ofHeir x1 1 I L) fun v3 => if v2 < v3 then (f_X12_isHearing_25 false I L) else (f_X12_isHearing_25 true I L)
set_option maxRecDepth 100000 in
theorem S_X12_isHearing {g : Gx} (x1 : Int32) (x2 : Int32) (I : MI) (L : ML) (res : Bool) (h : f_X12_isHearing x1 x2 I L = some res) : E g 5 0 mX12_isHearing 0 [(0, .ref 149), (1, .int x1), (2, .int x2)] [] (I, L) (.inl (some (.int (bI res)))) (I, L) := by
  unfold f_X12_isHearing at h
  refine E_aload_n 1 rfl dX12_isHearing_0 rfl 0 rfl ?_
  refine E_iload_n 2 rfl dX12_isHearing_1 rfl 2 rfl ?_
  refine E_aload_n 3 rfl dX12_isHearing_2 rfl 0 rfl ?_
  refine E_iload_n 4 rfl dX12_isHearing_3 rfl 1 rfl ?_
  refine E_iconst (v := 0) 5 rfl dX12_isHearing_4 (by decide) ?_
  obtain ⟨v1, hv1, h⟩ := Option.bind_eq_some_iff.mp h
  refine E_cV1 (As := [.int x1, .int 0]) 8 rfl dX12_isHearing_5 shc_149 ck_X12_266 cv_X12_ofHeir rfl (by decide) (Nat.le_of_ble_eq_true rfl) (C_X12_ofHeir (g := g) hv1) rfl ?_
  obtain ⟨v2, hv2, h⟩ := Option.bind_eq_some_iff.mp h
  refine E_cV1 (As := [.int x2, .int v1]) 11 rfl dX12_isHearing_8 shc_149 ck_X12_269 cv_X12_atOf rfl (by decide) (Nat.le_of_ble_eq_true rfl) (C_X12_atOf (g := g) hv2) rfl ?_
  refine E_aload_n 12 rfl dX12_isHearing_11 rfl 0 rfl ?_
  refine E_iload_n 13 rfl dX12_isHearing_12 rfl 1 rfl ?_
  refine E_iconst (v := 1) 14 rfl dX12_isHearing_13 (by decide) ?_
  obtain ⟨v3, hv3, h⟩ := Option.bind_eq_some_iff.mp h
  refine E_cV1 (As := [.int x1, .int 1]) 17 rfl dX12_isHearing_14 shc_149 ck_X12_266 cv_X12_ofHeir rfl (by decide) (Nat.le_of_ble_eq_true rfl) (C_X12_ofHeir (g := g) hv3) rfl ?_
  refine E_icmp_lt 24 20 (by decide) rfl dX12_isHearing_17 (fun c4 => ?_) (fun c4 => ?_)
  · rw [if_pos c4] at h
    refine E_iconst (v := 0) 25 rfl dX12_isHearing_24 (by decide) ?_
    refine E_sub (lv' := []) [] rfl ?_
    exact S_X12_isHearing_25 false I L _ h
  · rw [if_neg c4] at h
    refine E_iconst (v := 1) 21 rfl dX12_isHearing_20 (by decide) ?_
    refine E_goto 25 (by decide) dX12_isHearing_21 ?_
    refine E_sub (lv' := []) [] rfl ?_
    exact S_X12_isHearing_25 true I L _ h
theorem C_X12_isHearing {g : Gx} {x1 : Int32} {x2 : Int32} {I : MI} {L : ML} {res : Bool} (h : f_X12_isHearing x1 x2 I L = some res) : Ent g 5 0 mX12_isHearing [.ref 149, .int x1, .int x2] (I, L) (.inl (some (.int (bI res)))) (I, L) := Ent_of (by decide +kernel) (Nat.le_of_ble_eq_true rfl) (S_X12_isHearing x1 x2 I L _ h)
def f_X12_isHeard_30 (k4 : Int32 → Bool → Int32 → MI → ML → Option (Bool)) (x1 : Int32) (x3 : Int32) (y0 : Bool) (I : MI) (L : ML) : Option (Bool) := k4 x1 y0 (x3 + 1) I L
set_option maxRecDepth 100000 in
theorem S_X12_isHeard_30 {g : Gx} {k4 : Int32 → Bool → Int32 → MI → ML → Option (Bool)} (hk4 : ∀ (x1z : Int32) (x2z : Bool) (x3z : Int32) (I : MI) (L : ML) (res : Bool), k4 x1z x2z x3z I L = some res → E g 6 0 mX12_isHeard 4 [(0, .ref 149), (1, .int x1z), (2, .int (bI x2z)), (3, .int x3z)] [] (I, L) (.inl (some (.int (bI res)))) (I, L)) (x1 : Int32) (x3 : Int32) (y0 : Bool) (I : MI) (L : ML) (res : Bool) (h : f_X12_isHeard_30 k4 x1 x3 y0 I L = some res) : E g 6 0 mX12_isHeard 30 [(0, .ref 149), (1, .int x1), (3, .int x3)] [.int (bI y0)] (I, L) (.inl (some (.int (bI res)))) (I, L) := by
  unfold f_X12_isHeard_30 at h
  refine E_istore_n (lv' := [(2, .int (bI y0)), (0, .ref 149), (1, .int x1), (3, .int x3)]) 31 rfl dX12_isHeard_30 rfl (Nat.le_of_ble_eq_true rfl) rfl ?_
  refine E_iinc (j := 3) (v := x3 + 1) (lv' := [(3, .int (x3 + 1)), (2, .int (bI y0)), (0, .ref 149), (1, .int x1)]) 34 rfl dX12_isHeard_31 rfl rfl (Nat.le_of_ble_eq_true rfl) rfl ?_
  refine E_goto 4 (by decide) dX12_isHeard_34 ?_
  refine E_sub (lv' := [(0, .ref 149), (1, .int x1), (2, .int (bI y0)), (3, .int (x3 + 1))]) [2, 3, 1, 0] rfl ?_
  exact hk4 x1 y0 (x3 + 1) I L _ h
def f_X12_isHeard_25 (k4 : Int32 → Bool → Int32 → MI → ML → Option (Bool)) (x1 : Int32) (x3 : Int32) (I : MI) (L : ML) : Option (Bool) := f_X12_isHeard_30 k4 x1 x3 true I L
set_option maxRecDepth 100000 in
theorem S_X12_isHeard_25 {g : Gx} {k4 : Int32 → Bool → Int32 → MI → ML → Option (Bool)} (hk4 : ∀ (x1z : Int32) (x2z : Bool) (x3z : Int32) (I : MI) (L : ML) (res : Bool), k4 x1z x2z x3z I L = some res → E g 6 0 mX12_isHeard 4 [(0, .ref 149), (1, .int x1z), (2, .int (bI x2z)), (3, .int x3z)] [] (I, L) (.inl (some (.int (bI res)))) (I, L)) (x1 : Int32) (x3 : Int32) (I : MI) (L : ML) (res : Bool) (h : f_X12_isHeard_25 k4 x1 x3 I L = some res) : E g 6 0 mX12_isHeard 25 [(0, .ref 149), (1, .int x1), (3, .int x3)] [] (I, L) (.inl (some (.int (bI res)))) (I, L) := by
  unfold f_X12_isHeard_25 at h
  refine E_iconst (v := 1) 26 rfl dX12_isHeard_25 (by decide) ?_
  refine E_goto 30 (by decide) dX12_isHeard_26 ?_
  refine E_sub (lv' := [(0, .ref 149), (1, .int x1), (3, .int x3)]) [0, 1, 2] rfl ?_
  exact S_X12_isHeard_30 hk4 x1 x3 true I L _ h
def f_X12_isHeard_4 : Nat → Int32 → Bool → Int32 → MI → ML → Option (Bool)
  | 0, _, _, _, _, _ => none
  | n + 1, x1, x2, x3, I, L => Option.bind (f_X12_heirs I L) fun v1 => if v1 ≤ x3 then (some x2) else (if x2 = true then (f_X12_isHeard_25 (f_X12_isHeard_4 n) x1 x3 I L) else (Option.bind (f_X12_isHearing x3 x1 I L) fun v4 => if v4 = true then (f_X12_isHeard_25 (f_X12_isHeard_4 n) x1 x3 I L) else (f_X12_isHeard_30 (f_X12_isHeard_4 n) x1 x3 false I L)))
set_option maxRecDepth 100000 in
theorem S_X12_isHeard_4 {g : Gx} : ∀ (n : Nat) (x1 : Int32) (x2 : Bool) (x3 : Int32) (I : MI) (L : ML) (res : Bool), f_X12_isHeard_4 n x1 x2 x3 I L = some res → E g 6 0 mX12_isHeard 4 [(0, .ref 149), (1, .int x1), (2, .int (bI x2)), (3, .int x3)] [] (I, L) (.inl (some (.int (bI res)))) (I, L) := by
  intro n
  induction n with
  | zero =>
    intros
    rename_i h
    cases h
  | succ n ih =>
    intro x1 x2 x3 I L res h
    rw [f_X12_isHeard_4] at h
    refine E_iload_n 5 rfl dX12_isHeard_4 rfl 3 rfl ?_
    refine E_aload_n 6 rfl dX12_isHeard_5 rfl 0 rfl ?_
    obtain ⟨v1, hv1, h⟩ := Option.bind_eq_some_iff.mp h
    refine E_cV1 (As := []) 9 rfl dX12_isHeard_6 shc_149 ck_X12_64 cv_X12_heirs rfl (by decide) (Nat.le_of_ble_eq_true rfl) (C_X12_heirs (g := g) hv1) rfl ?_
    refine E_icmp_ge 37 12 (by decide) rfl dX12_isHeard_9 (fun c2 => ?_) (fun c2 => ?_)
    · rw [if_pos c2] at h
      refine E_iload_n 38 rfl dX12_isHeard_37 rfl 2 rfl ?_
      cases h
      exact E_zret (x := x2) rfl dX12_isHeard_38
    · rw [if_neg c2] at h
      refine E_iload_n 13 rfl dX12_isHeard_12 rfl 2 rfl ?_
      refine E_if_neB 25 16 (by decide) rfl dX12_isHeard_13 (fun c3 => ?_) (fun c3 => ?_)
      · rw [if_pos c3] at h
        refine E_sub (lv' := [(0, .ref 149), (1, .int x1), (3, .int x3)]) [0, 1, 3] rfl ?_
        exact S_X12_isHeard_25 ih x1 x3 I L _ h
      · rw [if_neg (by rw [c3]; decide)] at h
        refine E_aload_n 17 rfl dX12_isHeard_16 rfl 0 rfl ?_
        refine E_iload_n 18 rfl dX12_isHeard_17 rfl 3 rfl ?_
        refine E_iload_n 19 rfl dX12_isHeard_18 rfl 1 rfl ?_
        obtain ⟨v4, hv4, h⟩ := Option.bind_eq_some_iff.mp h
        refine E_cV1 (As := [.int x3, .int x1]) 22 rfl dX12_isHeard_19 shc_149 ck_X12_272 cv_X12_isHearing rfl (by decide) (Nat.le_of_ble_eq_true rfl) (C_X12_isHearing (g := g) hv4) rfl ?_
        refine E_if_eqB 29 25 (by decide) rfl dX12_isHeard_22 (fun c5 => ?_) (fun c5 => ?_)
        · rw [if_neg (by rw [c5]; decide)] at h
          refine E_iconst (v := 0) 30 rfl dX12_isHeard_29 (by decide) ?_
          refine E_sub (lv' := [(0, .ref 149), (1, .int x1), (3, .int x3)]) [0, 1, 3] rfl ?_
          exact S_X12_isHeard_30 ih x1 x3 false I L _ h
        · rw [if_pos c5] at h
          refine E_sub (lv' := [(0, .ref 149), (1, .int x1), (3, .int x3)]) [0, 1, 3] rfl ?_
          exact S_X12_isHeard_25 ih x1 x3 I L _ h
def f_X12_isHeard (x1 : Int32) (I : MI) (L : ML) : Option (Bool) := f_X12_isHeard_4 FU x1 false 0 I L
set_option maxRecDepth 100000 in
theorem S_X12_isHeard {g : Gx} (x1 : Int32) (I : MI) (L : ML) (res : Bool) (h : f_X12_isHeard x1 I L = some res) : E g 6 0 mX12_isHeard 0 [(0, .ref 149), (1, .int x1)] [] (I, L) (.inl (some (.int (bI res)))) (I, L) := by
  unfold f_X12_isHeard at h
  refine E_iconst (v := 0) 1 rfl dX12_isHeard_0 (by decide) ?_
  refine E_istore_n (lv' := [(2, .int 0), (0, .ref 149), (1, .int x1)]) 2 rfl dX12_isHeard_1 rfl (Nat.le_of_ble_eq_true rfl) rfl ?_
  refine E_iconst (v := 0) 3 rfl dX12_isHeard_2 (by decide) ?_
  refine E_istore_n (lv' := [(3, .int 0), (2, .int 0), (0, .ref 149), (1, .int x1)]) 4 rfl dX12_isHeard_3 rfl (Nat.le_of_ble_eq_true rfl) rfl ?_
  refine E_sub (lv' := [(0, .ref 149), (1, .int x1), (2, .int 0), (3, .int 0)]) [2, 3, 1, 0] rfl ?_
  exact S_X12_isHeard_4 FU x1 false 0 I L _ h
theorem C_X12_isHeard {g : Gx} {x1 : Int32} {I : MI} {L : ML} {res : Bool} (h : f_X12_isHeard x1 I L = some res) : Ent g 6 0 mX12_isHeard [.ref 149, .int x1] (I, L) (.inl (some (.int (bI res)))) (I, L) := Ent_of (by decide +kernel) (Nat.le_of_ble_eq_true rfl) (S_X12_isHeard x1 I L _ h)
def f_X12_factOf_135 (y0 : Bool) (I : MI) (L : ML) : Option (Int32) := some (bI y0)
set_option maxRecDepth 100000 in
theorem S_X12_factOf_135 {g : Gx} (y0 : Bool) (I : MI) (L : ML) (res : Int32) (h : f_X12_factOf_135 y0 I L = some res) : E g 6 0 mX12_factOf 135 [] [.int (bI y0)] (I, L) (.inl (some (.int res))) (I, L) := by
  unfold f_X12_factOf_135 at h
  cases h
  exact E_iret rfl dX12_factOf_135
def f_X12_factOf_111 (y0 : Bool) (I : MI) (L : ML) : Option (Int32) := some (bI y0)
set_option maxRecDepth 100000 in
theorem S_X12_factOf_111 {g : Gx} (y0 : Bool) (I : MI) (L : ML) (res : Int32) (h : f_X12_factOf_111 y0 I L = some res) : E g 6 0 mX12_factOf 111 [] [.int (bI y0)] (I, L) (.inl (some (.int res))) (I, L) := by
  unfold f_X12_factOf_111 at h
  cases h
  exact E_iret rfl dX12_factOf_111
def f_X12_factOf (x1 : Int32) (x2 : Int32) (x3 : Int32) (x4 : Int32) (I : MI) (L : ML) : Option (Int32) := if x1 = 0 then (Option.bind (f_X12_of x4 2 I L) fun v2 => some v2) else if x1 = 1 then (Option.bind (f_X12_of x4 3 I L) fun v4 => some v4) else if x1 = 2 then (Option.bind (ldI I 150 2143 7) fun v6 => some v6) else if x1 = 3 then (Option.bind (f_X12_of x4 1 I L) fun v8 => some v8) else if x1 = 4 then (some x4) else if x1 = 5 then (Option.bind (f_X12_of x4 5 I L) fun v11 => some v11) else if x1 = 6 then (Option.bind (f_X12_of x4 0 I L) fun v13 => if v13 = x2 then (f_X12_factOf_111 true I L) else (f_X12_factOf_111 false I L)) else if x1 = 7 then (Option.bind (ldI I 150 2143 9) fun v16 => some v16) else if x1 = 8 then (Option.bind (f_X12_isHearing x3 x4 I L) fun v18 => if v18 = true then (f_X12_factOf_135 true I L) else (f_X12_factOf_135 false I L)) else (some x2)
set_option maxRecDepth 100000 in
theorem S_X12_factOf {g : Gx} (x1 : Int32) (x2 : Int32) (x3 : Int32) (x4 : Int32) (I : MI) (L : ML) (res : Int32) (h : f_X12_factOf x1 x2 x3 x4 I L = some res) : E g 6 0 mX12_factOf 0 [(0, .ref 149), (1, .int x1), (2, .int x2), (3, .int x3), (4, .int x4)] [] (I, L) (.inl (some (.int res))) (I, L) := by
  unfold f_X12_factOf at h
  refine E_iload_n 1 rfl dX12_factOf_0 rfl 1 rfl ?_
  by_cases c1 : x1 = 0
  · rw [if_pos c1] at h
    refine E_tsIn (off := 51) 0 c1 52 (by decide) (by decide) (by decide) rfl dX12_factOf_1 ?_
    refine E_aload_n 53 rfl dX12_factOf_52 rfl 0 rfl ?_
    refine E_iload 55 rfl dX12_factOf_53 4 rfl ?_
    refine E_iconst (v := 2) 56 rfl dX12_factOf_55 (by decide) ?_
    obtain ⟨v2, hv2, h⟩ := Option.bind_eq_some_iff.mp h
    refine E_cV1 (As := [.int x4, .int 2]) 59 rfl dX12_factOf_56 shc_149 ck_X12_260 cv_X12_of rfl (by decide) (Nat.le_of_ble_eq_true rfl) (C_X12_of (g := g) hv2) rfl ?_
    cases h
    exact E_iret rfl dX12_factOf_59
  rw [if_neg c1] at h
  by_cases c3 : x1 = 1
  · rw [if_pos c3] at h
    refine E_tsIn (off := 59) 1 c3 60 (by decide) (by decide) (by decide) rfl dX12_factOf_1 ?_
    refine E_aload_n 61 rfl dX12_factOf_60 rfl 0 rfl ?_
    refine E_iload 63 rfl dX12_factOf_61 4 rfl ?_
    refine E_iconst (v := 3) 64 rfl dX12_factOf_63 (by decide) ?_
    obtain ⟨v4, hv4, h⟩ := Option.bind_eq_some_iff.mp h
    refine E_cV1 (As := [.int x4, .int 3]) 67 rfl dX12_factOf_64 shc_149 ck_X12_260 cv_X12_of rfl (by decide) (Nat.le_of_ble_eq_true rfl) (C_X12_of (g := g) hv4) rfl ?_
    cases h
    exact E_iret rfl dX12_factOf_67
  rw [if_neg c3] at h
  by_cases c5 : x1 = 2
  · rw [if_pos c5] at h
    refine E_tsIn (off := 67) 2 c5 68 (by decide) (by decide) (by decide) rfl dX12_factOf_1 ?_
    refine E_aload_n 69 rfl dX12_factOf_68 rfl 0 rfl ?_
    refine E_gR 150 72 rfl dX12_factOf_69 shc_149 fl_X12_13 rfl (by decide) (by decide) ?_
    refine E_bipush (v := 7) 74 rfl dX12_factOf_72 (by decide) ?_
    obtain ⟨v6, hv6, h⟩ := Option.bind_eq_some_iff.mp h
    refine E_ldI 75 rfl dX12_factOf_74 shc_150 hv6 ?_
    cases h
    exact E_iret rfl dX12_factOf_75
  rw [if_neg c5] at h
  by_cases c7 : x1 = 3
  · rw [if_pos c7] at h
    refine E_tsIn (off := 75) 3 c7 76 (by decide) (by decide) (by decide) rfl dX12_factOf_1 ?_
    refine E_aload_n 77 rfl dX12_factOf_76 rfl 0 rfl ?_
    refine E_iload 79 rfl dX12_factOf_77 4 rfl ?_
    refine E_iconst (v := 1) 80 rfl dX12_factOf_79 (by decide) ?_
    obtain ⟨v8, hv8, h⟩ := Option.bind_eq_some_iff.mp h
    refine E_cV1 (As := [.int x4, .int 1]) 83 rfl dX12_factOf_80 shc_149 ck_X12_260 cv_X12_of rfl (by decide) (Nat.le_of_ble_eq_true rfl) (C_X12_of (g := g) hv8) rfl ?_
    cases h
    exact E_iret rfl dX12_factOf_83
  rw [if_neg c7] at h
  by_cases c9 : x1 = 4
  · rw [if_pos c9] at h
    refine E_tsIn (off := 83) 4 c9 84 (by decide) (by decide) (by decide) rfl dX12_factOf_1 ?_
    refine E_iload 86 rfl dX12_factOf_84 4 rfl ?_
    cases h
    exact E_iret rfl dX12_factOf_86
  rw [if_neg c9] at h
  by_cases c10 : x1 = 5
  · rw [if_pos c10] at h
    refine E_tsIn (off := 86) 5 c10 87 (by decide) (by decide) (by decide) rfl dX12_factOf_1 ?_
    refine E_aload_n 88 rfl dX12_factOf_87 rfl 0 rfl ?_
    refine E_iload 90 rfl dX12_factOf_88 4 rfl ?_
    refine E_iconst (v := 5) 91 rfl dX12_factOf_90 (by decide) ?_
    obtain ⟨v11, hv11, h⟩ := Option.bind_eq_some_iff.mp h
    refine E_cV1 (As := [.int x4, .int 5]) 94 rfl dX12_factOf_91 shc_149 ck_X12_260 cv_X12_of rfl (by decide) (Nat.le_of_ble_eq_true rfl) (C_X12_of (g := g) hv11) rfl ?_
    cases h
    exact E_iret rfl dX12_factOf_94
  rw [if_neg c10] at h
  by_cases c12 : x1 = 6
  · rw [if_pos c12] at h
    refine E_tsIn (off := 94) 6 c12 95 (by decide) (by decide) (by decide) rfl dX12_factOf_1 ?_
    refine E_aload_n 96 rfl dX12_factOf_95 rfl 0 rfl ?_
    refine E_iload 98 rfl dX12_factOf_96 4 rfl ?_
    refine E_iconst (v := 0) 99 rfl dX12_factOf_98 (by decide) ?_
    obtain ⟨v13, hv13, h⟩ := Option.bind_eq_some_iff.mp h
    refine E_cV1 (As := [.int x4, .int 0]) 102 rfl dX12_factOf_99 shc_149 ck_X12_260 cv_X12_of rfl (by decide) (Nat.le_of_ble_eq_true rfl) (C_X12_of (g := g) hv13) rfl ?_
    refine E_iload_n 103 rfl dX12_factOf_102 rfl 2 rfl ?_
    refine E_icmp_ne 110 106 (by decide) rfl dX12_factOf_103 (fun c14 => ?_) (fun c14 => ?_)
    · rw [if_neg c14] at h
      refine E_iconst (v := 0) 111 rfl dX12_factOf_110 (by decide) ?_
      refine E_sub (lv' := []) [] rfl ?_
      exact S_X12_factOf_111 false I L _ h
    · rw [if_pos c14] at h
      refine E_iconst (v := 1) 107 rfl dX12_factOf_106 (by decide) ?_
      refine E_goto 111 (by decide) dX12_factOf_107 ?_
      refine E_sub (lv' := []) [] rfl ?_
      exact S_X12_factOf_111 true I L _ h
  rw [if_neg c12] at h
  by_cases c15 : x1 = 7
  · rw [if_pos c15] at h
    refine E_tsIn (off := 111) 7 c15 112 (by decide) (by decide) (by decide) rfl dX12_factOf_1 ?_
    refine E_aload_n 113 rfl dX12_factOf_112 rfl 0 rfl ?_
    refine E_gR 150 116 rfl dX12_factOf_113 shc_149 fl_X12_13 rfl (by decide) (by decide) ?_
    refine E_bipush (v := 9) 118 rfl dX12_factOf_116 (by decide) ?_
    obtain ⟨v16, hv16, h⟩ := Option.bind_eq_some_iff.mp h
    refine E_ldI 119 rfl dX12_factOf_118 shc_150 hv16 ?_
    cases h
    exact E_iret rfl dX12_factOf_119
  rw [if_neg c15] at h
  by_cases c17 : x1 = 8
  · rw [if_pos c17] at h
    refine E_tsIn (off := 119) 8 c17 120 (by decide) (by decide) (by decide) rfl dX12_factOf_1 ?_
    refine E_aload_n 121 rfl dX12_factOf_120 rfl 0 rfl ?_
    refine E_iload_n 122 rfl dX12_factOf_121 rfl 3 rfl ?_
    refine E_iload 124 rfl dX12_factOf_122 4 rfl ?_
    obtain ⟨v18, hv18, h⟩ := Option.bind_eq_some_iff.mp h
    refine E_cV1 (As := [.int x3, .int x4]) 127 rfl dX12_factOf_124 shc_149 ck_X12_272 cv_X12_isHearing rfl (by decide) (Nat.le_of_ble_eq_true rfl) (C_X12_isHearing (g := g) hv18) rfl ?_
    refine E_if_eqB 134 130 (by decide) rfl dX12_factOf_127 (fun c19 => ?_) (fun c19 => ?_)
    · rw [if_neg (by rw [c19]; decide)] at h
      refine E_iconst (v := 0) 135 rfl dX12_factOf_134 (by decide) ?_
      refine E_sub (lv' := []) [] rfl ?_
      exact S_X12_factOf_135 false I L _ h
    · rw [if_pos c19] at h
      refine E_iconst (v := 1) 131 rfl dX12_factOf_130 (by decide) ?_
      refine E_goto 135 (by decide) dX12_factOf_131 ?_
      refine E_sub (lv' := []) [] rfl ?_
      exact S_X12_factOf_135 true I L _ h
  rw [if_neg c17] at h
  refine E_tsOut 9 (by decide) (fun i hi => match i, hi with | 0, _ => toI c1 (by decide) | 1, _ => toI c3 (by decide) | 2, _ => toI c5 (by decide) | 3, _ => toI c7 (by decide) | 4, _ => toI c9 (by decide) | 5, _ => toI c10 (by decide) | 6, _ => toI c12 (by decide) | 7, _ => toI c15 (by decide) | 8, _ => toI c17 (by decide) | (n + 9), hi => absurd hi (by omega)) 136 (by decide) dX12_factOf_1 ?_
  refine E_iload_n 137 rfl dX12_factOf_136 rfl 2 rfl ?_
  cases h
  exact E_iret rfl dX12_factOf_137
theorem C_X12_factOf {g : Gx} {x1 : Int32} {x2 : Int32} {x3 : Int32} {x4 : Int32} {I : MI} {L : ML} {res : Int32} (h : f_X12_factOf x1 x2 x3 x4 I L = some res) : Ent g 6 0 mX12_factOf [.ref 149, .int x1, .int x2, .int x3, .int x4] (I, L) (.inl (some (.int res))) (I, L) := Ent_of (by decide +kernel) (Nat.le_of_ble_eq_true rfl) (S_X12_factOf x1 x2 x3 x4 I L _ h)
def f_X12_holdsLine_291 (y0 : Bool) (I : MI) (L : ML) : Option (Bool × MI × ML) := some (y0, I, L)
set_option maxRecDepth 100000 in
theorem S_X12_holdsLine_291 {g : Gx} (y0 : Bool) (I : MI) (L : ML) (res : Bool × MI × ML) (h : f_X12_holdsLine_291 y0 I L = some res) : E g 7 0 mX12_holdsLine 291 [] [.int (bI y0)] (I, L) (.inl (some (.int (bI res.1)))) (res.2.1, res.2.2) := by
  unfold f_X12_holdsLine_291 at h
  cases h
  exact E_zret (x := y0) rfl dX12_holdsLine_291
def f_X12_holdsLine_286 (I : MI) (L : ML) : Option (Bool × MI × ML) := f_X12_holdsLine_291 true I L
set_option maxRecDepth 100000 in
theorem S_X12_holdsLine_286 {g : Gx} (I : MI) (L : ML) (res : Bool × MI × ML) (h : f_X12_holdsLine_286 I L = some res) : E g 7 0 mX12_holdsLine 286 [] [] (I, L) (.inl (some (.int (bI res.1)))) (res.2.1, res.2.2) := by
  unfold f_X12_holdsLine_286 at h
  refine E_iconst (v := 1) 287 rfl dX12_holdsLine_286 (by decide) ?_
  refine E_goto 291 (by decide) dX12_holdsLine_287 ?_
  refine E_sub (lv' := []) [] rfl ?_
  exact S_X12_holdsLine_291 true I L _ h
def f_X12_holdsLine_265 (k23 : Int32 → Int32 → Int32 → Int32 → Int32 → MI → ML → Option (Bool × MI × ML)) (x2 : Int32) (x3 : Int32) (x4 : Int32) (x5 : Int32) (x6 : Int32) (I : MI) (L : ML) : Option (Bool × MI × ML) := k23 x2 x3 x4 x5 (x6 + 1) I L
set_option maxRecDepth 100000 in
theorem S_X12_holdsLine_265 {g : Gx} {k23 : Int32 → Int32 → Int32 → Int32 → Int32 → MI → ML → Option (Bool × MI × ML)} (hk23 : ∀ (x2z : Int32) (x3z : Int32) (x4z : Int32) (x5z : Int32) (x6z : Int32) (I : MI) (L : ML) (res : Bool × MI × ML), k23 x2z x3z x4z x5z x6z I L = some res → E g 7 0 mX12_holdsLine 23 [(0, .ref 149), (2, .int x2z), (3, .int x3z), (4, .int x4z), (5, .int x5z), (6, .int x6z)] [] (I, L) (.inl (some (.int (bI res.1)))) (res.2.1, res.2.2)) (x2 : Int32) (x3 : Int32) (x4 : Int32) (x5 : Int32) (x6 : Int32) (I : MI) (L : ML) (res : Bool × MI × ML) (h : f_X12_holdsLine_265 k23 x2 x3 x4 x5 x6 I L = some res) : E g 7 0 mX12_holdsLine 265 [(0, .ref 149), (2, .int x2), (3, .int x3), (4, .int x4), (5, .int x5), (6, .int x6)] [] (I, L) (.inl (some (.int (bI res.1)))) (res.2.1, res.2.2) := by
  unfold f_X12_holdsLine_265 at h
  refine E_iinc (j := 5) (v := x6 + 1) (lv' := [(6, .int (x6 + 1)), (0, .ref 149), (2, .int x2), (3, .int x3), (4, .int x4), (5, .int x5)]) 268 rfl dX12_holdsLine_265 rfl rfl (Nat.le_of_ble_eq_true rfl) rfl ?_
  refine E_goto 23 (by decide) dX12_holdsLine_268 ?_
  refine E_sub (lv' := [(0, .ref 149), (2, .int x2), (3, .int x3), (4, .int x4), (5, .int x5), (6, .int (x6 + 1))]) [1, 2, 3, 4, 5, 0] rfl ?_
  exact hk23 x2 x3 x4 x5 (x6 + 1) I L _ h
def f_X12_holdsLine_264 (k23 : Int32 → Int32 → Int32 → Int32 → Int32 → MI → ML → Option (Bool × MI × ML)) (x2 : Int32) (x3 : Int32) (x4 : Int32) (x5 : Int32) (x6 : Int32) (y1 : Int32) (y2 : Int32) (I : MI) (L : ML) : Option (Bool × MI × ML) := Option.bind (stI I 157 400 y1 y2) fun I1 => f_X12_holdsLine_265 k23 x2 x3 x4 x5 x6 I1 L
set_option maxRecDepth 100000 in
theorem S_X12_holdsLine_264 {g : Gx} {k23 : Int32 → Int32 → Int32 → Int32 → Int32 → MI → ML → Option (Bool × MI × ML)} (hk23 : ∀ (x2z : Int32) (x3z : Int32) (x4z : Int32) (x5z : Int32) (x6z : Int32) (I : MI) (L : ML) (res : Bool × MI × ML), k23 x2z x3z x4z x5z x6z I L = some res → E g 7 0 mX12_holdsLine 23 [(0, .ref 149), (2, .int x2z), (3, .int x3z), (4, .int x4z), (5, .int x5z), (6, .int x6z)] [] (I, L) (.inl (some (.int (bI res.1)))) (res.2.1, res.2.2)) (x2 : Int32) (x3 : Int32) (x4 : Int32) (x5 : Int32) (x6 : Int32) (y1 : Int32) (y2 : Int32) (I : MI) (L : ML) (res : Bool × MI × ML) (h : f_X12_holdsLine_264 k23 x2 x3 x4 x5 x6 y1 y2 I L = some res) : E g 7 0 mX12_holdsLine 264 [(0, .ref 149), (2, .int x2), (3, .int x3), (4, .int x4), (5, .int x5), (6, .int x6)] [.int y2, .int y1, .ref 157] (I, L) (.inl (some (.int (bI res.1)))) (res.2.1, res.2.2) := by
  unfold f_X12_holdsLine_264 at h
  obtain ⟨I1, hI1, h⟩ := Option.bind_eq_some_iff.mp h
  refine E_stI 265 rfl dX12_holdsLine_264 shc_157 hI1 ?_
  refine E_sub (lv' := [(0, .ref 149), (2, .int x2), (3, .int x3), (4, .int x4), (5, .int x5), (6, .int x6)]) [0, 1, 2, 3, 4, 5] rfl ?_
  exact S_X12_holdsLine_265 hk23 x2 x3 x4 x5 x6 I1 L _ h
def f_X12_holdsLine_229 (k23 : Int32 → Int32 → Int32 → Int32 → Int32 → MI → ML → Option (Bool × MI × ML)) (x2 : Int32) (x3 : Int32) (x4 : Int32) (x5 : Int32) (x6 : Int32) (x7 : Int32) (x8 : Int32) (x9 : Int32) (y0 : Bool) (I : MI) (L : ML) : Option (Bool × MI × ML) := if x7 = 10 then (f_X12_holdsLine_264 k23 x2 x3 x4 x5 x6 (x4 - 1) (x8 + x9) I L) else (if y0 = true then (f_X12_holdsLine_264 k23 x2 x3 x4 x5 x6 (x4 - 1) 1 I L) else (f_X12_holdsLine_264 k23 x2 x3 x4 x5 x6 (x4 - 1) 0 I L))
set_option maxRecDepth 100000 in
theorem S_X12_holdsLine_229 {g : Gx} {k23 : Int32 → Int32 → Int32 → Int32 → Int32 → MI → ML → Option (Bool × MI × ML)} (hk23 : ∀ (x2z : Int32) (x3z : Int32) (x4z : Int32) (x5z : Int32) (x6z : Int32) (I : MI) (L : ML) (res : Bool × MI × ML), k23 x2z x3z x4z x5z x6z I L = some res → E g 7 0 mX12_holdsLine 23 [(0, .ref 149), (2, .int x2z), (3, .int x3z), (4, .int x4z), (5, .int x5z), (6, .int x6z)] [] (I, L) (.inl (some (.int (bI res.1)))) (res.2.1, res.2.2)) (x2 : Int32) (x3 : Int32) (x4 : Int32) (x5 : Int32) (x6 : Int32) (x7 : Int32) (x8 : Int32) (x9 : Int32) (y0 : Bool) (I : MI) (L : ML) (res : Bool × MI × ML) (h : f_X12_holdsLine_229 k23 x2 x3 x4 x5 x6 x7 x8 x9 y0 I L = some res) : E g 7 0 mX12_holdsLine 229 [(0, .ref 149), (2, .int x2), (3, .int x3), (4, .int x4), (5, .int x5), (6, .int x6), (7, .int x7), (8, .int x8), (9, .int x9)] [.int (bI y0)] (I, L) (.inl (some (.int (bI res.1)))) (res.2.1, res.2.2) := by
  unfold f_X12_holdsLine_229 at h
  refine E_istore (lv' := [(10, .int (bI y0)), (0, .ref 149), (2, .int x2), (3, .int x3), (4, .int x4), (5, .int x5), (6, .int x6), (7, .int x7), (8, .int x8), (9, .int x9)]) 231 rfl dX12_holdsLine_229 (Nat.le_of_ble_eq_true rfl) rfl ?_
  refine E_aload_n 232 rfl dX12_holdsLine_231 rfl 1 rfl ?_
  refine E_gR 157 235 rfl dX12_holdsLine_232 shc_149 fl_X12_39 rfl (by decide) (by decide) ?_
  refine E_iload 237 rfl dX12_holdsLine_235 4 rfl ?_
  refine E_iconst (v := 1) 238 rfl dX12_holdsLine_237 (by decide) ?_
  refine E_isub 239 rfl dX12_holdsLine_238 ?_
  refine E_iload 241 rfl dX12_holdsLine_239 7 rfl ?_
  refine E_bipush (v := 10) 243 rfl dX12_holdsLine_241 (by decide) ?_
  refine E_icmp_ne 254 246 (by decide) rfl dX12_holdsLine_243 (fun c1 => ?_) (fun c1 => ?_)
  · rw [if_neg c1] at h
    refine E_iload 256 rfl dX12_holdsLine_254 0 rfl ?_
    refine E_if_eqB 263 259 (by decide) rfl dX12_holdsLine_256 (fun c2 => ?_) (fun c2 => ?_)
    · rw [if_neg (by rw [c2]; decide)] at h
      refine E_iconst (v := 0) 264 rfl dX12_holdsLine_263 (by decide) ?_
      refine E_sub (lv' := [(0, .ref 149), (2, .int x2), (3, .int x3), (4, .int x4), (5, .int x5), (6, .int x6)]) [1, 2, 3, 4, 5, 6] rfl ?_
      exact S_X12_holdsLine_264 hk23 x2 x3 x4 x5 x6 (x4 - 1) 0 I L _ h
    · rw [if_pos c2] at h
      refine E_iconst (v := 1) 260 rfl dX12_holdsLine_259 (by decide) ?_
      refine E_goto 264 (by decide) dX12_holdsLine_260 ?_
      refine E_sub (lv' := [(0, .ref 149), (2, .int x2), (3, .int x3), (4, .int x4), (5, .int x5), (6, .int x6)]) [1, 2, 3, 4, 5, 6] rfl ?_
      exact S_X12_holdsLine_264 hk23 x2 x3 x4 x5 x6 (x4 - 1) 1 I L _ h
  · rw [if_pos c1] at h
    refine E_iload 248 rfl dX12_holdsLine_246 8 rfl ?_
    refine E_iload 250 rfl dX12_holdsLine_248 9 rfl ?_
    refine E_iadd 251 rfl dX12_holdsLine_250 ?_
    refine E_goto 264 (by decide) dX12_holdsLine_251 ?_
    refine E_sub (lv' := [(0, .ref 149), (2, .int x2), (3, .int x3), (4, .int x4), (5, .int x5), (6, .int x6)]) [1, 2, 3, 4, 5, 6] rfl ?_
    exact S_X12_holdsLine_264 hk23 x2 x3 x4 x5 x6 (x4 - 1) (x8 + x9) I L _ h
def f_X12_holdsLine_23 : Nat → Int32 → Int32 → Int32 → Int32 → Int32 → MI → ML → Option (Bool × MI × ML)
  | 0, _, _, _, _, _, _, _ => none
  | n + 1, x2, x3, x4, x5, x6, I, L => Option.bind (ldI I 150 2143 (x5 + 3)) fun v1 => if v1 ≤ x6 then (if x4 = 0 then (f_X12_holdsLine_286 I L) else (Option.bind (ldI I 157 400 0) fun v4 => if v4 = 1 then (f_X12_holdsLine_286 I L) else (f_X12_holdsLine_291 false I L))) else (Option.bind (ldI I 150 2143 (494 + (2 * x6))) fun v6 => if 9 < v6 then (if v6 = 13 then (Option.bind (ldI I 157 400 (x4 - 1)) fun v18 => Option.bind (stI I 157 400 (x4 - 1) (1 - v18)) fun I19 => f_X12_holdsLine_265 (f_X12_holdsLine_23 n) x2 x3 x4 x5 x6 I19 L) else (Option.bind (ldI I 157 400 ((x4 + (-1)) - 1)) fun v9 => Option.bind (ldI I 157 400 (x4 + (-1))) fun v10 => if v6 = 11 then (if v10 ≤ v9 then (f_X12_holdsLine_229 (f_X12_holdsLine_23 n) x2 x3 (x4 + (-1)) x5 x6 v6 v9 v10 false I L) else (f_X12_holdsLine_229 (f_X12_holdsLine_23 n) x2 x3 (x4 + (-1)) x5 x6 v6 v9 v10 true I L)) else (if v6 = 12 then (if v9 ≤ v10 then (f_X12_holdsLine_229 (f_X12_holdsLine_23 n) x2 x3 (x4 + (-1)) x5 x6 v6 v9 v10 false I L) else (f_X12_holdsLine_229 (f_X12_holdsLine_23 n) x2 x3 (x4 + (-1)) x5 x6 v6 v9 v10 true I L)) else (if v6 = 14 then (if (v9 + v10) = 2 then (f_X12_holdsLine_229 (f_X12_holdsLine_23 n) x2 x3 (x4 + (-1)) x5 x6 v6 v9 v10 true I L) else (f_X12_holdsLine_229 (f_X12_holdsLine_23 n) x2 x3 (x4 + (-1)) x5 x6 v6 v9 v10 false I L)) else (if (v9 + v10) ≤ 0 then (f_X12_holdsLine_229 (f_X12_holdsLine_23 n) x2 x3 (x4 + (-1)) x5 x6 v6 v9 v10 false I L) else (f_X12_holdsLine_229 (f_X12_holdsLine_23 n) x2 x3 (x4 + (-1)) x5 x6 v6 v9 v10 true I L)))))) else (Option.bind (ldI I 150 2143 ((494 + (2 * x6)) + 1)) fun v20 => Option.bind (f_X12_factOf v6 v20 x2 x3 I L) fun v21 => Option.bind (stI I 157 400 x4 v21) fun I22 => f_X12_holdsLine_265 (f_X12_holdsLine_23 n) x2 x3 (x4 + 1) x5 x6 I22 L))
set_option maxRecDepth 100000 in
theorem S_X12_holdsLine_23 {g : Gx} : ∀ (n : Nat) (x2 : Int32) (x3 : Int32) (x4 : Int32) (x5 : Int32) (x6 : Int32) (I : MI) (L : ML) (res : Bool × MI × ML), f_X12_holdsLine_23 n x2 x3 x4 x5 x6 I L = some res → E g 7 0 mX12_holdsLine 23 [(0, .ref 149), (2, .int x2), (3, .int x3), (4, .int x4), (5, .int x5), (6, .int x6)] [] (I, L) (.inl (some (.int (bI res.1)))) (res.2.1, res.2.2) := by
  intro n
  induction n with
  | zero =>
    intros
    rename_i h
    cases h
  | succ n ih =>
    intro x2 x3 x4 x5 x6 I L res h
    rw [f_X12_holdsLine_23] at h
    refine E_iload 25 rfl dX12_holdsLine_23 5 rfl ?_
    refine E_aload_n 26 rfl dX12_holdsLine_25 rfl 0 rfl ?_
    refine E_gR 150 29 rfl dX12_holdsLine_26 shc_149 fl_X12_13 rfl (by decide) (by decide) ?_
    refine E_iload 31 rfl dX12_holdsLine_29 4 rfl ?_
    refine E_iconst (v := 3) 32 rfl dX12_holdsLine_31 (by decide) ?_
    refine E_iadd 33 rfl dX12_holdsLine_32 ?_
    obtain ⟨v1, hv1, h⟩ := Option.bind_eq_some_iff.mp h
    refine E_ldI 34 rfl dX12_holdsLine_33 shc_150 hv1 ?_
    refine E_icmp_ge 271 37 (by decide) rfl dX12_holdsLine_34 (fun c2 => ?_) (fun c2 => ?_)
    · rw [if_pos c2] at h
      refine E_iload 273 rfl dX12_holdsLine_271 3 rfl ?_
      refine E_if_eq 286 276 (by decide) rfl dX12_holdsLine_273 (fun c3 => ?_) (fun c3 => ?_)
      · rw [if_pos c3] at h
        refine E_sub (lv' := []) [] rfl ?_
        exact S_X12_holdsLine_286 I L _ h
      · rw [if_neg c3] at h
        refine E_aload_n 277 rfl dX12_holdsLine_276 rfl 0 rfl ?_
        refine E_gR 157 280 rfl dX12_holdsLine_277 shc_149 fl_X12_39 rfl (by decide) (by decide) ?_
        refine E_iconst (v := 0) 281 rfl dX12_holdsLine_280 (by decide) ?_
        obtain ⟨v4, hv4, h⟩ := Option.bind_eq_some_iff.mp h
        refine E_ldI 282 rfl dX12_holdsLine_281 shc_157 hv4 ?_
        refine E_iconst (v := 1) 283 rfl dX12_holdsLine_282 (by decide) ?_
        refine E_icmp_ne 290 286 (by decide) rfl dX12_holdsLine_283 (fun c5 => ?_) (fun c5 => ?_)
        · rw [if_neg c5] at h
          refine E_iconst (v := 0) 291 rfl dX12_holdsLine_290 (by decide) ?_
          refine E_sub (lv' := []) [] rfl ?_
          exact S_X12_holdsLine_291 false I L _ h
        · rw [if_pos c5] at h
          refine E_sub (lv' := []) [] rfl ?_
          exact S_X12_holdsLine_286 I L _ h
    · rw [if_neg c2] at h
      refine E_aload_n 38 rfl dX12_holdsLine_37 rfl 0 rfl ?_
      refine E_gR 150 41 rfl dX12_holdsLine_38 shc_149 fl_X12_13 rfl (by decide) (by decide) ?_
      refine E_sipush (v := 494) 44 rfl dX12_holdsLine_41 (by decide) ?_
      refine E_iconst (v := 2) 45 rfl dX12_holdsLine_44 (by decide) ?_
      refine E_iload 47 rfl dX12_holdsLine_45 5 rfl ?_
      refine E_imul 48 rfl dX12_holdsLine_47 ?_
      refine E_iadd 49 rfl dX12_holdsLine_48 ?_
      obtain ⟨v6, hv6, h⟩ := Option.bind_eq_some_iff.mp h
      refine E_ldI 50 rfl dX12_holdsLine_49 shc_150 hv6 ?_
      refine E_istore (lv' := [(7, .int v6), (0, .ref 149), (2, .int x2), (3, .int x3), (4, .int x4), (5, .int x5), (6, .int x6)]) 52 rfl dX12_holdsLine_50 (Nat.le_of_ble_eq_true rfl) rfl ?_
      refine E_iload 54 rfl dX12_holdsLine_52 0 rfl ?_
      refine E_bipush (v := 9) 56 rfl dX12_holdsLine_54 (by decide) ?_
      refine E_icmp_gt 95 59 (by decide) rfl dX12_holdsLine_56 (fun c7 => ?_) (fun c7 => ?_)
      · rw [if_pos c7] at h
        refine E_iload 97 rfl dX12_holdsLine_95 0 rfl ?_
        refine E_bipush (v := 13) 99 rfl dX12_holdsLine_97 (by decide) ?_
        refine E_icmp_ne 125 102 (by decide) rfl dX12_holdsLine_99 (fun c8 => ?_) (fun c8 => ?_)
        · rw [if_neg c8] at h
          refine E_iinc (j := 4) (v := x4 + (-1)) (lv' := [(4, .int (x4 + (-1))), (7, .int v6), (0, .ref 149), (2, .int x2), (3, .int x3), (5, .int x5), (6, .int x6)]) 128 rfl dX12_holdsLine_125 rfl rfl (Nat.le_of_ble_eq_true rfl) rfl ?_
          refine E_aload_n 129 rfl dX12_holdsLine_128 rfl 2 rfl ?_
          refine E_gR 157 132 rfl dX12_holdsLine_129 shc_149 fl_X12_39 rfl (by decide) (by decide) ?_
          refine E_iload 134 rfl dX12_holdsLine_132 0 rfl ?_
          refine E_iconst (v := 1) 135 rfl dX12_holdsLine_134 (by decide) ?_
          refine E_isub 136 rfl dX12_holdsLine_135 ?_
          obtain ⟨v9, hv9, h⟩ := Option.bind_eq_some_iff.mp h
          refine E_ldI 137 rfl dX12_holdsLine_136 shc_157 hv9 ?_
          refine E_istore (lv' := [(8, .int v9), (4, .int (x4 + (-1))), (7, .int v6), (0, .ref 149), (2, .int x2), (3, .int x3), (5, .int x5), (6, .int x6)]) 139 rfl dX12_holdsLine_137 (Nat.le_of_ble_eq_true rfl) rfl ?_
          refine E_aload_n 140 rfl dX12_holdsLine_139 rfl 3 rfl ?_
          refine E_gR 157 143 rfl dX12_holdsLine_140 shc_149 fl_X12_39 rfl (by decide) (by decide) ?_
          refine E_iload 145 rfl dX12_holdsLine_143 1 rfl ?_
          obtain ⟨v10, hv10, h⟩ := Option.bind_eq_some_iff.mp h
          refine E_ldI 146 rfl dX12_holdsLine_145 shc_157 hv10 ?_
          refine E_istore (lv' := [(9, .int v10), (8, .int v9), (4, .int (x4 + (-1))), (7, .int v6), (0, .ref 149), (2, .int x2), (3, .int x3), (5, .int x5), (6, .int x6)]) 148 rfl dX12_holdsLine_146 (Nat.le_of_ble_eq_true rfl) rfl ?_
          refine E_iload 150 rfl dX12_holdsLine_148 3 rfl ?_
          refine E_bipush (v := 11) 152 rfl dX12_holdsLine_150 (by decide) ?_
          refine E_icmp_ne 170 155 (by decide) rfl dX12_holdsLine_152 (fun c11 => ?_) (fun c11 => ?_)
          · rw [if_neg c11] at h
            refine E_iload 172 rfl dX12_holdsLine_170 3 rfl ?_
            refine E_bipush (v := 12) 174 rfl dX12_holdsLine_172 (by decide) ?_
            refine E_icmp_ne 192 177 (by decide) rfl dX12_holdsLine_174 (fun c12 => ?_) (fun c12 => ?_)
            · rw [if_neg c12] at h
              refine E_iload 194 rfl dX12_holdsLine_192 3 rfl ?_
              refine E_bipush (v := 14) 196 rfl dX12_holdsLine_194 (by decide) ?_
              refine E_icmp_ne 216 199 (by decide) rfl dX12_holdsLine_196 (fun c13 => ?_) (fun c13 => ?_)
              · rw [if_neg c13] at h
                refine E_iload 218 rfl dX12_holdsLine_216 1 rfl ?_
                refine E_iload 220 rfl dX12_holdsLine_218 0 rfl ?_
                refine E_iadd 221 rfl dX12_holdsLine_220 ?_
                refine E_if_le 228 224 (by decide) rfl dX12_holdsLine_221 (fun c14 => ?_) (fun c14 => ?_)
                · rw [if_pos c14] at h
                  refine E_iconst (v := 0) 229 rfl dX12_holdsLine_228 (by decide) ?_
                  refine E_sub (lv' := [(0, .ref 149), (2, .int x2), (3, .int x3), (4, .int (x4 + (-1))), (5, .int x5), (6, .int x6), (7, .int v6), (8, .int v9), (9, .int v10)]) [4, 5, 6, 2, 7, 8, 3, 1, 0] rfl ?_
                  exact S_X12_holdsLine_229 ih x2 x3 (x4 + (-1)) x5 x6 v6 v9 v10 false I L _ h
                · rw [if_neg c14] at h
                  refine E_iconst (v := 1) 225 rfl dX12_holdsLine_224 (by decide) ?_
                  refine E_goto 229 (by decide) dX12_holdsLine_225 ?_
                  refine E_sub (lv' := [(0, .ref 149), (2, .int x2), (3, .int x3), (4, .int (x4 + (-1))), (5, .int x5), (6, .int x6), (7, .int v6), (8, .int v9), (9, .int v10)]) [4, 5, 6, 2, 7, 8, 3, 1, 0] rfl ?_
                  exact S_X12_holdsLine_229 ih x2 x3 (x4 + (-1)) x5 x6 v6 v9 v10 true I L _ h
              · rw [if_pos c13] at h
                refine E_iload 201 rfl dX12_holdsLine_199 1 rfl ?_
                refine E_iload 203 rfl dX12_holdsLine_201 0 rfl ?_
                refine E_iadd 204 rfl dX12_holdsLine_203 ?_
                refine E_iconst (v := 2) 205 rfl dX12_holdsLine_204 (by decide) ?_
                refine E_icmp_ne 212 208 (by decide) rfl dX12_holdsLine_205 (fun c15 => ?_) (fun c15 => ?_)
                · rw [if_neg c15] at h
                  refine E_iconst (v := 0) 213 rfl dX12_holdsLine_212 (by decide) ?_
                  refine E_goto 229 (by decide) dX12_holdsLine_213 ?_
                  refine E_sub (lv' := [(0, .ref 149), (2, .int x2), (3, .int x3), (4, .int (x4 + (-1))), (5, .int x5), (6, .int x6), (7, .int v6), (8, .int v9), (9, .int v10)]) [4, 5, 6, 2, 7, 8, 3, 1, 0] rfl ?_
                  exact S_X12_holdsLine_229 ih x2 x3 (x4 + (-1)) x5 x6 v6 v9 v10 false I L _ h
                · rw [if_pos c15] at h
                  refine E_iconst (v := 1) 209 rfl dX12_holdsLine_208 (by decide) ?_
                  refine E_goto 229 (by decide) dX12_holdsLine_209 ?_
                  refine E_sub (lv' := [(0, .ref 149), (2, .int x2), (3, .int x3), (4, .int (x4 + (-1))), (5, .int x5), (6, .int x6), (7, .int v6), (8, .int v9), (9, .int v10)]) [4, 5, 6, 2, 7, 8, 3, 1, 0] rfl ?_
                  exact S_X12_holdsLine_229 ih x2 x3 (x4 + (-1)) x5 x6 v6 v9 v10 true I L _ h
            · rw [if_pos c12] at h
              refine E_iload 179 rfl dX12_holdsLine_177 1 rfl ?_
              refine E_iload 181 rfl dX12_holdsLine_179 0 rfl ?_
              refine E_icmp_le 188 184 (by decide) rfl dX12_holdsLine_181 (fun c16 => ?_) (fun c16 => ?_)
              · rw [if_pos c16] at h
                refine E_iconst (v := 0) 189 rfl dX12_holdsLine_188 (by decide) ?_
                refine E_goto 229 (by decide) dX12_holdsLine_189 ?_
                refine E_sub (lv' := [(0, .ref 149), (2, .int x2), (3, .int x3), (4, .int (x4 + (-1))), (5, .int x5), (6, .int x6), (7, .int v6), (8, .int v9), (9, .int v10)]) [4, 5, 6, 2, 7, 8, 3, 1, 0] rfl ?_
                exact S_X12_holdsLine_229 ih x2 x3 (x4 + (-1)) x5 x6 v6 v9 v10 false I L _ h
              · rw [if_neg c16] at h
                refine E_iconst (v := 1) 185 rfl dX12_holdsLine_184 (by decide) ?_
                refine E_goto 229 (by decide) dX12_holdsLine_185 ?_
                refine E_sub (lv' := [(0, .ref 149), (2, .int x2), (3, .int x3), (4, .int (x4 + (-1))), (5, .int x5), (6, .int x6), (7, .int v6), (8, .int v9), (9, .int v10)]) [4, 5, 6, 2, 7, 8, 3, 1, 0] rfl ?_
                exact S_X12_holdsLine_229 ih x2 x3 (x4 + (-1)) x5 x6 v6 v9 v10 true I L _ h
          · rw [if_pos c11] at h
            refine E_iload 157 rfl dX12_holdsLine_155 1 rfl ?_
            refine E_iload 159 rfl dX12_holdsLine_157 0 rfl ?_
            refine E_icmp_ge 166 162 (by decide) rfl dX12_holdsLine_159 (fun c17 => ?_) (fun c17 => ?_)
            · rw [if_pos c17] at h
              refine E_iconst (v := 0) 167 rfl dX12_holdsLine_166 (by decide) ?_
              refine E_goto 229 (by decide) dX12_holdsLine_167 ?_
              refine E_sub (lv' := [(0, .ref 149), (2, .int x2), (3, .int x3), (4, .int (x4 + (-1))), (5, .int x5), (6, .int x6), (7, .int v6), (8, .int v9), (9, .int v10)]) [4, 5, 6, 2, 7, 8, 3, 1, 0] rfl ?_
              exact S_X12_holdsLine_229 ih x2 x3 (x4 + (-1)) x5 x6 v6 v9 v10 false I L _ h
            · rw [if_neg c17] at h
              refine E_iconst (v := 1) 163 rfl dX12_holdsLine_162 (by decide) ?_
              refine E_goto 229 (by decide) dX12_holdsLine_163 ?_
              refine E_sub (lv' := [(0, .ref 149), (2, .int x2), (3, .int x3), (4, .int (x4 + (-1))), (5, .int x5), (6, .int x6), (7, .int v6), (8, .int v9), (9, .int v10)]) [4, 5, 6, 2, 7, 8, 3, 1, 0] rfl ?_
              exact S_X12_holdsLine_229 ih x2 x3 (x4 + (-1)) x5 x6 v6 v9 v10 true I L _ h
        · rw [if_pos c8] at h
          refine E_aload_n 103 rfl dX12_holdsLine_102 rfl 1 rfl ?_
          refine E_gR 157 106 rfl dX12_holdsLine_103 shc_149 fl_X12_39 rfl (by decide) (by decide) ?_
          refine E_iload 108 rfl dX12_holdsLine_106 4 rfl ?_
          refine E_iconst (v := 1) 109 rfl dX12_holdsLine_108 (by decide) ?_
          refine E_isub 110 rfl dX12_holdsLine_109 ?_
          refine E_iconst (v := 1) 111 rfl dX12_holdsLine_110 (by decide) ?_
          refine E_aload_n 112 rfl dX12_holdsLine_111 rfl 1 rfl ?_
          refine E_gR 157 115 rfl dX12_holdsLine_112 shc_149 fl_X12_39 rfl (by decide) (by decide) ?_
          refine E_iload 117 rfl dX12_holdsLine_115 4 rfl ?_
          refine E_iconst (v := 1) 118 rfl dX12_holdsLine_117 (by decide) ?_
          refine E_isub 119 rfl dX12_holdsLine_118 ?_
          obtain ⟨v18, hv18, h⟩ := Option.bind_eq_some_iff.mp h
          refine E_ldI 120 rfl dX12_holdsLine_119 shc_157 hv18 ?_
          refine E_isub 121 rfl dX12_holdsLine_120 ?_
          obtain ⟨I19, hI19, h⟩ := Option.bind_eq_some_iff.mp h
          refine E_stI 122 rfl dX12_holdsLine_121 shc_157 hI19 ?_
          refine E_goto 265 (by decide) dX12_holdsLine_122 ?_
          refine E_sub (lv' := [(0, .ref 149), (2, .int x2), (3, .int x3), (4, .int x4), (5, .int x5), (6, .int x6)]) [1, 2, 3, 4, 5, 6] rfl ?_
          exact S_X12_holdsLine_265 ih x2 x3 x4 x5 x6 I19 L _ h
      · rw [if_neg c7] at h
        refine E_aload_n 60 rfl dX12_holdsLine_59 rfl 1 rfl ?_
        refine E_gR 157 63 rfl dX12_holdsLine_60 shc_149 fl_X12_39 rfl (by decide) (by decide) ?_
        refine E_iload 65 rfl dX12_holdsLine_63 4 rfl ?_
        refine E_aload_n 66 rfl dX12_holdsLine_65 rfl 1 rfl ?_
        refine E_iload 68 rfl dX12_holdsLine_66 0 rfl ?_
        refine E_aload_n 69 rfl dX12_holdsLine_68 rfl 1 rfl ?_
        refine E_gR 150 72 rfl dX12_holdsLine_69 shc_149 fl_X12_13 rfl (by decide) (by decide) ?_
        refine E_sipush (v := 494) 75 rfl dX12_holdsLine_72 (by decide) ?_
        refine E_iconst (v := 2) 76 rfl dX12_holdsLine_75 (by decide) ?_
        refine E_iload 78 rfl dX12_holdsLine_76 6 rfl ?_
        refine E_imul 79 rfl dX12_holdsLine_78 ?_
        refine E_iadd 80 rfl dX12_holdsLine_79 ?_
        refine E_iconst (v := 1) 81 rfl dX12_holdsLine_80 (by decide) ?_
        refine E_iadd 82 rfl dX12_holdsLine_81 ?_
        obtain ⟨v20, hv20, h⟩ := Option.bind_eq_some_iff.mp h
        refine E_ldI 83 rfl dX12_holdsLine_82 shc_150 hv20 ?_
        refine E_iload_n 84 rfl dX12_holdsLine_83 rfl 2 rfl ?_
        refine E_iload_n 85 rfl dX12_holdsLine_84 rfl 3 rfl ?_
        obtain ⟨v21, hv21, h⟩ := Option.bind_eq_some_iff.mp h
        refine E_cV1 (As := [.int v6, .int v20, .int x2, .int x3]) 88 rfl dX12_holdsLine_85 shc_149 ck_X12_275 cv_X12_factOf rfl (by decide) (Nat.le_of_ble_eq_true rfl) (C_X12_factOf (g := g) hv21) rfl ?_
        obtain ⟨I22, hI22, h⟩ := Option.bind_eq_some_iff.mp h
        refine E_stI 89 rfl dX12_holdsLine_88 shc_157 hI22 ?_
        refine E_iinc (j := 4) (v := x4 + 1) (lv' := [(4, .int (x4 + 1)), (7, .int v6), (0, .ref 149), (2, .int x2), (3, .int x3), (5, .int x5), (6, .int x6)]) 92 rfl dX12_holdsLine_89 rfl rfl (Nat.le_of_ble_eq_true rfl) rfl ?_
        refine E_goto 265 (by decide) dX12_holdsLine_92 ?_
        refine E_sub (lv' := [(0, .ref 149), (2, .int x2), (3, .int x3), (4, .int (x4 + 1)), (5, .int x5), (6, .int x6)]) [2, 3, 4, 0, 5, 6] rfl ?_
        exact S_X12_holdsLine_265 ih x2 x3 (x4 + 1) x5 x6 I22 L _ h
def f_X12_holdsLine (x1 : Int32) (x2 : Int32) (x3 : Int32) (I : MI) (L : ML) : Option (Bool × MI × ML) := Option.bind (ldI I 150 2143 ((446 + (4 * x1)) + 2)) fun v1 => f_X12_holdsLine_23 FU x2 x3 0 (446 + (4 * x1)) v1 I L
set_option maxRecDepth 100000 in
theorem S_X12_holdsLine {g : Gx} (x1 : Int32) (x2 : Int32) (x3 : Int32) (I : MI) (L : ML) (res : Bool × MI × ML) (h : f_X12_holdsLine x1 x2 x3 I L = some res) : E g 7 0 mX12_holdsLine 0 [(0, .ref 149), (1, .int x1), (2, .int x2), (3, .int x3)] [] (I, L) (.inl (some (.int (bI res.1)))) (res.2.1, res.2.2) := by
  unfold f_X12_holdsLine at h
  refine E_iconst (v := 0) 1 rfl dX12_holdsLine_0 (by decide) ?_
  refine E_istore (lv' := [(4, .int 0), (0, .ref 149), (1, .int x1), (2, .int x2), (3, .int x3)]) 3 rfl dX12_holdsLine_1 (Nat.le_of_ble_eq_true rfl) rfl ?_
  refine E_sipush (v := 446) 6 rfl dX12_holdsLine_3 (by decide) ?_
  refine E_iconst (v := 4) 7 rfl dX12_holdsLine_6 (by decide) ?_
  refine E_iload_n 8 rfl dX12_holdsLine_7 rfl 2 rfl ?_
  refine E_imul 9 rfl dX12_holdsLine_8 ?_
  refine E_iadd 10 rfl dX12_holdsLine_9 ?_
  refine E_istore (lv' := [(5, .int (446 + (4 * x1))), (4, .int 0), (0, .ref 149), (1, .int x1), (2, .int x2), (3, .int x3)]) 12 rfl dX12_holdsLine_10 (Nat.le_of_ble_eq_true rfl) rfl ?_
  refine E_aload_n 13 rfl dX12_holdsLine_12 rfl 2 rfl ?_
  refine E_gR 150 16 rfl dX12_holdsLine_13 shc_149 fl_X12_13 rfl (by decide) (by decide) ?_
  refine E_iload 18 rfl dX12_holdsLine_16 0 rfl ?_
  refine E_iconst (v := 2) 19 rfl dX12_holdsLine_18 (by decide) ?_
  refine E_iadd 20 rfl dX12_holdsLine_19 ?_
  obtain ⟨v1, hv1, h⟩ := Option.bind_eq_some_iff.mp h
  refine E_ldI 21 rfl dX12_holdsLine_20 shc_150 hv1 ?_
  refine E_istore (lv' := [(6, .int v1), (5, .int (446 + (4 * x1))), (4, .int 0), (0, .ref 149), (1, .int x1), (2, .int x2), (3, .int x3)]) 23 rfl dX12_holdsLine_21 (Nat.le_of_ble_eq_true rfl) rfl ?_
  refine E_sub (lv' := [(0, .ref 149), (2, .int x2), (3, .int x3), (4, .int 0), (5, .int (446 + (4 * x1))), (6, .int v1)]) [3, 5, 6, 2, 1, 0] rfl ?_
  exact S_X12_holdsLine_23 FU x2 x3 0 (446 + (4 * x1)) v1 I L _ h
theorem C_X12_holdsLine {g : Gx} {x1 : Int32} {x2 : Int32} {x3 : Int32} {I : MI} {L : ML} {res : Bool × MI × ML} (h : f_X12_holdsLine x1 x2 x3 I L = some res) : Ent g 7 0 mX12_holdsLine [.ref 149, .int x1, .int x2, .int x3] (I, L) (.inl (some (.int (bI res.1)))) (res.2.1, res.2.2) := Ent_of (by decide +kernel) (Nat.le_of_ble_eq_true rfl) (S_X12_holdsLine x1 x2 x3 I L _ h)
def f_X12_titleOf_95 (x3 : Int32) (I : MI) (L : ML) : Option (Int32 × MI × ML) := some (x3, I, L)
set_option maxRecDepth 100000 in
theorem S_X12_titleOf_95 {g : Gx} (x3 : Int32) (I : MI) (L : ML) (res : Int32 × MI × ML) (h : f_X12_titleOf_95 x3 I L = some res) : E g 8 0 mX12_titleOf 95 [(3, .int x3)] [] (I, L) (.inl (some (.int res.1))) (res.2.1, res.2.2) := by
  unfold f_X12_titleOf_95 at h
  refine E_iload_n 96 rfl dX12_titleOf_95 rfl 0 rfl ?_
  cases h
  exact E_iret rfl dX12_titleOf_96
def f_X12_titleOf_89 (k5 : Int32 → Int32 → Int32 → Int32 → MI → ML → Option (Int32 × MI × ML)) (x1 : Int32) (x2 : Int32) (x3 : Int32) (x4 : Int32) (I : MI) (L : ML) : Option (Int32 × MI × ML) := k5 x1 x2 x3 (x4 + 1) I L
set_option maxRecDepth 100000 in
theorem S_X12_titleOf_89 {g : Gx} {k5 : Int32 → Int32 → Int32 → Int32 → MI → ML → Option (Int32 × MI × ML)} (hk5 : ∀ (x1z : Int32) (x2z : Int32) (x3z : Int32) (x4z : Int32) (I : MI) (L : ML) (res : Int32 × MI × ML), k5 x1z x2z x3z x4z I L = some res → E g 8 0 mX12_titleOf 5 [(0, .ref 149), (1, .int x1z), (2, .int x2z), (3, .int x3z), (4, .int x4z)] [] (I, L) (.inl (some (.int res.1))) (res.2.1, res.2.2)) (x1 : Int32) (x2 : Int32) (x3 : Int32) (x4 : Int32) (I : MI) (L : ML) (res : Int32 × MI × ML) (h : f_X12_titleOf_89 k5 x1 x2 x3 x4 I L = some res) : E g 8 0 mX12_titleOf 89 [(0, .ref 149), (1, .int x1), (2, .int x2), (3, .int x3), (4, .int x4)] [] (I, L) (.inl (some (.int res.1))) (res.2.1, res.2.2) := by
  unfold f_X12_titleOf_89 at h
  refine E_iinc (j := 4) (v := x4 + 1) (lv' := [(4, .int (x4 + 1)), (0, .ref 149), (1, .int x1), (2, .int x2), (3, .int x3)]) 92 rfl dX12_titleOf_89 rfl rfl (Nat.le_of_ble_eq_true rfl) rfl ?_
  refine E_goto 5 (by decide) dX12_titleOf_92 ?_
  refine E_sub (lv' := [(0, .ref 149), (1, .int x1), (2, .int x2), (3, .int x3), (4, .int (x4 + 1))]) [1, 2, 3, 4, 0] rfl ?_
  exact hk5 x1 x2 x3 (x4 + 1) I L _ h
def f_X12_titleOf_5 : Nat → Int32 → Int32 → Int32 → Int32 → MI → ML → Option (Int32 × MI × ML)
  | 0, _, _, _, _, _, _ => none
  | n + 1, x1, x2, x3, x4, I, L => Option.bind (ldI I 150 2143 5) fun v1 => if v1 = 1 then (Option.bind (ldI I 150 2143 445) fun v3 => if v3 ≤ x4 then (f_X12_titleOf_95 x3 I L) else (Option.bind (ldI I 150 2143 (446 + (4 * x4))) fun v5 => if v5 = x1 then (Option.bind (f_X12_holdsLine x4 x1 x2 I L) fun w7 => if w7.1 = true then (Option.bind (ldI w7.2.1 150 2143 ((446 + (4 * x4)) + 1)) fun v9 => if 0 ≤ v9 then (Option.bind (ldI w7.2.1 150 2143 ((446 + (4 * x4)) + 1)) fun v11 => f_X12_titleOf_89 (f_X12_titleOf_5 n) x1 x2 (x3 + v11) x4 w7.2.1 w7.2.2) else (some (0, w7.2.1, w7.2.2))) else (f_X12_titleOf_89 (f_X12_titleOf_5 n) x1 x2 x3 x4 w7.2.1 w7.2.2)) else (f_X12_titleOf_89 (f_X12_titleOf_5 n) x1 x2 x3 x4 I L))) else (f_X12_titleOf_95 x3 I L)
set_option maxRecDepth 100000 in
theorem S_X12_titleOf_5 {g : Gx} : ∀ (n : Nat) (x1 : Int32) (x2 : Int32) (x3 : Int32) (x4 : Int32) (I : MI) (L : ML) (res : Int32 × MI × ML), f_X12_titleOf_5 n x1 x2 x3 x4 I L = some res → E g 8 0 mX12_titleOf 5 [(0, .ref 149), (1, .int x1), (2, .int x2), (3, .int x3), (4, .int x4)] [] (I, L) (.inl (some (.int res.1))) (res.2.1, res.2.2) := by
  intro n
  induction n with
  | zero =>
    intros
    rename_i h
    cases h
  | succ n ih =>
    intro x1 x2 x3 x4 I L res h
    rw [f_X12_titleOf_5] at h
    refine E_aload_n 6 rfl dX12_titleOf_5 rfl 0 rfl ?_
    refine E_gR 150 9 rfl dX12_titleOf_6 shc_149 fl_X12_13 rfl (by decide) (by decide) ?_
    refine E_iconst (v := 5) 10 rfl dX12_titleOf_9 (by decide) ?_
    obtain ⟨v1, hv1, h⟩ := Option.bind_eq_some_iff.mp h
    refine E_ldI 11 rfl dX12_titleOf_10 shc_150 hv1 ?_
    refine E_iconst (v := 1) 12 rfl dX12_titleOf_11 (by decide) ?_
    refine E_icmp_ne 95 15 (by decide) rfl dX12_titleOf_12 (fun c2 => ?_) (fun c2 => ?_)
    · rw [if_neg c2] at h
      refine E_sub (lv' := [(3, .int x3)]) [3] rfl ?_
      exact S_X12_titleOf_95 x3 I L _ h
    · rw [if_pos c2] at h
      refine E_iload 17 rfl dX12_titleOf_15 4 rfl ?_
      refine E_aload_n 18 rfl dX12_titleOf_17 rfl 0 rfl ?_
      refine E_gR 150 21 rfl dX12_titleOf_18 shc_149 fl_X12_13 rfl (by decide) (by decide) ?_
      refine E_sipush (v := 445) 24 rfl dX12_titleOf_21 (by decide) ?_
      obtain ⟨v3, hv3, h⟩ := Option.bind_eq_some_iff.mp h
      refine E_ldI 25 rfl dX12_titleOf_24 shc_150 hv3 ?_
      refine E_icmp_ge 95 28 (by decide) rfl dX12_titleOf_25 (fun c4 => ?_) (fun c4 => ?_)
      · rw [if_pos c4] at h
        refine E_sub (lv' := [(3, .int x3)]) [3] rfl ?_
        exact S_X12_titleOf_95 x3 I L _ h
      · rw [if_neg c4] at h
        refine E_sipush (v := 446) 31 rfl dX12_titleOf_28 (by decide) ?_
        refine E_iconst (v := 4) 32 rfl dX12_titleOf_31 (by decide) ?_
        refine E_iload 34 rfl dX12_titleOf_32 4 rfl ?_
        refine E_imul 35 rfl dX12_titleOf_34 ?_
        refine E_iadd 36 rfl dX12_titleOf_35 ?_
        refine E_istore (lv' := [(5, .int (446 + (4 * x4))), (0, .ref 149), (1, .int x1), (2, .int x2), (3, .int x3), (4, .int x4)]) 38 rfl dX12_titleOf_36 (Nat.le_of_ble_eq_true rfl) rfl ?_
        refine E_aload_n 39 rfl dX12_titleOf_38 rfl 1 rfl ?_
        refine E_gR 150 42 rfl dX12_titleOf_39 shc_149 fl_X12_13 rfl (by decide) (by decide) ?_
        refine E_iload 44 rfl dX12_titleOf_42 0 rfl ?_
        obtain ⟨v5, hv5, h⟩ := Option.bind_eq_some_iff.mp h
        refine E_ldI 45 rfl dX12_titleOf_44 shc_150 hv5 ?_
        refine E_iload_n 46 rfl dX12_titleOf_45 rfl 2 rfl ?_
        refine E_icmp_ne 89 49 (by decide) rfl dX12_titleOf_46 (fun c6 => ?_) (fun c6 => ?_)
        · rw [if_neg c6] at h
          refine E_sub (lv' := [(0, .ref 149), (1, .int x1), (2, .int x2), (3, .int x3), (4, .int x4)]) [1, 2, 3, 4, 5] rfl ?_
          exact S_X12_titleOf_89 ih x1 x2 x3 x4 I L _ h
        · rw [if_pos c6] at h
          refine E_aload_n 50 rfl dX12_titleOf_49 rfl 1 rfl ?_
          refine E_iload 52 rfl dX12_titleOf_50 5 rfl ?_
          refine E_iload_n 53 rfl dX12_titleOf_52 rfl 2 rfl ?_
          refine E_iload_n 54 rfl dX12_titleOf_53 rfl 3 rfl ?_
          obtain ⟨w7, hw7, h⟩ := Option.bind_eq_some_iff.mp h
          refine E_cV1 (As := [.int x4, .int x1, .int x2]) 57 rfl dX12_titleOf_54 shc_149 ck_X12_279 cv_X12_holdsLine rfl (by decide) (Nat.le_of_ble_eq_true rfl) (C_X12_holdsLine (g := g) hw7) rfl ?_
          refine E_if_neB 63 60 (by decide) rfl dX12_titleOf_57 (fun c8 => ?_) (fun c8 => ?_)
          · rw [if_pos c8] at h
            refine E_aload_n 64 rfl dX12_titleOf_63 rfl 1 rfl ?_
            refine E_gR 150 67 rfl dX12_titleOf_64 shc_149 fl_X12_13 rfl (by decide) (by decide) ?_
            refine E_iload 69 rfl dX12_titleOf_67 0 rfl ?_
            refine E_iconst (v := 1) 70 rfl dX12_titleOf_69 (by decide) ?_
            refine E_iadd 71 rfl dX12_titleOf_70 ?_
            obtain ⟨v9, hv9, h⟩ := Option.bind_eq_some_iff.mp h
            refine E_ldI 72 rfl dX12_titleOf_71 shc_150 hv9 ?_
            refine E_if_ge 77 75 (by decide) rfl dX12_titleOf_72 (fun c10 => ?_) (fun c10 => ?_)
            · rw [if_pos c10] at h
              refine E_iload_n 78 rfl dX12_titleOf_77 rfl 4 rfl ?_
              refine E_aload_n 79 rfl dX12_titleOf_78 rfl 1 rfl ?_
              refine E_gR 150 82 rfl dX12_titleOf_79 shc_149 fl_X12_13 rfl (by decide) (by decide) ?_
              refine E_iload 84 rfl dX12_titleOf_82 0 rfl ?_
              refine E_iconst (v := 1) 85 rfl dX12_titleOf_84 (by decide) ?_
              refine E_iadd 86 rfl dX12_titleOf_85 ?_
              obtain ⟨v11, hv11, h⟩ := Option.bind_eq_some_iff.mp h
              refine E_ldI 87 rfl dX12_titleOf_86 shc_150 hv11 ?_
              refine E_iadd 88 rfl dX12_titleOf_87 ?_
              refine E_istore_n (lv' := [(3, .int (x3 + v11)), (5, .int (446 + (4 * x4))), (0, .ref 149), (1, .int x1), (2, .int x2), (4, .int x4)]) 89 rfl dX12_titleOf_88 rfl (Nat.le_of_ble_eq_true rfl) rfl ?_
              refine E_sub (lv' := [(0, .ref 149), (1, .int x1), (2, .int x2), (3, .int (x3 + v11)), (4, .int x4)]) [2, 3, 4, 0, 5] rfl ?_
              exact S_X12_titleOf_89 ih x1 x2 (x3 + v11) x4 w7.2.1 w7.2.2 _ h
            · rw [if_neg c10] at h
              refine E_iconst (v := 0) 76 rfl dX12_titleOf_75 (by decide) ?_
              cases h
              exact E_iret rfl dX12_titleOf_76
          · rw [if_neg (by rw [c8]; decide)] at h
            refine E_goto 89 (by decide) dX12_titleOf_60 ?_
            refine E_sub (lv' := [(0, .ref 149), (1, .int x1), (2, .int x2), (3, .int x3), (4, .int x4)]) [1, 2, 3, 4, 5] rfl ?_
            exact S_X12_titleOf_89 ih x1 x2 x3 x4 w7.2.1 w7.2.2 _ h
def f_X12_titleOf (x1 : Int32) (x2 : Int32) (I : MI) (L : ML) : Option (Int32 × MI × ML) := f_X12_titleOf_5 FU x1 x2 0 0 I L
set_option maxRecDepth 100000 in
theorem S_X12_titleOf {g : Gx} (x1 : Int32) (x2 : Int32) (I : MI) (L : ML) (res : Int32 × MI × ML) (h : f_X12_titleOf x1 x2 I L = some res) : E g 8 0 mX12_titleOf 0 [(0, .ref 149), (1, .int x1), (2, .int x2)] [] (I, L) (.inl (some (.int res.1))) (res.2.1, res.2.2) := by
  unfold f_X12_titleOf at h
  refine E_iconst (v := 0) 1 rfl dX12_titleOf_0 (by decide) ?_
  refine E_istore_n (lv' := [(3, .int 0), (0, .ref 149), (1, .int x1), (2, .int x2)]) 2 rfl dX12_titleOf_1 rfl (Nat.le_of_ble_eq_true rfl) rfl ?_
  refine E_iconst (v := 0) 3 rfl dX12_titleOf_2 (by decide) ?_
  refine E_istore (lv' := [(4, .int 0), (3, .int 0), (0, .ref 149), (1, .int x1), (2, .int x2)]) 5 rfl dX12_titleOf_3 (Nat.le_of_ble_eq_true rfl) rfl ?_
  refine E_sub (lv' := [(0, .ref 149), (1, .int x1), (2, .int x2), (3, .int 0), (4, .int 0)]) [2, 3, 4, 1, 0] rfl ?_
  exact S_X12_titleOf_5 FU x1 x2 0 0 I L _ h
theorem C_X12_titleOf {g : Gx} {x1 : Int32} {x2 : Int32} {I : MI} {L : ML} {res : Int32 × MI × ML} (h : f_X12_titleOf x1 x2 I L = some res) : Ent g 8 0 mX12_titleOf [.ref 149, .int x1, .int x2] (I, L) (.inl (some (.int res.1))) (res.2.1, res.2.2) := Ent_of (by decide +kernel) (Nat.le_of_ble_eq_true rfl) (S_X12_titleOf x1 x2 I L _ h)
def f_X12_allTitles_5 : Nat → Int32 → Int64 → Int32 → MI → ML → Option (Int64 × MI × ML)
  | 0, _, _, _, _, _ => none
  | n + 1, x1, x2, x4, I, L => Option.bind (f_X12_heirs I L) fun v1 => if v1 ≤ x4 then (some (x2, I, L)) else (Option.bind (f_X12_titleOf x4 x1 I L) fun w3 => Option.bind (stI w3.2.1 158 6 x4 w3.1) fun I4 => Option.bind (ldI I4 158 6 x4) fun v5 => f_X12_allTitles_5 n x1 (x2 + v5.toInt64) (x4 + 1) I4 w3.2.2)
set_option maxRecDepth 100000 in
theorem S_X12_allTitles_5 {g : Gx} : ∀ (n : Nat) (x1 : Int32) (x2 : Int64) (x4 : Int32) (I : MI) (L : ML) (res : Int64 × MI × ML), f_X12_allTitles_5 n x1 x2 x4 I L = some res → E g 9 0 mX12_allTitles 5 [(0, .ref 149), (1, .int x1), (2, .long x2), (4, .int x4)] [] (I, L) (.inl (some (.long res.1))) (res.2.1, res.2.2) := by
  intro n
  induction n with
  | zero =>
    intros
    rename_i h
    cases h
  | succ n ih =>
    intro x1 x2 x4 I L res h
    rw [f_X12_allTitles_5] at h
    refine E_iload 7 rfl dX12_allTitles_5 3 rfl ?_
    refine E_aload_n 8 rfl dX12_allTitles_7 rfl 0 rfl ?_
    obtain ⟨v1, hv1, h⟩ := Option.bind_eq_some_iff.mp h
    refine E_cV1 (As := []) 11 rfl dX12_allTitles_8 shc_149 ck_X12_64 cv_X12_heirs rfl (by decide) (Nat.le_of_ble_eq_true rfl) (C_X12_heirs (g := g) hv1) rfl ?_
    refine E_icmp_ge 45 14 (by decide) rfl dX12_allTitles_11 (fun c2 => ?_) (fun c2 => ?_)
    · rw [if_pos c2] at h
      refine E_lload_n 46 rfl dX12_allTitles_45 rfl 2 rfl ?_
      cases h
      exact E_lret rfl dX12_allTitles_46
    · rw [if_neg c2] at h
      refine E_aload_n 15 rfl dX12_allTitles_14 rfl 0 rfl ?_
      refine E_gR 158 18 rfl dX12_allTitles_15 shc_149 fl_X12_42 rfl (by decide) (by decide) ?_
      refine E_iload 20 rfl dX12_allTitles_18 3 rfl ?_
      refine E_aload_n 21 rfl dX12_allTitles_20 rfl 0 rfl ?_
      refine E_iload 23 rfl dX12_allTitles_21 3 rfl ?_
      refine E_iload_n 24 rfl dX12_allTitles_23 rfl 1 rfl ?_
      obtain ⟨w3, hw3, h⟩ := Option.bind_eq_some_iff.mp h
      refine E_cV1 (As := [.int x4, .int x1]) 27 rfl dX12_allTitles_24 shc_149 ck_X12_282 cv_X12_titleOf rfl (by decide) (Nat.le_of_ble_eq_true rfl) (C_X12_titleOf (g := g) hw3) rfl ?_
      obtain ⟨I4, hI4, h⟩ := Option.bind_eq_some_iff.mp h
      refine E_stI 28 rfl dX12_allTitles_27 shc_158 hI4 ?_
      refine E_lload_n 29 rfl dX12_allTitles_28 rfl 2 rfl ?_
      refine E_aload_n 30 rfl dX12_allTitles_29 rfl 0 rfl ?_
      refine E_gR 158 33 rfl dX12_allTitles_30 shc_149 fl_X12_42 rfl (by decide) (by decide) ?_
      refine E_iload 35 rfl dX12_allTitles_33 3 rfl ?_
      obtain ⟨v5, hv5, h⟩ := Option.bind_eq_some_iff.mp h
      refine E_ldI 36 rfl dX12_allTitles_35 shc_158 hv5 ?_
      refine E_i2l 37 rfl dX12_allTitles_36 ?_
      refine E_ladd 38 rfl dX12_allTitles_37 ?_
      refine E_lstore_n (lv' := [(2, .long (x2 + v5.toInt64)), (0, .ref 149), (1, .int x1), (4, .int x4)]) 39 rfl dX12_allTitles_38 rfl (Nat.le_of_ble_eq_true rfl) rfl ?_
      refine E_iinc (j := 3) (v := x4 + 1) (lv' := [(4, .int (x4 + 1)), (2, .long (x2 + v5.toInt64)), (0, .ref 149), (1, .int x1)]) 42 rfl dX12_allTitles_39 rfl rfl (Nat.le_of_ble_eq_true rfl) rfl ?_
      refine E_goto 5 (by decide) dX12_allTitles_42 ?_
      refine E_sub (lv' := [(0, .ref 149), (1, .int x1), (2, .long (x2 + v5.toInt64)), (4, .int (x4 + 1))]) [2, 3, 1, 0] rfl ?_
      exact ih x1 (x2 + v5.toInt64) (x4 + 1) I4 w3.2.2 _ h
def f_X12_allTitles (x1 : Int32) (I : MI) (L : ML) : Option (Int64 × MI × ML) := f_X12_allTitles_5 FU x1 0 0 I L
set_option maxRecDepth 100000 in
theorem S_X12_allTitles {g : Gx} (x1 : Int32) (I : MI) (L : ML) (res : Int64 × MI × ML) (h : f_X12_allTitles x1 I L = some res) : E g 9 0 mX12_allTitles 0 [(0, .ref 149), (1, .int x1)] [] (I, L) (.inl (some (.long res.1))) (res.2.1, res.2.2) := by
  unfold f_X12_allTitles at h
  refine E_lconst (v := 0) 1 rfl dX12_allTitles_0 (by decide) ?_
  refine E_lstore_n (lv' := [(2, .long 0), (0, .ref 149), (1, .int x1)]) 2 rfl dX12_allTitles_1 rfl (Nat.le_of_ble_eq_true rfl) rfl ?_
  refine E_iconst (v := 0) 3 rfl dX12_allTitles_2 (by decide) ?_
  refine E_istore (lv' := [(4, .int 0), (2, .long 0), (0, .ref 149), (1, .int x1)]) 5 rfl dX12_allTitles_3 (Nat.le_of_ble_eq_true rfl) rfl ?_
  refine E_sub (lv' := [(0, .ref 149), (1, .int x1), (2, .long 0), (4, .int 0)]) [2, 3, 1, 0] rfl ?_
  exact S_X12_allTitles_5 FU x1 0 0 I L _ h
theorem C_X12_allTitles {g : Gx} {x1 : Int32} {I : MI} {L : ML} {res : Int64 × MI × ML} (h : f_X12_allTitles x1 I L = some res) : Ent g 9 0 mX12_allTitles [.ref 149, .int x1] (I, L) (.inl (some (.long res.1))) (res.2.1, res.2.2) := Ent_of (by decide +kernel) (Nat.le_of_ble_eq_true rfl) (S_X12_allTitles x1 I L _ h)
def f_X12_parts_184 (x6 : Int64) (I : MI) (L : ML) : Option (Int64 × MI × ML) := some (x6, I, L)
set_option maxRecDepth 100000 in
theorem S_X12_parts_184 {g : Gx} (x6 : Int64) (I : MI) (L : ML) (res : Int64 × MI × ML) (h : f_X12_parts_184 x6 I L = some res) : E g 10 0 mX12_parts 184 [(6, .long x6)] [] (I, L) (.inl (some (.long res.1))) (res.2.1, res.2.2) := by
  unfold f_X12_parts_184 at h
  refine E_lload 186 rfl dX12_parts_184 0 rfl ?_
  cases h
  exact E_lret rfl dX12_parts_186
def f_X12_parts_149 (k94 : Int64 → Int64 → Int32 → Int32 → Int32 → MI → ML → Option (Int64 × MI × ML)) (x4 : Int64) (x6 : Int64) (x8 : Int32) (x9 : Int32) (x10 : Int32) (I : MI) (L : ML) : Option (Int64 × MI × ML) := k94 x4 x6 x8 x9 (x10 + 1) I L
set_option maxRecDepth 100000 in
theorem S_X12_parts_149 {g : Gx} {k94 : Int64 → Int64 → Int32 → Int32 → Int32 → MI → ML → Option (Int64 × MI × ML)} (hk94 : ∀ (x4z : Int64) (x6z : Int64) (x8z : Int32) (x9z : Int32) (x10z : Int32) (I : MI) (L : ML) (res : Int64 × MI × ML), k94 x4z x6z x8z x9z x10z I L = some res → E g 10 0 mX12_parts 94 [(0, .ref 149), (4, .long x4z), (6, .long x6z), (8, .int x8z), (9, .int x9z), (10, .int x10z)] [] (I, L) (.inl (some (.long res.1))) (res.2.1, res.2.2)) (x4 : Int64) (x6 : Int64) (x8 : Int32) (x9 : Int32) (x10 : Int32) (I : MI) (L : ML) (res : Int64 × MI × ML) (h : f_X12_parts_149 k94 x4 x6 x8 x9 x10 I L = some res) : E g 10 0 mX12_parts 149 [(0, .ref 149), (4, .long x4), (6, .long x6), (8, .int x8), (9, .int x9), (10, .int x10)] [] (I, L) (.inl (some (.long res.1))) (res.2.1, res.2.2) := by
  unfold f_X12_parts_149 at h
  refine E_iinc (j := 5) (v := x10 + 1) (lv' := [(10, .int (x10 + 1)), (0, .ref 149), (4, .long x4), (6, .long x6), (8, .int x8), (9, .int x9)]) 152 rfl dX12_parts_149 rfl rfl (Nat.le_of_ble_eq_true rfl) rfl ?_
  refine E_goto 94 (by decide) dX12_parts_152 ?_
  refine E_sub (lv' := [(0, .ref 149), (4, .long x4), (6, .long x6), (8, .int x8), (9, .int x9), (10, .int (x10 + 1))]) [1, 2, 3, 4, 5, 0] rfl ?_
  exact hk94 x4 x6 x8 x9 (x10 + 1) I L _ h
def f_X12_parts_145 (k94 : Int64 → Int64 → Int32 → Int32 → Int32 → MI → ML → Option (Int64 × MI × ML)) (x4 : Int64) (x6 : Int64) (x8 : Int32) (x10 : Int32) (I : MI) (L : ML) : Option (Int64 × MI × ML) := f_X12_parts_149 k94 x4 x6 x8 x10 x10 I L
set_option maxRecDepth 100000 in
theorem S_X12_parts_145 {g : Gx} {k94 : Int64 → Int64 → Int32 → Int32 → Int32 → MI → ML → Option (Int64 × MI × ML)} (hk94 : ∀ (x4z : Int64) (x6z : Int64) (x8z : Int32) (x9z : Int32) (x10z : Int32) (I : MI) (L : ML) (res : Int64 × MI × ML), k94 x4z x6z x8z x9z x10z I L = some res → E g 10 0 mX12_parts 94 [(0, .ref 149), (4, .long x4z), (6, .long x6z), (8, .int x8z), (9, .int x9z), (10, .int x10z)] [] (I, L) (.inl (some (.long res.1))) (res.2.1, res.2.2)) (x4 : Int64) (x6 : Int64) (x8 : Int32) (x10 : Int32) (I : MI) (L : ML) (res : Int64 × MI × ML) (h : f_X12_parts_145 k94 x4 x6 x8 x10 I L = some res) : E g 10 0 mX12_parts 145 [(0, .ref 149), (4, .long x4), (6, .long x6), (8, .int x8), (10, .int x10)] [] (I, L) (.inl (some (.long res.1))) (res.2.1, res.2.2) := by
  unfold f_X12_parts_145 at h
  refine E_iload 147 rfl dX12_parts_145 4 rfl ?_
  refine E_istore (lv' := [(9, .int x10), (0, .ref 149), (4, .long x4), (6, .long x6), (8, .int x8), (10, .int x10)]) 149 rfl dX12_parts_147 (Nat.le_of_ble_eq_true rfl) rfl ?_
  refine E_sub (lv' := [(0, .ref 149), (4, .long x4), (6, .long x6), (8, .int x8), (9, .int x10), (10, .int x10)]) [1, 2, 3, 4, 0, 5] rfl ?_
  exact S_X12_parts_149 hk94 x4 x6 x8 x10 x10 I L _ h
def f_X12_parts_94 (k74 : Int64 → Int64 → Int32 → MI → ML → Option (Int64 × MI × ML)) : Nat → Int64 → Int64 → Int32 → Int32 → Int32 → MI → ML → Option (Int64 × MI × ML)
  | 0, _, _, _, _, _, _, _ => none
  | n + 1, x4, x6, x8, x9, x10, I, L => Option.bind (f_X12_heirs I L) fun v1 => if v1 ≤ x10 then (Option.bind (ldL L 159 6 x9) fun v3 => Option.bind (stL L 159 6 x9 (v3 + 1)) fun L4 => k74 x4 (x6 - 1) (x8 ||| (1 <<< (x9 &&& 31))) I L4) else (Option.bind (f_X12_has x8 x10 I L) fun v5 => if v5 = true then (f_X12_parts_149 (f_X12_parts_94 k74 n) x4 x6 x8 x9 x10 I L) else (Option.bind (ldI I 158 6 x10) fun v7 => if v7 ≤ 0 then (f_X12_parts_149 (f_X12_parts_94 k74 n) x4 x6 x8 x9 x10 I L) else (if x9 < 0 then (f_X12_parts_145 (f_X12_parts_94 k74 n) x4 x6 x8 x10 I L) else (Option.bind (ldI I 158 6 x10) fun v10 => Option.bind (ldI I 158 6 x9) fun v11 => if v10 ≤ v11 then (f_X12_parts_149 (f_X12_parts_94 k74 n) x4 x6 x8 x9 x10 I L) else (f_X12_parts_145 (f_X12_parts_94 k74 n) x4 x6 x8 x10 I L)))))
set_option maxRecDepth 100000 in
theorem S_X12_parts_94 {g : Gx} {k74 : Int64 → Int64 → Int32 → MI → ML → Option (Int64 × MI × ML)} (hk74 : ∀ (x4z : Int64) (x6z : Int64) (x8z : Int32) (I : MI) (L : ML) (res : Int64 × MI × ML), k74 x4z x6z x8z I L = some res → E g 10 0 mX12_parts 74 [(0, .ref 149), (4, .long x4z), (6, .long x6z), (8, .int x8z)] [] (I, L) (.inl (some (.long res.1))) (res.2.1, res.2.2)) : ∀ (n : Nat) (x4 : Int64) (x6 : Int64) (x8 : Int32) (x9 : Int32) (x10 : Int32) (I : MI) (L : ML) (res : Int64 × MI × ML), f_X12_parts_94 k74 n x4 x6 x8 x9 x10 I L = some res → E g 10 0 mX12_parts 94 [(0, .ref 149), (4, .long x4), (6, .long x6), (8, .int x8), (9, .int x9), (10, .int x10)] [] (I, L) (.inl (some (.long res.1))) (res.2.1, res.2.2) := by
  intro n
  induction n with
  | zero =>
    intros
    rename_i h
    cases h
  | succ n ih =>
    intro x4 x6 x8 x9 x10 I L res h
    rw [f_X12_parts_94] at h
    refine E_iload 96 rfl dX12_parts_94 5 rfl ?_
    refine E_aload_n 97 rfl dX12_parts_96 rfl 0 rfl ?_
    obtain ⟨v1, hv1, h⟩ := Option.bind_eq_some_iff.mp h
    refine E_cV1 (As := []) 100 rfl dX12_parts_97 shc_149 ck_X12_64 cv_X12_heirs rfl (by decide) (Nat.le_of_ble_eq_true rfl) (C_X12_heirs (g := g) hv1) rfl ?_
    refine E_icmp_ge 155 103 (by decide) rfl dX12_parts_100 (fun c2 => ?_) (fun c2 => ?_)
    · rw [if_pos c2] at h
      refine E_iload 157 rfl dX12_parts_155 3 rfl ?_
      refine E_iconst (v := 1) 158 rfl dX12_parts_157 (by decide) ?_
      refine E_iload 160 rfl dX12_parts_158 4 rfl ?_
      refine E_ishl 161 rfl dX12_parts_160 ?_
      refine E_ior 162 rfl dX12_parts_161 ?_
      refine E_istore (lv' := [(8, .int (x8 ||| (1 <<< (x9 &&& 31)))), (0, .ref 149), (4, .long x4), (6, .long x6), (9, .int x9), (10, .int x10)]) 164 rfl dX12_parts_162 (Nat.le_of_ble_eq_true rfl) rfl ?_
      refine E_aload_n 165 rfl dX12_parts_164 rfl 1 rfl ?_
      refine E_gR 159 168 rfl dX12_parts_165 shc_149 fl_X12_45 rfl (by decide) (by decide) ?_
      refine E_iload 170 rfl dX12_parts_168 4 rfl ?_
      refine E_dup2 171 rfl dX12_parts_170 rfl rfl ?_
      obtain ⟨v3, hv3, h⟩ := Option.bind_eq_some_iff.mp h
      refine E_ldL 172 rfl dX12_parts_171 shc_159 hv3 ?_
      refine E_lconst (v := 1) 173 rfl dX12_parts_172 (by decide) ?_
      refine E_ladd 174 rfl dX12_parts_173 ?_
      obtain ⟨L4, hL4, h⟩ := Option.bind_eq_some_iff.mp h
      refine E_stL 175 rfl dX12_parts_174 shc_159 hL4 ?_
      refine E_lload 177 rfl dX12_parts_175 3 rfl ?_
      refine E_lconst (v := 1) 178 rfl dX12_parts_177 (by decide) ?_
      refine E_lsub 179 rfl dX12_parts_178 ?_
      refine E_lstore (lv' := [(6, .long (x6 - 1)), (8, .int (x8 ||| (1 <<< (x9 &&& 31)))), (0, .ref 149), (4, .long x4), (9, .int x9), (10, .int x10)]) 181 rfl dX12_parts_179 (Nat.le_of_ble_eq_true rfl) rfl ?_
      refine E_goto 74 (by decide) dX12_parts_181 ?_
      refine E_sub (lv' := [(0, .ref 149), (4, .long x4), (6, .long (x6 - 1)), (8, .int (x8 ||| (1 <<< (x9 &&& 31))))]) [2, 3, 0, 1] rfl ?_
      exact hk74 x4 (x6 - 1) (x8 ||| (1 <<< (x9 &&& 31))) I L4 _ h
    · rw [if_neg c2] at h
      refine E_iload 105 rfl dX12_parts_103 3 rfl ?_
      refine E_iload 107 rfl dX12_parts_105 5 rfl ?_
      obtain ⟨v5, hv5, h⟩ := Option.bind_eq_some_iff.mp h
      refine E_cS1 (As := [.int x8, .int x10]) 110 rfl dX12_parts_107 ck_X12_289 ss_X12_has rfl (by decide) (Nat.le_of_ble_eq_true rfl) (C_X12_has (g := g) hv5) rfl ?_
      refine E_if_neB 149 113 (by decide) rfl dX12_parts_110 (fun c6 => ?_) (fun c6 => ?_)
      · rw [if_pos c6] at h
        refine E_sub (lv' := [(0, .ref 149), (4, .long x4), (6, .long x6), (8, .int x8), (9, .int x9), (10, .int x10)]) [0, 1, 2, 3, 4, 5] rfl ?_
        exact S_X12_parts_149 ih x4 x6 x8 x9 x10 I L _ h
      · rw [if_neg (by rw [c6]; decide)] at h
        refine E_aload_n 114 rfl dX12_parts_113 rfl 0 rfl ?_
        refine E_gR 158 117 rfl dX12_parts_114 shc_149 fl_X12_42 rfl (by decide) (by decide) ?_
        refine E_iload 119 rfl dX12_parts_117 5 rfl ?_
        obtain ⟨v7, hv7, h⟩ := Option.bind_eq_some_iff.mp h
        refine E_ldI 120 rfl dX12_parts_119 shc_158 hv7 ?_
        refine E_if_le 149 123 (by decide) rfl dX12_parts_120 (fun c8 => ?_) (fun c8 => ?_)
        · rw [if_pos c8] at h
          refine E_sub (lv' := [(0, .ref 149), (4, .long x4), (6, .long x6), (8, .int x8), (9, .int x9), (10, .int x10)]) [0, 1, 2, 3, 4, 5] rfl ?_
          exact S_X12_parts_149 ih x4 x6 x8 x9 x10 I L _ h
        · rw [if_neg c8] at h
          refine E_iload 125 rfl dX12_parts_123 4 rfl ?_
          refine E_if_lt 145 128 (by decide) rfl dX12_parts_125 (fun c9 => ?_) (fun c9 => ?_)
          · rw [if_pos c9] at h
            refine E_sub (lv' := [(0, .ref 149), (4, .long x4), (6, .long x6), (8, .int x8), (10, .int x10)]) [0, 1, 2, 3, 5] rfl ?_
            exact S_X12_parts_145 ih x4 x6 x8 x10 I L _ h
          · rw [if_neg c9] at h
            refine E_aload_n 129 rfl dX12_parts_128 rfl 0 rfl ?_
            refine E_gR 158 132 rfl dX12_parts_129 shc_149 fl_X12_42 rfl (by decide) (by decide) ?_
            refine E_iload 134 rfl dX12_parts_132 5 rfl ?_
            obtain ⟨v10, hv10, h⟩ := Option.bind_eq_some_iff.mp h
            refine E_ldI 135 rfl dX12_parts_134 shc_158 hv10 ?_
            refine E_aload_n 136 rfl dX12_parts_135 rfl 0 rfl ?_
            refine E_gR 158 139 rfl dX12_parts_136 shc_149 fl_X12_42 rfl (by decide) (by decide) ?_
            refine E_iload 141 rfl dX12_parts_139 4 rfl ?_
            obtain ⟨v11, hv11, h⟩ := Option.bind_eq_some_iff.mp h
            refine E_ldI 142 rfl dX12_parts_141 shc_158 hv11 ?_
            refine E_icmp_le 149 145 (by decide) rfl dX12_parts_142 (fun c12 => ?_) (fun c12 => ?_)
            · rw [if_pos c12] at h
              refine E_sub (lv' := [(0, .ref 149), (4, .long x4), (6, .long x6), (8, .int x8), (9, .int x9), (10, .int x10)]) [0, 1, 2, 3, 4, 5] rfl ?_
              exact S_X12_parts_149 ih x4 x6 x8 x9 x10 I L _ h
            · rw [if_neg c12] at h
              refine E_sub (lv' := [(0, .ref 149), (4, .long x4), (6, .long x6), (8, .int x8), (10, .int x10)]) [0, 1, 2, 3, 5] rfl ?_
              exact S_X12_parts_145 ih x4 x6 x8 x10 I L _ h
def f_X12_parts_74 : Nat → Int64 → Int64 → Int32 → MI → ML → Option (Int64 × MI × ML)
  | 0, _, _, _, _, _ => none
  | n + 1, x4, x6, x8, I, L => if x6 ≤ 0 then (f_X12_parts_184 x6 I L) else (if x4 ≤ 0 then (f_X12_parts_184 x6 I L) else (f_X12_parts_94 (f_X12_parts_74 n) FU x4 x6 x8 ((-1)) 0 I L))
set_option maxRecDepth 100000 in
theorem S_X12_parts_74 {g : Gx} : ∀ (n : Nat) (x4 : Int64) (x6 : Int64) (x8 : Int32) (I : MI) (L : ML) (res : Int64 × MI × ML), f_X12_parts_74 n x4 x6 x8 I L = some res → E g 10 0 mX12_parts 74 [(0, .ref 149), (4, .long x4), (6, .long x6), (8, .int x8)] [] (I, L) (.inl (some (.long res.1))) (res.2.1, res.2.2) := by
  intro n
  induction n with
  | zero =>
    intros
    rename_i h
    cases h
  | succ n ih =>
    intro x4 x6 x8 I L res h
    rw [f_X12_parts_74] at h
    refine E_lload 76 rfl dX12_parts_74 2 rfl ?_
    refine E_lconst (v := 0) 77 rfl dX12_parts_76 (by decide) ?_
    refine E_lc_le 184 78 81 (by decide) rfl rfl dX12_parts_77 dX12_parts_78 (fun c1 => ?_) (fun c1 => ?_)
    · rw [if_pos c1] at h
      refine E_sub (lv' := [(6, .long x6)]) [2] rfl ?_
      exact S_X12_parts_184 x6 I L _ h
    · rw [if_neg c1] at h
      refine E_lload 83 rfl dX12_parts_81 1 rfl ?_
      refine E_lconst (v := 0) 84 rfl dX12_parts_83 (by decide) ?_
      refine E_lc_le 184 85 88 (by decide) rfl rfl dX12_parts_84 dX12_parts_85 (fun c2 => ?_) (fun c2 => ?_)
      · rw [if_pos c2] at h
        refine E_sub (lv' := [(6, .long x6)]) [2] rfl ?_
        exact S_X12_parts_184 x6 I L _ h
      · rw [if_neg c2] at h
        refine E_iconst (v := (-1)) 89 rfl dX12_parts_88 (by decide) ?_
        refine E_istore (lv' := [(9, .int ((-1))), (0, .ref 149), (4, .long x4), (6, .long x6), (8, .int x8)]) 91 rfl dX12_parts_89 (Nat.le_of_ble_eq_true rfl) rfl ?_
        refine E_iconst (v := 0) 92 rfl dX12_parts_91 (by decide) ?_
        refine E_istore (lv' := [(10, .int 0), (9, .int ((-1))), (0, .ref 149), (4, .long x4), (6, .long x6), (8, .int x8)]) 94 rfl dX12_parts_92 (Nat.le_of_ble_eq_true rfl) rfl ?_
        refine E_sub (lv' := [(0, .ref 149), (4, .long x4), (6, .long x6), (8, .int x8), (9, .int ((-1))), (10, .int 0)]) [2, 3, 4, 5, 1, 0] rfl ?_
        exact S_X12_parts_94 ih FU x4 x6 x8 ((-1)) 0 I L _ h
def f_X12_parts_52 (k13 : Int64 → Int64 → Int64 → Int32 → MI → ML → Option (Int64 × MI × ML)) (x2 : Int64) (x4 : Int64) (x6 : Int64) (x8 : Int32) (y1 : Int32) (y2 : Int64) (I : MI) (L : ML) : Option (Int64 × MI × ML) := Option.bind (stL L 159 6 y1 y2) fun L1 => Option.bind (ldL L1 159 6 x8) fun v2 => k13 x2 x4 (x6 - v2) (x8 + 1) I L1
set_option maxRecDepth 100000 in
theorem S_X12_parts_52 {g : Gx} {k13 : Int64 → Int64 → Int64 → Int32 → MI → ML → Option (Int64 × MI × ML)} (hk13 : ∀ (x2z : Int64) (x4z : Int64) (x6z : Int64) (x8z : Int32) (I : MI) (L : ML) (res : Int64 × MI × ML), k13 x2z x4z x6z x8z I L = some res → E g 10 0 mX12_parts 13 [(0, .ref 149), (2, .long x2z), (4, .long x4z), (6, .long x6z), (8, .int x8z)] [] (I, L) (.inl (some (.long res.1))) (res.2.1, res.2.2)) (x2 : Int64) (x4 : Int64) (x6 : Int64) (x8 : Int32) (y1 : Int32) (y2 : Int64) (I : MI) (L : ML) (res : Int64 × MI × ML) (h : f_X12_parts_52 k13 x2 x4 x6 x8 y1 y2 I L = some res) : E g 10 0 mX12_parts 52 [(0, .ref 149), (2, .long x2), (4, .long x4), (6, .long x6), (8, .int x8)] [.long y2, .int y1, .ref 159] (I, L) (.inl (some (.long res.1))) (res.2.1, res.2.2) := by
  unfold f_X12_parts_52 at h
  obtain ⟨L1, hL1, h⟩ := Option.bind_eq_some_iff.mp h
  refine E_stL 53 rfl dX12_parts_52 shc_159 hL1 ?_
  refine E_lload 55 rfl dX12_parts_53 3 rfl ?_
  refine E_aload_n 56 rfl dX12_parts_55 rfl 0 rfl ?_
  refine E_gR 159 59 rfl dX12_parts_56 shc_149 fl_X12_45 rfl (by decide) (by decide) ?_
  refine E_iload 61 rfl dX12_parts_59 4 rfl ?_
  obtain ⟨v2, hv2, h⟩ := Option.bind_eq_some_iff.mp h
  refine E_ldL 62 rfl dX12_parts_61 shc_159 hv2 ?_
  refine E_lsub 63 rfl dX12_parts_62 ?_
  refine E_lstore (lv' := [(6, .long (x6 - v2)), (0, .ref 149), (2, .long x2), (4, .long x4), (8, .int x8)]) 65 rfl dX12_parts_63 (Nat.le_of_ble_eq_true rfl) rfl ?_
  refine E_iinc (j := 4) (v := x8 + 1) (lv' := [(8, .int (x8 + 1)), (6, .long (x6 - v2)), (0, .ref 149), (2, .long x2), (4, .long x4)]) 68 rfl dX12_parts_65 rfl rfl (Nat.le_of_ble_eq_true rfl) rfl ?_
  refine E_goto 13 (by decide) dX12_parts_68 ?_
  refine E_sub (lv' := [(0, .ref 149), (2, .long x2), (4, .long x4), (6, .long (x6 - v2)), (8, .int (x8 + 1))]) [2, 3, 4, 1, 0] rfl ?_
  exact hk13 x2 x4 (x6 - v2) (x8 + 1) I L1 _ h
def f_X12_parts_13 : Nat → Int64 → Int64 → Int64 → Int32 → MI → ML → Option (Int64 × MI × ML)
  | 0, _, _, _, _, _, _ => none
  | n + 1, x2, x4, x6, x8, I, L => Option.bind (f_X12_heirs I L) fun v1 => if v1 ≤ x8 then (f_X12_parts_74 FU x4 x6 0 I L) else (if x4 = 0 then (f_X12_parts_52 (f_X12_parts_13 n) x2 x4 x6 x8 x8 0 I L) else (Option.bind (ldI I 158 6 x8) fun v4 => Option.bind (dvL (x2 * v4.toInt64) x4) fun v5 => f_X12_parts_52 (f_X12_parts_13 n) x2 x4 x6 x8 x8 v5 I L))
set_option maxRecDepth 100000 in
theorem S_X12_parts_13 {g : Gx} : ∀ (n : Nat) (x2 : Int64) (x4 : Int64) (x6 : Int64) (x8 : Int32) (I : MI) (L : ML) (res : Int64 × MI × ML), f_X12_parts_13 n x2 x4 x6 x8 I L = some res → E g 10 0 mX12_parts 13 [(0, .ref 149), (2, .long x2), (4, .long x4), (6, .long x6), (8, .int x8)] [] (I, L) (.inl (some (.long res.1))) (res.2.1, res.2.2) := by
  intro n
  induction n with
  | zero =>
    intros
    rename_i h
    cases h
  | succ n ih =>
    intro x2 x4 x6 x8 I L res h
    rw [f_X12_parts_13] at h
    refine E_iload 15 rfl dX12_parts_13 4 rfl ?_
    refine E_aload_n 16 rfl dX12_parts_15 rfl 0 rfl ?_
    obtain ⟨v1, hv1, h⟩ := Option.bind_eq_some_iff.mp h
    refine E_cV1 (As := []) 19 rfl dX12_parts_16 shc_149 ck_X12_64 cv_X12_heirs rfl (by decide) (Nat.le_of_ble_eq_true rfl) (C_X12_heirs (g := g) hv1) rfl ?_
    refine E_icmp_ge 71 22 (by decide) rfl dX12_parts_19 (fun c2 => ?_) (fun c2 => ?_)
    · rw [if_pos c2] at h
      refine E_iconst (v := 0) 72 rfl dX12_parts_71 (by decide) ?_
      refine E_istore (lv' := [(8, .int 0), (0, .ref 149), (2, .long x2), (4, .long x4), (6, .long x6)]) 74 rfl dX12_parts_72 (Nat.le_of_ble_eq_true rfl) rfl ?_
      refine E_sub (lv' := [(0, .ref 149), (4, .long x4), (6, .long x6), (8, .int 0)]) [1, 3, 4, 0] rfl ?_
      exact S_X12_parts_74 FU x4 x6 0 I L _ h
    · rw [if_neg c2] at h
      refine E_aload_n 23 rfl dX12_parts_22 rfl 0 rfl ?_
      refine E_gR 159 26 rfl dX12_parts_23 shc_149 fl_X12_45 rfl (by decide) (by decide) ?_
      refine E_iload 28 rfl dX12_parts_26 4 rfl ?_
      refine E_lload 30 rfl dX12_parts_28 2 rfl ?_
      refine E_lconst (v := 0) 31 rfl dX12_parts_30 (by decide) ?_
      refine E_lc_ne 39 32 35 (by decide) rfl rfl dX12_parts_31 dX12_parts_32 (fun c3 => ?_) (fun c3 => ?_)
      · rw [if_neg c3] at h
        refine E_lload_n 40 rfl dX12_parts_39 rfl 1 rfl ?_
        refine E_aload_n 41 rfl dX12_parts_40 rfl 0 rfl ?_
        refine E_gR 158 44 rfl dX12_parts_41 shc_149 fl_X12_42 rfl (by decide) (by decide) ?_
        refine E_iload 46 rfl dX12_parts_44 4 rfl ?_
        obtain ⟨v4, hv4, h⟩ := Option.bind_eq_some_iff.mp h
        refine E_ldI 47 rfl dX12_parts_46 shc_158 hv4 ?_
        refine E_i2l 48 rfl dX12_parts_47 ?_
        refine E_lmul 49 rfl dX12_parts_48 ?_
        refine E_lload 51 rfl dX12_parts_49 2 rfl ?_
        obtain ⟨v5, hv5, h⟩ := Option.bind_eq_some_iff.mp h
        refine E_dvL 52 rfl dX12_parts_51 hv5 ?_
        refine E_sub (lv' := [(0, .ref 149), (2, .long x2), (4, .long x4), (6, .long x6), (8, .int x8)]) [0, 1, 2, 3, 4] rfl ?_
        exact S_X12_parts_52 ih x2 x4 x6 x8 x8 v5 I L _ h
      · rw [if_pos c3] at h
        refine E_lconst (v := 0) 36 rfl dX12_parts_35 (by decide) ?_
        refine E_goto 52 (by decide) dX12_parts_36 ?_
        refine E_sub (lv' := [(0, .ref 149), (2, .long x2), (4, .long x4), (6, .long x6), (8, .int x8)]) [0, 1, 2, 3, 4] rfl ?_
        exact S_X12_parts_52 ih x2 x4 x6 x8 x8 0 I L _ h
def f_X12_parts (x1 : Int32) (x2 : Int64) (I : MI) (L : ML) : Option (Int64 × MI × ML) := Option.bind (f_X12_allTitles x1 I L) fun w1 => f_X12_parts_13 FU x2 w1.1 x2 0 w1.2.1 w1.2.2
set_option maxRecDepth 100000 in
theorem S_X12_parts {g : Gx} (x1 : Int32) (x2 : Int64) (I : MI) (L : ML) (res : Int64 × MI × ML) (h : f_X12_parts x1 x2 I L = some res) : E g 10 0 mX12_parts 0 [(0, .ref 149), (1, .int x1), (2, .long x2)] [] (I, L) (.inl (some (.long res.1))) (res.2.1, res.2.2) := by
  unfold f_X12_parts at h
  refine E_aload_n 1 rfl dX12_parts_0 rfl 0 rfl ?_
  refine E_iload_n 2 rfl dX12_parts_1 rfl 1 rfl ?_
  obtain ⟨w1, hw1, h⟩ := Option.bind_eq_some_iff.mp h
  refine E_cV1 (As := [.int x1]) 5 rfl dX12_parts_2 shc_149 ck_X12_285 cv_X12_allTitles rfl (by decide) (Nat.le_of_ble_eq_true rfl) (C_X12_allTitles (g := g) hw1) rfl ?_
  refine E_lstore (lv' := [(4, .long w1.1), (0, .ref 149), (1, .int x1), (2, .long x2)]) 7 rfl dX12_parts_5 (Nat.le_of_ble_eq_true rfl) rfl ?_
  refine E_lload_n 8 rfl dX12_parts_7 rfl 3 rfl ?_
  refine E_lstore (lv' := [(6, .long x2), (4, .long w1.1), (0, .ref 149), (1, .int x1), (2, .long x2)]) 10 rfl dX12_parts_8 (Nat.le_of_ble_eq_true rfl) rfl ?_
  refine E_iconst (v := 0) 11 rfl dX12_parts_10 (by decide) ?_
  refine E_istore (lv' := [(8, .int 0), (6, .long x2), (4, .long w1.1), (0, .ref 149), (1, .int x1), (2, .long x2)]) 13 rfl dX12_parts_11 (Nat.le_of_ble_eq_true rfl) rfl ?_
  refine E_sub (lv' := [(0, .ref 149), (2, .long x2), (4, .long w1.1), (6, .long x2), (8, .int 0)]) [3, 5, 2, 1, 0] rfl ?_
  exact S_X12_parts_13 FU x2 w1.1 x2 0 w1.2.1 w1.2.2 _ h
theorem C_X12_parts {g : Gx} {x1 : Int32} {x2 : Int64} {I : MI} {L : ML} {res : Int64 × MI × ML} (h : f_X12_parts x1 x2 I L = some res) : Ent g 10 0 mX12_parts [.ref 149, .int x1, .long x2] (I, L) (.inl (some (.long res.1))) (res.2.1, res.2.2) := Ent_of (by decide +kernel) (Nat.le_of_ble_eq_true rfl) (S_X12_parts x1 x2 I L _ h)
def f_X12_loudAt_39 (k9 : Int32 → Int32 → Int32 → Int32 → MI → ML → Option (Int32 × MI × ML)) (x1 : Int32) (x2 : Int32) (x4 : Int32) (y0 : Int32) (y1 : Int32) (I : MI) (L : ML) : Option (Int32 × MI × ML) := k9 x1 x2 (y0 + y1) (x4 + 1) I L
set_option maxRecDepth 100000 in
theorem S_X12_loudAt_39 {g : Gx} {k9 : Int32 → Int32 → Int32 → Int32 → MI → ML → Option (Int32 × MI × ML)} (hk9 : ∀ (x1z : Int32) (x2z : Int32) (x3z : Int32) (x4z : Int32) (I : MI) (L : ML) (res : Int32 × MI × ML), k9 x1z x2z x3z x4z I L = some res → E g 5 0 mX12_loudAt 9 [(0, .ref 149), (1, .int x1z), (2, .int x2z), (3, .int x3z), (4, .int x4z)] [] (I, L) (.inl (some (.int res.1))) (res.2.1, res.2.2)) (x1 : Int32) (x2 : Int32) (x4 : Int32) (y0 : Int32) (y1 : Int32) (I : MI) (L : ML) (res : Int32 × MI × ML) (h : f_X12_loudAt_39 k9 x1 x2 x4 y0 y1 I L = some res) : E g 5 0 mX12_loudAt 39 [(0, .ref 149), (1, .int x1), (2, .int x2), (4, .int x4)] [.int y1, .int y0] (I, L) (.inl (some (.int res.1))) (res.2.1, res.2.2) := by
  unfold f_X12_loudAt_39 at h
  refine E_iadd 40 rfl dX12_loudAt_39 ?_
  refine E_istore_n (lv' := [(3, .int (y0 + y1)), (0, .ref 149), (1, .int x1), (2, .int x2), (4, .int x4)]) 41 rfl dX12_loudAt_40 rfl (Nat.le_of_ble_eq_true rfl) rfl ?_
  refine E_iinc (j := 4) (v := x4 + 1) (lv' := [(4, .int (x4 + 1)), (3, .int (y0 + y1)), (0, .ref 149), (1, .int x1), (2, .int x2)]) 44 rfl dX12_loudAt_41 rfl rfl (Nat.le_of_ble_eq_true rfl) rfl ?_
  refine E_goto 9 (by decide) dX12_loudAt_44 ?_
  refine E_sub (lv' := [(0, .ref 149), (1, .int x1), (2, .int x2), (3, .int (y0 + y1)), (4, .int (x4 + 1))]) [2, 3, 4, 1, 0] rfl ?_
  exact hk9 x1 x2 (y0 + y1) (x4 + 1) I L _ h
def f_X12_loudAt_9 : Nat → Int32 → Int32 → Int32 → Int32 → MI → ML → Option (Int32 × MI × ML)
  | 0, _, _, _, _, _, _ => none
  | n + 1, x1, x2, x3, x4, I, L => Option.bind (f_X12_noises I L) fun v1 => if v1 ≤ x4 then (some (x3, I, L)) else (Option.bind (f_X12_has x2 x4 I L) fun v3 => if v3 = true then (f_X12_loudAt_39 (f_X12_loudAt_9 n) x1 x2 x4 x3 0 I L) else (Option.bind (f_X12_atOf x4 x1 I L) fun v5 => f_X12_loudAt_39 (f_X12_loudAt_9 n) x1 x2 x4 x3 v5 I L))
set_option maxRecDepth 100000 in
theorem S_X12_loudAt_9 {g : Gx} : ∀ (n : Nat) (x1 : Int32) (x2 : Int32) (x3 : Int32) (x4 : Int32) (I : MI) (L : ML) (res : Int32 × MI × ML), f_X12_loudAt_9 n x1 x2 x3 x4 I L = some res → E g 5 0 mX12_loudAt 9 [(0, .ref 149), (1, .int x1), (2, .int x2), (3, .int x3), (4, .int x4)] [] (I, L) (.inl (some (.int res.1))) (res.2.1, res.2.2) := by
  intro n
  induction n with
  | zero =>
    intros
    rename_i h
    cases h
  | succ n ih =>
    intro x1 x2 x3 x4 I L res h
    rw [f_X12_loudAt_9] at h
    refine E_iload 11 rfl dX12_loudAt_9 4 rfl ?_
    refine E_aload_n 12 rfl dX12_loudAt_11 rfl 0 rfl ?_
    obtain ⟨v1, hv1, h⟩ := Option.bind_eq_some_iff.mp h
    refine E_cV1 (As := []) 15 rfl dX12_loudAt_12 shc_149 ck_X12_67 cv_X12_noises rfl (by decide) (Nat.le_of_ble_eq_true rfl) (C_X12_noises (g := g) hv1) rfl ?_
    refine E_icmp_ge 47 18 (by decide) rfl dX12_loudAt_15 (fun c2 => ?_) (fun c2 => ?_)
    · rw [if_pos c2] at h
      refine E_iload_n 48 rfl dX12_loudAt_47 rfl 3 rfl ?_
      cases h
      exact E_iret rfl dX12_loudAt_48
    · rw [if_neg c2] at h
      refine E_iload_n 19 rfl dX12_loudAt_18 rfl 3 rfl ?_
      refine E_iload_n 20 rfl dX12_loudAt_19 rfl 2 rfl ?_
      refine E_iload 22 rfl dX12_loudAt_20 4 rfl ?_
      obtain ⟨v3, hv3, h⟩ := Option.bind_eq_some_iff.mp h
      refine E_cS1 (As := [.int x2, .int x4]) 25 rfl dX12_loudAt_22 ck_X12_289 ss_X12_has rfl (by decide) (Nat.le_of_ble_eq_true rfl) (C_X12_has (g := g) hv3) rfl ?_
      refine E_if_eqB 32 28 (by decide) rfl dX12_loudAt_25 (fun c4 => ?_) (fun c4 => ?_)
      · rw [if_neg (by rw [c4]; decide)] at h
        refine E_aload_n 33 rfl dX12_loudAt_32 rfl 0 rfl ?_
        refine E_iload 35 rfl dX12_loudAt_33 4 rfl ?_
        refine E_iload_n 36 rfl dX12_loudAt_35 rfl 1 rfl ?_
        obtain ⟨v5, hv5, h⟩ := Option.bind_eq_some_iff.mp h
        refine E_cV1 (As := [.int x4, .int x1]) 39 rfl dX12_loudAt_36 shc_149 ck_X12_269 cv_X12_atOf rfl (by decide) (Nat.le_of_ble_eq_true rfl) (C_X12_atOf (g := g) hv5) rfl ?_
        refine E_sub (lv' := [(0, .ref 149), (1, .int x1), (2, .int x2), (4, .int x4)]) [0, 1, 2, 4] rfl ?_
        exact S_X12_loudAt_39 ih x1 x2 x4 x3 v5 I L _ h
      · rw [if_pos c4] at h
        refine E_iconst (v := 0) 29 rfl dX12_loudAt_28 (by decide) ?_
        refine E_goto 39 (by decide) dX12_loudAt_29 ?_
        refine E_sub (lv' := [(0, .ref 149), (1, .int x1), (2, .int x2), (4, .int x4)]) [0, 1, 2, 4] rfl ?_
        exact S_X12_loudAt_39 ih x1 x2 x4 x3 0 I L _ h
def f_X12_loudAt (x1 : Int32) (x2 : Int32) (I : MI) (L : ML) : Option (Int32 × MI × ML) := Option.bind (f_X12_spreads I L) fun w1 => f_X12_loudAt_9 FU x1 x2 0 0 w1.1 w1.2
set_option maxRecDepth 100000 in
theorem S_X12_loudAt {g : Gx} (x1 : Int32) (x2 : Int32) (I : MI) (L : ML) (res : Int32 × MI × ML) (h : f_X12_loudAt x1 x2 I L = some res) : E g 5 0 mX12_loudAt 0 [(0, .ref 149), (1, .int x1), (2, .int x2)] [] (I, L) (.inl (some (.int res.1))) (res.2.1, res.2.2) := by
  unfold f_X12_loudAt at h
  refine E_aload_n 1 rfl dX12_loudAt_0 rfl 0 rfl ?_
  obtain ⟨w1, hw1, h⟩ := Option.bind_eq_some_iff.mp h
  refine E_cV0 (As := []) 4 rfl dX12_loudAt_1 shc_149 ck_X12_298 cv_X12_spreads rfl (by decide) (Nat.le_of_ble_eq_true rfl) (C_X12_spreads (g := g) hw1) rfl ?_
  refine E_iconst (v := 0) 5 rfl dX12_loudAt_4 (by decide) ?_
  refine E_istore_n (lv' := [(3, .int 0), (0, .ref 149), (1, .int x1), (2, .int x2)]) 6 rfl dX12_loudAt_5 rfl (Nat.le_of_ble_eq_true rfl) rfl ?_
  refine E_iconst (v := 0) 7 rfl dX12_loudAt_6 (by decide) ?_
  refine E_istore (lv' := [(4, .int 0), (3, .int 0), (0, .ref 149), (1, .int x1), (2, .int x2)]) 9 rfl dX12_loudAt_7 (Nat.le_of_ble_eq_true rfl) rfl ?_
  refine E_sub (lv' := [(0, .ref 149), (1, .int x1), (2, .int x2), (3, .int 0), (4, .int 0)]) [2, 3, 4, 1, 0] rfl ?_
  exact S_X12_loudAt_9 FU x1 x2 0 0 w1.1 w1.2 _ h
theorem C_X12_loudAt {g : Gx} {x1 : Int32} {x2 : Int32} {I : MI} {L : ML} {res : Int32 × MI × ML} (h : f_X12_loudAt x1 x2 I L = some res) : Ent g 5 0 mX12_loudAt [.ref 149, .int x1, .int x2] (I, L) (.inl (some (.int res.1))) (res.2.1, res.2.2) := Ent_of (by decide +kernel) (Nat.le_of_ble_eq_true rfl) (S_X12_loudAt x1 x2 I L _ h)
def f_X12_room_167 (x3 : Int32) (I : MI) (L : ML) : Option (Int32 × MI × ML) := some (x3, I, L)
set_option maxRecDepth 100000 in
theorem S_X12_room_167 {g : Gx} (x3 : Int32) (I : MI) (L : ML) (res : Int32 × MI × ML) (h : f_X12_room_167 x3 I L = some res) : E g 6 0 mX12_room 167 [(3, .int x3)] [] (I, L) (.inl (some (.int res.1))) (res.2.1, res.2.2) := by
  unfold f_X12_room_167 at h
  refine E_iload_n 168 rfl dX12_room_167 rfl 0 rfl ?_
  cases h
  exact E_iret rfl dX12_room_168
def f_X12_room_155 (x1 : Int32) (x2 : Int32) (x3 : Int32) (I : MI) (L : ML) : Option (Int32 × MI × ML) := if x2 = 3 then (Option.bind (f_X12_loudAt x1 0 I L) fun w2 => f_X12_room_167 w2.1 w2.2.1 w2.2.2) else (f_X12_room_167 x3 I L)
set_option maxRecDepth 100000 in
theorem S_X12_room_155 {g : Gx} (x1 : Int32) (x2 : Int32) (x3 : Int32) (I : MI) (L : ML) (res : Int32 × MI × ML) (h : f_X12_room_155 x1 x2 x3 I L = some res) : E g 6 0 mX12_room 155 [(0, .ref 149), (1, .int x1), (2, .int x2), (3, .int x3)] [] (I, L) (.inl (some (.int res.1))) (res.2.1, res.2.2) := by
  unfold f_X12_room_155 at h
  refine E_iload_n 156 rfl dX12_room_155 rfl 2 rfl ?_
  refine E_iconst (v := 3) 157 rfl dX12_room_156 (by decide) ?_
  refine E_icmp_ne 167 160 (by decide) rfl dX12_room_157 (fun c1 => ?_) (fun c1 => ?_)
  · rw [if_neg c1] at h
    refine E_sub (lv' := [(3, .int x3)]) [3] rfl ?_
    exact S_X12_room_167 x3 I L _ h
  · rw [if_pos c1] at h
    refine E_aload_n 161 rfl dX12_room_160 rfl 0 rfl ?_
    refine E_iload_n 162 rfl dX12_room_161 rfl 1 rfl ?_
    refine E_iconst (v := 0) 163 rfl dX12_room_162 (by decide) ?_
    obtain ⟨w2, hw2, h⟩ := Option.bind_eq_some_iff.mp h
    refine E_cV1 (As := [.int x1, .int 0]) 166 rfl dX12_room_163 shc_149 ck_X12_295 cv_X12_loudAt rfl (by decide) (Nat.le_of_ble_eq_true rfl) (C_X12_loudAt (g := g) hw2) rfl ?_
    refine E_istore_n (lv' := [(3, .int w2.1), (0, .ref 149), (1, .int x1), (2, .int x2)]) 167 rfl dX12_room_166 rfl (Nat.le_of_ble_eq_true rfl) rfl ?_
    refine E_sub (lv' := [(3, .int w2.1)]) [0] rfl ?_
    exact S_X12_room_167 w2.1 w2.2.1 w2.2.2 _ h
def f_X12_room_147 (k121 : Int32 → Int32 → Int32 → Int32 → MI → ML → Option (Int32 × MI × ML)) (x1 : Int32) (x2 : Int32) (x4 : Int32) (y0 : Int32) (y1 : Bool) (I : MI) (L : ML) : Option (Int32 × MI × ML) := k121 x1 x2 (y0 + (bI y1)) (x4 + 1) I L
set_option maxRecDepth 100000 in
theorem S_X12_room_147 {g : Gx} {k121 : Int32 → Int32 → Int32 → Int32 → MI → ML → Option (Int32 × MI × ML)} (hk121 : ∀ (x1z : Int32) (x2z : Int32) (x3z : Int32) (x4z : Int32) (I : MI) (L : ML) (res : Int32 × MI × ML), k121 x1z x2z x3z x4z I L = some res → E g 6 0 mX12_room 121 [(0, .ref 149), (1, .int x1z), (2, .int x2z), (3, .int x3z), (4, .int x4z)] [] (I, L) (.inl (some (.int res.1))) (res.2.1, res.2.2)) (x1 : Int32) (x2 : Int32) (x4 : Int32) (y0 : Int32) (y1 : Bool) (I : MI) (L : ML) (res : Int32 × MI × ML) (h : f_X12_room_147 k121 x1 x2 x4 y0 y1 I L = some res) : E g 6 0 mX12_room 147 [(0, .ref 149), (1, .int x1), (2, .int x2), (4, .int x4)] [.int (bI y1), .int y0] (I, L) (.inl (some (.int res.1))) (res.2.1, res.2.2) := by
  unfold f_X12_room_147 at h
  refine E_iadd 148 rfl dX12_room_147 ?_
  refine E_istore_n (lv' := [(3, .int (y0 + (bI y1))), (0, .ref 149), (1, .int x1), (2, .int x2), (4, .int x4)]) 149 rfl dX12_room_148 rfl (Nat.le_of_ble_eq_true rfl) rfl ?_
  refine E_iinc (j := 4) (v := x4 + 1) (lv' := [(4, .int (x4 + 1)), (3, .int (y0 + (bI y1))), (0, .ref 149), (1, .int x1), (2, .int x2)]) 152 rfl dX12_room_149 rfl rfl (Nat.le_of_ble_eq_true rfl) rfl ?_
  refine E_goto 121 (by decide) dX12_room_152 ?_
  refine E_sub (lv' := [(0, .ref 149), (1, .int x1), (2, .int x2), (3, .int (y0 + (bI y1))), (4, .int (x4 + 1))]) [2, 3, 4, 1, 0] rfl ?_
  exact hk121 x1 x2 (y0 + (bI y1)) (x4 + 1) I L _ h
def f_X12_room_121 : Nat → Int32 → Int32 → Int32 → Int32 → MI → ML → Option (Int32 × MI × ML)
  | 0, _, _, _, _, _, _ => none
  | n + 1, x1, x2, x3, x4, I, L => Option.bind (f_X12_heirs I L) fun v1 => if v1 ≤ x4 then (f_X12_room_155 x1 x2 x3 I L) else (Option.bind (f_X12_ofHeir x4 0 I L) fun v3 => if v3 = x1 then (f_X12_room_147 (f_X12_room_121 n) x1 x2 x4 x3 true I L) else (f_X12_room_147 (f_X12_room_121 n) x1 x2 x4 x3 false I L))
set_option maxRecDepth 100000 in
theorem S_X12_room_121 {g : Gx} : ∀ (n : Nat) (x1 : Int32) (x2 : Int32) (x3 : Int32) (x4 : Int32) (I : MI) (L : ML) (res : Int32 × MI × ML), f_X12_room_121 n x1 x2 x3 x4 I L = some res → E g 6 0 mX12_room 121 [(0, .ref 149), (1, .int x1), (2, .int x2), (3, .int x3), (4, .int x4)] [] (I, L) (.inl (some (.int res.1))) (res.2.1, res.2.2) := by
  intro n
  induction n with
  | zero =>
    intros
    rename_i h
    cases h
  | succ n ih =>
    intro x1 x2 x3 x4 I L res h
    rw [f_X12_room_121] at h
    refine E_iload 123 rfl dX12_room_121 4 rfl ?_
    refine E_aload_n 124 rfl dX12_room_123 rfl 0 rfl ?_
    obtain ⟨v1, hv1, h⟩ := Option.bind_eq_some_iff.mp h
    refine E_cV1 (As := []) 127 rfl dX12_room_124 shc_149 ck_X12_64 cv_X12_heirs rfl (by decide) (Nat.le_of_ble_eq_true rfl) (C_X12_heirs (g := g) hv1) rfl ?_
    refine E_icmp_ge 155 130 (by decide) rfl dX12_room_127 (fun c2 => ?_) (fun c2 => ?_)
    · rw [if_pos c2] at h
      refine E_sub (lv' := [(0, .ref 149), (1, .int x1), (2, .int x2), (3, .int x3)]) [0, 1, 2, 3] rfl ?_
      exact S_X12_room_155 x1 x2 x3 I L _ h
    · rw [if_neg c2] at h
      refine E_iload_n 131 rfl dX12_room_130 rfl 3 rfl ?_
      refine E_aload_n 132 rfl dX12_room_131 rfl 0 rfl ?_
      refine E_iload 134 rfl dX12_room_132 4 rfl ?_
      refine E_iconst (v := 0) 135 rfl dX12_room_134 (by decide) ?_
      obtain ⟨v3, hv3, h⟩ := Option.bind_eq_some_iff.mp h
      refine E_cV1 (As := [.int x4, .int 0]) 138 rfl dX12_room_135 shc_149 ck_X12_266 cv_X12_ofHeir rfl (by decide) (Nat.le_of_ble_eq_true rfl) (C_X12_ofHeir (g := g) hv3) rfl ?_
      refine E_iload_n 139 rfl dX12_room_138 rfl 1 rfl ?_
      refine E_icmp_ne 146 142 (by decide) rfl dX12_room_139 (fun c4 => ?_) (fun c4 => ?_)
      · rw [if_neg c4] at h
        refine E_iconst (v := 0) 147 rfl dX12_room_146 (by decide) ?_
        refine E_sub (lv' := [(0, .ref 149), (1, .int x1), (2, .int x2), (4, .int x4)]) [0, 1, 2, 4] rfl ?_
        exact S_X12_room_147 ih x1 x2 x4 x3 false I L _ h
      · rw [if_pos c4] at h
        refine E_iconst (v := 1) 143 rfl dX12_room_142 (by decide) ?_
        refine E_goto 147 (by decide) dX12_room_143 ?_
        refine E_sub (lv' := [(0, .ref 149), (1, .int x1), (2, .int x2), (4, .int x4)]) [0, 1, 2, 4] rfl ?_
        exact S_X12_room_147 ih x1 x2 x4 x3 true I L _ h
def f_X12_room_113 (x1 : Int32) (x2 : Int32) (x3 : Int32) (I : MI) (L : ML) : Option (Int32 × MI × ML) := if x2 = 2 then (f_X12_room_121 FU x1 x2 x3 0 I L) else (f_X12_room_155 x1 x2 x3 I L)
set_option maxRecDepth 100000 in
theorem S_X12_room_113 {g : Gx} (x1 : Int32) (x2 : Int32) (x3 : Int32) (I : MI) (L : ML) (res : Int32 × MI × ML) (h : f_X12_room_113 x1 x2 x3 I L = some res) : E g 6 0 mX12_room 113 [(0, .ref 149), (1, .int x1), (2, .int x2), (3, .int x3)] [] (I, L) (.inl (some (.int res.1))) (res.2.1, res.2.2) := by
  unfold f_X12_room_113 at h
  refine E_iload_n 114 rfl dX12_room_113 rfl 2 rfl ?_
  refine E_iconst (v := 2) 115 rfl dX12_room_114 (by decide) ?_
  refine E_icmp_ne 155 118 (by decide) rfl dX12_room_115 (fun c1 => ?_) (fun c1 => ?_)
  · rw [if_neg c1] at h
    refine E_sub (lv' := [(0, .ref 149), (1, .int x1), (2, .int x2), (3, .int x3)]) [0, 1, 2, 3] rfl ?_
    exact S_X12_room_155 x1 x2 x3 I L _ h
  · rw [if_pos c1] at h
    refine E_iconst (v := 0) 119 rfl dX12_room_118 (by decide) ?_
    refine E_istore (lv' := [(4, .int 0), (0, .ref 149), (1, .int x1), (2, .int x2), (3, .int x3)]) 121 rfl dX12_room_119 (Nat.le_of_ble_eq_true rfl) rfl ?_
    refine E_sub (lv' := [(0, .ref 149), (1, .int x1), (2, .int x2), (3, .int x3), (4, .int 0)]) [1, 2, 3, 4, 0] rfl ?_
    exact S_X12_room_121 FU x1 x2 x3 0 I L _ h
def f_X12_room_105 (k66 : Int32 → Int32 → Int32 → Int32 → MI → ML → Option (Int32 × MI × ML)) (x1 : Int32) (x2 : Int32) (x4 : Int32) (y0 : Int32) (y1 : Bool) (I : MI) (L : ML) : Option (Int32 × MI × ML) := k66 x1 x2 (y0 + (bI y1)) (x4 + 1) I L
set_option maxRecDepth 100000 in
theorem S_X12_room_105 {g : Gx} {k66 : Int32 → Int32 → Int32 → Int32 → MI → ML → Option (Int32 × MI × ML)} (hk66 : ∀ (x1z : Int32) (x2z : Int32) (x3z : Int32) (x4z : Int32) (I : MI) (L : ML) (res : Int32 × MI × ML), k66 x1z x2z x3z x4z I L = some res → E g 6 0 mX12_room 66 [(0, .ref 149), (1, .int x1z), (2, .int x2z), (3, .int x3z), (4, .int x4z)] [] (I, L) (.inl (some (.int res.1))) (res.2.1, res.2.2)) (x1 : Int32) (x2 : Int32) (x4 : Int32) (y0 : Int32) (y1 : Bool) (I : MI) (L : ML) (res : Int32 × MI × ML) (h : f_X12_room_105 k66 x1 x2 x4 y0 y1 I L = some res) : E g 6 0 mX12_room 105 [(0, .ref 149), (1, .int x1), (2, .int x2), (4, .int x4)] [.int (bI y1), .int y0] (I, L) (.inl (some (.int res.1))) (res.2.1, res.2.2) := by
  unfold f_X12_room_105 at h
  refine E_iadd 106 rfl dX12_room_105 ?_
  refine E_istore_n (lv' := [(3, .int (y0 + (bI y1))), (0, .ref 149), (1, .int x1), (2, .int x2), (4, .int x4)]) 107 rfl dX12_room_106 rfl (Nat.le_of_ble_eq_true rfl) rfl ?_
  refine E_iinc (j := 4) (v := x4 + 1) (lv' := [(4, .int (x4 + 1)), (3, .int (y0 + (bI y1))), (0, .ref 149), (1, .int x1), (2, .int x2)]) 110 rfl dX12_room_107 rfl rfl (Nat.le_of_ble_eq_true rfl) rfl ?_
  refine E_goto 66 (by decide) dX12_room_110 ?_
  refine E_sub (lv' := [(0, .ref 149), (1, .int x1), (2, .int x2), (3, .int (y0 + (bI y1))), (4, .int (x4 + 1))]) [2, 3, 4, 1, 0] rfl ?_
  exact hk66 x1 x2 (y0 + (bI y1)) (x4 + 1) I L _ h
def f_X12_room_100 (k66 : Int32 → Int32 → Int32 → Int32 → MI → ML → Option (Int32 × MI × ML)) (x1 : Int32) (x2 : Int32) (x4 : Int32) (y0 : Int32) (I : MI) (L : ML) : Option (Int32 × MI × ML) := f_X12_room_105 k66 x1 x2 x4 y0 true I L
set_option maxRecDepth 100000 in
theorem S_X12_room_100 {g : Gx} {k66 : Int32 → Int32 → Int32 → Int32 → MI → ML → Option (Int32 × MI × ML)} (hk66 : ∀ (x1z : Int32) (x2z : Int32) (x3z : Int32) (x4z : Int32) (I : MI) (L : ML) (res : Int32 × MI × ML), k66 x1z x2z x3z x4z I L = some res → E g 6 0 mX12_room 66 [(0, .ref 149), (1, .int x1z), (2, .int x2z), (3, .int x3z), (4, .int x4z)] [] (I, L) (.inl (some (.int res.1))) (res.2.1, res.2.2)) (x1 : Int32) (x2 : Int32) (x4 : Int32) (y0 : Int32) (I : MI) (L : ML) (res : Int32 × MI × ML) (h : f_X12_room_100 k66 x1 x2 x4 y0 I L = some res) : E g 6 0 mX12_room 100 [(0, .ref 149), (1, .int x1), (2, .int x2), (4, .int x4)] [.int y0] (I, L) (.inl (some (.int res.1))) (res.2.1, res.2.2) := by
  unfold f_X12_room_100 at h
  refine E_iconst (v := 1) 101 rfl dX12_room_100 (by decide) ?_
  refine E_goto 105 (by decide) dX12_room_101 ?_
  refine E_sub (lv' := [(0, .ref 149), (1, .int x1), (2, .int x2), (4, .int x4)]) [0, 1, 2, 3] rfl ?_
  exact S_X12_room_105 hk66 x1 x2 x4 y0 true I L _ h
def f_X12_room_66 : Nat → Int32 → Int32 → Int32 → Int32 → MI → ML → Option (Int32 × MI × ML)
  | 0, _, _, _, _, _, _ => none
  | n + 1, x1, x2, x3, x4, I, L => Option.bind (ldI I 150 2143 1) fun v1 => if v1 ≤ x4 then (f_X12_room_113 x1 x2 x3 I L) else (Option.bind (f_X12_ofDoor x4 0 I L) fun v3 => if v3 = x1 then (f_X12_room_100 (f_X12_room_66 n) x1 x2 x4 x3 I L) else (Option.bind (f_X12_ofDoor x4 1 I L) fun v5 => if v5 = x1 then (f_X12_room_100 (f_X12_room_66 n) x1 x2 x4 x3 I L) else (f_X12_room_105 (f_X12_room_66 n) x1 x2 x4 x3 false I L)))
set_option maxRecDepth 100000 in
theorem S_X12_room_66 {g : Gx} : ∀ (n : Nat) (x1 : Int32) (x2 : Int32) (x3 : Int32) (x4 : Int32) (I : MI) (L : ML) (res : Int32 × MI × ML), f_X12_room_66 n x1 x2 x3 x4 I L = some res → E g 6 0 mX12_room 66 [(0, .ref 149), (1, .int x1), (2, .int x2), (3, .int x3), (4, .int x4)] [] (I, L) (.inl (some (.int res.1))) (res.2.1, res.2.2) := by
  intro n
  induction n with
  | zero =>
    intros
    rename_i h
    cases h
  | succ n ih =>
    intro x1 x2 x3 x4 I L res h
    rw [f_X12_room_66] at h
    refine E_iload 68 rfl dX12_room_66 4 rfl ?_
    refine E_aload_n 69 rfl dX12_room_68 rfl 0 rfl ?_
    refine E_gR 150 72 rfl dX12_room_69 shc_149 fl_X12_13 rfl (by decide) (by decide) ?_
    refine E_iconst (v := 1) 73 rfl dX12_room_72 (by decide) ?_
    obtain ⟨v1, hv1, h⟩ := Option.bind_eq_some_iff.mp h
    refine E_ldI 74 rfl dX12_room_73 shc_150 hv1 ?_
    refine E_icmp_ge 113 77 (by decide) rfl dX12_room_74 (fun c2 => ?_) (fun c2 => ?_)
    · rw [if_pos c2] at h
      refine E_sub (lv' := [(0, .ref 149), (1, .int x1), (2, .int x2), (3, .int x3)]) [0, 1, 2, 3] rfl ?_
      exact S_X12_room_113 x1 x2 x3 I L _ h
    · rw [if_neg c2] at h
      refine E_iload_n 78 rfl dX12_room_77 rfl 3 rfl ?_
      refine E_aload_n 79 rfl dX12_room_78 rfl 0 rfl ?_
      refine E_iload 81 rfl dX12_room_79 4 rfl ?_
      refine E_iconst (v := 0) 82 rfl dX12_room_81 (by decide) ?_
      obtain ⟨v3, hv3, h⟩ := Option.bind_eq_some_iff.mp h
      refine E_cV1 (As := [.int x4, .int 0]) 85 rfl dX12_room_82 shc_149 ck_X12_249 cv_X12_ofDoor rfl (by decide) (Nat.le_of_ble_eq_true rfl) (C_X12_ofDoor (g := g) hv3) rfl ?_
      refine E_iload_n 86 rfl dX12_room_85 rfl 1 rfl ?_
      refine E_icmp_eq 100 89 (by decide) rfl dX12_room_86 (fun c4 => ?_) (fun c4 => ?_)
      · rw [if_pos c4] at h
        refine E_sub (lv' := [(0, .ref 149), (1, .int x1), (2, .int x2), (4, .int x4)]) [0, 1, 2, 4] rfl ?_
        exact S_X12_room_100 ih x1 x2 x4 x3 I L _ h
      · rw [if_neg c4] at h
        refine E_aload_n 90 rfl dX12_room_89 rfl 0 rfl ?_
        refine E_iload 92 rfl dX12_room_90 4 rfl ?_
        refine E_iconst (v := 1) 93 rfl dX12_room_92 (by decide) ?_
        obtain ⟨v5, hv5, h⟩ := Option.bind_eq_some_iff.mp h
        refine E_cV1 (As := [.int x4, .int 1]) 96 rfl dX12_room_93 shc_149 ck_X12_249 cv_X12_ofDoor rfl (by decide) (Nat.le_of_ble_eq_true rfl) (C_X12_ofDoor (g := g) hv5) rfl ?_
        refine E_iload_n 97 rfl dX12_room_96 rfl 1 rfl ?_
        refine E_icmp_ne 104 100 (by decide) rfl dX12_room_97 (fun c6 => ?_) (fun c6 => ?_)
        · rw [if_neg c6] at h
          refine E_iconst (v := 0) 105 rfl dX12_room_104 (by decide) ?_
          refine E_sub (lv' := [(0, .ref 149), (1, .int x1), (2, .int x2), (4, .int x4)]) [0, 1, 2, 4] rfl ?_
          exact S_X12_room_105 ih x1 x2 x4 x3 false I L _ h
        · rw [if_pos c6] at h
          refine E_sub (lv' := [(0, .ref 149), (1, .int x1), (2, .int x2), (4, .int x4)]) [0, 1, 2, 4] rfl ?_
          exact S_X12_room_100 ih x1 x2 x4 x3 I L _ h
def f_X12_room_40 (I : MI) (L : ML) : Option (Int32 × MI × ML) := some (0, I, L)
set_option maxRecDepth 100000 in
theorem S_X12_room_40 {g : Gx} (I : MI) (L : ML) (res : Int32 × MI × ML) (h : f_X12_room_40 I L = some res) : E g 6 0 mX12_room 40 [] [] (I, L) (.inl (some (.int res.1))) (res.2.1, res.2.2) := by
  unfold f_X12_room_40 at h
  refine E_iconst (v := 0) 41 rfl dX12_room_40 (by decide) ?_
  cases h
  exact E_iret rfl dX12_room_41
def f_X12_room_33 (x1 : Int32) (x2 : Int32) (y1 : Bool) (I : MI) (L : ML) : Option (Int32 × MI × ML) := Option.bind (f_X12_throwsIf y1 2 I L) fun w1 => if w1.1 = true then (f_X12_room_40 w1.2.1 w1.2.2) else (if x2 = 0 then (Option.bind (ldI w1.2.1 150 2143 (15 + x1)) fun v5 => some (v5, w1.2.1, w1.2.2)) else (if x2 = 1 then (f_X12_room_66 FU x1 x2 0 0 w1.2.1 w1.2.2) else (f_X12_room_113 x1 x2 0 w1.2.1 w1.2.2)))
set_option maxRecDepth 100000 in
theorem S_X12_room_33 {g : Gx} (x1 : Int32) (x2 : Int32) (y1 : Bool) (I : MI) (L : ML) (res : Int32 × MI × ML) (h : f_X12_room_33 x1 x2 y1 I L = some res) : E g 6 0 mX12_room 33 [(0, .ref 149), (1, .int x1), (2, .int x2)] [.int (bI y1), .ref 149] (I, L) (.inl (some (.int res.1))) (res.2.1, res.2.2) := by
  unfold f_X12_room_33 at h
  refine E_iconst (v := 2) 34 rfl dX12_room_33 (by decide) ?_
  obtain ⟨w1, hw1, h⟩ := Option.bind_eq_some_iff.mp h
  refine E_cV1 (As := [.int (bI y1), .int 2]) 37 rfl dX12_room_34 shc_149 ck_X12_245 cv_X12_throwsIf rfl (by decide) (Nat.le_of_ble_eq_true rfl) (C_X12_throwsIf (g := g) hw1) rfl ?_
  refine E_if_eqB 42 40 (by decide) rfl dX12_room_37 (fun c2 => ?_) (fun c2 => ?_)
  · rw [if_neg (by rw [c2]; decide)] at h
    refine E_iconst (v := 0) 43 rfl dX12_room_42 (by decide) ?_
    refine E_istore_n (lv' := [(3, .int 0), (0, .ref 149), (1, .int x1), (2, .int x2)]) 44 rfl dX12_room_43 rfl (Nat.le_of_ble_eq_true rfl) rfl ?_
    refine E_iload_n 45 rfl dX12_room_44 rfl 3 rfl ?_
    refine E_if_ne 58 48 (by decide) rfl dX12_room_45 (fun c3 => ?_) (fun c3 => ?_)
    · rw [if_neg c3] at h
      refine E_iload_n 59 rfl dX12_room_58 rfl 3 rfl ?_
      refine E_iconst (v := 1) 60 rfl dX12_room_59 (by decide) ?_
      refine E_icmp_ne 113 63 (by decide) rfl dX12_room_60 (fun c4 => ?_) (fun c4 => ?_)
      · rw [if_neg c4] at h
        refine E_sub (lv' := [(0, .ref 149), (1, .int x1), (2, .int x2), (3, .int 0)]) [1, 2, 3, 0] rfl ?_
        exact S_X12_room_113 x1 x2 0 w1.2.1 w1.2.2 _ h
      · rw [if_pos c4] at h
        refine E_iconst (v := 0) 64 rfl dX12_room_63 (by decide) ?_
        refine E_istore (lv' := [(4, .int 0), (3, .int 0), (0, .ref 149), (1, .int x1), (2, .int x2)]) 66 rfl dX12_room_64 (Nat.le_of_ble_eq_true rfl) rfl ?_
        refine E_sub (lv' := [(0, .ref 149), (1, .int x1), (2, .int x2), (3, .int 0), (4, .int 0)]) [2, 3, 4, 1, 0] rfl ?_
        exact S_X12_room_66 FU x1 x2 0 0 w1.2.1 w1.2.2 _ h
    · rw [if_pos c3] at h
      refine E_aload_n 49 rfl dX12_room_48 rfl 1 rfl ?_
      refine E_gR 150 52 rfl dX12_room_49 shc_149 fl_X12_13 rfl (by decide) (by decide) ?_
      refine E_bipush (v := 15) 54 rfl dX12_room_52 (by decide) ?_
      refine E_iload_n 55 rfl dX12_room_54 rfl 2 rfl ?_
      refine E_iadd 56 rfl dX12_room_55 ?_
      obtain ⟨v5, hv5, h⟩ := Option.bind_eq_some_iff.mp h
      refine E_ldI 57 rfl dX12_room_56 shc_150 hv5 ?_
      cases h
      exact E_iret rfl dX12_room_57
  · rw [if_pos c2] at h
    refine E_sub (lv' := []) [] rfl ?_
    exact S_X12_room_40 w1.2.1 w1.2.2 _ h
def f_X12_room (x1 : Int32) (x2 : Int32) (I : MI) (L : ML) : Option (Int32 × MI × ML) := Option.bind (pfI I 149 0 0) fun I1 => Option.bind (f_X12_noRoom x1 I1 L) fun v2 => Option.bind (f_X12_throwsIf v2 1 I1 L) fun w3 => if w3.1 = true then (f_X12_room_40 w3.2.1 w3.2.2) else (Option.bind (f_X12_in x2 0 3 w3.2.1 w3.2.2) fun v5 => if v5 = true then (f_X12_room_33 x1 x2 false w3.2.1 w3.2.2) else (f_X12_room_33 x1 x2 true w3.2.1 w3.2.2))
set_option maxRecDepth 100000 in
theorem S_X12_room {g : Gx} (x1 : Int32) (x2 : Int32) (I : MI) (L : ML) (res : Int32 × MI × ML) (h : f_X12_room x1 x2 I L = some res) : E g 6 0 mX12_room 0 [(0, .ref 149), (1, .int x1), (2, .int x2)] [] (I, L) (.inl (some (.int res.1))) (res.2.1, res.2.2) := by
  unfold f_X12_room at h
  refine E_aload_n 1 rfl dX12_room_0 rfl 0 rfl ?_
  refine E_iconst (v := 0) 2 rfl dX12_room_1 (by decide) ?_
  obtain ⟨I1, hI1, h⟩ := Option.bind_eq_some_iff.mp h
  refine E_pfI 5 rfl dX12_room_2 shc_149 fl_X12_3 rfl hI1 ?_
  refine E_aload_n 6 rfl dX12_room_5 rfl 0 rfl ?_
  refine E_aload_n 7 rfl dX12_room_6 rfl 0 rfl ?_
  refine E_iload_n 8 rfl dX12_room_7 rfl 1 rfl ?_
  obtain ⟨v2, hv2, h⟩ := Option.bind_eq_some_iff.mp h
  refine E_cV1 (As := [.int x1]) 11 rfl dX12_room_8 shc_149 ck_X12_292 cv_X12_noRoom rfl (by decide) (Nat.le_of_ble_eq_true rfl) (C_X12_noRoom (g := g) hv2) rfl ?_
  refine E_iconst (v := 1) 12 rfl dX12_room_11 (by decide) ?_
  obtain ⟨w3, hw3, h⟩ := Option.bind_eq_some_iff.mp h
  refine E_cV1 (As := [.int (bI v2), .int 1]) 15 rfl dX12_room_12 shc_149 ck_X12_245 cv_X12_throwsIf rfl (by decide) (Nat.le_of_ble_eq_true rfl) (C_X12_throwsIf (g := g) hw3) rfl ?_
  refine E_if_neB 40 18 (by decide) rfl dX12_room_15 (fun c4 => ?_) (fun c4 => ?_)
  · rw [if_pos c4] at h
    refine E_sub (lv' := []) [] rfl ?_
    exact S_X12_room_40 w3.2.1 w3.2.2 _ h
  · rw [if_neg (by rw [c4]; decide)] at h
    refine E_aload_n 19 rfl dX12_room_18 rfl 0 rfl ?_
    refine E_iload_n 20 rfl dX12_room_19 rfl 2 rfl ?_
    refine E_iconst (v := 0) 21 rfl dX12_room_20 (by decide) ?_
    refine E_iconst (v := 3) 22 rfl dX12_room_21 (by decide) ?_
    obtain ⟨v5, hv5, h⟩ := Option.bind_eq_some_iff.mp h
    refine E_cS1 (As := [.int x2, .int 0, .int 3]) 25 rfl dX12_room_22 ck_X12_60 ss_X12_in rfl (by decide) (Nat.le_of_ble_eq_true rfl) (C_X12_in (g := g) hv5) rfl ?_
    refine E_if_neB 32 28 (by decide) rfl dX12_room_25 (fun c6 => ?_) (fun c6 => ?_)
    · rw [if_pos c6] at h
      refine E_iconst (v := 0) 33 rfl dX12_room_32 (by decide) ?_
      refine E_sub (lv' := [(0, .ref 149), (1, .int x1), (2, .int x2)]) [0, 1, 2] rfl ?_
      exact S_X12_room_33 x1 x2 false w3.2.1 w3.2.2 _ h
    · rw [if_neg (by rw [c6]; decide)] at h
      refine E_iconst (v := 1) 29 rfl dX12_room_28 (by decide) ?_
      refine E_goto 33 (by decide) dX12_room_29 ?_
      refine E_sub (lv' := [(0, .ref 149), (1, .int x1), (2, .int x2)]) [0, 1, 2] rfl ?_
      exact S_X12_room_33 x1 x2 true w3.2.1 w3.2.2 _ h
theorem C_X12_room {g : Gx} {x1 : Int32} {x2 : Int32} {I : MI} {L : ML} {res : Int32 × MI × ML} (h : f_X12_room x1 x2 I L = some res) : Ent g 6 0 mX12_room [.ref 149, .int x1, .int x2] (I, L) (.inl (some (.int res.1))) (res.2.1, res.2.2) := Ent_of (by decide +kernel) (Nat.le_of_ble_eq_true rfl) (S_X12_room x1 x2 I L _ h)
def f_X12_heir_91 (k63 : Int32 → Int32 → Int32 → MI → ML → Option (Int32 × MI × ML)) (x1 : Int32) (x4 : Int32) (y0 : Int32) (y1 : Int32) (I : MI) (L : ML) : Option (Int32 × MI × ML) := k63 x1 (y0 ||| y1) (x4 + 1) I L
set_option maxRecDepth 100000 in
theorem S_X12_heir_91 {g : Gx} {k63 : Int32 → Int32 → Int32 → MI → ML → Option (Int32 × MI × ML)} (hk63 : ∀ (x1z : Int32) (x3z : Int32) (x4z : Int32) (I : MI) (L : ML) (res : Int32 × MI × ML), k63 x1z x3z x4z I L = some res → E g 6 0 mX12_heir 63 [(0, .ref 149), (1, .int x1z), (3, .int x3z), (4, .int x4z)] [] (I, L) (.inl (some (.int res.1))) (res.2.1, res.2.2)) (x1 : Int32) (x4 : Int32) (y0 : Int32) (y1 : Int32) (I : MI) (L : ML) (res : Int32 × MI × ML) (h : f_X12_heir_91 k63 x1 x4 y0 y1 I L = some res) : E g 6 0 mX12_heir 91 [(0, .ref 149), (1, .int x1), (4, .int x4)] [.int y1, .int y0] (I, L) (.inl (some (.int res.1))) (res.2.1, res.2.2) := by
  unfold f_X12_heir_91 at h
  refine E_ior 92 rfl dX12_heir_91 ?_
  refine E_istore_n (lv' := [(3, .int (y0 ||| y1)), (0, .ref 149), (1, .int x1), (4, .int x4)]) 93 rfl dX12_heir_92 rfl (Nat.le_of_ble_eq_true rfl) rfl ?_
  refine E_iinc (j := 3) (v := x4 + 1) (lv' := [(4, .int (x4 + 1)), (3, .int (y0 ||| y1)), (0, .ref 149), (1, .int x1)]) 96 rfl dX12_heir_93 rfl rfl (Nat.le_of_ble_eq_true rfl) rfl ?_
  refine E_goto 63 (by decide) dX12_heir_96 ?_
  refine E_sub (lv' := [(0, .ref 149), (1, .int x1), (3, .int (y0 ||| y1)), (4, .int (x4 + 1))]) [2, 3, 1, 0] rfl ?_
  exact hk63 x1 (y0 ||| y1) (x4 + 1) I L _ h
def f_X12_heir_63 : Nat → Int32 → Int32 → Int32 → MI → ML → Option (Int32 × MI × ML)
  | 0, _, _, _, _, _ => none
  | n + 1, x1, x3, x4, I, L => Option.bind (f_X12_noises I L) fun v1 => if v1 ≤ x4 then (some (x3, I, L)) else (Option.bind (f_X12_isHearing x1 x4 I L) fun v3 => if v3 = true then (f_X12_heir_91 (f_X12_heir_63 n) x1 x4 x3 (1 <<< (x4 &&& 31)) I L) else (f_X12_heir_91 (f_X12_heir_63 n) x1 x4 x3 0 I L))
set_option maxRecDepth 100000 in
theorem S_X12_heir_63 {g : Gx} : ∀ (n : Nat) (x1 : Int32) (x3 : Int32) (x4 : Int32) (I : MI) (L : ML) (res : Int32 × MI × ML), f_X12_heir_63 n x1 x3 x4 I L = some res → E g 6 0 mX12_heir 63 [(0, .ref 149), (1, .int x1), (3, .int x3), (4, .int x4)] [] (I, L) (.inl (some (.int res.1))) (res.2.1, res.2.2) := by
  intro n
  induction n with
  | zero =>
    intros
    rename_i h
    cases h
  | succ n ih =>
    intro x1 x3 x4 I L res h
    rw [f_X12_heir_63] at h
    refine E_iload 65 rfl dX12_heir_63 3 rfl ?_
    refine E_aload_n 66 rfl dX12_heir_65 rfl 0 rfl ?_
    obtain ⟨v1, hv1, h⟩ := Option.bind_eq_some_iff.mp h
    refine E_cV1 (As := []) 69 rfl dX12_heir_66 shc_149 ck_X12_67 cv_X12_noises rfl (by decide) (Nat.le_of_ble_eq_true rfl) (C_X12_noises (g := g) hv1) rfl ?_
    refine E_icmp_ge 99 72 (by decide) rfl dX12_heir_69 (fun c2 => ?_) (fun c2 => ?_)
    · rw [if_pos c2] at h
      refine E_iload_n 100 rfl dX12_heir_99 rfl 2 rfl ?_
      cases h
      exact E_iret rfl dX12_heir_100
    · rw [if_neg c2] at h
      refine E_iload_n 73 rfl dX12_heir_72 rfl 2 rfl ?_
      refine E_aload_n 74 rfl dX12_heir_73 rfl 0 rfl ?_
      refine E_iload_n 75 rfl dX12_heir_74 rfl 1 rfl ?_
      refine E_iload 77 rfl dX12_heir_75 3 rfl ?_
      obtain ⟨v3, hv3, h⟩ := Option.bind_eq_some_iff.mp h
      refine E_cV1 (As := [.int x1, .int x4]) 80 rfl dX12_heir_77 shc_149 ck_X12_272 cv_X12_isHearing rfl (by decide) (Nat.le_of_ble_eq_true rfl) (C_X12_isHearing (g := g) hv3) rfl ?_
      refine E_if_eqB 90 83 (by decide) rfl dX12_heir_80 (fun c4 => ?_) (fun c4 => ?_)
      · rw [if_neg (by rw [c4]; decide)] at h
        refine E_iconst (v := 0) 91 rfl dX12_heir_90 (by decide) ?_
        refine E_sub (lv' := [(0, .ref 149), (1, .int x1), (4, .int x4)]) [0, 1, 3] rfl ?_
        exact S_X12_heir_91 ih x1 x4 x3 0 I L _ h
      · rw [if_pos c4] at h
        refine E_iconst (v := 1) 84 rfl dX12_heir_83 (by decide) ?_
        refine E_iload 86 rfl dX12_heir_84 3 rfl ?_
        refine E_ishl 87 rfl dX12_heir_86 ?_
        refine E_goto 91 (by decide) dX12_heir_87 ?_
        refine E_sub (lv' := [(0, .ref 149), (1, .int x1), (4, .int x4)]) [0, 1, 3] rfl ?_
        exact S_X12_heir_91 ih x1 x4 x3 (1 <<< (x4 &&& 31)) I L _ h
def f_X12_heir_40 (I : MI) (L : ML) : Option (Int32 × MI × ML) := some (0, I, L)
set_option maxRecDepth 100000 in
theorem S_X12_heir_40 {g : Gx} (I : MI) (L : ML) (res : Int32 × MI × ML) (h : f_X12_heir_40 I L = some res) : E g 6 0 mX12_heir 40 [] [] (I, L) (.inl (some (.int res.1))) (res.2.1, res.2.2) := by
  unfold f_X12_heir_40 at h
  refine E_iconst (v := 0) 41 rfl dX12_heir_40 (by decide) ?_
  cases h
  exact E_iret rfl dX12_heir_41
def f_X12_heir_33 (x1 : Int32) (x2 : Int32) (y1 : Bool) (I : MI) (L : ML) : Option (Int32 × MI × ML) := Option.bind (f_X12_throwsIf y1 2 I L) fun w1 => if w1.1 = true then (f_X12_heir_40 w1.2.1 w1.2.2) else (if 3 ≤ x2 then (Option.bind (f_X12_spreads w1.2.1 w1.2.2) fun w4 => f_X12_heir_63 FU x1 0 0 w4.1 w4.2) else (Option.bind (f_X12_ofHeir x1 x2 w1.2.1 w1.2.2) fun v5 => some (v5, w1.2.1, w1.2.2)))
set_option maxRecDepth 100000 in
theorem S_X12_heir_33 {g : Gx} (x1 : Int32) (x2 : Int32) (y1 : Bool) (I : MI) (L : ML) (res : Int32 × MI × ML) (h : f_X12_heir_33 x1 x2 y1 I L = some res) : E g 6 0 mX12_heir 33 [(0, .ref 149), (1, .int x1), (2, .int x2)] [.int (bI y1), .ref 149] (I, L) (.inl (some (.int res.1))) (res.2.1, res.2.2) := by
  unfold f_X12_heir_33 at h
  refine E_iconst (v := 2) 34 rfl dX12_heir_33 (by decide) ?_
  obtain ⟨w1, hw1, h⟩ := Option.bind_eq_some_iff.mp h
  refine E_cV1 (As := [.int (bI y1), .int 2]) 37 rfl dX12_heir_34 shc_149 ck_X12_245 cv_X12_throwsIf rfl (by decide) (Nat.le_of_ble_eq_true rfl) (C_X12_throwsIf (g := g) hw1) rfl ?_
  refine E_if_eqB 42 40 (by decide) rfl dX12_heir_37 (fun c2 => ?_) (fun c2 => ?_)
  · rw [if_neg (by rw [c2]; decide)] at h
    refine E_iload_n 43 rfl dX12_heir_42 rfl 2 rfl ?_
    refine E_iconst (v := 3) 44 rfl dX12_heir_43 (by decide) ?_
    refine E_icmp_ge 54 47 (by decide) rfl dX12_heir_44 (fun c3 => ?_) (fun c3 => ?_)
    · rw [if_pos c3] at h
      refine E_aload_n 55 rfl dX12_heir_54 rfl 0 rfl ?_
      obtain ⟨w4, hw4, h⟩ := Option.bind_eq_some_iff.mp h
      refine E_cV0 (As := []) 58 rfl dX12_heir_55 shc_149 ck_X12_298 cv_X12_spreads rfl (by decide) (Nat.le_of_ble_eq_true rfl) (C_X12_spreads (g := g) hw4) rfl ?_
      refine E_iconst (v := 0) 59 rfl dX12_heir_58 (by decide) ?_
      refine E_istore_n (lv' := [(3, .int 0), (0, .ref 149), (1, .int x1), (2, .int x2)]) 60 rfl dX12_heir_59 rfl (Nat.le_of_ble_eq_true rfl) rfl ?_
      refine E_iconst (v := 0) 61 rfl dX12_heir_60 (by decide) ?_
      refine E_istore (lv' := [(4, .int 0), (3, .int 0), (0, .ref 149), (1, .int x1), (2, .int x2)]) 63 rfl dX12_heir_61 (Nat.le_of_ble_eq_true rfl) rfl ?_
      refine E_sub (lv' := [(0, .ref 149), (1, .int x1), (3, .int 0), (4, .int 0)]) [2, 3, 1, 0] rfl ?_
      exact S_X12_heir_63 FU x1 0 0 w4.1 w4.2 _ h
    · rw [if_neg c3] at h
      refine E_aload_n 48 rfl dX12_heir_47 rfl 0 rfl ?_
      refine E_iload_n 49 rfl dX12_heir_48 rfl 1 rfl ?_
      refine E_iload_n 50 rfl dX12_heir_49 rfl 2 rfl ?_
      obtain ⟨v5, hv5, h⟩ := Option.bind_eq_some_iff.mp h
      refine E_cV1 (As := [.int x1, .int x2]) 53 rfl dX12_heir_50 shc_149 ck_X12_266 cv_X12_ofHeir rfl (by decide) (Nat.le_of_ble_eq_true rfl) (C_X12_ofHeir (g := g) hv5) rfl ?_
      cases h
      exact E_iret rfl dX12_heir_53
  · rw [if_pos c2] at h
    refine E_sub (lv' := []) [] rfl ?_
    exact S_X12_heir_40 w1.2.1 w1.2.2 _ h
def f_X12_heir (x1 : Int32) (x2 : Int32) (I : MI) (L : ML) : Option (Int32 × MI × ML) := Option.bind (pfI I 149 0 0) fun I1 => Option.bind (f_X12_noHeir x1 I1 L) fun v2 => Option.bind (f_X12_throwsIf v2 1 I1 L) fun w3 => if w3.1 = true then (f_X12_heir_40 w3.2.1 w3.2.2) else (Option.bind (f_X12_in x2 0 3 w3.2.1 w3.2.2) fun v5 => if v5 = true then (f_X12_heir_33 x1 x2 false w3.2.1 w3.2.2) else (f_X12_heir_33 x1 x2 true w3.2.1 w3.2.2))
set_option maxRecDepth 100000 in
theorem S_X12_heir {g : Gx} (x1 : Int32) (x2 : Int32) (I : MI) (L : ML) (res : Int32 × MI × ML) (h : f_X12_heir x1 x2 I L = some res) : E g 6 0 mX12_heir 0 [(0, .ref 149), (1, .int x1), (2, .int x2)] [] (I, L) (.inl (some (.int res.1))) (res.2.1, res.2.2) := by
  unfold f_X12_heir at h
  refine E_aload_n 1 rfl dX12_heir_0 rfl 0 rfl ?_
  refine E_iconst (v := 0) 2 rfl dX12_heir_1 (by decide) ?_
  obtain ⟨I1, hI1, h⟩ := Option.bind_eq_some_iff.mp h
  refine E_pfI 5 rfl dX12_heir_2 shc_149 fl_X12_3 rfl hI1 ?_
  refine E_aload_n 6 rfl dX12_heir_5 rfl 0 rfl ?_
  refine E_aload_n 7 rfl dX12_heir_6 rfl 0 rfl ?_
  refine E_iload_n 8 rfl dX12_heir_7 rfl 1 rfl ?_
  obtain ⟨v2, hv2, h⟩ := Option.bind_eq_some_iff.mp h
  refine E_cV1 (As := [.int x1]) 11 rfl dX12_heir_8 shc_149 ck_X12_301 cv_X12_noHeir rfl (by decide) (Nat.le_of_ble_eq_true rfl) (C_X12_noHeir (g := g) hv2) rfl ?_
  refine E_iconst (v := 1) 12 rfl dX12_heir_11 (by decide) ?_
  obtain ⟨w3, hw3, h⟩ := Option.bind_eq_some_iff.mp h
  refine E_cV1 (As := [.int (bI v2), .int 1]) 15 rfl dX12_heir_12 shc_149 ck_X12_245 cv_X12_throwsIf rfl (by decide) (Nat.le_of_ble_eq_true rfl) (C_X12_throwsIf (g := g) hw3) rfl ?_
  refine E_if_neB 40 18 (by decide) rfl dX12_heir_15 (fun c4 => ?_) (fun c4 => ?_)
  · rw [if_pos c4] at h
    refine E_sub (lv' := []) [] rfl ?_
    exact S_X12_heir_40 w3.2.1 w3.2.2 _ h
  · rw [if_neg (by rw [c4]; decide)] at h
    refine E_aload_n 19 rfl dX12_heir_18 rfl 0 rfl ?_
    refine E_iload_n 20 rfl dX12_heir_19 rfl 2 rfl ?_
    refine E_iconst (v := 0) 21 rfl dX12_heir_20 (by decide) ?_
    refine E_iconst (v := 3) 22 rfl dX12_heir_21 (by decide) ?_
    obtain ⟨v5, hv5, h⟩ := Option.bind_eq_some_iff.mp h
    refine E_cS1 (As := [.int x2, .int 0, .int 3]) 25 rfl dX12_heir_22 ck_X12_60 ss_X12_in rfl (by decide) (Nat.le_of_ble_eq_true rfl) (C_X12_in (g := g) hv5) rfl ?_
    refine E_if_neB 32 28 (by decide) rfl dX12_heir_25 (fun c6 => ?_) (fun c6 => ?_)
    · rw [if_pos c6] at h
      refine E_iconst (v := 0) 33 rfl dX12_heir_32 (by decide) ?_
      refine E_sub (lv' := [(0, .ref 149), (1, .int x1), (2, .int x2)]) [0, 1, 2] rfl ?_
      exact S_X12_heir_33 x1 x2 false w3.2.1 w3.2.2 _ h
    · rw [if_neg (by rw [c6]; decide)] at h
      refine E_iconst (v := 1) 29 rfl dX12_heir_28 (by decide) ?_
      refine E_goto 33 (by decide) dX12_heir_29 ?_
      refine E_sub (lv' := [(0, .ref 149), (1, .int x1), (2, .int x2)]) [0, 1, 2] rfl ?_
      exact S_X12_heir_33 x1 x2 true w3.2.1 w3.2.2 _ h
theorem C_X12_heir {g : Gx} {x1 : Int32} {x2 : Int32} {I : MI} {L : ML} {res : Int32 × MI × ML} (h : f_X12_heir x1 x2 I L = some res) : Ent g 6 0 mX12_heir [.ref 149, .int x1, .int x2] (I, L) (.inl (some (.int res.1))) (res.2.1, res.2.2) := Ent_of (by decide +kernel) (Nat.le_of_ble_eq_true rfl) (S_X12_heir x1 x2 I L _ h)
def f_X12_noise_51 (y0 : Int32) (I : MI) (L : ML) : Option (Int32 × MI × ML) := some (y0, I, L)
set_option maxRecDepth 100000 in
theorem S_X12_noise_51 {g : Gx} (y0 : Int32) (I : MI) (L : ML) (res : Int32 × MI × ML) (h : f_X12_noise_51 y0 I L = some res) : E g 3 0 mX12_noise 51 [] [.int y0] (I, L) (.inl (some (.int res.1))) (res.2.1, res.2.2) := by
  unfold f_X12_noise_51 at h
  cases h
  exact E_iret rfl dX12_noise_51
def f_X12_noise_41 (I : MI) (L : ML) : Option (Int32 × MI × ML) := f_X12_noise_51 0 I L
set_option maxRecDepth 100000 in
theorem S_X12_noise_41 {g : Gx} (I : MI) (L : ML) (res : Int32 × MI × ML) (h : f_X12_noise_41 I L = some res) : E g 3 0 mX12_noise 41 [] [] (I, L) (.inl (some (.int res.1))) (res.2.1, res.2.2) := by
  unfold f_X12_noise_41 at h
  refine E_iconst (v := 0) 42 rfl dX12_noise_41 (by decide) ?_
  refine E_goto 51 (by decide) dX12_noise_42 ?_
  refine E_sub (lv' := []) [] rfl ?_
  exact S_X12_noise_51 0 I L _ h
def f_X12_noise_34 (x1 : Int32) (x2 : Int32) (y1 : Bool) (I : MI) (L : ML) : Option (Int32 × MI × ML) := Option.bind (f_X12_throwsIf y1 2 I L) fun w1 => if w1.1 = true then (f_X12_noise_41 w1.2.1 w1.2.2) else (Option.bind (f_X12_of x1 x2 w1.2.1 w1.2.2) fun v3 => f_X12_noise_51 v3 w1.2.1 w1.2.2)
set_option maxRecDepth 100000 in
theorem S_X12_noise_34 {g : Gx} (x1 : Int32) (x2 : Int32) (y1 : Bool) (I : MI) (L : ML) (res : Int32 × MI × ML) (h : f_X12_noise_34 x1 x2 y1 I L = some res) : E g 3 0 mX12_noise 34 [(0, .ref 149), (1, .int x1), (2, .int x2)] [.int (bI y1), .ref 149] (I, L) (.inl (some (.int res.1))) (res.2.1, res.2.2) := by
  unfold f_X12_noise_34 at h
  refine E_iconst (v := 2) 35 rfl dX12_noise_34 (by decide) ?_
  obtain ⟨w1, hw1, h⟩ := Option.bind_eq_some_iff.mp h
  refine E_cV1 (As := [.int (bI y1), .int 2]) 38 rfl dX12_noise_35 shc_149 ck_X12_245 cv_X12_throwsIf rfl (by decide) (Nat.le_of_ble_eq_true rfl) (C_X12_throwsIf (g := g) hw1) rfl ?_
  refine E_if_eqB 45 41 (by decide) rfl dX12_noise_38 (fun c2 => ?_) (fun c2 => ?_)
  · rw [if_neg (by rw [c2]; decide)] at h
    refine E_aload_n 46 rfl dX12_noise_45 rfl 0 rfl ?_
    refine E_iload_n 47 rfl dX12_noise_46 rfl 1 rfl ?_
    refine E_iload_n 48 rfl dX12_noise_47 rfl 2 rfl ?_
    obtain ⟨v3, hv3, h⟩ := Option.bind_eq_some_iff.mp h
    refine E_cV1 (As := [.int x1, .int x2]) 51 rfl dX12_noise_48 shc_149 ck_X12_260 cv_X12_of rfl (by decide) (Nat.le_of_ble_eq_true rfl) (C_X12_of (g := g) hv3) rfl ?_
    refine E_sub (lv' := []) [] rfl ?_
    exact S_X12_noise_51 v3 w1.2.1 w1.2.2 _ h
  · rw [if_pos c2] at h
    refine E_sub (lv' := []) [] rfl ?_
    exact S_X12_noise_41 w1.2.1 w1.2.2 _ h
def f_X12_noise (x1 : Int32) (x2 : Int32) (I : MI) (L : ML) : Option (Int32 × MI × ML) := Option.bind (pfI I 149 0 0) fun I1 => Option.bind (f_X12_noNoise x1 I1 L) fun v2 => Option.bind (f_X12_throwsIf v2 1 I1 L) fun w3 => if w3.1 = true then (f_X12_noise_41 w3.2.1 w3.2.2) else (Option.bind (f_X12_in x2 0 8 w3.2.1 w3.2.2) fun v5 => if v5 = true then (f_X12_noise_34 x1 x2 false w3.2.1 w3.2.2) else (f_X12_noise_34 x1 x2 true w3.2.1 w3.2.2))
set_option maxRecDepth 100000 in
theorem S_X12_noise {g : Gx} (x1 : Int32) (x2 : Int32) (I : MI) (L : ML) (res : Int32 × MI × ML) (h : f_X12_noise x1 x2 I L = some res) : E g 3 0 mX12_noise 0 [(0, .ref 149), (1, .int x1), (2, .int x2)] [] (I, L) (.inl (some (.int res.1))) (res.2.1, res.2.2) := by
  unfold f_X12_noise at h
  refine E_aload_n 1 rfl dX12_noise_0 rfl 0 rfl ?_
  refine E_iconst (v := 0) 2 rfl dX12_noise_1 (by decide) ?_
  obtain ⟨I1, hI1, h⟩ := Option.bind_eq_some_iff.mp h
  refine E_pfI 5 rfl dX12_noise_2 shc_149 fl_X12_3 rfl hI1 ?_
  refine E_aload_n 6 rfl dX12_noise_5 rfl 0 rfl ?_
  refine E_aload_n 7 rfl dX12_noise_6 rfl 0 rfl ?_
  refine E_iload_n 8 rfl dX12_noise_7 rfl 1 rfl ?_
  obtain ⟨v2, hv2, h⟩ := Option.bind_eq_some_iff.mp h
  refine E_cV1 (As := [.int x1]) 11 rfl dX12_noise_8 shc_149 ck_X12_304 cv_X12_noNoise rfl (by decide) (Nat.le_of_ble_eq_true rfl) (C_X12_noNoise (g := g) hv2) rfl ?_
  refine E_iconst (v := 1) 12 rfl dX12_noise_11 (by decide) ?_
  obtain ⟨w3, hw3, h⟩ := Option.bind_eq_some_iff.mp h
  refine E_cV1 (As := [.int (bI v2), .int 1]) 15 rfl dX12_noise_12 shc_149 ck_X12_245 cv_X12_throwsIf rfl (by decide) (Nat.le_of_ble_eq_true rfl) (C_X12_throwsIf (g := g) hw3) rfl ?_
  refine E_if_neB 41 18 (by decide) rfl dX12_noise_15 (fun c4 => ?_) (fun c4 => ?_)
  · rw [if_pos c4] at h
    refine E_sub (lv' := []) [] rfl ?_
    exact S_X12_noise_41 w3.2.1 w3.2.2 _ h
  · rw [if_neg (by rw [c4]; decide)] at h
    refine E_aload_n 19 rfl dX12_noise_18 rfl 0 rfl ?_
    refine E_iload_n 20 rfl dX12_noise_19 rfl 2 rfl ?_
    refine E_iconst (v := 0) 21 rfl dX12_noise_20 (by decide) ?_
    refine E_bipush (v := 8) 23 rfl dX12_noise_21 (by decide) ?_
    obtain ⟨v5, hv5, h⟩ := Option.bind_eq_some_iff.mp h
    refine E_cS1 (As := [.int x2, .int 0, .int 8]) 26 rfl dX12_noise_23 ck_X12_60 ss_X12_in rfl (by decide) (Nat.le_of_ble_eq_true rfl) (C_X12_in (g := g) hv5) rfl ?_
    refine E_if_neB 33 29 (by decide) rfl dX12_noise_26 (fun c6 => ?_) (fun c6 => ?_)
    · rw [if_pos c6] at h
      refine E_iconst (v := 0) 34 rfl dX12_noise_33 (by decide) ?_
      refine E_sub (lv' := [(0, .ref 149), (1, .int x1), (2, .int x2)]) [0, 1, 2] rfl ?_
      exact S_X12_noise_34 x1 x2 false w3.2.1 w3.2.2 _ h
    · rw [if_neg (by rw [c6]; decide)] at h
      refine E_iconst (v := 1) 30 rfl dX12_noise_29 (by decide) ?_
      refine E_goto 34 (by decide) dX12_noise_30 ?_
      refine E_sub (lv' := [(0, .ref 149), (1, .int x1), (2, .int x2)]) [0, 1, 2] rfl ?_
      exact S_X12_noise_34 x1 x2 true w3.2.1 w3.2.2 _ h
theorem C_X12_noise {g : Gx} {x1 : Int32} {x2 : Int32} {I : MI} {L : ML} {res : Int32 × MI × ML} (h : f_X12_noise x1 x2 I L = some res) : Ent g 3 0 mX12_noise [.ref 149, .int x1, .int x2] (I, L) (.inl (some (.int res.1))) (res.2.1, res.2.2) := Ent_of (by decide +kernel) (Nat.le_of_ble_eq_true rfl) (S_X12_noise x1 x2 I L _ h)
def f_X12_cost_61 (y0 : Int32) (I : MI) (L : ML) : Option (Int32 × MI × ML) := some (y0, I, L)
set_option maxRecDepth 100000 in
theorem S_X12_cost_61 {g : Gx} (y0 : Int32) (I : MI) (L : ML) (res : Int32 × MI × ML) (h : f_X12_cost_61 y0 I L = some res) : E g 5 0 mX12_cost 61 [] [.int y0] (I, L) (.inl (some (.int res.1))) (res.2.1, res.2.2) := by
  unfold f_X12_cost_61 at h
  cases h
  exact E_iret rfl dX12_cost_61
def f_X12_cost_27 (x1 : Int32) (x2 : Int32) (y1 : Bool) (I : MI) (L : ML) : Option (Int32 × MI × ML) := Option.bind (f_X12_throwsIf y1 1 I L) fun w1 => if w1.1 = true then (some (0, w1.2.1, w1.2.2)) else (Option.bind (f_X12_spreads w1.2.1 w1.2.2) fun w3 => Option.bind (f_X12_costOf x1 x2 w3.1 w3.2) fun v4 => if v4 < 1000000 then (Option.bind (f_X12_costOf x1 x2 w3.1 w3.2) fun v6 => f_X12_cost_61 v6 w3.1 w3.2) else (f_X12_cost_61 ((-1)) w3.1 w3.2))
set_option maxRecDepth 100000 in
theorem S_X12_cost_27 {g : Gx} (x1 : Int32) (x2 : Int32) (y1 : Bool) (I : MI) (L : ML) (res : Int32 × MI × ML) (h : f_X12_cost_27 x1 x2 y1 I L = some res) : E g 5 0 mX12_cost 27 [(0, .ref 149), (1, .int x1), (2, .int x2)] [.int (bI y1), .ref 149] (I, L) (.inl (some (.int res.1))) (res.2.1, res.2.2) := by
  unfold f_X12_cost_27 at h
  refine E_iconst (v := 1) 28 rfl dX12_cost_27 (by decide) ?_
  obtain ⟨w1, hw1, h⟩ := Option.bind_eq_some_iff.mp h
  refine E_cV1 (As := [.int (bI y1), .int 1]) 31 rfl dX12_cost_28 shc_149 ck_X12_245 cv_X12_throwsIf rfl (by decide) (Nat.le_of_ble_eq_true rfl) (C_X12_throwsIf (g := g) hw1) rfl ?_
  refine E_if_eqB 36 34 (by decide) rfl dX12_cost_31 (fun c2 => ?_) (fun c2 => ?_)
  · rw [if_neg (by rw [c2]; decide)] at h
    refine E_aload_n 37 rfl dX12_cost_36 rfl 0 rfl ?_
    obtain ⟨w3, hw3, h⟩ := Option.bind_eq_some_iff.mp h
    refine E_cV0 (As := []) 40 rfl dX12_cost_37 shc_149 ck_X12_298 cv_X12_spreads rfl (by decide) (Nat.le_of_ble_eq_true rfl) (C_X12_spreads (g := g) hw3) rfl ?_
    refine E_aload_n 41 rfl dX12_cost_40 rfl 0 rfl ?_
    refine E_iload_n 42 rfl dX12_cost_41 rfl 1 rfl ?_
    refine E_iload_n 43 rfl dX12_cost_42 rfl 2 rfl ?_
    obtain ⟨v4, hv4, h⟩ := Option.bind_eq_some_iff.mp h
    refine E_cV1 (As := [.int x1, .int x2]) 46 rfl dX12_cost_43 shc_149 ck_X12_252 cv_X12_costOf rfl (by decide) (Nat.le_of_ble_eq_true rfl) (C_X12_costOf (g := g) hv4) rfl ?_
    refine E_ldc 48 rfl dX12_cost_46 cst_X12_248 ?_
    refine E_icmp_lt 55 51 (by decide) rfl dX12_cost_48 (fun c5 => ?_) (fun c5 => ?_)
    · rw [if_pos c5] at h
      refine E_aload_n 56 rfl dX12_cost_55 rfl 0 rfl ?_
      refine E_iload_n 57 rfl dX12_cost_56 rfl 1 rfl ?_
      refine E_iload_n 58 rfl dX12_cost_57 rfl 2 rfl ?_
      obtain ⟨v6, hv6, h⟩ := Option.bind_eq_some_iff.mp h
      refine E_cV1 (As := [.int x1, .int x2]) 61 rfl dX12_cost_58 shc_149 ck_X12_252 cv_X12_costOf rfl (by decide) (Nat.le_of_ble_eq_true rfl) (C_X12_costOf (g := g) hv6) rfl ?_
      refine E_sub (lv' := []) [] rfl ?_
      exact S_X12_cost_61 v6 w3.1 w3.2 _ h
    · rw [if_neg c5] at h
      refine E_iconst (v := (-1)) 52 rfl dX12_cost_51 (by decide) ?_
      refine E_goto 61 (by decide) dX12_cost_52 ?_
      refine E_sub (lv' := []) [] rfl ?_
      exact S_X12_cost_61 ((-1)) w3.1 w3.2 _ h
  · rw [if_pos c2] at h
    refine E_iconst (v := 0) 35 rfl dX12_cost_34 (by decide) ?_
    cases h
    exact E_iret rfl dX12_cost_35
def f_X12_cost_22 (x1 : Int32) (x2 : Int32) (I : MI) (L : ML) : Option (Int32 × MI × ML) := f_X12_cost_27 x1 x2 true I L
set_option maxRecDepth 100000 in
theorem S_X12_cost_22 {g : Gx} (x1 : Int32) (x2 : Int32) (I : MI) (L : ML) (res : Int32 × MI × ML) (h : f_X12_cost_22 x1 x2 I L = some res) : E g 5 0 mX12_cost 22 [(0, .ref 149), (1, .int x1), (2, .int x2)] [.ref 149] (I, L) (.inl (some (.int res.1))) (res.2.1, res.2.2) := by
  unfold f_X12_cost_22 at h
  refine E_iconst (v := 1) 23 rfl dX12_cost_22 (by decide) ?_
  refine E_goto 27 (by decide) dX12_cost_23 ?_
  refine E_sub (lv' := [(0, .ref 149), (1, .int x1), (2, .int x2)]) [0, 1, 2] rfl ?_
  exact S_X12_cost_27 x1 x2 true I L _ h
def f_X12_cost (x1 : Int32) (x2 : Int32) (I : MI) (L : ML) : Option (Int32 × MI × ML) := Option.bind (pfI I 149 0 0) fun I1 => Option.bind (f_X12_noRoom x1 I1 L) fun v2 => if v2 = true then (f_X12_cost_22 x1 x2 I1 L) else (Option.bind (f_X12_noRoom x2 I1 L) fun v4 => if v4 = true then (f_X12_cost_22 x1 x2 I1 L) else (f_X12_cost_27 x1 x2 false I1 L))
set_option maxRecDepth 100000 in
theorem S_X12_cost {g : Gx} (x1 : Int32) (x2 : Int32) (I : MI) (L : ML) (res : Int32 × MI × ML) (h : f_X12_cost x1 x2 I L = some res) : E g 5 0 mX12_cost 0 [(0, .ref 149), (1, .int x1), (2, .int x2)] [] (I, L) (.inl (some (.int res.1))) (res.2.1, res.2.2) := by
  unfold f_X12_cost at h
  refine E_aload_n 1 rfl dX12_cost_0 rfl 0 rfl ?_
  refine E_iconst (v := 0) 2 rfl dX12_cost_1 (by decide) ?_
  obtain ⟨I1, hI1, h⟩ := Option.bind_eq_some_iff.mp h
  refine E_pfI 5 rfl dX12_cost_2 shc_149 fl_X12_3 rfl hI1 ?_
  refine E_aload_n 6 rfl dX12_cost_5 rfl 0 rfl ?_
  refine E_aload_n 7 rfl dX12_cost_6 rfl 0 rfl ?_
  refine E_iload_n 8 rfl dX12_cost_7 rfl 1 rfl ?_
  obtain ⟨v2, hv2, h⟩ := Option.bind_eq_some_iff.mp h
  refine E_cV1 (As := [.int x1]) 11 rfl dX12_cost_8 shc_149 ck_X12_292 cv_X12_noRoom rfl (by decide) (Nat.le_of_ble_eq_true rfl) (C_X12_noRoom (g := g) hv2) rfl ?_
  refine E_if_neB 22 14 (by decide) rfl dX12_cost_11 (fun c3 => ?_) (fun c3 => ?_)
  · rw [if_pos c3] at h
    refine E_sub (lv' := [(0, .ref 149), (1, .int x1), (2, .int x2)]) [0, 1, 2] rfl ?_
    exact S_X12_cost_22 x1 x2 I1 L _ h
  · rw [if_neg (by rw [c3]; decide)] at h
    refine E_aload_n 15 rfl dX12_cost_14 rfl 0 rfl ?_
    refine E_iload_n 16 rfl dX12_cost_15 rfl 2 rfl ?_
    obtain ⟨v4, hv4, h⟩ := Option.bind_eq_some_iff.mp h
    refine E_cV1 (As := [.int x2]) 19 rfl dX12_cost_16 shc_149 ck_X12_292 cv_X12_noRoom rfl (by decide) (Nat.le_of_ble_eq_true rfl) (C_X12_noRoom (g := g) hv4) rfl ?_
    refine E_if_eqB 26 22 (by decide) rfl dX12_cost_19 (fun c5 => ?_) (fun c5 => ?_)
    · rw [if_neg (by rw [c5]; decide)] at h
      refine E_iconst (v := 0) 27 rfl dX12_cost_26 (by decide) ?_
      refine E_sub (lv' := [(0, .ref 149), (1, .int x1), (2, .int x2)]) [0, 1, 2] rfl ?_
      exact S_X12_cost_27 x1 x2 false I1 L _ h
    · rw [if_pos c5] at h
      refine E_sub (lv' := [(0, .ref 149), (1, .int x1), (2, .int x2)]) [0, 1, 2] rfl ?_
      exact S_X12_cost_22 x1 x2 I1 L _ h
theorem C_X12_cost {g : Gx} {x1 : Int32} {x2 : Int32} {I : MI} {L : ML} {res : Int32 × MI × ML} (h : f_X12_cost x1 x2 I L = some res) : Ent g 5 0 mX12_cost [.ref 149, .int x1, .int x2] (I, L) (.inl (some (.int res.1))) (res.2.1, res.2.2) := Ent_of (by decide +kernel) (Nat.le_of_ble_eq_true rfl) (S_X12_cost x1 x2 I L _ h)
def f_X12_at_27 (x1 : Int32) (x2 : Int32) (y1 : Bool) (I : MI) (L : ML) : Option (Int32 × MI × ML) := Option.bind (f_X12_throwsIf y1 1 I L) fun w1 => if w1.1 = true then (some (0, w1.2.1, w1.2.2)) else (Option.bind (f_X12_spreads w1.2.1 w1.2.2) fun w3 => Option.bind (f_X12_atOf x1 x2 w3.1 w3.2) fun v4 => some (v4, w3.1, w3.2))
set_option maxRecDepth 100000 in
theorem S_X12_at_27 {g : Gx} (x1 : Int32) (x2 : Int32) (y1 : Bool) (I : MI) (L : ML) (res : Int32 × MI × ML) (h : f_X12_at_27 x1 x2 y1 I L = some res) : E g 5 0 mX12_at 27 [(0, .ref 149), (1, .int x1), (2, .int x2)] [.int (bI y1), .ref 149] (I, L) (.inl (some (.int res.1))) (res.2.1, res.2.2) := by
  unfold f_X12_at_27 at h
  refine E_iconst (v := 1) 28 rfl dX12_at_27 (by decide) ?_
  obtain ⟨w1, hw1, h⟩ := Option.bind_eq_some_iff.mp h
  refine E_cV1 (As := [.int (bI y1), .int 1]) 31 rfl dX12_at_28 shc_149 ck_X12_245 cv_X12_throwsIf rfl (by decide) (Nat.le_of_ble_eq_true rfl) (C_X12_throwsIf (g := g) hw1) rfl ?_
  refine E_if_eqB 36 34 (by decide) rfl dX12_at_31 (fun c2 => ?_) (fun c2 => ?_)
  · rw [if_neg (by rw [c2]; decide)] at h
    refine E_aload_n 37 rfl dX12_at_36 rfl 0 rfl ?_
    obtain ⟨w3, hw3, h⟩ := Option.bind_eq_some_iff.mp h
    refine E_cV0 (As := []) 40 rfl dX12_at_37 shc_149 ck_X12_298 cv_X12_spreads rfl (by decide) (Nat.le_of_ble_eq_true rfl) (C_X12_spreads (g := g) hw3) rfl ?_
    refine E_aload_n 41 rfl dX12_at_40 rfl 0 rfl ?_
    refine E_iload_n 42 rfl dX12_at_41 rfl 1 rfl ?_
    refine E_iload_n 43 rfl dX12_at_42 rfl 2 rfl ?_
    obtain ⟨v4, hv4, h⟩ := Option.bind_eq_some_iff.mp h
    refine E_cV1 (As := [.int x1, .int x2]) 46 rfl dX12_at_43 shc_149 ck_X12_269 cv_X12_atOf rfl (by decide) (Nat.le_of_ble_eq_true rfl) (C_X12_atOf (g := g) hv4) rfl ?_
    cases h
    exact E_iret rfl dX12_at_46
  · rw [if_pos c2] at h
    refine E_iconst (v := 0) 35 rfl dX12_at_34 (by decide) ?_
    cases h
    exact E_iret rfl dX12_at_35
def f_X12_at_22 (x1 : Int32) (x2 : Int32) (I : MI) (L : ML) : Option (Int32 × MI × ML) := f_X12_at_27 x1 x2 true I L
set_option maxRecDepth 100000 in
theorem S_X12_at_22 {g : Gx} (x1 : Int32) (x2 : Int32) (I : MI) (L : ML) (res : Int32 × MI × ML) (h : f_X12_at_22 x1 x2 I L = some res) : E g 5 0 mX12_at 22 [(0, .ref 149), (1, .int x1), (2, .int x2)] [.ref 149] (I, L) (.inl (some (.int res.1))) (res.2.1, res.2.2) := by
  unfold f_X12_at_22 at h
  refine E_iconst (v := 1) 23 rfl dX12_at_22 (by decide) ?_
  refine E_goto 27 (by decide) dX12_at_23 ?_
  refine E_sub (lv' := [(0, .ref 149), (1, .int x1), (2, .int x2)]) [0, 1, 2] rfl ?_
  exact S_X12_at_27 x1 x2 true I L _ h
def f_X12_at (x1 : Int32) (x2 : Int32) (I : MI) (L : ML) : Option (Int32 × MI × ML) := Option.bind (pfI I 149 0 0) fun I1 => Option.bind (f_X12_noNoise x1 I1 L) fun v2 => if v2 = true then (f_X12_at_22 x1 x2 I1 L) else (Option.bind (f_X12_noRoom x2 I1 L) fun v4 => if v4 = true then (f_X12_at_22 x1 x2 I1 L) else (f_X12_at_27 x1 x2 false I1 L))
set_option maxRecDepth 100000 in
theorem S_X12_at {g : Gx} (x1 : Int32) (x2 : Int32) (I : MI) (L : ML) (res : Int32 × MI × ML) (h : f_X12_at x1 x2 I L = some res) : E g 5 0 mX12_at 0 [(0, .ref 149), (1, .int x1), (2, .int x2)] [] (I, L) (.inl (some (.int res.1))) (res.2.1, res.2.2) := by
  unfold f_X12_at at h
  refine E_aload_n 1 rfl dX12_at_0 rfl 0 rfl ?_
  refine E_iconst (v := 0) 2 rfl dX12_at_1 (by decide) ?_
  obtain ⟨I1, hI1, h⟩ := Option.bind_eq_some_iff.mp h
  refine E_pfI 5 rfl dX12_at_2 shc_149 fl_X12_3 rfl hI1 ?_
  refine E_aload_n 6 rfl dX12_at_5 rfl 0 rfl ?_
  refine E_aload_n 7 rfl dX12_at_6 rfl 0 rfl ?_
  refine E_iload_n 8 rfl dX12_at_7 rfl 1 rfl ?_
  obtain ⟨v2, hv2, h⟩ := Option.bind_eq_some_iff.mp h
  refine E_cV1 (As := [.int x1]) 11 rfl dX12_at_8 shc_149 ck_X12_304 cv_X12_noNoise rfl (by decide) (Nat.le_of_ble_eq_true rfl) (C_X12_noNoise (g := g) hv2) rfl ?_
  refine E_if_neB 22 14 (by decide) rfl dX12_at_11 (fun c3 => ?_) (fun c3 => ?_)
  · rw [if_pos c3] at h
    refine E_sub (lv' := [(0, .ref 149), (1, .int x1), (2, .int x2)]) [0, 1, 2] rfl ?_
    exact S_X12_at_22 x1 x2 I1 L _ h
  · rw [if_neg (by rw [c3]; decide)] at h
    refine E_aload_n 15 rfl dX12_at_14 rfl 0 rfl ?_
    refine E_iload_n 16 rfl dX12_at_15 rfl 2 rfl ?_
    obtain ⟨v4, hv4, h⟩ := Option.bind_eq_some_iff.mp h
    refine E_cV1 (As := [.int x2]) 19 rfl dX12_at_16 shc_149 ck_X12_292 cv_X12_noRoom rfl (by decide) (Nat.le_of_ble_eq_true rfl) (C_X12_noRoom (g := g) hv4) rfl ?_
    refine E_if_eqB 26 22 (by decide) rfl dX12_at_19 (fun c5 => ?_) (fun c5 => ?_)
    · rw [if_neg (by rw [c5]; decide)] at h
      refine E_iconst (v := 0) 27 rfl dX12_at_26 (by decide) ?_
      refine E_sub (lv' := [(0, .ref 149), (1, .int x1), (2, .int x2)]) [0, 1, 2] rfl ?_
      exact S_X12_at_27 x1 x2 false I1 L _ h
    · rw [if_pos c5] at h
      refine E_sub (lv' := [(0, .ref 149), (1, .int x1), (2, .int x2)]) [0, 1, 2] rfl ?_
      exact S_X12_at_22 x1 x2 I1 L _ h
theorem C_X12_at {g : Gx} {x1 : Int32} {x2 : Int32} {I : MI} {L : ML} {res : Int32 × MI × ML} (h : f_X12_at x1 x2 I L = some res) : Ent g 5 0 mX12_at [.ref 149, .int x1, .int x2] (I, L) (.inl (some (.int res.1))) (res.2.1, res.2.2) := Ent_of (by decide +kernel) (Nat.le_of_ble_eq_true rfl) (S_X12_at x1 x2 I L _ h)
def f_X12_title_27 (x1 : Int32) (x2 : Int32) (y1 : Bool) (I : MI) (L : ML) : Option (Int32 × MI × ML) := Option.bind (f_X12_throwsIf y1 1 I L) fun w1 => if w1.1 = true then (some (0, w1.2.1, w1.2.2)) else (Option.bind (f_X12_spreads w1.2.1 w1.2.2) fun w3 => Option.bind (f_X12_titleOf x1 x2 w3.1 w3.2) fun w4 => some (w4.1, w4.2.1, w4.2.2))
set_option maxRecDepth 100000 in
theorem S_X12_title_27 {g : Gx} (x1 : Int32) (x2 : Int32) (y1 : Bool) (I : MI) (L : ML) (res : Int32 × MI × ML) (h : f_X12_title_27 x1 x2 y1 I L = some res) : E g 9 0 mX12_title 27 [(0, .ref 149), (1, .int x1), (2, .int x2)] [.int (bI y1), .ref 149] (I, L) (.inl (some (.int res.1))) (res.2.1, res.2.2) := by
  unfold f_X12_title_27 at h
  refine E_iconst (v := 1) 28 rfl dX12_title_27 (by decide) ?_
  obtain ⟨w1, hw1, h⟩ := Option.bind_eq_some_iff.mp h
  refine E_cV1 (As := [.int (bI y1), .int 1]) 31 rfl dX12_title_28 shc_149 ck_X12_245 cv_X12_throwsIf rfl (by decide) (Nat.le_of_ble_eq_true rfl) (C_X12_throwsIf (g := g) hw1) rfl ?_
  refine E_if_eqB 36 34 (by decide) rfl dX12_title_31 (fun c2 => ?_) (fun c2 => ?_)
  · rw [if_neg (by rw [c2]; decide)] at h
    refine E_aload_n 37 rfl dX12_title_36 rfl 0 rfl ?_
    obtain ⟨w3, hw3, h⟩ := Option.bind_eq_some_iff.mp h
    refine E_cV0 (As := []) 40 rfl dX12_title_37 shc_149 ck_X12_298 cv_X12_spreads rfl (by decide) (Nat.le_of_ble_eq_true rfl) (C_X12_spreads (g := g) hw3) rfl ?_
    refine E_aload_n 41 rfl dX12_title_40 rfl 0 rfl ?_
    refine E_iload_n 42 rfl dX12_title_41 rfl 1 rfl ?_
    refine E_iload_n 43 rfl dX12_title_42 rfl 2 rfl ?_
    obtain ⟨w4, hw4, h⟩ := Option.bind_eq_some_iff.mp h
    refine E_cV1 (As := [.int x1, .int x2]) 46 rfl dX12_title_43 shc_149 ck_X12_282 cv_X12_titleOf rfl (by decide) (Nat.le_of_ble_eq_true rfl) (C_X12_titleOf (g := g) hw4) rfl ?_
    cases h
    exact E_iret rfl dX12_title_46
  · rw [if_pos c2] at h
    refine E_iconst (v := 0) 35 rfl dX12_title_34 (by decide) ?_
    cases h
    exact E_iret rfl dX12_title_35
def f_X12_title_22 (x1 : Int32) (x2 : Int32) (I : MI) (L : ML) : Option (Int32 × MI × ML) := f_X12_title_27 x1 x2 true I L
set_option maxRecDepth 100000 in
theorem S_X12_title_22 {g : Gx} (x1 : Int32) (x2 : Int32) (I : MI) (L : ML) (res : Int32 × MI × ML) (h : f_X12_title_22 x1 x2 I L = some res) : E g 9 0 mX12_title 22 [(0, .ref 149), (1, .int x1), (2, .int x2)] [.ref 149] (I, L) (.inl (some (.int res.1))) (res.2.1, res.2.2) := by
  unfold f_X12_title_22 at h
  refine E_iconst (v := 1) 23 rfl dX12_title_22 (by decide) ?_
  refine E_goto 27 (by decide) dX12_title_23 ?_
  refine E_sub (lv' := [(0, .ref 149), (1, .int x1), (2, .int x2)]) [0, 1, 2] rfl ?_
  exact S_X12_title_27 x1 x2 true I L _ h
def f_X12_title (x1 : Int32) (x2 : Int32) (I : MI) (L : ML) : Option (Int32 × MI × ML) := Option.bind (pfI I 149 0 0) fun I1 => Option.bind (f_X12_noHeir x1 I1 L) fun v2 => if v2 = true then (f_X12_title_22 x1 x2 I1 L) else (Option.bind (f_X12_noNoise x2 I1 L) fun v4 => if v4 = true then (f_X12_title_22 x1 x2 I1 L) else (f_X12_title_27 x1 x2 false I1 L))
set_option maxRecDepth 100000 in
theorem S_X12_title {g : Gx} (x1 : Int32) (x2 : Int32) (I : MI) (L : ML) (res : Int32 × MI × ML) (h : f_X12_title x1 x2 I L = some res) : E g 9 0 mX12_title 0 [(0, .ref 149), (1, .int x1), (2, .int x2)] [] (I, L) (.inl (some (.int res.1))) (res.2.1, res.2.2) := by
  unfold f_X12_title at h
  refine E_aload_n 1 rfl dX12_title_0 rfl 0 rfl ?_
  refine E_iconst (v := 0) 2 rfl dX12_title_1 (by decide) ?_
  obtain ⟨I1, hI1, h⟩ := Option.bind_eq_some_iff.mp h
  refine E_pfI 5 rfl dX12_title_2 shc_149 fl_X12_3 rfl hI1 ?_
  refine E_aload_n 6 rfl dX12_title_5 rfl 0 rfl ?_
  refine E_aload_n 7 rfl dX12_title_6 rfl 0 rfl ?_
  refine E_iload_n 8 rfl dX12_title_7 rfl 1 rfl ?_
  obtain ⟨v2, hv2, h⟩ := Option.bind_eq_some_iff.mp h
  refine E_cV1 (As := [.int x1]) 11 rfl dX12_title_8 shc_149 ck_X12_301 cv_X12_noHeir rfl (by decide) (Nat.le_of_ble_eq_true rfl) (C_X12_noHeir (g := g) hv2) rfl ?_
  refine E_if_neB 22 14 (by decide) rfl dX12_title_11 (fun c3 => ?_) (fun c3 => ?_)
  · rw [if_pos c3] at h
    refine E_sub (lv' := [(0, .ref 149), (1, .int x1), (2, .int x2)]) [0, 1, 2] rfl ?_
    exact S_X12_title_22 x1 x2 I1 L _ h
  · rw [if_neg (by rw [c3]; decide)] at h
    refine E_aload_n 15 rfl dX12_title_14 rfl 0 rfl ?_
    refine E_iload_n 16 rfl dX12_title_15 rfl 2 rfl ?_
    obtain ⟨v4, hv4, h⟩ := Option.bind_eq_some_iff.mp h
    refine E_cV1 (As := [.int x2]) 19 rfl dX12_title_16 shc_149 ck_X12_304 cv_X12_noNoise rfl (by decide) (Nat.le_of_ble_eq_true rfl) (C_X12_noNoise (g := g) hv4) rfl ?_
    refine E_if_eqB 26 22 (by decide) rfl dX12_title_19 (fun c5 => ?_) (fun c5 => ?_)
    · rw [if_neg (by rw [c5]; decide)] at h
      refine E_iconst (v := 0) 27 rfl dX12_title_26 (by decide) ?_
      refine E_sub (lv' := [(0, .ref 149), (1, .int x1), (2, .int x2)]) [0, 1, 2] rfl ?_
      exact S_X12_title_27 x1 x2 false I1 L _ h
    · rw [if_pos c5] at h
      refine E_sub (lv' := [(0, .ref 149), (1, .int x1), (2, .int x2)]) [0, 1, 2] rfl ?_
      exact S_X12_title_22 x1 x2 I1 L _ h
theorem C_X12_title {g : Gx} {x1 : Int32} {x2 : Int32} {I : MI} {L : ML} {res : Int32 × MI × ML} (h : f_X12_title x1 x2 I L = some res) : Ent g 9 0 mX12_title [.ref 149, .int x1, .int x2] (I, L) (.inl (some (.int res.1))) (res.2.1, res.2.2) := Ent_of (by decide +kernel) (Nat.le_of_ble_eq_true rfl) (S_X12_title x1 x2 I L _ h)
def f_X12_part_94 (y0 : Int64) (I : MI) (L : ML) : Option (Int32 × MI × ML) := some (y0.toInt32, I, L)
set_option maxRecDepth 100000 in
theorem S_X12_part_94 {g : Gx} (y0 : Int64) (I : MI) (L : ML) (res : Int32 × MI × ML) (h : f_X12_part_94 y0 I L = some res) : E g 11 0 mX12_part 94 [] [.long y0] (I, L) (.inl (some (.int res.1))) (res.2.1, res.2.2) := by
  unfold f_X12_part_94 at h
  refine E_l2i 95 rfl dX12_part_94 ?_
  cases h
  exact E_iret rfl dX12_part_95
def f_X12_part_63 (I : MI) (L : ML) : Option (Int32 × MI × ML) := some (0, I, L)
set_option maxRecDepth 100000 in
theorem S_X12_part_63 {g : Gx} (I : MI) (L : ML) (res : Int32 × MI × ML) (h : f_X12_part_63 I L = some res) : E g 11 0 mX12_part 63 [] [] (I, L) (.inl (some (.int res.1))) (res.2.1, res.2.2) := by
  unfold f_X12_part_63 at h
  refine E_iconst (v := 0) 64 rfl dX12_part_63 (by decide) ?_
  cases h
  exact E_iret rfl dX12_part_64
def f_X12_part_56 (x1 : Int32) (x2 : Int32) (x3 : Int32) (y1 : Bool) (I : MI) (L : ML) : Option (Int32 × MI × ML) := Option.bind (f_X12_throwsIf y1 2 I L) fun w1 => if w1.1 = true then (f_X12_part_63 w1.2.1 w1.2.2) else (Option.bind (f_X12_spreads w1.2.1 w1.2.2) fun w3 => Option.bind (f_X12_parts x2 x3.toInt64 w3.1 w3.2) fun w4 => if x1 = ((-1)) then (f_X12_part_94 w4.1 w4.2.1 w4.2.2) else (Option.bind (ldL w4.2.2 159 6 x1) fun v6 => f_X12_part_94 v6 w4.2.1 w4.2.2))
set_option maxRecDepth 100000 in
theorem S_X12_part_56 {g : Gx} (x1 : Int32) (x2 : Int32) (x3 : Int32) (y1 : Bool) (I : MI) (L : ML) (res : Int32 × MI × ML) (h : f_X12_part_56 x1 x2 x3 y1 I L = some res) : E g 11 0 mX12_part 56 [(0, .ref 149), (1, .int x1), (2, .int x2), (3, .int x3)] [.int (bI y1), .ref 149] (I, L) (.inl (some (.int res.1))) (res.2.1, res.2.2) := by
  unfold f_X12_part_56 at h
  refine E_iconst (v := 2) 57 rfl dX12_part_56 (by decide) ?_
  obtain ⟨w1, hw1, h⟩ := Option.bind_eq_some_iff.mp h
  refine E_cV1 (As := [.int (bI y1), .int 2]) 60 rfl dX12_part_57 shc_149 ck_X12_245 cv_X12_throwsIf rfl (by decide) (Nat.le_of_ble_eq_true rfl) (C_X12_throwsIf (g := g) hw1) rfl ?_
  refine E_if_eqB 65 63 (by decide) rfl dX12_part_60 (fun c2 => ?_) (fun c2 => ?_)
  · rw [if_neg (by rw [c2]; decide)] at h
    refine E_aload_n 66 rfl dX12_part_65 rfl 0 rfl ?_
    obtain ⟨w3, hw3, h⟩ := Option.bind_eq_some_iff.mp h
    refine E_cV0 (As := []) 69 rfl dX12_part_66 shc_149 ck_X12_298 cv_X12_spreads rfl (by decide) (Nat.le_of_ble_eq_true rfl) (C_X12_spreads (g := g) hw3) rfl ?_
    refine E_aload_n 70 rfl dX12_part_69 rfl 0 rfl ?_
    refine E_iload_n 71 rfl dX12_part_70 rfl 2 rfl ?_
    refine E_iload_n 72 rfl dX12_part_71 rfl 3 rfl ?_
    refine E_i2l 73 rfl dX12_part_72 ?_
    obtain ⟨w4, hw4, h⟩ := Option.bind_eq_some_iff.mp h
    refine E_cV1 (As := [.int x2, .long x3.toInt64]) 76 rfl dX12_part_73 shc_149 ck_X12_308 cv_X12_parts rfl (by decide) (Nat.le_of_ble_eq_true rfl) (C_X12_parts (g := g) hw4) rfl ?_
    refine E_lstore (lv' := [(4, .long w4.1), (0, .ref 149), (1, .int x1), (2, .int x2), (3, .int x3)]) 78 rfl dX12_part_76 (Nat.le_of_ble_eq_true rfl) rfl ?_
    refine E_iload_n 79 rfl dX12_part_78 rfl 2 rfl ?_
    refine E_iconst (v := (-1)) 80 rfl dX12_part_79 (by decide) ?_
    refine E_icmp_ne 88 83 (by decide) rfl dX12_part_80 (fun c5 => ?_) (fun c5 => ?_)
    · rw [if_neg c5] at h
      refine E_aload_n 89 rfl dX12_part_88 rfl 1 rfl ?_
      refine E_gR 159 92 rfl dX12_part_89 shc_149 fl_X12_45 rfl (by decide) (by decide) ?_
      refine E_iload_n 93 rfl dX12_part_92 rfl 2 rfl ?_
      obtain ⟨v6, hv6, h⟩ := Option.bind_eq_some_iff.mp h
      refine E_ldL 94 rfl dX12_part_93 shc_159 hv6 ?_
      refine E_sub (lv' := []) [] rfl ?_
      exact S_X12_part_94 v6 w4.2.1 w4.2.2 _ h
    · rw [if_pos c5] at h
      refine E_lload 85 rfl dX12_part_83 0 rfl ?_
      refine E_goto 94 (by decide) dX12_part_85 ?_
      refine E_sub (lv' := []) [] rfl ?_
      exact S_X12_part_94 w4.1 w4.2.1 w4.2.2 _ h
  · rw [if_pos c2] at h
    refine E_sub (lv' := []) [] rfl ?_
    exact S_X12_part_63 w1.2.1 w1.2.2 _ h
def f_X12_part_32 (x1 : Int32) (x2 : Int32) (x3 : Int32) (y1 : Bool) (I : MI) (L : ML) : Option (Int32 × MI × ML) := Option.bind (f_X12_throwsIf y1 1 I L) fun w1 => if w1.1 = true then (f_X12_part_63 w1.2.1 w1.2.2) else (Option.bind (f_X12_in x3 0 99999 w1.2.1 w1.2.2) fun v3 => if v3 = true then (f_X12_part_56 x1 x2 x3 false w1.2.1 w1.2.2) else (f_X12_part_56 x1 x2 x3 true w1.2.1 w1.2.2))
set_option maxRecDepth 100000 in
theorem S_X12_part_32 {g : Gx} (x1 : Int32) (x2 : Int32) (x3 : Int32) (y1 : Bool) (I : MI) (L : ML) (res : Int32 × MI × ML) (h : f_X12_part_32 x1 x2 x3 y1 I L = some res) : E g 11 0 mX12_part 32 [(0, .ref 149), (1, .int x1), (2, .int x2), (3, .int x3)] [.int (bI y1), .ref 149] (I, L) (.inl (some (.int res.1))) (res.2.1, res.2.2) := by
  unfold f_X12_part_32 at h
  refine E_iconst (v := 1) 33 rfl dX12_part_32 (by decide) ?_
  obtain ⟨w1, hw1, h⟩ := Option.bind_eq_some_iff.mp h
  refine E_cV1 (As := [.int (bI y1), .int 1]) 36 rfl dX12_part_33 shc_149 ck_X12_245 cv_X12_throwsIf rfl (by decide) (Nat.le_of_ble_eq_true rfl) (C_X12_throwsIf (g := g) hw1) rfl ?_
  refine E_if_neB 63 39 (by decide) rfl dX12_part_36 (fun c2 => ?_) (fun c2 => ?_)
  · rw [if_pos c2] at h
    refine E_sub (lv' := []) [] rfl ?_
    exact S_X12_part_63 w1.2.1 w1.2.2 _ h
  · rw [if_neg (by rw [c2]; decide)] at h
    refine E_aload_n 40 rfl dX12_part_39 rfl 0 rfl ?_
    refine E_iload_n 41 rfl dX12_part_40 rfl 3 rfl ?_
    refine E_iconst (v := 0) 42 rfl dX12_part_41 (by decide) ?_
    refine E_ldcw 45 rfl dX12_part_42 cst_X12_307 ?_
    obtain ⟨v3, hv3, h⟩ := Option.bind_eq_some_iff.mp h
    refine E_cS1 (As := [.int x3, .int 0, .int 99999]) 48 rfl dX12_part_45 ck_X12_60 ss_X12_in rfl (by decide) (Nat.le_of_ble_eq_true rfl) (C_X12_in (g := g) hv3) rfl ?_
    refine E_if_neB 55 51 (by decide) rfl dX12_part_48 (fun c4 => ?_) (fun c4 => ?_)
    · rw [if_pos c4] at h
      refine E_iconst (v := 0) 56 rfl dX12_part_55 (by decide) ?_
      refine E_sub (lv' := [(0, .ref 149), (1, .int x1), (2, .int x2), (3, .int x3)]) [0, 1, 2, 3] rfl ?_
      exact S_X12_part_56 x1 x2 x3 false w1.2.1 w1.2.2 _ h
    · rw [if_neg (by rw [c4]; decide)] at h
      refine E_iconst (v := 1) 52 rfl dX12_part_51 (by decide) ?_
      refine E_goto 56 (by decide) dX12_part_52 ?_
      refine E_sub (lv' := [(0, .ref 149), (1, .int x1), (2, .int x2), (3, .int x3)]) [0, 1, 2, 3] rfl ?_
      exact S_X12_part_56 x1 x2 x3 true w1.2.1 w1.2.2 _ h
def f_X12_part_27 (x1 : Int32) (x2 : Int32) (x3 : Int32) (I : MI) (L : ML) : Option (Int32 × MI × ML) := f_X12_part_32 x1 x2 x3 true I L
set_option maxRecDepth 100000 in
theorem S_X12_part_27 {g : Gx} (x1 : Int32) (x2 : Int32) (x3 : Int32) (I : MI) (L : ML) (res : Int32 × MI × ML) (h : f_X12_part_27 x1 x2 x3 I L = some res) : E g 11 0 mX12_part 27 [(0, .ref 149), (1, .int x1), (2, .int x2), (3, .int x3)] [.ref 149] (I, L) (.inl (some (.int res.1))) (res.2.1, res.2.2) := by
  unfold f_X12_part_27 at h
  refine E_iconst (v := 1) 28 rfl dX12_part_27 (by decide) ?_
  refine E_goto 32 (by decide) dX12_part_28 ?_
  refine E_sub (lv' := [(0, .ref 149), (1, .int x1), (2, .int x2), (3, .int x3)]) [0, 1, 2, 3] rfl ?_
  exact S_X12_part_32 x1 x2 x3 true I L _ h
def f_X12_part_19 (x1 : Int32) (x2 : Int32) (x3 : Int32) (I : MI) (L : ML) : Option (Int32 × MI × ML) := Option.bind (f_X12_noNoise x2 I L) fun v1 => if v1 = true then (f_X12_part_27 x1 x2 x3 I L) else (f_X12_part_32 x1 x2 x3 false I L)
set_option maxRecDepth 100000 in
theorem S_X12_part_19 {g : Gx} (x1 : Int32) (x2 : Int32) (x3 : Int32) (I : MI) (L : ML) (res : Int32 × MI × ML) (h : f_X12_part_19 x1 x2 x3 I L = some res) : E g 11 0 mX12_part 19 [(0, .ref 149), (1, .int x1), (2, .int x2), (3, .int x3)] [.ref 149] (I, L) (.inl (some (.int res.1))) (res.2.1, res.2.2) := by
  unfold f_X12_part_19 at h
  refine E_aload_n 20 rfl dX12_part_19 rfl 0 rfl ?_
  refine E_iload_n 21 rfl dX12_part_20 rfl 2 rfl ?_
  obtain ⟨v1, hv1, h⟩ := Option.bind_eq_some_iff.mp h
  refine E_cV1 (As := [.int x2]) 24 rfl dX12_part_21 shc_149 ck_X12_304 cv_X12_noNoise rfl (by decide) (Nat.le_of_ble_eq_true rfl) (C_X12_noNoise (g := g) hv1) rfl ?_
  refine E_if_eqB 31 27 (by decide) rfl dX12_part_24 (fun c2 => ?_) (fun c2 => ?_)
  · rw [if_neg (by rw [c2]; decide)] at h
    refine E_iconst (v := 0) 32 rfl dX12_part_31 (by decide) ?_
    refine E_sub (lv' := [(0, .ref 149), (1, .int x1), (2, .int x2), (3, .int x3)]) [0, 1, 2, 3] rfl ?_
    exact S_X12_part_32 x1 x2 x3 false I L _ h
  · rw [if_pos c2] at h
    refine E_sub (lv' := [(0, .ref 149), (1, .int x1), (2, .int x2), (3, .int x3)]) [0, 1, 2, 3] rfl ?_
    exact S_X12_part_27 x1 x2 x3 I L _ h
def f_X12_part (x1 : Int32) (x2 : Int32) (x3 : Int32) (I : MI) (L : ML) : Option (Int32 × MI × ML) := Option.bind (pfI I 149 0 0) fun I1 => if x1 = ((-1)) then (f_X12_part_19 x1 x2 x3 I1 L) else (Option.bind (f_X12_noHeir x1 I1 L) fun v3 => if v3 = true then (f_X12_part_27 x1 x2 x3 I1 L) else (f_X12_part_19 x1 x2 x3 I1 L))
set_option maxRecDepth 100000 in
theorem S_X12_part {g : Gx} (x1 : Int32) (x2 : Int32) (x3 : Int32) (I : MI) (L : ML) (res : Int32 × MI × ML) (h : f_X12_part x1 x2 x3 I L = some res) : E g 11 0 mX12_part 0 [(0, .ref 149), (1, .int x1), (2, .int x2), (3, .int x3)] [] (I, L) (.inl (some (.int res.1))) (res.2.1, res.2.2) := by
  unfold f_X12_part at h
  refine E_aload_n 1 rfl dX12_part_0 rfl 0 rfl ?_
  refine E_iconst (v := 0) 2 rfl dX12_part_1 (by decide) ?_
  obtain ⟨I1, hI1, h⟩ := Option.bind_eq_some_iff.mp h
  refine E_pfI 5 rfl dX12_part_2 shc_149 fl_X12_3 rfl hI1 ?_
  refine E_aload_n 6 rfl dX12_part_5 rfl 0 rfl ?_
  refine E_iload_n 7 rfl dX12_part_6 rfl 1 rfl ?_
  refine E_iconst (v := (-1)) 8 rfl dX12_part_7 (by decide) ?_
  refine E_icmp_eq 19 11 (by decide) rfl dX12_part_8 (fun c2 => ?_) (fun c2 => ?_)
  · rw [if_pos c2] at h
    refine E_sub (lv' := [(0, .ref 149), (1, .int x1), (2, .int x2), (3, .int x3)]) [0, 1, 2, 3] rfl ?_
    exact S_X12_part_19 x1 x2 x3 I1 L _ h
  · rw [if_neg c2] at h
    refine E_aload_n 12 rfl dX12_part_11 rfl 0 rfl ?_
    refine E_iload_n 13 rfl dX12_part_12 rfl 1 rfl ?_
    obtain ⟨v3, hv3, h⟩ := Option.bind_eq_some_iff.mp h
    refine E_cV1 (As := [.int x1]) 16 rfl dX12_part_13 shc_149 ck_X12_301 cv_X12_noHeir rfl (by decide) (Nat.le_of_ble_eq_true rfl) (C_X12_noHeir (g := g) hv3) rfl ?_
    refine E_if_neB 27 19 (by decide) rfl dX12_part_16 (fun c4 => ?_) (fun c4 => ?_)
    · rw [if_pos c4] at h
      refine E_sub (lv' := [(0, .ref 149), (1, .int x1), (2, .int x2), (3, .int x3)]) [0, 1, 2, 3] rfl ?_
      exact S_X12_part_27 x1 x2 x3 I1 L _ h
    · rw [if_neg (by rw [c4]; decide)] at h
      refine E_sub (lv' := [(0, .ref 149), (1, .int x1), (2, .int x2), (3, .int x3)]) [0, 1, 2, 3] rfl ?_
      exact S_X12_part_19 x1 x2 x3 I1 L _ h
theorem C_X12_part {g : Gx} {x1 : Int32} {x2 : Int32} {x3 : Int32} {I : MI} {L : ML} {res : Int32 × MI × ML} (h : f_X12_part x1 x2 x3 I L = some res) : Ent g 11 0 mX12_part [.ref 149, .int x1, .int x2, .int x3] (I, L) (.inl (some (.int res.1))) (res.2.1, res.2.2) := Ent_of (by decide +kernel) (Nat.le_of_ble_eq_true rfl) (S_X12_part x1 x2 x3 I L _ h)
def f_X12_draw (x1 : Int32) (I : MI) (L : ML) : Option (Int32 × MI × ML) := Option.bind (ldI I 150 2143 13) fun v1 => Option.bind (stI I 150 2143 13 ((1103515245 * v1) + 12345)) fun I2 => Option.bind (ldI I2 150 2143 13) fun v3 => Option.bind (rmI ((v3 >>> (16 &&& 31)) &&& 32767) x1) fun v4 => some (v4, I2, L)
set_option maxRecDepth 100000 in
theorem S_X12_draw {g : Gx} (x1 : Int32) (I : MI) (L : ML) (res : Int32 × MI × ML) (h : f_X12_draw x1 I L = some res) : E g 1 0 mX12_draw 0 [(0, .ref 149), (1, .int x1)] [] (I, L) (.inl (some (.int res.1))) (res.2.1, res.2.2) := by
  unfold f_X12_draw at h
  refine E_aload_n 1 rfl dX12_draw_0 rfl 0 rfl ?_
  refine E_gR 150 4 rfl dX12_draw_1 shc_149 fl_X12_13 rfl (by decide) (by decide) ?_
  refine E_bipush (v := 13) 6 rfl dX12_draw_4 (by decide) ?_
  refine E_ldcw 9 rfl dX12_draw_6 cst_X12_312 ?_
  refine E_aload_n 10 rfl dX12_draw_9 rfl 0 rfl ?_
  refine E_gR 150 13 rfl dX12_draw_10 shc_149 fl_X12_13 rfl (by decide) (by decide) ?_
  refine E_bipush (v := 13) 15 rfl dX12_draw_13 (by decide) ?_
  obtain ⟨v1, hv1, h⟩ := Option.bind_eq_some_iff.mp h
  refine E_ldI 16 rfl dX12_draw_15 shc_150 hv1 ?_
  refine E_imul 17 rfl dX12_draw_16 ?_
  refine E_sipush (v := 12345) 20 rfl dX12_draw_17 (by decide) ?_
  refine E_iadd 21 rfl dX12_draw_20 ?_
  obtain ⟨I2, hI2, h⟩ := Option.bind_eq_some_iff.mp h
  refine E_stI 22 rfl dX12_draw_21 shc_150 hI2 ?_
  refine E_aload_n 23 rfl dX12_draw_22 rfl 0 rfl ?_
  refine E_gR 150 26 rfl dX12_draw_23 shc_149 fl_X12_13 rfl (by decide) (by decide) ?_
  refine E_bipush (v := 13) 28 rfl dX12_draw_26 (by decide) ?_
  obtain ⟨v3, hv3, h⟩ := Option.bind_eq_some_iff.mp h
  refine E_ldI 29 rfl dX12_draw_28 shc_150 hv3 ?_
  refine E_bipush (v := 16) 31 rfl dX12_draw_29 (by decide) ?_
  refine E_ishr 32 rfl dX12_draw_31 ?_
  refine E_sipush (v := 32767) 35 rfl dX12_draw_32 (by decide) ?_
  refine E_iand 36 rfl dX12_draw_35 ?_
  refine E_iload_n 37 rfl dX12_draw_36 rfl 1 rfl ?_
  obtain ⟨v4, hv4, h⟩ := Option.bind_eq_some_iff.mp h
  refine E_rmI 38 rfl dX12_draw_37 hv4 ?_
  cases h
  exact E_iret rfl dX12_draw_38
theorem C_X12_draw {g : Gx} {x1 : Int32} {I : MI} {L : ML} {res : Int32 × MI × ML} (h : f_X12_draw x1 I L = some res) : Ent g 1 0 mX12_draw [.ref 149, .int x1] (I, L) (.inl (some (.int res.1))) (res.2.1, res.2.2) := Ent_of (by decide +kernel) (Nat.le_of_ble_eq_true rfl) (S_X12_draw x1 I L _ h)
def f_X12_sounds_100 (y0 : Bool) (I : MI) (L : ML) : Option (Bool × MI × ML) := some (y0, I, L)
set_option maxRecDepth 100000 in
theorem S_X12_sounds_100 {g : Gx} (y0 : Bool) (I : MI) (L : ML) (res : Bool × MI × ML) (h : f_X12_sounds_100 y0 I L = some res) : E g 2 0 mX12_sounds 100 [] [.int (bI y0)] (I, L) (.inl (some (.int (bI res.1)))) (res.2.1, res.2.2) := by
  unfold f_X12_sounds_100 at h
  cases h
  exact E_zret (x := y0) rfl dX12_sounds_100
def f_X12_sounds (x1 : Int32) (I : MI) (L : ML) : Option (Bool × MI × ML) := Option.bind (f_X12_of x1 0 I L) fun v1 => if v1 = 0 then (Option.bind (f_X12_of x1 6 I L) fun v12 => Option.bind (ldI I 150 2143 7) fun v13 => Option.bind (f_X12_has v12 v13 I L) fun v14 => f_X12_sounds_100 v14 I L) else (if v1 = 1 then (Option.bind (ldI I 150 2143 9) fun v10 => if v10 = 1 then (f_X12_sounds_100 true I L) else (f_X12_sounds_100 false I L)) else (if v1 = 2 then (Option.bind (f_X12_draw 100 I L) fun w7 => Option.bind (f_X12_of x1 6 w7.2.1 w7.2.2) fun v8 => if v8 ≤ w7.1 then (f_X12_sounds_100 false w7.2.1 w7.2.2) else (f_X12_sounds_100 true w7.2.1 w7.2.2)) else (Option.bind (f_X12_of x1 9 I L) fun v5 => if v5 = 1 then (f_X12_sounds_100 true I L) else (f_X12_sounds_100 false I L))))
set_option maxRecDepth 100000 in
theorem S_X12_sounds {g : Gx} (x1 : Int32) (I : MI) (L : ML) (res : Bool × MI × ML) (h : f_X12_sounds x1 I L = some res) : E g 2 0 mX12_sounds 0 [(0, .ref 149), (1, .int x1)] [] (I, L) (.inl (some (.int (bI res.1)))) (res.2.1, res.2.2) := by
  unfold f_X12_sounds at h
  refine E_aload_n 1 rfl dX12_sounds_0 rfl 0 rfl ?_
  refine E_iload_n 2 rfl dX12_sounds_1 rfl 1 rfl ?_
  refine E_iconst (v := 0) 3 rfl dX12_sounds_2 (by decide) ?_
  obtain ⟨v1, hv1, h⟩ := Option.bind_eq_some_iff.mp h
  refine E_cV1 (As := [.int x1, .int 0]) 6 rfl dX12_sounds_3 shc_149 ck_X12_260 cv_X12_of rfl (by decide) (Nat.le_of_ble_eq_true rfl) (C_X12_of (g := g) hv1) rfl ?_
  refine E_istore_n (lv' := [(2, .int v1), (0, .ref 149), (1, .int x1)]) 7 rfl dX12_sounds_6 rfl (Nat.le_of_ble_eq_true rfl) rfl ?_
  refine E_iload_n 8 rfl dX12_sounds_7 rfl 0 rfl ?_
  refine E_if_ne 31 11 (by decide) rfl dX12_sounds_8 (fun c2 => ?_) (fun c2 => ?_)
  · rw [if_neg c2] at h
    refine E_iload_n 32 rfl dX12_sounds_31 rfl 0 rfl ?_
    refine E_iconst (v := 1) 33 rfl dX12_sounds_32 (by decide) ?_
    refine E_icmp_ne 55 36 (by decide) rfl dX12_sounds_33 (fun c3 => ?_) (fun c3 => ?_)
    · rw [if_neg c3] at h
      refine E_iload_n 56 rfl dX12_sounds_55 rfl 0 rfl ?_
      refine E_iconst (v := 2) 57 rfl dX12_sounds_56 (by decide) ?_
      refine E_icmp_ne 84 60 (by decide) rfl dX12_sounds_57 (fun c4 => ?_) (fun c4 => ?_)
      · rw [if_neg c4] at h
        refine E_aload_n 85 rfl dX12_sounds_84 rfl 1 rfl ?_
        refine E_iload_n 86 rfl dX12_sounds_85 rfl 2 rfl ?_
        refine E_bipush (v := 9) 88 rfl dX12_sounds_86 (by decide) ?_
        obtain ⟨v5, hv5, h⟩ := Option.bind_eq_some_iff.mp h
        refine E_cV1 (As := [.int x1, .int 9]) 91 rfl dX12_sounds_88 shc_149 ck_X12_260 cv_X12_of rfl (by decide) (Nat.le_of_ble_eq_true rfl) (C_X12_of (g := g) hv5) rfl ?_
        refine E_iconst (v := 1) 92 rfl dX12_sounds_91 (by decide) ?_
        refine E_icmp_ne 99 95 (by decide) rfl dX12_sounds_92 (fun c6 => ?_) (fun c6 => ?_)
        · rw [if_neg c6] at h
          refine E_iconst (v := 0) 100 rfl dX12_sounds_99 (by decide) ?_
          refine E_sub (lv' := []) [] rfl ?_
          exact S_X12_sounds_100 false I L _ h
        · rw [if_pos c6] at h
          refine E_iconst (v := 1) 96 rfl dX12_sounds_95 (by decide) ?_
          refine E_goto 100 (by decide) dX12_sounds_96 ?_
          refine E_sub (lv' := []) [] rfl ?_
          exact S_X12_sounds_100 true I L _ h
      · rw [if_pos c4] at h
        refine E_aload_n 61 rfl dX12_sounds_60 rfl 1 rfl ?_
        refine E_bipush (v := 100) 63 rfl dX12_sounds_61 (by decide) ?_
        obtain ⟨w7, hw7, h⟩ := Option.bind_eq_some_iff.mp h
        refine E_cV1 (As := [.int 100]) 66 rfl dX12_sounds_63 shc_149 ck_X12_313 cv_X12_draw rfl (by decide) (Nat.le_of_ble_eq_true rfl) (C_X12_draw (g := g) hw7) rfl ?_
        refine E_aload_n 67 rfl dX12_sounds_66 rfl 1 rfl ?_
        refine E_iload_n 68 rfl dX12_sounds_67 rfl 2 rfl ?_
        refine E_bipush (v := 6) 70 rfl dX12_sounds_68 (by decide) ?_
        obtain ⟨v8, hv8, h⟩ := Option.bind_eq_some_iff.mp h
        refine E_cV1 (As := [.int x1, .int 6]) 73 rfl dX12_sounds_70 shc_149 ck_X12_260 cv_X12_of rfl (by decide) (Nat.le_of_ble_eq_true rfl) (C_X12_of (g := g) hv8) rfl ?_
        refine E_icmp_ge 80 76 (by decide) rfl dX12_sounds_73 (fun c9 => ?_) (fun c9 => ?_)
        · rw [if_pos c9] at h
          refine E_iconst (v := 0) 81 rfl dX12_sounds_80 (by decide) ?_
          refine E_goto 100 (by decide) dX12_sounds_81 ?_
          refine E_sub (lv' := []) [] rfl ?_
          exact S_X12_sounds_100 false w7.2.1 w7.2.2 _ h
        · rw [if_neg c9] at h
          refine E_iconst (v := 1) 77 rfl dX12_sounds_76 (by decide) ?_
          refine E_goto 100 (by decide) dX12_sounds_77 ?_
          refine E_sub (lv' := []) [] rfl ?_
          exact S_X12_sounds_100 true w7.2.1 w7.2.2 _ h
    · rw [if_pos c3] at h
      refine E_aload_n 37 rfl dX12_sounds_36 rfl 1 rfl ?_
      refine E_gR 150 40 rfl dX12_sounds_37 shc_149 fl_X12_13 rfl (by decide) (by decide) ?_
      refine E_bipush (v := 9) 42 rfl dX12_sounds_40 (by decide) ?_
      obtain ⟨v10, hv10, h⟩ := Option.bind_eq_some_iff.mp h
      refine E_ldI 43 rfl dX12_sounds_42 shc_150 hv10 ?_
      refine E_iconst (v := 1) 44 rfl dX12_sounds_43 (by decide) ?_
      refine E_icmp_ne 51 47 (by decide) rfl dX12_sounds_44 (fun c11 => ?_) (fun c11 => ?_)
      · rw [if_neg c11] at h
        refine E_iconst (v := 0) 52 rfl dX12_sounds_51 (by decide) ?_
        refine E_goto 100 (by decide) dX12_sounds_52 ?_
        refine E_sub (lv' := []) [] rfl ?_
        exact S_X12_sounds_100 false I L _ h
      · rw [if_pos c11] at h
        refine E_iconst (v := 1) 48 rfl dX12_sounds_47 (by decide) ?_
        refine E_goto 100 (by decide) dX12_sounds_48 ?_
        refine E_sub (lv' := []) [] rfl ?_
        exact S_X12_sounds_100 true I L _ h
  · rw [if_pos c2] at h
    refine E_aload_n 12 rfl dX12_sounds_11 rfl 1 rfl ?_
    refine E_iload_n 13 rfl dX12_sounds_12 rfl 2 rfl ?_
    refine E_bipush (v := 6) 15 rfl dX12_sounds_13 (by decide) ?_
    obtain ⟨v12, hv12, h⟩ := Option.bind_eq_some_iff.mp h
    refine E_cV1 (As := [.int x1, .int 6]) 18 rfl dX12_sounds_15 shc_149 ck_X12_260 cv_X12_of rfl (by decide) (Nat.le_of_ble_eq_true rfl) (C_X12_of (g := g) hv12) rfl ?_
    refine E_aload_n 19 rfl dX12_sounds_18 rfl 1 rfl ?_
    refine E_gR 150 22 rfl dX12_sounds_19 shc_149 fl_X12_13 rfl (by decide) (by decide) ?_
    refine E_bipush (v := 7) 24 rfl dX12_sounds_22 (by decide) ?_
    obtain ⟨v13, hv13, h⟩ := Option.bind_eq_some_iff.mp h
    refine E_ldI 25 rfl dX12_sounds_24 shc_150 hv13 ?_
    obtain ⟨v14, hv14, h⟩ := Option.bind_eq_some_iff.mp h
    refine E_cS1 (As := [.int v12, .int v13]) 28 rfl dX12_sounds_25 ck_X12_289 ss_X12_has rfl (by decide) (Nat.le_of_ble_eq_true rfl) (C_X12_has (g := g) hv14) rfl ?_
    refine E_goto 100 (by decide) dX12_sounds_28 ?_
    refine E_sub (lv' := []) [] rfl ?_
    exact S_X12_sounds_100 v14 I L _ h
theorem C_X12_sounds {g : Gx} {x1 : Int32} {I : MI} {L : ML} {res : Bool × MI × ML} (h : f_X12_sounds x1 I L = some res) : Ent g 2 0 mX12_sounds [.ref 149, .int x1] (I, L) (.inl (some (.int (bI res.1)))) (res.2.1, res.2.2) := Ent_of (by decide +kernel) (Nat.le_of_ble_eq_true rfl) (S_X12_sounds x1 I L _ h)
def f_X12_pays_27 : Nat → Int32 → Int32 → MI → ML → Option (MI × ML)
  | 0, _, _, _, _ => none
  | n + 1, x2, x3, I, L => Option.bind (f_X12_heirs I L) fun v1 => if v1 ≤ x3 then (Option.bind (ldI I 150 2143 11) fun v3 => Option.bind (stI I 150 2143 11 (v3 + x2)) fun I4 => some (I4, L)) else (Option.bind (f_X12_ofHeir x3 2 I L) fun v5 => Option.bind (ldL L 159 6 x3) fun v6 => Option.bind (f_X12_setsHeir x3 2 (v5 + v6.toInt32) I L) fun w7 => f_X12_pays_27 n x2 (x3 + 1) w7.1 w7.2)
set_option maxRecDepth 100000 in
theorem S_X12_pays_27 {g : Gx} : ∀ (n : Nat) (x2 : Int32) (x3 : Int32) (I : MI) (L : ML) (res : MI × ML), f_X12_pays_27 n x2 x3 I L = some res → E g 11 0 mX12_pays 27 [(0, .ref 149), (2, .int x2), (3, .int x3)] [] (I, L) (.inl none) (res.1, res.2) := by
  intro n
  induction n with
  | zero =>
    intros
    rename_i h
    cases h
  | succ n ih =>
    intro x2 x3 I L res h
    rw [f_X12_pays_27] at h
    refine E_iload_n 28 rfl dX12_pays_27 rfl 2 rfl ?_
    refine E_aload_n 29 rfl dX12_pays_28 rfl 0 rfl ?_
    obtain ⟨v1, hv1, h⟩ := Option.bind_eq_some_iff.mp h
    refine E_cV1 (As := []) 32 rfl dX12_pays_29 shc_149 ck_X12_64 cv_X12_heirs rfl (by decide) (Nat.le_of_ble_eq_true rfl) (C_X12_heirs (g := g) hv1) rfl ?_
    refine E_icmp_ge 61 35 (by decide) rfl dX12_pays_32 (fun c2 => ?_) (fun c2 => ?_)
    · rw [if_pos c2] at h
      refine E_aload_n 62 rfl dX12_pays_61 rfl 0 rfl ?_
      refine E_gR 150 65 rfl dX12_pays_62 shc_149 fl_X12_13 rfl (by decide) (by decide) ?_
      refine E_bipush (v := 11) 67 rfl dX12_pays_65 (by decide) ?_
      refine E_dup2 68 rfl dX12_pays_67 rfl rfl ?_
      obtain ⟨v3, hv3, h⟩ := Option.bind_eq_some_iff.mp h
      refine E_ldI 69 rfl dX12_pays_68 shc_150 hv3 ?_
      refine E_iload_n 70 rfl dX12_pays_69 rfl 1 rfl ?_
      refine E_iadd 71 rfl dX12_pays_70 ?_
      obtain ⟨I4, hI4, h⟩ := Option.bind_eq_some_iff.mp h
      refine E_stI 72 rfl dX12_pays_71 shc_150 hI4 ?_
      cases h
      exact E_vret rfl dX12_pays_72
    · rw [if_neg c2] at h
      refine E_aload_n 36 rfl dX12_pays_35 rfl 0 rfl ?_
      refine E_iload_n 37 rfl dX12_pays_36 rfl 2 rfl ?_
      refine E_iconst (v := 2) 38 rfl dX12_pays_37 (by decide) ?_
      refine E_aload_n 39 rfl dX12_pays_38 rfl 0 rfl ?_
      refine E_iload_n 40 rfl dX12_pays_39 rfl 2 rfl ?_
      refine E_iconst (v := 2) 41 rfl dX12_pays_40 (by decide) ?_
      obtain ⟨v5, hv5, h⟩ := Option.bind_eq_some_iff.mp h
      refine E_cV1 (As := [.int x3, .int 2]) 44 rfl dX12_pays_41 shc_149 ck_X12_266 cv_X12_ofHeir rfl (by decide) (Nat.le_of_ble_eq_true rfl) (C_X12_ofHeir (g := g) hv5) rfl ?_
      refine E_aload_n 45 rfl dX12_pays_44 rfl 0 rfl ?_
      refine E_gR 159 48 rfl dX12_pays_45 shc_149 fl_X12_45 rfl (by decide) (by decide) ?_
      refine E_iload_n 49 rfl dX12_pays_48 rfl 2 rfl ?_
      obtain ⟨v6, hv6, h⟩ := Option.bind_eq_some_iff.mp h
      refine E_ldL 50 rfl dX12_pays_49 shc_159 hv6 ?_
      refine E_l2i 51 rfl dX12_pays_50 ?_
      refine E_iadd 52 rfl dX12_pays_51 ?_
      obtain ⟨w7, hw7, h⟩ := Option.bind_eq_some_iff.mp h
      refine E_cV0 (As := [.int x3, .int 2, .int (v5 + v6.toInt32)]) 55 rfl dX12_pays_52 shc_149 ck_X12_122 cv_X12_setsHeir rfl (by decide) (Nat.le_of_ble_eq_true rfl) (C_X12_setsHeir (g := g) hw7) rfl ?_
      refine E_iinc (j := 2) (v := x3 + 1) (lv' := [(3, .int (x3 + 1)), (0, .ref 149), (2, .int x2)]) 58 rfl dX12_pays_55 rfl rfl (Nat.le_of_ble_eq_true rfl) rfl ?_
      refine E_goto 27 (by decide) dX12_pays_58 ?_
      refine E_sub (lv' := [(0, .ref 149), (2, .int x2), (3, .int (x3 + 1))]) [1, 2, 0] rfl ?_
      exact ih x2 (x3 + 1) w7.1 w7.2 _ h
def f_X12_pays (x1 : Int32) (I : MI) (L : ML) : Option (MI × ML) := Option.bind (f_X12_of x1 4 I L) fun v1 => Option.bind (ldI I 150 2143 10) fun v2 => Option.bind (f_X12_parts x1 v1.toInt64 I L) fun w3 => Option.bind (stI w3.2.1 150 2143 10 (v2 + w3.1.toInt32)) fun I4 => f_X12_pays_27 FU v1 0 I4 w3.2.2
set_option maxRecDepth 100000 in
theorem S_X12_pays {g : Gx} (x1 : Int32) (I : MI) (L : ML) (res : MI × ML) (h : f_X12_pays x1 I L = some res) : E g 11 0 mX12_pays 0 [(0, .ref 149), (1, .int x1)] [] (I, L) (.inl none) (res.1, res.2) := by
  unfold f_X12_pays at h
  refine E_aload_n 1 rfl dX12_pays_0 rfl 0 rfl ?_
  refine E_iload_n 2 rfl dX12_pays_1 rfl 1 rfl ?_
  refine E_iconst (v := 4) 3 rfl dX12_pays_2 (by decide) ?_
  obtain ⟨v1, hv1, h⟩ := Option.bind_eq_some_iff.mp h
  refine E_cV1 (As := [.int x1, .int 4]) 6 rfl dX12_pays_3 shc_149 ck_X12_260 cv_X12_of rfl (by decide) (Nat.le_of_ble_eq_true rfl) (C_X12_of (g := g) hv1) rfl ?_
  refine E_istore_n (lv' := [(2, .int v1), (0, .ref 149), (1, .int x1)]) 7 rfl dX12_pays_6 rfl (Nat.le_of_ble_eq_true rfl) rfl ?_
  refine E_aload_n 8 rfl dX12_pays_7 rfl 1 rfl ?_
  refine E_gR 150 11 rfl dX12_pays_8 shc_149 fl_X12_13 rfl (by decide) (by decide) ?_
  refine E_bipush (v := 10) 13 rfl dX12_pays_11 (by decide) ?_
  refine E_dup2 14 rfl dX12_pays_13 rfl rfl ?_
  obtain ⟨v2, hv2, h⟩ := Option.bind_eq_some_iff.mp h
  refine E_ldI 15 rfl dX12_pays_14 shc_150 hv2 ?_
  refine E_aload_n 16 rfl dX12_pays_15 rfl 1 rfl ?_
  refine E_iload_n 17 rfl dX12_pays_16 rfl 2 rfl ?_
  refine E_iload_n 18 rfl dX12_pays_17 rfl 0 rfl ?_
  refine E_i2l 19 rfl dX12_pays_18 ?_
  obtain ⟨w3, hw3, h⟩ := Option.bind_eq_some_iff.mp h
  refine E_cV1 (As := [.int x1, .long v1.toInt64]) 22 rfl dX12_pays_19 shc_149 ck_X12_308 cv_X12_parts rfl (by decide) (Nat.le_of_ble_eq_true rfl) (C_X12_parts (g := g) hw3) rfl ?_
  refine E_l2i 23 rfl dX12_pays_22 ?_
  refine E_iadd 24 rfl dX12_pays_23 ?_
  obtain ⟨I4, hI4, h⟩ := Option.bind_eq_some_iff.mp h
  refine E_stI 25 rfl dX12_pays_24 shc_150 hI4 ?_
  refine E_iconst (v := 0) 26 rfl dX12_pays_25 (by decide) ?_
  refine E_istore_n (lv' := [(3, .int 0), (2, .int v1), (0, .ref 149), (1, .int x1)]) 27 rfl dX12_pays_26 rfl (Nat.le_of_ble_eq_true rfl) rfl ?_
  refine E_sub (lv' := [(0, .ref 149), (2, .int v1), (3, .int 0)]) [2, 1, 0] rfl ?_
  exact S_X12_pays_27 FU v1 0 I4 w3.2.2 _ h
theorem C_X12_pays {g : Gx} {x1 : Int32} {I : MI} {L : ML} {res : MI × ML} (h : f_X12_pays x1 I L = some res) : Ent g 11 0 mX12_pays [.ref 149, .int x1] (I, L) (.inl none) (res.1, res.2) := Ent_of (by decide +kernel) (Nat.le_of_ble_eq_true rfl) (S_X12_pays x1 I L _ h)
def f_X12_hour_218 (k185 : Int32 → MI → ML → Option (MI × ML)) (x1 : Int32) (y1 : Int32) (y2 : Int32) (I : MI) (L : ML) : Option (MI × ML) := Option.bind (stI I 150 2143 y1 y2) fun I1 => k185 (x1 + 1) I1 L
set_option maxRecDepth 100000 in
theorem S_X12_hour_218 {g : Gx} {k185 : Int32 → MI → ML → Option (MI × ML)} (hk185 : ∀ (x1z : Int32) (I : MI) (L : ML) (res : MI × ML), k185 x1z I L = some res → E g 12 0 mX12_hour 185 [(0, .ref 149), (1, .int x1z)] [] (I, L) (.inl none) (res.1, res.2)) (x1 : Int32) (y1 : Int32) (y2 : Int32) (I : MI) (L : ML) (res : MI × ML) (h : f_X12_hour_218 k185 x1 y1 y2 I L = some res) : E g 12 0 mX12_hour 218 [(0, .ref 149), (1, .int x1)] [.int y2, .int y1, .ref 150] (I, L) (.inl none) (res.1, res.2) := by
  unfold f_X12_hour_218 at h
  obtain ⟨I1, hI1, h⟩ := Option.bind_eq_some_iff.mp h
  refine E_stI 219 rfl dX12_hour_218 shc_150 hI1 ?_
  refine E_iinc (j := 1) (v := x1 + 1) (lv' := [(1, .int (x1 + 1)), (0, .ref 149)]) 222 rfl dX12_hour_219 rfl rfl (Nat.le_of_ble_eq_true rfl) rfl ?_
  refine E_goto 185 (by decide) dX12_hour_222 ?_
  refine E_sub (lv' := [(0, .ref 149), (1, .int (x1 + 1))]) [1, 0] rfl ?_
  exact hk185 (x1 + 1) I1 L _ h
def f_X12_hour_185 : Nat → Int32 → MI → ML → Option (MI × ML)
  | 0, _, _, _ => none
  | n + 1, x1, I, L => if 6 ≤ x1 then (Option.bind (ldI I 150 2143 14) fun v2 => Option.bind (stI I 150 2143 14 (if (v2 + 1) < 40 then (v2 + 1) else 40)) fun I3 => Option.bind (ldI I3 150 2143 7) fun v4 => Option.bind (stI I3 150 2143 7 (v4 + 1)) fun I5 => Option.bind (ldI I5 150 2143 7) fun v6 => if 24 ≤ v6 then (Option.bind (stI I5 150 2143 7 0) fun I8 => Option.bind (ldI I8 150 2143 6) fun v9 => Option.bind (stI I8 150 2143 6 (v9 + 1)) fun I10 => some (I10, L)) else (some (I5, L))) else (Option.bind (f_X12_heirs I L) fun v11 => if v11 ≤ x1 then (f_X12_hour_218 (f_X12_hour_185 n) x1 (205 + x1) ((-1)) I L) else (Option.bind (f_X12_ofHeir x1 0 I L) fun v13 => f_X12_hour_218 (f_X12_hour_185 n) x1 (205 + x1) v13 I L))
set_option maxRecDepth 100000 in
theorem S_X12_hour_185 {g : Gx} : ∀ (n : Nat) (x1 : Int32) (I : MI) (L : ML) (res : MI × ML), f_X12_hour_185 n x1 I L = some res → E g 12 0 mX12_hour 185 [(0, .ref 149), (1, .int x1)] [] (I, L) (.inl none) (res.1, res.2) := by
  intro n
  induction n with
  | zero =>
    intros
    rename_i h
    cases h
  | succ n ih =>
    intro x1 I L res h
    rw [f_X12_hour_185] at h
    refine E_iload_n 186 rfl dX12_hour_185 rfl 1 rfl ?_
    refine E_bipush (v := 6) 188 rfl dX12_hour_186 (by decide) ?_
    refine E_icmp_ge 225 191 (by decide) rfl dX12_hour_188 (fun c1 => ?_) (fun c1 => ?_)
    · rw [if_pos c1] at h
      refine E_aload_n 226 rfl dX12_hour_225 rfl 0 rfl ?_
      refine E_gR 150 229 rfl dX12_hour_226 shc_149 fl_X12_13 rfl (by decide) (by decide) ?_
      refine E_bipush (v := 14) 231 rfl dX12_hour_229 (by decide) ?_
      refine E_bipush (v := 40) 233 rfl dX12_hour_231 (by decide) ?_
      refine E_aload_n 234 rfl dX12_hour_233 rfl 0 rfl ?_
      refine E_gR 150 237 rfl dX12_hour_234 shc_149 fl_X12_13 rfl (by decide) (by decide) ?_
      refine E_bipush (v := 14) 239 rfl dX12_hour_237 (by decide) ?_
      obtain ⟨v2, hv2, h⟩ := Option.bind_eq_some_iff.mp h
      refine E_ldI 240 rfl dX12_hour_239 shc_150 hv2 ?_
      refine E_iconst (v := 1) 241 rfl dX12_hour_240 (by decide) ?_
      refine E_iadd 242 rfl dX12_hour_241 ?_
      refine E_min 245 rfl dX12_hour_242 jm_X12_255 (by decide) (Nat.le_of_ble_eq_true rfl) ?_
      obtain ⟨I3, hI3, h⟩ := Option.bind_eq_some_iff.mp h
      refine E_stI 246 rfl dX12_hour_245 shc_150 hI3 ?_
      refine E_aload_n 247 rfl dX12_hour_246 rfl 0 rfl ?_
      refine E_gR 150 250 rfl dX12_hour_247 shc_149 fl_X12_13 rfl (by decide) (by decide) ?_
      refine E_bipush (v := 7) 252 rfl dX12_hour_250 (by decide) ?_
      refine E_dup2 253 rfl dX12_hour_252 rfl rfl ?_
      obtain ⟨v4, hv4, h⟩ := Option.bind_eq_some_iff.mp h
      refine E_ldI 254 rfl dX12_hour_253 shc_150 hv4 ?_
      refine E_iconst (v := 1) 255 rfl dX12_hour_254 (by decide) ?_
      refine E_iadd 256 rfl dX12_hour_255 ?_
      obtain ⟨I5, hI5, h⟩ := Option.bind_eq_some_iff.mp h
      refine E_stI 257 rfl dX12_hour_256 shc_150 hI5 ?_
      refine E_aload_n 258 rfl dX12_hour_257 rfl 0 rfl ?_
      refine E_gR 150 261 rfl dX12_hour_258 shc_149 fl_X12_13 rfl (by decide) (by decide) ?_
      refine E_bipush (v := 7) 263 rfl dX12_hour_261 (by decide) ?_
      obtain ⟨v6, hv6, h⟩ := Option.bind_eq_some_iff.mp h
      refine E_ldI 264 rfl dX12_hour_263 shc_150 hv6 ?_
      refine E_bipush (v := 24) 266 rfl dX12_hour_264 (by decide) ?_
      refine E_icmp_ge 270 269 (by decide) rfl dX12_hour_266 (fun c7 => ?_) (fun c7 => ?_)
      · rw [if_pos c7] at h
        refine E_aload_n 271 rfl dX12_hour_270 rfl 0 rfl ?_
        refine E_gR 150 274 rfl dX12_hour_271 shc_149 fl_X12_13 rfl (by decide) (by decide) ?_
        refine E_bipush (v := 7) 276 rfl dX12_hour_274 (by decide) ?_
        refine E_iconst (v := 0) 277 rfl dX12_hour_276 (by decide) ?_
        obtain ⟨I8, hI8, h⟩ := Option.bind_eq_some_iff.mp h
        refine E_stI 278 rfl dX12_hour_277 shc_150 hI8 ?_
        refine E_aload_n 279 rfl dX12_hour_278 rfl 0 rfl ?_
        refine E_gR 150 282 rfl dX12_hour_279 shc_149 fl_X12_13 rfl (by decide) (by decide) ?_
        refine E_bipush (v := 6) 284 rfl dX12_hour_282 (by decide) ?_
        refine E_dup2 285 rfl dX12_hour_284 rfl rfl ?_
        obtain ⟨v9, hv9, h⟩ := Option.bind_eq_some_iff.mp h
        refine E_ldI 286 rfl dX12_hour_285 shc_150 hv9 ?_
        refine E_iconst (v := 1) 287 rfl dX12_hour_286 (by decide) ?_
        refine E_iadd 288 rfl dX12_hour_287 ?_
        obtain ⟨I10, hI10, h⟩ := Option.bind_eq_some_iff.mp h
        refine E_stI 289 rfl dX12_hour_288 shc_150 hI10 ?_
        cases h
        exact E_vret rfl dX12_hour_289
      · rw [if_neg c7] at h
        cases h
        exact E_vret rfl dX12_hour_269
    · rw [if_neg c1] at h
      refine E_aload_n 192 rfl dX12_hour_191 rfl 0 rfl ?_
      refine E_gR 150 195 rfl dX12_hour_192 shc_149 fl_X12_13 rfl (by decide) (by decide) ?_
      refine E_sipush (v := 205) 198 rfl dX12_hour_195 (by decide) ?_
      refine E_iload_n 199 rfl dX12_hour_198 rfl 1 rfl ?_
      refine E_iadd 200 rfl dX12_hour_199 ?_
      refine E_iload_n 201 rfl dX12_hour_200 rfl 1 rfl ?_
      refine E_aload_n 202 rfl dX12_hour_201 rfl 0 rfl ?_
      obtain ⟨v11, hv11, h⟩ := Option.bind_eq_some_iff.mp h
      refine E_cV1 (As := []) 205 rfl dX12_hour_202 shc_149 ck_X12_64 cv_X12_heirs rfl (by decide) (Nat.le_of_ble_eq_true rfl) (C_X12_heirs (g := g) hv11) rfl ?_
      refine E_icmp_ge 217 208 (by decide) rfl dX12_hour_205 (fun c12 => ?_) (fun c12 => ?_)
      · rw [if_pos c12] at h
        refine E_iconst (v := (-1)) 218 rfl dX12_hour_217 (by decide) ?_
        refine E_sub (lv' := [(0, .ref 149), (1, .int x1)]) [0, 1] rfl ?_
        exact S_X12_hour_218 ih x1 (205 + x1) ((-1)) I L _ h
      · rw [if_neg c12] at h
        refine E_aload_n 209 rfl dX12_hour_208 rfl 0 rfl ?_
        refine E_iload_n 210 rfl dX12_hour_209 rfl 1 rfl ?_
        refine E_iconst (v := 0) 211 rfl dX12_hour_210 (by decide) ?_
        obtain ⟨v13, hv13, h⟩ := Option.bind_eq_some_iff.mp h
        refine E_cV1 (As := [.int x1, .int 0]) 214 rfl dX12_hour_211 shc_149 ck_X12_266 cv_X12_ofHeir rfl (by decide) (Nat.le_of_ble_eq_true rfl) (C_X12_ofHeir (g := g) hv13) rfl ?_
        refine E_goto 218 (by decide) dX12_hour_214 ?_
        refine E_sub (lv' := [(0, .ref 149), (1, .int x1)]) [0, 1] rfl ?_
        exact S_X12_hour_218 ih x1 (205 + x1) v13 I L _ h
def f_X12_hour_148 : Nat → Int32 → MI → ML → Option (MI × ML)
  | 0, _, _, _ => none
  | n + 1, x1, I, L => if x1 < 6 then (f_X12_hour_185 FU 0 I L) else (Option.bind (ldI I 150 2143 ((205 + x1) - 6)) fun v2 => Option.bind (stI I 150 2143 (205 + x1) v2) fun I3 => f_X12_hour_148 n (x1 + (-1)) I3 L)
set_option maxRecDepth 100000 in
theorem S_X12_hour_148 {g : Gx} : ∀ (n : Nat) (x1 : Int32) (I : MI) (L : ML) (res : MI × ML), f_X12_hour_148 n x1 I L = some res → E g 12 0 mX12_hour 148 [(0, .ref 149), (1, .int x1)] [] (I, L) (.inl none) (res.1, res.2) := by
  intro n
  induction n with
  | zero =>
    intros
    rename_i h
    cases h
  | succ n ih =>
    intro x1 I L res h
    rw [f_X12_hour_148] at h
    refine E_iload_n 149 rfl dX12_hour_148 rfl 1 rfl ?_
    refine E_bipush (v := 6) 151 rfl dX12_hour_149 (by decide) ?_
    refine E_icmp_lt 183 154 (by decide) rfl dX12_hour_151 (fun c1 => ?_) (fun c1 => ?_)
    · rw [if_pos c1] at h
      refine E_iconst (v := 0) 184 rfl dX12_hour_183 (by decide) ?_
      refine E_istore_n (lv' := [(1, .int 0), (0, .ref 149)]) 185 rfl dX12_hour_184 rfl (Nat.le_of_ble_eq_true rfl) rfl ?_
      refine E_sub (lv' := [(0, .ref 149), (1, .int 0)]) [1, 0] rfl ?_
      exact S_X12_hour_185 FU 0 I L _ h
    · rw [if_neg c1] at h
      refine E_aload_n 155 rfl dX12_hour_154 rfl 0 rfl ?_
      refine E_gR 150 158 rfl dX12_hour_155 shc_149 fl_X12_13 rfl (by decide) (by decide) ?_
      refine E_sipush (v := 205) 161 rfl dX12_hour_158 (by decide) ?_
      refine E_iload_n 162 rfl dX12_hour_161 rfl 1 rfl ?_
      refine E_iadd 163 rfl dX12_hour_162 ?_
      refine E_aload_n 164 rfl dX12_hour_163 rfl 0 rfl ?_
      refine E_gR 150 167 rfl dX12_hour_164 shc_149 fl_X12_13 rfl (by decide) (by decide) ?_
      refine E_sipush (v := 205) 170 rfl dX12_hour_167 (by decide) ?_
      refine E_iload_n 171 rfl dX12_hour_170 rfl 1 rfl ?_
      refine E_iadd 172 rfl dX12_hour_171 ?_
      refine E_bipush (v := 6) 174 rfl dX12_hour_172 (by decide) ?_
      refine E_isub 175 rfl dX12_hour_174 ?_
      obtain ⟨v2, hv2, h⟩ := Option.bind_eq_some_iff.mp h
      refine E_ldI 176 rfl dX12_hour_175 shc_150 hv2 ?_
      obtain ⟨I3, hI3, h⟩ := Option.bind_eq_some_iff.mp h
      refine E_stI 177 rfl dX12_hour_176 shc_150 hI3 ?_
      refine E_iinc (j := 1) (v := x1 + (-1)) (lv' := [(1, .int (x1 + (-1))), (0, .ref 149)]) 180 rfl dX12_hour_177 rfl rfl (Nat.le_of_ble_eq_true rfl) rfl ?_
      refine E_goto 148 (by decide) dX12_hour_180 ?_
      refine E_sub (lv' := [(0, .ref 149), (1, .int (x1 + (-1)))]) [1, 0] rfl ?_
      exact ih (x1 + (-1)) I3 L _ h
def f_X12_hour_122 : Nat → Int32 → MI → ML → Option (MI × ML)
  | 0, _, _, _ => none
  | n + 1, x1, I, L => Option.bind (f_X12_noises I L) fun v1 => if v1 ≤ x1 then (f_X12_hour_148 FU 239 I L) else (Option.bind (f_X12_sets x1 9 0 I L) fun w3 => f_X12_hour_122 n (x1 + 1) w3.1 w3.2)
set_option maxRecDepth 100000 in
theorem S_X12_hour_122 {g : Gx} : ∀ (n : Nat) (x1 : Int32) (I : MI) (L : ML) (res : MI × ML), f_X12_hour_122 n x1 I L = some res → E g 12 0 mX12_hour 122 [(0, .ref 149), (1, .int x1)] [] (I, L) (.inl none) (res.1, res.2) := by
  intro n
  induction n with
  | zero =>
    intros
    rename_i h
    cases h
  | succ n ih =>
    intro x1 I L res h
    rw [f_X12_hour_122] at h
    refine E_iload_n 123 rfl dX12_hour_122 rfl 1 rfl ?_
    refine E_aload_n 124 rfl dX12_hour_123 rfl 0 rfl ?_
    obtain ⟨v1, hv1, h⟩ := Option.bind_eq_some_iff.mp h
    refine E_cV1 (As := []) 127 rfl dX12_hour_124 shc_149 ck_X12_67 cv_X12_noises rfl (by decide) (Nat.le_of_ble_eq_true rfl) (C_X12_noises (g := g) hv1) rfl ?_
    refine E_icmp_ge 144 130 (by decide) rfl dX12_hour_127 (fun c2 => ?_) (fun c2 => ?_)
    · rw [if_pos c2] at h
      refine E_sipush (v := 239) 147 rfl dX12_hour_144 (by decide) ?_
      refine E_istore_n (lv' := [(1, .int 239), (0, .ref 149)]) 148 rfl dX12_hour_147 rfl (Nat.le_of_ble_eq_true rfl) rfl ?_
      refine E_sub (lv' := [(0, .ref 149), (1, .int 239)]) [1, 0] rfl ?_
      exact S_X12_hour_148 FU 239 I L _ h
    · rw [if_neg c2] at h
      refine E_aload_n 131 rfl dX12_hour_130 rfl 0 rfl ?_
      refine E_iload_n 132 rfl dX12_hour_131 rfl 1 rfl ?_
      refine E_bipush (v := 9) 134 rfl dX12_hour_132 (by decide) ?_
      refine E_iconst (v := 0) 135 rfl dX12_hour_134 (by decide) ?_
      obtain ⟨w3, hw3, h⟩ := Option.bind_eq_some_iff.mp h
      refine E_cV0 (As := [.int x1, .int 9, .int 0]) 138 rfl dX12_hour_135 shc_149 ck_X12_143 cv_X12_sets rfl (by decide) (Nat.le_of_ble_eq_true rfl) (C_X12_sets (g := g) hw3) rfl ?_
      refine E_iinc (j := 1) (v := x1 + 1) (lv' := [(1, .int (x1 + 1)), (0, .ref 149)]) 141 rfl dX12_hour_138 rfl rfl (Nat.le_of_ble_eq_true rfl) rfl ?_
      refine E_goto 122 (by decide) dX12_hour_141 ?_
      refine E_sub (lv' := [(0, .ref 149), (1, .int (x1 + 1))]) [1, 0] rfl ?_
      exact ih (x1 + 1) w3.1 w3.2 _ h
def f_X12_hour_114 (k30 : Int32 → MI → ML → Option (MI × ML)) (x1 : Int32) (I : MI) (L : ML) : Option (MI × ML) := k30 (x1 + 1) I L
set_option maxRecDepth 100000 in
theorem S_X12_hour_114 {g : Gx} {k30 : Int32 → MI → ML → Option (MI × ML)} (hk30 : ∀ (x1z : Int32) (I : MI) (L : ML) (res : MI × ML), k30 x1z I L = some res → E g 12 0 mX12_hour 30 [(0, .ref 149), (1, .int x1z)] [] (I, L) (.inl none) (res.1, res.2)) (x1 : Int32) (I : MI) (L : ML) (res : MI × ML) (h : f_X12_hour_114 k30 x1 I L = some res) : E g 12 0 mX12_hour 114 [(0, .ref 149), (1, .int x1)] [] (I, L) (.inl none) (res.1, res.2) := by
  unfold f_X12_hour_114 at h
  refine E_iinc (j := 1) (v := x1 + 1) (lv' := [(1, .int (x1 + 1)), (0, .ref 149)]) 117 rfl dX12_hour_114 rfl rfl (Nat.le_of_ble_eq_true rfl) rfl ?_
  refine E_goto 30 (by decide) dX12_hour_117 ?_
  refine E_sub (lv' := [(0, .ref 149), (1, .int (x1 + 1))]) [1, 0] rfl ?_
  exact hk30 (x1 + 1) I L _ h
def f_X12_hour_62 (k30 : Int32 → MI → ML → Option (MI × ML)) (x1 : Int32) (I : MI) (L : ML) : Option (MI × ML) := Option.bind (ldI I 150 2143 6) fun v1 => Option.bind (ldI I 150 2143 7) fun v2 => Option.bind (f_X12_sets x1 7 ((24 * v1) + v2) I L) fun w3 => Option.bind (f_X12_of x1 8 w3.1 w3.2) fun v4 => Option.bind (f_X12_sets x1 8 (v4 + 1) w3.1 w3.2) fun w5 => Option.bind (ldI w5.1 150 2143 12) fun v6 => Option.bind (stI w5.1 150 2143 12 (v6 + 1)) fun I7 => f_X12_hour_114 k30 x1 I7 w5.2
set_option maxRecDepth 100000 in
theorem S_X12_hour_62 {g : Gx} {k30 : Int32 → MI → ML → Option (MI × ML)} (hk30 : ∀ (x1z : Int32) (I : MI) (L : ML) (res : MI × ML), k30 x1z I L = some res → E g 12 0 mX12_hour 30 [(0, .ref 149), (1, .int x1z)] [] (I, L) (.inl none) (res.1, res.2)) (x1 : Int32) (I : MI) (L : ML) (res : MI × ML) (h : f_X12_hour_62 k30 x1 I L = some res) : E g 12 0 mX12_hour 62 [(0, .ref 149), (1, .int x1)] [] (I, L) (.inl none) (res.1, res.2) := by
  unfold f_X12_hour_62 at h
  refine E_aload_n 63 rfl dX12_hour_62 rfl 0 rfl ?_
  refine E_iload_n 64 rfl dX12_hour_63 rfl 1 rfl ?_
  refine E_bipush (v := 7) 66 rfl dX12_hour_64 (by decide) ?_
  refine E_bipush (v := 24) 68 rfl dX12_hour_66 (by decide) ?_
  refine E_aload_n 69 rfl dX12_hour_68 rfl 0 rfl ?_
  refine E_gR 150 72 rfl dX12_hour_69 shc_149 fl_X12_13 rfl (by decide) (by decide) ?_
  refine E_bipush (v := 6) 74 rfl dX12_hour_72 (by decide) ?_
  obtain ⟨v1, hv1, h⟩ := Option.bind_eq_some_iff.mp h
  refine E_ldI 75 rfl dX12_hour_74 shc_150 hv1 ?_
  refine E_imul 76 rfl dX12_hour_75 ?_
  refine E_aload_n 77 rfl dX12_hour_76 rfl 0 rfl ?_
  refine E_gR 150 80 rfl dX12_hour_77 shc_149 fl_X12_13 rfl (by decide) (by decide) ?_
  refine E_bipush (v := 7) 82 rfl dX12_hour_80 (by decide) ?_
  obtain ⟨v2, hv2, h⟩ := Option.bind_eq_some_iff.mp h
  refine E_ldI 83 rfl dX12_hour_82 shc_150 hv2 ?_
  refine E_iadd 84 rfl dX12_hour_83 ?_
  obtain ⟨w3, hw3, h⟩ := Option.bind_eq_some_iff.mp h
  refine E_cV0 (As := [.int x1, .int 7, .int ((24 * v1) + v2)]) 87 rfl dX12_hour_84 shc_149 ck_X12_143 cv_X12_sets rfl (by decide) (Nat.le_of_ble_eq_true rfl) (C_X12_sets (g := g) hw3) rfl ?_
  refine E_aload_n 88 rfl dX12_hour_87 rfl 0 rfl ?_
  refine E_iload_n 89 rfl dX12_hour_88 rfl 1 rfl ?_
  refine E_bipush (v := 8) 91 rfl dX12_hour_89 (by decide) ?_
  refine E_aload_n 92 rfl dX12_hour_91 rfl 0 rfl ?_
  refine E_iload_n 93 rfl dX12_hour_92 rfl 1 rfl ?_
  refine E_bipush (v := 8) 95 rfl dX12_hour_93 (by decide) ?_
  obtain ⟨v4, hv4, h⟩ := Option.bind_eq_some_iff.mp h
  refine E_cV1 (As := [.int x1, .int 8]) 98 rfl dX12_hour_95 shc_149 ck_X12_260 cv_X12_of rfl (by decide) (Nat.le_of_ble_eq_true rfl) (C_X12_of (g := g) hv4) rfl ?_
  refine E_iconst (v := 1) 99 rfl dX12_hour_98 (by decide) ?_
  refine E_iadd 100 rfl dX12_hour_99 ?_
  obtain ⟨w5, hw5, h⟩ := Option.bind_eq_some_iff.mp h
  refine E_cV0 (As := [.int x1, .int 8, .int (v4 + 1)]) 103 rfl dX12_hour_100 shc_149 ck_X12_143 cv_X12_sets rfl (by decide) (Nat.le_of_ble_eq_true rfl) (C_X12_sets (g := g) hw5) rfl ?_
  refine E_aload_n 104 rfl dX12_hour_103 rfl 0 rfl ?_
  refine E_gR 150 107 rfl dX12_hour_104 shc_149 fl_X12_13 rfl (by decide) (by decide) ?_
  refine E_bipush (v := 12) 109 rfl dX12_hour_107 (by decide) ?_
  refine E_dup2 110 rfl dX12_hour_109 rfl rfl ?_
  obtain ⟨v6, hv6, h⟩ := Option.bind_eq_some_iff.mp h
  refine E_ldI 111 rfl dX12_hour_110 shc_150 hv6 ?_
  refine E_iconst (v := 1) 112 rfl dX12_hour_111 (by decide) ?_
  refine E_iadd 113 rfl dX12_hour_112 ?_
  obtain ⟨I7, hI7, h⟩ := Option.bind_eq_some_iff.mp h
  refine E_stI 114 rfl dX12_hour_113 shc_150 hI7 ?_
  refine E_sub (lv' := [(0, .ref 149), (1, .int x1)]) [0, 1] rfl ?_
  exact S_X12_hour_114 hk30 x1 I7 w5.2 _ h
def f_X12_hour_30 : Nat → Int32 → MI → ML → Option (MI × ML)
  | 0, _, _, _ => none
  | n + 1, x1, I, L => Option.bind (f_X12_noises I L) fun v1 => if v1 ≤ x1 then (f_X12_hour_122 FU 0 I L) else (Option.bind (f_X12_sounds x1 I L) fun w3 => if w3.1 = true then (Option.bind (f_X12_isHeard x1 w3.2.1 w3.2.2) fun v5 => if v5 = true then (Option.bind (f_X12_pays x1 w3.2.1 w3.2.2) fun w7 => f_X12_hour_62 (f_X12_hour_30 n) x1 w7.1 w7.2) else (f_X12_hour_62 (f_X12_hour_30 n) x1 w3.2.1 w3.2.2)) else (f_X12_hour_114 (f_X12_hour_30 n) x1 w3.2.1 w3.2.2))
set_option maxRecDepth 100000 in
theorem S_X12_hour_30 {g : Gx} : ∀ (n : Nat) (x1 : Int32) (I : MI) (L : ML) (res : MI × ML), f_X12_hour_30 n x1 I L = some res → E g 12 0 mX12_hour 30 [(0, .ref 149), (1, .int x1)] [] (I, L) (.inl none) (res.1, res.2) := by
  intro n
  induction n with
  | zero =>
    intros
    rename_i h
    cases h
  | succ n ih =>
    intro x1 I L res h
    rw [f_X12_hour_30] at h
    refine E_iload_n 31 rfl dX12_hour_30 rfl 1 rfl ?_
    refine E_aload_n 32 rfl dX12_hour_31 rfl 0 rfl ?_
    obtain ⟨v1, hv1, h⟩ := Option.bind_eq_some_iff.mp h
    refine E_cV1 (As := []) 35 rfl dX12_hour_32 shc_149 ck_X12_67 cv_X12_noises rfl (by decide) (Nat.le_of_ble_eq_true rfl) (C_X12_noises (g := g) hv1) rfl ?_
    refine E_icmp_ge 120 38 (by decide) rfl dX12_hour_35 (fun c2 => ?_) (fun c2 => ?_)
    · rw [if_pos c2] at h
      refine E_iconst (v := 0) 121 rfl dX12_hour_120 (by decide) ?_
      refine E_istore_n (lv' := [(1, .int 0), (0, .ref 149)]) 122 rfl dX12_hour_121 rfl (Nat.le_of_ble_eq_true rfl) rfl ?_
      refine E_sub (lv' := [(0, .ref 149), (1, .int 0)]) [1, 0] rfl ?_
      exact S_X12_hour_122 FU 0 I L _ h
    · rw [if_neg c2] at h
      refine E_aload_n 39 rfl dX12_hour_38 rfl 0 rfl ?_
      refine E_iload_n 40 rfl dX12_hour_39 rfl 1 rfl ?_
      obtain ⟨w3, hw3, h⟩ := Option.bind_eq_some_iff.mp h
      refine E_cV1 (As := [.int x1]) 43 rfl dX12_hour_40 shc_149 ck_X12_317 cv_X12_sounds rfl (by decide) (Nat.le_of_ble_eq_true rfl) (C_X12_sounds (g := g) hw3) rfl ?_
      refine E_if_neB 49 46 (by decide) rfl dX12_hour_43 (fun c4 => ?_) (fun c4 => ?_)
      · rw [if_pos c4] at h
        refine E_aload_n 50 rfl dX12_hour_49 rfl 0 rfl ?_
        refine E_iload_n 51 rfl dX12_hour_50 rfl 1 rfl ?_
        obtain ⟨v5, hv5, h⟩ := Option.bind_eq_some_iff.mp h
        refine E_cV1 (As := [.int x1]) 54 rfl dX12_hour_51 shc_149 ck_X12_320 cv_X12_isHeard rfl (by decide) (Nat.le_of_ble_eq_true rfl) (C_X12_isHeard (g := g) hv5) rfl ?_
        refine E_if_eqB 62 57 (by decide) rfl dX12_hour_54 (fun c6 => ?_) (fun c6 => ?_)
        · rw [if_neg (by rw [c6]; decide)] at h
          refine E_sub (lv' := [(0, .ref 149), (1, .int x1)]) [0, 1] rfl ?_
          exact S_X12_hour_62 ih x1 w3.2.1 w3.2.2 _ h
        · rw [if_pos c6] at h
          refine E_aload_n 58 rfl dX12_hour_57 rfl 0 rfl ?_
          refine E_iload_n 59 rfl dX12_hour_58 rfl 1 rfl ?_
          obtain ⟨w7, hw7, h⟩ := Option.bind_eq_some_iff.mp h
          refine E_cV0 (As := [.int x1]) 62 rfl dX12_hour_59 shc_149 ck_X12_323 cv_X12_pays rfl (by decide) (Nat.le_of_ble_eq_true rfl) (C_X12_pays (g := g) hw7) rfl ?_
          refine E_sub (lv' := [(0, .ref 149), (1, .int x1)]) [0, 1] rfl ?_
          exact S_X12_hour_62 ih x1 w7.1 w7.2 _ h
      · rw [if_neg (by rw [c4]; decide)] at h
        refine E_goto 114 (by decide) dX12_hour_46 ?_
        refine E_sub (lv' := [(0, .ref 149), (1, .int x1)]) [0, 1] rfl ?_
        exact S_X12_hour_114 ih x1 w3.2.1 w3.2.2 _ h
def f_X12_hour_27 (y1 : Int32) (y2 : Bool) (I : MI) (L : ML) : Option (MI × ML) := Option.bind (stI I 150 2143 y1 (bI y2)) fun I1 => f_X12_hour_30 FU 0 I1 L
set_option maxRecDepth 100000 in
theorem S_X12_hour_27 {g : Gx} (y1 : Int32) (y2 : Bool) (I : MI) (L : ML) (res : MI × ML) (h : f_X12_hour_27 y1 y2 I L = some res) : E g 12 0 mX12_hour 27 [(0, .ref 149)] [.int (bI y2), .int y1, .ref 150] (I, L) (.inl none) (res.1, res.2) := by
  unfold f_X12_hour_27 at h
  obtain ⟨I1, hI1, h⟩ := Option.bind_eq_some_iff.mp h
  refine E_stI 28 rfl dX12_hour_27 shc_150 hI1 ?_
  refine E_iconst (v := 0) 29 rfl dX12_hour_28 (by decide) ?_
  refine E_istore_n (lv' := [(1, .int 0), (0, .ref 149)]) 30 rfl dX12_hour_29 rfl (Nat.le_of_ble_eq_true rfl) rfl ?_
  refine E_sub (lv' := [(0, .ref 149), (1, .int 0)]) [1, 0] rfl ?_
  exact S_X12_hour_30 FU 0 I1 L _ h
def f_X12_hour (I : MI) (L : ML) : Option (MI × ML) := Option.bind (f_X12_draw 100 I L) fun w1 => Option.bind (ldI w1.2.1 150 2143 8) fun v2 => if v2 ≤ w1.1 then (f_X12_hour_27 9 false w1.2.1 w1.2.2) else (f_X12_hour_27 9 true w1.2.1 w1.2.2)
set_option maxRecDepth 100000 in
theorem S_X12_hour {g : Gx} (I : MI) (L : ML) (res : MI × ML) (h : f_X12_hour I L = some res) : E g 12 0 mX12_hour 0 [(0, .ref 149)] [] (I, L) (.inl none) (res.1, res.2) := by
  unfold f_X12_hour at h
  refine E_aload_n 1 rfl dX12_hour_0 rfl 0 rfl ?_
  refine E_gR 150 4 rfl dX12_hour_1 shc_149 fl_X12_13 rfl (by decide) (by decide) ?_
  refine E_bipush (v := 9) 6 rfl dX12_hour_4 (by decide) ?_
  refine E_aload_n 7 rfl dX12_hour_6 rfl 0 rfl ?_
  refine E_bipush (v := 100) 9 rfl dX12_hour_7 (by decide) ?_
  obtain ⟨w1, hw1, h⟩ := Option.bind_eq_some_iff.mp h
  refine E_cV1 (As := [.int 100]) 12 rfl dX12_hour_9 shc_149 ck_X12_313 cv_X12_draw rfl (by decide) (Nat.le_of_ble_eq_true rfl) (C_X12_draw (g := g) hw1) rfl ?_
  refine E_aload_n 13 rfl dX12_hour_12 rfl 0 rfl ?_
  refine E_gR 150 16 rfl dX12_hour_13 shc_149 fl_X12_13 rfl (by decide) (by decide) ?_
  refine E_bipush (v := 8) 18 rfl dX12_hour_16 (by decide) ?_
  obtain ⟨v2, hv2, h⟩ := Option.bind_eq_some_iff.mp h
  refine E_ldI 19 rfl dX12_hour_18 shc_150 hv2 ?_
  refine E_icmp_ge 26 22 (by decide) rfl dX12_hour_19 (fun c3 => ?_) (fun c3 => ?_)
  · rw [if_pos c3] at h
    refine E_iconst (v := 0) 27 rfl dX12_hour_26 (by decide) ?_
    refine E_sub (lv' := [(0, .ref 149)]) [0] rfl ?_
    exact S_X12_hour_27 9 false w1.2.1 w1.2.2 _ h
  · rw [if_neg c3] at h
    refine E_iconst (v := 1) 23 rfl dX12_hour_22 (by decide) ?_
    refine E_goto 27 (by decide) dX12_hour_23 ?_
    refine E_sub (lv' := [(0, .ref 149)]) [0] rfl ?_
    exact S_X12_hour_27 9 true w1.2.1 w1.2.2 _ h
theorem C_X12_hour {g : Gx} {I : MI} {L : ML} {res : MI × ML} (h : f_X12_hour I L = some res) : Ent g 12 0 mX12_hour [.ref 149] (I, L) (.inl none) (res.1, res.2) := Ent_of (by decide +kernel) (Nat.le_of_ble_eq_true rfl) (S_X12_hour I L _ h)
def f_X12_hours_45 : Nat → Int32 → Int32 → Int32 → MI → ML → Option (Int32 × MI × ML)
  | 0, _, _, _, _, _ => none
  | n + 1, x1, x2, x3, I, L => if x1 ≤ x3 then (Option.bind (pfI I 149 6 0) fun I2 => Option.bind (ldI I2 150 2143 12) fun v3 => some (v3 - x2, I2, L)) else (Option.bind (f_X12_hour I L) fun w4 => f_X12_hours_45 n x1 x2 (x3 + 1) w4.1 w4.2)
set_option maxRecDepth 100000 in
theorem S_X12_hours_45 {g : Gx} : ∀ (n : Nat) (x1 : Int32) (x2 : Int32) (x3 : Int32) (I : MI) (L : ML) (res : Int32 × MI × ML), f_X12_hours_45 n x1 x2 x3 I L = some res → E g 13 0 mX12_hours 45 [(0, .ref 149), (1, .int x1), (2, .int x2), (3, .int x3)] [] (I, L) (.inl (some (.int res.1))) (res.2.1, res.2.2) := by
  intro n
  induction n with
  | zero =>
    intros
    rename_i h
    cases h
  | succ n ih =>
    intro x1 x2 x3 I L res h
    rw [f_X12_hours_45] at h
    refine E_iload_n 46 rfl dX12_hours_45 rfl 3 rfl ?_
    refine E_iload_n 47 rfl dX12_hours_46 rfl 1 rfl ?_
    refine E_icmp_ge 60 50 (by decide) rfl dX12_hours_47 (fun c1 => ?_) (fun c1 => ?_)
    · rw [if_pos c1] at h
      refine E_aload_n 61 rfl dX12_hours_60 rfl 0 rfl ?_
      refine E_iconst (v := 0) 62 rfl dX12_hours_61 (by decide) ?_
      obtain ⟨I2, hI2, h⟩ := Option.bind_eq_some_iff.mp h
      refine E_pfI 65 rfl dX12_hours_62 shc_149 fl_X12_53 rfl hI2 ?_
      refine E_aload_n 66 rfl dX12_hours_65 rfl 0 rfl ?_
      refine E_gR 150 69 rfl dX12_hours_66 shc_149 fl_X12_13 rfl (by decide) (by decide) ?_
      refine E_bipush (v := 12) 71 rfl dX12_hours_69 (by decide) ?_
      obtain ⟨v3, hv3, h⟩ := Option.bind_eq_some_iff.mp h
      refine E_ldI 72 rfl dX12_hours_71 shc_150 hv3 ?_
      refine E_iload_n 73 rfl dX12_hours_72 rfl 2 rfl ?_
      refine E_isub 74 rfl dX12_hours_73 ?_
      cases h
      exact E_iret rfl dX12_hours_74
    · rw [if_neg c1] at h
      refine E_aload_n 51 rfl dX12_hours_50 rfl 0 rfl ?_
      obtain ⟨w4, hw4, h⟩ := Option.bind_eq_some_iff.mp h
      refine E_cV0 (As := []) 54 rfl dX12_hours_51 shc_149 ck_X12_327 cv_X12_hour rfl (by decide) (Nat.le_of_ble_eq_true rfl) (C_X12_hour (g := g) hw4) rfl ?_
      refine E_iinc (j := 3) (v := x3 + 1) (lv' := [(3, .int (x3 + 1)), (0, .ref 149), (1, .int x1), (2, .int x2)]) 57 rfl dX12_hours_54 rfl rfl (Nat.le_of_ble_eq_true rfl) rfl ?_
      refine E_goto 45 (by decide) dX12_hours_57 ?_
      refine E_sub (lv' := [(0, .ref 149), (1, .int x1), (2, .int x2), (3, .int (x3 + 1))]) [1, 2, 3, 0] rfl ?_
      exact ih x1 x2 (x3 + 1) w4.1 w4.2 _ h
def f_X12_hours_22 (x1 : Int32) (y1 : Bool) (I : MI) (L : ML) : Option (Int32 × MI × ML) := Option.bind (f_X12_throwsIf y1 1 I L) fun w1 => if w1.1 = true then (some (0, w1.2.1, w1.2.2)) else (Option.bind (f_X12_spreads w1.2.1 w1.2.2) fun w3 => Option.bind (ldI w3.1 150 2143 12) fun v4 => f_X12_hours_45 FU x1 v4 0 w3.1 w3.2)
set_option maxRecDepth 100000 in
theorem S_X12_hours_22 {g : Gx} (x1 : Int32) (y1 : Bool) (I : MI) (L : ML) (res : Int32 × MI × ML) (h : f_X12_hours_22 x1 y1 I L = some res) : E g 13 0 mX12_hours 22 [(0, .ref 149), (1, .int x1)] [.int (bI y1), .ref 149] (I, L) (.inl (some (.int res.1))) (res.2.1, res.2.2) := by
  unfold f_X12_hours_22 at h
  refine E_iconst (v := 1) 23 rfl dX12_hours_22 (by decide) ?_
  obtain ⟨w1, hw1, h⟩ := Option.bind_eq_some_iff.mp h
  refine E_cV1 (As := [.int (bI y1), .int 1]) 26 rfl dX12_hours_23 shc_149 ck_X12_245 cv_X12_throwsIf rfl (by decide) (Nat.le_of_ble_eq_true rfl) (C_X12_throwsIf (g := g) hw1) rfl ?_
  refine E_if_eqB 31 29 (by decide) rfl dX12_hours_26 (fun c2 => ?_) (fun c2 => ?_)
  · rw [if_neg (by rw [c2]; decide)] at h
    refine E_aload_n 32 rfl dX12_hours_31 rfl 0 rfl ?_
    obtain ⟨w3, hw3, h⟩ := Option.bind_eq_some_iff.mp h
    refine E_cV0 (As := []) 35 rfl dX12_hours_32 shc_149 ck_X12_298 cv_X12_spreads rfl (by decide) (Nat.le_of_ble_eq_true rfl) (C_X12_spreads (g := g) hw3) rfl ?_
    refine E_aload_n 36 rfl dX12_hours_35 rfl 0 rfl ?_
    refine E_gR 150 39 rfl dX12_hours_36 shc_149 fl_X12_13 rfl (by decide) (by decide) ?_
    refine E_bipush (v := 12) 41 rfl dX12_hours_39 (by decide) ?_
    obtain ⟨v4, hv4, h⟩ := Option.bind_eq_some_iff.mp h
    refine E_ldI 42 rfl dX12_hours_41 shc_150 hv4 ?_
    refine E_istore_n (lv' := [(2, .int v4), (0, .ref 149), (1, .int x1)]) 43 rfl dX12_hours_42 rfl (Nat.le_of_ble_eq_true rfl) rfl ?_
    refine E_iconst (v := 0) 44 rfl dX12_hours_43 (by decide) ?_
    refine E_istore_n (lv' := [(3, .int 0), (2, .int v4), (0, .ref 149), (1, .int x1)]) 45 rfl dX12_hours_44 rfl (Nat.le_of_ble_eq_true rfl) rfl ?_
    refine E_sub (lv' := [(0, .ref 149), (1, .int x1), (2, .int v4), (3, .int 0)]) [2, 3, 1, 0] rfl ?_
    exact S_X12_hours_45 FU x1 v4 0 w3.1 w3.2 _ h
  · rw [if_pos c2] at h
    refine E_iconst (v := 0) 30 rfl dX12_hours_29 (by decide) ?_
    cases h
    exact E_iret rfl dX12_hours_30
def f_X12_hours (x1 : Int32) (I : MI) (L : ML) : Option (Int32 × MI × ML) := Option.bind (pfI I 149 0 0) fun I1 => Option.bind (f_X12_in x1 1 240 I1 L) fun v2 => if v2 = true then (f_X12_hours_22 x1 false I1 L) else (f_X12_hours_22 x1 true I1 L)
set_option maxRecDepth 100000 in
theorem S_X12_hours {g : Gx} (x1 : Int32) (I : MI) (L : ML) (res : Int32 × MI × ML) (h : f_X12_hours x1 I L = some res) : E g 13 0 mX12_hours 0 [(0, .ref 149), (1, .int x1)] [] (I, L) (.inl (some (.int res.1))) (res.2.1, res.2.2) := by
  unfold f_X12_hours at h
  refine E_aload_n 1 rfl dX12_hours_0 rfl 0 rfl ?_
  refine E_iconst (v := 0) 2 rfl dX12_hours_1 (by decide) ?_
  obtain ⟨I1, hI1, h⟩ := Option.bind_eq_some_iff.mp h
  refine E_pfI 5 rfl dX12_hours_2 shc_149 fl_X12_3 rfl hI1 ?_
  refine E_aload_n 6 rfl dX12_hours_5 rfl 0 rfl ?_
  refine E_iload_n 7 rfl dX12_hours_6 rfl 1 rfl ?_
  refine E_iconst (v := 1) 8 rfl dX12_hours_7 (by decide) ?_
  refine E_sipush (v := 240) 11 rfl dX12_hours_8 (by decide) ?_
  obtain ⟨v2, hv2, h⟩ := Option.bind_eq_some_iff.mp h
  refine E_cS1 (As := [.int x1, .int 1, .int 240]) 14 rfl dX12_hours_11 ck_X12_60 ss_X12_in rfl (by decide) (Nat.le_of_ble_eq_true rfl) (C_X12_in (g := g) hv2) rfl ?_
  refine E_if_neB 21 17 (by decide) rfl dX12_hours_14 (fun c3 => ?_) (fun c3 => ?_)
  · rw [if_pos c3] at h
    refine E_iconst (v := 0) 22 rfl dX12_hours_21 (by decide) ?_
    refine E_sub (lv' := [(0, .ref 149), (1, .int x1)]) [0, 1] rfl ?_
    exact S_X12_hours_22 x1 false I1 L _ h
  · rw [if_neg (by rw [c3]; decide)] at h
    refine E_iconst (v := 1) 18 rfl dX12_hours_17 (by decide) ?_
    refine E_goto 22 (by decide) dX12_hours_18 ?_
    refine E_sub (lv' := [(0, .ref 149), (1, .int x1)]) [0, 1] rfl ?_
    exact S_X12_hours_22 x1 true I1 L _ h
theorem C_X12_hours {g : Gx} {x1 : Int32} {I : MI} {L : ML} {res : Int32 × MI × ML} (h : f_X12_hours x1 I L = some res) : Ent g 13 0 mX12_hours [.ref 149, .int x1] (I, L) (.inl (some (.int res.1))) (res.2.1, res.2.2) := Ent_of (by decide +kernel) (Nat.le_of_ble_eq_true rfl) (S_X12_hours x1 I L _ h)
def f_X12_go_27 (x1 : Int32) (x2 : Int32) (y1 : Bool) (I : MI) (L : ML) : Option (Int32 × MI × ML) := Option.bind (f_X12_throwsIf y1 1 I L) fun w1 => if w1.1 = true then (some (0, w1.2.1, w1.2.2)) else (Option.bind (f_X12_remembers w1.2.1 w1.2.2) fun w3 => Option.bind (f_X12_ofHeir x1 0 w3.1 w3.2) fun v4 => Option.bind (f_X12_setsHeir x1 0 x2 w3.1 w3.2) fun w5 => some (v4, w5.1, w5.2))
set_option maxRecDepth 100000 in
theorem S_X12_go_27 {g : Gx} (x1 : Int32) (x2 : Int32) (y1 : Bool) (I : MI) (L : ML) (res : Int32 × MI × ML) (h : f_X12_go_27 x1 x2 y1 I L = some res) : E g 3 0 mX12_go 27 [(0, .ref 149), (1, .int x1), (2, .int x2)] [.int (bI y1), .ref 149] (I, L) (.inl (some (.int res.1))) (res.2.1, res.2.2) := by
  unfold f_X12_go_27 at h
  refine E_iconst (v := 1) 28 rfl dX12_go_27 (by decide) ?_
  obtain ⟨w1, hw1, h⟩ := Option.bind_eq_some_iff.mp h
  refine E_cV1 (As := [.int (bI y1), .int 1]) 31 rfl dX12_go_28 shc_149 ck_X12_245 cv_X12_throwsIf rfl (by decide) (Nat.le_of_ble_eq_true rfl) (C_X12_throwsIf (g := g) hw1) rfl ?_
  refine E_if_eqB 36 34 (by decide) rfl dX12_go_31 (fun c2 => ?_) (fun c2 => ?_)
  · rw [if_neg (by rw [c2]; decide)] at h
    refine E_aload_n 37 rfl dX12_go_36 rfl 0 rfl ?_
    obtain ⟨w3, hw3, h⟩ := Option.bind_eq_some_iff.mp h
    refine E_cV0 (As := []) 40 rfl dX12_go_37 shc_149 ck_X12_329 cv_X12_remembers rfl (by decide) (Nat.le_of_ble_eq_true rfl) (C_X12_remembers (g := g) hw3) rfl ?_
    refine E_aload_n 41 rfl dX12_go_40 rfl 0 rfl ?_
    refine E_iload_n 42 rfl dX12_go_41 rfl 1 rfl ?_
    refine E_iconst (v := 0) 43 rfl dX12_go_42 (by decide) ?_
    obtain ⟨v4, hv4, h⟩ := Option.bind_eq_some_iff.mp h
    refine E_cV1 (As := [.int x1, .int 0]) 46 rfl dX12_go_43 shc_149 ck_X12_266 cv_X12_ofHeir rfl (by decide) (Nat.le_of_ble_eq_true rfl) (C_X12_ofHeir (g := g) hv4) rfl ?_
    refine E_istore_n (lv' := [(3, .int v4), (0, .ref 149), (1, .int x1), (2, .int x2)]) 47 rfl dX12_go_46 rfl (Nat.le_of_ble_eq_true rfl) rfl ?_
    refine E_aload_n 48 rfl dX12_go_47 rfl 1 rfl ?_
    refine E_iload_n 49 rfl dX12_go_48 rfl 2 rfl ?_
    refine E_iconst (v := 0) 50 rfl dX12_go_49 (by decide) ?_
    refine E_iload_n 51 rfl dX12_go_50 rfl 3 rfl ?_
    obtain ⟨w5, hw5, h⟩ := Option.bind_eq_some_iff.mp h
    refine E_cV0 (As := [.int x1, .int 0, .int x2]) 54 rfl dX12_go_51 shc_149 ck_X12_122 cv_X12_setsHeir rfl (by decide) (Nat.le_of_ble_eq_true rfl) (C_X12_setsHeir (g := g) hw5) rfl ?_
    refine E_iload_n 55 rfl dX12_go_54 rfl 0 rfl ?_
    cases h
    exact E_iret rfl dX12_go_55
  · rw [if_pos c2] at h
    refine E_iconst (v := 0) 35 rfl dX12_go_34 (by decide) ?_
    cases h
    exact E_iret rfl dX12_go_35
def f_X12_go_22 (x1 : Int32) (x2 : Int32) (I : MI) (L : ML) : Option (Int32 × MI × ML) := f_X12_go_27 x1 x2 true I L
set_option maxRecDepth 100000 in
theorem S_X12_go_22 {g : Gx} (x1 : Int32) (x2 : Int32) (I : MI) (L : ML) (res : Int32 × MI × ML) (h : f_X12_go_22 x1 x2 I L = some res) : E g 3 0 mX12_go 22 [(0, .ref 149), (1, .int x1), (2, .int x2)] [.ref 149] (I, L) (.inl (some (.int res.1))) (res.2.1, res.2.2) := by
  unfold f_X12_go_22 at h
  refine E_iconst (v := 1) 23 rfl dX12_go_22 (by decide) ?_
  refine E_goto 27 (by decide) dX12_go_23 ?_
  refine E_sub (lv' := [(0, .ref 149), (1, .int x1), (2, .int x2)]) [0, 1, 2] rfl ?_
  exact S_X12_go_27 x1 x2 true I L _ h
def f_X12_go (x1 : Int32) (x2 : Int32) (I : MI) (L : ML) : Option (Int32 × MI × ML) := Option.bind (pfI I 149 0 0) fun I1 => Option.bind (f_X12_noHeir x1 I1 L) fun v2 => if v2 = true then (f_X12_go_22 x1 x2 I1 L) else (Option.bind (f_X12_noRoom x2 I1 L) fun v4 => if v4 = true then (f_X12_go_22 x1 x2 I1 L) else (f_X12_go_27 x1 x2 false I1 L))
set_option maxRecDepth 100000 in
theorem S_X12_go {g : Gx} (x1 : Int32) (x2 : Int32) (I : MI) (L : ML) (res : Int32 × MI × ML) (h : f_X12_go x1 x2 I L = some res) : E g 3 0 mX12_go 0 [(0, .ref 149), (1, .int x1), (2, .int x2)] [] (I, L) (.inl (some (.int res.1))) (res.2.1, res.2.2) := by
  unfold f_X12_go at h
  refine E_aload_n 1 rfl dX12_go_0 rfl 0 rfl ?_
  refine E_iconst (v := 0) 2 rfl dX12_go_1 (by decide) ?_
  obtain ⟨I1, hI1, h⟩ := Option.bind_eq_some_iff.mp h
  refine E_pfI 5 rfl dX12_go_2 shc_149 fl_X12_3 rfl hI1 ?_
  refine E_aload_n 6 rfl dX12_go_5 rfl 0 rfl ?_
  refine E_aload_n 7 rfl dX12_go_6 rfl 0 rfl ?_
  refine E_iload_n 8 rfl dX12_go_7 rfl 1 rfl ?_
  obtain ⟨v2, hv2, h⟩ := Option.bind_eq_some_iff.mp h
  refine E_cV1 (As := [.int x1]) 11 rfl dX12_go_8 shc_149 ck_X12_301 cv_X12_noHeir rfl (by decide) (Nat.le_of_ble_eq_true rfl) (C_X12_noHeir (g := g) hv2) rfl ?_
  refine E_if_neB 22 14 (by decide) rfl dX12_go_11 (fun c3 => ?_) (fun c3 => ?_)
  · rw [if_pos c3] at h
    refine E_sub (lv' := [(0, .ref 149), (1, .int x1), (2, .int x2)]) [0, 1, 2] rfl ?_
    exact S_X12_go_22 x1 x2 I1 L _ h
  · rw [if_neg (by rw [c3]; decide)] at h
    refine E_aload_n 15 rfl dX12_go_14 rfl 0 rfl ?_
    refine E_iload_n 16 rfl dX12_go_15 rfl 2 rfl ?_
    obtain ⟨v4, hv4, h⟩ := Option.bind_eq_some_iff.mp h
    refine E_cV1 (As := [.int x2]) 19 rfl dX12_go_16 shc_149 ck_X12_292 cv_X12_noRoom rfl (by decide) (Nat.le_of_ble_eq_true rfl) (C_X12_noRoom (g := g) hv4) rfl ?_
    refine E_if_eqB 26 22 (by decide) rfl dX12_go_19 (fun c5 => ?_) (fun c5 => ?_)
    · rw [if_neg (by rw [c5]; decide)] at h
      refine E_iconst (v := 0) 27 rfl dX12_go_26 (by decide) ?_
      refine E_sub (lv' := [(0, .ref 149), (1, .int x1), (2, .int x2)]) [0, 1, 2] rfl ?_
      exact S_X12_go_27 x1 x2 false I1 L _ h
    · rw [if_pos c5] at h
      refine E_sub (lv' := [(0, .ref 149), (1, .int x1), (2, .int x2)]) [0, 1, 2] rfl ?_
      exact S_X12_go_22 x1 x2 I1 L _ h
theorem C_X12_go {g : Gx} {x1 : Int32} {x2 : Int32} {I : MI} {L : ML} {res : Int32 × MI × ML} (h : f_X12_go x1 x2 I L = some res) : Ent g 3 0 mX12_go [.ref 149, .int x1, .int x2] (I, L) (.inl (some (.int res.1))) (res.2.1, res.2.2) := Ent_of (by decide +kernel) (Nat.le_of_ble_eq_true rfl) (S_X12_go x1 x2 I L _ h)
def f_X12_make_62 (x1 : Int32) (y0 : Bool) (I : MI) (L : ML) : Option (Bool × MI × ML) := Option.bind (f_X12_sets x1 9 1 I L) fun w1 => some (y0, w1.1, w1.2)
set_option maxRecDepth 100000 in
theorem S_X12_make_62 {g : Gx} (x1 : Int32) (y0 : Bool) (I : MI) (L : ML) (res : Bool × MI × ML) (h : f_X12_make_62 x1 y0 I L = some res) : E g 3 0 mX12_make 62 [(0, .ref 149), (1, .int x1)] [.int (bI y0)] (I, L) (.inl (some (.int (bI res.1)))) (res.2.1, res.2.2) := by
  unfold f_X12_make_62 at h
  refine E_istore_n (lv' := [(2, .int (bI y0)), (0, .ref 149), (1, .int x1)]) 63 rfl dX12_make_62 rfl (Nat.le_of_ble_eq_true rfl) rfl ?_
  refine E_aload_n 64 rfl dX12_make_63 rfl 1 rfl ?_
  refine E_iload_n 65 rfl dX12_make_64 rfl 2 rfl ?_
  refine E_bipush (v := 9) 67 rfl dX12_make_65 (by decide) ?_
  refine E_iconst (v := 1) 68 rfl dX12_make_67 (by decide) ?_
  obtain ⟨w1, hw1, h⟩ := Option.bind_eq_some_iff.mp h
  refine E_cV0 (As := [.int x1, .int 9, .int 1]) 71 rfl dX12_make_68 shc_149 ck_X12_143 cv_X12_sets rfl (by decide) (Nat.le_of_ble_eq_true rfl) (C_X12_sets (g := g) hw1) rfl ?_
  refine E_iload_n 72 rfl dX12_make_71 rfl 0 rfl ?_
  cases h
  exact E_zret (x := y0) rfl dX12_make_72
def f_X12_make_41 (I : MI) (L : ML) : Option (Bool × MI × ML) := some (false, I, L)
set_option maxRecDepth 100000 in
theorem S_X12_make_41 {g : Gx} (I : MI) (L : ML) (res : Bool × MI × ML) (h : f_X12_make_41 I L = some res) : E g 3 0 mX12_make 41 [] [] (I, L) (.inl (some (.int (bI res.1)))) (res.2.1, res.2.2) := by
  unfold f_X12_make_41 at h
  refine E_iconst (v := 0) 42 rfl dX12_make_41 (by decide) ?_
  cases h
  exact E_zret (x := false) rfl dX12_make_42
def f_X12_make_34 (x1 : Int32) (y1 : Bool) (I : MI) (L : ML) : Option (Bool × MI × ML) := Option.bind (f_X12_throwsIf y1 2 I L) fun w1 => if w1.1 = true then (f_X12_make_41 w1.2.1 w1.2.2) else (Option.bind (f_X12_remembers w1.2.1 w1.2.2) fun w3 => Option.bind (f_X12_of x1 9 w3.1 w3.2) fun v4 => if v4 = 0 then (f_X12_make_62 x1 true w3.1 w3.2) else (f_X12_make_62 x1 false w3.1 w3.2))
set_option maxRecDepth 100000 in
theorem S_X12_make_34 {g : Gx} (x1 : Int32) (y1 : Bool) (I : MI) (L : ML) (res : Bool × MI × ML) (h : f_X12_make_34 x1 y1 I L = some res) : E g 3 0 mX12_make 34 [(0, .ref 149), (1, .int x1)] [.int (bI y1), .ref 149] (I, L) (.inl (some (.int (bI res.1)))) (res.2.1, res.2.2) := by
  unfold f_X12_make_34 at h
  refine E_iconst (v := 2) 35 rfl dX12_make_34 (by decide) ?_
  obtain ⟨w1, hw1, h⟩ := Option.bind_eq_some_iff.mp h
  refine E_cV1 (As := [.int (bI y1), .int 2]) 38 rfl dX12_make_35 shc_149 ck_X12_245 cv_X12_throwsIf rfl (by decide) (Nat.le_of_ble_eq_true rfl) (C_X12_throwsIf (g := g) hw1) rfl ?_
  refine E_if_eqB 43 41 (by decide) rfl dX12_make_38 (fun c2 => ?_) (fun c2 => ?_)
  · rw [if_neg (by rw [c2]; decide)] at h
    refine E_aload_n 44 rfl dX12_make_43 rfl 0 rfl ?_
    obtain ⟨w3, hw3, h⟩ := Option.bind_eq_some_iff.mp h
    refine E_cV0 (As := []) 47 rfl dX12_make_44 shc_149 ck_X12_329 cv_X12_remembers rfl (by decide) (Nat.le_of_ble_eq_true rfl) (C_X12_remembers (g := g) hw3) rfl ?_
    refine E_aload_n 48 rfl dX12_make_47 rfl 0 rfl ?_
    refine E_iload_n 49 rfl dX12_make_48 rfl 1 rfl ?_
    refine E_bipush (v := 9) 51 rfl dX12_make_49 (by decide) ?_
    obtain ⟨v4, hv4, h⟩ := Option.bind_eq_some_iff.mp h
    refine E_cV1 (As := [.int x1, .int 9]) 54 rfl dX12_make_51 shc_149 ck_X12_260 cv_X12_of rfl (by decide) (Nat.le_of_ble_eq_true rfl) (C_X12_of (g := g) hv4) rfl ?_
    refine E_if_ne 61 57 (by decide) rfl dX12_make_54 (fun c5 => ?_) (fun c5 => ?_)
    · rw [if_neg c5] at h
      refine E_iconst (v := 0) 62 rfl dX12_make_61 (by decide) ?_
      refine E_sub (lv' := [(0, .ref 149), (1, .int x1)]) [0, 1] rfl ?_
      exact S_X12_make_62 x1 false w3.1 w3.2 _ h
    · rw [if_pos c5] at h
      refine E_iconst (v := 1) 58 rfl dX12_make_57 (by decide) ?_
      refine E_goto 62 (by decide) dX12_make_58 ?_
      refine E_sub (lv' := [(0, .ref 149), (1, .int x1)]) [0, 1] rfl ?_
      exact S_X12_make_62 x1 true w3.1 w3.2 _ h
  · rw [if_pos c2] at h
    refine E_sub (lv' := []) [] rfl ?_
    exact S_X12_make_41 w1.2.1 w1.2.2 _ h
def f_X12_make (x1 : Int32) (I : MI) (L : ML) : Option (Bool × MI × ML) := Option.bind (pfI I 149 0 0) fun I1 => Option.bind (f_X12_noNoise x1 I1 L) fun v2 => Option.bind (f_X12_throwsIf v2 1 I1 L) fun w3 => if w3.1 = true then (f_X12_make_41 w3.2.1 w3.2.2) else (Option.bind (f_X12_of x1 0 w3.2.1 w3.2.2) fun v5 => if v5 = 3 then (f_X12_make_34 x1 false w3.2.1 w3.2.2) else (f_X12_make_34 x1 true w3.2.1 w3.2.2))
set_option maxRecDepth 100000 in
theorem S_X12_make {g : Gx} (x1 : Int32) (I : MI) (L : ML) (res : Bool × MI × ML) (h : f_X12_make x1 I L = some res) : E g 3 0 mX12_make 0 [(0, .ref 149), (1, .int x1)] [] (I, L) (.inl (some (.int (bI res.1)))) (res.2.1, res.2.2) := by
  unfold f_X12_make at h
  refine E_aload_n 1 rfl dX12_make_0 rfl 0 rfl ?_
  refine E_iconst (v := 0) 2 rfl dX12_make_1 (by decide) ?_
  obtain ⟨I1, hI1, h⟩ := Option.bind_eq_some_iff.mp h
  refine E_pfI 5 rfl dX12_make_2 shc_149 fl_X12_3 rfl hI1 ?_
  refine E_aload_n 6 rfl dX12_make_5 rfl 0 rfl ?_
  refine E_aload_n 7 rfl dX12_make_6 rfl 0 rfl ?_
  refine E_iload_n 8 rfl dX12_make_7 rfl 1 rfl ?_
  obtain ⟨v2, hv2, h⟩ := Option.bind_eq_some_iff.mp h
  refine E_cV1 (As := [.int x1]) 11 rfl dX12_make_8 shc_149 ck_X12_304 cv_X12_noNoise rfl (by decide) (Nat.le_of_ble_eq_true rfl) (C_X12_noNoise (g := g) hv2) rfl ?_
  refine E_iconst (v := 1) 12 rfl dX12_make_11 (by decide) ?_
  obtain ⟨w3, hw3, h⟩ := Option.bind_eq_some_iff.mp h
  refine E_cV1 (As := [.int (bI v2), .int 1]) 15 rfl dX12_make_12 shc_149 ck_X12_245 cv_X12_throwsIf rfl (by decide) (Nat.le_of_ble_eq_true rfl) (C_X12_throwsIf (g := g) hw3) rfl ?_
  refine E_if_neB 41 18 (by decide) rfl dX12_make_15 (fun c4 => ?_) (fun c4 => ?_)
  · rw [if_pos c4] at h
    refine E_sub (lv' := []) [] rfl ?_
    exact S_X12_make_41 w3.2.1 w3.2.2 _ h
  · rw [if_neg (by rw [c4]; decide)] at h
    refine E_aload_n 19 rfl dX12_make_18 rfl 0 rfl ?_
    refine E_aload_n 20 rfl dX12_make_19 rfl 0 rfl ?_
    refine E_iload_n 21 rfl dX12_make_20 rfl 1 rfl ?_
    refine E_iconst (v := 0) 22 rfl dX12_make_21 (by decide) ?_
    obtain ⟨v5, hv5, h⟩ := Option.bind_eq_some_iff.mp h
    refine E_cV1 (As := [.int x1, .int 0]) 25 rfl dX12_make_22 shc_149 ck_X12_260 cv_X12_of rfl (by decide) (Nat.le_of_ble_eq_true rfl) (C_X12_of (g := g) hv5) rfl ?_
    refine E_iconst (v := 3) 26 rfl dX12_make_25 (by decide) ?_
    refine E_icmp_eq 33 29 (by decide) rfl dX12_make_26 (fun c6 => ?_) (fun c6 => ?_)
    · rw [if_pos c6] at h
      refine E_iconst (v := 0) 34 rfl dX12_make_33 (by decide) ?_
      refine E_sub (lv' := [(0, .ref 149), (1, .int x1)]) [0, 1] rfl ?_
      exact S_X12_make_34 x1 false w3.2.1 w3.2.2 _ h
    · rw [if_neg c6] at h
      refine E_iconst (v := 1) 30 rfl dX12_make_29 (by decide) ?_
      refine E_goto 34 (by decide) dX12_make_30 ?_
      refine E_sub (lv' := [(0, .ref 149), (1, .int x1)]) [0, 1] rfl ?_
      exact S_X12_make_34 x1 true w3.2.1 w3.2.2 _ h
theorem C_X12_make {g : Gx} {x1 : Int32} {I : MI} {L : ML} {res : Bool × MI × ML} (h : f_X12_make x1 I L = some res) : Ent g 3 0 mX12_make [.ref 149, .int x1] (I, L) (.inl (some (.int (bI res.1)))) (res.2.1, res.2.2) := Ent_of (by decide +kernel) (Nat.le_of_ble_eq_true rfl) (S_X12_make x1 I L _ h)
def f_X12_oil_41 (I : MI) (L : ML) : Option (Int32 × MI × ML) := some (0, I, L)
set_option maxRecDepth 100000 in
theorem S_X12_oil_41 {g : Gx} (I : MI) (L : ML) (res : Int32 × MI × ML) (h : f_X12_oil_41 I L = some res) : E g 4 0 mX12_oil 41 [] [] (I, L) (.inl (some (.int res.1))) (res.2.1, res.2.2) := by
  unfold f_X12_oil_41 at h
  refine E_iconst (v := 0) 42 rfl dX12_oil_41 (by decide) ?_
  cases h
  exact E_iret rfl dX12_oil_42
def f_X12_oil_34 (x1 : Int32) (x2 : Int32) (y1 : Bool) (I : MI) (L : ML) : Option (Int32 × MI × ML) := Option.bind (f_X12_throwsIf y1 2 I L) fun w1 => if w1.1 = true then (f_X12_oil_41 w1.2.1 w1.2.2) else (Option.bind (f_X12_remembers w1.2.1 w1.2.2) fun w3 => Option.bind (f_X12_of x1 5 w3.1 w3.2) fun v4 => Option.bind (f_X12_sets x1 5 (if (v4 + x2) < 99 then (v4 + x2) else 99) w3.1 w3.2) fun w5 => Option.bind (f_X12_of x1 5 w5.1 w5.2) fun v6 => some (v6, w5.1, w5.2))
set_option maxRecDepth 100000 in
theorem S_X12_oil_34 {g : Gx} (x1 : Int32) (x2 : Int32) (y1 : Bool) (I : MI) (L : ML) (res : Int32 × MI × ML) (h : f_X12_oil_34 x1 x2 y1 I L = some res) : E g 4 0 mX12_oil 34 [(0, .ref 149), (1, .int x1), (2, .int x2)] [.int (bI y1), .ref 149] (I, L) (.inl (some (.int res.1))) (res.2.1, res.2.2) := by
  unfold f_X12_oil_34 at h
  refine E_iconst (v := 2) 35 rfl dX12_oil_34 (by decide) ?_
  obtain ⟨w1, hw1, h⟩ := Option.bind_eq_some_iff.mp h
  refine E_cV1 (As := [.int (bI y1), .int 2]) 38 rfl dX12_oil_35 shc_149 ck_X12_245 cv_X12_throwsIf rfl (by decide) (Nat.le_of_ble_eq_true rfl) (C_X12_throwsIf (g := g) hw1) rfl ?_
  refine E_if_eqB 43 41 (by decide) rfl dX12_oil_38 (fun c2 => ?_) (fun c2 => ?_)
  · rw [if_neg (by rw [c2]; decide)] at h
    refine E_aload_n 44 rfl dX12_oil_43 rfl 0 rfl ?_
    obtain ⟨w3, hw3, h⟩ := Option.bind_eq_some_iff.mp h
    refine E_cV0 (As := []) 47 rfl dX12_oil_44 shc_149 ck_X12_329 cv_X12_remembers rfl (by decide) (Nat.le_of_ble_eq_true rfl) (C_X12_remembers (g := g) hw3) rfl ?_
    refine E_aload_n 48 rfl dX12_oil_47 rfl 0 rfl ?_
    refine E_iload_n 49 rfl dX12_oil_48 rfl 1 rfl ?_
    refine E_iconst (v := 5) 50 rfl dX12_oil_49 (by decide) ?_
    refine E_bipush (v := 99) 52 rfl dX12_oil_50 (by decide) ?_
    refine E_aload_n 53 rfl dX12_oil_52 rfl 0 rfl ?_
    refine E_iload_n 54 rfl dX12_oil_53 rfl 1 rfl ?_
    refine E_iconst (v := 5) 55 rfl dX12_oil_54 (by decide) ?_
    obtain ⟨v4, hv4, h⟩ := Option.bind_eq_some_iff.mp h
    refine E_cV1 (As := [.int x1, .int 5]) 58 rfl dX12_oil_55 shc_149 ck_X12_260 cv_X12_of rfl (by decide) (Nat.le_of_ble_eq_true rfl) (C_X12_of (g := g) hv4) rfl ?_
    refine E_iload_n 59 rfl dX12_oil_58 rfl 2 rfl ?_
    refine E_iadd 60 rfl dX12_oil_59 ?_
    refine E_min 63 rfl dX12_oil_60 jm_X12_255 (by decide) (Nat.le_of_ble_eq_true rfl) ?_
    obtain ⟨w5, hw5, h⟩ := Option.bind_eq_some_iff.mp h
    refine E_cV0 (As := [.int x1, .int 5, .int (if (v4 + x2) < 99 then (v4 + x2) else 99)]) 66 rfl dX12_oil_63 shc_149 ck_X12_143 cv_X12_sets rfl (by decide) (Nat.le_of_ble_eq_true rfl) (C_X12_sets (g := g) hw5) rfl ?_
    refine E_aload_n 67 rfl dX12_oil_66 rfl 0 rfl ?_
    refine E_iload_n 68 rfl dX12_oil_67 rfl 1 rfl ?_
    refine E_iconst (v := 5) 69 rfl dX12_oil_68 (by decide) ?_
    obtain ⟨v6, hv6, h⟩ := Option.bind_eq_some_iff.mp h
    refine E_cV1 (As := [.int x1, .int 5]) 72 rfl dX12_oil_69 shc_149 ck_X12_260 cv_X12_of rfl (by decide) (Nat.le_of_ble_eq_true rfl) (C_X12_of (g := g) hv6) rfl ?_
    cases h
    exact E_iret rfl dX12_oil_72
  · rw [if_pos c2] at h
    refine E_sub (lv' := []) [] rfl ?_
    exact S_X12_oil_41 w1.2.1 w1.2.2 _ h
def f_X12_oil (x1 : Int32) (x2 : Int32) (I : MI) (L : ML) : Option (Int32 × MI × ML) := Option.bind (pfI I 149 0 0) fun I1 => Option.bind (f_X12_noNoise x1 I1 L) fun v2 => Option.bind (f_X12_throwsIf v2 1 I1 L) fun w3 => if w3.1 = true then (f_X12_oil_41 w3.2.1 w3.2.2) else (Option.bind (f_X12_in x2 1 99 w3.2.1 w3.2.2) fun v5 => if v5 = true then (f_X12_oil_34 x1 x2 false w3.2.1 w3.2.2) else (f_X12_oil_34 x1 x2 true w3.2.1 w3.2.2))
set_option maxRecDepth 100000 in
theorem S_X12_oil {g : Gx} (x1 : Int32) (x2 : Int32) (I : MI) (L : ML) (res : Int32 × MI × ML) (h : f_X12_oil x1 x2 I L = some res) : E g 4 0 mX12_oil 0 [(0, .ref 149), (1, .int x1), (2, .int x2)] [] (I, L) (.inl (some (.int res.1))) (res.2.1, res.2.2) := by
  unfold f_X12_oil at h
  refine E_aload_n 1 rfl dX12_oil_0 rfl 0 rfl ?_
  refine E_iconst (v := 0) 2 rfl dX12_oil_1 (by decide) ?_
  obtain ⟨I1, hI1, h⟩ := Option.bind_eq_some_iff.mp h
  refine E_pfI 5 rfl dX12_oil_2 shc_149 fl_X12_3 rfl hI1 ?_
  refine E_aload_n 6 rfl dX12_oil_5 rfl 0 rfl ?_
  refine E_aload_n 7 rfl dX12_oil_6 rfl 0 rfl ?_
  refine E_iload_n 8 rfl dX12_oil_7 rfl 1 rfl ?_
  obtain ⟨v2, hv2, h⟩ := Option.bind_eq_some_iff.mp h
  refine E_cV1 (As := [.int x1]) 11 rfl dX12_oil_8 shc_149 ck_X12_304 cv_X12_noNoise rfl (by decide) (Nat.le_of_ble_eq_true rfl) (C_X12_noNoise (g := g) hv2) rfl ?_
  refine E_iconst (v := 1) 12 rfl dX12_oil_11 (by decide) ?_
  obtain ⟨w3, hw3, h⟩ := Option.bind_eq_some_iff.mp h
  refine E_cV1 (As := [.int (bI v2), .int 1]) 15 rfl dX12_oil_12 shc_149 ck_X12_245 cv_X12_throwsIf rfl (by decide) (Nat.le_of_ble_eq_true rfl) (C_X12_throwsIf (g := g) hw3) rfl ?_
  refine E_if_neB 41 18 (by decide) rfl dX12_oil_15 (fun c4 => ?_) (fun c4 => ?_)
  · rw [if_pos c4] at h
    refine E_sub (lv' := []) [] rfl ?_
    exact S_X12_oil_41 w3.2.1 w3.2.2 _ h
  · rw [if_neg (by rw [c4]; decide)] at h
    refine E_aload_n 19 rfl dX12_oil_18 rfl 0 rfl ?_
    refine E_iload_n 20 rfl dX12_oil_19 rfl 2 rfl ?_
    refine E_iconst (v := 1) 21 rfl dX12_oil_20 (by decide) ?_
    refine E_bipush (v := 99) 23 rfl dX12_oil_21 (by decide) ?_
    obtain ⟨v5, hv5, h⟩ := Option.bind_eq_some_iff.mp h
    refine E_cS1 (As := [.int x2, .int 1, .int 99]) 26 rfl dX12_oil_23 ck_X12_60 ss_X12_in rfl (by decide) (Nat.le_of_ble_eq_true rfl) (C_X12_in (g := g) hv5) rfl ?_
    refine E_if_neB 33 29 (by decide) rfl dX12_oil_26 (fun c6 => ?_) (fun c6 => ?_)
    · rw [if_pos c6] at h
      refine E_iconst (v := 0) 34 rfl dX12_oil_33 (by decide) ?_
      refine E_sub (lv' := [(0, .ref 149), (1, .int x1), (2, .int x2)]) [0, 1, 2] rfl ?_
      exact S_X12_oil_34 x1 x2 false w3.2.1 w3.2.2 _ h
    · rw [if_neg (by rw [c6]; decide)] at h
      refine E_iconst (v := 1) 30 rfl dX12_oil_29 (by decide) ?_
      refine E_goto 34 (by decide) dX12_oil_30 ?_
      refine E_sub (lv' := [(0, .ref 149), (1, .int x1), (2, .int x2)]) [0, 1, 2] rfl ?_
      exact S_X12_oil_34 x1 x2 true w3.2.1 w3.2.2 _ h
theorem C_X12_oil {g : Gx} {x1 : Int32} {x2 : Int32} {I : MI} {L : ML} {res : Int32 × MI × ML} (h : f_X12_oil x1 x2 I L = some res) : Ent g 4 0 mX12_oil [.ref 149, .int x1, .int x2] (I, L) (.inl (some (.int res.1))) (res.2.1, res.2.2) := Ent_of (by decide +kernel) (Nat.le_of_ble_eq_true rfl) (S_X12_oil x1 x2 I L _ h)
def f_X12_carpet_41 (I : MI) (L : ML) : Option (Int32 × MI × ML) := some (0, I, L)
set_option maxRecDepth 100000 in
theorem S_X12_carpet_41 {g : Gx} (I : MI) (L : ML) (res : Int32 × MI × ML) (h : f_X12_carpet_41 I L = some res) : E g 3 0 mX12_carpet 41 [] [] (I, L) (.inl (some (.int res.1))) (res.2.1, res.2.2) := by
  unfold f_X12_carpet_41 at h
  refine E_iconst (v := 0) 42 rfl dX12_carpet_41 (by decide) ?_
  cases h
  exact E_iret rfl dX12_carpet_42
def f_X12_carpet_34 (x1 : Int32) (x2 : Int32) (y1 : Bool) (I : MI) (L : ML) : Option (Int32 × MI × ML) := Option.bind (f_X12_throwsIf y1 2 I L) fun w1 => if w1.1 = true then (f_X12_carpet_41 w1.2.1 w1.2.2) else (Option.bind (f_X12_remembers w1.2.1 w1.2.2) fun w3 => Option.bind (ldI w3.1 150 2143 (15 + x1)) fun v4 => Option.bind (stI w3.1 150 2143 (15 + x1) x2) fun I5 => some (v4, I5, w3.2))
set_option maxRecDepth 100000 in
theorem S_X12_carpet_34 {g : Gx} (x1 : Int32) (x2 : Int32) (y1 : Bool) (I : MI) (L : ML) (res : Int32 × MI × ML) (h : f_X12_carpet_34 x1 x2 y1 I L = some res) : E g 3 0 mX12_carpet 34 [(0, .ref 149), (1, .int x1), (2, .int x2)] [.int (bI y1), .ref 149] (I, L) (.inl (some (.int res.1))) (res.2.1, res.2.2) := by
  unfold f_X12_carpet_34 at h
  refine E_iconst (v := 2) 35 rfl dX12_carpet_34 (by decide) ?_
  obtain ⟨w1, hw1, h⟩ := Option.bind_eq_some_iff.mp h
  refine E_cV1 (As := [.int (bI y1), .int 2]) 38 rfl dX12_carpet_35 shc_149 ck_X12_245 cv_X12_throwsIf rfl (by decide) (Nat.le_of_ble_eq_true rfl) (C_X12_throwsIf (g := g) hw1) rfl ?_
  refine E_if_eqB 43 41 (by decide) rfl dX12_carpet_38 (fun c2 => ?_) (fun c2 => ?_)
  · rw [if_neg (by rw [c2]; decide)] at h
    refine E_aload_n 44 rfl dX12_carpet_43 rfl 0 rfl ?_
    obtain ⟨w3, hw3, h⟩ := Option.bind_eq_some_iff.mp h
    refine E_cV0 (As := []) 47 rfl dX12_carpet_44 shc_149 ck_X12_329 cv_X12_remembers rfl (by decide) (Nat.le_of_ble_eq_true rfl) (C_X12_remembers (g := g) hw3) rfl ?_
    refine E_aload_n 48 rfl dX12_carpet_47 rfl 0 rfl ?_
    refine E_gR 150 51 rfl dX12_carpet_48 shc_149 fl_X12_13 rfl (by decide) (by decide) ?_
    refine E_bipush (v := 15) 53 rfl dX12_carpet_51 (by decide) ?_
    refine E_iload_n 54 rfl dX12_carpet_53 rfl 1 rfl ?_
    refine E_iadd 55 rfl dX12_carpet_54 ?_
    obtain ⟨v4, hv4, h⟩ := Option.bind_eq_some_iff.mp h
    refine E_ldI 56 rfl dX12_carpet_55 shc_150 hv4 ?_
    refine E_istore_n (lv' := [(3, .int v4), (0, .ref 149), (1, .int x1), (2, .int x2)]) 57 rfl dX12_carpet_56 rfl (Nat.le_of_ble_eq_true rfl) rfl ?_
    refine E_aload_n 58 rfl dX12_carpet_57 rfl 1 rfl ?_
    refine E_gR 150 61 rfl dX12_carpet_58 shc_149 fl_X12_13 rfl (by decide) (by decide) ?_
    refine E_bipush (v := 15) 63 rfl dX12_carpet_61 (by decide) ?_
    refine E_iload_n 64 rfl dX12_carpet_63 rfl 2 rfl ?_
    refine E_iadd 65 rfl dX12_carpet_64 ?_
    refine E_iload_n 66 rfl dX12_carpet_65 rfl 3 rfl ?_
    obtain ⟨I5, hI5, h⟩ := Option.bind_eq_some_iff.mp h
    refine E_stI 67 rfl dX12_carpet_66 shc_150 hI5 ?_
    refine E_iload_n 68 rfl dX12_carpet_67 rfl 0 rfl ?_
    cases h
    exact E_iret rfl dX12_carpet_68
  · rw [if_pos c2] at h
    refine E_sub (lv' := []) [] rfl ?_
    exact S_X12_carpet_41 w1.2.1 w1.2.2 _ h
def f_X12_carpet (x1 : Int32) (x2 : Int32) (I : MI) (L : ML) : Option (Int32 × MI × ML) := Option.bind (pfI I 149 0 0) fun I1 => Option.bind (f_X12_noRoom x1 I1 L) fun v2 => Option.bind (f_X12_throwsIf v2 1 I1 L) fun w3 => if w3.1 = true then (f_X12_carpet_41 w3.2.1 w3.2.2) else (Option.bind (f_X12_in x2 0 20 w3.2.1 w3.2.2) fun v5 => if v5 = true then (f_X12_carpet_34 x1 x2 false w3.2.1 w3.2.2) else (f_X12_carpet_34 x1 x2 true w3.2.1 w3.2.2))
set_option maxRecDepth 100000 in
theorem S_X12_carpet {g : Gx} (x1 : Int32) (x2 : Int32) (I : MI) (L : ML) (res : Int32 × MI × ML) (h : f_X12_carpet x1 x2 I L = some res) : E g 3 0 mX12_carpet 0 [(0, .ref 149), (1, .int x1), (2, .int x2)] [] (I, L) (.inl (some (.int res.1))) (res.2.1, res.2.2) := by
  unfold f_X12_carpet at h
  refine E_aload_n 1 rfl dX12_carpet_0 rfl 0 rfl ?_
  refine E_iconst (v := 0) 2 rfl dX12_carpet_1 (by decide) ?_
  obtain ⟨I1, hI1, h⟩ := Option.bind_eq_some_iff.mp h
  refine E_pfI 5 rfl dX12_carpet_2 shc_149 fl_X12_3 rfl hI1 ?_
  refine E_aload_n 6 rfl dX12_carpet_5 rfl 0 rfl ?_
  refine E_aload_n 7 rfl dX12_carpet_6 rfl 0 rfl ?_
  refine E_iload_n 8 rfl dX12_carpet_7 rfl 1 rfl ?_
  obtain ⟨v2, hv2, h⟩ := Option.bind_eq_some_iff.mp h
  refine E_cV1 (As := [.int x1]) 11 rfl dX12_carpet_8 shc_149 ck_X12_292 cv_X12_noRoom rfl (by decide) (Nat.le_of_ble_eq_true rfl) (C_X12_noRoom (g := g) hv2) rfl ?_
  refine E_iconst (v := 1) 12 rfl dX12_carpet_11 (by decide) ?_
  obtain ⟨w3, hw3, h⟩ := Option.bind_eq_some_iff.mp h
  refine E_cV1 (As := [.int (bI v2), .int 1]) 15 rfl dX12_carpet_12 shc_149 ck_X12_245 cv_X12_throwsIf rfl (by decide) (Nat.le_of_ble_eq_true rfl) (C_X12_throwsIf (g := g) hw3) rfl ?_
  refine E_if_neB 41 18 (by decide) rfl dX12_carpet_15 (fun c4 => ?_) (fun c4 => ?_)
  · rw [if_pos c4] at h
    refine E_sub (lv' := []) [] rfl ?_
    exact S_X12_carpet_41 w3.2.1 w3.2.2 _ h
  · rw [if_neg (by rw [c4]; decide)] at h
    refine E_aload_n 19 rfl dX12_carpet_18 rfl 0 rfl ?_
    refine E_iload_n 20 rfl dX12_carpet_19 rfl 2 rfl ?_
    refine E_iconst (v := 0) 21 rfl dX12_carpet_20 (by decide) ?_
    refine E_bipush (v := 20) 23 rfl dX12_carpet_21 (by decide) ?_
    obtain ⟨v5, hv5, h⟩ := Option.bind_eq_some_iff.mp h
    refine E_cS1 (As := [.int x2, .int 0, .int 20]) 26 rfl dX12_carpet_23 ck_X12_60 ss_X12_in rfl (by decide) (Nat.le_of_ble_eq_true rfl) (C_X12_in (g := g) hv5) rfl ?_
    refine E_if_neB 33 29 (by decide) rfl dX12_carpet_26 (fun c6 => ?_) (fun c6 => ?_)
    · rw [if_pos c6] at h
      refine E_iconst (v := 0) 34 rfl dX12_carpet_33 (by decide) ?_
      refine E_sub (lv' := [(0, .ref 149), (1, .int x1), (2, .int x2)]) [0, 1, 2] rfl ?_
      exact S_X12_carpet_34 x1 x2 false w3.2.1 w3.2.2 _ h
    · rw [if_neg (by rw [c6]; decide)] at h
      refine E_iconst (v := 1) 30 rfl dX12_carpet_29 (by decide) ?_
      refine E_goto 34 (by decide) dX12_carpet_30 ?_
      refine E_sub (lv' := [(0, .ref 149), (1, .int x1), (2, .int x2)]) [0, 1, 2] rfl ?_
      exact S_X12_carpet_34 x1 x2 true w3.2.1 w3.2.2 _ h
theorem C_X12_carpet {g : Gx} {x1 : Int32} {x2 : Int32} {I : MI} {L : ML} {res : Int32 × MI × ML} (h : f_X12_carpet x1 x2 I L = some res) : Ent g 3 0 mX12_carpet [.ref 149, .int x1, .int x2] (I, L) (.inl (some (.int res.1))) (res.2.1, res.2.2) := Ent_of (by decide +kernel) (Nat.le_of_ble_eq_true rfl) (S_X12_carpet x1 x2 I L _ h)
def f_X12_weightOf (x1 : Int32) (x2 : Int32) (x3 : Int32) (I : MI) (L : ML) : Option (Int32) := Option.bind (f_X12_of x1 2 I L) fun v1 => Option.bind (f_X12_atOf x1 x2 I L) fun v2 => some ((if 0 < (10 - (if 0 ≤ (v1 - x3) then (v1 - x3) else 0 - (v1 - x3))) then (10 - (if 0 ≤ (v1 - x3) then (v1 - x3) else 0 - (v1 - x3))) else 0) * v2)
set_option maxRecDepth 100000 in
theorem S_X12_weightOf {g : Gx} (x1 : Int32) (x2 : Int32) (x3 : Int32) (I : MI) (L : ML) (res : Int32) (h : f_X12_weightOf x1 x2 x3 I L = some res) : E g 5 0 mX12_weightOf 0 [(0, .ref 149), (1, .int x1), (2, .int x2), (3, .int x3)] [] (I, L) (.inl (some (.int res))) (I, L) := by
  unfold f_X12_weightOf at h
  refine E_iconst (v := 0) 1 rfl dX12_weightOf_0 (by decide) ?_
  refine E_bipush (v := 10) 3 rfl dX12_weightOf_1 (by decide) ?_
  refine E_aload_n 4 rfl dX12_weightOf_3 rfl 0 rfl ?_
  refine E_iload_n 5 rfl dX12_weightOf_4 rfl 1 rfl ?_
  refine E_iconst (v := 2) 6 rfl dX12_weightOf_5 (by decide) ?_
  obtain ⟨v1, hv1, h⟩ := Option.bind_eq_some_iff.mp h
  refine E_cV1 (As := [.int x1, .int 2]) 9 rfl dX12_weightOf_6 shc_149 ck_X12_260 cv_X12_of rfl (by decide) (Nat.le_of_ble_eq_true rfl) (C_X12_of (g := g) hv1) rfl ?_
  refine E_iload_n 10 rfl dX12_weightOf_9 rfl 3 rfl ?_
  refine E_isub 11 rfl dX12_weightOf_10 ?_
  refine E_abs 14 rfl dX12_weightOf_11 jm_X12_332 (by decide) (Nat.le_of_ble_eq_true rfl) ?_
  refine E_isub 15 rfl dX12_weightOf_14 ?_
  refine E_max 18 rfl dX12_weightOf_15 jm_X12_263 (by decide) (Nat.le_of_ble_eq_true rfl) ?_
  refine E_aload_n 19 rfl dX12_weightOf_18 rfl 0 rfl ?_
  refine E_iload_n 20 rfl dX12_weightOf_19 rfl 1 rfl ?_
  refine E_iload_n 21 rfl dX12_weightOf_20 rfl 2 rfl ?_
  obtain ⟨v2, hv2, h⟩ := Option.bind_eq_some_iff.mp h
  refine E_cV1 (As := [.int x1, .int x2]) 24 rfl dX12_weightOf_21 shc_149 ck_X12_269 cv_X12_atOf rfl (by decide) (Nat.le_of_ble_eq_true rfl) (C_X12_atOf (g := g) hv2) rfl ?_
  refine E_imul 25 rfl dX12_weightOf_24 ?_
  cases h
  exact E_iret rfl dX12_weightOf_25
theorem C_X12_weightOf {g : Gx} {x1 : Int32} {x2 : Int32} {x3 : Int32} {I : MI} {L : ML} {res : Int32} (h : f_X12_weightOf x1 x2 x3 I L = some res) : Ent g 5 0 mX12_weightOf [.ref 149, .int x1, .int x2, .int x3] (I, L) (.inl (some (.int res))) (I, L) := Ent_of (by decide +kernel) (Nat.le_of_ble_eq_true rfl) (S_X12_weightOf x1 x2 x3 I L _ h)
def f_X12_odds_120 (y0 : Int32) (I : MI) (L : ML) : Option (Int32 × MI × ML) := some (y0, I, L)
set_option maxRecDepth 100000 in
theorem S_X12_odds_120 {g : Gx} (y0 : Int32) (I : MI) (L : ML) (res : Int32 × MI × ML) (h : f_X12_odds_120 y0 I L = some res) : E g 6 0 mX12_odds 120 [] [.int y0] (I, L) (.inl (some (.int res.1))) (res.2.1, res.2.2) := by
  unfold f_X12_odds_120 at h
  cases h
  exact E_iret rfl dX12_odds_120
def f_X12_odds_69 : Nat → Int32 → Int32 → Int32 → Int32 → Int32 → MI → ML → Option (Int32 × MI × ML)
  | 0, _, _, _, _, _, _, _ => none
  | n + 1, x1, x2, x3, x4, x5, I, L => Option.bind (f_X12_noises I L) fun v1 => if v1 ≤ x5 then (if x4 = 0 then (f_X12_odds_120 0 I L) else (Option.bind (f_X12_weightOf x1 x2 x3 I L) fun v4 => Option.bind (dvI (10000 * v4) x4) fun v5 => f_X12_odds_120 v5 I L)) else (Option.bind (f_X12_weightOf x5 x2 x3 I L) fun v6 => f_X12_odds_69 n x1 x2 x3 (x4 + v6) (x5 + 1) I L)
set_option maxRecDepth 100000 in
theorem S_X12_odds_69 {g : Gx} : ∀ (n : Nat) (x1 : Int32) (x2 : Int32) (x3 : Int32) (x4 : Int32) (x5 : Int32) (I : MI) (L : ML) (res : Int32 × MI × ML), f_X12_odds_69 n x1 x2 x3 x4 x5 I L = some res → E g 6 0 mX12_odds 69 [(0, .ref 149), (1, .int x1), (2, .int x2), (3, .int x3), (4, .int x4), (5, .int x5)] [] (I, L) (.inl (some (.int res.1))) (res.2.1, res.2.2) := by
  intro n
  induction n with
  | zero =>
    intros
    rename_i h
    cases h
  | succ n ih =>
    intro x1 x2 x3 x4 x5 I L res h
    rw [f_X12_odds_69] at h
    refine E_iload 71 rfl dX12_odds_69 5 rfl ?_
    refine E_aload_n 72 rfl dX12_odds_71 rfl 0 rfl ?_
    obtain ⟨v1, hv1, h⟩ := Option.bind_eq_some_iff.mp h
    refine E_cV1 (As := []) 75 rfl dX12_odds_72 shc_149 ck_X12_67 cv_X12_noises rfl (by decide) (Nat.le_of_ble_eq_true rfl) (C_X12_noises (g := g) hv1) rfl ?_
    refine E_icmp_ge 97 78 (by decide) rfl dX12_odds_75 (fun c2 => ?_) (fun c2 => ?_)
    · rw [if_pos c2] at h
      refine E_iload 99 rfl dX12_odds_97 4 rfl ?_
      refine E_if_ne 106 102 (by decide) rfl dX12_odds_99 (fun c3 => ?_) (fun c3 => ?_)
      · rw [if_neg c3] at h
        refine E_sipush (v := 10000) 109 rfl dX12_odds_106 (by decide) ?_
        refine E_aload_n 110 rfl dX12_odds_109 rfl 0 rfl ?_
        refine E_iload_n 111 rfl dX12_odds_110 rfl 1 rfl ?_
        refine E_iload_n 112 rfl dX12_odds_111 rfl 2 rfl ?_
        refine E_iload_n 113 rfl dX12_odds_112 rfl 3 rfl ?_
        obtain ⟨v4, hv4, h⟩ := Option.bind_eq_some_iff.mp h
        refine E_cV1 (As := [.int x1, .int x2, .int x3]) 116 rfl dX12_odds_113 shc_149 ck_X12_335 cv_X12_weightOf rfl (by decide) (Nat.le_of_ble_eq_true rfl) (C_X12_weightOf (g := g) hv4) rfl ?_
        refine E_imul 117 rfl dX12_odds_116 ?_
        refine E_iload 119 rfl dX12_odds_117 4 rfl ?_
        obtain ⟨v5, hv5, h⟩ := Option.bind_eq_some_iff.mp h
        refine E_dvI 120 rfl dX12_odds_119 hv5 ?_
        refine E_sub (lv' := []) [] rfl ?_
        exact S_X12_odds_120 v5 I L _ h
      · rw [if_pos c3] at h
        refine E_iconst (v := 0) 103 rfl dX12_odds_102 (by decide) ?_
        refine E_goto 120 (by decide) dX12_odds_103 ?_
        refine E_sub (lv' := []) [] rfl ?_
        exact S_X12_odds_120 0 I L _ h
    · rw [if_neg c2] at h
      refine E_iload 80 rfl dX12_odds_78 4 rfl ?_
      refine E_aload_n 81 rfl dX12_odds_80 rfl 0 rfl ?_
      refine E_iload 83 rfl dX12_odds_81 5 rfl ?_
      refine E_iload_n 84 rfl dX12_odds_83 rfl 2 rfl ?_
      refine E_iload_n 85 rfl dX12_odds_84 rfl 3 rfl ?_
      obtain ⟨v6, hv6, h⟩ := Option.bind_eq_some_iff.mp h
      refine E_cV1 (As := [.int x5, .int x2, .int x3]) 88 rfl dX12_odds_85 shc_149 ck_X12_335 cv_X12_weightOf rfl (by decide) (Nat.le_of_ble_eq_true rfl) (C_X12_weightOf (g := g) hv6) rfl ?_
      refine E_iadd 89 rfl dX12_odds_88 ?_
      refine E_istore (lv' := [(4, .int (x4 + v6)), (0, .ref 149), (1, .int x1), (2, .int x2), (3, .int x3), (5, .int x5)]) 91 rfl dX12_odds_89 (Nat.le_of_ble_eq_true rfl) rfl ?_
      refine E_iinc (j := 5) (v := x5 + 1) (lv' := [(5, .int (x5 + 1)), (4, .int (x4 + v6)), (0, .ref 149), (1, .int x1), (2, .int x2), (3, .int x3)]) 94 rfl dX12_odds_91 rfl rfl (Nat.le_of_ble_eq_true rfl) rfl ?_
      refine E_goto 69 (by decide) dX12_odds_94 ?_
      refine E_sub (lv' := [(0, .ref 149), (1, .int x1), (2, .int x2), (3, .int x3), (4, .int (x4 + v6)), (5, .int (x5 + 1))]) [2, 3, 4, 5, 1, 0] rfl ?_
      exact ih x1 x2 x3 (x4 + v6) (x5 + 1) I L _ h
def f_X12_odds_57 (I : MI) (L : ML) : Option (Int32 × MI × ML) := some (0, I, L)
set_option maxRecDepth 100000 in
theorem S_X12_odds_57 {g : Gx} (I : MI) (L : ML) (res : Int32 × MI × ML) (h : f_X12_odds_57 I L = some res) : E g 6 0 mX12_odds 57 [] [] (I, L) (.inl (some (.int res.1))) (res.2.1, res.2.2) := by
  unfold f_X12_odds_57 at h
  refine E_iconst (v := 0) 58 rfl dX12_odds_57 (by decide) ?_
  cases h
  exact E_iret rfl dX12_odds_58
def f_X12_odds_50 (x1 : Int32) (x2 : Int32) (x3 : Int32) (y1 : Bool) (I : MI) (L : ML) : Option (Int32 × MI × ML) := Option.bind (f_X12_throwsIf y1 2 I L) fun w1 => if w1.1 = true then (f_X12_odds_57 w1.2.1 w1.2.2) else (Option.bind (f_X12_spreads w1.2.1 w1.2.2) fun w3 => f_X12_odds_69 FU x1 x2 x3 0 0 w3.1 w3.2)
set_option maxRecDepth 100000 in
theorem S_X12_odds_50 {g : Gx} (x1 : Int32) (x2 : Int32) (x3 : Int32) (y1 : Bool) (I : MI) (L : ML) (res : Int32 × MI × ML) (h : f_X12_odds_50 x1 x2 x3 y1 I L = some res) : E g 6 0 mX12_odds 50 [(0, .ref 149), (1, .int x1), (2, .int x2), (3, .int x3)] [.int (bI y1), .ref 149] (I, L) (.inl (some (.int res.1))) (res.2.1, res.2.2) := by
  unfold f_X12_odds_50 at h
  refine E_iconst (v := 2) 51 rfl dX12_odds_50 (by decide) ?_
  obtain ⟨w1, hw1, h⟩ := Option.bind_eq_some_iff.mp h
  refine E_cV1 (As := [.int (bI y1), .int 2]) 54 rfl dX12_odds_51 shc_149 ck_X12_245 cv_X12_throwsIf rfl (by decide) (Nat.le_of_ble_eq_true rfl) (C_X12_throwsIf (g := g) hw1) rfl ?_
  refine E_if_eqB 59 57 (by decide) rfl dX12_odds_54 (fun c2 => ?_) (fun c2 => ?_)
  · rw [if_neg (by rw [c2]; decide)] at h
    refine E_aload_n 60 rfl dX12_odds_59 rfl 0 rfl ?_
    obtain ⟨w3, hw3, h⟩ := Option.bind_eq_some_iff.mp h
    refine E_cV0 (As := []) 63 rfl dX12_odds_60 shc_149 ck_X12_298 cv_X12_spreads rfl (by decide) (Nat.le_of_ble_eq_true rfl) (C_X12_spreads (g := g) hw3) rfl ?_
    refine E_iconst (v := 0) 64 rfl dX12_odds_63 (by decide) ?_
    refine E_istore (lv' := [(4, .int 0), (0, .ref 149), (1, .int x1), (2, .int x2), (3, .int x3)]) 66 rfl dX12_odds_64 (Nat.le_of_ble_eq_true rfl) rfl ?_
    refine E_iconst (v := 0) 67 rfl dX12_odds_66 (by decide) ?_
    refine E_istore (lv' := [(5, .int 0), (4, .int 0), (0, .ref 149), (1, .int x1), (2, .int x2), (3, .int x3)]) 69 rfl dX12_odds_67 (Nat.le_of_ble_eq_true rfl) rfl ?_
    refine E_sub (lv' := [(0, .ref 149), (1, .int x1), (2, .int x2), (3, .int x3), (4, .int 0), (5, .int 0)]) [2, 3, 4, 5, 1, 0] rfl ?_
    exact S_X12_odds_69 FU x1 x2 x3 0 0 w3.1 w3.2 _ h
  · rw [if_pos c2] at h
    refine E_sub (lv' := []) [] rfl ?_
    exact S_X12_odds_57 w1.2.1 w1.2.2 _ h
def f_X12_odds_27 (x1 : Int32) (x2 : Int32) (x3 : Int32) (y1 : Bool) (I : MI) (L : ML) : Option (Int32 × MI × ML) := Option.bind (f_X12_throwsIf y1 1 I L) fun w1 => if w1.1 = true then (f_X12_odds_57 w1.2.1 w1.2.2) else (Option.bind (f_X12_in x3 0 99 w1.2.1 w1.2.2) fun v3 => if v3 = true then (f_X12_odds_50 x1 x2 x3 false w1.2.1 w1.2.2) else (f_X12_odds_50 x1 x2 x3 true w1.2.1 w1.2.2))
set_option maxRecDepth 100000 in
theorem S_X12_odds_27 {g : Gx} (x1 : Int32) (x2 : Int32) (x3 : Int32) (y1 : Bool) (I : MI) (L : ML) (res : Int32 × MI × ML) (h : f_X12_odds_27 x1 x2 x3 y1 I L = some res) : E g 6 0 mX12_odds 27 [(0, .ref 149), (1, .int x1), (2, .int x2), (3, .int x3)] [.int (bI y1), .ref 149] (I, L) (.inl (some (.int res.1))) (res.2.1, res.2.2) := by
  unfold f_X12_odds_27 at h
  refine E_iconst (v := 1) 28 rfl dX12_odds_27 (by decide) ?_
  obtain ⟨w1, hw1, h⟩ := Option.bind_eq_some_iff.mp h
  refine E_cV1 (As := [.int (bI y1), .int 1]) 31 rfl dX12_odds_28 shc_149 ck_X12_245 cv_X12_throwsIf rfl (by decide) (Nat.le_of_ble_eq_true rfl) (C_X12_throwsIf (g := g) hw1) rfl ?_
  refine E_if_neB 57 34 (by decide) rfl dX12_odds_31 (fun c2 => ?_) (fun c2 => ?_)
  · rw [if_pos c2] at h
    refine E_sub (lv' := []) [] rfl ?_
    exact S_X12_odds_57 w1.2.1 w1.2.2 _ h
  · rw [if_neg (by rw [c2]; decide)] at h
    refine E_aload_n 35 rfl dX12_odds_34 rfl 0 rfl ?_
    refine E_iload_n 36 rfl dX12_odds_35 rfl 3 rfl ?_
    refine E_iconst (v := 0) 37 rfl dX12_odds_36 (by decide) ?_
    refine E_bipush (v := 99) 39 rfl dX12_odds_37 (by decide) ?_
    obtain ⟨v3, hv3, h⟩ := Option.bind_eq_some_iff.mp h
    refine E_cS1 (As := [.int x3, .int 0, .int 99]) 42 rfl dX12_odds_39 ck_X12_60 ss_X12_in rfl (by decide) (Nat.le_of_ble_eq_true rfl) (C_X12_in (g := g) hv3) rfl ?_
    refine E_if_neB 49 45 (by decide) rfl dX12_odds_42 (fun c4 => ?_) (fun c4 => ?_)
    · rw [if_pos c4] at h
      refine E_iconst (v := 0) 50 rfl dX12_odds_49 (by decide) ?_
      refine E_sub (lv' := [(0, .ref 149), (1, .int x1), (2, .int x2), (3, .int x3)]) [0, 1, 2, 3] rfl ?_
      exact S_X12_odds_50 x1 x2 x3 false w1.2.1 w1.2.2 _ h
    · rw [if_neg (by rw [c4]; decide)] at h
      refine E_iconst (v := 1) 46 rfl dX12_odds_45 (by decide) ?_
      refine E_goto 50 (by decide) dX12_odds_46 ?_
      refine E_sub (lv' := [(0, .ref 149), (1, .int x1), (2, .int x2), (3, .int x3)]) [0, 1, 2, 3] rfl ?_
      exact S_X12_odds_50 x1 x2 x3 true w1.2.1 w1.2.2 _ h
def f_X12_odds_22 (x1 : Int32) (x2 : Int32) (x3 : Int32) (I : MI) (L : ML) : Option (Int32 × MI × ML) := f_X12_odds_27 x1 x2 x3 true I L
set_option maxRecDepth 100000 in
theorem S_X12_odds_22 {g : Gx} (x1 : Int32) (x2 : Int32) (x3 : Int32) (I : MI) (L : ML) (res : Int32 × MI × ML) (h : f_X12_odds_22 x1 x2 x3 I L = some res) : E g 6 0 mX12_odds 22 [(0, .ref 149), (1, .int x1), (2, .int x2), (3, .int x3)] [.ref 149] (I, L) (.inl (some (.int res.1))) (res.2.1, res.2.2) := by
  unfold f_X12_odds_22 at h
  refine E_iconst (v := 1) 23 rfl dX12_odds_22 (by decide) ?_
  refine E_goto 27 (by decide) dX12_odds_23 ?_
  refine E_sub (lv' := [(0, .ref 149), (1, .int x1), (2, .int x2), (3, .int x3)]) [0, 1, 2, 3] rfl ?_
  exact S_X12_odds_27 x1 x2 x3 true I L _ h
def f_X12_odds (x1 : Int32) (x2 : Int32) (x3 : Int32) (I : MI) (L : ML) : Option (Int32 × MI × ML) := Option.bind (pfI I 149 0 0) fun I1 => Option.bind (f_X12_noNoise x1 I1 L) fun v2 => if v2 = true then (f_X12_odds_22 x1 x2 x3 I1 L) else (Option.bind (f_X12_noRoom x2 I1 L) fun v4 => if v4 = true then (f_X12_odds_22 x1 x2 x3 I1 L) else (f_X12_odds_27 x1 x2 x3 false I1 L))
set_option maxRecDepth 100000 in
theorem S_X12_odds {g : Gx} (x1 : Int32) (x2 : Int32) (x3 : Int32) (I : MI) (L : ML) (res : Int32 × MI × ML) (h : f_X12_odds x1 x2 x3 I L = some res) : E g 6 0 mX12_odds 0 [(0, .ref 149), (1, .int x1), (2, .int x2), (3, .int x3)] [] (I, L) (.inl (some (.int res.1))) (res.2.1, res.2.2) := by
  unfold f_X12_odds at h
  refine E_aload_n 1 rfl dX12_odds_0 rfl 0 rfl ?_
  refine E_iconst (v := 0) 2 rfl dX12_odds_1 (by decide) ?_
  obtain ⟨I1, hI1, h⟩ := Option.bind_eq_some_iff.mp h
  refine E_pfI 5 rfl dX12_odds_2 shc_149 fl_X12_3 rfl hI1 ?_
  refine E_aload_n 6 rfl dX12_odds_5 rfl 0 rfl ?_
  refine E_aload_n 7 rfl dX12_odds_6 rfl 0 rfl ?_
  refine E_iload_n 8 rfl dX12_odds_7 rfl 1 rfl ?_
  obtain ⟨v2, hv2, h⟩ := Option.bind_eq_some_iff.mp h
  refine E_cV1 (As := [.int x1]) 11 rfl dX12_odds_8 shc_149 ck_X12_304 cv_X12_noNoise rfl (by decide) (Nat.le_of_ble_eq_true rfl) (C_X12_noNoise (g := g) hv2) rfl ?_
  refine E_if_neB 22 14 (by decide) rfl dX12_odds_11 (fun c3 => ?_) (fun c3 => ?_)
  · rw [if_pos c3] at h
    refine E_sub (lv' := [(0, .ref 149), (1, .int x1), (2, .int x2), (3, .int x3)]) [0, 1, 2, 3] rfl ?_
    exact S_X12_odds_22 x1 x2 x3 I1 L _ h
  · rw [if_neg (by rw [c3]; decide)] at h
    refine E_aload_n 15 rfl dX12_odds_14 rfl 0 rfl ?_
    refine E_iload_n 16 rfl dX12_odds_15 rfl 2 rfl ?_
    obtain ⟨v4, hv4, h⟩ := Option.bind_eq_some_iff.mp h
    refine E_cV1 (As := [.int x2]) 19 rfl dX12_odds_16 shc_149 ck_X12_292 cv_X12_noRoom rfl (by decide) (Nat.le_of_ble_eq_true rfl) (C_X12_noRoom (g := g) hv4) rfl ?_
    refine E_if_eqB 26 22 (by decide) rfl dX12_odds_19 (fun c5 => ?_) (fun c5 => ?_)
    · rw [if_neg (by rw [c5]; decide)] at h
      refine E_iconst (v := 0) 27 rfl dX12_odds_26 (by decide) ?_
      refine E_sub (lv' := [(0, .ref 149), (1, .int x1), (2, .int x2), (3, .int x3)]) [0, 1, 2, 3] rfl ?_
      exact S_X12_odds_27 x1 x2 x3 false I1 L _ h
    · rw [if_pos c5] at h
      refine E_sub (lv' := [(0, .ref 149), (1, .int x1), (2, .int x2), (3, .int x3)]) [0, 1, 2, 3] rfl ?_
      exact S_X12_odds_22 x1 x2 x3 I1 L _ h
theorem C_X12_odds {g : Gx} {x1 : Int32} {x2 : Int32} {x3 : Int32} {I : MI} {L : ML} {res : Int32 × MI × ML} (h : f_X12_odds x1 x2 x3 I L = some res) : Ent g 6 0 mX12_odds [.ref 149, .int x1, .int x2, .int x3] (I, L) (.inl (some (.int res.1))) (res.2.1, res.2.2) := Ent_of (by decide +kernel) (Nat.le_of_ble_eq_true rfl) (S_X12_odds x1 x2 x3 I L _ h)
def f_X12_likeliest_87 (k55 : Int32 → Int32 → Int32 → Int32 → Int32 → MI → ML → Option (Int32 × MI × ML)) (x1 : Int32) (x2 : Int32) (x4 : Int32) (x5 : Int32) (x6 : Int32) (y0 : Int32) (I : MI) (L : ML) : Option (Int32 × MI × ML) := k55 x1 x2 y0 (if x4 < x6 then x6 else x4) (x5 + 1) I L
set_option maxRecDepth 100000 in
theorem S_X12_likeliest_87 {g : Gx} {k55 : Int32 → Int32 → Int32 → Int32 → Int32 → MI → ML → Option (Int32 × MI × ML)} (hk55 : ∀ (x1z : Int32) (x2z : Int32) (x3z : Int32) (x4z : Int32) (x5z : Int32) (I : MI) (L : ML) (res : Int32 × MI × ML), k55 x1z x2z x3z x4z x5z I L = some res → E g 6 0 mX12_likeliest 55 [(0, .ref 149), (1, .int x1z), (2, .int x2z), (3, .int x3z), (4, .int x4z), (5, .int x5z)] [] (I, L) (.inl (some (.int res.1))) (res.2.1, res.2.2)) (x1 : Int32) (x2 : Int32) (x4 : Int32) (x5 : Int32) (x6 : Int32) (y0 : Int32) (I : MI) (L : ML) (res : Int32 × MI × ML) (h : f_X12_likeliest_87 k55 x1 x2 x4 x5 x6 y0 I L = some res) : E g 6 0 mX12_likeliest 87 [(0, .ref 149), (1, .int x1), (2, .int x2), (4, .int x4), (5, .int x5), (6, .int x6)] [.int y0] (I, L) (.inl (some (.int res.1))) (res.2.1, res.2.2) := by
  unfold f_X12_likeliest_87 at h
  refine E_istore_n (lv' := [(3, .int y0), (0, .ref 149), (1, .int x1), (2, .int x2), (4, .int x4), (5, .int x5), (6, .int x6)]) 88 rfl dX12_likeliest_87 rfl (Nat.le_of_ble_eq_true rfl) rfl ?_
  refine E_iload 90 rfl dX12_likeliest_88 4 rfl ?_
  refine E_iload 92 rfl dX12_likeliest_90 6 rfl ?_
  refine E_max 95 rfl dX12_likeliest_92 jm_X12_263 (by decide) (Nat.le_of_ble_eq_true rfl) ?_
  refine E_istore (lv' := [(4, .int (if x4 < x6 then x6 else x4)), (3, .int y0), (0, .ref 149), (1, .int x1), (2, .int x2), (5, .int x5), (6, .int x6)]) 97 rfl dX12_likeliest_95 (Nat.le_of_ble_eq_true rfl) rfl ?_
  refine E_iinc (j := 5) (v := x5 + 1) (lv' := [(5, .int (x5 + 1)), (4, .int (if x4 < x6 then x6 else x4)), (3, .int y0), (0, .ref 149), (1, .int x1), (2, .int x2), (6, .int x6)]) 100 rfl dX12_likeliest_97 rfl rfl (Nat.le_of_ble_eq_true rfl) rfl ?_
  refine E_goto 55 (by decide) dX12_likeliest_100 ?_
  refine E_sub (lv' := [(0, .ref 149), (1, .int x1), (2, .int x2), (3, .int y0), (4, .int (if x4 < x6 then x6 else x4)), (5, .int (x5 + 1))]) [3, 4, 5, 2, 1, 0] rfl ?_
  exact hk55 x1 x2 y0 (if x4 < x6 then x6 else x4) (x5 + 1) I L _ h
def f_X12_likeliest_55 : Nat → Int32 → Int32 → Int32 → Int32 → Int32 → MI → ML → Option (Int32 × MI × ML)
  | 0, _, _, _, _, _, _, _ => none
  | n + 1, x1, x2, x3, x4, x5, I, L => Option.bind (f_X12_noises I L) fun v1 => if v1 ≤ x5 then (some (x3, I, L)) else (Option.bind (f_X12_weightOf x5 x1 x2 I L) fun v3 => if v3 ≤ x4 then (f_X12_likeliest_87 (f_X12_likeliest_55 n) x1 x2 x4 x5 v3 x3 I L) else (f_X12_likeliest_87 (f_X12_likeliest_55 n) x1 x2 x4 x5 v3 x5 I L))
set_option maxRecDepth 100000 in
theorem S_X12_likeliest_55 {g : Gx} : ∀ (n : Nat) (x1 : Int32) (x2 : Int32) (x3 : Int32) (x4 : Int32) (x5 : Int32) (I : MI) (L : ML) (res : Int32 × MI × ML), f_X12_likeliest_55 n x1 x2 x3 x4 x5 I L = some res → E g 6 0 mX12_likeliest 55 [(0, .ref 149), (1, .int x1), (2, .int x2), (3, .int x3), (4, .int x4), (5, .int x5)] [] (I, L) (.inl (some (.int res.1))) (res.2.1, res.2.2) := by
  intro n
  induction n with
  | zero =>
    intros
    rename_i h
    cases h
  | succ n ih =>
    intro x1 x2 x3 x4 x5 I L res h
    rw [f_X12_likeliest_55] at h
    refine E_iload 57 rfl dX12_likeliest_55 5 rfl ?_
    refine E_aload_n 58 rfl dX12_likeliest_57 rfl 0 rfl ?_
    obtain ⟨v1, hv1, h⟩ := Option.bind_eq_some_iff.mp h
    refine E_cV1 (As := []) 61 rfl dX12_likeliest_58 shc_149 ck_X12_67 cv_X12_noises rfl (by decide) (Nat.le_of_ble_eq_true rfl) (C_X12_noises (g := g) hv1) rfl ?_
    refine E_icmp_ge 103 64 (by decide) rfl dX12_likeliest_61 (fun c2 => ?_) (fun c2 => ?_)
    · rw [if_pos c2] at h
      refine E_iload_n 104 rfl dX12_likeliest_103 rfl 3 rfl ?_
      cases h
      exact E_iret rfl dX12_likeliest_104
    · rw [if_neg c2] at h
      refine E_aload_n 65 rfl dX12_likeliest_64 rfl 0 rfl ?_
      refine E_iload 67 rfl dX12_likeliest_65 5 rfl ?_
      refine E_iload_n 68 rfl dX12_likeliest_67 rfl 1 rfl ?_
      refine E_iload_n 69 rfl dX12_likeliest_68 rfl 2 rfl ?_
      obtain ⟨v3, hv3, h⟩ := Option.bind_eq_some_iff.mp h
      refine E_cV1 (As := [.int x5, .int x1, .int x2]) 72 rfl dX12_likeliest_69 shc_149 ck_X12_335 cv_X12_weightOf rfl (by decide) (Nat.le_of_ble_eq_true rfl) (C_X12_weightOf (g := g) hv3) rfl ?_
      refine E_istore (lv' := [(6, .int v3), (0, .ref 149), (1, .int x1), (2, .int x2), (3, .int x3), (4, .int x4), (5, .int x5)]) 74 rfl dX12_likeliest_72 (Nat.le_of_ble_eq_true rfl) rfl ?_
      refine E_iload 76 rfl dX12_likeliest_74 0 rfl ?_
      refine E_iload 78 rfl dX12_likeliest_76 5 rfl ?_
      refine E_icmp_le 86 81 (by decide) rfl dX12_likeliest_78 (fun c4 => ?_) (fun c4 => ?_)
      · rw [if_pos c4] at h
        refine E_iload_n 87 rfl dX12_likeliest_86 rfl 4 rfl ?_
        refine E_sub (lv' := [(0, .ref 149), (1, .int x1), (2, .int x2), (4, .int x4), (5, .int x5), (6, .int v3)]) [1, 2, 3, 5, 6, 0] rfl ?_
        exact S_X12_likeliest_87 ih x1 x2 x4 x5 v3 x3 I L _ h
      · rw [if_neg c4] at h
        refine E_iload 83 rfl dX12_likeliest_81 6 rfl ?_
        refine E_goto 87 (by decide) dX12_likeliest_83 ?_
        refine E_sub (lv' := [(0, .ref 149), (1, .int x1), (2, .int x2), (4, .int x4), (5, .int x5), (6, .int v3)]) [1, 2, 3, 5, 6, 0] rfl ?_
        exact S_X12_likeliest_87 ih x1 x2 x4 x5 v3 x5 I L _ h
def f_X12_likeliest_41 (I : MI) (L : ML) : Option (Int32 × MI × ML) := some (0, I, L)
set_option maxRecDepth 100000 in
theorem S_X12_likeliest_41 {g : Gx} (I : MI) (L : ML) (res : Int32 × MI × ML) (h : f_X12_likeliest_41 I L = some res) : E g 6 0 mX12_likeliest 41 [] [] (I, L) (.inl (some (.int res.1))) (res.2.1, res.2.2) := by
  unfold f_X12_likeliest_41 at h
  refine E_iconst (v := 0) 42 rfl dX12_likeliest_41 (by decide) ?_
  cases h
  exact E_iret rfl dX12_likeliest_42
def f_X12_likeliest_34 (x1 : Int32) (x2 : Int32) (y1 : Bool) (I : MI) (L : ML) : Option (Int32 × MI × ML) := Option.bind (f_X12_throwsIf y1 2 I L) fun w1 => if w1.1 = true then (f_X12_likeliest_41 w1.2.1 w1.2.2) else (Option.bind (f_X12_spreads w1.2.1 w1.2.2) fun w3 => f_X12_likeliest_55 FU x1 x2 ((-1)) 0 0 w3.1 w3.2)
set_option maxRecDepth 100000 in
theorem S_X12_likeliest_34 {g : Gx} (x1 : Int32) (x2 : Int32) (y1 : Bool) (I : MI) (L : ML) (res : Int32 × MI × ML) (h : f_X12_likeliest_34 x1 x2 y1 I L = some res) : E g 6 0 mX12_likeliest 34 [(0, .ref 149), (1, .int x1), (2, .int x2)] [.int (bI y1), .ref 149] (I, L) (.inl (some (.int res.1))) (res.2.1, res.2.2) := by
  unfold f_X12_likeliest_34 at h
  refine E_iconst (v := 2) 35 rfl dX12_likeliest_34 (by decide) ?_
  obtain ⟨w1, hw1, h⟩ := Option.bind_eq_some_iff.mp h
  refine E_cV1 (As := [.int (bI y1), .int 2]) 38 rfl dX12_likeliest_35 shc_149 ck_X12_245 cv_X12_throwsIf rfl (by decide) (Nat.le_of_ble_eq_true rfl) (C_X12_throwsIf (g := g) hw1) rfl ?_
  refine E_if_eqB 43 41 (by decide) rfl dX12_likeliest_38 (fun c2 => ?_) (fun c2 => ?_)
  · rw [if_neg (by rw [c2]; decide)] at h
    refine E_aload_n 44 rfl dX12_likeliest_43 rfl 0 rfl ?_
    obtain ⟨w3, hw3, h⟩ := Option.bind_eq_some_iff.mp h
    refine E_cV0 (As := []) 47 rfl dX12_likeliest_44 shc_149 ck_X12_298 cv_X12_spreads rfl (by decide) (Nat.le_of_ble_eq_true rfl) (C_X12_spreads (g := g) hw3) rfl ?_
    refine E_iconst (v := (-1)) 48 rfl dX12_likeliest_47 (by decide) ?_
    refine E_istore_n (lv' := [(3, .int ((-1))), (0, .ref 149), (1, .int x1), (2, .int x2)]) 49 rfl dX12_likeliest_48 rfl (Nat.le_of_ble_eq_true rfl) rfl ?_
    refine E_iconst (v := 0) 50 rfl dX12_likeliest_49 (by decide) ?_
    refine E_istore (lv' := [(4, .int 0), (3, .int ((-1))), (0, .ref 149), (1, .int x1), (2, .int x2)]) 52 rfl dX12_likeliest_50 (Nat.le_of_ble_eq_true rfl) rfl ?_
    refine E_iconst (v := 0) 53 rfl dX12_likeliest_52 (by decide) ?_
    refine E_istore (lv' := [(5, .int 0), (4, .int 0), (3, .int ((-1))), (0, .ref 149), (1, .int x1), (2, .int x2)]) 55 rfl dX12_likeliest_53 (Nat.le_of_ble_eq_true rfl) rfl ?_
    refine E_sub (lv' := [(0, .ref 149), (1, .int x1), (2, .int x2), (3, .int ((-1))), (4, .int 0), (5, .int 0)]) [3, 4, 5, 2, 1, 0] rfl ?_
    exact S_X12_likeliest_55 FU x1 x2 ((-1)) 0 0 w3.1 w3.2 _ h
  · rw [if_pos c2] at h
    refine E_sub (lv' := []) [] rfl ?_
    exact S_X12_likeliest_41 w1.2.1 w1.2.2 _ h
def f_X12_likeliest (x1 : Int32) (x2 : Int32) (I : MI) (L : ML) : Option (Int32 × MI × ML) := Option.bind (pfI I 149 0 0) fun I1 => Option.bind (f_X12_noRoom x1 I1 L) fun v2 => Option.bind (f_X12_throwsIf v2 1 I1 L) fun w3 => if w3.1 = true then (f_X12_likeliest_41 w3.2.1 w3.2.2) else (Option.bind (f_X12_in x2 0 99 w3.2.1 w3.2.2) fun v5 => if v5 = true then (f_X12_likeliest_34 x1 x2 false w3.2.1 w3.2.2) else (f_X12_likeliest_34 x1 x2 true w3.2.1 w3.2.2))
set_option maxRecDepth 100000 in
theorem S_X12_likeliest {g : Gx} (x1 : Int32) (x2 : Int32) (I : MI) (L : ML) (res : Int32 × MI × ML) (h : f_X12_likeliest x1 x2 I L = some res) : E g 6 0 mX12_likeliest 0 [(0, .ref 149), (1, .int x1), (2, .int x2)] [] (I, L) (.inl (some (.int res.1))) (res.2.1, res.2.2) := by
  unfold f_X12_likeliest at h
  refine E_aload_n 1 rfl dX12_likeliest_0 rfl 0 rfl ?_
  refine E_iconst (v := 0) 2 rfl dX12_likeliest_1 (by decide) ?_
  obtain ⟨I1, hI1, h⟩ := Option.bind_eq_some_iff.mp h
  refine E_pfI 5 rfl dX12_likeliest_2 shc_149 fl_X12_3 rfl hI1 ?_
  refine E_aload_n 6 rfl dX12_likeliest_5 rfl 0 rfl ?_
  refine E_aload_n 7 rfl dX12_likeliest_6 rfl 0 rfl ?_
  refine E_iload_n 8 rfl dX12_likeliest_7 rfl 1 rfl ?_
  obtain ⟨v2, hv2, h⟩ := Option.bind_eq_some_iff.mp h
  refine E_cV1 (As := [.int x1]) 11 rfl dX12_likeliest_8 shc_149 ck_X12_292 cv_X12_noRoom rfl (by decide) (Nat.le_of_ble_eq_true rfl) (C_X12_noRoom (g := g) hv2) rfl ?_
  refine E_iconst (v := 1) 12 rfl dX12_likeliest_11 (by decide) ?_
  obtain ⟨w3, hw3, h⟩ := Option.bind_eq_some_iff.mp h
  refine E_cV1 (As := [.int (bI v2), .int 1]) 15 rfl dX12_likeliest_12 shc_149 ck_X12_245 cv_X12_throwsIf rfl (by decide) (Nat.le_of_ble_eq_true rfl) (C_X12_throwsIf (g := g) hw3) rfl ?_
  refine E_if_neB 41 18 (by decide) rfl dX12_likeliest_15 (fun c4 => ?_) (fun c4 => ?_)
  · rw [if_pos c4] at h
    refine E_sub (lv' := []) [] rfl ?_
    exact S_X12_likeliest_41 w3.2.1 w3.2.2 _ h
  · rw [if_neg (by rw [c4]; decide)] at h
    refine E_aload_n 19 rfl dX12_likeliest_18 rfl 0 rfl ?_
    refine E_iload_n 20 rfl dX12_likeliest_19 rfl 2 rfl ?_
    refine E_iconst (v := 0) 21 rfl dX12_likeliest_20 (by decide) ?_
    refine E_bipush (v := 99) 23 rfl dX12_likeliest_21 (by decide) ?_
    obtain ⟨v5, hv5, h⟩ := Option.bind_eq_some_iff.mp h
    refine E_cS1 (As := [.int x2, .int 0, .int 99]) 26 rfl dX12_likeliest_23 ck_X12_60 ss_X12_in rfl (by decide) (Nat.le_of_ble_eq_true rfl) (C_X12_in (g := g) hv5) rfl ?_
    refine E_if_neB 33 29 (by decide) rfl dX12_likeliest_26 (fun c6 => ?_) (fun c6 => ?_)
    · rw [if_pos c6] at h
      refine E_iconst (v := 0) 34 rfl dX12_likeliest_33 (by decide) ?_
      refine E_sub (lv' := [(0, .ref 149), (1, .int x1), (2, .int x2)]) [0, 1, 2] rfl ?_
      exact S_X12_likeliest_34 x1 x2 false w3.2.1 w3.2.2 _ h
    · rw [if_neg (by rw [c6]; decide)] at h
      refine E_iconst (v := 1) 30 rfl dX12_likeliest_29 (by decide) ?_
      refine E_goto 34 (by decide) dX12_likeliest_30 ?_
      refine E_sub (lv' := [(0, .ref 149), (1, .int x1), (2, .int x2)]) [0, 1, 2] rfl ?_
      exact S_X12_likeliest_34 x1 x2 true w3.2.1 w3.2.2 _ h
theorem C_X12_likeliest {g : Gx} {x1 : Int32} {x2 : Int32} {I : MI} {L : ML} {res : Int32 × MI × ML} (h : f_X12_likeliest x1 x2 I L = some res) : Ent g 6 0 mX12_likeliest [.ref 149, .int x1, .int x2] (I, L) (.inl (some (.int res.1))) (res.2.1, res.2.2) := Ent_of (by decide +kernel) (Nat.le_of_ble_eq_true rfl) (S_X12_likeliest x1 x2 I L _ h)
def f_X12_winterOf_64 (x2 : Int32) (y0 : Int32) (I : MI) (L : ML) : Option (Int64) := some (y0.toInt64 * x2.toInt64)
set_option maxRecDepth 100000 in
theorem S_X12_winterOf_64 {g : Gx} (x2 : Int32) (y0 : Int32) (I : MI) (L : ML) (res : Int64) (h : f_X12_winterOf_64 x2 y0 I L = some res) : E g 4 0 mX12_winterOf 64 [(2, .int x2)] [.int y0] (I, L) (.inl (some (.long res))) (I, L) := by
  unfold f_X12_winterOf_64 at h
  refine E_istore (lv' := [(4, .int y0), (2, .int x2)]) 66 rfl dX12_winterOf_64 (Nat.le_of_ble_eq_true rfl) rfl ?_
  refine E_iload 68 rfl dX12_winterOf_66 0 rfl ?_
  refine E_i2l 69 rfl dX12_winterOf_68 ?_
  refine E_iload_n 70 rfl dX12_winterOf_69 rfl 1 rfl ?_
  refine E_i2l 71 rfl dX12_winterOf_70 ?_
  refine E_lmul 72 rfl dX12_winterOf_71 ?_
  cases h
  exact E_lret rfl dX12_winterOf_72
def f_X12_winterOf (x1 : Int32) (x2 : Int32) (I : MI) (L : ML) : Option (Int64) := Option.bind (f_X12_of x1 0 I L) fun v1 => if v1 = 0 then (Option.bind (f_X12_of x1 6 I L) fun v7 => Option.bind (f_J6_bitCount_0f7a4 v7 I L) fun v8 => f_X12_winterOf_64 x2 (100 * v8) I L) else (if v1 = 1 then (Option.bind (ldI I 150 2143 8) fun v6 => f_X12_winterOf_64 x2 (24 * v6) I L) else (if v1 = 2 then (Option.bind (f_X12_of x1 6 I L) fun v5 => f_X12_winterOf_64 x2 (24 * v5) I L) else (f_X12_winterOf_64 x2 0 I L)))
set_option maxRecDepth 100000 in
theorem S_X12_winterOf {g : Gx} (x1 : Int32) (x2 : Int32) (I : MI) (L : ML) (res : Int64) (h : f_X12_winterOf x1 x2 I L = some res) : E g 4 0 mX12_winterOf 0 [(0, .ref 149), (1, .int x1), (2, .int x2)] [] (I, L) (.inl (some (.long res))) (I, L) := by
  unfold f_X12_winterOf at h
  refine E_aload_n 1 rfl dX12_winterOf_0 rfl 0 rfl ?_
  refine E_iload_n 2 rfl dX12_winterOf_1 rfl 1 rfl ?_
  refine E_iconst (v := 0) 3 rfl dX12_winterOf_2 (by decide) ?_
  obtain ⟨v1, hv1, h⟩ := Option.bind_eq_some_iff.mp h
  refine E_cV1 (As := [.int x1, .int 0]) 6 rfl dX12_winterOf_3 shc_149 ck_X12_260 cv_X12_of rfl (by decide) (Nat.le_of_ble_eq_true rfl) (C_X12_of (g := g) hv1) rfl ?_
  refine E_istore_n (lv' := [(3, .int v1), (0, .ref 149), (1, .int x1), (2, .int x2)]) 7 rfl dX12_winterOf_6 rfl (Nat.le_of_ble_eq_true rfl) rfl ?_
  refine E_iload_n 8 rfl dX12_winterOf_7 rfl 0 rfl ?_
  refine E_if_ne 27 11 (by decide) rfl dX12_winterOf_8 (fun c2 => ?_) (fun c2 => ?_)
  · rw [if_neg c2] at h
    refine E_iload_n 28 rfl dX12_winterOf_27 rfl 0 rfl ?_
    refine E_iconst (v := 1) 29 rfl dX12_winterOf_28 (by decide) ?_
    refine E_icmp_ne 45 32 (by decide) rfl dX12_winterOf_29 (fun c3 => ?_) (fun c3 => ?_)
    · rw [if_neg c3] at h
      refine E_iload_n 46 rfl dX12_winterOf_45 rfl 0 rfl ?_
      refine E_iconst (v := 2) 47 rfl dX12_winterOf_46 (by decide) ?_
      refine E_icmp_ne 63 50 (by decide) rfl dX12_winterOf_47 (fun c4 => ?_) (fun c4 => ?_)
      · rw [if_neg c4] at h
        refine E_iconst (v := 0) 64 rfl dX12_winterOf_63 (by decide) ?_
        refine E_sub (lv' := [(2, .int x2)]) [3] rfl ?_
        exact S_X12_winterOf_64 x2 0 I L _ h
      · rw [if_pos c4] at h
        refine E_bipush (v := 24) 52 rfl dX12_winterOf_50 (by decide) ?_
        refine E_aload_n 53 rfl dX12_winterOf_52 rfl 1 rfl ?_
        refine E_iload_n 54 rfl dX12_winterOf_53 rfl 2 rfl ?_
        refine E_bipush (v := 6) 56 rfl dX12_winterOf_54 (by decide) ?_
        obtain ⟨v5, hv5, h⟩ := Option.bind_eq_some_iff.mp h
        refine E_cV1 (As := [.int x1, .int 6]) 59 rfl dX12_winterOf_56 shc_149 ck_X12_260 cv_X12_of rfl (by decide) (Nat.le_of_ble_eq_true rfl) (C_X12_of (g := g) hv5) rfl ?_
        refine E_imul 60 rfl dX12_winterOf_59 ?_
        refine E_goto 64 (by decide) dX12_winterOf_60 ?_
        refine E_sub (lv' := [(2, .int x2)]) [3] rfl ?_
        exact S_X12_winterOf_64 x2 (24 * v5) I L _ h
    · rw [if_pos c3] at h
      refine E_bipush (v := 24) 34 rfl dX12_winterOf_32 (by decide) ?_
      refine E_aload_n 35 rfl dX12_winterOf_34 rfl 1 rfl ?_
      refine E_gR 150 38 rfl dX12_winterOf_35 shc_149 fl_X12_13 rfl (by decide) (by decide) ?_
      refine E_bipush (v := 8) 40 rfl dX12_winterOf_38 (by decide) ?_
      obtain ⟨v6, hv6, h⟩ := Option.bind_eq_some_iff.mp h
      refine E_ldI 41 rfl dX12_winterOf_40 shc_150 hv6 ?_
      refine E_imul 42 rfl dX12_winterOf_41 ?_
      refine E_goto 64 (by decide) dX12_winterOf_42 ?_
      refine E_sub (lv' := [(2, .int x2)]) [3] rfl ?_
      exact S_X12_winterOf_64 x2 (24 * v6) I L _ h
  · rw [if_pos c2] at h
    refine E_bipush (v := 100) 13 rfl dX12_winterOf_11 (by decide) ?_
    refine E_aload_n 14 rfl dX12_winterOf_13 rfl 1 rfl ?_
    refine E_iload_n 15 rfl dX12_winterOf_14 rfl 2 rfl ?_
    refine E_bipush (v := 6) 17 rfl dX12_winterOf_15 (by decide) ?_
    obtain ⟨v7, hv7, h⟩ := Option.bind_eq_some_iff.mp h
    refine E_cV1 (As := [.int x1, .int 6]) 20 rfl dX12_winterOf_17 shc_149 ck_X12_260 cv_X12_of rfl (by decide) (Nat.le_of_ble_eq_true rfl) (C_X12_of (g := g) hv7) rfl ?_
    obtain ⟨v8, hv8, h⟩ := Option.bind_eq_some_iff.mp h
    refine E_cS1 (As := [.int v7]) 23 rfl dX12_winterOf_20 ck_X12_339 ss_J6_bitCount_0f7a4 rfl (by decide) (Nat.le_of_ble_eq_true rfl) (C_J6_bitCount_0f7a4 (g := g) hv8) rfl ?_
    refine E_imul 24 rfl dX12_winterOf_23 ?_
    refine E_goto 64 (by decide) dX12_winterOf_24 ?_
    refine E_sub (lv' := [(2, .int x2)]) [3] rfl ?_
    exact S_X12_winterOf_64 x2 (100 * v8) I L _ h
theorem C_X12_winterOf {g : Gx} {x1 : Int32} {x2 : Int32} {I : MI} {L : ML} {res : Int64} (h : f_X12_winterOf x1 x2 I L = some res) : Ent g 4 0 mX12_winterOf [.ref 149, .int x1, .int x2] (I, L) (.inl (some (.long res))) (I, L) := Ent_of (by decide +kernel) (Nat.le_of_ble_eq_true rfl) (S_X12_winterOf x1 x2 I L _ h)
def f_X12_dueOf_26 (y0 : Int64) (I : MI) (L : ML) : Option (Int64) := some y0
set_option maxRecDepth 100000 in
theorem S_X12_dueOf_26 {g : Gx} (y0 : Int64) (I : MI) (L : ML) (res : Int64) (h : f_X12_dueOf_26 y0 I L = some res) : E g 7 0 mX12_dueOf 26 [] [.long y0] (I, L) (.inl (some (.long res))) (I, L) := by
  unfold f_X12_dueOf_26 at h
  cases h
  exact E_lret rfl dX12_dueOf_26
def f_X12_dueOf (x1 : Int32) (x2 : Int32) (I : MI) (L : ML) : Option (Int64) := Option.bind (f_X12_isHeard x1 I L) fun v1 => if v1 = true then (Option.bind (f_X12_winterOf x1 x2 I L) fun v3 => Option.bind (f_X12_of x1 4 I L) fun v4 => f_X12_dueOf_26 (v3 * v4.toInt64) I L) else (f_X12_dueOf_26 0 I L)
set_option maxRecDepth 100000 in
theorem S_X12_dueOf {g : Gx} (x1 : Int32) (x2 : Int32) (I : MI) (L : ML) (res : Int64) (h : f_X12_dueOf x1 x2 I L = some res) : E g 7 0 mX12_dueOf 0 [(0, .ref 149), (1, .int x1), (2, .int x2)] [] (I, L) (.inl (some (.long res))) (I, L) := by
  unfold f_X12_dueOf at h
  refine E_aload_n 1 rfl dX12_dueOf_0 rfl 0 rfl ?_
  refine E_iload_n 2 rfl dX12_dueOf_1 rfl 1 rfl ?_
  obtain ⟨v1, hv1, h⟩ := Option.bind_eq_some_iff.mp h
  refine E_cV1 (As := [.int x1]) 5 rfl dX12_dueOf_2 shc_149 ck_X12_320 cv_X12_isHeard rfl (by decide) (Nat.le_of_ble_eq_true rfl) (C_X12_isHeard (g := g) hv1) rfl ?_
  refine E_if_eqB 25 8 (by decide) rfl dX12_dueOf_5 (fun c2 => ?_) (fun c2 => ?_)
  · rw [if_neg (by rw [c2]; decide)] at h
    refine E_lconst (v := 0) 26 rfl dX12_dueOf_25 (by decide) ?_
    refine E_sub (lv' := []) [] rfl ?_
    exact S_X12_dueOf_26 0 I L _ h
  · rw [if_pos c2] at h
    refine E_aload_n 9 rfl dX12_dueOf_8 rfl 0 rfl ?_
    refine E_iload_n 10 rfl dX12_dueOf_9 rfl 1 rfl ?_
    refine E_iload_n 11 rfl dX12_dueOf_10 rfl 2 rfl ?_
    obtain ⟨v3, hv3, h⟩ := Option.bind_eq_some_iff.mp h
    refine E_cV1 (As := [.int x1, .int x2]) 14 rfl dX12_dueOf_11 shc_149 ck_X12_344 cv_X12_winterOf rfl (by decide) (Nat.le_of_ble_eq_true rfl) (C_X12_winterOf (g := g) hv3) rfl ?_
    refine E_aload_n 15 rfl dX12_dueOf_14 rfl 0 rfl ?_
    refine E_iload_n 16 rfl dX12_dueOf_15 rfl 1 rfl ?_
    refine E_iconst (v := 4) 17 rfl dX12_dueOf_16 (by decide) ?_
    obtain ⟨v4, hv4, h⟩ := Option.bind_eq_some_iff.mp h
    refine E_cV1 (As := [.int x1, .int 4]) 20 rfl dX12_dueOf_17 shc_149 ck_X12_260 cv_X12_of rfl (by decide) (Nat.le_of_ble_eq_true rfl) (C_X12_of (g := g) hv4) rfl ?_
    refine E_i2l 21 rfl dX12_dueOf_20 ?_
    refine E_lmul 22 rfl dX12_dueOf_21 ?_
    refine E_goto 26 (by decide) dX12_dueOf_22 ?_
    refine E_sub (lv' := []) [] rfl ?_
    exact S_X12_dueOf_26 (v3 * v4.toInt64) I L _ h
theorem C_X12_dueOf {g : Gx} {x1 : Int32} {x2 : Int32} {I : MI} {L : ML} {res : Int64} (h : f_X12_dueOf x1 x2 I L = some res) : Ent g 7 0 mX12_dueOf [.ref 149, .int x1, .int x2] (I, L) (.inl (some (.long res))) (I, L) := Ent_of (by decide +kernel) (Nat.le_of_ble_eq_true rfl) (S_X12_dueOf x1 x2 I L _ h)
def f_X12_noDays_16 (y0 : Bool) (I : MI) (L : ML) : Option (Bool) := some y0
set_option maxRecDepth 100000 in
theorem S_X12_noDays_16 {g : Gx} (y0 : Bool) (I : MI) (L : ML) (res : Bool) (h : f_X12_noDays_16 y0 I L = some res) : E g 2 0 mX12_noDays 16 [] [.int (bI y0)] (I, L) (.inl (some (.int (bI res)))) (I, L) := by
  unfold f_X12_noDays_16 at h
  cases h
  exact E_zret (x := y0) rfl dX12_noDays_16
def f_X12_noDays (x0 : Int32) (I : MI) (L : ML) : Option (Bool) := Option.bind (f_X12_in x0 1 200 I L) fun v1 => if v1 = true then (f_X12_noDays_16 false I L) else (f_X12_noDays_16 true I L)
set_option maxRecDepth 100000 in
theorem S_X12_noDays {g : Gx} (x0 : Int32) (I : MI) (L : ML) (res : Bool) (h : f_X12_noDays x0 I L = some res) : E g 2 0 mX12_noDays 0 [(0, .int x0)] [] (I, L) (.inl (some (.int (bI res)))) (I, L) := by
  unfold f_X12_noDays at h
  refine E_iload_n 1 rfl dX12_noDays_0 rfl 0 rfl ?_
  refine E_iconst (v := 1) 2 rfl dX12_noDays_1 (by decide) ?_
  refine E_sipush (v := 200) 5 rfl dX12_noDays_2 (by decide) ?_
  obtain ⟨v1, hv1, h⟩ := Option.bind_eq_some_iff.mp h
  refine E_cS1 (As := [.int x0, .int 1, .int 200]) 8 rfl dX12_noDays_5 ck_X12_60 ss_X12_in rfl (by decide) (Nat.le_of_ble_eq_true rfl) (C_X12_in (g := g) hv1) rfl ?_
  refine E_if_neB 15 11 (by decide) rfl dX12_noDays_8 (fun c2 => ?_) (fun c2 => ?_)
  · rw [if_pos c2] at h
    refine E_iconst (v := 0) 16 rfl dX12_noDays_15 (by decide) ?_
    refine E_sub (lv' := []) [] rfl ?_
    exact S_X12_noDays_16 false I L _ h
  · rw [if_neg (by rw [c2]; decide)] at h
    refine E_iconst (v := 1) 12 rfl dX12_noDays_11 (by decide) ?_
    refine E_goto 16 (by decide) dX12_noDays_12 ?_
    refine E_sub (lv' := []) [] rfl ?_
    exact S_X12_noDays_16 true I L _ h
theorem C_X12_noDays {g : Gx} {x0 : Int32} {I : MI} {L : ML} {res : Bool} (h : f_X12_noDays x0 I L = some res) : Ent g 2 0 mX12_noDays [.int x0] (I, L) (.inl (some (.int (bI res)))) (I, L) := Ent_of (by decide +kernel) (Nat.le_of_ble_eq_true rfl) (S_X12_noDays x0 I L _ h)
def f_X12_due_30 (I : MI) (L : ML) : Option (Int64 × MI × ML) := some (0, I, L)
set_option maxRecDepth 100000 in
theorem S_X12_due_30 {g : Gx} (I : MI) (L : ML) (res : Int64 × MI × ML) (h : f_X12_due_30 I L = some res) : E g 8 0 mX12_due 30 [] [] (I, L) (.inl (some (.long res.1))) (res.2.1, res.2.2) := by
  unfold f_X12_due_30 at h
  refine E_lconst (v := 0) 31 rfl dX12_due_30 (by decide) ?_
  cases h
  exact E_lret rfl dX12_due_31
def f_X12_due (x1 : Int32) (x2 : Int32) (I : MI) (L : ML) : Option (Int64 × MI × ML) := Option.bind (pfI I 149 0 0) fun I1 => Option.bind (f_X12_noNoise x1 I1 L) fun v2 => Option.bind (f_X12_throwsIf v2 1 I1 L) fun w3 => if w3.1 = true then (f_X12_due_30 w3.2.1 w3.2.2) else (Option.bind (f_X12_noDays x2 w3.2.1 w3.2.2) fun v5 => Option.bind (f_X12_throwsIf v5 2 w3.2.1 w3.2.2) fun w6 => if w6.1 = true then (f_X12_due_30 w6.2.1 w6.2.2) else (Option.bind (f_X12_spreads w6.2.1 w6.2.2) fun w8 => Option.bind (f_X12_dueOf x1 x2 w8.1 w8.2) fun v9 => some (v9, w8.1, w8.2)))
set_option maxRecDepth 100000 in
theorem S_X12_due {g : Gx} (x1 : Int32) (x2 : Int32) (I : MI) (L : ML) (res : Int64 × MI × ML) (h : f_X12_due x1 x2 I L = some res) : E g 8 0 mX12_due 0 [(0, .ref 149), (1, .int x1), (2, .int x2)] [] (I, L) (.inl (some (.long res.1))) (res.2.1, res.2.2) := by
  unfold f_X12_due at h
  refine E_aload_n 1 rfl dX12_due_0 rfl 0 rfl ?_
  refine E_iconst (v := 0) 2 rfl dX12_due_1 (by decide) ?_
  obtain ⟨I1, hI1, h⟩ := Option.bind_eq_some_iff.mp h
  refine E_pfI 5 rfl dX12_due_2 shc_149 fl_X12_3 rfl hI1 ?_
  refine E_aload_n 6 rfl dX12_due_5 rfl 0 rfl ?_
  refine E_aload_n 7 rfl dX12_due_6 rfl 0 rfl ?_
  refine E_iload_n 8 rfl dX12_due_7 rfl 1 rfl ?_
  obtain ⟨v2, hv2, h⟩ := Option.bind_eq_some_iff.mp h
  refine E_cV1 (As := [.int x1]) 11 rfl dX12_due_8 shc_149 ck_X12_304 cv_X12_noNoise rfl (by decide) (Nat.le_of_ble_eq_true rfl) (C_X12_noNoise (g := g) hv2) rfl ?_
  refine E_iconst (v := 1) 12 rfl dX12_due_11 (by decide) ?_
  obtain ⟨w3, hw3, h⟩ := Option.bind_eq_some_iff.mp h
  refine E_cV1 (As := [.int (bI v2), .int 1]) 15 rfl dX12_due_12 shc_149 ck_X12_245 cv_X12_throwsIf rfl (by decide) (Nat.le_of_ble_eq_true rfl) (C_X12_throwsIf (g := g) hw3) rfl ?_
  refine E_if_neB 30 18 (by decide) rfl dX12_due_15 (fun c4 => ?_) (fun c4 => ?_)
  · rw [if_pos c4] at h
    refine E_sub (lv' := []) [] rfl ?_
    exact S_X12_due_30 w3.2.1 w3.2.2 _ h
  · rw [if_neg (by rw [c4]; decide)] at h
    refine E_aload_n 19 rfl dX12_due_18 rfl 0 rfl ?_
    refine E_iload_n 20 rfl dX12_due_19 rfl 2 rfl ?_
    obtain ⟨v5, hv5, h⟩ := Option.bind_eq_some_iff.mp h
    refine E_cS1 (As := [.int x2]) 23 rfl dX12_due_20 ck_X12_348 ss_X12_noDays rfl (by decide) (Nat.le_of_ble_eq_true rfl) (C_X12_noDays (g := g) hv5) rfl ?_
    refine E_iconst (v := 2) 24 rfl dX12_due_23 (by decide) ?_
    obtain ⟨w6, hw6, h⟩ := Option.bind_eq_some_iff.mp h
    refine E_cV1 (As := [.int (bI v5), .int 2]) 27 rfl dX12_due_24 shc_149 ck_X12_245 cv_X12_throwsIf rfl (by decide) (Nat.le_of_ble_eq_true rfl) (C_X12_throwsIf (g := g) hw6) rfl ?_
    refine E_if_eqB 32 30 (by decide) rfl dX12_due_27 (fun c7 => ?_) (fun c7 => ?_)
    · rw [if_neg (by rw [c7]; decide)] at h
      refine E_aload_n 33 rfl dX12_due_32 rfl 0 rfl ?_
      obtain ⟨w8, hw8, h⟩ := Option.bind_eq_some_iff.mp h
      refine E_cV0 (As := []) 36 rfl dX12_due_33 shc_149 ck_X12_298 cv_X12_spreads rfl (by decide) (Nat.le_of_ble_eq_true rfl) (C_X12_spreads (g := g) hw8) rfl ?_
      refine E_aload_n 37 rfl dX12_due_36 rfl 0 rfl ?_
      refine E_iload_n 38 rfl dX12_due_37 rfl 1 rfl ?_
      refine E_iload_n 39 rfl dX12_due_38 rfl 2 rfl ?_
      obtain ⟨v9, hv9, h⟩ := Option.bind_eq_some_iff.mp h
      refine E_cV1 (As := [.int x1, .int x2]) 42 rfl dX12_due_39 shc_149 ck_X12_351 cv_X12_dueOf rfl (by decide) (Nat.le_of_ble_eq_true rfl) (C_X12_dueOf (g := g) hv9) rfl ?_
      cases h
      exact E_lret rfl dX12_due_42
    · rw [if_pos c7] at h
      refine E_sub (lv' := []) [] rfl ?_
      exact S_X12_due_30 w6.2.1 w6.2.2 _ h
theorem C_X12_due {g : Gx} {x1 : Int32} {x2 : Int32} {I : MI} {L : ML} {res : Int64 × MI × ML} (h : f_X12_due x1 x2 I L = some res) : Ent g 8 0 mX12_due [.ref 149, .int x1, .int x2] (I, L) (.inl (some (.long res.1))) (res.2.1, res.2.2) := Ent_of (by decide +kernel) (Nat.le_of_ble_eq_true rfl) (S_X12_due x1 x2 I L _ h)
def f_X12_quiet_202 (k64 : Int32 → Int32 → Int32 → Int32 → Int64 → Int32 → MI → ML → Option (Int32 × MI × ML)) (x1 : Int32) (x2 : Int32) (x3 : Int32) (x4 : Int32) (x5 : Int64) (x7 : Int32) (I : MI) (L : ML) : Option (Int32 × MI × ML) := k64 x1 x2 x3 x4 x5 (x7 + 1) I L
set_option maxRecDepth 100000 in
theorem S_X12_quiet_202 {g : Gx} {k64 : Int32 → Int32 → Int32 → Int32 → Int64 → Int32 → MI → ML → Option (Int32 × MI × ML)} (hk64 : ∀ (x1z : Int32) (x2z : Int32) (x3z : Int32) (x4z : Int32) (x5z : Int64) (x7z : Int32) (I : MI) (L : ML) (res : Int32 × MI × ML), k64 x1z x2z x3z x4z x5z x7z I L = some res → E g 8 0 mX12_quiet 64 [(0, .ref 149), (1, .int x1z), (2, .int x2z), (3, .int x3z), (4, .int x4z), (5, .long x5z), (7, .int x7z)] [] (I, L) (.inl (some (.int res.1))) (res.2.1, res.2.2)) (x1 : Int32) (x2 : Int32) (x3 : Int32) (x4 : Int32) (x5 : Int64) (x7 : Int32) (I : MI) (L : ML) (res : Int32 × MI × ML) (h : f_X12_quiet_202 k64 x1 x2 x3 x4 x5 x7 I L = some res) : E g 8 0 mX12_quiet 202 [(0, .ref 149), (1, .int x1), (2, .int x2), (3, .int x3), (4, .int x4), (5, .long x5), (7, .int x7)] [] (I, L) (.inl (some (.int res.1))) (res.2.1, res.2.2) := by
  unfold f_X12_quiet_202 at h
  refine E_iinc (j := 6) (v := x7 + 1) (lv' := [(7, .int (x7 + 1)), (0, .ref 149), (1, .int x1), (2, .int x2), (3, .int x3), (4, .int x4), (5, .long x5)]) 205 rfl dX12_quiet_202 rfl rfl (Nat.le_of_ble_eq_true rfl) rfl ?_
  refine E_goto 64 (by decide) dX12_quiet_205 ?_
  refine E_sub (lv' := [(0, .ref 149), (1, .int x1), (2, .int x2), (3, .int x3), (4, .int x4), (5, .long x5), (7, .int (x7 + 1))]) [1, 2, 3, 4, 5, 6, 0] rfl ?_
  exact hk64 x1 x2 x3 x4 x5 (x7 + 1) I L _ h
def f_X12_quiet_194 (k64 : Int32 → Int32 → Int32 → Int32 → Int64 → Int32 → MI → ML → Option (Int32 × MI × ML)) (x1 : Int32) (x2 : Int32) (x3 : Int32) (x7 : Int32) (x8 : Int64) (I : MI) (L : ML) : Option (Int32 × MI × ML) := f_X12_quiet_202 k64 x1 x2 x3 x7 x8 x7 I L
set_option maxRecDepth 100000 in
theorem S_X12_quiet_194 {g : Gx} {k64 : Int32 → Int32 → Int32 → Int32 → Int64 → Int32 → MI → ML → Option (Int32 × MI × ML)} (hk64 : ∀ (x1z : Int32) (x2z : Int32) (x3z : Int32) (x4z : Int32) (x5z : Int64) (x7z : Int32) (I : MI) (L : ML) (res : Int32 × MI × ML), k64 x1z x2z x3z x4z x5z x7z I L = some res → E g 8 0 mX12_quiet 64 [(0, .ref 149), (1, .int x1z), (2, .int x2z), (3, .int x3z), (4, .int x4z), (5, .long x5z), (7, .int x7z)] [] (I, L) (.inl (some (.int res.1))) (res.2.1, res.2.2)) (x1 : Int32) (x2 : Int32) (x3 : Int32) (x7 : Int32) (x8 : Int64) (I : MI) (L : ML) (res : Int32 × MI × ML) (h : f_X12_quiet_194 k64 x1 x2 x3 x7 x8 I L = some res) : E g 8 0 mX12_quiet 194 [(0, .ref 149), (1, .int x1), (2, .int x2), (3, .int x3), (7, .int x7), (8, .long x8)] [] (I, L) (.inl (some (.int res.1))) (res.2.1, res.2.2) := by
  unfold f_X12_quiet_194 at h
  refine E_iload 196 rfl dX12_quiet_194 4 rfl ?_
  refine E_istore (lv' := [(4, .int x7), (0, .ref 149), (1, .int x1), (2, .int x2), (3, .int x3), (7, .int x7), (8, .long x8)]) 198 rfl dX12_quiet_196 (Nat.le_of_ble_eq_true rfl) rfl ?_
  refine E_lload 200 rfl dX12_quiet_198 6 rfl ?_
  refine E_lstore (lv' := [(5, .long x8), (4, .int x7), (0, .ref 149), (1, .int x1), (2, .int x2), (3, .int x3), (7, .int x7), (8, .long x8)]) 202 rfl dX12_quiet_200 (Nat.le_of_ble_eq_true rfl) rfl ?_
  refine E_sub (lv' := [(0, .ref 149), (1, .int x1), (2, .int x2), (3, .int x3), (4, .int x7), (5, .long x8), (7, .int x7)]) [2, 3, 4, 5, 1, 0, 6] rfl ?_
  exact S_X12_quiet_202 hk64 x1 x2 x3 x7 x8 x7 I L _ h
def f_X12_quiet_142 (k84 : Int32 → Int32 → Int32 → Int32 → Int64 → Int32 → Int64 → Int32 → Int32 → MI → ML → Option (Int32 × MI × ML)) (x1 : Int32) (x2 : Int32) (x3 : Int32) (x4 : Int32) (x5 : Int64) (x7 : Int32) (x8 : Int64) (x11 : Int32) (y0 : Int32) (y1 : Int32) (I : MI) (L : ML) : Option (Int32 × MI × ML) := k84 x1 x2 x3 x4 x5 x7 x8 (y0 + y1) (x11 + 1) I L
set_option maxRecDepth 100000 in
theorem S_X12_quiet_142 {g : Gx} {k84 : Int32 → Int32 → Int32 → Int32 → Int64 → Int32 → Int64 → Int32 → Int32 → MI → ML → Option (Int32 × MI × ML)} (hk84 : ∀ (x1z : Int32) (x2z : Int32) (x3z : Int32) (x4z : Int32) (x5z : Int64) (x7z : Int32) (x8z : Int64) (x10z : Int32) (x11z : Int32) (I : MI) (L : ML) (res : Int32 × MI × ML), k84 x1z x2z x3z x4z x5z x7z x8z x10z x11z I L = some res → E g 8 0 mX12_quiet 84 [(0, .ref 149), (1, .int x1z), (2, .int x2z), (3, .int x3z), (4, .int x4z), (5, .long x5z), (7, .int x7z), (8, .long x8z), (10, .int x10z), (11, .int x11z)] [] (I, L) (.inl (some (.int res.1))) (res.2.1, res.2.2)) (x1 : Int32) (x2 : Int32) (x3 : Int32) (x4 : Int32) (x5 : Int64) (x7 : Int32) (x8 : Int64) (x11 : Int32) (y0 : Int32) (y1 : Int32) (I : MI) (L : ML) (res : Int32 × MI × ML) (h : f_X12_quiet_142 k84 x1 x2 x3 x4 x5 x7 x8 x11 y0 y1 I L = some res) : E g 8 0 mX12_quiet 142 [(0, .ref 149), (1, .int x1), (2, .int x2), (3, .int x3), (4, .int x4), (5, .long x5), (7, .int x7), (8, .long x8), (11, .int x11)] [.int y1, .int y0] (I, L) (.inl (some (.int res.1))) (res.2.1, res.2.2) := by
  unfold f_X12_quiet_142 at h
  refine E_iadd 143 rfl dX12_quiet_142 ?_
  refine E_istore (lv' := [(10, .int (y0 + y1)), (0, .ref 149), (1, .int x1), (2, .int x2), (3, .int x3), (4, .int x4), (5, .long x5), (7, .int x7), (8, .long x8), (11, .int x11)]) 145 rfl dX12_quiet_143 (Nat.le_of_ble_eq_true rfl) rfl ?_
  refine E_iinc (j := 9) (v := x11 + 1) (lv' := [(11, .int (x11 + 1)), (10, .int (y0 + y1)), (0, .ref 149), (1, .int x1), (2, .int x2), (3, .int x3), (4, .int x4), (5, .long x5), (7, .int x7), (8, .long x8)]) 148 rfl dX12_quiet_145 rfl rfl (Nat.le_of_ble_eq_true rfl) rfl ?_
  refine E_goto 84 (by decide) dX12_quiet_148 ?_
  refine E_sub (lv' := [(0, .ref 149), (1, .int x1), (2, .int x2), (3, .int x3), (4, .int x4), (5, .long x5), (7, .int x7), (8, .long x8), (10, .int (y0 + y1)), (11, .int (x11 + 1))]) [2, 3, 4, 5, 6, 7, 8, 9, 1, 0] rfl ?_
  exact hk84 x1 x2 x3 x4 x5 x7 x8 (y0 + y1) (x11 + 1) I L _ h
def f_X12_quiet_116 (k84 : Int32 → Int32 → Int32 → Int32 → Int64 → Int32 → Int64 → Int32 → Int32 → MI → ML → Option (Int32 × MI × ML)) (x1 : Int32) (x2 : Int32) (x3 : Int32) (x4 : Int32) (x5 : Int64) (x7 : Int32) (x10 : Int32) (x11 : Int32) (y0 : Int64) (y1 : Int64) (I : MI) (L : ML) : Option (Int32 × MI × ML) := Option.bind (f_X12_has x7 x11 I L) fun v1 => if v1 = true then (f_X12_quiet_142 k84 x1 x2 x3 x4 x5 x7 (y0 + y1) x11 x10 0 I L) else (Option.bind (f_X12_atOf x11 x1 I L) fun v3 => f_X12_quiet_142 k84 x1 x2 x3 x4 x5 x7 (y0 + y1) x11 x10 v3 I L)
set_option maxRecDepth 100000 in
theorem S_X12_quiet_116 {g : Gx} {k84 : Int32 → Int32 → Int32 → Int32 → Int64 → Int32 → Int64 → Int32 → Int32 → MI → ML → Option (Int32 × MI × ML)} (hk84 : ∀ (x1z : Int32) (x2z : Int32) (x3z : Int32) (x4z : Int32) (x5z : Int64) (x7z : Int32) (x8z : Int64) (x10z : Int32) (x11z : Int32) (I : MI) (L : ML) (res : Int32 × MI × ML), k84 x1z x2z x3z x4z x5z x7z x8z x10z x11z I L = some res → E g 8 0 mX12_quiet 84 [(0, .ref 149), (1, .int x1z), (2, .int x2z), (3, .int x3z), (4, .int x4z), (5, .long x5z), (7, .int x7z), (8, .long x8z), (10, .int x10z), (11, .int x11z)] [] (I, L) (.inl (some (.int res.1))) (res.2.1, res.2.2)) (x1 : Int32) (x2 : Int32) (x3 : Int32) (x4 : Int32) (x5 : Int64) (x7 : Int32) (x10 : Int32) (x11 : Int32) (y0 : Int64) (y1 : Int64) (I : MI) (L : ML) (res : Int32 × MI × ML) (h : f_X12_quiet_116 k84 x1 x2 x3 x4 x5 x7 x10 x11 y0 y1 I L = some res) : E g 8 0 mX12_quiet 116 [(0, .ref 149), (1, .int x1), (2, .int x2), (3, .int x3), (4, .int x4), (5, .long x5), (7, .int x7), (10, .int x10), (11, .int x11)] [.long y1, .long y0] (I, L) (.inl (some (.int res.1))) (res.2.1, res.2.2) := by
  unfold f_X12_quiet_116 at h
  refine E_ladd 117 rfl dX12_quiet_116 ?_
  refine E_lstore (lv' := [(8, .long (y0 + y1)), (0, .ref 149), (1, .int x1), (2, .int x2), (3, .int x3), (4, .int x4), (5, .long x5), (7, .int x7), (10, .int x10), (11, .int x11)]) 119 rfl dX12_quiet_117 (Nat.le_of_ble_eq_true rfl) rfl ?_
  refine E_iload 121 rfl dX12_quiet_119 8 rfl ?_
  refine E_iload 123 rfl dX12_quiet_121 7 rfl ?_
  refine E_iload 125 rfl dX12_quiet_123 9 rfl ?_
  obtain ⟨v1, hv1, h⟩ := Option.bind_eq_some_iff.mp h
  refine E_cS1 (As := [.int x7, .int x11]) 128 rfl dX12_quiet_125 ck_X12_289 ss_X12_has rfl (by decide) (Nat.le_of_ble_eq_true rfl) (C_X12_has (g := g) hv1) rfl ?_
  refine E_if_eqB 135 131 (by decide) rfl dX12_quiet_128 (fun c2 => ?_) (fun c2 => ?_)
  · rw [if_neg (by rw [c2]; decide)] at h
    refine E_aload_n 136 rfl dX12_quiet_135 rfl 1 rfl ?_
    refine E_iload 138 rfl dX12_quiet_136 9 rfl ?_
    refine E_iload_n 139 rfl dX12_quiet_138 rfl 2 rfl ?_
    obtain ⟨v3, hv3, h⟩ := Option.bind_eq_some_iff.mp h
    refine E_cV1 (As := [.int x11, .int x1]) 142 rfl dX12_quiet_139 shc_149 ck_X12_269 cv_X12_atOf rfl (by decide) (Nat.le_of_ble_eq_true rfl) (C_X12_atOf (g := g) hv3) rfl ?_
    refine E_sub (lv' := [(0, .ref 149), (1, .int x1), (2, .int x2), (3, .int x3), (4, .int x4), (5, .long x5), (7, .int x7), (8, .long (y0 + y1)), (11, .int x11)]) [1, 2, 3, 4, 5, 6, 7, 0, 9] rfl ?_
    exact S_X12_quiet_142 hk84 x1 x2 x3 x4 x5 x7 (y0 + y1) x11 x10 v3 I L _ h
  · rw [if_pos c2] at h
    refine E_iconst (v := 0) 132 rfl dX12_quiet_131 (by decide) ?_
    refine E_goto 142 (by decide) dX12_quiet_132 ?_
    refine E_sub (lv' := [(0, .ref 149), (1, .int x1), (2, .int x2), (3, .int x3), (4, .int x4), (5, .long x5), (7, .int x7), (8, .long (y0 + y1)), (11, .int x11)]) [1, 2, 3, 4, 5, 6, 7, 0, 9] rfl ?_
    exact S_X12_quiet_142 hk84 x1 x2 x3 x4 x5 x7 (y0 + y1) x11 x10 0 I L _ h
def f_X12_quiet_84 (k64 : Int32 → Int32 → Int32 → Int32 → Int64 → Int32 → MI → ML → Option (Int32 × MI × ML)) : Nat → Int32 → Int32 → Int32 → Int32 → Int64 → Int32 → Int64 → Int32 → Int32 → MI → ML → Option (Int32 × MI × ML)
  | 0, _, _, _, _, _, _, _, _, _, _, _ => none
  | n + 1, x1, x2, x3, x4, x5, x7, x8, x10, x11, I, L => Option.bind (f_X12_noises I L) fun v1 => if v1 ≤ x11 then (if x2 < x10 then (f_X12_quiet_202 k64 x1 x2 x3 x4 x5 x7 I L) else (if x4 < 0 then (f_X12_quiet_194 k64 x1 x2 x3 x7 x8 I L) else (if x5 < x8 then (f_X12_quiet_202 k64 x1 x2 x3 x4 x5 x7 I L) else (if x8 = x5 then (Option.bind (f_J6_bitCount_0f7a4 x7 I L) fun v7 => Option.bind (f_J6_bitCount_0f7a4 x4 I L) fun v8 => if v7 < v8 then (f_X12_quiet_194 k64 x1 x2 x3 x7 x8 I L) else (f_X12_quiet_202 k64 x1 x2 x3 x4 x5 x7 I L)) else (f_X12_quiet_194 k64 x1 x2 x3 x7 x8 I L))))) else (Option.bind (f_X12_has x7 x11 I L) fun v10 => if v10 = true then (Option.bind (f_X12_dueOf x11 x3 I L) fun v12 => f_X12_quiet_116 (f_X12_quiet_84 k64 n) x1 x2 x3 x4 x5 x7 x10 x11 x8 v12 I L) else (f_X12_quiet_116 (f_X12_quiet_84 k64 n) x1 x2 x3 x4 x5 x7 x10 x11 x8 0 I L))
set_option maxRecDepth 100000 in
theorem S_X12_quiet_84 {g : Gx} {k64 : Int32 → Int32 → Int32 → Int32 → Int64 → Int32 → MI → ML → Option (Int32 × MI × ML)} (hk64 : ∀ (x1z : Int32) (x2z : Int32) (x3z : Int32) (x4z : Int32) (x5z : Int64) (x7z : Int32) (I : MI) (L : ML) (res : Int32 × MI × ML), k64 x1z x2z x3z x4z x5z x7z I L = some res → E g 8 0 mX12_quiet 64 [(0, .ref 149), (1, .int x1z), (2, .int x2z), (3, .int x3z), (4, .int x4z), (5, .long x5z), (7, .int x7z)] [] (I, L) (.inl (some (.int res.1))) (res.2.1, res.2.2)) : ∀ (n : Nat) (x1 : Int32) (x2 : Int32) (x3 : Int32) (x4 : Int32) (x5 : Int64) (x7 : Int32) (x8 : Int64) (x10 : Int32) (x11 : Int32) (I : MI) (L : ML) (res : Int32 × MI × ML), f_X12_quiet_84 k64 n x1 x2 x3 x4 x5 x7 x8 x10 x11 I L = some res → E g 8 0 mX12_quiet 84 [(0, .ref 149), (1, .int x1), (2, .int x2), (3, .int x3), (4, .int x4), (5, .long x5), (7, .int x7), (8, .long x8), (10, .int x10), (11, .int x11)] [] (I, L) (.inl (some (.int res.1))) (res.2.1, res.2.2) := by
  intro n
  induction n with
  | zero =>
    intros
    rename_i h
    cases h
  | succ n ih =>
    intro x1 x2 x3 x4 x5 x7 x8 x10 x11 I L res h
    rw [f_X12_quiet_84] at h
    refine E_iload 86 rfl dX12_quiet_84 9 rfl ?_
    refine E_aload_n 87 rfl dX12_quiet_86 rfl 0 rfl ?_
    obtain ⟨v1, hv1, h⟩ := Option.bind_eq_some_iff.mp h
    refine E_cV1 (As := []) 90 rfl dX12_quiet_87 shc_149 ck_X12_67 cv_X12_noises rfl (by decide) (Nat.le_of_ble_eq_true rfl) (C_X12_noises (g := g) hv1) rfl ?_
    refine E_icmp_ge 151 93 (by decide) rfl dX12_quiet_90 (fun c2 => ?_) (fun c2 => ?_)
    · rw [if_pos c2] at h
      refine E_iload 153 rfl dX12_quiet_151 8 rfl ?_
      refine E_iload_n 154 rfl dX12_quiet_153 rfl 2 rfl ?_
      refine E_icmp_gt 202 157 (by decide) rfl dX12_quiet_154 (fun c3 => ?_) (fun c3 => ?_)
      · rw [if_pos c3] at h
        refine E_sub (lv' := [(0, .ref 149), (1, .int x1), (2, .int x2), (3, .int x3), (4, .int x4), (5, .long x5), (7, .int x7)]) [0, 1, 2, 3, 4, 5, 6] rfl ?_
        exact S_X12_quiet_202 hk64 x1 x2 x3 x4 x5 x7 I L _ h
      · rw [if_neg c3] at h
        refine E_iload 159 rfl dX12_quiet_157 4 rfl ?_
        refine E_if_lt 194 162 (by decide) rfl dX12_quiet_159 (fun c4 => ?_) (fun c4 => ?_)
        · rw [if_pos c4] at h
          refine E_sub (lv' := [(0, .ref 149), (1, .int x1), (2, .int x2), (3, .int x3), (7, .int x7), (8, .long x8)]) [0, 1, 2, 3, 6, 7] rfl ?_
          exact S_X12_quiet_194 hk64 x1 x2 x3 x7 x8 I L _ h
        · rw [if_neg c4] at h
          refine E_lload 164 rfl dX12_quiet_162 7 rfl ?_
          refine E_lload 166 rfl dX12_quiet_164 5 rfl ?_
          refine E_lc_gt 202 167 170 (by decide) rfl rfl dX12_quiet_166 dX12_quiet_167 (fun c5 => ?_) (fun c5 => ?_)
          · rw [if_pos c5] at h
            refine E_sub (lv' := [(0, .ref 149), (1, .int x1), (2, .int x2), (3, .int x3), (4, .int x4), (5, .long x5), (7, .int x7)]) [0, 1, 2, 3, 4, 5, 6] rfl ?_
            exact S_X12_quiet_202 hk64 x1 x2 x3 x4 x5 x7 I L _ h
          · rw [if_neg c5] at h
            refine E_lload 172 rfl dX12_quiet_170 7 rfl ?_
            refine E_lload 174 rfl dX12_quiet_172 5 rfl ?_
            refine E_lc_ne 194 175 178 (by decide) rfl rfl dX12_quiet_174 dX12_quiet_175 (fun c6 => ?_) (fun c6 => ?_)
            · rw [if_neg c6] at h
              refine E_sub (lv' := [(0, .ref 149), (1, .int x1), (2, .int x2), (3, .int x3), (7, .int x7), (8, .long x8)]) [0, 1, 2, 3, 6, 7] rfl ?_
              exact S_X12_quiet_194 hk64 x1 x2 x3 x7 x8 I L _ h
            · rw [if_pos c6] at h
              refine E_iload 180 rfl dX12_quiet_178 6 rfl ?_
              obtain ⟨v7, hv7, h⟩ := Option.bind_eq_some_iff.mp h
              refine E_cS1 (As := [.int x7]) 183 rfl dX12_quiet_180 ck_X12_339 ss_J6_bitCount_0f7a4 rfl (by decide) (Nat.le_of_ble_eq_true rfl) (C_J6_bitCount_0f7a4 (g := g) hv7) rfl ?_
              refine E_iload 185 rfl dX12_quiet_183 4 rfl ?_
              obtain ⟨v8, hv8, h⟩ := Option.bind_eq_some_iff.mp h
              refine E_cS1 (As := [.int x4]) 188 rfl dX12_quiet_185 ck_X12_339 ss_J6_bitCount_0f7a4 rfl (by decide) (Nat.le_of_ble_eq_true rfl) (C_J6_bitCount_0f7a4 (g := g) hv8) rfl ?_
              refine E_icmp_lt 194 191 (by decide) rfl dX12_quiet_188 (fun c9 => ?_) (fun c9 => ?_)
              · rw [if_pos c9] at h
                refine E_sub (lv' := [(0, .ref 149), (1, .int x1), (2, .int x2), (3, .int x3), (7, .int x7), (8, .long x8)]) [0, 1, 2, 3, 6, 7] rfl ?_
                exact S_X12_quiet_194 hk64 x1 x2 x3 x7 x8 I L _ h
              · rw [if_neg c9] at h
                refine E_goto 202 (by decide) dX12_quiet_191 ?_
                refine E_sub (lv' := [(0, .ref 149), (1, .int x1), (2, .int x2), (3, .int x3), (4, .int x4), (5, .long x5), (7, .int x7)]) [0, 1, 2, 3, 4, 5, 6] rfl ?_
                exact S_X12_quiet_202 hk64 x1 x2 x3 x4 x5 x7 I L _ h
    · rw [if_neg c2] at h
      refine E_lload 95 rfl dX12_quiet_93 7 rfl ?_
      refine E_iload 97 rfl dX12_quiet_95 6 rfl ?_
      refine E_iload 99 rfl dX12_quiet_97 9 rfl ?_
      obtain ⟨v10, hv10, h⟩ := Option.bind_eq_some_iff.mp h
      refine E_cS1 (As := [.int x7, .int x11]) 102 rfl dX12_quiet_99 ck_X12_289 ss_X12_has rfl (by decide) (Nat.le_of_ble_eq_true rfl) (C_X12_has (g := g) hv10) rfl ?_
      refine E_if_eqB 115 105 (by decide) rfl dX12_quiet_102 (fun c11 => ?_) (fun c11 => ?_)
      · rw [if_neg (by rw [c11]; decide)] at h
        refine E_lconst (v := 0) 116 rfl dX12_quiet_115 (by decide) ?_
        refine E_sub (lv' := [(0, .ref 149), (1, .int x1), (2, .int x2), (3, .int x3), (4, .int x4), (5, .long x5), (7, .int x7), (10, .int x10), (11, .int x11)]) [0, 1, 2, 3, 4, 5, 6, 8, 9] rfl ?_
        exact S_X12_quiet_116 ih x1 x2 x3 x4 x5 x7 x10 x11 x8 0 I L _ h
      · rw [if_pos c11] at h
        refine E_aload_n 106 rfl dX12_quiet_105 rfl 0 rfl ?_
        refine E_iload 108 rfl dX12_quiet_106 9 rfl ?_
        refine E_iload_n 109 rfl dX12_quiet_108 rfl 3 rfl ?_
        obtain ⟨v12, hv12, h⟩ := Option.bind_eq_some_iff.mp h
        refine E_cV1 (As := [.int x11, .int x3]) 112 rfl dX12_quiet_109 shc_149 ck_X12_351 cv_X12_dueOf rfl (by decide) (Nat.le_of_ble_eq_true rfl) (C_X12_dueOf (g := g) hv12) rfl ?_
        refine E_goto 116 (by decide) dX12_quiet_112 ?_
        refine E_sub (lv' := [(0, .ref 149), (1, .int x1), (2, .int x2), (3, .int x3), (4, .int x4), (5, .long x5), (7, .int x7), (10, .int x10), (11, .int x11)]) [0, 1, 2, 3, 4, 5, 6, 8, 9] rfl ?_
        exact S_X12_quiet_116 ih x1 x2 x3 x4 x5 x7 x10 x11 x8 v12 I L _ h
def f_X12_quiet_64 : Nat → Int32 → Int32 → Int32 → Int32 → Int64 → Int32 → MI → ML → Option (Int32 × MI × ML)
  | 0, _, _, _, _, _, _, _, _ => none
  | n + 1, x1, x2, x3, x4, x5, x7, I, L => Option.bind (f_X12_noises I L) fun v1 => if (1 <<< (v1 &&& 31)) ≤ x7 then (some (x4, I, L)) else (f_X12_quiet_84 (f_X12_quiet_64 n) FU x1 x2 x3 x4 x5 x7 0 0 0 I L)
set_option maxRecDepth 100000 in
theorem S_X12_quiet_64 {g : Gx} : ∀ (n : Nat) (x1 : Int32) (x2 : Int32) (x3 : Int32) (x4 : Int32) (x5 : Int64) (x7 : Int32) (I : MI) (L : ML) (res : Int32 × MI × ML), f_X12_quiet_64 n x1 x2 x3 x4 x5 x7 I L = some res → E g 8 0 mX12_quiet 64 [(0, .ref 149), (1, .int x1), (2, .int x2), (3, .int x3), (4, .int x4), (5, .long x5), (7, .int x7)] [] (I, L) (.inl (some (.int res.1))) (res.2.1, res.2.2) := by
  intro n
  induction n with
  | zero =>
    intros
    rename_i h
    cases h
  | succ n ih =>
    intro x1 x2 x3 x4 x5 x7 I L res h
    rw [f_X12_quiet_64] at h
    refine E_iload 66 rfl dX12_quiet_64 6 rfl ?_
    refine E_iconst (v := 1) 67 rfl dX12_quiet_66 (by decide) ?_
    refine E_aload_n 68 rfl dX12_quiet_67 rfl 0 rfl ?_
    obtain ⟨v1, hv1, h⟩ := Option.bind_eq_some_iff.mp h
    refine E_cV1 (As := []) 71 rfl dX12_quiet_68 shc_149 ck_X12_67 cv_X12_noises rfl (by decide) (Nat.le_of_ble_eq_true rfl) (C_X12_noises (g := g) hv1) rfl ?_
    refine E_ishl 72 rfl dX12_quiet_71 ?_
    refine E_icmp_ge 208 75 (by decide) rfl dX12_quiet_72 (fun c2 => ?_) (fun c2 => ?_)
    · rw [if_pos c2] at h
      refine E_iload 210 rfl dX12_quiet_208 4 rfl ?_
      cases h
      exact E_iret rfl dX12_quiet_210
    · rw [if_neg c2] at h
      refine E_lconst (v := 0) 76 rfl dX12_quiet_75 (by decide) ?_
      refine E_lstore (lv' := [(8, .long 0), (0, .ref 149), (1, .int x1), (2, .int x2), (3, .int x3), (4, .int x4), (5, .long x5), (7, .int x7)]) 78 rfl dX12_quiet_76 (Nat.le_of_ble_eq_true rfl) rfl ?_
      refine E_iconst (v := 0) 79 rfl dX12_quiet_78 (by decide) ?_
      refine E_istore (lv' := [(10, .int 0), (8, .long 0), (0, .ref 149), (1, .int x1), (2, .int x2), (3, .int x3), (4, .int x4), (5, .long x5), (7, .int x7)]) 81 rfl dX12_quiet_79 (Nat.le_of_ble_eq_true rfl) rfl ?_
      refine E_iconst (v := 0) 82 rfl dX12_quiet_81 (by decide) ?_
      refine E_istore (lv' := [(11, .int 0), (10, .int 0), (8, .long 0), (0, .ref 149), (1, .int x1), (2, .int x2), (3, .int x3), (4, .int x4), (5, .long x5), (7, .int x7)]) 84 rfl dX12_quiet_82 (Nat.le_of_ble_eq_true rfl) rfl ?_
      refine E_sub (lv' := [(0, .ref 149), (1, .int x1), (2, .int x2), (3, .int x3), (4, .int x4), (5, .long x5), (7, .int x7), (8, .long 0), (10, .int 0), (11, .int 0)]) [3, 4, 5, 6, 7, 8, 9, 2, 1, 0] rfl ?_
      exact S_X12_quiet_84 ih FU x1 x2 x3 x4 x5 x7 0 0 0 I L _ h
def f_X12_quiet_49 (I : MI) (L : ML) : Option (Int32 × MI × ML) := some (0, I, L)
set_option maxRecDepth 100000 in
theorem S_X12_quiet_49 {g : Gx} (I : MI) (L : ML) (res : Int32 × MI × ML) (h : f_X12_quiet_49 I L = some res) : E g 8 0 mX12_quiet 49 [] [] (I, L) (.inl (some (.int res.1))) (res.2.1, res.2.2) := by
  unfold f_X12_quiet_49 at h
  refine E_iconst (v := 0) 50 rfl dX12_quiet_49 (by decide) ?_
  cases h
  exact E_iret rfl dX12_quiet_50
def f_X12_quiet_42 (x1 : Int32) (x2 : Int32) (x3 : Int32) (y1 : Bool) (I : MI) (L : ML) : Option (Int32 × MI × ML) := Option.bind (f_X12_throwsIf y1 2 I L) fun w1 => if w1.1 = true then (f_X12_quiet_49 w1.2.1 w1.2.2) else (Option.bind (f_X12_spreads w1.2.1 w1.2.2) fun w3 => f_X12_quiet_64 FU x1 x2 x3 ((-1)) 0 0 w3.1 w3.2)
set_option maxRecDepth 100000 in
theorem S_X12_quiet_42 {g : Gx} (x1 : Int32) (x2 : Int32) (x3 : Int32) (y1 : Bool) (I : MI) (L : ML) (res : Int32 × MI × ML) (h : f_X12_quiet_42 x1 x2 x3 y1 I L = some res) : E g 8 0 mX12_quiet 42 [(0, .ref 149), (1, .int x1), (2, .int x2), (3, .int x3)] [.int (bI y1), .ref 149] (I, L) (.inl (some (.int res.1))) (res.2.1, res.2.2) := by
  unfold f_X12_quiet_42 at h
  refine E_iconst (v := 2) 43 rfl dX12_quiet_42 (by decide) ?_
  obtain ⟨w1, hw1, h⟩ := Option.bind_eq_some_iff.mp h
  refine E_cV1 (As := [.int (bI y1), .int 2]) 46 rfl dX12_quiet_43 shc_149 ck_X12_245 cv_X12_throwsIf rfl (by decide) (Nat.le_of_ble_eq_true rfl) (C_X12_throwsIf (g := g) hw1) rfl ?_
  refine E_if_eqB 51 49 (by decide) rfl dX12_quiet_46 (fun c2 => ?_) (fun c2 => ?_)
  · rw [if_neg (by rw [c2]; decide)] at h
    refine E_aload_n 52 rfl dX12_quiet_51 rfl 0 rfl ?_
    obtain ⟨w3, hw3, h⟩ := Option.bind_eq_some_iff.mp h
    refine E_cV0 (As := []) 55 rfl dX12_quiet_52 shc_149 ck_X12_298 cv_X12_spreads rfl (by decide) (Nat.le_of_ble_eq_true rfl) (C_X12_spreads (g := g) hw3) rfl ?_
    refine E_iconst (v := (-1)) 56 rfl dX12_quiet_55 (by decide) ?_
    refine E_istore (lv' := [(4, .int ((-1))), (0, .ref 149), (1, .int x1), (2, .int x2), (3, .int x3)]) 58 rfl dX12_quiet_56 (Nat.le_of_ble_eq_true rfl) rfl ?_
    refine E_lconst (v := 0) 59 rfl dX12_quiet_58 (by decide) ?_
    refine E_lstore (lv' := [(5, .long 0), (4, .int ((-1))), (0, .ref 149), (1, .int x1), (2, .int x2), (3, .int x3)]) 61 rfl dX12_quiet_59 (Nat.le_of_ble_eq_true rfl) rfl ?_
    refine E_iconst (v := 0) 62 rfl dX12_quiet_61 (by decide) ?_
    refine E_istore (lv' := [(7, .int 0), (5, .long 0), (4, .int ((-1))), (0, .ref 149), (1, .int x1), (2, .int x2), (3, .int x3)]) 64 rfl dX12_quiet_62 (Nat.le_of_ble_eq_true rfl) rfl ?_
    refine E_sub (lv' := [(0, .ref 149), (1, .int x1), (2, .int x2), (3, .int x3), (4, .int ((-1))), (5, .long 0), (7, .int 0)]) [3, 4, 5, 6, 2, 1, 0] rfl ?_
    exact S_X12_quiet_64 FU x1 x2 x3 ((-1)) 0 0 w3.1 w3.2 _ h
  · rw [if_pos c2] at h
    refine E_sub (lv' := []) [] rfl ?_
    exact S_X12_quiet_49 w1.2.1 w1.2.2 _ h
def f_X12_quiet_37 (x1 : Int32) (x2 : Int32) (x3 : Int32) (I : MI) (L : ML) : Option (Int32 × MI × ML) := f_X12_quiet_42 x1 x2 x3 true I L
set_option maxRecDepth 100000 in
theorem S_X12_quiet_37 {g : Gx} (x1 : Int32) (x2 : Int32) (x3 : Int32) (I : MI) (L : ML) (res : Int32 × MI × ML) (h : f_X12_quiet_37 x1 x2 x3 I L = some res) : E g 8 0 mX12_quiet 37 [(0, .ref 149), (1, .int x1), (2, .int x2), (3, .int x3)] [.ref 149] (I, L) (.inl (some (.int res.1))) (res.2.1, res.2.2) := by
  unfold f_X12_quiet_37 at h
  refine E_iconst (v := 1) 38 rfl dX12_quiet_37 (by decide) ?_
  refine E_goto 42 (by decide) dX12_quiet_38 ?_
  refine E_sub (lv' := [(0, .ref 149), (1, .int x1), (2, .int x2), (3, .int x3)]) [0, 1, 2, 3] rfl ?_
  exact S_X12_quiet_42 x1 x2 x3 true I L _ h
def f_X12_quiet (x1 : Int32) (x2 : Int32) (x3 : Int32) (I : MI) (L : ML) : Option (Int32 × MI × ML) := Option.bind (pfI I 149 0 0) fun I1 => Option.bind (f_X12_noRoom x1 I1 L) fun v2 => Option.bind (f_X12_throwsIf v2 1 I1 L) fun w3 => if w3.1 = true then (f_X12_quiet_49 w3.2.1 w3.2.2) else (Option.bind (f_X12_in x2 0 999 w3.2.1 w3.2.2) fun v5 => if v5 = true then (Option.bind (f_X12_noDays x3 w3.2.1 w3.2.2) fun v7 => if v7 = true then (f_X12_quiet_37 x1 x2 x3 w3.2.1 w3.2.2) else (f_X12_quiet_42 x1 x2 x3 false w3.2.1 w3.2.2)) else (f_X12_quiet_37 x1 x2 x3 w3.2.1 w3.2.2))
set_option maxRecDepth 100000 in
theorem S_X12_quiet {g : Gx} (x1 : Int32) (x2 : Int32) (x3 : Int32) (I : MI) (L : ML) (res : Int32 × MI × ML) (h : f_X12_quiet x1 x2 x3 I L = some res) : E g 8 0 mX12_quiet 0 [(0, .ref 149), (1, .int x1), (2, .int x2), (3, .int x3)] [] (I, L) (.inl (some (.int res.1))) (res.2.1, res.2.2) := by
  unfold f_X12_quiet at h
  refine E_aload_n 1 rfl dX12_quiet_0 rfl 0 rfl ?_
  refine E_iconst (v := 0) 2 rfl dX12_quiet_1 (by decide) ?_
  obtain ⟨I1, hI1, h⟩ := Option.bind_eq_some_iff.mp h
  refine E_pfI 5 rfl dX12_quiet_2 shc_149 fl_X12_3 rfl hI1 ?_
  refine E_aload_n 6 rfl dX12_quiet_5 rfl 0 rfl ?_
  refine E_aload_n 7 rfl dX12_quiet_6 rfl 0 rfl ?_
  refine E_iload_n 8 rfl dX12_quiet_7 rfl 1 rfl ?_
  obtain ⟨v2, hv2, h⟩ := Option.bind_eq_some_iff.mp h
  refine E_cV1 (As := [.int x1]) 11 rfl dX12_quiet_8 shc_149 ck_X12_292 cv_X12_noRoom rfl (by decide) (Nat.le_of_ble_eq_true rfl) (C_X12_noRoom (g := g) hv2) rfl ?_
  refine E_iconst (v := 1) 12 rfl dX12_quiet_11 (by decide) ?_
  obtain ⟨w3, hw3, h⟩ := Option.bind_eq_some_iff.mp h
  refine E_cV1 (As := [.int (bI v2), .int 1]) 15 rfl dX12_quiet_12 shc_149 ck_X12_245 cv_X12_throwsIf rfl (by decide) (Nat.le_of_ble_eq_true rfl) (C_X12_throwsIf (g := g) hw3) rfl ?_
  refine E_if_neB 49 18 (by decide) rfl dX12_quiet_15 (fun c4 => ?_) (fun c4 => ?_)
  · rw [if_pos c4] at h
    refine E_sub (lv' := []) [] rfl ?_
    exact S_X12_quiet_49 w3.2.1 w3.2.2 _ h
  · rw [if_neg (by rw [c4]; decide)] at h
    refine E_aload_n 19 rfl dX12_quiet_18 rfl 0 rfl ?_
    refine E_iload_n 20 rfl dX12_quiet_19 rfl 2 rfl ?_
    refine E_iconst (v := 0) 21 rfl dX12_quiet_20 (by decide) ?_
    refine E_sipush (v := 999) 24 rfl dX12_quiet_21 (by decide) ?_
    obtain ⟨v5, hv5, h⟩ := Option.bind_eq_some_iff.mp h
    refine E_cS1 (As := [.int x2, .int 0, .int 999]) 27 rfl dX12_quiet_24 ck_X12_60 ss_X12_in rfl (by decide) (Nat.le_of_ble_eq_true rfl) (C_X12_in (g := g) hv5) rfl ?_
    refine E_if_eqB 37 30 (by decide) rfl dX12_quiet_27 (fun c6 => ?_) (fun c6 => ?_)
    · rw [if_neg (by rw [c6]; decide)] at h
      refine E_sub (lv' := [(0, .ref 149), (1, .int x1), (2, .int x2), (3, .int x3)]) [0, 1, 2, 3] rfl ?_
      exact S_X12_quiet_37 x1 x2 x3 w3.2.1 w3.2.2 _ h
    · rw [if_pos c6] at h
      refine E_iload_n 31 rfl dX12_quiet_30 rfl 3 rfl ?_
      obtain ⟨v7, hv7, h⟩ := Option.bind_eq_some_iff.mp h
      refine E_cS1 (As := [.int x3]) 34 rfl dX12_quiet_31 ck_X12_348 ss_X12_noDays rfl (by decide) (Nat.le_of_ble_eq_true rfl) (C_X12_noDays (g := g) hv7) rfl ?_
      refine E_if_eqB 41 37 (by decide) rfl dX12_quiet_34 (fun c8 => ?_) (fun c8 => ?_)
      · rw [if_neg (by rw [c8]; decide)] at h
        refine E_iconst (v := 0) 42 rfl dX12_quiet_41 (by decide) ?_
        refine E_sub (lv' := [(0, .ref 149), (1, .int x1), (2, .int x2), (3, .int x3)]) [0, 1, 2, 3] rfl ?_
        exact S_X12_quiet_42 x1 x2 x3 false w3.2.1 w3.2.2 _ h
      · rw [if_pos c8] at h
        refine E_sub (lv' := [(0, .ref 149), (1, .int x1), (2, .int x2), (3, .int x3)]) [0, 1, 2, 3] rfl ?_
        exact S_X12_quiet_37 x1 x2 x3 w3.2.1 w3.2.2 _ h
theorem C_X12_quiet {g : Gx} {x1 : Int32} {x2 : Int32} {x3 : Int32} {I : MI} {L : ML} {res : Int32 × MI × ML} (h : f_X12_quiet x1 x2 x3 I L = some res) : Ent g 8 0 mX12_quiet [.ref 149, .int x1, .int x2, .int x3] (I, L) (.inl (some (.int res.1))) (res.2.1, res.2.2) := Ent_of (by decide +kernel) (Nat.le_of_ble_eq_true rfl) (S_X12_quiet x1 x2 x3 I L _ h)
def f_X12_isNear_78 (k14 : Int32 → Int32 → Bool → Int32 → MI → ML → Option (Bool)) (x1 : Int32) (x2 : Int32) (x4 : Int32) (y0 : Bool) (I : MI) (L : ML) : Option (Bool) := k14 x1 x2 y0 (x4 + 1) I L
set_option maxRecDepth 100000 in
theorem S_X12_isNear_78 {g : Gx} {k14 : Int32 → Int32 → Bool → Int32 → MI → ML → Option (Bool)} (hk14 : ∀ (x1z : Int32) (x2z : Int32) (x3z : Bool) (x4z : Int32) (I : MI) (L : ML) (res : Bool), k14 x1z x2z x3z x4z I L = some res → E g 2 0 mX12_isNear 14 [(0, .ref 149), (1, .int x1z), (2, .int x2z), (3, .int (bI x3z)), (4, .int x4z)] [] (I, L) (.inl (some (.int (bI res)))) (I, L)) (x1 : Int32) (x2 : Int32) (x4 : Int32) (y0 : Bool) (I : MI) (L : ML) (res : Bool) (h : f_X12_isNear_78 k14 x1 x2 x4 y0 I L = some res) : E g 2 0 mX12_isNear 78 [(0, .ref 149), (1, .int x1), (2, .int x2), (4, .int x4)] [.int (bI y0)] (I, L) (.inl (some (.int (bI res)))) (I, L) := by
  unfold f_X12_isNear_78 at h
  refine E_istore_n (lv' := [(3, .int (bI y0)), (0, .ref 149), (1, .int x1), (2, .int x2), (4, .int x4)]) 79 rfl dX12_isNear_78 rfl (Nat.le_of_ble_eq_true rfl) rfl ?_
  refine E_iinc (j := 4) (v := x4 + 1) (lv' := [(4, .int (x4 + 1)), (3, .int (bI y0)), (0, .ref 149), (1, .int x1), (2, .int x2)]) 82 rfl dX12_isNear_79 rfl rfl (Nat.le_of_ble_eq_true rfl) rfl ?_
  refine E_goto 14 (by decide) dX12_isNear_82 ?_
  refine E_sub (lv' := [(0, .ref 149), (1, .int x1), (2, .int x2), (3, .int (bI y0)), (4, .int (x4 + 1))]) [2, 3, 4, 1, 0] rfl ?_
  exact hk14 x1 x2 y0 (x4 + 1) I L _ h
def f_X12_isNear_77 (k14 : Int32 → Int32 → Bool → Int32 → MI → ML → Option (Bool)) (x1 : Int32) (x2 : Int32) (x4 : Int32) (I : MI) (L : ML) : Option (Bool) := f_X12_isNear_78 k14 x1 x2 x4 false I L
set_option maxRecDepth 100000 in
theorem S_X12_isNear_77 {g : Gx} {k14 : Int32 → Int32 → Bool → Int32 → MI → ML → Option (Bool)} (hk14 : ∀ (x1z : Int32) (x2z : Int32) (x3z : Bool) (x4z : Int32) (I : MI) (L : ML) (res : Bool), k14 x1z x2z x3z x4z I L = some res → E g 2 0 mX12_isNear 14 [(0, .ref 149), (1, .int x1z), (2, .int x2z), (3, .int (bI x3z)), (4, .int x4z)] [] (I, L) (.inl (some (.int (bI res)))) (I, L)) (x1 : Int32) (x2 : Int32) (x4 : Int32) (I : MI) (L : ML) (res : Bool) (h : f_X12_isNear_77 k14 x1 x2 x4 I L = some res) : E g 2 0 mX12_isNear 77 [(0, .ref 149), (1, .int x1), (2, .int x2), (4, .int x4)] [] (I, L) (.inl (some (.int (bI res)))) (I, L) := by
  unfold f_X12_isNear_77 at h
  refine E_iconst (v := 0) 78 rfl dX12_isNear_77 (by decide) ?_
  refine E_sub (lv' := [(0, .ref 149), (1, .int x1), (2, .int x2), (4, .int x4)]) [0, 1, 2, 3] rfl ?_
  exact S_X12_isNear_78 hk14 x1 x2 x4 false I L _ h
def f_X12_isNear_73 (k14 : Int32 → Int32 → Bool → Int32 → MI → ML → Option (Bool)) (x1 : Int32) (x2 : Int32) (x4 : Int32) (I : MI) (L : ML) : Option (Bool) := f_X12_isNear_78 k14 x1 x2 x4 true I L
set_option maxRecDepth 100000 in
theorem S_X12_isNear_73 {g : Gx} {k14 : Int32 → Int32 → Bool → Int32 → MI → ML → Option (Bool)} (hk14 : ∀ (x1z : Int32) (x2z : Int32) (x3z : Bool) (x4z : Int32) (I : MI) (L : ML) (res : Bool), k14 x1z x2z x3z x4z I L = some res → E g 2 0 mX12_isNear 14 [(0, .ref 149), (1, .int x1z), (2, .int x2z), (3, .int (bI x3z)), (4, .int x4z)] [] (I, L) (.inl (some (.int (bI res)))) (I, L)) (x1 : Int32) (x2 : Int32) (x4 : Int32) (I : MI) (L : ML) (res : Bool) (h : f_X12_isNear_73 k14 x1 x2 x4 I L = some res) : E g 2 0 mX12_isNear 73 [(0, .ref 149), (1, .int x1), (2, .int x2), (4, .int x4)] [] (I, L) (.inl (some (.int (bI res)))) (I, L) := by
  unfold f_X12_isNear_73 at h
  refine E_iconst (v := 1) 74 rfl dX12_isNear_73 (by decide) ?_
  refine E_goto 78 (by decide) dX12_isNear_74 ?_
  refine E_sub (lv' := [(0, .ref 149), (1, .int x1), (2, .int x2), (4, .int x4)]) [0, 1, 2, 3] rfl ?_
  exact S_X12_isNear_78 hk14 x1 x2 x4 true I L _ h
def f_X12_isNear_51 (k14 : Int32 → Int32 → Bool → Int32 → MI → ML → Option (Bool)) (x1 : Int32) (x2 : Int32) (x4 : Int32) (I : MI) (L : ML) : Option (Bool) := Option.bind (f_X12_ofDoor x4 0 I L) fun v1 => if v1 = x2 then (Option.bind (f_X12_ofDoor x4 1 I L) fun v3 => if v3 = x1 then (f_X12_isNear_73 k14 x1 x2 x4 I L) else (f_X12_isNear_77 k14 x1 x2 x4 I L)) else (f_X12_isNear_77 k14 x1 x2 x4 I L)
set_option maxRecDepth 100000 in
theorem S_X12_isNear_51 {g : Gx} {k14 : Int32 → Int32 → Bool → Int32 → MI → ML → Option (Bool)} (hk14 : ∀ (x1z : Int32) (x2z : Int32) (x3z : Bool) (x4z : Int32) (I : MI) (L : ML) (res : Bool), k14 x1z x2z x3z x4z I L = some res → E g 2 0 mX12_isNear 14 [(0, .ref 149), (1, .int x1z), (2, .int x2z), (3, .int (bI x3z)), (4, .int x4z)] [] (I, L) (.inl (some (.int (bI res)))) (I, L)) (x1 : Int32) (x2 : Int32) (x4 : Int32) (I : MI) (L : ML) (res : Bool) (h : f_X12_isNear_51 k14 x1 x2 x4 I L = some res) : E g 2 0 mX12_isNear 51 [(0, .ref 149), (1, .int x1), (2, .int x2), (4, .int x4)] [] (I, L) (.inl (some (.int (bI res)))) (I, L) := by
  unfold f_X12_isNear_51 at h
  refine E_aload_n 52 rfl dX12_isNear_51 rfl 0 rfl ?_
  refine E_iload 54 rfl dX12_isNear_52 3 rfl ?_
  refine E_iconst (v := 0) 55 rfl dX12_isNear_54 (by decide) ?_
  obtain ⟨v1, hv1, h⟩ := Option.bind_eq_some_iff.mp h
  refine E_cV1 (As := [.int x4, .int 0]) 58 rfl dX12_isNear_55 shc_149 ck_X12_249 cv_X12_ofDoor rfl (by decide) (Nat.le_of_ble_eq_true rfl) (C_X12_ofDoor (g := g) hv1) rfl ?_
  refine E_iload_n 59 rfl dX12_isNear_58 rfl 2 rfl ?_
  refine E_icmp_ne 77 62 (by decide) rfl dX12_isNear_59 (fun c2 => ?_) (fun c2 => ?_)
  · rw [if_neg c2] at h
    refine E_sub (lv' := [(0, .ref 149), (1, .int x1), (2, .int x2), (4, .int x4)]) [0, 1, 2, 3] rfl ?_
    exact S_X12_isNear_77 hk14 x1 x2 x4 I L _ h
  · rw [if_pos c2] at h
    refine E_aload_n 63 rfl dX12_isNear_62 rfl 0 rfl ?_
    refine E_iload 65 rfl dX12_isNear_63 3 rfl ?_
    refine E_iconst (v := 1) 66 rfl dX12_isNear_65 (by decide) ?_
    obtain ⟨v3, hv3, h⟩ := Option.bind_eq_some_iff.mp h
    refine E_cV1 (As := [.int x4, .int 1]) 69 rfl dX12_isNear_66 shc_149 ck_X12_249 cv_X12_ofDoor rfl (by decide) (Nat.le_of_ble_eq_true rfl) (C_X12_ofDoor (g := g) hv3) rfl ?_
    refine E_iload_n 70 rfl dX12_isNear_69 rfl 1 rfl ?_
    refine E_icmp_ne 77 73 (by decide) rfl dX12_isNear_70 (fun c4 => ?_) (fun c4 => ?_)
    · rw [if_neg c4] at h
      refine E_sub (lv' := [(0, .ref 149), (1, .int x1), (2, .int x2), (4, .int x4)]) [0, 1, 2, 3] rfl ?_
      exact S_X12_isNear_77 hk14 x1 x2 x4 I L _ h
    · rw [if_pos c4] at h
      refine E_sub (lv' := [(0, .ref 149), (1, .int x1), (2, .int x2), (4, .int x4)]) [0, 1, 2, 3] rfl ?_
      exact S_X12_isNear_73 hk14 x1 x2 x4 I L _ h
def f_X12_isNear_14 : Nat → Int32 → Int32 → Bool → Int32 → MI → ML → Option (Bool)
  | 0, _, _, _, _, _, _ => none
  | n + 1, x1, x2, x3, x4, I, L => Option.bind (ldI I 150 2143 1) fun v1 => if v1 ≤ x4 then (some x3) else (if x3 = true then (f_X12_isNear_73 (f_X12_isNear_14 n) x1 x2 x4 I L) else (Option.bind (f_X12_ofDoor x4 0 I L) fun v4 => if v4 = x1 then (Option.bind (f_X12_ofDoor x4 1 I L) fun v6 => if v6 = x2 then (f_X12_isNear_73 (f_X12_isNear_14 n) x1 x2 x4 I L) else (f_X12_isNear_51 (f_X12_isNear_14 n) x1 x2 x4 I L)) else (f_X12_isNear_51 (f_X12_isNear_14 n) x1 x2 x4 I L)))
set_option maxRecDepth 100000 in
theorem S_X12_isNear_14 {g : Gx} : ∀ (n : Nat) (x1 : Int32) (x2 : Int32) (x3 : Bool) (x4 : Int32) (I : MI) (L : ML) (res : Bool), f_X12_isNear_14 n x1 x2 x3 x4 I L = some res → E g 2 0 mX12_isNear 14 [(0, .ref 149), (1, .int x1), (2, .int x2), (3, .int (bI x3)), (4, .int x4)] [] (I, L) (.inl (some (.int (bI res)))) (I, L) := by
  intro n
  induction n with
  | zero =>
    intros
    rename_i h
    cases h
  | succ n ih =>
    intro x1 x2 x3 x4 I L res h
    rw [f_X12_isNear_14] at h
    refine E_iload 16 rfl dX12_isNear_14 4 rfl ?_
    refine E_aload_n 17 rfl dX12_isNear_16 rfl 0 rfl ?_
    refine E_gR 150 20 rfl dX12_isNear_17 shc_149 fl_X12_13 rfl (by decide) (by decide) ?_
    refine E_iconst (v := 1) 21 rfl dX12_isNear_20 (by decide) ?_
    obtain ⟨v1, hv1, h⟩ := Option.bind_eq_some_iff.mp h
    refine E_ldI 22 rfl dX12_isNear_21 shc_150 hv1 ?_
    refine E_icmp_ge 85 25 (by decide) rfl dX12_isNear_22 (fun c2 => ?_) (fun c2 => ?_)
    · rw [if_pos c2] at h
      refine E_iload_n 86 rfl dX12_isNear_85 rfl 3 rfl ?_
      cases h
      exact E_zret (x := x3) rfl dX12_isNear_86
    · rw [if_neg c2] at h
      refine E_iload_n 26 rfl dX12_isNear_25 rfl 3 rfl ?_
      refine E_if_neB 73 29 (by decide) rfl dX12_isNear_26 (fun c3 => ?_) (fun c3 => ?_)
      · rw [if_pos c3] at h
        refine E_sub (lv' := [(0, .ref 149), (1, .int x1), (2, .int x2), (4, .int x4)]) [0, 1, 2, 4] rfl ?_
        exact S_X12_isNear_73 ih x1 x2 x4 I L _ h
      · rw [if_neg (by rw [c3]; decide)] at h
        refine E_aload_n 30 rfl dX12_isNear_29 rfl 0 rfl ?_
        refine E_iload 32 rfl dX12_isNear_30 4 rfl ?_
        refine E_iconst (v := 0) 33 rfl dX12_isNear_32 (by decide) ?_
        obtain ⟨v4, hv4, h⟩ := Option.bind_eq_some_iff.mp h
        refine E_cV1 (As := [.int x4, .int 0]) 36 rfl dX12_isNear_33 shc_149 ck_X12_249 cv_X12_ofDoor rfl (by decide) (Nat.le_of_ble_eq_true rfl) (C_X12_ofDoor (g := g) hv4) rfl ?_
        refine E_iload_n 37 rfl dX12_isNear_36 rfl 1 rfl ?_
        refine E_icmp_ne 51 40 (by decide) rfl dX12_isNear_37 (fun c5 => ?_) (fun c5 => ?_)
        · rw [if_neg c5] at h
          refine E_sub (lv' := [(0, .ref 149), (1, .int x1), (2, .int x2), (4, .int x4)]) [0, 1, 2, 4] rfl ?_
          exact S_X12_isNear_51 ih x1 x2 x4 I L _ h
        · rw [if_pos c5] at h
          refine E_aload_n 41 rfl dX12_isNear_40 rfl 0 rfl ?_
          refine E_iload 43 rfl dX12_isNear_41 4 rfl ?_
          refine E_iconst (v := 1) 44 rfl dX12_isNear_43 (by decide) ?_
          obtain ⟨v6, hv6, h⟩ := Option.bind_eq_some_iff.mp h
          refine E_cV1 (As := [.int x4, .int 1]) 47 rfl dX12_isNear_44 shc_149 ck_X12_249 cv_X12_ofDoor rfl (by decide) (Nat.le_of_ble_eq_true rfl) (C_X12_ofDoor (g := g) hv6) rfl ?_
          refine E_iload_n 48 rfl dX12_isNear_47 rfl 2 rfl ?_
          refine E_icmp_eq 73 51 (by decide) rfl dX12_isNear_48 (fun c7 => ?_) (fun c7 => ?_)
          · rw [if_pos c7] at h
            refine E_sub (lv' := [(0, .ref 149), (1, .int x1), (2, .int x2), (4, .int x4)]) [0, 1, 2, 4] rfl ?_
            exact S_X12_isNear_73 ih x1 x2 x4 I L _ h
          · rw [if_neg c7] at h
            refine E_sub (lv' := [(0, .ref 149), (1, .int x1), (2, .int x2), (4, .int x4)]) [0, 1, 2, 4] rfl ?_
            exact S_X12_isNear_51 ih x1 x2 x4 I L _ h
def f_X12_isNear_10 (x1 : Int32) (x2 : Int32) (y0 : Bool) (I : MI) (L : ML) : Option (Bool) := f_X12_isNear_14 FU x1 x2 y0 0 I L
set_option maxRecDepth 100000 in
theorem S_X12_isNear_10 {g : Gx} (x1 : Int32) (x2 : Int32) (y0 : Bool) (I : MI) (L : ML) (res : Bool) (h : f_X12_isNear_10 x1 x2 y0 I L = some res) : E g 2 0 mX12_isNear 10 [(0, .ref 149), (1, .int x1), (2, .int x2)] [.int (bI y0)] (I, L) (.inl (some (.int (bI res)))) (I, L) := by
  unfold f_X12_isNear_10 at h
  refine E_istore_n (lv' := [(3, .int (bI y0)), (0, .ref 149), (1, .int x1), (2, .int x2)]) 11 rfl dX12_isNear_10 rfl (Nat.le_of_ble_eq_true rfl) rfl ?_
  refine E_iconst (v := 0) 12 rfl dX12_isNear_11 (by decide) ?_
  refine E_istore (lv' := [(4, .int 0), (3, .int (bI y0)), (0, .ref 149), (1, .int x1), (2, .int x2)]) 14 rfl dX12_isNear_12 (Nat.le_of_ble_eq_true rfl) rfl ?_
  refine E_sub (lv' := [(0, .ref 149), (1, .int x1), (2, .int x2), (3, .int (bI y0)), (4, .int 0)]) [2, 3, 4, 1, 0] rfl ?_
  exact S_X12_isNear_14 FU x1 x2 y0 0 I L _ h
def f_X12_isNear (x1 : Int32) (x2 : Int32) (I : MI) (L : ML) : Option (Bool) := if x1 = x2 then (f_X12_isNear_10 x1 x2 true I L) else (f_X12_isNear_10 x1 x2 false I L)
set_option maxRecDepth 100000 in
theorem S_X12_isNear {g : Gx} (x1 : Int32) (x2 : Int32) (I : MI) (L : ML) (res : Bool) (h : f_X12_isNear x1 x2 I L = some res) : E g 2 0 mX12_isNear 0 [(0, .ref 149), (1, .int x1), (2, .int x2)] [] (I, L) (.inl (some (.int (bI res)))) (I, L) := by
  unfold f_X12_isNear at h
  refine E_iload_n 1 rfl dX12_isNear_0 rfl 1 rfl ?_
  refine E_iload_n 2 rfl dX12_isNear_1 rfl 2 rfl ?_
  refine E_icmp_ne 9 5 (by decide) rfl dX12_isNear_2 (fun c1 => ?_) (fun c1 => ?_)
  · rw [if_neg c1] at h
    refine E_iconst (v := 0) 10 rfl dX12_isNear_9 (by decide) ?_
    refine E_sub (lv' := [(0, .ref 149), (1, .int x1), (2, .int x2)]) [0, 1, 2] rfl ?_
    exact S_X12_isNear_10 x1 x2 false I L _ h
  · rw [if_pos c1] at h
    refine E_iconst (v := 1) 6 rfl dX12_isNear_5 (by decide) ?_
    refine E_goto 10 (by decide) dX12_isNear_6 ?_
    refine E_sub (lv' := [(0, .ref 149), (1, .int x1), (2, .int x2)]) [0, 1, 2] rfl ?_
    exact S_X12_isNear_10 x1 x2 true I L _ h
theorem C_X12_isNear {g : Gx} {x1 : Int32} {x2 : Int32} {I : MI} {L : ML} {res : Bool} (h : f_X12_isNear x1 x2 I L = some res) : Ent g 2 0 mX12_isNear [.ref 149, .int x1, .int x2] (I, L) (.inl (some (.int (bI res)))) (I, L) := Ent_of (by decide +kernel) (Nat.le_of_ble_eq_true rfl) (S_X12_isNear x1 x2 I L _ h)
def f_X12_suspects_163 (x3 : Int32) (I : MI) (L : ML) : Option (Int32 × MI × ML) := some (x3, I, L)
set_option maxRecDepth 100000 in
theorem S_X12_suspects_163 {g : Gx} (x3 : Int32) (I : MI) (L : ML) (res : Int32 × MI × ML) (h : f_X12_suspects_163 x3 I L = some res) : E g 3 0 mX12_suspects 163 [(3, .int x3)] [] (I, L) (.inl (some (.int res.1))) (res.2.1, res.2.2) := by
  unfold f_X12_suspects_163 at h
  refine E_iload_n 164 rfl dX12_suspects_163 rfl 0 rfl ?_
  cases h
  exact E_iret rfl dX12_suspects_164
def f_X12_suspects_149 (k92 : Int32 → Int32 → Int32 → Int32 → Int32 → MI → ML → Option (Int32 × MI × ML)) (x1 : Int32) (x2 : Int32) (x4 : Int32) (x5 : Int32) (y0 : Int32) (y1 : Int32) (I : MI) (L : ML) : Option (Int32 × MI × ML) := k92 x1 x2 (y0 ||| y1) x4 (x5 + 1) I L
set_option maxRecDepth 100000 in
theorem S_X12_suspects_149 {g : Gx} {k92 : Int32 → Int32 → Int32 → Int32 → Int32 → MI → ML → Option (Int32 × MI × ML)} (hk92 : ∀ (x1z : Int32) (x2z : Int32) (x3z : Int32) (x4z : Int32) (x5z : Int32) (I : MI) (L : ML) (res : Int32 × MI × ML), k92 x1z x2z x3z x4z x5z I L = some res → E g 3 0 mX12_suspects 92 [(0, .ref 149), (1, .int x1z), (2, .int x2z), (3, .int x3z), (4, .int x4z), (5, .int x5z)] [] (I, L) (.inl (some (.int res.1))) (res.2.1, res.2.2)) (x1 : Int32) (x2 : Int32) (x4 : Int32) (x5 : Int32) (y0 : Int32) (y1 : Int32) (I : MI) (L : ML) (res : Int32 × MI × ML) (h : f_X12_suspects_149 k92 x1 x2 x4 x5 y0 y1 I L = some res) : E g 3 0 mX12_suspects 149 [(0, .ref 149), (1, .int x1), (2, .int x2), (4, .int x4), (5, .int x5)] [.int y1, .int y0] (I, L) (.inl (some (.int res.1))) (res.2.1, res.2.2) := by
  unfold f_X12_suspects_149 at h
  refine E_ior 150 rfl dX12_suspects_149 ?_
  refine E_istore_n (lv' := [(3, .int (y0 ||| y1)), (0, .ref 149), (1, .int x1), (2, .int x2), (4, .int x4), (5, .int x5)]) 151 rfl dX12_suspects_150 rfl (Nat.le_of_ble_eq_true rfl) rfl ?_
  refine E_iinc (j := 5) (v := x5 + 1) (lv' := [(5, .int (x5 + 1)), (3, .int (y0 ||| y1)), (0, .ref 149), (1, .int x1), (2, .int x2), (4, .int x4)]) 154 rfl dX12_suspects_151 rfl rfl (Nat.le_of_ble_eq_true rfl) rfl ?_
  refine E_goto 92 (by decide) dX12_suspects_154 ?_
  refine E_sub (lv' := [(0, .ref 149), (1, .int x1), (2, .int x2), (3, .int (y0 ||| y1)), (4, .int x4), (5, .int (x5 + 1))]) [2, 3, 4, 1, 5, 0] rfl ?_
  exact hk92 x1 x2 (y0 ||| y1) x4 (x5 + 1) I L _ h
def f_X12_suspects_148 (k92 : Int32 → Int32 → Int32 → Int32 → Int32 → MI → ML → Option (Int32 × MI × ML)) (x1 : Int32) (x2 : Int32) (x4 : Int32) (x5 : Int32) (y0 : Int32) (I : MI) (L : ML) : Option (Int32 × MI × ML) := f_X12_suspects_149 k92 x1 x2 x4 x5 y0 0 I L
set_option maxRecDepth 100000 in
theorem S_X12_suspects_148 {g : Gx} {k92 : Int32 → Int32 → Int32 → Int32 → Int32 → MI → ML → Option (Int32 × MI × ML)} (hk92 : ∀ (x1z : Int32) (x2z : Int32) (x3z : Int32) (x4z : Int32) (x5z : Int32) (I : MI) (L : ML) (res : Int32 × MI × ML), k92 x1z x2z x3z x4z x5z I L = some res → E g 3 0 mX12_suspects 92 [(0, .ref 149), (1, .int x1z), (2, .int x2z), (3, .int x3z), (4, .int x4z), (5, .int x5z)] [] (I, L) (.inl (some (.int res.1))) (res.2.1, res.2.2)) (x1 : Int32) (x2 : Int32) (x4 : Int32) (x5 : Int32) (y0 : Int32) (I : MI) (L : ML) (res : Int32 × MI × ML) (h : f_X12_suspects_148 k92 x1 x2 x4 x5 y0 I L = some res) : E g 3 0 mX12_suspects 148 [(0, .ref 149), (1, .int x1), (2, .int x2), (4, .int x4), (5, .int x5)] [.int y0] (I, L) (.inl (some (.int res.1))) (res.2.1, res.2.2) := by
  unfold f_X12_suspects_148 at h
  refine E_iconst (v := 0) 149 rfl dX12_suspects_148 (by decide) ?_
  refine E_sub (lv' := [(0, .ref 149), (1, .int x1), (2, .int x2), (4, .int x4), (5, .int x5)]) [0, 1, 2, 3, 4] rfl ?_
  exact S_X12_suspects_149 hk92 x1 x2 x4 x5 y0 0 I L _ h
def f_X12_suspects_92 (k71 : Int32 → Int32 → Int32 → Int32 → MI → ML → Option (Int32 × MI × ML)) : Nat → Int32 → Int32 → Int32 → Int32 → Int32 → MI → ML → Option (Int32 × MI × ML)
  | 0, _, _, _, _, _, _, _ => none
  | n + 1, x1, x2, x3, x4, x5, I, L => Option.bind (f_X12_heirs I L) fun v1 => if v1 ≤ x5 then (k71 x1 x2 x3 (x4 + 1) I L) else (Option.bind (ldI I 150 2143 ((205 + (6 * x4)) + x5)) fun v3 => if v3 < 0 then (f_X12_suspects_148 (f_X12_suspects_92 k71 n) x1 x2 x4 x5 x3 I L) else (Option.bind (f_X12_of x1 1 I L) fun v5 => Option.bind (f_X12_isNear v3 v5 I L) fun v6 => if v6 = true then (f_X12_suspects_149 (f_X12_suspects_92 k71 n) x1 x2 x4 x5 x3 (1 <<< (x5 &&& 31)) I L) else (f_X12_suspects_148 (f_X12_suspects_92 k71 n) x1 x2 x4 x5 x3 I L)))
set_option maxRecDepth 100000 in
theorem S_X12_suspects_92 {g : Gx} {k71 : Int32 → Int32 → Int32 → Int32 → MI → ML → Option (Int32 × MI × ML)} (hk71 : ∀ (x1z : Int32) (x2z : Int32) (x3z : Int32) (x4z : Int32) (I : MI) (L : ML) (res : Int32 × MI × ML), k71 x1z x2z x3z x4z I L = some res → E g 3 0 mX12_suspects 71 [(0, .ref 149), (1, .int x1z), (2, .int x2z), (3, .int x3z), (4, .int x4z)] [] (I, L) (.inl (some (.int res.1))) (res.2.1, res.2.2)) : ∀ (n : Nat) (x1 : Int32) (x2 : Int32) (x3 : Int32) (x4 : Int32) (x5 : Int32) (I : MI) (L : ML) (res : Int32 × MI × ML), f_X12_suspects_92 k71 n x1 x2 x3 x4 x5 I L = some res → E g 3 0 mX12_suspects 92 [(0, .ref 149), (1, .int x1), (2, .int x2), (3, .int x3), (4, .int x4), (5, .int x5)] [] (I, L) (.inl (some (.int res.1))) (res.2.1, res.2.2) := by
  intro n
  induction n with
  | zero =>
    intros
    rename_i h
    cases h
  | succ n ih =>
    intro x1 x2 x3 x4 x5 I L res h
    rw [f_X12_suspects_92] at h
    refine E_iload 94 rfl dX12_suspects_92 5 rfl ?_
    refine E_aload_n 95 rfl dX12_suspects_94 rfl 0 rfl ?_
    obtain ⟨v1, hv1, h⟩ := Option.bind_eq_some_iff.mp h
    refine E_cV1 (As := []) 98 rfl dX12_suspects_95 shc_149 ck_X12_64 cv_X12_heirs rfl (by decide) (Nat.le_of_ble_eq_true rfl) (C_X12_heirs (g := g) hv1) rfl ?_
    refine E_icmp_ge 157 101 (by decide) rfl dX12_suspects_98 (fun c2 => ?_) (fun c2 => ?_)
    · rw [if_pos c2] at h
      refine E_iinc (j := 4) (v := x4 + 1) (lv' := [(4, .int (x4 + 1)), (0, .ref 149), (1, .int x1), (2, .int x2), (3, .int x3), (5, .int x5)]) 160 rfl dX12_suspects_157 rfl rfl (Nat.le_of_ble_eq_true rfl) rfl ?_
      refine E_goto 71 (by decide) dX12_suspects_160 ?_
      refine E_sub (lv' := [(0, .ref 149), (1, .int x1), (2, .int x2), (3, .int x3), (4, .int (x4 + 1))]) [1, 2, 3, 4, 0] rfl ?_
      exact hk71 x1 x2 x3 (x4 + 1) I L _ h
    · rw [if_neg c2] at h
      refine E_aload_n 102 rfl dX12_suspects_101 rfl 0 rfl ?_
      refine E_gR 150 105 rfl dX12_suspects_102 shc_149 fl_X12_13 rfl (by decide) (by decide) ?_
      refine E_sipush (v := 205) 108 rfl dX12_suspects_105 (by decide) ?_
      refine E_bipush (v := 6) 110 rfl dX12_suspects_108 (by decide) ?_
      refine E_iload 112 rfl dX12_suspects_110 4 rfl ?_
      refine E_imul 113 rfl dX12_suspects_112 ?_
      refine E_iadd 114 rfl dX12_suspects_113 ?_
      refine E_iload 116 rfl dX12_suspects_114 5 rfl ?_
      refine E_iadd 117 rfl dX12_suspects_116 ?_
      obtain ⟨v3, hv3, h⟩ := Option.bind_eq_some_iff.mp h
      refine E_ldI 118 rfl dX12_suspects_117 shc_150 hv3 ?_
      refine E_istore (lv' := [(6, .int v3), (0, .ref 149), (1, .int x1), (2, .int x2), (3, .int x3), (4, .int x4), (5, .int x5)]) 120 rfl dX12_suspects_118 (Nat.le_of_ble_eq_true rfl) rfl ?_
      refine E_iload_n 121 rfl dX12_suspects_120 rfl 4 rfl ?_
      refine E_iload 123 rfl dX12_suspects_121 0 rfl ?_
      refine E_if_lt 148 126 (by decide) rfl dX12_suspects_123 (fun c4 => ?_) (fun c4 => ?_)
      · rw [if_pos c4] at h
        refine E_sub (lv' := [(0, .ref 149), (1, .int x1), (2, .int x2), (4, .int x4), (5, .int x5)]) [1, 2, 3, 5, 6] rfl ?_
        exact S_X12_suspects_148 ih x1 x2 x4 x5 x3 I L _ h
      · rw [if_neg c4] at h
        refine E_aload_n 127 rfl dX12_suspects_126 rfl 1 rfl ?_
        refine E_iload 129 rfl dX12_suspects_127 0 rfl ?_
        refine E_aload_n 130 rfl dX12_suspects_129 rfl 1 rfl ?_
        refine E_iload_n 131 rfl dX12_suspects_130 rfl 2 rfl ?_
        refine E_iconst (v := 1) 132 rfl dX12_suspects_131 (by decide) ?_
        obtain ⟨v5, hv5, h⟩ := Option.bind_eq_some_iff.mp h
        refine E_cV1 (As := [.int x1, .int 1]) 135 rfl dX12_suspects_132 shc_149 ck_X12_260 cv_X12_of rfl (by decide) (Nat.le_of_ble_eq_true rfl) (C_X12_of (g := g) hv5) rfl ?_
        obtain ⟨v6, hv6, h⟩ := Option.bind_eq_some_iff.mp h
        refine E_cV1 (As := [.int v3, .int v5]) 138 rfl dX12_suspects_135 shc_149 ck_X12_354 cv_X12_isNear rfl (by decide) (Nat.le_of_ble_eq_true rfl) (C_X12_isNear (g := g) hv6) rfl ?_
        refine E_if_eqB 148 141 (by decide) rfl dX12_suspects_138 (fun c7 => ?_) (fun c7 => ?_)
        · rw [if_neg (by rw [c7]; decide)] at h
          refine E_sub (lv' := [(0, .ref 149), (1, .int x1), (2, .int x2), (4, .int x4), (5, .int x5)]) [1, 2, 3, 5, 6] rfl ?_
          exact S_X12_suspects_148 ih x1 x2 x4 x5 x3 I L _ h
        · rw [if_pos c7] at h
          refine E_iconst (v := 1) 142 rfl dX12_suspects_141 (by decide) ?_
          refine E_iload 144 rfl dX12_suspects_142 6 rfl ?_
          refine E_ishl 145 rfl dX12_suspects_144 ?_
          refine E_goto 149 (by decide) dX12_suspects_145 ?_
          refine E_sub (lv' := [(0, .ref 149), (1, .int x1), (2, .int x2), (4, .int x4), (5, .int x5)]) [1, 2, 3, 5, 6] rfl ?_
          exact S_X12_suspects_149 ih x1 x2 x4 x5 x3 (1 <<< (x5 &&& 31)) I L _ h
def f_X12_suspects_71 : Nat → Int32 → Int32 → Int32 → Int32 → MI → ML → Option (Int32 × MI × ML)
  | 0, _, _, _, _, _, _ => none
  | n + 1, x1, x2, x3, x4, I, L => Option.bind (ldI I 150 2143 14) fun v1 => if v1 ≤ x4 then (f_X12_suspects_163 x3 I L) else (if x2 ≤ x4 then (f_X12_suspects_163 x3 I L) else (f_X12_suspects_92 (f_X12_suspects_71 n) FU x1 x2 x3 x4 0 I L))
set_option maxRecDepth 100000 in
theorem S_X12_suspects_71 {g : Gx} : ∀ (n : Nat) (x1 : Int32) (x2 : Int32) (x3 : Int32) (x4 : Int32) (I : MI) (L : ML) (res : Int32 × MI × ML), f_X12_suspects_71 n x1 x2 x3 x4 I L = some res → E g 3 0 mX12_suspects 71 [(0, .ref 149), (1, .int x1), (2, .int x2), (3, .int x3), (4, .int x4)] [] (I, L) (.inl (some (.int res.1))) (res.2.1, res.2.2) := by
  intro n
  induction n with
  | zero =>
    intros
    rename_i h
    cases h
  | succ n ih =>
    intro x1 x2 x3 x4 I L res h
    rw [f_X12_suspects_71] at h
    refine E_iload 73 rfl dX12_suspects_71 4 rfl ?_
    refine E_aload_n 74 rfl dX12_suspects_73 rfl 0 rfl ?_
    refine E_gR 150 77 rfl dX12_suspects_74 shc_149 fl_X12_13 rfl (by decide) (by decide) ?_
    refine E_bipush (v := 14) 79 rfl dX12_suspects_77 (by decide) ?_
    obtain ⟨v1, hv1, h⟩ := Option.bind_eq_some_iff.mp h
    refine E_ldI 80 rfl dX12_suspects_79 shc_150 hv1 ?_
    refine E_icmp_ge 163 83 (by decide) rfl dX12_suspects_80 (fun c2 => ?_) (fun c2 => ?_)
    · rw [if_pos c2] at h
      refine E_sub (lv' := [(3, .int x3)]) [3] rfl ?_
      exact S_X12_suspects_163 x3 I L _ h
    · rw [if_neg c2] at h
      refine E_iload 85 rfl dX12_suspects_83 4 rfl ?_
      refine E_iload_n 86 rfl dX12_suspects_85 rfl 2 rfl ?_
      refine E_icmp_ge 163 89 (by decide) rfl dX12_suspects_86 (fun c3 => ?_) (fun c3 => ?_)
      · rw [if_pos c3] at h
        refine E_sub (lv' := [(3, .int x3)]) [3] rfl ?_
        exact S_X12_suspects_163 x3 I L _ h
      · rw [if_neg c3] at h
        refine E_iconst (v := 0) 90 rfl dX12_suspects_89 (by decide) ?_
        refine E_istore (lv' := [(5, .int 0), (0, .ref 149), (1, .int x1), (2, .int x2), (3, .int x3), (4, .int x4)]) 92 rfl dX12_suspects_90 (Nat.le_of_ble_eq_true rfl) rfl ?_
        refine E_sub (lv' := [(0, .ref 149), (1, .int x1), (2, .int x2), (3, .int x3), (4, .int x4), (5, .int 0)]) [1, 2, 3, 4, 5, 0] rfl ?_
        exact S_X12_suspects_92 ih FU x1 x2 x3 x4 0 I L _ h
def f_X12_suspects (x1 : Int32) (I : MI) (L : ML) : Option (Int32 × MI × ML) := Option.bind (pfI I 149 0 0) fun I1 => Option.bind (f_X12_noNoise x1 I1 L) fun v2 => Option.bind (f_X12_throwsIf v2 1 I1 L) fun w3 => if w3.1 = true then (some (0, w3.2.1, w3.2.2)) else (Option.bind (f_X12_of x1 7 w3.2.1 w3.2.2) fun v5 => if 0 ≤ v5 then (Option.bind (ldI w3.2.1 150 2143 6) fun v7 => Option.bind (ldI w3.2.1 150 2143 7) fun v8 => Option.bind (f_X12_of x1 7 w3.2.1 w3.2.2) fun v9 => f_X12_suspects_71 FU x1 (((24 * v7) + v8) - v9) 0 0 w3.2.1 w3.2.2) else (Option.bind (f_X12_heirs w3.2.1 w3.2.2) fun v10 => some ((1 <<< (v10 &&& 31)) - 1, w3.2.1, w3.2.2)))
set_option maxRecDepth 100000 in
theorem S_X12_suspects {g : Gx} (x1 : Int32) (I : MI) (L : ML) (res : Int32 × MI × ML) (h : f_X12_suspects x1 I L = some res) : E g 3 0 mX12_suspects 0 [(0, .ref 149), (1, .int x1)] [] (I, L) (.inl (some (.int res.1))) (res.2.1, res.2.2) := by
  unfold f_X12_suspects at h
  refine E_aload_n 1 rfl dX12_suspects_0 rfl 0 rfl ?_
  refine E_iconst (v := 0) 2 rfl dX12_suspects_1 (by decide) ?_
  obtain ⟨I1, hI1, h⟩ := Option.bind_eq_some_iff.mp h
  refine E_pfI 5 rfl dX12_suspects_2 shc_149 fl_X12_3 rfl hI1 ?_
  refine E_aload_n 6 rfl dX12_suspects_5 rfl 0 rfl ?_
  refine E_aload_n 7 rfl dX12_suspects_6 rfl 0 rfl ?_
  refine E_iload_n 8 rfl dX12_suspects_7 rfl 1 rfl ?_
  obtain ⟨v2, hv2, h⟩ := Option.bind_eq_some_iff.mp h
  refine E_cV1 (As := [.int x1]) 11 rfl dX12_suspects_8 shc_149 ck_X12_304 cv_X12_noNoise rfl (by decide) (Nat.le_of_ble_eq_true rfl) (C_X12_noNoise (g := g) hv2) rfl ?_
  refine E_iconst (v := 1) 12 rfl dX12_suspects_11 (by decide) ?_
  obtain ⟨w3, hw3, h⟩ := Option.bind_eq_some_iff.mp h
  refine E_cV1 (As := [.int (bI v2), .int 1]) 15 rfl dX12_suspects_12 shc_149 ck_X12_245 cv_X12_throwsIf rfl (by decide) (Nat.le_of_ble_eq_true rfl) (C_X12_throwsIf (g := g) hw3) rfl ?_
  refine E_if_eqB 20 18 (by decide) rfl dX12_suspects_15 (fun c4 => ?_) (fun c4 => ?_)
  · rw [if_neg (by rw [c4]; decide)] at h
    refine E_aload_n 21 rfl dX12_suspects_20 rfl 0 rfl ?_
    refine E_iload_n 22 rfl dX12_suspects_21 rfl 1 rfl ?_
    refine E_bipush (v := 7) 24 rfl dX12_suspects_22 (by decide) ?_
    obtain ⟨v5, hv5, h⟩ := Option.bind_eq_some_iff.mp h
    refine E_cV1 (As := [.int x1, .int 7]) 27 rfl dX12_suspects_24 shc_149 ck_X12_260 cv_X12_of rfl (by decide) (Nat.le_of_ble_eq_true rfl) (C_X12_of (g := g) hv5) rfl ?_
    refine E_if_ge 39 30 (by decide) rfl dX12_suspects_27 (fun c6 => ?_) (fun c6 => ?_)
    · rw [if_pos c6] at h
      refine E_bipush (v := 24) 41 rfl dX12_suspects_39 (by decide) ?_
      refine E_aload_n 42 rfl dX12_suspects_41 rfl 0 rfl ?_
      refine E_gR 150 45 rfl dX12_suspects_42 shc_149 fl_X12_13 rfl (by decide) (by decide) ?_
      refine E_bipush (v := 6) 47 rfl dX12_suspects_45 (by decide) ?_
      obtain ⟨v7, hv7, h⟩ := Option.bind_eq_some_iff.mp h
      refine E_ldI 48 rfl dX12_suspects_47 shc_150 hv7 ?_
      refine E_imul 49 rfl dX12_suspects_48 ?_
      refine E_aload_n 50 rfl dX12_suspects_49 rfl 0 rfl ?_
      refine E_gR 150 53 rfl dX12_suspects_50 shc_149 fl_X12_13 rfl (by decide) (by decide) ?_
      refine E_bipush (v := 7) 55 rfl dX12_suspects_53 (by decide) ?_
      obtain ⟨v8, hv8, h⟩ := Option.bind_eq_some_iff.mp h
      refine E_ldI 56 rfl dX12_suspects_55 shc_150 hv8 ?_
      refine E_iadd 57 rfl dX12_suspects_56 ?_
      refine E_aload_n 58 rfl dX12_suspects_57 rfl 0 rfl ?_
      refine E_iload_n 59 rfl dX12_suspects_58 rfl 1 rfl ?_
      refine E_bipush (v := 7) 61 rfl dX12_suspects_59 (by decide) ?_
      obtain ⟨v9, hv9, h⟩ := Option.bind_eq_some_iff.mp h
      refine E_cV1 (As := [.int x1, .int 7]) 64 rfl dX12_suspects_61 shc_149 ck_X12_260 cv_X12_of rfl (by decide) (Nat.le_of_ble_eq_true rfl) (C_X12_of (g := g) hv9) rfl ?_
      refine E_isub 65 rfl dX12_suspects_64 ?_
      refine E_istore_n (lv' := [(2, .int (((24 * v7) + v8) - v9)), (0, .ref 149), (1, .int x1)]) 66 rfl dX12_suspects_65 rfl (Nat.le_of_ble_eq_true rfl) rfl ?_
      refine E_iconst (v := 0) 67 rfl dX12_suspects_66 (by decide) ?_
      refine E_istore_n (lv' := [(3, .int 0), (2, .int (((24 * v7) + v8) - v9)), (0, .ref 149), (1, .int x1)]) 68 rfl dX12_suspects_67 rfl (Nat.le_of_ble_eq_true rfl) rfl ?_
      refine E_iconst (v := 0) 69 rfl dX12_suspects_68 (by decide) ?_
      refine E_istore (lv' := [(4, .int 0), (3, .int 0), (2, .int (((24 * v7) + v8) - v9)), (0, .ref 149), (1, .int x1)]) 71 rfl dX12_suspects_69 (Nat.le_of_ble_eq_true rfl) rfl ?_
      refine E_sub (lv' := [(0, .ref 149), (1, .int x1), (2, .int (((24 * v7) + v8) - v9)), (3, .int 0), (4, .int 0)]) [3, 4, 2, 1, 0] rfl ?_
      exact S_X12_suspects_71 FU x1 (((24 * v7) + v8) - v9) 0 0 w3.2.1 w3.2.2 _ h
    · rw [if_neg c6] at h
      refine E_iconst (v := 1) 31 rfl dX12_suspects_30 (by decide) ?_
      refine E_aload_n 32 rfl dX12_suspects_31 rfl 0 rfl ?_
      obtain ⟨v10, hv10, h⟩ := Option.bind_eq_some_iff.mp h
      refine E_cV1 (As := []) 35 rfl dX12_suspects_32 shc_149 ck_X12_64 cv_X12_heirs rfl (by decide) (Nat.le_of_ble_eq_true rfl) (C_X12_heirs (g := g) hv10) rfl ?_
      refine E_ishl 36 rfl dX12_suspects_35 ?_
      refine E_iconst (v := 1) 37 rfl dX12_suspects_36 (by decide) ?_
      refine E_isub 38 rfl dX12_suspects_37 ?_
      cases h
      exact E_iret rfl dX12_suspects_38
  · rw [if_pos c4] at h
    refine E_iconst (v := 0) 19 rfl dX12_suspects_18 (by decide) ?_
    cases h
    exact E_iret rfl dX12_suspects_19
theorem C_X12_suspects {g : Gx} {x1 : Int32} {I : MI} {L : ML} {res : Int32 × MI × ML} (h : f_X12_suspects x1 I L = some res) : Ent g 3 0 mX12_suspects [.ref 149, .int x1] (I, L) (.inl (some (.int res.1))) (res.2.1, res.2.2) := Ent_of (by decide +kernel) (Nat.le_of_ble_eq_true rfl) (S_X12_suspects x1 I L _ h)
def f_X12_isGhost_66 (k5 : Int32 → Int32 → Bool → Int32 → MI → ML → Option (Bool)) (x1 : Int32) (x2 : Int32) (x4 : Int32) (y0 : Bool) (I : MI) (L : ML) : Option (Bool) := k5 x1 x2 y0 (x4 + 2) I L
set_option maxRecDepth 100000 in
theorem S_X12_isGhost_66 {g : Gx} {k5 : Int32 → Int32 → Bool → Int32 → MI → ML → Option (Bool)} (hk5 : ∀ (x1z : Int32) (x2z : Int32) (x3z : Bool) (x4z : Int32) (I : MI) (L : ML) (res : Bool), k5 x1z x2z x3z x4z I L = some res → E g 4 0 mX12_isGhost 5 [(0, .ref 149), (1, .int x1z), (2, .int x2z), (3, .int (bI x3z)), (4, .int x4z)] [] (I, L) (.inl (some (.int (bI res)))) (I, L)) (x1 : Int32) (x2 : Int32) (x4 : Int32) (y0 : Bool) (I : MI) (L : ML) (res : Bool) (h : f_X12_isGhost_66 k5 x1 x2 x4 y0 I L = some res) : E g 4 0 mX12_isGhost 66 [(0, .ref 149), (1, .int x1), (2, .int x2), (4, .int x4)] [.int (bI y0)] (I, L) (.inl (some (.int (bI res)))) (I, L) := by
  unfold f_X12_isGhost_66 at h
  refine E_istore_n (lv' := [(3, .int (bI y0)), (0, .ref 149), (1, .int x1), (2, .int x2), (4, .int x4)]) 67 rfl dX12_isGhost_66 rfl (Nat.le_of_ble_eq_true rfl) rfl ?_
  refine E_iinc (j := 4) (v := x4 + 2) (lv' := [(4, .int (x4 + 2)), (3, .int (bI y0)), (0, .ref 149), (1, .int x1), (2, .int x2)]) 70 rfl dX12_isGhost_67 rfl rfl (Nat.le_of_ble_eq_true rfl) rfl ?_
  refine E_goto 5 (by decide) dX12_isGhost_70 ?_
  refine E_sub (lv' := [(0, .ref 149), (1, .int x1), (2, .int x2), (3, .int (bI y0)), (4, .int (x4 + 2))]) [2, 3, 4, 1, 0] rfl ?_
  exact hk5 x1 x2 y0 (x4 + 2) I L _ h
def f_X12_isGhost_65 (k5 : Int32 → Int32 → Bool → Int32 → MI → ML → Option (Bool)) (x1 : Int32) (x2 : Int32) (x4 : Int32) (I : MI) (L : ML) : Option (Bool) := f_X12_isGhost_66 k5 x1 x2 x4 false I L
set_option maxRecDepth 100000 in
theorem S_X12_isGhost_65 {g : Gx} {k5 : Int32 → Int32 → Bool → Int32 → MI → ML → Option (Bool)} (hk5 : ∀ (x1z : Int32) (x2z : Int32) (x3z : Bool) (x4z : Int32) (I : MI) (L : ML) (res : Bool), k5 x1z x2z x3z x4z I L = some res → E g 4 0 mX12_isGhost 5 [(0, .ref 149), (1, .int x1z), (2, .int x2z), (3, .int (bI x3z)), (4, .int x4z)] [] (I, L) (.inl (some (.int (bI res)))) (I, L)) (x1 : Int32) (x2 : Int32) (x4 : Int32) (I : MI) (L : ML) (res : Bool) (h : f_X12_isGhost_65 k5 x1 x2 x4 I L = some res) : E g 4 0 mX12_isGhost 65 [(0, .ref 149), (1, .int x1), (2, .int x2), (4, .int x4)] [] (I, L) (.inl (some (.int (bI res)))) (I, L) := by
  unfold f_X12_isGhost_65 at h
  refine E_iconst (v := 0) 66 rfl dX12_isGhost_65 (by decide) ?_
  refine E_sub (lv' := [(0, .ref 149), (1, .int x1), (2, .int x2), (4, .int x4)]) [0, 1, 2, 3] rfl ?_
  exact S_X12_isGhost_66 hk5 x1 x2 x4 false I L _ h
def f_X12_isGhost_5 : Nat → Int32 → Int32 → Bool → Int32 → MI → ML → Option (Bool)
  | 0, _, _, _, _, _, _ => none
  | n + 1, x1, x2, x3, x4, I, L => if (I 149 10) ≤ x4 then (some x3) else (if x3 = true then (Option.bind (ldI I 154 400 x4) fun v3 => Option.bind (f_X12_costOf x1 (v3 - 97) I L) fun v4 => Option.bind (ldI I 150 2143 (15 + x1)) fun v5 => Option.bind (ldI I 154 400 (x4 + 1)) fun v6 => if (if 0 < ((x2 - v4) - v5) then ((x2 - v4) - v5) else 0) = v6 then (f_X12_isGhost_66 (f_X12_isGhost_5 n) x1 x2 x4 true I L) else (f_X12_isGhost_65 (f_X12_isGhost_5 n) x1 x2 x4 I L)) else (f_X12_isGhost_65 (f_X12_isGhost_5 n) x1 x2 x4 I L))
set_option maxRecDepth 100000 in
theorem S_X12_isGhost_5 {g : Gx} : ∀ (n : Nat) (x1 : Int32) (x2 : Int32) (x3 : Bool) (x4 : Int32) (I : MI) (L : ML) (res : Bool), f_X12_isGhost_5 n x1 x2 x3 x4 I L = some res → E g 4 0 mX12_isGhost 5 [(0, .ref 149), (1, .int x1), (2, .int x2), (3, .int (bI x3)), (4, .int x4)] [] (I, L) (.inl (some (.int (bI res)))) (I, L) := by
  intro n
  induction n with
  | zero =>
    intros
    rename_i h
    cases h
  | succ n ih =>
    intro x1 x2 x3 x4 I L res h
    rw [f_X12_isGhost_5] at h
    refine E_iload 7 rfl dX12_isGhost_5 4 rfl ?_
    refine E_aload_n 8 rfl dX12_isGhost_7 rfl 0 rfl ?_
    refine E_gI 11 rfl dX12_isGhost_8 shc_149 fl_X12_76 rfl ?_
    refine E_icmp_ge 73 14 (by decide) rfl dX12_isGhost_11 (fun c1 => ?_) (fun c1 => ?_)
    · rw [if_pos c1] at h
      refine E_iload_n 74 rfl dX12_isGhost_73 rfl 3 rfl ?_
      cases h
      exact E_zret (x := x3) rfl dX12_isGhost_74
    · rw [if_neg c1] at h
      refine E_iload_n 15 rfl dX12_isGhost_14 rfl 3 rfl ?_
      refine E_if_eqB 65 18 (by decide) rfl dX12_isGhost_15 (fun c2 => ?_) (fun c2 => ?_)
      · rw [if_neg (by rw [c2]; decide)] at h
        refine E_sub (lv' := [(0, .ref 149), (1, .int x1), (2, .int x2), (4, .int x4)]) [0, 1, 2, 4] rfl ?_
        exact S_X12_isGhost_65 ih x1 x2 x4 I L _ h
      · rw [if_pos c2] at h
        refine E_iconst (v := 0) 19 rfl dX12_isGhost_18 (by decide) ?_
        refine E_iload_n 20 rfl dX12_isGhost_19 rfl 2 rfl ?_
        refine E_aload_n 21 rfl dX12_isGhost_20 rfl 0 rfl ?_
        refine E_iload_n 22 rfl dX12_isGhost_21 rfl 1 rfl ?_
        refine E_aload_n 23 rfl dX12_isGhost_22 rfl 0 rfl ?_
        refine E_gR 154 26 rfl dX12_isGhost_23 shc_149 fl_X12_26 rfl (by decide) (by decide) ?_
        refine E_iload 28 rfl dX12_isGhost_26 4 rfl ?_
        obtain ⟨v3, hv3, h⟩ := Option.bind_eq_some_iff.mp h
        refine E_ldB 29 rfl dX12_isGhost_28 shc_154 hv3 ?_
        refine E_bipush (v := 97) 31 rfl dX12_isGhost_29 (by decide) ?_
        refine E_isub 32 rfl dX12_isGhost_31 ?_
        obtain ⟨v4, hv4, h⟩ := Option.bind_eq_some_iff.mp h
        refine E_cV1 (As := [.int x1, .int (v3 - 97)]) 35 rfl dX12_isGhost_32 shc_149 ck_X12_252 cv_X12_costOf rfl (by decide) (Nat.le_of_ble_eq_true rfl) (C_X12_costOf (g := g) hv4) rfl ?_
        refine E_isub 36 rfl dX12_isGhost_35 ?_
        refine E_aload_n 37 rfl dX12_isGhost_36 rfl 0 rfl ?_
        refine E_gR 150 40 rfl dX12_isGhost_37 shc_149 fl_X12_13 rfl (by decide) (by decide) ?_
        refine E_bipush (v := 15) 42 rfl dX12_isGhost_40 (by decide) ?_
        refine E_iload_n 43 rfl dX12_isGhost_42 rfl 1 rfl ?_
        refine E_iadd 44 rfl dX12_isGhost_43 ?_
        obtain ⟨v5, hv5, h⟩ := Option.bind_eq_some_iff.mp h
        refine E_ldI 45 rfl dX12_isGhost_44 shc_150 hv5 ?_
        refine E_isub 46 rfl dX12_isGhost_45 ?_
        refine E_max 49 rfl dX12_isGhost_46 jm_X12_263 (by decide) (Nat.le_of_ble_eq_true rfl) ?_
        refine E_aload_n 50 rfl dX12_isGhost_49 rfl 0 rfl ?_
        refine E_gR 154 53 rfl dX12_isGhost_50 shc_149 fl_X12_26 rfl (by decide) (by decide) ?_
        refine E_iload 55 rfl dX12_isGhost_53 4 rfl ?_
        refine E_iconst (v := 1) 56 rfl dX12_isGhost_55 (by decide) ?_
        refine E_iadd 57 rfl dX12_isGhost_56 ?_
        obtain ⟨v6, hv6, h⟩ := Option.bind_eq_some_iff.mp h
        refine E_ldB 58 rfl dX12_isGhost_57 shc_154 hv6 ?_
        refine E_icmp_ne 65 61 (by decide) rfl dX12_isGhost_58 (fun c7 => ?_) (fun c7 => ?_)
        · rw [if_neg c7] at h
          refine E_sub (lv' := [(0, .ref 149), (1, .int x1), (2, .int x2), (4, .int x4)]) [0, 1, 2, 4] rfl ?_
          exact S_X12_isGhost_65 ih x1 x2 x4 I L _ h
        · rw [if_pos c7] at h
          refine E_iconst (v := 1) 62 rfl dX12_isGhost_61 (by decide) ?_
          refine E_goto 66 (by decide) dX12_isGhost_62 ?_
          refine E_sub (lv' := [(0, .ref 149), (1, .int x1), (2, .int x2), (4, .int x4)]) [0, 1, 2, 4] rfl ?_
          exact S_X12_isGhost_66 ih x1 x2 x4 true I L _ h
def f_X12_isGhost (x1 : Int32) (x2 : Int32) (I : MI) (L : ML) : Option (Bool) := f_X12_isGhost_5 FU x1 x2 true 0 I L
set_option maxRecDepth 100000 in
theorem S_X12_isGhost {g : Gx} (x1 : Int32) (x2 : Int32) (I : MI) (L : ML) (res : Bool) (h : f_X12_isGhost x1 x2 I L = some res) : E g 4 0 mX12_isGhost 0 [(0, .ref 149), (1, .int x1), (2, .int x2)] [] (I, L) (.inl (some (.int (bI res)))) (I, L) := by
  unfold f_X12_isGhost at h
  refine E_iconst (v := 1) 1 rfl dX12_isGhost_0 (by decide) ?_
  refine E_istore_n (lv' := [(3, .int 1), (0, .ref 149), (1, .int x1), (2, .int x2)]) 2 rfl dX12_isGhost_1 rfl (Nat.le_of_ble_eq_true rfl) rfl ?_
  refine E_iconst (v := 0) 3 rfl dX12_isGhost_2 (by decide) ?_
  refine E_istore (lv' := [(4, .int 0), (3, .int 1), (0, .ref 149), (1, .int x1), (2, .int x2)]) 5 rfl dX12_isGhost_3 (Nat.le_of_ble_eq_true rfl) rfl ?_
  refine E_sub (lv' := [(0, .ref 149), (1, .int x1), (2, .int x2), (3, .int 1), (4, .int 0)]) [2, 3, 4, 1, 0] rfl ?_
  exact S_X12_isGhost_5 FU x1 x2 true 0 I L _ h
theorem C_X12_isGhost {g : Gx} {x1 : Int32} {x2 : Int32} {I : MI} {L : ML} {res : Bool} (h : f_X12_isGhost x1 x2 I L = some res) : Ent g 4 0 mX12_isGhost [.ref 149, .int x1, .int x2] (I, L) (.inl (some (.int (bI res)))) (I, L) := Ent_of (by decide +kernel) (Nat.le_of_ble_eq_true rfl) (S_X12_isGhost x1 x2 I L _ h)
def f_X12_ghost_238 (y0 : Int32) (I : MI) (L : ML) : Option (Int32 × MI × ML) := some (y0, I, L)
set_option maxRecDepth 100000 in
theorem S_X12_ghost_238 {g : Gx} (y0 : Int32) (I : MI) (L : ML) (res : Int32 × MI × ML) (h : f_X12_ghost_238 y0 I L = some res) : E g 5 0 mX12_ghost 238 [] [.int y0] (I, L) (.inl (some (.int res.1))) (res.2.1, res.2.2) := by
  unfold f_X12_ghost_238 at h
  cases h
  exact E_iret rfl dX12_ghost_238
def f_X12_ghost_216 (k168 : Int32 → Int32 → Int32 → Int32 → Int32 → MI → ML → Option (Int32 × MI × ML)) (x1 : Int32) (x3 : Int32) (x4 : Int32) (x5 : Int32) (x6 : Int32) (I : MI) (L : ML) : Option (Int32 × MI × ML) := k168 x1 x3 x4 x5 (x6 + 1) I L
set_option maxRecDepth 100000 in
theorem S_X12_ghost_216 {g : Gx} {k168 : Int32 → Int32 → Int32 → Int32 → Int32 → MI → ML → Option (Int32 × MI × ML)} (hk168 : ∀ (x1z : Int32) (x3z : Int32) (x4z : Int32) (x5z : Int32) (x6z : Int32) (I : MI) (L : ML) (res : Int32 × MI × ML), k168 x1z x3z x4z x5z x6z I L = some res → E g 5 0 mX12_ghost 168 [(0, .ref 149), (1, .int x1z), (3, .int x3z), (4, .int x4z), (5, .int x5z), (6, .int x6z)] [] (I, L) (.inl (some (.int res.1))) (res.2.1, res.2.2)) (x1 : Int32) (x3 : Int32) (x4 : Int32) (x5 : Int32) (x6 : Int32) (I : MI) (L : ML) (res : Int32 × MI × ML) (h : f_X12_ghost_216 k168 x1 x3 x4 x5 x6 I L = some res) : E g 5 0 mX12_ghost 216 [(0, .ref 149), (1, .int x1), (3, .int x3), (4, .int x4), (5, .int x5), (6, .int x6)] [] (I, L) (.inl (some (.int res.1))) (res.2.1, res.2.2) := by
  unfold f_X12_ghost_216 at h
  refine E_iinc (j := 5) (v := x6 + 1) (lv' := [(6, .int (x6 + 1)), (0, .ref 149), (1, .int x1), (3, .int x3), (4, .int x4), (5, .int x5)]) 219 rfl dX12_ghost_216 rfl rfl (Nat.le_of_ble_eq_true rfl) rfl ?_
  refine E_goto 168 (by decide) dX12_ghost_219 ?_
  refine E_sub (lv' := [(0, .ref 149), (1, .int x1), (3, .int x3), (4, .int x4), (5, .int x5), (6, .int (x6 + 1))]) [1, 2, 3, 4, 5, 0] rfl ?_
  exact hk168 x1 x3 x4 x5 (x6 + 1) I L _ h
def f_X12_ghost_211 (k168 : Int32 → Int32 → Int32 → Int32 → Int32 → MI → ML → Option (Int32 × MI × ML)) (x1 : Int32) (x3 : Int32) (x5 : Int32) (x6 : Int32) (y0 : Int32) (I : MI) (L : ML) : Option (Int32 × MI × ML) := f_X12_ghost_216 k168 x1 (x3 + 1) y0 x5 x6 I L
set_option maxRecDepth 100000 in
theorem S_X12_ghost_211 {g : Gx} {k168 : Int32 → Int32 → Int32 → Int32 → Int32 → MI → ML → Option (Int32 × MI × ML)} (hk168 : ∀ (x1z : Int32) (x3z : Int32) (x4z : Int32) (x5z : Int32) (x6z : Int32) (I : MI) (L : ML) (res : Int32 × MI × ML), k168 x1z x3z x4z x5z x6z I L = some res → E g 5 0 mX12_ghost 168 [(0, .ref 149), (1, .int x1z), (3, .int x3z), (4, .int x4z), (5, .int x5z), (6, .int x6z)] [] (I, L) (.inl (some (.int res.1))) (res.2.1, res.2.2)) (x1 : Int32) (x3 : Int32) (x5 : Int32) (x6 : Int32) (y0 : Int32) (I : MI) (L : ML) (res : Int32 × MI × ML) (h : f_X12_ghost_211 k168 x1 x3 x5 x6 y0 I L = some res) : E g 5 0 mX12_ghost 211 [(0, .ref 149), (1, .int x1), (3, .int x3), (5, .int x5), (6, .int x6)] [.int y0] (I, L) (.inl (some (.int res.1))) (res.2.1, res.2.2) := by
  unfold f_X12_ghost_211 at h
  refine E_istore (lv' := [(4, .int y0), (0, .ref 149), (1, .int x1), (3, .int x3), (5, .int x5), (6, .int x6)]) 213 rfl dX12_ghost_211 (Nat.le_of_ble_eq_true rfl) rfl ?_
  refine E_iinc (j := 3) (v := x3 + 1) (lv' := [(3, .int (x3 + 1)), (4, .int y0), (0, .ref 149), (1, .int x1), (5, .int x5), (6, .int x6)]) 216 rfl dX12_ghost_213 rfl rfl (Nat.le_of_ble_eq_true rfl) rfl ?_
  refine E_sub (lv' := [(0, .ref 149), (1, .int x1), (3, .int (x3 + 1)), (4, .int y0), (5, .int x5), (6, .int x6)]) [2, 3, 0, 1, 4, 5] rfl ?_
  exact S_X12_ghost_216 hk168 x1 (x3 + 1) y0 x5 x6 I L _ h
def f_X12_ghost_168 (k156 : Int32 → Int32 → Int32 → Int32 → MI → ML → Option (Int32 × MI × ML)) : Nat → Int32 → Int32 → Int32 → Int32 → Int32 → MI → ML → Option (Int32 × MI × ML)
  | 0, _, _, _, _, _, _, _ => none
  | n + 1, x1, x3, x4, x5, x6, I, L => if 99 < x6 then (k156 x1 x3 x4 (x5 + 1) I L) else (Option.bind (f_X12_isGhost x5 x6 I L) fun v2 => if v2 = true then (if 0 ≤ x4 then (f_X12_ghost_211 (f_X12_ghost_168 k156 n) x1 x3 x5 x6 x4 I L) else (if x1 = 1 then (f_X12_ghost_211 (f_X12_ghost_168 k156 n) x1 x3 x5 x6 x5 I L) else (f_X12_ghost_211 (f_X12_ghost_168 k156 n) x1 x3 x5 x6 x6 I L))) else (f_X12_ghost_216 (f_X12_ghost_168 k156 n) x1 x3 x4 x5 x6 I L))
set_option maxRecDepth 100000 in
theorem S_X12_ghost_168 {g : Gx} {k156 : Int32 → Int32 → Int32 → Int32 → MI → ML → Option (Int32 × MI × ML)} (hk156 : ∀ (x1z : Int32) (x3z : Int32) (x4z : Int32) (x5z : Int32) (I : MI) (L : ML) (res : Int32 × MI × ML), k156 x1z x3z x4z x5z I L = some res → E g 5 0 mX12_ghost 156 [(0, .ref 149), (1, .int x1z), (3, .int x3z), (4, .int x4z), (5, .int x5z)] [] (I, L) (.inl (some (.int res.1))) (res.2.1, res.2.2)) : ∀ (n : Nat) (x1 : Int32) (x3 : Int32) (x4 : Int32) (x5 : Int32) (x6 : Int32) (I : MI) (L : ML) (res : Int32 × MI × ML), f_X12_ghost_168 k156 n x1 x3 x4 x5 x6 I L = some res → E g 5 0 mX12_ghost 168 [(0, .ref 149), (1, .int x1), (3, .int x3), (4, .int x4), (5, .int x5), (6, .int x6)] [] (I, L) (.inl (some (.int res.1))) (res.2.1, res.2.2) := by
  intro n
  induction n with
  | zero =>
    intros
    rename_i h
    cases h
  | succ n ih =>
    intro x1 x3 x4 x5 x6 I L res h
    rw [f_X12_ghost_168] at h
    refine E_iload 170 rfl dX12_ghost_168 5 rfl ?_
    refine E_bipush (v := 99) 172 rfl dX12_ghost_170 (by decide) ?_
    refine E_icmp_gt 222 175 (by decide) rfl dX12_ghost_172 (fun c1 => ?_) (fun c1 => ?_)
    · rw [if_pos c1] at h
      refine E_iinc (j := 4) (v := x5 + 1) (lv' := [(5, .int (x5 + 1)), (0, .ref 149), (1, .int x1), (3, .int x3), (4, .int x4), (6, .int x6)]) 225 rfl dX12_ghost_222 rfl rfl (Nat.le_of_ble_eq_true rfl) rfl ?_
      refine E_goto 156 (by decide) dX12_ghost_225 ?_
      refine E_sub (lv' := [(0, .ref 149), (1, .int x1), (3, .int x3), (4, .int x4), (5, .int (x5 + 1))]) [1, 2, 3, 4, 0] rfl ?_
      exact hk156 x1 x3 x4 (x5 + 1) I L _ h
    · rw [if_neg c1] at h
      refine E_aload_n 176 rfl dX12_ghost_175 rfl 0 rfl ?_
      refine E_iload 178 rfl dX12_ghost_176 4 rfl ?_
      refine E_iload 180 rfl dX12_ghost_178 5 rfl ?_
      obtain ⟨v2, hv2, h⟩ := Option.bind_eq_some_iff.mp h
      refine E_cV1 (As := [.int x5, .int x6]) 183 rfl dX12_ghost_180 shc_149 ck_X12_357 cv_X12_isGhost rfl (by decide) (Nat.le_of_ble_eq_true rfl) (C_X12_isGhost (g := g) hv2) rfl ?_
      refine E_if_neB 189 186 (by decide) rfl dX12_ghost_183 (fun c3 => ?_) (fun c3 => ?_)
      · rw [if_pos c3] at h
        refine E_iload 191 rfl dX12_ghost_189 3 rfl ?_
        refine E_if_ge 209 194 (by decide) rfl dX12_ghost_191 (fun c4 => ?_) (fun c4 => ?_)
        · rw [if_pos c4] at h
          refine E_iload 211 rfl dX12_ghost_209 3 rfl ?_
          refine E_sub (lv' := [(0, .ref 149), (1, .int x1), (3, .int x3), (5, .int x5), (6, .int x6)]) [0, 1, 2, 4, 5] rfl ?_
          exact S_X12_ghost_211 ih x1 x3 x5 x6 x4 I L _ h
        · rw [if_neg c4] at h
          refine E_iload_n 195 rfl dX12_ghost_194 rfl 1 rfl ?_
          refine E_iconst (v := 1) 196 rfl dX12_ghost_195 (by decide) ?_
          refine E_icmp_ne 204 199 (by decide) rfl dX12_ghost_196 (fun c5 => ?_) (fun c5 => ?_)
          · rw [if_neg c5] at h
            refine E_iload 206 rfl dX12_ghost_204 5 rfl ?_
            refine E_goto 211 (by decide) dX12_ghost_206 ?_
            refine E_sub (lv' := [(0, .ref 149), (1, .int x1), (3, .int x3), (5, .int x5), (6, .int x6)]) [0, 1, 2, 4, 5] rfl ?_
            exact S_X12_ghost_211 ih x1 x3 x5 x6 x6 I L _ h
          · rw [if_pos c5] at h
            refine E_iload 201 rfl dX12_ghost_199 4 rfl ?_
            refine E_goto 211 (by decide) dX12_ghost_201 ?_
            refine E_sub (lv' := [(0, .ref 149), (1, .int x1), (3, .int x3), (5, .int x5), (6, .int x6)]) [0, 1, 2, 4, 5] rfl ?_
            exact S_X12_ghost_211 ih x1 x3 x5 x6 x5 I L _ h
      · rw [if_neg (by rw [c3]; decide)] at h
        refine E_goto 216 (by decide) dX12_ghost_186 ?_
        refine E_sub (lv' := [(0, .ref 149), (1, .int x1), (3, .int x3), (4, .int x4), (5, .int x5), (6, .int x6)]) [0, 1, 2, 3, 4, 5] rfl ?_
        exact S_X12_ghost_216 ih x1 x3 x4 x5 x6 I L _ h
def f_X12_ghost_156 : Nat → Int32 → Int32 → Int32 → Int32 → MI → ML → Option (Int32 × MI × ML)
  | 0, _, _, _, _, _, _ => none
  | n + 1, x1, x3, x4, x5, I, L => Option.bind (f_X12_rooms I L) fun v1 => if v1 ≤ x5 then (if x1 = 0 then (f_X12_ghost_238 x3 I L) else (f_X12_ghost_238 x4 I L)) else (f_X12_ghost_168 (f_X12_ghost_156 n) FU x1 x3 x4 x5 1 I L)
set_option maxRecDepth 100000 in
theorem S_X12_ghost_156 {g : Gx} : ∀ (n : Nat) (x1 : Int32) (x3 : Int32) (x4 : Int32) (x5 : Int32) (I : MI) (L : ML) (res : Int32 × MI × ML), f_X12_ghost_156 n x1 x3 x4 x5 I L = some res → E g 5 0 mX12_ghost 156 [(0, .ref 149), (1, .int x1), (3, .int x3), (4, .int x4), (5, .int x5)] [] (I, L) (.inl (some (.int res.1))) (res.2.1, res.2.2) := by
  intro n
  induction n with
  | zero =>
    intros
    rename_i h
    cases h
  | succ n ih =>
    intro x1 x3 x4 x5 I L res h
    rw [f_X12_ghost_156] at h
    refine E_iload 158 rfl dX12_ghost_156 4 rfl ?_
    refine E_aload_n 159 rfl dX12_ghost_158 rfl 0 rfl ?_
    obtain ⟨v1, hv1, h⟩ := Option.bind_eq_some_iff.mp h
    refine E_cV1 (As := []) 162 rfl dX12_ghost_159 shc_149 ck_X12_56 cv_X12_rooms rfl (by decide) (Nat.le_of_ble_eq_true rfl) (C_X12_rooms (g := g) hv1) rfl ?_
    refine E_icmp_ge 228 165 (by decide) rfl dX12_ghost_162 (fun c2 => ?_) (fun c2 => ?_)
    · rw [if_pos c2] at h
      refine E_iload_n 229 rfl dX12_ghost_228 rfl 1 rfl ?_
      refine E_if_ne 236 232 (by decide) rfl dX12_ghost_229 (fun c3 => ?_) (fun c3 => ?_)
      · rw [if_neg c3] at h
        refine E_iload 238 rfl dX12_ghost_236 3 rfl ?_
        refine E_sub (lv' := []) [] rfl ?_
        exact S_X12_ghost_238 x4 I L _ h
      · rw [if_pos c3] at h
        refine E_iload_n 233 rfl dX12_ghost_232 rfl 2 rfl ?_
        refine E_goto 238 (by decide) dX12_ghost_233 ?_
        refine E_sub (lv' := []) [] rfl ?_
        exact S_X12_ghost_238 x3 I L _ h
    · rw [if_neg c2] at h
      refine E_iconst (v := 1) 166 rfl dX12_ghost_165 (by decide) ?_
      refine E_istore (lv' := [(6, .int 1), (0, .ref 149), (1, .int x1), (3, .int x3), (4, .int x4), (5, .int x5)]) 168 rfl dX12_ghost_166 (Nat.le_of_ble_eq_true rfl) rfl ?_
      refine E_sub (lv' := [(0, .ref 149), (1, .int x1), (3, .int x3), (4, .int x4), (5, .int x5), (6, .int 1)]) [1, 2, 3, 4, 5, 0] rfl ?_
      exact S_X12_ghost_168 ih FU x1 x3 x4 x5 1 I L _ h
def f_X12_ghost_135 (x1 : Int32) (y1 : Bool) (I : MI) (L : ML) : Option (Int32 × MI × ML) := Option.bind (f_X12_throwsIf y1 2 I L) fun w1 => if w1.1 = true then (some (0, w1.2.1, w1.2.2)) else (Option.bind (f_X12_spreads w1.2.1 w1.2.2) fun w3 => f_X12_ghost_156 FU x1 0 ((-1)) 0 w3.1 w3.2)
set_option maxRecDepth 100000 in
theorem S_X12_ghost_135 {g : Gx} (x1 : Int32) (y1 : Bool) (I : MI) (L : ML) (res : Int32 × MI × ML) (h : f_X12_ghost_135 x1 y1 I L = some res) : E g 5 0 mX12_ghost 135 [(0, .ref 149), (1, .int x1)] [.int (bI y1), .ref 149] (I, L) (.inl (some (.int res.1))) (res.2.1, res.2.2) := by
  unfold f_X12_ghost_135 at h
  refine E_iconst (v := 2) 136 rfl dX12_ghost_135 (by decide) ?_
  obtain ⟨w1, hw1, h⟩ := Option.bind_eq_some_iff.mp h
  refine E_cV1 (As := [.int (bI y1), .int 2]) 139 rfl dX12_ghost_136 shc_149 ck_X12_245 cv_X12_throwsIf rfl (by decide) (Nat.le_of_ble_eq_true rfl) (C_X12_throwsIf (g := g) hw1) rfl ?_
  refine E_if_eqB 144 142 (by decide) rfl dX12_ghost_139 (fun c2 => ?_) (fun c2 => ?_)
  · rw [if_neg (by rw [c2]; decide)] at h
    refine E_aload_n 145 rfl dX12_ghost_144 rfl 0 rfl ?_
    obtain ⟨w3, hw3, h⟩ := Option.bind_eq_some_iff.mp h
    refine E_cV0 (As := []) 148 rfl dX12_ghost_145 shc_149 ck_X12_298 cv_X12_spreads rfl (by decide) (Nat.le_of_ble_eq_true rfl) (C_X12_spreads (g := g) hw3) rfl ?_
    refine E_iconst (v := 0) 149 rfl dX12_ghost_148 (by decide) ?_
    refine E_istore_n (lv' := [(3, .int 0), (0, .ref 149), (1, .int x1)]) 150 rfl dX12_ghost_149 rfl (Nat.le_of_ble_eq_true rfl) rfl ?_
    refine E_iconst (v := (-1)) 151 rfl dX12_ghost_150 (by decide) ?_
    refine E_istore (lv' := [(4, .int ((-1))), (3, .int 0), (0, .ref 149), (1, .int x1)]) 153 rfl dX12_ghost_151 (Nat.le_of_ble_eq_true rfl) rfl ?_
    refine E_iconst (v := 0) 154 rfl dX12_ghost_153 (by decide) ?_
    refine E_istore (lv' := [(5, .int 0), (4, .int ((-1))), (3, .int 0), (0, .ref 149), (1, .int x1)]) 156 rfl dX12_ghost_154 (Nat.le_of_ble_eq_true rfl) rfl ?_
    refine E_sub (lv' := [(0, .ref 149), (1, .int x1), (3, .int 0), (4, .int ((-1))), (5, .int 0)]) [3, 4, 2, 1, 0] rfl ?_
    exact S_X12_ghost_156 FU x1 0 ((-1)) 0 w3.1 w3.2 _ h
  · rw [if_pos c2] at h
    refine E_iconst (v := 0) 143 rfl dX12_ghost_142 (by decide) ?_
    cases h
    exact E_iret rfl dX12_ghost_143
def f_X12_ghost_118 (k61 : Int32 → Bool → Int32 → MI → ML → Option (Int32 × MI × ML)) (x1 : Int32) (x3 : Int32) (y0 : Bool) (I : MI) (L : ML) : Option (Int32 × MI × ML) := k61 x1 y0 (x3 + 1) I L
set_option maxRecDepth 100000 in
theorem S_X12_ghost_118 {g : Gx} {k61 : Int32 → Bool → Int32 → MI → ML → Option (Int32 × MI × ML)} (hk61 : ∀ (x1z : Int32) (x2z : Bool) (x3z : Int32) (I : MI) (L : ML) (res : Int32 × MI × ML), k61 x1z x2z x3z I L = some res → E g 5 0 mX12_ghost 61 [(0, .ref 149), (1, .int x1z), (2, .int (bI x2z)), (3, .int x3z)] [] (I, L) (.inl (some (.int res.1))) (res.2.1, res.2.2)) (x1 : Int32) (x3 : Int32) (y0 : Bool) (I : MI) (L : ML) (res : Int32 × MI × ML) (h : f_X12_ghost_118 k61 x1 x3 y0 I L = some res) : E g 5 0 mX12_ghost 118 [(0, .ref 149), (1, .int x1), (3, .int x3)] [.int (bI y0)] (I, L) (.inl (some (.int res.1))) (res.2.1, res.2.2) := by
  unfold f_X12_ghost_118 at h
  refine E_istore_n (lv' := [(2, .int (bI y0)), (0, .ref 149), (1, .int x1), (3, .int x3)]) 119 rfl dX12_ghost_118 rfl (Nat.le_of_ble_eq_true rfl) rfl ?_
  refine E_iinc (j := 3) (v := x3 + 1) (lv' := [(3, .int (x3 + 1)), (2, .int (bI y0)), (0, .ref 149), (1, .int x1)]) 122 rfl dX12_ghost_119 rfl rfl (Nat.le_of_ble_eq_true rfl) rfl ?_
  refine E_goto 61 (by decide) dX12_ghost_122 ?_
  refine E_sub (lv' := [(0, .ref 149), (1, .int x1), (2, .int (bI y0)), (3, .int (x3 + 1))]) [2, 3, 1, 0] rfl ?_
  exact hk61 x1 y0 (x3 + 1) I L _ h
def f_X12_ghost_117 (k61 : Int32 → Bool → Int32 → MI → ML → Option (Int32 × MI × ML)) (x1 : Int32) (x3 : Int32) (I : MI) (L : ML) : Option (Int32 × MI × ML) := f_X12_ghost_118 k61 x1 x3 false I L
set_option maxRecDepth 100000 in
theorem S_X12_ghost_117 {g : Gx} {k61 : Int32 → Bool → Int32 → MI → ML → Option (Int32 × MI × ML)} (hk61 : ∀ (x1z : Int32) (x2z : Bool) (x3z : Int32) (I : MI) (L : ML) (res : Int32 × MI × ML), k61 x1z x2z x3z I L = some res → E g 5 0 mX12_ghost 61 [(0, .ref 149), (1, .int x1z), (2, .int (bI x2z)), (3, .int x3z)] [] (I, L) (.inl (some (.int res.1))) (res.2.1, res.2.2)) (x1 : Int32) (x3 : Int32) (I : MI) (L : ML) (res : Int32 × MI × ML) (h : f_X12_ghost_117 k61 x1 x3 I L = some res) : E g 5 0 mX12_ghost 117 [(0, .ref 149), (1, .int x1), (3, .int x3)] [] (I, L) (.inl (some (.int res.1))) (res.2.1, res.2.2) := by
  unfold f_X12_ghost_117 at h
  refine E_iconst (v := 0) 118 rfl dX12_ghost_117 (by decide) ?_
  refine E_sub (lv' := [(0, .ref 149), (1, .int x1), (3, .int x3)]) [0, 1, 2] rfl ?_
  exact S_X12_ghost_118 hk61 x1 x3 false I L _ h
def f_X12_ghost_113 (k61 : Int32 → Bool → Int32 → MI → ML → Option (Int32 × MI × ML)) (x1 : Int32) (x3 : Int32) (I : MI) (L : ML) : Option (Int32 × MI × ML) := f_X12_ghost_118 k61 x1 x3 true I L
set_option maxRecDepth 100000 in
theorem S_X12_ghost_113 {g : Gx} {k61 : Int32 → Bool → Int32 → MI → ML → Option (Int32 × MI × ML)} (hk61 : ∀ (x1z : Int32) (x2z : Bool) (x3z : Int32) (I : MI) (L : ML) (res : Int32 × MI × ML), k61 x1z x2z x3z I L = some res → E g 5 0 mX12_ghost 61 [(0, .ref 149), (1, .int x1z), (2, .int (bI x2z)), (3, .int x3z)] [] (I, L) (.inl (some (.int res.1))) (res.2.1, res.2.2)) (x1 : Int32) (x3 : Int32) (I : MI) (L : ML) (res : Int32 × MI × ML) (h : f_X12_ghost_113 k61 x1 x3 I L = some res) : E g 5 0 mX12_ghost 113 [(0, .ref 149), (1, .int x1), (3, .int x3)] [] (I, L) (.inl (some (.int res.1))) (res.2.1, res.2.2) := by
  unfold f_X12_ghost_113 at h
  refine E_iconst (v := 1) 114 rfl dX12_ghost_113 (by decide) ?_
  refine E_goto 118 (by decide) dX12_ghost_114 ?_
  refine E_sub (lv' := [(0, .ref 149), (1, .int x1), (3, .int x3)]) [0, 1, 2] rfl ?_
  exact S_X12_ghost_118 hk61 x1 x3 true I L _ h
def f_X12_ghost_61 : Nat → Int32 → Bool → Int32 → MI → ML → Option (Int32 × MI × ML)
  | 0, _, _, _, _, _ => none
  | n + 1, x1, x2, x3, I, L => if (I 149 10) ≤ x3 then (if x2 = true then (f_X12_ghost_135 x1 false I L) else (f_X12_ghost_135 x1 true I L)) else (if x2 = true then (if (x3 - x3 / 2 * 2) = 0 then (Option.bind (ldI I 154 400 x3) fun v9 => Option.bind (f_X12_noRoom (v9 - 97) I L) fun v10 => if v10 = true then (f_X12_ghost_117 (f_X12_ghost_61 n) x1 x3 I L) else (f_X12_ghost_113 (f_X12_ghost_61 n) x1 x3 I L)) else (Option.bind (ldI I 154 400 x3) fun v6 => Option.bind (f_X12_in v6 0 99 I L) fun v7 => if v7 = true then (f_X12_ghost_113 (f_X12_ghost_61 n) x1 x3 I L) else (f_X12_ghost_117 (f_X12_ghost_61 n) x1 x3 I L))) else (f_X12_ghost_117 (f_X12_ghost_61 n) x1 x3 I L))
set_option maxRecDepth 100000 in
theorem S_X12_ghost_61 {g : Gx} : ∀ (n : Nat) (x1 : Int32) (x2 : Bool) (x3 : Int32) (I : MI) (L : ML) (res : Int32 × MI × ML), f_X12_ghost_61 n x1 x2 x3 I L = some res → E g 5 0 mX12_ghost 61 [(0, .ref 149), (1, .int x1), (2, .int (bI x2)), (3, .int x3)] [] (I, L) (.inl (some (.int res.1))) (res.2.1, res.2.2) := by
  intro n
  induction n with
  | zero =>
    intros
    rename_i h
    cases h
  | succ n ih =>
    intro x1 x2 x3 I L res h
    rw [f_X12_ghost_61] at h
    refine E_iload_n 62 rfl dX12_ghost_61 rfl 3 rfl ?_
    refine E_aload_n 63 rfl dX12_ghost_62 rfl 0 rfl ?_
    refine E_gI 66 rfl dX12_ghost_63 shc_149 fl_X12_76 rfl ?_
    refine E_icmp_ge 125 69 (by decide) rfl dX12_ghost_66 (fun c1 => ?_) (fun c1 => ?_)
    · rw [if_pos c1] at h
      refine E_aload_n 126 rfl dX12_ghost_125 rfl 0 rfl ?_
      refine E_iload_n 127 rfl dX12_ghost_126 rfl 2 rfl ?_
      refine E_if_neB 134 130 (by decide) rfl dX12_ghost_127 (fun c2 => ?_) (fun c2 => ?_)
      · rw [if_pos c2] at h
        refine E_iconst (v := 0) 135 rfl dX12_ghost_134 (by decide) ?_
        refine E_sub (lv' := [(0, .ref 149), (1, .int x1)]) [0, 1] rfl ?_
        exact S_X12_ghost_135 x1 false I L _ h
      · rw [if_neg (by rw [c2]; decide)] at h
        refine E_iconst (v := 1) 131 rfl dX12_ghost_130 (by decide) ?_
        refine E_goto 135 (by decide) dX12_ghost_131 ?_
        refine E_sub (lv' := [(0, .ref 149), (1, .int x1)]) [0, 1] rfl ?_
        exact S_X12_ghost_135 x1 true I L _ h
    · rw [if_neg c1] at h
      refine E_iload_n 70 rfl dX12_ghost_69 rfl 2 rfl ?_
      refine E_if_eqB 117 73 (by decide) rfl dX12_ghost_70 (fun c3 => ?_) (fun c3 => ?_)
      · rw [if_neg (by rw [c3]; decide)] at h
        refine E_sub (lv' := [(0, .ref 149), (1, .int x1), (3, .int x3)]) [0, 1, 3] rfl ?_
        exact S_X12_ghost_117 ih x1 x3 I L _ h
      · rw [if_pos c3] at h
        refine E_iload_n 74 rfl dX12_ghost_73 rfl 3 rfl ?_
        refine E_iconst (v := 2) 75 rfl dX12_ghost_74 (by decide) ?_
        refine E_irem 76 rfl dX12_ghost_75 (by decide) ?_
        refine E_if_ne 98 79 (by decide) rfl dX12_ghost_76 (fun c5 => ?_) (fun c5 => ?_)
        · rw [if_neg c5] at h
          refine E_aload_n 99 rfl dX12_ghost_98 rfl 0 rfl ?_
          refine E_gR 154 102 rfl dX12_ghost_99 shc_149 fl_X12_26 rfl (by decide) (by decide) ?_
          refine E_iload_n 103 rfl dX12_ghost_102 rfl 3 rfl ?_
          obtain ⟨v6, hv6, h⟩ := Option.bind_eq_some_iff.mp h
          refine E_ldB 104 rfl dX12_ghost_103 shc_154 hv6 ?_
          refine E_iconst (v := 0) 105 rfl dX12_ghost_104 (by decide) ?_
          refine E_bipush (v := 99) 107 rfl dX12_ghost_105 (by decide) ?_
          obtain ⟨v7, hv7, h⟩ := Option.bind_eq_some_iff.mp h
          refine E_cS1 (As := [.int v6, .int 0, .int 99]) 110 rfl dX12_ghost_107 ck_X12_60 ss_X12_in rfl (by decide) (Nat.le_of_ble_eq_true rfl) (C_X12_in (g := g) hv7) rfl ?_
          refine E_if_eqB 117 113 (by decide) rfl dX12_ghost_110 (fun c8 => ?_) (fun c8 => ?_)
          · rw [if_neg (by rw [c8]; decide)] at h
            refine E_sub (lv' := [(0, .ref 149), (1, .int x1), (3, .int x3)]) [0, 1, 3] rfl ?_
            exact S_X12_ghost_117 ih x1 x3 I L _ h
          · rw [if_pos c8] at h
            refine E_sub (lv' := [(0, .ref 149), (1, .int x1), (3, .int x3)]) [0, 1, 3] rfl ?_
            exact S_X12_ghost_113 ih x1 x3 I L _ h
        · rw [if_pos c5] at h
          refine E_aload_n 80 rfl dX12_ghost_79 rfl 0 rfl ?_
          refine E_aload_n 81 rfl dX12_ghost_80 rfl 0 rfl ?_
          refine E_gR 154 84 rfl dX12_ghost_81 shc_149 fl_X12_26 rfl (by decide) (by decide) ?_
          refine E_iload_n 85 rfl dX12_ghost_84 rfl 3 rfl ?_
          obtain ⟨v9, hv9, h⟩ := Option.bind_eq_some_iff.mp h
          refine E_ldB 86 rfl dX12_ghost_85 shc_154 hv9 ?_
          refine E_bipush (v := 97) 88 rfl dX12_ghost_86 (by decide) ?_
          refine E_isub 89 rfl dX12_ghost_88 ?_
          obtain ⟨v10, hv10, h⟩ := Option.bind_eq_some_iff.mp h
          refine E_cV1 (As := [.int (v9 - 97)]) 92 rfl dX12_ghost_89 shc_149 ck_X12_292 cv_X12_noRoom rfl (by decide) (Nat.le_of_ble_eq_true rfl) (C_X12_noRoom (g := g) hv10) rfl ?_
          refine E_if_neB 117 95 (by decide) rfl dX12_ghost_92 (fun c11 => ?_) (fun c11 => ?_)
          · rw [if_pos c11] at h
            refine E_sub (lv' := [(0, .ref 149), (1, .int x1), (3, .int x3)]) [0, 1, 3] rfl ?_
            exact S_X12_ghost_117 ih x1 x3 I L _ h
          · rw [if_neg (by rw [c11]; decide)] at h
            refine E_goto 113 (by decide) dX12_ghost_95 ?_
            refine E_sub (lv' := [(0, .ref 149), (1, .int x1), (3, .int x3)]) [0, 1, 3] rfl ?_
            exact S_X12_ghost_113 ih x1 x3 I L _ h
def f_X12_ghost_58 (x1 : Int32) (y0 : Bool) (I : MI) (L : ML) : Option (Int32 × MI × ML) := f_X12_ghost_61 FU x1 y0 0 I L
set_option maxRecDepth 100000 in
theorem S_X12_ghost_58 {g : Gx} (x1 : Int32) (y0 : Bool) (I : MI) (L : ML) (res : Int32 × MI × ML) (h : f_X12_ghost_58 x1 y0 I L = some res) : E g 5 0 mX12_ghost 58 [(0, .ref 149), (1, .int x1)] [.int (bI y0)] (I, L) (.inl (some (.int res.1))) (res.2.1, res.2.2) := by
  unfold f_X12_ghost_58 at h
  refine E_istore_n (lv' := [(2, .int (bI y0)), (0, .ref 149), (1, .int x1)]) 59 rfl dX12_ghost_58 rfl (Nat.le_of_ble_eq_true rfl) rfl ?_
  refine E_iconst (v := 0) 60 rfl dX12_ghost_59 (by decide) ?_
  refine E_istore_n (lv' := [(3, .int 0), (2, .int (bI y0)), (0, .ref 149), (1, .int x1)]) 61 rfl dX12_ghost_60 rfl (Nat.le_of_ble_eq_true rfl) rfl ?_
  refine E_sub (lv' := [(0, .ref 149), (1, .int x1), (2, .int (bI y0)), (3, .int 0)]) [2, 3, 1, 0] rfl ?_
  exact S_X12_ghost_61 FU x1 y0 0 I L _ h
def f_X12_ghost_57 (x1 : Int32) (I : MI) (L : ML) : Option (Int32 × MI × ML) := f_X12_ghost_58 x1 false I L
set_option maxRecDepth 100000 in
theorem S_X12_ghost_57 {g : Gx} (x1 : Int32) (I : MI) (L : ML) (res : Int32 × MI × ML) (h : f_X12_ghost_57 x1 I L = some res) : E g 5 0 mX12_ghost 57 [(0, .ref 149), (1, .int x1)] [] (I, L) (.inl (some (.int res.1))) (res.2.1, res.2.2) := by
  unfold f_X12_ghost_57 at h
  refine E_iconst (v := 0) 58 rfl dX12_ghost_57 (by decide) ?_
  refine E_sub (lv' := [(0, .ref 149), (1, .int x1)]) [0, 1] rfl ?_
  exact S_X12_ghost_58 x1 false I L _ h
def f_X12_ghost_19 (x1 : Int32) (y1 : Bool) (I : MI) (L : ML) : Option (Int32 × MI × ML) := Option.bind (f_X12_throwsIf y1 1 I L) fun w1 => if w1.1 = true then (some (0, w1.2.1, w1.2.2)) else (if (w1.2.1 149 10) ≤ 0 then (f_X12_ghost_57 x1 w1.2.1 w1.2.2) else (if ((w1.2.1 149 10) - (w1.2.1 149 10) / 2 * 2) = 0 then (if 12 < (w1.2.1 149 10) then (f_X12_ghost_57 x1 w1.2.1 w1.2.2) else (f_X12_ghost_58 x1 true w1.2.1 w1.2.2)) else (f_X12_ghost_57 x1 w1.2.1 w1.2.2)))
set_option maxRecDepth 100000 in
theorem S_X12_ghost_19 {g : Gx} (x1 : Int32) (y1 : Bool) (I : MI) (L : ML) (res : Int32 × MI × ML) (h : f_X12_ghost_19 x1 y1 I L = some res) : E g 5 0 mX12_ghost 19 [(0, .ref 149), (1, .int x1)] [.int (bI y1), .ref 149] (I, L) (.inl (some (.int res.1))) (res.2.1, res.2.2) := by
  unfold f_X12_ghost_19 at h
  refine E_iconst (v := 1) 20 rfl dX12_ghost_19 (by decide) ?_
  obtain ⟨w1, hw1, h⟩ := Option.bind_eq_some_iff.mp h
  refine E_cV1 (As := [.int (bI y1), .int 1]) 23 rfl dX12_ghost_20 shc_149 ck_X12_245 cv_X12_throwsIf rfl (by decide) (Nat.le_of_ble_eq_true rfl) (C_X12_throwsIf (g := g) hw1) rfl ?_
  refine E_if_eqB 28 26 (by decide) rfl dX12_ghost_23 (fun c2 => ?_) (fun c2 => ?_)
  · rw [if_neg (by rw [c2]; decide)] at h
    refine E_aload_n 29 rfl dX12_ghost_28 rfl 0 rfl ?_
    refine E_gI 32 rfl dX12_ghost_29 shc_149 fl_X12_76 rfl ?_
    refine E_if_le 57 35 (by decide) rfl dX12_ghost_32 (fun c3 => ?_) (fun c3 => ?_)
    · rw [if_pos c3] at h
      refine E_sub (lv' := [(0, .ref 149), (1, .int x1)]) [0, 1] rfl ?_
      exact S_X12_ghost_57 x1 w1.2.1 w1.2.2 _ h
    · rw [if_neg c3] at h
      refine E_aload_n 36 rfl dX12_ghost_35 rfl 0 rfl ?_
      refine E_gI 39 rfl dX12_ghost_36 shc_149 fl_X12_76 rfl ?_
      refine E_iconst (v := 2) 40 rfl dX12_ghost_39 (by decide) ?_
      refine E_irem 41 rfl dX12_ghost_40 (by decide) ?_
      refine E_if_ne 57 44 (by decide) rfl dX12_ghost_41 (fun c5 => ?_) (fun c5 => ?_)
      · rw [if_neg c5] at h
        refine E_sub (lv' := [(0, .ref 149), (1, .int x1)]) [0, 1] rfl ?_
        exact S_X12_ghost_57 x1 w1.2.1 w1.2.2 _ h
      · rw [if_pos c5] at h
        refine E_aload_n 45 rfl dX12_ghost_44 rfl 0 rfl ?_
        refine E_gI 48 rfl dX12_ghost_45 shc_149 fl_X12_76 rfl ?_
        refine E_bipush (v := 12) 50 rfl dX12_ghost_48 (by decide) ?_
        refine E_icmp_gt 57 53 (by decide) rfl dX12_ghost_50 (fun c6 => ?_) (fun c6 => ?_)
        · rw [if_pos c6] at h
          refine E_sub (lv' := [(0, .ref 149), (1, .int x1)]) [0, 1] rfl ?_
          exact S_X12_ghost_57 x1 w1.2.1 w1.2.2 _ h
        · rw [if_neg c6] at h
          refine E_iconst (v := 1) 54 rfl dX12_ghost_53 (by decide) ?_
          refine E_goto 58 (by decide) dX12_ghost_54 ?_
          refine E_sub (lv' := [(0, .ref 149), (1, .int x1)]) [0, 1] rfl ?_
          exact S_X12_ghost_58 x1 true w1.2.1 w1.2.2 _ h
  · rw [if_pos c2] at h
    refine E_iconst (v := 0) 27 rfl dX12_ghost_26 (by decide) ?_
    cases h
    exact E_iret rfl dX12_ghost_27
def f_X12_ghost (x1 : Int32) (I : MI) (L : ML) : Option (Int32 × MI × ML) := Option.bind (f_X12_uses I L) fun w1 => Option.bind (f_X12_in x1 0 2 w1.1 w1.2) fun v2 => if v2 = true then (f_X12_ghost_19 x1 false w1.1 w1.2) else (f_X12_ghost_19 x1 true w1.1 w1.2)
set_option maxRecDepth 100000 in
theorem S_X12_ghost {g : Gx} (x1 : Int32) (I : MI) (L : ML) (res : Int32 × MI × ML) (h : f_X12_ghost x1 I L = some res) : E g 5 0 mX12_ghost 0 [(0, .ref 149), (1, .int x1)] [] (I, L) (.inl (some (.int res.1))) (res.2.1, res.2.2) := by
  unfold f_X12_ghost at h
  refine E_aload_n 1 rfl dX12_ghost_0 rfl 0 rfl ?_
  obtain ⟨w1, hw1, h⟩ := Option.bind_eq_some_iff.mp h
  refine E_cV0 (As := []) 4 rfl dX12_ghost_1 shc_149 ck_X12_234 cv_X12_uses rfl (by decide) (Nat.le_of_ble_eq_true rfl) (C_X12_uses (g := g) hw1) rfl ?_
  refine E_aload_n 5 rfl dX12_ghost_4 rfl 0 rfl ?_
  refine E_iload_n 6 rfl dX12_ghost_5 rfl 1 rfl ?_
  refine E_iconst (v := 0) 7 rfl dX12_ghost_6 (by decide) ?_
  refine E_iconst (v := 2) 8 rfl dX12_ghost_7 (by decide) ?_
  obtain ⟨v2, hv2, h⟩ := Option.bind_eq_some_iff.mp h
  refine E_cS1 (As := [.int x1, .int 0, .int 2]) 11 rfl dX12_ghost_8 ck_X12_60 ss_X12_in rfl (by decide) (Nat.le_of_ble_eq_true rfl) (C_X12_in (g := g) hv2) rfl ?_
  refine E_if_neB 18 14 (by decide) rfl dX12_ghost_11 (fun c3 => ?_) (fun c3 => ?_)
  · rw [if_pos c3] at h
    refine E_iconst (v := 0) 19 rfl dX12_ghost_18 (by decide) ?_
    refine E_sub (lv' := [(0, .ref 149), (1, .int x1)]) [0, 1] rfl ?_
    exact S_X12_ghost_19 x1 false w1.1 w1.2 _ h
  · rw [if_neg (by rw [c3]; decide)] at h
    refine E_iconst (v := 1) 15 rfl dX12_ghost_14 (by decide) ?_
    refine E_goto 19 (by decide) dX12_ghost_15 ?_
    refine E_sub (lv' := [(0, .ref 149), (1, .int x1)]) [0, 1] rfl ?_
    exact S_X12_ghost_19 x1 true w1.1 w1.2 _ h
theorem C_X12_ghost {g : Gx} {x1 : Int32} {I : MI} {L : ML} {res : Int32 × MI × ML} (h : f_X12_ghost x1 I L = some res) : Ent g 5 0 mX12_ghost [.ref 149, .int x1] (I, L) (.inl (some (.int res.1))) (res.2.1, res.2.2) := Ent_of (by decide +kernel) (Nat.le_of_ble_eq_true rfl) (S_X12_ghost x1 I L _ h)
def f_X12_dueOfAll_9 : Nat → Int32 → Int64 → Int32 → MI → ML → Option (Int64 × MI × ML)
  | 0, _, _, _, _, _ => none
  | n + 1, x1, x2, x4, I, L => Option.bind (f_X12_noises I L) fun v1 => if v1 ≤ x4 then (some (x2, I, L)) else (Option.bind (f_X12_dueOf x4 x1 I L) fun v3 => f_X12_dueOfAll_9 n x1 (x2 + v3) (x4 + 1) I L)
set_option maxRecDepth 100000 in
theorem S_X12_dueOfAll_9 {g : Gx} : ∀ (n : Nat) (x1 : Int32) (x2 : Int64) (x4 : Int32) (I : MI) (L : ML) (res : Int64 × MI × ML), f_X12_dueOfAll_9 n x1 x2 x4 I L = some res → E g 8 0 mX12_dueOfAll 9 [(0, .ref 149), (1, .int x1), (2, .long x2), (4, .int x4)] [] (I, L) (.inl (some (.long res.1))) (res.2.1, res.2.2) := by
  intro n
  induction n with
  | zero =>
    intros
    rename_i h
    cases h
  | succ n ih =>
    intro x1 x2 x4 I L res h
    rw [f_X12_dueOfAll_9] at h
    refine E_iload 11 rfl dX12_dueOfAll_9 3 rfl ?_
    refine E_aload_n 12 rfl dX12_dueOfAll_11 rfl 0 rfl ?_
    obtain ⟨v1, hv1, h⟩ := Option.bind_eq_some_iff.mp h
    refine E_cV1 (As := []) 15 rfl dX12_dueOfAll_12 shc_149 ck_X12_67 cv_X12_noises rfl (by decide) (Nat.le_of_ble_eq_true rfl) (C_X12_noises (g := g) hv1) rfl ?_
    refine E_icmp_ge 34 18 (by decide) rfl dX12_dueOfAll_15 (fun c2 => ?_) (fun c2 => ?_)
    · rw [if_pos c2] at h
      refine E_lload_n 35 rfl dX12_dueOfAll_34 rfl 2 rfl ?_
      cases h
      exact E_lret rfl dX12_dueOfAll_35
    · rw [if_neg c2] at h
      refine E_lload_n 19 rfl dX12_dueOfAll_18 rfl 2 rfl ?_
      refine E_aload_n 20 rfl dX12_dueOfAll_19 rfl 0 rfl ?_
      refine E_iload 22 rfl dX12_dueOfAll_20 3 rfl ?_
      refine E_iload_n 23 rfl dX12_dueOfAll_22 rfl 1 rfl ?_
      obtain ⟨v3, hv3, h⟩ := Option.bind_eq_some_iff.mp h
      refine E_cV1 (As := [.int x4, .int x1]) 26 rfl dX12_dueOfAll_23 shc_149 ck_X12_351 cv_X12_dueOf rfl (by decide) (Nat.le_of_ble_eq_true rfl) (C_X12_dueOf (g := g) hv3) rfl ?_
      refine E_ladd 27 rfl dX12_dueOfAll_26 ?_
      refine E_lstore_n (lv' := [(2, .long (x2 + v3)), (0, .ref 149), (1, .int x1), (4, .int x4)]) 28 rfl dX12_dueOfAll_27 rfl (Nat.le_of_ble_eq_true rfl) rfl ?_
      refine E_iinc (j := 3) (v := x4 + 1) (lv' := [(4, .int (x4 + 1)), (2, .long (x2 + v3)), (0, .ref 149), (1, .int x1)]) 31 rfl dX12_dueOfAll_28 rfl rfl (Nat.le_of_ble_eq_true rfl) rfl ?_
      refine E_goto 9 (by decide) dX12_dueOfAll_31 ?_
      refine E_sub (lv' := [(0, .ref 149), (1, .int x1), (2, .long (x2 + v3)), (4, .int (x4 + 1))]) [2, 3, 1, 0] rfl ?_
      exact ih x1 (x2 + v3) (x4 + 1) I L _ h
def f_X12_dueOfAll (x1 : Int32) (I : MI) (L : ML) : Option (Int64 × MI × ML) := Option.bind (f_X12_spreads I L) fun w1 => f_X12_dueOfAll_9 FU x1 0 0 w1.1 w1.2
set_option maxRecDepth 100000 in
theorem S_X12_dueOfAll {g : Gx} (x1 : Int32) (I : MI) (L : ML) (res : Int64 × MI × ML) (h : f_X12_dueOfAll x1 I L = some res) : E g 8 0 mX12_dueOfAll 0 [(0, .ref 149), (1, .int x1)] [] (I, L) (.inl (some (.long res.1))) (res.2.1, res.2.2) := by
  unfold f_X12_dueOfAll at h
  refine E_aload_n 1 rfl dX12_dueOfAll_0 rfl 0 rfl ?_
  obtain ⟨w1, hw1, h⟩ := Option.bind_eq_some_iff.mp h
  refine E_cV0 (As := []) 4 rfl dX12_dueOfAll_1 shc_149 ck_X12_298 cv_X12_spreads rfl (by decide) (Nat.le_of_ble_eq_true rfl) (C_X12_spreads (g := g) hw1) rfl ?_
  refine E_lconst (v := 0) 5 rfl dX12_dueOfAll_4 (by decide) ?_
  refine E_lstore_n (lv' := [(2, .long 0), (0, .ref 149), (1, .int x1)]) 6 rfl dX12_dueOfAll_5 rfl (Nat.le_of_ble_eq_true rfl) rfl ?_
  refine E_iconst (v := 0) 7 rfl dX12_dueOfAll_6 (by decide) ?_
  refine E_istore (lv' := [(4, .int 0), (2, .long 0), (0, .ref 149), (1, .int x1)]) 9 rfl dX12_dueOfAll_7 (Nat.le_of_ble_eq_true rfl) rfl ?_
  refine E_sub (lv' := [(0, .ref 149), (1, .int x1), (2, .long 0), (4, .int 0)]) [2, 3, 1, 0] rfl ?_
  exact S_X12_dueOfAll_9 FU x1 0 0 w1.1 w1.2 _ h
theorem C_X12_dueOfAll {g : Gx} {x1 : Int32} {I : MI} {L : ML} {res : Int64 × MI × ML} (h : f_X12_dueOfAll x1 I L = some res) : Ent g 8 0 mX12_dueOfAll [.ref 149, .int x1] (I, L) (.inl (some (.long res.1))) (res.2.1, res.2.2) := Ent_of (by decide +kernel) (Nat.le_of_ble_eq_true rfl) (S_X12_dueOfAll x1 I L _ h)
def f_X12_breach_41 (I : MI) (L : ML) : Option (Int64 × MI × ML) := some (0, I, L)
set_option maxRecDepth 100000 in
theorem S_X12_breach_41 {g : Gx} (I : MI) (L : ML) (res : Int64 × MI × ML) (h : f_X12_breach_41 I L = some res) : E g 9 0 mX12_breach 41 [] [] (I, L) (.inl (some (.long res.1))) (res.2.1, res.2.2) := by
  unfold f_X12_breach_41 at h
  refine E_lconst (v := 0) 42 rfl dX12_breach_41 (by decide) ?_
  cases h
  exact E_lret rfl dX12_breach_42
def f_X12_breach_34 (x1 : Int32) (x2 : Int32) (y1 : Bool) (I : MI) (L : ML) : Option (Int64 × MI × ML) := Option.bind (f_X12_throwsIf y1 2 I L) fun w1 => if w1.1 = true then (f_X12_breach_41 w1.2.1 w1.2.2) else (Option.bind (ldI w1.2.1 150 2143 (15 + x1)) fun v3 => Option.bind (f_X12_dueOfAll 10 w1.2.1 w1.2.2) fun w4 => Option.bind (stI w4.2.1 150 2143 (15 + x1) x2) fun I5 => Option.bind (f_X12_dueOfAll 10 I5 w4.2.2) fun w6 => Option.bind (stI w6.2.1 150 2143 (15 + x1) v3) fun I7 => some (w4.1 - w6.1, I7, w6.2.2))
set_option maxRecDepth 100000 in
theorem S_X12_breach_34 {g : Gx} (x1 : Int32) (x2 : Int32) (y1 : Bool) (I : MI) (L : ML) (res : Int64 × MI × ML) (h : f_X12_breach_34 x1 x2 y1 I L = some res) : E g 9 0 mX12_breach 34 [(0, .ref 149), (1, .int x1), (2, .int x2)] [.int (bI y1), .ref 149] (I, L) (.inl (some (.long res.1))) (res.2.1, res.2.2) := by
  unfold f_X12_breach_34 at h
  refine E_iconst (v := 2) 35 rfl dX12_breach_34 (by decide) ?_
  obtain ⟨w1, hw1, h⟩ := Option.bind_eq_some_iff.mp h
  refine E_cV1 (As := [.int (bI y1), .int 2]) 38 rfl dX12_breach_35 shc_149 ck_X12_245 cv_X12_throwsIf rfl (by decide) (Nat.le_of_ble_eq_true rfl) (C_X12_throwsIf (g := g) hw1) rfl ?_
  refine E_if_eqB 43 41 (by decide) rfl dX12_breach_38 (fun c2 => ?_) (fun c2 => ?_)
  · rw [if_neg (by rw [c2]; decide)] at h
    refine E_aload_n 44 rfl dX12_breach_43 rfl 0 rfl ?_
    refine E_gR 150 47 rfl dX12_breach_44 shc_149 fl_X12_13 rfl (by decide) (by decide) ?_
    refine E_bipush (v := 15) 49 rfl dX12_breach_47 (by decide) ?_
    refine E_iload_n 50 rfl dX12_breach_49 rfl 1 rfl ?_
    refine E_iadd 51 rfl dX12_breach_50 ?_
    obtain ⟨v3, hv3, h⟩ := Option.bind_eq_some_iff.mp h
    refine E_ldI 52 rfl dX12_breach_51 shc_150 hv3 ?_
    refine E_istore_n (lv' := [(3, .int v3), (0, .ref 149), (1, .int x1), (2, .int x2)]) 53 rfl dX12_breach_52 rfl (Nat.le_of_ble_eq_true rfl) rfl ?_
    refine E_aload_n 54 rfl dX12_breach_53 rfl 1 rfl ?_
    refine E_bipush (v := 10) 56 rfl dX12_breach_54 (by decide) ?_
    obtain ⟨w4, hw4, h⟩ := Option.bind_eq_some_iff.mp h
    refine E_cV1 (As := [.int 10]) 59 rfl dX12_breach_56 shc_149 ck_X12_360 cv_X12_dueOfAll rfl (by decide) (Nat.le_of_ble_eq_true rfl) (C_X12_dueOfAll (g := g) hw4) rfl ?_
    refine E_lstore (lv' := [(4, .long w4.1), (3, .int v3), (0, .ref 149), (1, .int x1), (2, .int x2)]) 61 rfl dX12_breach_59 (Nat.le_of_ble_eq_true rfl) rfl ?_
    refine E_aload_n 62 rfl dX12_breach_61 rfl 2 rfl ?_
    refine E_gR 150 65 rfl dX12_breach_62 shc_149 fl_X12_13 rfl (by decide) (by decide) ?_
    refine E_bipush (v := 15) 67 rfl dX12_breach_65 (by decide) ?_
    refine E_iload_n 68 rfl dX12_breach_67 rfl 3 rfl ?_
    refine E_iadd 69 rfl dX12_breach_68 ?_
    refine E_iload_n 70 rfl dX12_breach_69 rfl 4 rfl ?_
    obtain ⟨I5, hI5, h⟩ := Option.bind_eq_some_iff.mp h
    refine E_stI 71 rfl dX12_breach_70 shc_150 hI5 ?_
    refine E_aload_n 72 rfl dX12_breach_71 rfl 2 rfl ?_
    refine E_bipush (v := 10) 74 rfl dX12_breach_72 (by decide) ?_
    obtain ⟨w6, hw6, h⟩ := Option.bind_eq_some_iff.mp h
    refine E_cV1 (As := [.int 10]) 77 rfl dX12_breach_74 shc_149 ck_X12_360 cv_X12_dueOfAll rfl (by decide) (Nat.le_of_ble_eq_true rfl) (C_X12_dueOfAll (g := g) hw6) rfl ?_
    refine E_lstore (lv' := [(6, .long w6.1), (4, .long w4.1), (3, .int v3), (0, .ref 149), (1, .int x1), (2, .int x2)]) 79 rfl dX12_breach_77 (Nat.le_of_ble_eq_true rfl) rfl ?_
    refine E_aload_n 80 rfl dX12_breach_79 rfl 3 rfl ?_
    refine E_gR 150 83 rfl dX12_breach_80 shc_149 fl_X12_13 rfl (by decide) (by decide) ?_
    refine E_bipush (v := 15) 85 rfl dX12_breach_83 (by decide) ?_
    refine E_iload_n 86 rfl dX12_breach_85 rfl 4 rfl ?_
    refine E_iadd 87 rfl dX12_breach_86 ?_
    refine E_iload_n 88 rfl dX12_breach_87 rfl 2 rfl ?_
    obtain ⟨I7, hI7, h⟩ := Option.bind_eq_some_iff.mp h
    refine E_stI 89 rfl dX12_breach_88 shc_150 hI7 ?_
    refine E_lload 91 rfl dX12_breach_89 1 rfl ?_
    refine E_lload 93 rfl dX12_breach_91 0 rfl ?_
    refine E_lsub 94 rfl dX12_breach_93 ?_
    cases h
    exact E_lret rfl dX12_breach_94
  · rw [if_pos c2] at h
    refine E_sub (lv' := []) [] rfl ?_
    exact S_X12_breach_41 w1.2.1 w1.2.2 _ h
def f_X12_breach (x1 : Int32) (x2 : Int32) (I : MI) (L : ML) : Option (Int64 × MI × ML) := Option.bind (pfI I 149 0 0) fun I1 => Option.bind (f_X12_noRoom x1 I1 L) fun v2 => Option.bind (f_X12_throwsIf v2 1 I1 L) fun w3 => if w3.1 = true then (f_X12_breach_41 w3.2.1 w3.2.2) else (Option.bind (f_X12_in x2 0 20 w3.2.1 w3.2.2) fun v5 => if v5 = true then (f_X12_breach_34 x1 x2 false w3.2.1 w3.2.2) else (f_X12_breach_34 x1 x2 true w3.2.1 w3.2.2))
set_option maxRecDepth 100000 in
theorem S_X12_breach {g : Gx} (x1 : Int32) (x2 : Int32) (I : MI) (L : ML) (res : Int64 × MI × ML) (h : f_X12_breach x1 x2 I L = some res) : E g 9 0 mX12_breach 0 [(0, .ref 149), (1, .int x1), (2, .int x2)] [] (I, L) (.inl (some (.long res.1))) (res.2.1, res.2.2) := by
  unfold f_X12_breach at h
  refine E_aload_n 1 rfl dX12_breach_0 rfl 0 rfl ?_
  refine E_iconst (v := 0) 2 rfl dX12_breach_1 (by decide) ?_
  obtain ⟨I1, hI1, h⟩ := Option.bind_eq_some_iff.mp h
  refine E_pfI 5 rfl dX12_breach_2 shc_149 fl_X12_3 rfl hI1 ?_
  refine E_aload_n 6 rfl dX12_breach_5 rfl 0 rfl ?_
  refine E_aload_n 7 rfl dX12_breach_6 rfl 0 rfl ?_
  refine E_iload_n 8 rfl dX12_breach_7 rfl 1 rfl ?_
  obtain ⟨v2, hv2, h⟩ := Option.bind_eq_some_iff.mp h
  refine E_cV1 (As := [.int x1]) 11 rfl dX12_breach_8 shc_149 ck_X12_292 cv_X12_noRoom rfl (by decide) (Nat.le_of_ble_eq_true rfl) (C_X12_noRoom (g := g) hv2) rfl ?_
  refine E_iconst (v := 1) 12 rfl dX12_breach_11 (by decide) ?_
  obtain ⟨w3, hw3, h⟩ := Option.bind_eq_some_iff.mp h
  refine E_cV1 (As := [.int (bI v2), .int 1]) 15 rfl dX12_breach_12 shc_149 ck_X12_245 cv_X12_throwsIf rfl (by decide) (Nat.le_of_ble_eq_true rfl) (C_X12_throwsIf (g := g) hw3) rfl ?_
  refine E_if_neB 41 18 (by decide) rfl dX12_breach_15 (fun c4 => ?_) (fun c4 => ?_)
  · rw [if_pos c4] at h
    refine E_sub (lv' := []) [] rfl ?_
    exact S_X12_breach_41 w3.2.1 w3.2.2 _ h
  · rw [if_neg (by rw [c4]; decide)] at h
    refine E_aload_n 19 rfl dX12_breach_18 rfl 0 rfl ?_
    refine E_iload_n 20 rfl dX12_breach_19 rfl 2 rfl ?_
    refine E_iconst (v := 0) 21 rfl dX12_breach_20 (by decide) ?_
    refine E_bipush (v := 20) 23 rfl dX12_breach_21 (by decide) ?_
    obtain ⟨v5, hv5, h⟩ := Option.bind_eq_some_iff.mp h
    refine E_cS1 (As := [.int x2, .int 0, .int 20]) 26 rfl dX12_breach_23 ck_X12_60 ss_X12_in rfl (by decide) (Nat.le_of_ble_eq_true rfl) (C_X12_in (g := g) hv5) rfl ?_
    refine E_if_neB 33 29 (by decide) rfl dX12_breach_26 (fun c6 => ?_) (fun c6 => ?_)
    · rw [if_pos c6] at h
      refine E_iconst (v := 0) 34 rfl dX12_breach_33 (by decide) ?_
      refine E_sub (lv' := [(0, .ref 149), (1, .int x1), (2, .int x2)]) [0, 1, 2] rfl ?_
      exact S_X12_breach_34 x1 x2 false w3.2.1 w3.2.2 _ h
    · rw [if_neg (by rw [c6]; decide)] at h
      refine E_iconst (v := 1) 30 rfl dX12_breach_29 (by decide) ?_
      refine E_goto 34 (by decide) dX12_breach_30 ?_
      refine E_sub (lv' := [(0, .ref 149), (1, .int x1), (2, .int x2)]) [0, 1, 2] rfl ?_
      exact S_X12_breach_34 x1 x2 true w3.2.1 w3.2.2 _ h
theorem C_X12_breach {g : Gx} {x1 : Int32} {x2 : Int32} {I : MI} {L : ML} {res : Int64 × MI × ML} (h : f_X12_breach x1 x2 I L = some res) : Ent g 9 0 mX12_breach [.ref 149, .int x1, .int x2] (I, L) (.inl (some (.long res.1))) (res.2.1, res.2.2) := Ent_of (by decide +kernel) (Nat.le_of_ble_eq_true rfl) (S_X12_breach x1 x2 I L _ h)
def f_X12_silence_159 (y0 : Int64) (I : MI) (L : ML) : Option (Int64 × MI × ML) := some (y0, I, L)
set_option maxRecDepth 100000 in
theorem S_X12_silence_159 {g : Gx} (y0 : Int64) (I : MI) (L : ML) (res : Int64 × MI × ML) (h : f_X12_silence_159 y0 I L = some res) : E g 8 0 mX12_silence 159 [] [.long y0] (I, L) (.inl (some (.long res.1))) (res.2.1, res.2.2) := by
  unfold f_X12_silence_159 at h
  cases h
  exact E_lret rfl dX12_silence_159
def f_X12_silence_126 (k64 : Int32 → Int32 → Int32 → Bool → Int64 → Int64 → Int32 → MI → ML → Option (Int64 × MI × ML)) (x1 : Int32) (x2 : Int32) (x3 : Int32) (x4 : Bool) (x5 : Int64) (x7 : Int64) (x9 : Int32) (I : MI) (L : ML) : Option (Int64 × MI × ML) := k64 x1 x2 x3 x4 x5 x7 (x9 + 1) I L
set_option maxRecDepth 100000 in
theorem S_X12_silence_126 {g : Gx} {k64 : Int32 → Int32 → Int32 → Bool → Int64 → Int64 → Int32 → MI → ML → Option (Int64 × MI × ML)} (hk64 : ∀ (x1z : Int32) (x2z : Int32) (x3z : Int32) (x4z : Bool) (x5z : Int64) (x7z : Int64) (x9z : Int32) (I : MI) (L : ML) (res : Int64 × MI × ML), k64 x1z x2z x3z x4z x5z x7z x9z I L = some res → E g 8 0 mX12_silence 64 [(0, .ref 149), (1, .int x1z), (2, .int x2z), (3, .int x3z), (4, .int (bI x4z)), (5, .long x5z), (7, .long x7z), (9, .int x9z)] [] (I, L) (.inl (some (.long res.1))) (res.2.1, res.2.2)) (x1 : Int32) (x2 : Int32) (x3 : Int32) (x4 : Bool) (x5 : Int64) (x7 : Int64) (x9 : Int32) (I : MI) (L : ML) (res : Int64 × MI × ML) (h : f_X12_silence_126 k64 x1 x2 x3 x4 x5 x7 x9 I L = some res) : E g 8 0 mX12_silence 126 [(0, .ref 149), (1, .int x1), (2, .int x2), (3, .int x3), (4, .int (bI x4)), (5, .long x5), (7, .long x7), (9, .int x9)] [] (I, L) (.inl (some (.long res.1))) (res.2.1, res.2.2) := by
  unfold f_X12_silence_126 at h
  refine E_iinc (j := 7) (v := x9 + 1) (lv' := [(9, .int (x9 + 1)), (0, .ref 149), (1, .int x1), (2, .int x2), (3, .int x3), (4, .int (bI x4)), (5, .long x5), (7, .long x7)]) 129 rfl dX12_silence_126 rfl rfl (Nat.le_of_ble_eq_true rfl) rfl ?_
  refine E_goto 64 (by decide) dX12_silence_129 ?_
  refine E_sub (lv' := [(0, .ref 149), (1, .int x1), (2, .int x2), (3, .int x3), (4, .int (bI x4)), (5, .long x5), (7, .long x7), (9, .int (x9 + 1))]) [1, 2, 3, 4, 5, 6, 7, 0] rfl ?_
  exact hk64 x1 x2 x3 x4 x5 x7 (x9 + 1) I L _ h
def f_X12_silence_64 : Nat → Int32 → Int32 → Int32 → Bool → Int64 → Int64 → Int32 → MI → ML → Option (Int64 × MI × ML)
  | 0, _, _, _, _, _, _, _, _, _ => none
  | n + 1, x1, x2, x3, x4, x5, x7, x9, I, L => Option.bind (f_X12_noises I L) fun v1 => if v1 ≤ x9 then (if x5 ≤ 9999 then (if x4 = true then (f_X12_silence_159 x7 I L) else (f_X12_silence_159 x5 I L)) else (f_X12_silence_159 ((-1)) I L)) else (Option.bind (f_X12_atOf x9 x1 I L) fun v5 => if v5 = 0 then (f_X12_silence_126 (f_X12_silence_64 n) x1 x2 x3 x4 x5 x7 x9 I L) else (Option.bind (f_X12_dueOf x9 x2 I L) fun v7 => Option.bind (dvL ((v7 + x3.toInt64) - 1) x3.toInt64) fun v8 => f_X12_silence_126 (f_X12_silence_64 n) x1 x2 x3 x4 (if (if v8 < 1 then 1 else v8) < x5 then x5 else (if v8 < 1 then 1 else v8)) (x7 + ((if v8 < 1 then 1 else v8) * x3.toInt64)) x9 I L))
set_option maxRecDepth 100000 in
theorem S_X12_silence_64 {g : Gx} : ∀ (n : Nat) (x1 : Int32) (x2 : Int32) (x3 : Int32) (x4 : Bool) (x5 : Int64) (x7 : Int64) (x9 : Int32) (I : MI) (L : ML) (res : Int64 × MI × ML), f_X12_silence_64 n x1 x2 x3 x4 x5 x7 x9 I L = some res → E g 8 0 mX12_silence 64 [(0, .ref 149), (1, .int x1), (2, .int x2), (3, .int x3), (4, .int (bI x4)), (5, .long x5), (7, .long x7), (9, .int x9)] [] (I, L) (.inl (some (.long res.1))) (res.2.1, res.2.2) := by
  intro n
  induction n with
  | zero =>
    intros
    rename_i h
    cases h
  | succ n ih =>
    intro x1 x2 x3 x4 x5 x7 x9 I L res h
    rw [f_X12_silence_64] at h
    refine E_iload 66 rfl dX12_silence_64 7 rfl ?_
    refine E_aload_n 67 rfl dX12_silence_66 rfl 0 rfl ?_
    obtain ⟨v1, hv1, h⟩ := Option.bind_eq_some_iff.mp h
    refine E_cV1 (As := []) 70 rfl dX12_silence_67 shc_149 ck_X12_67 cv_X12_noises rfl (by decide) (Nat.le_of_ble_eq_true rfl) (C_X12_noises (g := g) hv1) rfl ?_
    refine E_icmp_ge 132 73 (by decide) rfl dX12_silence_70 (fun c2 => ?_) (fun c2 => ?_)
    · rw [if_pos c2] at h
      refine E_lload 134 rfl dX12_silence_132 5 rfl ?_
      refine E_ldc2 137 rfl dX12_silence_134 csl_X12_366 ?_
      refine E_lc_le 147 138 141 (by decide) rfl rfl dX12_silence_137 dX12_silence_138 (fun c3 => ?_) (fun c3 => ?_)
      · rw [if_pos c3] at h
        refine E_iload 149 rfl dX12_silence_147 4 rfl ?_
        refine E_if_eqB 157 152 (by decide) rfl dX12_silence_149 (fun c4 => ?_) (fun c4 => ?_)
        · rw [if_neg (by rw [c4]; decide)] at h
          refine E_lload 159 rfl dX12_silence_157 5 rfl ?_
          refine E_sub (lv' := []) [] rfl ?_
          exact S_X12_silence_159 x5 I L _ h
        · rw [if_pos c4] at h
          refine E_lload 154 rfl dX12_silence_152 6 rfl ?_
          refine E_goto 159 (by decide) dX12_silence_154 ?_
          refine E_sub (lv' := []) [] rfl ?_
          exact S_X12_silence_159 x7 I L _ h
      · rw [if_neg c3] at h
        refine E_ldc2 144 rfl dX12_silence_141 csl_X12_368 ?_
        refine E_goto 159 (by decide) dX12_silence_144 ?_
        refine E_sub (lv' := []) [] rfl ?_
        exact S_X12_silence_159 ((-1)) I L _ h
    · rw [if_neg c2] at h
      refine E_aload_n 74 rfl dX12_silence_73 rfl 0 rfl ?_
      refine E_iload 76 rfl dX12_silence_74 7 rfl ?_
      refine E_iload_n 77 rfl dX12_silence_76 rfl 1 rfl ?_
      obtain ⟨v5, hv5, h⟩ := Option.bind_eq_some_iff.mp h
      refine E_cV1 (As := [.int x9, .int x1]) 80 rfl dX12_silence_77 shc_149 ck_X12_269 cv_X12_atOf rfl (by decide) (Nat.le_of_ble_eq_true rfl) (C_X12_atOf (g := g) hv5) rfl ?_
      refine E_if_ne 86 83 (by decide) rfl dX12_silence_80 (fun c6 => ?_) (fun c6 => ?_)
      · rw [if_neg c6] at h
        refine E_lconst (v := 1) 87 rfl dX12_silence_86 (by decide) ?_
        refine E_aload_n 88 rfl dX12_silence_87 rfl 0 rfl ?_
        refine E_iload 90 rfl dX12_silence_88 7 rfl ?_
        refine E_iload_n 91 rfl dX12_silence_90 rfl 2 rfl ?_
        obtain ⟨v7, hv7, h⟩ := Option.bind_eq_some_iff.mp h
        refine E_cV1 (As := [.int x9, .int x2]) 94 rfl dX12_silence_91 shc_149 ck_X12_351 cv_X12_dueOf rfl (by decide) (Nat.le_of_ble_eq_true rfl) (C_X12_dueOf (g := g) hv7) rfl ?_
        refine E_iload_n 95 rfl dX12_silence_94 rfl 3 rfl ?_
        refine E_i2l 96 rfl dX12_silence_95 ?_
        refine E_ladd 97 rfl dX12_silence_96 ?_
        refine E_lconst (v := 1) 98 rfl dX12_silence_97 (by decide) ?_
        refine E_lsub 99 rfl dX12_silence_98 ?_
        refine E_iload_n 100 rfl dX12_silence_99 rfl 3 rfl ?_
        refine E_i2l 101 rfl dX12_silence_100 ?_
        obtain ⟨v8, hv8, h⟩ := Option.bind_eq_some_iff.mp h
        refine E_dvL 102 rfl dX12_silence_101 hv8 ?_
        refine E_maxl 105 rfl dX12_silence_102 jm_X12_363 (by decide) (Nat.le_of_ble_eq_true rfl) ?_
        refine E_lstore (lv' := [(10, .long (if v8 < 1 then 1 else v8)), (0, .ref 149), (1, .int x1), (2, .int x2), (3, .int x3), (4, .int (bI x4)), (5, .long x5), (7, .long x7), (9, .int x9)]) 107 rfl dX12_silence_105 (Nat.le_of_ble_eq_true rfl) rfl ?_
        refine E_lload 109 rfl dX12_silence_107 6 rfl ?_
        refine E_lload 111 rfl dX12_silence_109 0 rfl ?_
        refine E_maxl 114 rfl dX12_silence_111 jm_X12_363 (by decide) (Nat.le_of_ble_eq_true rfl) ?_
        refine E_lstore (lv' := [(5, .long (if (if v8 < 1 then 1 else v8) < x5 then x5 else (if v8 < 1 then 1 else v8))), (10, .long (if v8 < 1 then 1 else v8)), (0, .ref 149), (1, .int x1), (2, .int x2), (3, .int x3), (4, .int (bI x4)), (7, .long x7), (9, .int x9)]) 116 rfl dX12_silence_114 (Nat.le_of_ble_eq_true rfl) rfl ?_
        refine E_lload 118 rfl dX12_silence_116 7 rfl ?_
        refine E_lload 120 rfl dX12_silence_118 1 rfl ?_
        refine E_iload_n 121 rfl dX12_silence_120 rfl 5 rfl ?_
        refine E_i2l 122 rfl dX12_silence_121 ?_
        refine E_lmul 123 rfl dX12_silence_122 ?_
        refine E_ladd 124 rfl dX12_silence_123 ?_
        refine E_lstore (lv' := [(7, .long (x7 + ((if v8 < 1 then 1 else v8) * x3.toInt64))), (5, .long (if (if v8 < 1 then 1 else v8) < x5 then x5 else (if v8 < 1 then 1 else v8))), (10, .long (if v8 < 1 then 1 else v8)), (0, .ref 149), (1, .int x1), (2, .int x2), (3, .int x3), (4, .int (bI x4)), (9, .int x9)]) 126 rfl dX12_silence_124 (Nat.le_of_ble_eq_true rfl) rfl ?_
        refine E_sub (lv' := [(0, .ref 149), (1, .int x1), (2, .int x2), (3, .int x3), (4, .int (bI x4)), (5, .long (if (if v8 < 1 then 1 else v8) < x5 then x5 else (if v8 < 1 then 1 else v8))), (7, .long (x7 + ((if v8 < 1 then 1 else v8) * x3.toInt64))), (9, .int x9)]) [3, 4, 5, 6, 7, 1, 0, 8] rfl ?_
        exact S_X12_silence_126 ih x1 x2 x3 x4 (if (if v8 < 1 then 1 else v8) < x5 then x5 else (if v8 < 1 then 1 else v8)) (x7 + ((if v8 < 1 then 1 else v8) * x3.toInt64)) x9 I L _ h
      · rw [if_pos c6] at h
        refine E_goto 126 (by decide) dX12_silence_83 ?_
        refine E_sub (lv' := [(0, .ref 149), (1, .int x1), (2, .int x2), (3, .int x3), (4, .int (bI x4)), (5, .long x5), (7, .long x7), (9, .int x9)]) [0, 1, 2, 3, 4, 5, 6, 7] rfl ?_
        exact S_X12_silence_126 ih x1 x2 x3 x4 x5 x7 x9 I L _ h
def f_X12_silence_49 (I : MI) (L : ML) : Option (Int64 × MI × ML) := some (0, I, L)
set_option maxRecDepth 100000 in
theorem S_X12_silence_49 {g : Gx} (I : MI) (L : ML) (res : Int64 × MI × ML) (h : f_X12_silence_49 I L = some res) : E g 8 0 mX12_silence 49 [] [] (I, L) (.inl (some (.long res.1))) (res.2.1, res.2.2) := by
  unfold f_X12_silence_49 at h
  refine E_lconst (v := 0) 50 rfl dX12_silence_49 (by decide) ?_
  cases h
  exact E_lret rfl dX12_silence_50
def f_X12_silence_42 (x1 : Int32) (x2 : Int32) (x3 : Int32) (x4 : Bool) (y1 : Bool) (I : MI) (L : ML) : Option (Int64 × MI × ML) := Option.bind (f_X12_throwsIf y1 2 I L) fun w1 => if w1.1 = true then (f_X12_silence_49 w1.2.1 w1.2.2) else (Option.bind (f_X12_spreads w1.2.1 w1.2.2) fun w3 => f_X12_silence_64 FU x1 x2 x3 x4 0 0 0 w3.1 w3.2)
set_option maxRecDepth 100000 in
theorem S_X12_silence_42 {g : Gx} (x1 : Int32) (x2 : Int32) (x3 : Int32) (x4 : Bool) (y1 : Bool) (I : MI) (L : ML) (res : Int64 × MI × ML) (h : f_X12_silence_42 x1 x2 x3 x4 y1 I L = some res) : E g 8 0 mX12_silence 42 [(0, .ref 149), (1, .int x1), (2, .int x2), (3, .int x3), (4, .int (bI x4))] [.int (bI y1), .ref 149] (I, L) (.inl (some (.long res.1))) (res.2.1, res.2.2) := by
  unfold f_X12_silence_42 at h
  refine E_iconst (v := 2) 43 rfl dX12_silence_42 (by decide) ?_
  obtain ⟨w1, hw1, h⟩ := Option.bind_eq_some_iff.mp h
  refine E_cV1 (As := [.int (bI y1), .int 2]) 46 rfl dX12_silence_43 shc_149 ck_X12_245 cv_X12_throwsIf rfl (by decide) (Nat.le_of_ble_eq_true rfl) (C_X12_throwsIf (g := g) hw1) rfl ?_
  refine E_if_eqB 51 49 (by decide) rfl dX12_silence_46 (fun c2 => ?_) (fun c2 => ?_)
  · rw [if_neg (by rw [c2]; decide)] at h
    refine E_aload_n 52 rfl dX12_silence_51 rfl 0 rfl ?_
    obtain ⟨w3, hw3, h⟩ := Option.bind_eq_some_iff.mp h
    refine E_cV0 (As := []) 55 rfl dX12_silence_52 shc_149 ck_X12_298 cv_X12_spreads rfl (by decide) (Nat.le_of_ble_eq_true rfl) (C_X12_spreads (g := g) hw3) rfl ?_
    refine E_lconst (v := 0) 56 rfl dX12_silence_55 (by decide) ?_
    refine E_lstore (lv' := [(5, .long 0), (0, .ref 149), (1, .int x1), (2, .int x2), (3, .int x3), (4, .int (bI x4))]) 58 rfl dX12_silence_56 (Nat.le_of_ble_eq_true rfl) rfl ?_
    refine E_lconst (v := 0) 59 rfl dX12_silence_58 (by decide) ?_
    refine E_lstore (lv' := [(7, .long 0), (5, .long 0), (0, .ref 149), (1, .int x1), (2, .int x2), (3, .int x3), (4, .int (bI x4))]) 61 rfl dX12_silence_59 (Nat.le_of_ble_eq_true rfl) rfl ?_
    refine E_iconst (v := 0) 62 rfl dX12_silence_61 (by decide) ?_
    refine E_istore (lv' := [(9, .int 0), (7, .long 0), (5, .long 0), (0, .ref 149), (1, .int x1), (2, .int x2), (3, .int x3), (4, .int (bI x4))]) 64 rfl dX12_silence_62 (Nat.le_of_ble_eq_true rfl) rfl ?_
    refine E_sub (lv' := [(0, .ref 149), (1, .int x1), (2, .int x2), (3, .int x3), (4, .int (bI x4)), (5, .long 0), (7, .long 0), (9, .int 0)]) [3, 4, 5, 6, 7, 2, 1, 0] rfl ?_
    exact S_X12_silence_64 FU x1 x2 x3 x4 0 0 0 w3.1 w3.2 _ h
  · rw [if_pos c2] at h
    refine E_sub (lv' := []) [] rfl ?_
    exact S_X12_silence_49 w1.2.1 w1.2.2 _ h
def f_X12_silence_37 (x1 : Int32) (x2 : Int32) (x3 : Int32) (x4 : Bool) (I : MI) (L : ML) : Option (Int64 × MI × ML) := f_X12_silence_42 x1 x2 x3 x4 true I L
set_option maxRecDepth 100000 in
theorem S_X12_silence_37 {g : Gx} (x1 : Int32) (x2 : Int32) (x3 : Int32) (x4 : Bool) (I : MI) (L : ML) (res : Int64 × MI × ML) (h : f_X12_silence_37 x1 x2 x3 x4 I L = some res) : E g 8 0 mX12_silence 37 [(0, .ref 149), (1, .int x1), (2, .int x2), (3, .int x3), (4, .int (bI x4))] [.ref 149] (I, L) (.inl (some (.long res.1))) (res.2.1, res.2.2) := by
  unfold f_X12_silence_37 at h
  refine E_iconst (v := 1) 38 rfl dX12_silence_37 (by decide) ?_
  refine E_goto 42 (by decide) dX12_silence_38 ?_
  refine E_sub (lv' := [(0, .ref 149), (1, .int x1), (2, .int x2), (3, .int x3), (4, .int (bI x4))]) [0, 1, 2, 3, 4] rfl ?_
  exact S_X12_silence_42 x1 x2 x3 x4 true I L _ h
def f_X12_silence (x1 : Int32) (x2 : Int32) (x3 : Int32) (x4 : Bool) (I : MI) (L : ML) : Option (Int64 × MI × ML) := Option.bind (pfI I 149 0 0) fun I1 => Option.bind (f_X12_noRoom x1 I1 L) fun v2 => Option.bind (f_X12_throwsIf v2 1 I1 L) fun w3 => if w3.1 = true then (f_X12_silence_49 w3.2.1 w3.2.2) else (Option.bind (f_X12_noDays x2 w3.2.1 w3.2.2) fun v5 => if v5 = true then (f_X12_silence_37 x1 x2 x3 x4 w3.2.1 w3.2.2) else (Option.bind (f_X12_in x3 1 999 w3.2.1 w3.2.2) fun v7 => if v7 = true then (f_X12_silence_42 x1 x2 x3 x4 false w3.2.1 w3.2.2) else (f_X12_silence_37 x1 x2 x3 x4 w3.2.1 w3.2.2)))
set_option maxRecDepth 100000 in
theorem S_X12_silence {g : Gx} (x1 : Int32) (x2 : Int32) (x3 : Int32) (x4 : Bool) (I : MI) (L : ML) (res : Int64 × MI × ML) (h : f_X12_silence x1 x2 x3 x4 I L = some res) : E g 8 0 mX12_silence 0 [(0, .ref 149), (1, .int x1), (2, .int x2), (3, .int x3), (4, .int (bI x4))] [] (I, L) (.inl (some (.long res.1))) (res.2.1, res.2.2) := by
  unfold f_X12_silence at h
  refine E_aload_n 1 rfl dX12_silence_0 rfl 0 rfl ?_
  refine E_iconst (v := 0) 2 rfl dX12_silence_1 (by decide) ?_
  obtain ⟨I1, hI1, h⟩ := Option.bind_eq_some_iff.mp h
  refine E_pfI 5 rfl dX12_silence_2 shc_149 fl_X12_3 rfl hI1 ?_
  refine E_aload_n 6 rfl dX12_silence_5 rfl 0 rfl ?_
  refine E_aload_n 7 rfl dX12_silence_6 rfl 0 rfl ?_
  refine E_iload_n 8 rfl dX12_silence_7 rfl 1 rfl ?_
  obtain ⟨v2, hv2, h⟩ := Option.bind_eq_some_iff.mp h
  refine E_cV1 (As := [.int x1]) 11 rfl dX12_silence_8 shc_149 ck_X12_292 cv_X12_noRoom rfl (by decide) (Nat.le_of_ble_eq_true rfl) (C_X12_noRoom (g := g) hv2) rfl ?_
  refine E_iconst (v := 1) 12 rfl dX12_silence_11 (by decide) ?_
  obtain ⟨w3, hw3, h⟩ := Option.bind_eq_some_iff.mp h
  refine E_cV1 (As := [.int (bI v2), .int 1]) 15 rfl dX12_silence_12 shc_149 ck_X12_245 cv_X12_throwsIf rfl (by decide) (Nat.le_of_ble_eq_true rfl) (C_X12_throwsIf (g := g) hw3) rfl ?_
  refine E_if_neB 49 18 (by decide) rfl dX12_silence_15 (fun c4 => ?_) (fun c4 => ?_)
  · rw [if_pos c4] at h
    refine E_sub (lv' := []) [] rfl ?_
    exact S_X12_silence_49 w3.2.1 w3.2.2 _ h
  · rw [if_neg (by rw [c4]; decide)] at h
    refine E_aload_n 19 rfl dX12_silence_18 rfl 0 rfl ?_
    refine E_iload_n 20 rfl dX12_silence_19 rfl 2 rfl ?_
    obtain ⟨v5, hv5, h⟩ := Option.bind_eq_some_iff.mp h
    refine E_cS1 (As := [.int x2]) 23 rfl dX12_silence_20 ck_X12_348 ss_X12_noDays rfl (by decide) (Nat.le_of_ble_eq_true rfl) (C_X12_noDays (g := g) hv5) rfl ?_
    refine E_if_neB 37 26 (by decide) rfl dX12_silence_23 (fun c6 => ?_) (fun c6 => ?_)
    · rw [if_pos c6] at h
      refine E_sub (lv' := [(0, .ref 149), (1, .int x1), (2, .int x2), (3, .int x3), (4, .int (bI x4))]) [0, 1, 2, 3, 4] rfl ?_
      exact S_X12_silence_37 x1 x2 x3 x4 w3.2.1 w3.2.2 _ h
    · rw [if_neg (by rw [c6]; decide)] at h
      refine E_iload_n 27 rfl dX12_silence_26 rfl 3 rfl ?_
      refine E_iconst (v := 1) 28 rfl dX12_silence_27 (by decide) ?_
      refine E_sipush (v := 999) 31 rfl dX12_silence_28 (by decide) ?_
      obtain ⟨v7, hv7, h⟩ := Option.bind_eq_some_iff.mp h
      refine E_cS1 (As := [.int x3, .int 1, .int 999]) 34 rfl dX12_silence_31 ck_X12_60 ss_X12_in rfl (by decide) (Nat.le_of_ble_eq_true rfl) (C_X12_in (g := g) hv7) rfl ?_
      refine E_if_neB 41 37 (by decide) rfl dX12_silence_34 (fun c8 => ?_) (fun c8 => ?_)
      · rw [if_pos c8] at h
        refine E_iconst (v := 0) 42 rfl dX12_silence_41 (by decide) ?_
        refine E_sub (lv' := [(0, .ref 149), (1, .int x1), (2, .int x2), (3, .int x3), (4, .int (bI x4))]) [0, 1, 2, 3, 4] rfl ?_
        exact S_X12_silence_42 x1 x2 x3 x4 false w3.2.1 w3.2.2 _ h
      · rw [if_neg (by rw [c8]; decide)] at h
        refine E_sub (lv' := [(0, .ref 149), (1, .int x1), (2, .int x2), (3, .int x3), (4, .int (bI x4))]) [0, 1, 2, 3, 4] rfl ?_
        exact S_X12_silence_37 x1 x2 x3 x4 w3.2.1 w3.2.2 _ h
theorem C_X12_silence {g : Gx} {x1 : Int32} {x2 : Int32} {x3 : Int32} {x4 : Bool} {I : MI} {L : ML} {res : Int64 × MI × ML} (h : f_X12_silence x1 x2 x3 x4 I L = some res) : Ent g 8 0 mX12_silence [.ref 149, .int x1, .int x2, .int x3, .int (bI x4)] (I, L) (.inl (some (.long res.1))) (res.2.1, res.2.2) := Ent_of (by decide +kernel) (Nat.le_of_ble_eq_true rfl) (S_X12_silence x1 x2 x3 x4 I L _ h)
def f_X12_ears_118 (y0 : Int32) (I : MI) (L : ML) : Option (Int32 × MI × ML) := some (y0, I, L)
set_option maxRecDepth 100000 in
theorem S_X12_ears_118 {g : Gx} (y0 : Int32) (I : MI) (L : ML) (res : Int32 × MI × ML) (h : f_X12_ears_118 y0 I L = some res) : E g 6 0 mX12_ears 118 [] [.int y0] (I, L) (.inl (some (.int res.1))) (res.2.1, res.2.2) := by
  unfold f_X12_ears_118 at h
  cases h
  exact E_iret rfl dX12_ears_118
def f_X12_ears_81 (k45 : Int32 → Int32 → Int32 → Int32 → MI → ML → Option (Int32 × MI × ML)) (x1 : Int32) (x2 : Int32) (x4 : Int32) (y0 : Int32) (y1 : Int32) (I : MI) (L : ML) : Option (Int32 × MI × ML) := k45 x1 x2 (y0 + y1) (x4 + 1) I L
set_option maxRecDepth 100000 in
theorem S_X12_ears_81 {g : Gx} {k45 : Int32 → Int32 → Int32 → Int32 → MI → ML → Option (Int32 × MI × ML)} (hk45 : ∀ (x1z : Int32) (x2z : Int32) (x3z : Int32) (x4z : Int32) (I : MI) (L : ML) (res : Int32 × MI × ML), k45 x1z x2z x3z x4z I L = some res → E g 6 0 mX12_ears 45 [(0, .ref 149), (1, .int x1z), (2, .int x2z), (3, .int x3z), (4, .int x4z)] [] (I, L) (.inl (some (.int res.1))) (res.2.1, res.2.2)) (x1 : Int32) (x2 : Int32) (x4 : Int32) (y0 : Int32) (y1 : Int32) (I : MI) (L : ML) (res : Int32 × MI × ML) (h : f_X12_ears_81 k45 x1 x2 x4 y0 y1 I L = some res) : E g 6 0 mX12_ears 81 [(0, .ref 149), (1, .int x1), (2, .int x2), (4, .int x4)] [.int y1, .int y0] (I, L) (.inl (some (.int res.1))) (res.2.1, res.2.2) := by
  unfold f_X12_ears_81 at h
  refine E_iadd 82 rfl dX12_ears_81 ?_
  refine E_istore_n (lv' := [(3, .int (y0 + y1)), (0, .ref 149), (1, .int x1), (2, .int x2), (4, .int x4)]) 83 rfl dX12_ears_82 rfl (Nat.le_of_ble_eq_true rfl) rfl ?_
  refine E_iinc (j := 4) (v := x4 + 1) (lv' := [(4, .int (x4 + 1)), (3, .int (y0 + y1)), (0, .ref 149), (1, .int x1), (2, .int x2)]) 86 rfl dX12_ears_83 rfl rfl (Nat.le_of_ble_eq_true rfl) rfl ?_
  refine E_goto 45 (by decide) dX12_ears_86 ?_
  refine E_sub (lv' := [(0, .ref 149), (1, .int x1), (2, .int x2), (3, .int (y0 + y1)), (4, .int (x4 + 1))]) [2, 3, 4, 1, 0] rfl ?_
  exact hk45 x1 x2 (y0 + y1) (x4 + 1) I L _ h
def f_X12_ears_45 : Nat → Int32 → Int32 → Int32 → Int32 → MI → ML → Option (Int32 × MI × ML)
  | 0, _, _, _, _, _, _ => none
  | n + 1, x1, x2, x3, x4, I, L => Option.bind (f_X12_heirs I L) fun v1 => if v1 ≤ x4 then (Option.bind (f_X12_isHearing x1 x2 I L) fun v3 => if v3 = true then (Option.bind (f_X12_ofHeir x1 0 I L) fun v5 => Option.bind (f_X12_atOf x2 v5 I L) fun v6 => Option.bind (dvI (100 * v6) x3) fun v7 => f_X12_ears_118 v7 I L) else (f_X12_ears_118 0 I L)) else (Option.bind (f_X12_isHearing x4 x2 I L) fun v8 => if v8 = true then (Option.bind (f_X12_ofHeir x4 0 I L) fun v10 => Option.bind (f_X12_atOf x2 v10 I L) fun v11 => f_X12_ears_81 (f_X12_ears_45 n) x1 x2 x4 x3 v11 I L) else (f_X12_ears_81 (f_X12_ears_45 n) x1 x2 x4 x3 0 I L))
set_option maxRecDepth 100000 in
theorem S_X12_ears_45 {g : Gx} : ∀ (n : Nat) (x1 : Int32) (x2 : Int32) (x3 : Int32) (x4 : Int32) (I : MI) (L : ML) (res : Int32 × MI × ML), f_X12_ears_45 n x1 x2 x3 x4 I L = some res → E g 6 0 mX12_ears 45 [(0, .ref 149), (1, .int x1), (2, .int x2), (3, .int x3), (4, .int x4)] [] (I, L) (.inl (some (.int res.1))) (res.2.1, res.2.2) := by
  intro n
  induction n with
  | zero =>
    intros
    rename_i h
    cases h
  | succ n ih =>
    intro x1 x2 x3 x4 I L res h
    rw [f_X12_ears_45] at h
    refine E_iload 47 rfl dX12_ears_45 4 rfl ?_
    refine E_aload_n 48 rfl dX12_ears_47 rfl 0 rfl ?_
    obtain ⟨v1, hv1, h⟩ := Option.bind_eq_some_iff.mp h
    refine E_cV1 (As := []) 51 rfl dX12_ears_48 shc_149 ck_X12_64 cv_X12_heirs rfl (by decide) (Nat.le_of_ble_eq_true rfl) (C_X12_heirs (g := g) hv1) rfl ?_
    refine E_icmp_ge 89 54 (by decide) rfl dX12_ears_51 (fun c2 => ?_) (fun c2 => ?_)
    · rw [if_pos c2] at h
      refine E_aload_n 90 rfl dX12_ears_89 rfl 0 rfl ?_
      refine E_iload_n 91 rfl dX12_ears_90 rfl 1 rfl ?_
      refine E_iload_n 92 rfl dX12_ears_91 rfl 2 rfl ?_
      obtain ⟨v3, hv3, h⟩ := Option.bind_eq_some_iff.mp h
      refine E_cV1 (As := [.int x1, .int x2]) 95 rfl dX12_ears_92 shc_149 ck_X12_272 cv_X12_isHearing rfl (by decide) (Nat.le_of_ble_eq_true rfl) (C_X12_isHearing (g := g) hv3) rfl ?_
      refine E_if_eqB 117 98 (by decide) rfl dX12_ears_95 (fun c4 => ?_) (fun c4 => ?_)
      · rw [if_neg (by rw [c4]; decide)] at h
        refine E_iconst (v := 0) 118 rfl dX12_ears_117 (by decide) ?_
        refine E_sub (lv' := []) [] rfl ?_
        exact S_X12_ears_118 0 I L _ h
      · rw [if_pos c4] at h
        refine E_bipush (v := 100) 100 rfl dX12_ears_98 (by decide) ?_
        refine E_aload_n 101 rfl dX12_ears_100 rfl 0 rfl ?_
        refine E_iload_n 102 rfl dX12_ears_101 rfl 2 rfl ?_
        refine E_aload_n 103 rfl dX12_ears_102 rfl 0 rfl ?_
        refine E_iload_n 104 rfl dX12_ears_103 rfl 1 rfl ?_
        refine E_iconst (v := 0) 105 rfl dX12_ears_104 (by decide) ?_
        obtain ⟨v5, hv5, h⟩ := Option.bind_eq_some_iff.mp h
        refine E_cV1 (As := [.int x1, .int 0]) 108 rfl dX12_ears_105 shc_149 ck_X12_266 cv_X12_ofHeir rfl (by decide) (Nat.le_of_ble_eq_true rfl) (C_X12_ofHeir (g := g) hv5) rfl ?_
        obtain ⟨v6, hv6, h⟩ := Option.bind_eq_some_iff.mp h
        refine E_cV1 (As := [.int x2, .int v5]) 111 rfl dX12_ears_108 shc_149 ck_X12_269 cv_X12_atOf rfl (by decide) (Nat.le_of_ble_eq_true rfl) (C_X12_atOf (g := g) hv6) rfl ?_
        refine E_imul 112 rfl dX12_ears_111 ?_
        refine E_iload_n 113 rfl dX12_ears_112 rfl 3 rfl ?_
        obtain ⟨v7, hv7, h⟩ := Option.bind_eq_some_iff.mp h
        refine E_dvI 114 rfl dX12_ears_113 hv7 ?_
        refine E_goto 118 (by decide) dX12_ears_114 ?_
        refine E_sub (lv' := []) [] rfl ?_
        exact S_X12_ears_118 v7 I L _ h
    · rw [if_neg c2] at h
      refine E_iload_n 55 rfl dX12_ears_54 rfl 3 rfl ?_
      refine E_aload_n 56 rfl dX12_ears_55 rfl 0 rfl ?_
      refine E_iload 58 rfl dX12_ears_56 4 rfl ?_
      refine E_iload_n 59 rfl dX12_ears_58 rfl 2 rfl ?_
      obtain ⟨v8, hv8, h⟩ := Option.bind_eq_some_iff.mp h
      refine E_cV1 (As := [.int x4, .int x2]) 62 rfl dX12_ears_59 shc_149 ck_X12_272 cv_X12_isHearing rfl (by decide) (Nat.le_of_ble_eq_true rfl) (C_X12_isHearing (g := g) hv8) rfl ?_
      refine E_if_eqB 80 65 (by decide) rfl dX12_ears_62 (fun c9 => ?_) (fun c9 => ?_)
      · rw [if_neg (by rw [c9]; decide)] at h
        refine E_iconst (v := 0) 81 rfl dX12_ears_80 (by decide) ?_
        refine E_sub (lv' := [(0, .ref 149), (1, .int x1), (2, .int x2), (4, .int x4)]) [0, 1, 2, 4] rfl ?_
        exact S_X12_ears_81 ih x1 x2 x4 x3 0 I L _ h
      · rw [if_pos c9] at h
        refine E_aload_n 66 rfl dX12_ears_65 rfl 0 rfl ?_
        refine E_iload_n 67 rfl dX12_ears_66 rfl 2 rfl ?_
        refine E_aload_n 68 rfl dX12_ears_67 rfl 0 rfl ?_
        refine E_iload 70 rfl dX12_ears_68 4 rfl ?_
        refine E_iconst (v := 0) 71 rfl dX12_ears_70 (by decide) ?_
        obtain ⟨v10, hv10, h⟩ := Option.bind_eq_some_iff.mp h
        refine E_cV1 (As := [.int x4, .int 0]) 74 rfl dX12_ears_71 shc_149 ck_X12_266 cv_X12_ofHeir rfl (by decide) (Nat.le_of_ble_eq_true rfl) (C_X12_ofHeir (g := g) hv10) rfl ?_
        obtain ⟨v11, hv11, h⟩ := Option.bind_eq_some_iff.mp h
        refine E_cV1 (As := [.int x2, .int v10]) 77 rfl dX12_ears_74 shc_149 ck_X12_269 cv_X12_atOf rfl (by decide) (Nat.le_of_ble_eq_true rfl) (C_X12_atOf (g := g) hv11) rfl ?_
        refine E_goto 81 (by decide) dX12_ears_77 ?_
        refine E_sub (lv' := [(0, .ref 149), (1, .int x1), (2, .int x2), (4, .int x4)]) [0, 1, 2, 4] rfl ?_
        exact S_X12_ears_81 ih x1 x2 x4 x3 v11 I L _ h
def f_X12_ears_27 (x1 : Int32) (x2 : Int32) (y1 : Bool) (I : MI) (L : ML) : Option (Int32 × MI × ML) := Option.bind (f_X12_throwsIf y1 1 I L) fun w1 => if w1.1 = true then (some (0, w1.2.1, w1.2.2)) else (Option.bind (f_X12_spreads w1.2.1 w1.2.2) fun w3 => f_X12_ears_45 FU x1 x2 0 0 w3.1 w3.2)
set_option maxRecDepth 100000 in
theorem S_X12_ears_27 {g : Gx} (x1 : Int32) (x2 : Int32) (y1 : Bool) (I : MI) (L : ML) (res : Int32 × MI × ML) (h : f_X12_ears_27 x1 x2 y1 I L = some res) : E g 6 0 mX12_ears 27 [(0, .ref 149), (1, .int x1), (2, .int x2)] [.int (bI y1), .ref 149] (I, L) (.inl (some (.int res.1))) (res.2.1, res.2.2) := by
  unfold f_X12_ears_27 at h
  refine E_iconst (v := 1) 28 rfl dX12_ears_27 (by decide) ?_
  obtain ⟨w1, hw1, h⟩ := Option.bind_eq_some_iff.mp h
  refine E_cV1 (As := [.int (bI y1), .int 1]) 31 rfl dX12_ears_28 shc_149 ck_X12_245 cv_X12_throwsIf rfl (by decide) (Nat.le_of_ble_eq_true rfl) (C_X12_throwsIf (g := g) hw1) rfl ?_
  refine E_if_eqB 36 34 (by decide) rfl dX12_ears_31 (fun c2 => ?_) (fun c2 => ?_)
  · rw [if_neg (by rw [c2]; decide)] at h
    refine E_aload_n 37 rfl dX12_ears_36 rfl 0 rfl ?_
    obtain ⟨w3, hw3, h⟩ := Option.bind_eq_some_iff.mp h
    refine E_cV0 (As := []) 40 rfl dX12_ears_37 shc_149 ck_X12_298 cv_X12_spreads rfl (by decide) (Nat.le_of_ble_eq_true rfl) (C_X12_spreads (g := g) hw3) rfl ?_
    refine E_iconst (v := 0) 41 rfl dX12_ears_40 (by decide) ?_
    refine E_istore_n (lv' := [(3, .int 0), (0, .ref 149), (1, .int x1), (2, .int x2)]) 42 rfl dX12_ears_41 rfl (Nat.le_of_ble_eq_true rfl) rfl ?_
    refine E_iconst (v := 0) 43 rfl dX12_ears_42 (by decide) ?_
    refine E_istore (lv' := [(4, .int 0), (3, .int 0), (0, .ref 149), (1, .int x1), (2, .int x2)]) 45 rfl dX12_ears_43 (Nat.le_of_ble_eq_true rfl) rfl ?_
    refine E_sub (lv' := [(0, .ref 149), (1, .int x1), (2, .int x2), (3, .int 0), (4, .int 0)]) [2, 3, 4, 1, 0] rfl ?_
    exact S_X12_ears_45 FU x1 x2 0 0 w3.1 w3.2 _ h
  · rw [if_pos c2] at h
    refine E_iconst (v := 0) 35 rfl dX12_ears_34 (by decide) ?_
    cases h
    exact E_iret rfl dX12_ears_35
def f_X12_ears_22 (x1 : Int32) (x2 : Int32) (I : MI) (L : ML) : Option (Int32 × MI × ML) := f_X12_ears_27 x1 x2 true I L
set_option maxRecDepth 100000 in
theorem S_X12_ears_22 {g : Gx} (x1 : Int32) (x2 : Int32) (I : MI) (L : ML) (res : Int32 × MI × ML) (h : f_X12_ears_22 x1 x2 I L = some res) : E g 6 0 mX12_ears 22 [(0, .ref 149), (1, .int x1), (2, .int x2)] [.ref 149] (I, L) (.inl (some (.int res.1))) (res.2.1, res.2.2) := by
  unfold f_X12_ears_22 at h
  refine E_iconst (v := 1) 23 rfl dX12_ears_22 (by decide) ?_
  refine E_goto 27 (by decide) dX12_ears_23 ?_
  refine E_sub (lv' := [(0, .ref 149), (1, .int x1), (2, .int x2)]) [0, 1, 2] rfl ?_
  exact S_X12_ears_27 x1 x2 true I L _ h
def f_X12_ears (x1 : Int32) (x2 : Int32) (I : MI) (L : ML) : Option (Int32 × MI × ML) := Option.bind (pfI I 149 0 0) fun I1 => Option.bind (f_X12_noHeir x1 I1 L) fun v2 => if v2 = true then (f_X12_ears_22 x1 x2 I1 L) else (Option.bind (f_X12_noNoise x2 I1 L) fun v4 => if v4 = true then (f_X12_ears_22 x1 x2 I1 L) else (f_X12_ears_27 x1 x2 false I1 L))
set_option maxRecDepth 100000 in
theorem S_X12_ears {g : Gx} (x1 : Int32) (x2 : Int32) (I : MI) (L : ML) (res : Int32 × MI × ML) (h : f_X12_ears x1 x2 I L = some res) : E g 6 0 mX12_ears 0 [(0, .ref 149), (1, .int x1), (2, .int x2)] [] (I, L) (.inl (some (.int res.1))) (res.2.1, res.2.2) := by
  unfold f_X12_ears at h
  refine E_aload_n 1 rfl dX12_ears_0 rfl 0 rfl ?_
  refine E_iconst (v := 0) 2 rfl dX12_ears_1 (by decide) ?_
  obtain ⟨I1, hI1, h⟩ := Option.bind_eq_some_iff.mp h
  refine E_pfI 5 rfl dX12_ears_2 shc_149 fl_X12_3 rfl hI1 ?_
  refine E_aload_n 6 rfl dX12_ears_5 rfl 0 rfl ?_
  refine E_aload_n 7 rfl dX12_ears_6 rfl 0 rfl ?_
  refine E_iload_n 8 rfl dX12_ears_7 rfl 1 rfl ?_
  obtain ⟨v2, hv2, h⟩ := Option.bind_eq_some_iff.mp h
  refine E_cV1 (As := [.int x1]) 11 rfl dX12_ears_8 shc_149 ck_X12_301 cv_X12_noHeir rfl (by decide) (Nat.le_of_ble_eq_true rfl) (C_X12_noHeir (g := g) hv2) rfl ?_
  refine E_if_neB 22 14 (by decide) rfl dX12_ears_11 (fun c3 => ?_) (fun c3 => ?_)
  · rw [if_pos c3] at h
    refine E_sub (lv' := [(0, .ref 149), (1, .int x1), (2, .int x2)]) [0, 1, 2] rfl ?_
    exact S_X12_ears_22 x1 x2 I1 L _ h
  · rw [if_neg (by rw [c3]; decide)] at h
    refine E_aload_n 15 rfl dX12_ears_14 rfl 0 rfl ?_
    refine E_iload_n 16 rfl dX12_ears_15 rfl 2 rfl ?_
    obtain ⟨v4, hv4, h⟩ := Option.bind_eq_some_iff.mp h
    refine E_cV1 (As := [.int x2]) 19 rfl dX12_ears_16 shc_149 ck_X12_304 cv_X12_noNoise rfl (by decide) (Nat.le_of_ble_eq_true rfl) (C_X12_noNoise (g := g) hv4) rfl ?_
    refine E_if_eqB 26 22 (by decide) rfl dX12_ears_19 (fun c5 => ?_) (fun c5 => ?_)
    · rw [if_neg (by rw [c5]; decide)] at h
      refine E_iconst (v := 0) 27 rfl dX12_ears_26 (by decide) ?_
      refine E_sub (lv' := [(0, .ref 149), (1, .int x1), (2, .int x2)]) [0, 1, 2] rfl ?_
      exact S_X12_ears_27 x1 x2 false I1 L _ h
    · rw [if_pos c5] at h
      refine E_sub (lv' := [(0, .ref 149), (1, .int x1), (2, .int x2)]) [0, 1, 2] rfl ?_
      exact S_X12_ears_22 x1 x2 I1 L _ h
theorem C_X12_ears {g : Gx} {x1 : Int32} {x2 : Int32} {I : MI} {L : ML} {res : Int32 × MI × ML} (h : f_X12_ears x1 x2 I L = some res) : Ent g 6 0 mX12_ears [.ref 149, .int x1, .int x2] (I, L) (.inl (some (.int res.1))) (res.2.1, res.2.2) := Ent_of (by decide +kernel) (Nat.le_of_ble_eq_true rfl) (S_X12_ears x1 x2 I L _ h)
def f_X12_seat_149 (k31 : Int32 → Int32 → Int64 → Int32 → MI → ML → Option (Int32 × MI × ML)) (x1 : Int32) (x2 : Int32) (x3 : Int64) (x5 : Int32) (I : MI) (L : ML) : Option (Int32 × MI × ML) := k31 x1 x2 x3 (x5 + 1) I L
set_option maxRecDepth 100000 in
theorem S_X12_seat_149 {g : Gx} {k31 : Int32 → Int32 → Int64 → Int32 → MI → ML → Option (Int32 × MI × ML)} (hk31 : ∀ (x1z : Int32) (x2z : Int32) (x3z : Int64) (x5z : Int32) (I : MI) (L : ML) (res : Int32 × MI × ML), k31 x1z x2z x3z x5z I L = some res → E g 10 0 mX12_seat 31 [(0, .ref 149), (1, .int x1z), (2, .int x2z), (3, .long x3z), (5, .int x5z)] [] (I, L) (.inl (some (.int res.1))) (res.2.1, res.2.2)) (x1 : Int32) (x2 : Int32) (x3 : Int64) (x5 : Int32) (I : MI) (L : ML) (res : Int32 × MI × ML) (h : f_X12_seat_149 k31 x1 x2 x3 x5 I L = some res) : E g 10 0 mX12_seat 149 [(0, .ref 149), (1, .int x1), (2, .int x2), (3, .long x3), (5, .int x5)] [] (I, L) (.inl (some (.int res.1))) (res.2.1, res.2.2) := by
  unfold f_X12_seat_149 at h
  refine E_iinc (j := 4) (v := x5 + 1) (lv' := [(5, .int (x5 + 1)), (0, .ref 149), (1, .int x1), (2, .int x2), (3, .long x3)]) 152 rfl dX12_seat_149 rfl rfl (Nat.le_of_ble_eq_true rfl) rfl ?_
  refine E_goto 31 (by decide) dX12_seat_152 ?_
  refine E_sub (lv' := [(0, .ref 149), (1, .int x1), (2, .int x2), (3, .long x3), (5, .int (x5 + 1))]) [1, 2, 3, 4, 0] rfl ?_
  exact hk31 x1 x2 x3 (x5 + 1) I L _ h
def f_X12_seat_143 (k31 : Int32 → Int32 → Int64 → Int32 → MI → ML → Option (Int32 × MI × ML)) (x1 : Int32) (x5 : Int32) (x6 : Int64) (I : MI) (L : ML) : Option (Int32 × MI × ML) := f_X12_seat_149 k31 x1 x5 x6 x5 I L
set_option maxRecDepth 100000 in
theorem S_X12_seat_143 {g : Gx} {k31 : Int32 → Int32 → Int64 → Int32 → MI → ML → Option (Int32 × MI × ML)} (hk31 : ∀ (x1z : Int32) (x2z : Int32) (x3z : Int64) (x5z : Int32) (I : MI) (L : ML) (res : Int32 × MI × ML), k31 x1z x2z x3z x5z I L = some res → E g 10 0 mX12_seat 31 [(0, .ref 149), (1, .int x1z), (2, .int x2z), (3, .long x3z), (5, .int x5z)] [] (I, L) (.inl (some (.int res.1))) (res.2.1, res.2.2)) (x1 : Int32) (x5 : Int32) (x6 : Int64) (I : MI) (L : ML) (res : Int32 × MI × ML) (h : f_X12_seat_143 k31 x1 x5 x6 I L = some res) : E g 10 0 mX12_seat 143 [(0, .ref 149), (1, .int x1), (5, .int x5), (6, .long x6)] [] (I, L) (.inl (some (.int res.1))) (res.2.1, res.2.2) := by
  unfold f_X12_seat_143 at h
  refine E_iload 145 rfl dX12_seat_143 2 rfl ?_
  refine E_istore_n (lv' := [(2, .int x5), (0, .ref 149), (1, .int x1), (5, .int x5), (6, .long x6)]) 146 rfl dX12_seat_145 rfl (Nat.le_of_ble_eq_true rfl) rfl ?_
  refine E_lload 148 rfl dX12_seat_146 4 rfl ?_
  refine E_lstore_n (lv' := [(3, .long x6), (2, .int x5), (0, .ref 149), (1, .int x1), (5, .int x5), (6, .long x6)]) 149 rfl dX12_seat_148 rfl (Nat.le_of_ble_eq_true rfl) rfl ?_
  refine E_sub (lv' := [(0, .ref 149), (1, .int x1), (2, .int x5), (3, .long x6), (5, .int x5)]) [2, 3, 1, 0, 4] rfl ?_
  exact S_X12_seat_149 hk31 x1 x5 x6 x5 I L _ h
def f_X12_seat_120 (k46 : Int32 → Int32 → Int64 → Int32 → Int64 → Int32 → MI → ML → Option (Int32 × MI × ML)) (x1 : Int32) (x2 : Int32) (x3 : Int64) (x5 : Int32) (x8 : Int32) (y0 : Int64) (y1 : Int64) (I : MI) (L : ML) : Option (Int32 × MI × ML) := k46 x1 x2 x3 x5 (y0 + y1) (x8 + 1) I L
set_option maxRecDepth 100000 in
theorem S_X12_seat_120 {g : Gx} {k46 : Int32 → Int32 → Int64 → Int32 → Int64 → Int32 → MI → ML → Option (Int32 × MI × ML)} (hk46 : ∀ (x1z : Int32) (x2z : Int32) (x3z : Int64) (x5z : Int32) (x6z : Int64) (x8z : Int32) (I : MI) (L : ML) (res : Int32 × MI × ML), k46 x1z x2z x3z x5z x6z x8z I L = some res → E g 10 0 mX12_seat 46 [(0, .ref 149), (1, .int x1z), (2, .int x2z), (3, .long x3z), (5, .int x5z), (6, .long x6z), (8, .int x8z)] [] (I, L) (.inl (some (.int res.1))) (res.2.1, res.2.2)) (x1 : Int32) (x2 : Int32) (x3 : Int64) (x5 : Int32) (x8 : Int32) (y0 : Int64) (y1 : Int64) (I : MI) (L : ML) (res : Int32 × MI × ML) (h : f_X12_seat_120 k46 x1 x2 x3 x5 x8 y0 y1 I L = some res) : E g 10 0 mX12_seat 120 [(0, .ref 149), (1, .int x1), (2, .int x2), (3, .long x3), (5, .int x5), (8, .int x8)] [.long y1, .long y0] (I, L) (.inl (some (.int res.1))) (res.2.1, res.2.2) := by
  unfold f_X12_seat_120 at h
  refine E_ladd 121 rfl dX12_seat_120 ?_
  refine E_lstore (lv' := [(6, .long (y0 + y1)), (0, .ref 149), (1, .int x1), (2, .int x2), (3, .long x3), (5, .int x5), (8, .int x8)]) 123 rfl dX12_seat_121 (Nat.le_of_ble_eq_true rfl) rfl ?_
  refine E_iinc (j := 6) (v := x8 + 1) (lv' := [(8, .int (x8 + 1)), (6, .long (y0 + y1)), (0, .ref 149), (1, .int x1), (2, .int x2), (3, .long x3), (5, .int x5)]) 126 rfl dX12_seat_123 rfl rfl (Nat.le_of_ble_eq_true rfl) rfl ?_
  refine E_goto 46 (by decide) dX12_seat_126 ?_
  refine E_sub (lv' := [(0, .ref 149), (1, .int x1), (2, .int x2), (3, .long x3), (5, .int x5), (6, .long (y0 + y1)), (8, .int (x8 + 1))]) [2, 3, 4, 5, 6, 1, 0] rfl ?_
  exact hk46 x1 x2 x3 x5 (y0 + y1) (x8 + 1) I L _ h
def f_X12_seat_89 (k46 : Int32 → Int32 → Int64 → Int32 → Int64 → Int32 → MI → ML → Option (Int32 × MI × ML)) (x1 : Int32) (x2 : Int32) (x3 : Int64) (x5 : Int32) (x8 : Int32) (y0 : Int64) (I : MI) (L : ML) : Option (Int32 × MI × ML) := f_X12_seat_120 k46 x1 x2 x3 x5 x8 y0 0 I L
set_option maxRecDepth 100000 in
theorem S_X12_seat_89 {g : Gx} {k46 : Int32 → Int32 → Int64 → Int32 → Int64 → Int32 → MI → ML → Option (Int32 × MI × ML)} (hk46 : ∀ (x1z : Int32) (x2z : Int32) (x3z : Int64) (x5z : Int32) (x6z : Int64) (x8z : Int32) (I : MI) (L : ML) (res : Int32 × MI × ML), k46 x1z x2z x3z x5z x6z x8z I L = some res → E g 10 0 mX12_seat 46 [(0, .ref 149), (1, .int x1z), (2, .int x2z), (3, .long x3z), (5, .int x5z), (6, .long x6z), (8, .int x8z)] [] (I, L) (.inl (some (.int res.1))) (res.2.1, res.2.2)) (x1 : Int32) (x2 : Int32) (x3 : Int64) (x5 : Int32) (x8 : Int32) (y0 : Int64) (I : MI) (L : ML) (res : Int32 × MI × ML) (h : f_X12_seat_89 k46 x1 x2 x3 x5 x8 y0 I L = some res) : E g 10 0 mX12_seat 89 [(0, .ref 149), (1, .int x1), (2, .int x2), (3, .long x3), (5, .int x5), (8, .int x8)] [.long y0] (I, L) (.inl (some (.int res.1))) (res.2.1, res.2.2) := by
  unfold f_X12_seat_89 at h
  refine E_lconst (v := 0) 90 rfl dX12_seat_89 (by decide) ?_
  refine E_goto 120 (by decide) dX12_seat_90 ?_
  refine E_sub (lv' := [(0, .ref 149), (1, .int x1), (2, .int x2), (3, .long x3), (5, .int x5), (8, .int x8)]) [0, 1, 2, 3, 4, 5] rfl ?_
  exact S_X12_seat_120 hk46 x1 x2 x3 x5 x8 y0 0 I L _ h
def f_X12_seat_46 (k31 : Int32 → Int32 → Int64 → Int32 → MI → ML → Option (Int32 × MI × ML)) : Nat → Int32 → Int32 → Int64 → Int32 → Int64 → Int32 → MI → ML → Option (Int32 × MI × ML)
  | 0, _, _, _, _, _, _, _, _ => none
  | n + 1, x1, x2, x3, x5, x6, x8, I, L => Option.bind (f_X12_noises I L) fun v1 => if v1 ≤ x8 then (if x2 < 0 then (f_X12_seat_143 k31 x1 x5 x6 I L) else (if x3 < x6 then (f_X12_seat_143 k31 x1 x5 x6 I L) else (f_X12_seat_149 k31 x1 x2 x3 x5 I L))) else (Option.bind (f_X12_allTitles x8 I L) fun w5 => if w5.1 = 0 then (f_X12_seat_89 (f_X12_seat_46 k31 n) x1 x2 x3 x5 x8 x6 w5.2.1 w5.2.2) else (Option.bind (f_X12_atOf x8 x5 w5.2.1 w5.2.2) fun v7 => Option.bind (f_X12_ofHeir x1 1 w5.2.1 w5.2.2) fun v8 => if v8 ≤ v7 then (Option.bind (f_X12_winterOf x8 1 w5.2.1 w5.2.2) fun v10 => Option.bind (f_X12_of x8 4 w5.2.1 w5.2.2) fun v11 => Option.bind (ldI w5.2.1 158 6 x1) fun v12 => Option.bind (dvL ((v10 * v11.toInt64) * v12.toInt64) w5.1) fun v13 => f_X12_seat_120 (f_X12_seat_46 k31 n) x1 x2 x3 x5 x8 x6 v13 w5.2.1 w5.2.2) else (f_X12_seat_89 (f_X12_seat_46 k31 n) x1 x2 x3 x5 x8 x6 w5.2.1 w5.2.2)))
set_option maxRecDepth 100000 in
theorem S_X12_seat_46 {g : Gx} {k31 : Int32 → Int32 → Int64 → Int32 → MI → ML → Option (Int32 × MI × ML)} (hk31 : ∀ (x1z : Int32) (x2z : Int32) (x3z : Int64) (x5z : Int32) (I : MI) (L : ML) (res : Int32 × MI × ML), k31 x1z x2z x3z x5z I L = some res → E g 10 0 mX12_seat 31 [(0, .ref 149), (1, .int x1z), (2, .int x2z), (3, .long x3z), (5, .int x5z)] [] (I, L) (.inl (some (.int res.1))) (res.2.1, res.2.2)) : ∀ (n : Nat) (x1 : Int32) (x2 : Int32) (x3 : Int64) (x5 : Int32) (x6 : Int64) (x8 : Int32) (I : MI) (L : ML) (res : Int32 × MI × ML), f_X12_seat_46 k31 n x1 x2 x3 x5 x6 x8 I L = some res → E g 10 0 mX12_seat 46 [(0, .ref 149), (1, .int x1), (2, .int x2), (3, .long x3), (5, .int x5), (6, .long x6), (8, .int x8)] [] (I, L) (.inl (some (.int res.1))) (res.2.1, res.2.2) := by
  intro n
  induction n with
  | zero =>
    intros
    rename_i h
    cases h
  | succ n ih =>
    intro x1 x2 x3 x5 x6 x8 I L res h
    rw [f_X12_seat_46] at h
    refine E_iload 48 rfl dX12_seat_46 6 rfl ?_
    refine E_aload_n 49 rfl dX12_seat_48 rfl 0 rfl ?_
    obtain ⟨v1, hv1, h⟩ := Option.bind_eq_some_iff.mp h
    refine E_cV1 (As := []) 52 rfl dX12_seat_49 shc_149 ck_X12_67 cv_X12_noises rfl (by decide) (Nat.le_of_ble_eq_true rfl) (C_X12_noises (g := g) hv1) rfl ?_
    refine E_icmp_ge 129 55 (by decide) rfl dX12_seat_52 (fun c2 => ?_) (fun c2 => ?_)
    · rw [if_pos c2] at h
      refine E_iload_n 130 rfl dX12_seat_129 rfl 2 rfl ?_
      refine E_if_lt 143 133 (by decide) rfl dX12_seat_130 (fun c3 => ?_) (fun c3 => ?_)
      · rw [if_pos c3] at h
        refine E_sub (lv' := [(0, .ref 149), (1, .int x1), (5, .int x5), (6, .long x6)]) [0, 1, 4, 5] rfl ?_
        exact S_X12_seat_143 hk31 x1 x5 x6 I L _ h
      · rw [if_neg c3] at h
        refine E_lload 135 rfl dX12_seat_133 5 rfl ?_
        refine E_lload_n 136 rfl dX12_seat_135 rfl 3 rfl ?_
        refine E_lc_gt 143 137 140 (by decide) rfl rfl dX12_seat_136 dX12_seat_137 (fun c4 => ?_) (fun c4 => ?_)
        · rw [if_pos c4] at h
          refine E_sub (lv' := [(0, .ref 149), (1, .int x1), (5, .int x5), (6, .long x6)]) [0, 1, 4, 5] rfl ?_
          exact S_X12_seat_143 hk31 x1 x5 x6 I L _ h
        · rw [if_neg c4] at h
          refine E_goto 149 (by decide) dX12_seat_140 ?_
          refine E_sub (lv' := [(0, .ref 149), (1, .int x1), (2, .int x2), (3, .long x3), (5, .int x5)]) [0, 1, 2, 3, 4] rfl ?_
          exact S_X12_seat_149 hk31 x1 x2 x3 x5 I L _ h
    · rw [if_neg c2] at h
      refine E_aload_n 56 rfl dX12_seat_55 rfl 0 rfl ?_
      refine E_iload 58 rfl dX12_seat_56 6 rfl ?_
      obtain ⟨w5, hw5, h⟩ := Option.bind_eq_some_iff.mp h
      refine E_cV1 (As := [.int x8]) 61 rfl dX12_seat_58 shc_149 ck_X12_285 cv_X12_allTitles rfl (by decide) (Nat.le_of_ble_eq_true rfl) (C_X12_allTitles (g := g) hw5) rfl ?_
      refine E_lstore (lv' := [(9, .long w5.1), (0, .ref 149), (1, .int x1), (2, .int x2), (3, .long x3), (5, .int x5), (6, .long x6), (8, .int x8)]) 63 rfl dX12_seat_61 (Nat.le_of_ble_eq_true rfl) rfl ?_
      refine E_lload 65 rfl dX12_seat_63 6 rfl ?_
      refine E_lload 67 rfl dX12_seat_65 0 rfl ?_
      refine E_lconst (v := 0) 68 rfl dX12_seat_67 (by decide) ?_
      refine E_lc_eq 89 69 72 (by decide) rfl rfl dX12_seat_68 dX12_seat_69 (fun c6 => ?_) (fun c6 => ?_)
      · rw [if_pos c6] at h
        refine E_sub (lv' := [(0, .ref 149), (1, .int x1), (2, .int x2), (3, .long x3), (5, .int x5), (8, .int x8)]) [1, 2, 3, 4, 5, 7] rfl ?_
        exact S_X12_seat_89 ih x1 x2 x3 x5 x8 x6 w5.2.1 w5.2.2 _ h
      · rw [if_neg c6] at h
        refine E_aload_n 73 rfl dX12_seat_72 rfl 1 rfl ?_
        refine E_iload 75 rfl dX12_seat_73 7 rfl ?_
        refine E_iload 77 rfl dX12_seat_75 5 rfl ?_
        obtain ⟨v7, hv7, h⟩ := Option.bind_eq_some_iff.mp h
        refine E_cV1 (As := [.int x8, .int x5]) 80 rfl dX12_seat_77 shc_149 ck_X12_269 cv_X12_atOf rfl (by decide) (Nat.le_of_ble_eq_true rfl) (C_X12_atOf (g := g) hv7) rfl ?_
        refine E_aload_n 81 rfl dX12_seat_80 rfl 1 rfl ?_
        refine E_iload_n 82 rfl dX12_seat_81 rfl 2 rfl ?_
        refine E_iconst (v := 1) 83 rfl dX12_seat_82 (by decide) ?_
        obtain ⟨v8, hv8, h⟩ := Option.bind_eq_some_iff.mp h
        refine E_cV1 (As := [.int x1, .int 1]) 86 rfl dX12_seat_83 shc_149 ck_X12_266 cv_X12_ofHeir rfl (by decide) (Nat.le_of_ble_eq_true rfl) (C_X12_ofHeir (g := g) hv8) rfl ?_
        refine E_icmp_ge 93 89 (by decide) rfl dX12_seat_86 (fun c9 => ?_) (fun c9 => ?_)
        · rw [if_pos c9] at h
          refine E_aload_n 94 rfl dX12_seat_93 rfl 1 rfl ?_
          refine E_iload 96 rfl dX12_seat_94 7 rfl ?_
          refine E_iconst (v := 1) 97 rfl dX12_seat_96 (by decide) ?_
          obtain ⟨v10, hv10, h⟩ := Option.bind_eq_some_iff.mp h
          refine E_cV1 (As := [.int x8, .int 1]) 100 rfl dX12_seat_97 shc_149 ck_X12_344 cv_X12_winterOf rfl (by decide) (Nat.le_of_ble_eq_true rfl) (C_X12_winterOf (g := g) hv10) rfl ?_
          refine E_aload_n 101 rfl dX12_seat_100 rfl 1 rfl ?_
          refine E_iload 103 rfl dX12_seat_101 7 rfl ?_
          refine E_iconst (v := 4) 104 rfl dX12_seat_103 (by decide) ?_
          obtain ⟨v11, hv11, h⟩ := Option.bind_eq_some_iff.mp h
          refine E_cV1 (As := [.int x8, .int 4]) 107 rfl dX12_seat_104 shc_149 ck_X12_260 cv_X12_of rfl (by decide) (Nat.le_of_ble_eq_true rfl) (C_X12_of (g := g) hv11) rfl ?_
          refine E_i2l 108 rfl dX12_seat_107 ?_
          refine E_lmul 109 rfl dX12_seat_108 ?_
          refine E_aload_n 110 rfl dX12_seat_109 rfl 1 rfl ?_
          refine E_gR 158 113 rfl dX12_seat_110 shc_149 fl_X12_42 rfl (by decide) (by decide) ?_
          refine E_iload_n 114 rfl dX12_seat_113 rfl 2 rfl ?_
          obtain ⟨v12, hv12, h⟩ := Option.bind_eq_some_iff.mp h
          refine E_ldI 115 rfl dX12_seat_114 shc_158 hv12 ?_
          refine E_i2l 116 rfl dX12_seat_115 ?_
          refine E_lmul 117 rfl dX12_seat_116 ?_
          refine E_lload 119 rfl dX12_seat_117 0 rfl ?_
          obtain ⟨v13, hv13, h⟩ := Option.bind_eq_some_iff.mp h
          refine E_dvL 120 rfl dX12_seat_119 hv13 ?_
          refine E_sub (lv' := [(0, .ref 149), (1, .int x1), (2, .int x2), (3, .long x3), (5, .int x5), (8, .int x8)]) [1, 2, 3, 4, 5, 7] rfl ?_
          exact S_X12_seat_120 ih x1 x2 x3 x5 x8 x6 v13 w5.2.1 w5.2.2 _ h
        · rw [if_neg c9] at h
          refine E_sub (lv' := [(0, .ref 149), (1, .int x1), (2, .int x2), (3, .long x3), (5, .int x5), (8, .int x8)]) [1, 2, 3, 4, 5, 7] rfl ?_
          exact S_X12_seat_89 ih x1 x2 x3 x5 x8 x6 w5.2.1 w5.2.2 _ h
def f_X12_seat_31 : Nat → Int32 → Int32 → Int64 → Int32 → MI → ML → Option (Int32 × MI × ML)
  | 0, _, _, _, _, _, _ => none
  | n + 1, x1, x2, x3, x5, I, L => Option.bind (f_X12_rooms I L) fun v1 => if v1 ≤ x5 then (some (x2, I, L)) else (f_X12_seat_46 (f_X12_seat_31 n) FU x1 x2 x3 x5 0 0 I L)
set_option maxRecDepth 100000 in
theorem S_X12_seat_31 {g : Gx} : ∀ (n : Nat) (x1 : Int32) (x2 : Int32) (x3 : Int64) (x5 : Int32) (I : MI) (L : ML) (res : Int32 × MI × ML), f_X12_seat_31 n x1 x2 x3 x5 I L = some res → E g 10 0 mX12_seat 31 [(0, .ref 149), (1, .int x1), (2, .int x2), (3, .long x3), (5, .int x5)] [] (I, L) (.inl (some (.int res.1))) (res.2.1, res.2.2) := by
  intro n
  induction n with
  | zero =>
    intros
    rename_i h
    cases h
  | succ n ih =>
    intro x1 x2 x3 x5 I L res h
    rw [f_X12_seat_31] at h
    refine E_iload 33 rfl dX12_seat_31 4 rfl ?_
    refine E_aload_n 34 rfl dX12_seat_33 rfl 0 rfl ?_
    obtain ⟨v1, hv1, h⟩ := Option.bind_eq_some_iff.mp h
    refine E_cV1 (As := []) 37 rfl dX12_seat_34 shc_149 ck_X12_56 cv_X12_rooms rfl (by decide) (Nat.le_of_ble_eq_true rfl) (C_X12_rooms (g := g) hv1) rfl ?_
    refine E_icmp_ge 155 40 (by decide) rfl dX12_seat_37 (fun c2 => ?_) (fun c2 => ?_)
    · rw [if_pos c2] at h
      refine E_iload_n 156 rfl dX12_seat_155 rfl 2 rfl ?_
      cases h
      exact E_iret rfl dX12_seat_156
    · rw [if_neg c2] at h
      refine E_lconst (v := 0) 41 rfl dX12_seat_40 (by decide) ?_
      refine E_lstore (lv' := [(6, .long 0), (0, .ref 149), (1, .int x1), (2, .int x2), (3, .long x3), (5, .int x5)]) 43 rfl dX12_seat_41 (Nat.le_of_ble_eq_true rfl) rfl ?_
      refine E_iconst (v := 0) 44 rfl dX12_seat_43 (by decide) ?_
      refine E_istore (lv' := [(8, .int 0), (6, .long 0), (0, .ref 149), (1, .int x1), (2, .int x2), (3, .long x3), (5, .int x5)]) 46 rfl dX12_seat_44 (Nat.le_of_ble_eq_true rfl) rfl ?_
      refine E_sub (lv' := [(0, .ref 149), (1, .int x1), (2, .int x2), (3, .long x3), (5, .int x5), (6, .long 0), (8, .int 0)]) [2, 3, 4, 5, 6, 1, 0] rfl ?_
      exact S_X12_seat_46 ih FU x1 x2 x3 x5 0 0 I L _ h
def f_X12_seat (x1 : Int32) (I : MI) (L : ML) : Option (Int32 × MI × ML) := Option.bind (pfI I 149 0 0) fun I1 => Option.bind (f_X12_noHeir x1 I1 L) fun v2 => Option.bind (f_X12_throwsIf v2 1 I1 L) fun w3 => if w3.1 = true then (some (0, w3.2.1, w3.2.2)) else (Option.bind (f_X12_spreads w3.2.1 w3.2.2) fun w5 => f_X12_seat_31 FU x1 ((-1)) 0 0 w5.1 w5.2)
set_option maxRecDepth 100000 in
theorem S_X12_seat {g : Gx} (x1 : Int32) (I : MI) (L : ML) (res : Int32 × MI × ML) (h : f_X12_seat x1 I L = some res) : E g 10 0 mX12_seat 0 [(0, .ref 149), (1, .int x1)] [] (I, L) (.inl (some (.int res.1))) (res.2.1, res.2.2) := by
  unfold f_X12_seat at h
  refine E_aload_n 1 rfl dX12_seat_0 rfl 0 rfl ?_
  refine E_iconst (v := 0) 2 rfl dX12_seat_1 (by decide) ?_
  obtain ⟨I1, hI1, h⟩ := Option.bind_eq_some_iff.mp h
  refine E_pfI 5 rfl dX12_seat_2 shc_149 fl_X12_3 rfl hI1 ?_
  refine E_aload_n 6 rfl dX12_seat_5 rfl 0 rfl ?_
  refine E_aload_n 7 rfl dX12_seat_6 rfl 0 rfl ?_
  refine E_iload_n 8 rfl dX12_seat_7 rfl 1 rfl ?_
  obtain ⟨v2, hv2, h⟩ := Option.bind_eq_some_iff.mp h
  refine E_cV1 (As := [.int x1]) 11 rfl dX12_seat_8 shc_149 ck_X12_301 cv_X12_noHeir rfl (by decide) (Nat.le_of_ble_eq_true rfl) (C_X12_noHeir (g := g) hv2) rfl ?_
  refine E_iconst (v := 1) 12 rfl dX12_seat_11 (by decide) ?_
  obtain ⟨w3, hw3, h⟩ := Option.bind_eq_some_iff.mp h
  refine E_cV1 (As := [.int (bI v2), .int 1]) 15 rfl dX12_seat_12 shc_149 ck_X12_245 cv_X12_throwsIf rfl (by decide) (Nat.le_of_ble_eq_true rfl) (C_X12_throwsIf (g := g) hw3) rfl ?_
  refine E_if_eqB 20 18 (by decide) rfl dX12_seat_15 (fun c4 => ?_) (fun c4 => ?_)
  · rw [if_neg (by rw [c4]; decide)] at h
    refine E_aload_n 21 rfl dX12_seat_20 rfl 0 rfl ?_
    obtain ⟨w5, hw5, h⟩ := Option.bind_eq_some_iff.mp h
    refine E_cV0 (As := []) 24 rfl dX12_seat_21 shc_149 ck_X12_298 cv_X12_spreads rfl (by decide) (Nat.le_of_ble_eq_true rfl) (C_X12_spreads (g := g) hw5) rfl ?_
    refine E_iconst (v := (-1)) 25 rfl dX12_seat_24 (by decide) ?_
    refine E_istore_n (lv' := [(2, .int ((-1))), (0, .ref 149), (1, .int x1)]) 26 rfl dX12_seat_25 rfl (Nat.le_of_ble_eq_true rfl) rfl ?_
    refine E_lconst (v := 0) 27 rfl dX12_seat_26 (by decide) ?_
    refine E_lstore_n (lv' := [(3, .long 0), (2, .int ((-1))), (0, .ref 149), (1, .int x1)]) 28 rfl dX12_seat_27 rfl (Nat.le_of_ble_eq_true rfl) rfl ?_
    refine E_iconst (v := 0) 29 rfl dX12_seat_28 (by decide) ?_
    refine E_istore (lv' := [(5, .int 0), (3, .long 0), (2, .int ((-1))), (0, .ref 149), (1, .int x1)]) 31 rfl dX12_seat_29 (Nat.le_of_ble_eq_true rfl) rfl ?_
    refine E_sub (lv' := [(0, .ref 149), (1, .int x1), (2, .int ((-1))), (3, .long 0), (5, .int 0)]) [3, 4, 2, 1, 0] rfl ?_
    exact S_X12_seat_31 FU x1 ((-1)) 0 0 w5.1 w5.2 _ h
  · rw [if_pos c4] at h
    refine E_iconst (v := 0) 19 rfl dX12_seat_18 (by decide) ?_
    cases h
    exact E_iret rfl dX12_seat_19
theorem C_X12_seat {g : Gx} {x1 : Int32} {I : MI} {L : ML} {res : Int32 × MI × ML} (h : f_X12_seat x1 I L = some res) : Ent g 10 0 mX12_seat [.ref 149, .int x1] (I, L) (.inl (some (.int res.1))) (res.2.1, res.2.2) := Ent_of (by decide +kernel) (Nat.le_of_ble_eq_true rfl) (S_X12_seat x1 I L _ h)
def f_X12_valueOf_5 : Nat → Int32 → Int64 → Int32 → MI → ML → Option (Int64 × MI × ML)
  | 0, _, _, _, _, _ => none
  | n + 1, x1, x2, x4, I, L => Option.bind (f_X12_noises I L) fun v1 => if v1 ≤ x4 then (some (x2, I, L)) else (Option.bind (f_X12_dueOf x4 100 I L) fun v3 => Option.bind (f_X12_parts x4 v3 I L) fun w4 => Option.bind (ldL w4.2.2 159 6 x1) fun v5 => f_X12_valueOf_5 n x1 (x2 + v5) (x4 + 1) w4.2.1 w4.2.2)
set_option maxRecDepth 100000 in
theorem S_X12_valueOf_5 {g : Gx} : ∀ (n : Nat) (x1 : Int32) (x2 : Int64) (x4 : Int32) (I : MI) (L : ML) (res : Int64 × MI × ML), f_X12_valueOf_5 n x1 x2 x4 I L = some res → E g 11 0 mX12_valueOf 5 [(0, .ref 149), (1, .int x1), (2, .long x2), (4, .int x4)] [] (I, L) (.inl (some (.long res.1))) (res.2.1, res.2.2) := by
  intro n
  induction n with
  | zero =>
    intros
    rename_i h
    cases h
  | succ n ih =>
    intro x1 x2 x4 I L res h
    rw [f_X12_valueOf_5] at h
    refine E_iload 7 rfl dX12_valueOf_5 3 rfl ?_
    refine E_aload_n 8 rfl dX12_valueOf_7 rfl 0 rfl ?_
    obtain ⟨v1, hv1, h⟩ := Option.bind_eq_some_iff.mp h
    refine E_cV1 (As := []) 11 rfl dX12_valueOf_8 shc_149 ck_X12_67 cv_X12_noises rfl (by decide) (Nat.le_of_ble_eq_true rfl) (C_X12_noises (g := g) hv1) rfl ?_
    refine E_icmp_ge 44 14 (by decide) rfl dX12_valueOf_11 (fun c2 => ?_) (fun c2 => ?_)
    · rw [if_pos c2] at h
      refine E_lload_n 45 rfl dX12_valueOf_44 rfl 2 rfl ?_
      cases h
      exact E_lret rfl dX12_valueOf_45
    · rw [if_neg c2] at h
      refine E_aload_n 15 rfl dX12_valueOf_14 rfl 0 rfl ?_
      refine E_iload 17 rfl dX12_valueOf_15 3 rfl ?_
      refine E_aload_n 18 rfl dX12_valueOf_17 rfl 0 rfl ?_
      refine E_iload 20 rfl dX12_valueOf_18 3 rfl ?_
      refine E_bipush (v := 100) 22 rfl dX12_valueOf_20 (by decide) ?_
      obtain ⟨v3, hv3, h⟩ := Option.bind_eq_some_iff.mp h
      refine E_cV1 (As := [.int x4, .int 100]) 25 rfl dX12_valueOf_22 shc_149 ck_X12_351 cv_X12_dueOf rfl (by decide) (Nat.le_of_ble_eq_true rfl) (C_X12_dueOf (g := g) hv3) rfl ?_
      obtain ⟨w4, hw4, h⟩ := Option.bind_eq_some_iff.mp h
      refine E_cV1 (As := [.int x4, .long v3]) 28 rfl dX12_valueOf_25 shc_149 ck_X12_308 cv_X12_parts rfl (by decide) (Nat.le_of_ble_eq_true rfl) (C_X12_parts (g := g) hw4) rfl ?_
      refine E_pop2 29 rfl dX12_valueOf_28 rfl ?_
      refine E_lload_n 30 rfl dX12_valueOf_29 rfl 2 rfl ?_
      refine E_aload_n 31 rfl dX12_valueOf_30 rfl 0 rfl ?_
      refine E_gR 159 34 rfl dX12_valueOf_31 shc_149 fl_X12_45 rfl (by decide) (by decide) ?_
      refine E_iload_n 35 rfl dX12_valueOf_34 rfl 1 rfl ?_
      obtain ⟨v5, hv5, h⟩ := Option.bind_eq_some_iff.mp h
      refine E_ldL 36 rfl dX12_valueOf_35 shc_159 hv5 ?_
      refine E_ladd 37 rfl dX12_valueOf_36 ?_
      refine E_lstore_n (lv' := [(2, .long (x2 + v5)), (0, .ref 149), (1, .int x1), (4, .int x4)]) 38 rfl dX12_valueOf_37 rfl (Nat.le_of_ble_eq_true rfl) rfl ?_
      refine E_iinc (j := 3) (v := x4 + 1) (lv' := [(4, .int (x4 + 1)), (2, .long (x2 + v5)), (0, .ref 149), (1, .int x1)]) 41 rfl dX12_valueOf_38 rfl rfl (Nat.le_of_ble_eq_true rfl) rfl ?_
      refine E_goto 5 (by decide) dX12_valueOf_41 ?_
      refine E_sub (lv' := [(0, .ref 149), (1, .int x1), (2, .long (x2 + v5)), (4, .int (x4 + 1))]) [2, 3, 1, 0] rfl ?_
      exact ih x1 (x2 + v5) (x4 + 1) w4.2.1 w4.2.2 _ h
def f_X12_valueOf (x1 : Int32) (I : MI) (L : ML) : Option (Int64 × MI × ML) := f_X12_valueOf_5 FU x1 0 0 I L
set_option maxRecDepth 100000 in
theorem S_X12_valueOf {g : Gx} (x1 : Int32) (I : MI) (L : ML) (res : Int64 × MI × ML) (h : f_X12_valueOf x1 I L = some res) : E g 11 0 mX12_valueOf 0 [(0, .ref 149), (1, .int x1)] [] (I, L) (.inl (some (.long res.1))) (res.2.1, res.2.2) := by
  unfold f_X12_valueOf at h
  refine E_lconst (v := 0) 1 rfl dX12_valueOf_0 (by decide) ?_
  refine E_lstore_n (lv' := [(2, .long 0), (0, .ref 149), (1, .int x1)]) 2 rfl dX12_valueOf_1 rfl (Nat.le_of_ble_eq_true rfl) rfl ?_
  refine E_iconst (v := 0) 3 rfl dX12_valueOf_2 (by decide) ?_
  refine E_istore (lv' := [(4, .int 0), (2, .long 0), (0, .ref 149), (1, .int x1)]) 5 rfl dX12_valueOf_3 (Nat.le_of_ble_eq_true rfl) rfl ?_
  refine E_sub (lv' := [(0, .ref 149), (1, .int x1), (2, .long 0), (4, .int 0)]) [2, 3, 1, 0] rfl ?_
  exact S_X12_valueOf_5 FU x1 0 0 I L _ h
theorem C_X12_valueOf {g : Gx} {x1 : Int32} {I : MI} {L : ML} {res : Int64 × MI × ML} (h : f_X12_valueOf x1 I L = some res) : Ent g 11 0 mX12_valueOf [.ref 149, .int x1] (I, L) (.inl (some (.long res.1))) (res.2.1, res.2.2) := Ent_of (by decide +kernel) (Nat.le_of_ble_eq_true rfl) (S_X12_valueOf x1 I L _ h)
def f_X12_value (x1 : Int32) (I : MI) (L : ML) : Option (Int64 × MI × ML) := Option.bind (pfI I 149 0 0) fun I1 => Option.bind (f_X12_noHeir x1 I1 L) fun v2 => Option.bind (f_X12_throwsIf v2 1 I1 L) fun w3 => if w3.1 = true then (some (0, w3.2.1, w3.2.2)) else (Option.bind (f_X12_spreads w3.2.1 w3.2.2) fun w5 => Option.bind (f_X12_valueOf x1 w5.1 w5.2) fun w6 => some (w6.1, w6.2.1, w6.2.2))
set_option maxRecDepth 100000 in
theorem S_X12_value {g : Gx} (x1 : Int32) (I : MI) (L : ML) (res : Int64 × MI × ML) (h : f_X12_value x1 I L = some res) : E g 12 0 mX12_value 0 [(0, .ref 149), (1, .int x1)] [] (I, L) (.inl (some (.long res.1))) (res.2.1, res.2.2) := by
  unfold f_X12_value at h
  refine E_aload_n 1 rfl dX12_value_0 rfl 0 rfl ?_
  refine E_iconst (v := 0) 2 rfl dX12_value_1 (by decide) ?_
  obtain ⟨I1, hI1, h⟩ := Option.bind_eq_some_iff.mp h
  refine E_pfI 5 rfl dX12_value_2 shc_149 fl_X12_3 rfl hI1 ?_
  refine E_aload_n 6 rfl dX12_value_5 rfl 0 rfl ?_
  refine E_aload_n 7 rfl dX12_value_6 rfl 0 rfl ?_
  refine E_iload_n 8 rfl dX12_value_7 rfl 1 rfl ?_
  obtain ⟨v2, hv2, h⟩ := Option.bind_eq_some_iff.mp h
  refine E_cV1 (As := [.int x1]) 11 rfl dX12_value_8 shc_149 ck_X12_301 cv_X12_noHeir rfl (by decide) (Nat.le_of_ble_eq_true rfl) (C_X12_noHeir (g := g) hv2) rfl ?_
  refine E_iconst (v := 1) 12 rfl dX12_value_11 (by decide) ?_
  obtain ⟨w3, hw3, h⟩ := Option.bind_eq_some_iff.mp h
  refine E_cV1 (As := [.int (bI v2), .int 1]) 15 rfl dX12_value_12 shc_149 ck_X12_245 cv_X12_throwsIf rfl (by decide) (Nat.le_of_ble_eq_true rfl) (C_X12_throwsIf (g := g) hw3) rfl ?_
  refine E_if_eqB 20 18 (by decide) rfl dX12_value_15 (fun c4 => ?_) (fun c4 => ?_)
  · rw [if_neg (by rw [c4]; decide)] at h
    refine E_aload_n 21 rfl dX12_value_20 rfl 0 rfl ?_
    obtain ⟨w5, hw5, h⟩ := Option.bind_eq_some_iff.mp h
    refine E_cV0 (As := []) 24 rfl dX12_value_21 shc_149 ck_X12_298 cv_X12_spreads rfl (by decide) (Nat.le_of_ble_eq_true rfl) (C_X12_spreads (g := g) hw5) rfl ?_
    refine E_aload_n 25 rfl dX12_value_24 rfl 0 rfl ?_
    refine E_iload_n 26 rfl dX12_value_25 rfl 1 rfl ?_
    obtain ⟨w6, hw6, h⟩ := Option.bind_eq_some_iff.mp h
    refine E_cV1 (As := [.int x1]) 29 rfl dX12_value_26 shc_149 ck_X12_370 cv_X12_valueOf rfl (by decide) (Nat.le_of_ble_eq_true rfl) (C_X12_valueOf (g := g) hw6) rfl ?_
    cases h
    exact E_lret rfl dX12_value_29
  · rw [if_pos c4] at h
    refine E_lconst (v := 0) 19 rfl dX12_value_18 (by decide) ?_
    cases h
    exact E_lret rfl dX12_value_19
theorem C_X12_value {g : Gx} {x1 : Int32} {I : MI} {L : ML} {res : Int64 × MI × ML} (h : f_X12_value x1 I L = some res) : Ent g 12 0 mX12_value [.ref 149, .int x1] (I, L) (.inl (some (.long res.1))) (res.2.1, res.2.2) := Ent_of (by decide +kernel) (Nat.le_of_ble_eq_true rfl) (S_X12_value x1 I L _ h)
def f_X12_sale_86 (y0 : Int64) (I : MI) (L : ML) : Option (Int64 × MI × ML) := some (y0, I, L)
set_option maxRecDepth 100000 in
theorem S_X12_sale_86 {g : Gx} (y0 : Int64) (I : MI) (L : ML) (res : Int64 × MI × ML) (h : f_X12_sale_86 y0 I L = some res) : E g 12 0 mX12_sale 86 [] [.long y0] (I, L) (.inl (some (.long res.1))) (res.2.1, res.2.2) := by
  unfold f_X12_sale_86 at h
  cases h
  exact E_lret rfl dX12_sale_86
def f_X12_sale_77 (x2 : Int32) (I : MI) (L : ML) : Option (Int64 × MI × ML) := f_X12_sale_86 x2.toInt64 I L
set_option maxRecDepth 100000 in
theorem S_X12_sale_77 {g : Gx} (x2 : Int32) (I : MI) (L : ML) (res : Int64 × MI × ML) (h : f_X12_sale_77 x2 I L = some res) : E g 12 0 mX12_sale 77 [(2, .int x2)] [] (I, L) (.inl (some (.long res.1))) (res.2.1, res.2.2) := by
  unfold f_X12_sale_77 at h
  refine E_iload_n 78 rfl dX12_sale_77 rfl 0 rfl ?_
  refine E_i2l 79 rfl dX12_sale_78 ?_
  refine E_goto 86 (by decide) dX12_sale_79 ?_
  refine E_sub (lv' := []) [] rfl ?_
  exact S_X12_sale_86 x2.toInt64 I L _ h
def f_X12_sale_63 (k19 : Bool → Int32 → Int64 → Int64 → Int32 → MI → ML → Option (Int64 × MI × ML)) (x1 : Bool) (x2 : Int32) (x3 : Int64) (x5 : Int64) (x7 : Int32) (I : MI) (L : ML) : Option (Int64 × MI × ML) := k19 x1 x2 x3 x5 (x7 + 1) I L
set_option maxRecDepth 100000 in
theorem S_X12_sale_63 {g : Gx} {k19 : Bool → Int32 → Int64 → Int64 → Int32 → MI → ML → Option (Int64 × MI × ML)} (hk19 : ∀ (x1z : Bool) (x2z : Int32) (x3z : Int64) (x5z : Int64) (x7z : Int32) (I : MI) (L : ML) (res : Int64 × MI × ML), k19 x1z x2z x3z x5z x7z I L = some res → E g 12 0 mX12_sale 19 [(0, .ref 149), (1, .int (bI x1z)), (2, .int x2z), (3, .long x3z), (5, .long x5z), (7, .int x7z)] [] (I, L) (.inl (some (.long res.1))) (res.2.1, res.2.2)) (x1 : Bool) (x2 : Int32) (x3 : Int64) (x5 : Int64) (x7 : Int32) (I : MI) (L : ML) (res : Int64 × MI × ML) (h : f_X12_sale_63 k19 x1 x2 x3 x5 x7 I L = some res) : E g 12 0 mX12_sale 63 [(0, .ref 149), (1, .int (bI x1)), (2, .int x2), (3, .long x3), (5, .long x5), (7, .int x7)] [] (I, L) (.inl (some (.long res.1))) (res.2.1, res.2.2) := by
  unfold f_X12_sale_63 at h
  refine E_iinc (j := 5) (v := x7 + 1) (lv' := [(7, .int (x7 + 1)), (0, .ref 149), (1, .int (bI x1)), (2, .int x2), (3, .long x3), (5, .long x5)]) 66 rfl dX12_sale_63 rfl rfl (Nat.le_of_ble_eq_true rfl) rfl ?_
  refine E_goto 19 (by decide) dX12_sale_66 ?_
  refine E_sub (lv' := [(0, .ref 149), (1, .int (bI x1)), (2, .int x2), (3, .long x3), (5, .long x5), (7, .int (x7 + 1))]) [1, 2, 3, 4, 5, 0] rfl ?_
  exact hk19 x1 x2 x3 x5 (x7 + 1) I L _ h
def f_X12_sale_57 (k19 : Bool → Int32 → Int64 → Int64 → Int32 → MI → ML → Option (Int64 × MI × ML)) (x1 : Bool) (x5 : Int64) (x7 : Int32) (x8 : Int64) (I : MI) (L : ML) : Option (Int64 × MI × ML) := f_X12_sale_63 k19 x1 x7 x8 x5 x7 I L
set_option maxRecDepth 100000 in
theorem S_X12_sale_57 {g : Gx} {k19 : Bool → Int32 → Int64 → Int64 → Int32 → MI → ML → Option (Int64 × MI × ML)} (hk19 : ∀ (x1z : Bool) (x2z : Int32) (x3z : Int64) (x5z : Int64) (x7z : Int32) (I : MI) (L : ML) (res : Int64 × MI × ML), k19 x1z x2z x3z x5z x7z I L = some res → E g 12 0 mX12_sale 19 [(0, .ref 149), (1, .int (bI x1z)), (2, .int x2z), (3, .long x3z), (5, .long x5z), (7, .int x7z)] [] (I, L) (.inl (some (.long res.1))) (res.2.1, res.2.2)) (x1 : Bool) (x5 : Int64) (x7 : Int32) (x8 : Int64) (I : MI) (L : ML) (res : Int64 × MI × ML) (h : f_X12_sale_57 k19 x1 x5 x7 x8 I L = some res) : E g 12 0 mX12_sale 57 [(0, .ref 149), (1, .int (bI x1)), (5, .long x5), (7, .int x7), (8, .long x8)] [] (I, L) (.inl (some (.long res.1))) (res.2.1, res.2.2) := by
  unfold f_X12_sale_57 at h
  refine E_iload 59 rfl dX12_sale_57 3 rfl ?_
  refine E_istore_n (lv' := [(2, .int x7), (0, .ref 149), (1, .int (bI x1)), (5, .long x5), (7, .int x7), (8, .long x8)]) 60 rfl dX12_sale_59 rfl (Nat.le_of_ble_eq_true rfl) rfl ?_
  refine E_lload 62 rfl dX12_sale_60 5 rfl ?_
  refine E_lstore_n (lv' := [(3, .long x8), (2, .int x7), (0, .ref 149), (1, .int (bI x1)), (5, .long x5), (7, .int x7), (8, .long x8)]) 63 rfl dX12_sale_62 rfl (Nat.le_of_ble_eq_true rfl) rfl ?_
  refine E_sub (lv' := [(0, .ref 149), (1, .int (bI x1)), (2, .int x7), (3, .long x8), (5, .long x5), (7, .int x7)]) [2, 3, 1, 0, 4, 5] rfl ?_
  exact S_X12_sale_63 hk19 x1 x7 x8 x5 x7 I L _ h
def f_X12_sale_19 : Nat → Bool → Int32 → Int64 → Int64 → Int32 → MI → ML → Option (Int64 × MI × ML)
  | 0, _, _, _, _, _, _, _ => none
  | n + 1, x1, x2, x3, x5, x7, I, L => Option.bind (f_X12_heirs I L) fun v1 => if v1 ≤ x7 then (if x2 < 0 then (f_X12_sale_77 x2 I L) else (if x1 = true then (f_X12_sale_86 (x5 - x3) I L) else (f_X12_sale_77 x2 I L))) else (Option.bind (f_X12_valueOf x7 I L) fun w5 => if x2 < 0 then (f_X12_sale_57 (f_X12_sale_19 n) x1 (x5 + w5.1) x7 w5.1 w5.2.1 w5.2.2) else (if x3 < w5.1 then (f_X12_sale_57 (f_X12_sale_19 n) x1 (x5 + w5.1) x7 w5.1 w5.2.1 w5.2.2) else (f_X12_sale_63 (f_X12_sale_19 n) x1 x2 x3 (x5 + w5.1) x7 w5.2.1 w5.2.2)))
set_option maxRecDepth 100000 in
theorem S_X12_sale_19 {g : Gx} : ∀ (n : Nat) (x1 : Bool) (x2 : Int32) (x3 : Int64) (x5 : Int64) (x7 : Int32) (I : MI) (L : ML) (res : Int64 × MI × ML), f_X12_sale_19 n x1 x2 x3 x5 x7 I L = some res → E g 12 0 mX12_sale 19 [(0, .ref 149), (1, .int (bI x1)), (2, .int x2), (3, .long x3), (5, .long x5), (7, .int x7)] [] (I, L) (.inl (some (.long res.1))) (res.2.1, res.2.2) := by
  intro n
  induction n with
  | zero =>
    intros
    rename_i h
    cases h
  | succ n ih =>
    intro x1 x2 x3 x5 x7 I L res h
    rw [f_X12_sale_19] at h
    refine E_iload 21 rfl dX12_sale_19 5 rfl ?_
    refine E_aload_n 22 rfl dX12_sale_21 rfl 0 rfl ?_
    obtain ⟨v1, hv1, h⟩ := Option.bind_eq_some_iff.mp h
    refine E_cV1 (As := []) 25 rfl dX12_sale_22 shc_149 ck_X12_64 cv_X12_heirs rfl (by decide) (Nat.le_of_ble_eq_true rfl) (C_X12_heirs (g := g) hv1) rfl ?_
    refine E_icmp_ge 69 28 (by decide) rfl dX12_sale_25 (fun c2 => ?_) (fun c2 => ?_)
    · rw [if_pos c2] at h
      refine E_iload_n 70 rfl dX12_sale_69 rfl 2 rfl ?_
      refine E_if_lt 77 73 (by decide) rfl dX12_sale_70 (fun c3 => ?_) (fun c3 => ?_)
      · rw [if_pos c3] at h
        refine E_sub (lv' := [(2, .int x2)]) [2] rfl ?_
        exact S_X12_sale_77 x2 I L _ h
      · rw [if_neg c3] at h
        refine E_iload_n 74 rfl dX12_sale_73 rfl 1 rfl ?_
        refine E_if_neB 82 77 (by decide) rfl dX12_sale_74 (fun c4 => ?_) (fun c4 => ?_)
        · rw [if_pos c4] at h
          refine E_lload 84 rfl dX12_sale_82 4 rfl ?_
          refine E_lload_n 85 rfl dX12_sale_84 rfl 3 rfl ?_
          refine E_lsub 86 rfl dX12_sale_85 ?_
          refine E_sub (lv' := []) [] rfl ?_
          exact S_X12_sale_86 (x5 - x3) I L _ h
        · rw [if_neg (by rw [c4]; decide)] at h
          refine E_sub (lv' := [(2, .int x2)]) [2] rfl ?_
          exact S_X12_sale_77 x2 I L _ h
    · rw [if_neg c2] at h
      refine E_aload_n 29 rfl dX12_sale_28 rfl 0 rfl ?_
      refine E_iload 31 rfl dX12_sale_29 5 rfl ?_
      obtain ⟨w5, hw5, h⟩ := Option.bind_eq_some_iff.mp h
      refine E_cV1 (As := [.int x7]) 34 rfl dX12_sale_31 shc_149 ck_X12_370 cv_X12_valueOf rfl (by decide) (Nat.le_of_ble_eq_true rfl) (C_X12_valueOf (g := g) hw5) rfl ?_
      refine E_lstore (lv' := [(8, .long w5.1), (0, .ref 149), (1, .int (bI x1)), (2, .int x2), (3, .long x3), (5, .long x5), (7, .int x7)]) 36 rfl dX12_sale_34 (Nat.le_of_ble_eq_true rfl) rfl ?_
      refine E_lload 38 rfl dX12_sale_36 5 rfl ?_
      refine E_lload 40 rfl dX12_sale_38 0 rfl ?_
      refine E_ladd 41 rfl dX12_sale_40 ?_
      refine E_lstore (lv' := [(5, .long (x5 + w5.1)), (8, .long w5.1), (0, .ref 149), (1, .int (bI x1)), (2, .int x2), (3, .long x3), (7, .int x7)]) 43 rfl dX12_sale_41 (Nat.le_of_ble_eq_true rfl) rfl ?_
      refine E_iload_n 44 rfl dX12_sale_43 rfl 4 rfl ?_
      refine E_if_lt 57 47 (by decide) rfl dX12_sale_44 (fun c6 => ?_) (fun c6 => ?_)
      · rw [if_pos c6] at h
        refine E_sub (lv' := [(0, .ref 149), (1, .int (bI x1)), (5, .long (x5 + w5.1)), (7, .int x7), (8, .long w5.1)]) [2, 3, 0, 6, 1] rfl ?_
        exact S_X12_sale_57 ih x1 (x5 + w5.1) x7 w5.1 w5.2.1 w5.2.2 _ h
      · rw [if_neg c6] at h
        refine E_lload 49 rfl dX12_sale_47 1 rfl ?_
        refine E_lload_n 50 rfl dX12_sale_49 rfl 5 rfl ?_
        refine E_lc_gt 57 51 54 (by decide) rfl rfl dX12_sale_50 dX12_sale_51 (fun c7 => ?_) (fun c7 => ?_)
        · rw [if_pos c7] at h
          refine E_sub (lv' := [(0, .ref 149), (1, .int (bI x1)), (5, .long (x5 + w5.1)), (7, .int x7), (8, .long w5.1)]) [2, 3, 0, 6, 1] rfl ?_
          exact S_X12_sale_57 ih x1 (x5 + w5.1) x7 w5.1 w5.2.1 w5.2.2 _ h
        · rw [if_neg c7] at h
          refine E_goto 63 (by decide) dX12_sale_54 ?_
          refine E_sub (lv' := [(0, .ref 149), (1, .int (bI x1)), (2, .int x2), (3, .long x3), (5, .long (x5 + w5.1)), (7, .int x7)]) [2, 3, 4, 5, 0, 6] rfl ?_
          exact S_X12_sale_63 ih x1 x2 x3 (x5 + w5.1) x7 w5.2.1 w5.2.2 _ h
def f_X12_sale (x1 : Bool) (I : MI) (L : ML) : Option (Int64 × MI × ML) := Option.bind (pfI I 149 0 0) fun I1 => Option.bind (f_X12_spreads I1 L) fun w2 => f_X12_sale_19 FU x1 ((-1)) 0 0 0 w2.1 w2.2
set_option maxRecDepth 100000 in
theorem S_X12_sale {g : Gx} (x1 : Bool) (I : MI) (L : ML) (res : Int64 × MI × ML) (h : f_X12_sale x1 I L = some res) : E g 12 0 mX12_sale 0 [(0, .ref 149), (1, .int (bI x1))] [] (I, L) (.inl (some (.long res.1))) (res.2.1, res.2.2) := by
  unfold f_X12_sale at h
  refine E_aload_n 1 rfl dX12_sale_0 rfl 0 rfl ?_
  refine E_iconst (v := 0) 2 rfl dX12_sale_1 (by decide) ?_
  obtain ⟨I1, hI1, h⟩ := Option.bind_eq_some_iff.mp h
  refine E_pfI 5 rfl dX12_sale_2 shc_149 fl_X12_3 rfl hI1 ?_
  refine E_aload_n 6 rfl dX12_sale_5 rfl 0 rfl ?_
  obtain ⟨w2, hw2, h⟩ := Option.bind_eq_some_iff.mp h
  refine E_cV0 (As := []) 9 rfl dX12_sale_6 shc_149 ck_X12_298 cv_X12_spreads rfl (by decide) (Nat.le_of_ble_eq_true rfl) (C_X12_spreads (g := g) hw2) rfl ?_
  refine E_iconst (v := (-1)) 10 rfl dX12_sale_9 (by decide) ?_
  refine E_istore_n (lv' := [(2, .int ((-1))), (0, .ref 149), (1, .int (bI x1))]) 11 rfl dX12_sale_10 rfl (Nat.le_of_ble_eq_true rfl) rfl ?_
  refine E_lconst (v := 0) 12 rfl dX12_sale_11 (by decide) ?_
  refine E_lstore_n (lv' := [(3, .long 0), (2, .int ((-1))), (0, .ref 149), (1, .int (bI x1))]) 13 rfl dX12_sale_12 rfl (Nat.le_of_ble_eq_true rfl) rfl ?_
  refine E_lconst (v := 0) 14 rfl dX12_sale_13 (by decide) ?_
  refine E_lstore (lv' := [(5, .long 0), (3, .long 0), (2, .int ((-1))), (0, .ref 149), (1, .int (bI x1))]) 16 rfl dX12_sale_14 (Nat.le_of_ble_eq_true rfl) rfl ?_
  refine E_iconst (v := 0) 17 rfl dX12_sale_16 (by decide) ?_
  refine E_istore (lv' := [(7, .int 0), (5, .long 0), (3, .long 0), (2, .int ((-1))), (0, .ref 149), (1, .int (bI x1))]) 19 rfl dX12_sale_17 (Nat.le_of_ble_eq_true rfl) rfl ?_
  refine E_sub (lv' := [(0, .ref 149), (1, .int (bI x1)), (2, .int ((-1))), (3, .long 0), (5, .long 0), (7, .int 0)]) [4, 5, 3, 2, 1, 0] rfl ?_
  exact S_X12_sale_19 FU x1 ((-1)) 0 0 0 w2.1 w2.2 _ h
theorem C_X12_sale {g : Gx} {x1 : Bool} {I : MI} {L : ML} {res : Int64 × MI × ML} (h : f_X12_sale x1 I L = some res) : Ent g 12 0 mX12_sale [.ref 149, .int (bI x1)] (I, L) (.inl (some (.long res.1))) (res.2.1, res.2.2) := Ent_of (by decide +kernel) (Nat.le_of_ble_eq_true rfl) (S_X12_sale x1 I L _ h)
def f_X12_seed (x1 : Int32) (I : MI) (L : ML) : Option (Int32 × MI × ML) := Option.bind (pfI I 149 0 0) fun I1 => Option.bind (ldI I1 150 2143 13) fun v2 => Option.bind (stI I1 150 2143 13 x1) fun I3 => some (v2, I3, L)
set_option maxRecDepth 100000 in
theorem S_X12_seed {g : Gx} (x1 : Int32) (I : MI) (L : ML) (res : Int32 × MI × ML) (h : f_X12_seed x1 I L = some res) : E g 1 0 mX12_seed 0 [(0, .ref 149), (1, .int x1)] [] (I, L) (.inl (some (.int res.1))) (res.2.1, res.2.2) := by
  unfold f_X12_seed at h
  refine E_aload_n 1 rfl dX12_seed_0 rfl 0 rfl ?_
  refine E_iconst (v := 0) 2 rfl dX12_seed_1 (by decide) ?_
  obtain ⟨I1, hI1, h⟩ := Option.bind_eq_some_iff.mp h
  refine E_pfI 5 rfl dX12_seed_2 shc_149 fl_X12_3 rfl hI1 ?_
  refine E_aload_n 6 rfl dX12_seed_5 rfl 0 rfl ?_
  refine E_gR 150 9 rfl dX12_seed_6 shc_149 fl_X12_13 rfl (by decide) (by decide) ?_
  refine E_bipush (v := 13) 11 rfl dX12_seed_9 (by decide) ?_
  obtain ⟨v2, hv2, h⟩ := Option.bind_eq_some_iff.mp h
  refine E_ldI 12 rfl dX12_seed_11 shc_150 hv2 ?_
  refine E_istore_n (lv' := [(2, .int v2), (0, .ref 149), (1, .int x1)]) 13 rfl dX12_seed_12 rfl (Nat.le_of_ble_eq_true rfl) rfl ?_
  refine E_aload_n 14 rfl dX12_seed_13 rfl 1 rfl ?_
  refine E_gR 150 17 rfl dX12_seed_14 shc_149 fl_X12_13 rfl (by decide) (by decide) ?_
  refine E_bipush (v := 13) 19 rfl dX12_seed_17 (by decide) ?_
  refine E_iload_n 20 rfl dX12_seed_19 rfl 2 rfl ?_
  obtain ⟨I3, hI3, h⟩ := Option.bind_eq_some_iff.mp h
  refine E_stI 21 rfl dX12_seed_20 shc_150 hI3 ?_
  refine E_iload_n 22 rfl dX12_seed_21 rfl 0 rfl ?_
  cases h
  exact E_iret rfl dX12_seed_22
theorem C_X12_seed {g : Gx} {x1 : Int32} {I : MI} {L : ML} {res : Int32 × MI × ML} (h : f_X12_seed x1 I L = some res) : Ent g 1 0 mX12_seed [.ref 149, .int x1] (I, L) (.inl (some (.int res.1))) (res.2.1, res.2.2) := Ent_of (by decide +kernel) (Nat.le_of_ble_eq_true rfl) (S_X12_seed x1 I L _ h)
def f_X12_count_80 (y0 : Int32) (I : MI) (L : ML) : Option (Int32 × MI × ML) := some (y0, I, L)
set_option maxRecDepth 100000 in
theorem S_X12_count_80 {g : Gx} (y0 : Int32) (I : MI) (L : ML) (res : Int32 × MI × ML) (h : f_X12_count_80 y0 I L = some res) : E g 2 0 mX12_count 80 [] [.int y0] (I, L) (.inl (some (.int res.1))) (res.2.1, res.2.2) := by
  unfold f_X12_count_80 at h
  cases h
  exact E_iret rfl dX12_count_80
def f_X12_count_54 (y0 : Int32) (I : MI) (L : ML) : Option (Int32 × MI × ML) := some (y0, I, L)
set_option maxRecDepth 100000 in
theorem S_X12_count_54 {g : Gx} (y0 : Int32) (I : MI) (L : ML) (res : Int32 × MI × ML) (h : f_X12_count_54 y0 I L = some res) : E g 2 0 mX12_count 54 [] [.int y0] (I, L) (.inl (some (.int res.1))) (res.2.1, res.2.2) := by
  unfold f_X12_count_54 at h
  cases h
  exact E_iret rfl dX12_count_54
def f_X12_count (x1 : Int32) (I : MI) (L : ML) : Option (Int32 × MI × ML) := Option.bind (pfI I 149 0 0) fun I1 => if x1 = 5 then (Option.bind (ldI I1 150 2143 5) fun v3 => if v3 = 1 then (Option.bind (ldI I1 150 2143 445) fun v5 => f_X12_count_54 v5 I1 L) else (f_X12_count_54 ((-1)) I1 L)) else if x1 = 13 then (some (I1 149 6, I1, L)) else (Option.bind (f_X12_in x1 0 12 I1 L) fun v7 => if v7 = true then (Option.bind (ldI I1 150 2143 x1) fun v9 => f_X12_count_80 v9 I1 L) else (f_X12_count_80 ((-1)) I1 L))
set_option maxRecDepth 100000 in
theorem S_X12_count {g : Gx} (x1 : Int32) (I : MI) (L : ML) (res : Int32 × MI × ML) (h : f_X12_count x1 I L = some res) : E g 2 0 mX12_count 0 [(0, .ref 149), (1, .int x1)] [] (I, L) (.inl (some (.int res.1))) (res.2.1, res.2.2) := by
  unfold f_X12_count at h
  refine E_aload_n 1 rfl dX12_count_0 rfl 0 rfl ?_
  refine E_iconst (v := 0) 2 rfl dX12_count_1 (by decide) ?_
  obtain ⟨I1, hI1, h⟩ := Option.bind_eq_some_iff.mp h
  refine E_pfI 5 rfl dX12_count_2 shc_149 fl_X12_3 rfl hI1 ?_
  refine E_iload_n 6 rfl dX12_count_5 rfl 1 rfl ?_
  by_cases c2 : x1 = 5
  · rw [if_pos c2] at h
    refine E_lkIn (off := 26) 5 c2 32 (by decide) (by decide) (by decide) dX12_count_6 ?_
    refine E_aload_n 33 rfl dX12_count_32 rfl 0 rfl ?_
    refine E_gR 150 36 rfl dX12_count_33 shc_149 fl_X12_13 rfl (by decide) (by decide) ?_
    refine E_iconst (v := 5) 37 rfl dX12_count_36 (by decide) ?_
    obtain ⟨v3, hv3, h⟩ := Option.bind_eq_some_iff.mp h
    refine E_ldI 38 rfl dX12_count_37 shc_150 hv3 ?_
    refine E_iconst (v := 1) 39 rfl dX12_count_38 (by decide) ?_
    refine E_icmp_ne 53 42 (by decide) rfl dX12_count_39 (fun c4 => ?_) (fun c4 => ?_)
    · rw [if_neg c4] at h
      refine E_iconst (v := (-1)) 54 rfl dX12_count_53 (by decide) ?_
      refine E_sub (lv' := []) [] rfl ?_
      exact S_X12_count_54 ((-1)) I1 L _ h
    · rw [if_pos c4] at h
      refine E_aload_n 43 rfl dX12_count_42 rfl 0 rfl ?_
      refine E_gR 150 46 rfl dX12_count_43 shc_149 fl_X12_13 rfl (by decide) (by decide) ?_
      refine E_sipush (v := 445) 49 rfl dX12_count_46 (by decide) ?_
      obtain ⟨v5, hv5, h⟩ := Option.bind_eq_some_iff.mp h
      refine E_ldI 50 rfl dX12_count_49 shc_150 hv5 ?_
      refine E_goto 54 (by decide) dX12_count_50 ?_
      refine E_sub (lv' := []) [] rfl ?_
      exact S_X12_count_54 v5 I1 L _ h
  rw [if_neg c2] at h
  by_cases c6 : x1 = 13
  · rw [if_pos c6] at h
    refine E_lkIn (off := 49) 13 c6 55 (by decide) (by decide) (by decide) dX12_count_6 ?_
    refine E_aload_n 56 rfl dX12_count_55 rfl 0 rfl ?_
    refine E_gI 59 rfl dX12_count_56 shc_149 fl_X12_53 rfl ?_
    cases h
    exact E_iret rfl dX12_count_59
  rw [if_neg c6] at h
  refine E_lk (off := 54) 60 (by decide) (by decide) (lkOut2 (toI c2 (n := 5) (by decide)) (toI c6 (n := 13) (by decide))) dX12_count_6 ?_
  refine E_iload_n 61 rfl dX12_count_60 rfl 1 rfl ?_
  refine E_iconst (v := 0) 62 rfl dX12_count_61 (by decide) ?_
  refine E_bipush (v := 12) 64 rfl dX12_count_62 (by decide) ?_
  obtain ⟨v7, hv7, h⟩ := Option.bind_eq_some_iff.mp h
  refine E_cS1 (As := [.int x1, .int 0, .int 12]) 67 rfl dX12_count_64 ck_X12_60 ss_X12_in rfl (by decide) (Nat.le_of_ble_eq_true rfl) (C_X12_in (g := g) hv7) rfl ?_
  refine E_if_eqB 79 70 (by decide) rfl dX12_count_67 (fun c8 => ?_) (fun c8 => ?_)
  · rw [if_neg (by rw [c8]; decide)] at h
    refine E_iconst (v := (-1)) 80 rfl dX12_count_79 (by decide) ?_
    refine E_sub (lv' := []) [] rfl ?_
    exact S_X12_count_80 ((-1)) I1 L _ h
  · rw [if_pos c8] at h
    refine E_aload_n 71 rfl dX12_count_70 rfl 0 rfl ?_
    refine E_gR 150 74 rfl dX12_count_71 shc_149 fl_X12_13 rfl (by decide) (by decide) ?_
    refine E_iload_n 75 rfl dX12_count_74 rfl 1 rfl ?_
    obtain ⟨v9, hv9, h⟩ := Option.bind_eq_some_iff.mp h
    refine E_ldI 76 rfl dX12_count_75 shc_150 hv9 ?_
    refine E_goto 80 (by decide) dX12_count_76 ?_
    refine E_sub (lv' := []) [] rfl ?_
    exact S_X12_count_80 v9 I1 L _ h
theorem C_X12_count {g : Gx} {x1 : Int32} {I : MI} {L : ML} {res : Int32 × MI × ML} (h : f_X12_count x1 I L = some res) : Ent g 2 0 mX12_count [.ref 149, .int x1] (I, L) (.inl (some (.int res.1))) (res.2.1, res.2.2) := Ent_of (by decide +kernel) (Nat.le_of_ble_eq_true rfl) (S_X12_count x1 I L _ h)
