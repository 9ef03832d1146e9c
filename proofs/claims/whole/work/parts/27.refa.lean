def f_X12_thrown (I : MI) (L : ML) : Option (Int32) := some (I 149 0)
set_option maxRecDepth 100000 in
theorem S_X12_thrown {g : Gx} (I : MI) (L : ML) (res : Int32) (h : f_X12_thrown I L = some res) : E g 1 0 mX12_thrown 0 [(0, .ref 149)] [] (I, L) (.inl (some (.int res))) (I, L) := by
  unfold f_X12_thrown at h
  refine E_aload_n (M := mX12_thrown) 1 rfl dX12_thrown_0 rfl 0 rfl ?_
  refine E_gI (M := mX12_thrown) 4 rfl dX12_thrown_1 shc_149 fl_X12_3 rfl ?_
  cases h
  exact E_iret (M := mX12_thrown) rfl dX12_thrown_4
theorem C_X12_thrown {g : Gx} {I : MI} {L : ML} {res : Int32} (h : f_X12_thrown I L = some res) : Ent g 1 0 mX12_thrown [.ref 149] (I, L) (.inl (some (.int res))) (I, L) := Ent_of (by decide +kernel) (Nat.le_of_ble_eq_true rfl) (S_X12_thrown I L _ h)
def f_X12_throwsIf_9 (x1 : Bool) (I : MI) (L : ML) : Option (Bool × MI × ML) := some (x1, I, L)
set_option maxRecDepth 100000 in
theorem S_X12_throwsIf_9 {g : Gx} (x1 : Bool) (I : MI) (L : ML) (res : Bool × MI × ML) (h : f_X12_throwsIf_9 x1 I L = some res) : E g 1 0 mX12_throwsIf 9 [(1, .int (bI x1))] [] (I, L) (.inl (some (.int (bI res.1)))) (res.2.1, res.2.2) := by
  unfold f_X12_throwsIf_9 at h
  refine E_iload_n (M := mX12_throwsIf) 10 rfl dX12_throwsIf_9 rfl 0 rfl ?_
  cases h
  exact E_zret (M := mX12_throwsIf) (x := x1) rfl dX12_throwsIf_10
def f_X12_throwsIf (x1 : Bool) (x2 : Int32) (I : MI) (L : ML) : Option (Bool × MI × ML) := if x1 = true then (Option.bind (pfI I 149 0 x2) fun I2 => f_X12_throwsIf_9 x1 I2 L) else (f_X12_throwsIf_9 x1 I L)
set_option maxRecDepth 100000 in
theorem S_X12_throwsIf {g : Gx} (x1 : Bool) (x2 : Int32) (I : MI) (L : ML) (res : Bool × MI × ML) (h : f_X12_throwsIf x1 x2 I L = some res) : E g 1 0 mX12_throwsIf 0 [(0, .ref 149), (1, .int (bI x1)), (2, .int x2)] [] (I, L) (.inl (some (.int (bI res.1)))) (res.2.1, res.2.2) := by
  unfold f_X12_throwsIf at h
  refine E_iload_n (M := mX12_throwsIf) 1 rfl dX12_throwsIf_0 rfl 1 rfl ?_
  refine E_if_eqB (M := mX12_throwsIf) 9 4 (by decide) rfl dX12_throwsIf_1 (fun c1 => ?_) (fun c1 => ?_)
  · rw [if_neg (by rw [c1]; decide)] at h
    refine E_sub (M := mX12_throwsIf) (lv' := [(1, .int (bI x1))]) [1] rfl ?_
    exact S_X12_throwsIf_9 x1 I L _ h
  · rw [if_pos c1] at h
    refine E_aload_n (M := mX12_throwsIf) 5 rfl dX12_throwsIf_4 rfl 0 rfl ?_
    refine E_iload_n (M := mX12_throwsIf) 6 rfl dX12_throwsIf_5 rfl 2 rfl ?_
    replace h := Option.bind_eq_some_iff.mp h
    obtain ⟨I2, hI2, h⟩ := h
    refine E_pfI (M := mX12_throwsIf) 9 rfl dX12_throwsIf_6 shc_149 fl_X12_3 rfl hI2 ?_
    refine E_sub (M := mX12_throwsIf) (lv' := [(1, .int (bI x1))]) [1] rfl ?_
    exact S_X12_throwsIf_9 x1 I2 L _ h
theorem C_X12_throwsIf {g : Gx} {x1 : Bool} {x2 : Int32} {I : MI} {L : ML} {res : Bool × MI × ML} (h : f_X12_throwsIf x1 x2 I L = some res) : Ent g 1 0 mX12_throwsIf [.ref 149, .int (bI x1), .int x2] (I, L) (.inl (some (.int (bI res.1)))) (res.2.1, res.2.2) := Ent_of (by decide +kernel) (Nat.le_of_ble_eq_true rfl) (S_X12_throwsIf x1 x2 I L _ h)
def f_X12_in_15 (y0 : Bool) (I : MI) (L : ML) : Option (Bool) := some y0
set_option maxRecDepth 100000 in
theorem S_X12_in_15 {g : Gx} (y0 : Bool) (I : MI) (L : ML) (res : Bool) (h : f_X12_in_15 y0 I L = some res) : E g 1 0 mX12_in 15 [] [.int (bI y0)] (I, L) (.inl (some (.int (bI res)))) (I, L) := by
  unfold f_X12_in_15 at h
  cases h
  exact E_zret (M := mX12_in) (x := y0) rfl dX12_in_15
def f_X12_in_14 (I : MI) (L : ML) : Option (Bool) := f_X12_in_15 false I L
set_option maxRecDepth 100000 in
theorem S_X12_in_14 {g : Gx} (I : MI) (L : ML) (res : Bool) (h : f_X12_in_14 I L = some res) : E g 1 0 mX12_in 14 [] [] (I, L) (.inl (some (.int (bI res)))) (I, L) := by
  unfold f_X12_in_14 at h
  refine E_iconst (M := mX12_in) (v := 0) 15 rfl dX12_in_14 (by decide) ?_
  refine E_sub (M := mX12_in) (lv' := []) [] rfl ?_
  exact S_X12_in_15 false I L _ h
def f_X12_in (x0 : Int32) (x1 : Int32) (x2 : Int32) (I : MI) (L : ML) : Option (Bool) := if x0 < x1 then (f_X12_in_14 I L) else (if x2 < x0 then (f_X12_in_14 I L) else (f_X12_in_15 true I L))
set_option maxRecDepth 100000 in
theorem S_X12_in {g : Gx} (x0 : Int32) (x1 : Int32) (x2 : Int32) (I : MI) (L : ML) (res : Bool) (h : f_X12_in x0 x1 x2 I L = some res) : E g 1 0 mX12_in 0 [(0, .int x0), (1, .int x1), (2, .int x2)] [] (I, L) (.inl (some (.int (bI res)))) (I, L) := by
  unfold f_X12_in at h
  refine E_iload_n (M := mX12_in) 1 rfl dX12_in_0 rfl 0 rfl ?_
  refine E_iload_n (M := mX12_in) 2 rfl dX12_in_1 rfl 1 rfl ?_
  refine E_icmp_lt (M := mX12_in) 14 5 (by decide) rfl dX12_in_2 (fun c1 => ?_) (fun c1 => ?_)
  · rw [if_pos c1] at h
    refine E_sub (M := mX12_in) (lv' := []) [] rfl ?_
    exact S_X12_in_14 I L _ h
  · rw [if_neg c1] at h
    refine E_iload_n (M := mX12_in) 6 rfl dX12_in_5 rfl 0 rfl ?_
    refine E_iload_n (M := mX12_in) 7 rfl dX12_in_6 rfl 2 rfl ?_
    refine E_icmp_gt (M := mX12_in) 14 10 (by decide) rfl dX12_in_7 (fun c2 => ?_) (fun c2 => ?_)
    · rw [if_pos c2] at h
      refine E_sub (M := mX12_in) (lv' := []) [] rfl ?_
      exact S_X12_in_14 I L _ h
    · rw [if_neg c2] at h
      refine E_iconst (M := mX12_in) (v := 1) 11 rfl dX12_in_10 (by decide) ?_
      refine E_goto (M := mX12_in) 15 (by decide) dX12_in_11 ?_
      refine E_sub (M := mX12_in) (lv' := []) [] rfl ?_
      exact S_X12_in_15 true I L _ h
theorem C_X12_in {g : Gx} {x0 : Int32} {x1 : Int32} {x2 : Int32} {I : MI} {L : ML} {res : Bool} (h : f_X12_in x0 x1 x2 I L = some res) : Ent g 1 0 mX12_in [.int x0, .int x1, .int x2] (I, L) (.inl (some (.int (bI res)))) (I, L) := Ent_of (by decide +kernel) (Nat.le_of_ble_eq_true rfl) (S_X12_in x0 x1 x2 I L _ h)
def f_X12_has_14 (y0 : Bool) (I : MI) (L : ML) : Option (Bool) := some y0
set_option maxRecDepth 100000 in
theorem S_X12_has_14 {g : Gx} (y0 : Bool) (I : MI) (L : ML) (res : Bool) (h : f_X12_has_14 y0 I L = some res) : E g 1 0 mX12_has 14 [] [.int (bI y0)] (I, L) (.inl (some (.int (bI res)))) (I, L) := by
  unfold f_X12_has_14 at h
  cases h
  exact E_zret (M := mX12_has) (x := y0) rfl dX12_has_14
def f_X12_has (x0 : Int32) (x1 : Int32) (I : MI) (L : ML) : Option (Bool) := if ((x0 >>> (x1 &&& 31)) &&& 1) = 1 then (f_X12_has_14 true I L) else (f_X12_has_14 false I L)
set_option maxRecDepth 100000 in
theorem S_X12_has {g : Gx} (x0 : Int32) (x1 : Int32) (I : MI) (L : ML) (res : Bool) (h : f_X12_has x0 x1 I L = some res) : E g 1 0 mX12_has 0 [(0, .int x0), (1, .int x1)] [] (I, L) (.inl (some (.int (bI res)))) (I, L) := by
  unfold f_X12_has at h
  refine E_iload_n (M := mX12_has) 1 rfl dX12_has_0 rfl 0 rfl ?_
  refine E_iload_n (M := mX12_has) 2 rfl dX12_has_1 rfl 1 rfl ?_
  refine E_ishr (M := mX12_has) 3 rfl dX12_has_2 ?_
  refine E_iconst (M := mX12_has) (v := 1) 4 rfl dX12_has_3 (by decide) ?_
  refine E_iand (M := mX12_has) 5 rfl dX12_has_4 ?_
  refine E_iconst (M := mX12_has) (v := 1) 6 rfl dX12_has_5 (by decide) ?_
  refine E_icmp_ne (M := mX12_has) 13 9 (by decide) rfl dX12_has_6 (fun c1 => ?_) (fun c1 => ?_)
  · rw [if_neg c1] at h
    refine E_iconst (M := mX12_has) (v := 0) 14 rfl dX12_has_13 (by decide) ?_
    refine E_sub (M := mX12_has) (lv' := []) [] rfl ?_
    exact S_X12_has_14 false I L _ h
  · rw [if_pos c1] at h
    refine E_iconst (M := mX12_has) (v := 1) 10 rfl dX12_has_9 (by decide) ?_
    refine E_goto (M := mX12_has) 14 (by decide) dX12_has_10 ?_
    refine E_sub (M := mX12_has) (lv' := []) [] rfl ?_
    exact S_X12_has_14 true I L _ h
theorem C_X12_has {g : Gx} {x0 : Int32} {x1 : Int32} {I : MI} {L : ML} {res : Bool} (h : f_X12_has x0 x1 I L = some res) : Ent g 1 0 mX12_has [.int x0, .int x1] (I, L) (.inl (some (.int (bI res)))) (I, L) := Ent_of (by decide +kernel) (Nat.le_of_ble_eq_true rfl) (S_X12_has x0 x1 I L _ h)
def f_X12_image_7 : Nat → Int32 → MI → ML → Option (MI × ML)
  | 0, _, _, _ => none
  | n + 1, x1, I, L => if 1294 ≤ x1 then (Option.bind (pfI I 149 5 (bI true)) fun I2 => some (I2, L)) else (Option.bind (ldI I 150 2143 x1) fun v3 => Option.bind (stI I 151 1294 x1 v3) fun I4 => f_X12_image_7 n (x1 + 1) I4 L)
set_option maxRecDepth 100000 in
theorem S_X12_image_7 {g : Gx} : ∀ (n : Nat) (x1 : Int32) (I : MI) (L : ML) (res : MI × ML), f_X12_image_7 n x1 I L = some res → E g 1 0 mX12_image 7 [(0, .ref 149), (1, .int x1)] [] (I, L) (.inl none) (res.1, res.2) := by
  intro n
  induction n with
  | zero =>
    intros
    rename_i h
    cases h
  | succ n ih =>
    intro x1 I L res h
    rw [f_X12_image_7] at h
    refine E_iload_n (M := mX12_image) 8 rfl dX12_image_7 rfl 1 rfl ?_
    refine E_sipush (M := mX12_image) (v := 1294) 11 rfl dX12_image_8 (by decide) ?_
    refine E_icmp_ge (M := mX12_image) 32 14 (by decide) rfl dX12_image_11 (fun c1 => ?_) (fun c1 => ?_)
    · rw [if_pos c1] at h
      refine E_aload_n (M := mX12_image) 33 rfl dX12_image_32 rfl 0 rfl ?_
      refine E_iconst (M := mX12_image) (v := 1) 34 rfl dX12_image_33 (by decide) ?_
      replace h := Option.bind_eq_some_iff.mp h
      obtain ⟨I2, hI2, h⟩ := h
      refine E_pfB (M := mX12_image) (x := true) 37 rfl dX12_image_34 shc_149 fl_X12_49 rfl hI2 ?_
      cases h
      exact E_vret (M := mX12_image) rfl dX12_image_37
    · rw [if_neg c1] at h
      refine E_aload_n (M := mX12_image) 15 rfl dX12_image_14 rfl 0 rfl ?_
      refine E_gR (M := mX12_image) 151 18 rfl dX12_image_15 shc_149 fl_X12_17 rfl (by decide) (by decide) ?_
      refine E_iload_n (M := mX12_image) 19 rfl dX12_image_18 rfl 1 rfl ?_
      refine E_aload_n (M := mX12_image) 20 rfl dX12_image_19 rfl 0 rfl ?_
      refine E_gR (M := mX12_image) 150 23 rfl dX12_image_20 shc_149 fl_X12_13 rfl (by decide) (by decide) ?_
      refine E_iload_n (M := mX12_image) 24 rfl dX12_image_23 rfl 1 rfl ?_
      replace h := Option.bind_eq_some_iff.mp h
      obtain ⟨v3, hv3, h⟩ := h
      refine E_ldI (M := mX12_image) 25 rfl dX12_image_24 shc_150 hv3 ?_
      replace h := Option.bind_eq_some_iff.mp h
      obtain ⟨I4, hI4, h⟩ := h
      refine E_stI (M := mX12_image) 26 rfl dX12_image_25 shc_151 hI4 ?_
      refine E_iinc (M := mX12_image) (j := 1) (v := x1 + 1) (lv' := [(1, .int (x1 + 1)), (0, .ref 149)]) 29 rfl dX12_image_26 rfl rfl (Nat.le_of_ble_eq_true rfl) rfl ?_
      refine E_goto (M := mX12_image) 7 (by decide) dX12_image_29 ?_
      refine E_sub (M := mX12_image) (lv' := [(0, .ref 149), (1, .int (x1 + 1))]) [1, 0] rfl ?_
      exact ih (x1 + 1) I4 L _ h
def f_X12_image (I : MI) (L : ML) : Option (MI × ML) := Option.bind (pfI I 149 0 0) fun I1 => f_X12_image_7 FU 0 I1 L
set_option maxRecDepth 100000 in
theorem S_X12_image {g : Gx} (I : MI) (L : ML) (res : MI × ML) (h : f_X12_image I L = some res) : E g 1 0 mX12_image 0 [(0, .ref 149)] [] (I, L) (.inl none) (res.1, res.2) := by
  unfold f_X12_image at h
  refine E_aload_n (M := mX12_image) 1 rfl dX12_image_0 rfl 0 rfl ?_
  refine E_iconst (M := mX12_image) (v := 0) 2 rfl dX12_image_1 (by decide) ?_
  replace h := Option.bind_eq_some_iff.mp h
  obtain ⟨I1, hI1, h⟩ := h
  refine E_pfI (M := mX12_image) 5 rfl dX12_image_2 shc_149 fl_X12_3 rfl hI1 ?_
  refine E_iconst (M := mX12_image) (v := 0) 6 rfl dX12_image_5 (by decide) ?_
  refine E_istore_n (M := mX12_image) (lv' := [(1, .int 0), (0, .ref 149)]) 7 rfl dX12_image_6 rfl (Nat.le_of_ble_eq_true rfl) rfl ?_
  refine E_sub (M := mX12_image) (lv' := [(0, .ref 149), (1, .int 0)]) [1, 0] rfl ?_
  exact S_X12_image_7 FU 0 I1 L _ h
theorem C_X12_image {g : Gx} {I : MI} {L : ML} {res : MI × ML} (h : f_X12_image I L = some res) : Ent g 1 0 mX12_image [.ref 149] (I, L) (.inl none) (res.1, res.2) := Ent_of (by decide +kernel) (Nat.le_of_ble_eq_true rfl) (S_X12_image I L _ h)
def f_X12_back_16 : Nat → Int32 → MI → ML → Option (Bool × MI × ML)
  | 0, _, _, _ => none
  | n + 1, x1, I, L => if 1294 ≤ x1 then (Option.bind (pfI I 149 6 0) fun I2 => some (true, I2, L)) else (Option.bind (ldI I 151 1294 x1) fun v3 => Option.bind (stI I 150 2143 x1 v3) fun I4 => f_X12_back_16 n (x1 + 1) I4 L)
set_option maxRecDepth 100000 in
theorem S_X12_back_16 {g : Gx} : ∀ (n : Nat) (x1 : Int32) (I : MI) (L : ML) (res : Bool × MI × ML), f_X12_back_16 n x1 I L = some res → E g 1 0 mX12_back 16 [(0, .ref 149), (1, .int x1)] [] (I, L) (.inl (some (.int (bI res.1)))) (res.2.1, res.2.2) := by
  intro n
  induction n with
  | zero =>
    intros
    rename_i h
    cases h
  | succ n ih =>
    intro x1 I L res h
    rw [f_X12_back_16] at h
    refine E_iload_n (M := mX12_back) 17 rfl dX12_back_16 rfl 1 rfl ?_
    refine E_sipush (M := mX12_back) (v := 1294) 20 rfl dX12_back_17 (by decide) ?_
    refine E_icmp_ge (M := mX12_back) 41 23 (by decide) rfl dX12_back_20 (fun c1 => ?_) (fun c1 => ?_)
    · rw [if_pos c1] at h
      refine E_aload_n (M := mX12_back) 42 rfl dX12_back_41 rfl 0 rfl ?_
      refine E_iconst (M := mX12_back) (v := 0) 43 rfl dX12_back_42 (by decide) ?_
      replace h := Option.bind_eq_some_iff.mp h
      obtain ⟨I2, hI2, h⟩ := h
      refine E_pfI (M := mX12_back) 46 rfl dX12_back_43 shc_149 fl_X12_53 rfl hI2 ?_
      refine E_iconst (M := mX12_back) (v := 1) 47 rfl dX12_back_46 (by decide) ?_
      cases h
      exact E_zret (M := mX12_back) (x := true) rfl dX12_back_47
    · rw [if_neg c1] at h
      refine E_aload_n (M := mX12_back) 24 rfl dX12_back_23 rfl 0 rfl ?_
      refine E_gR (M := mX12_back) 150 27 rfl dX12_back_24 shc_149 fl_X12_13 rfl (by decide) (by decide) ?_
      refine E_iload_n (M := mX12_back) 28 rfl dX12_back_27 rfl 1 rfl ?_
      refine E_aload_n (M := mX12_back) 29 rfl dX12_back_28 rfl 0 rfl ?_
      refine E_gR (M := mX12_back) 151 32 rfl dX12_back_29 shc_149 fl_X12_17 rfl (by decide) (by decide) ?_
      refine E_iload_n (M := mX12_back) 33 rfl dX12_back_32 rfl 1 rfl ?_
      replace h := Option.bind_eq_some_iff.mp h
      obtain ⟨v3, hv3, h⟩ := h
      refine E_ldI (M := mX12_back) 34 rfl dX12_back_33 shc_151 hv3 ?_
      replace h := Option.bind_eq_some_iff.mp h
      obtain ⟨I4, hI4, h⟩ := h
      refine E_stI (M := mX12_back) 35 rfl dX12_back_34 shc_150 hI4 ?_
      refine E_iinc (M := mX12_back) (j := 1) (v := x1 + 1) (lv' := [(1, .int (x1 + 1)), (0, .ref 149)]) 38 rfl dX12_back_35 rfl rfl (Nat.le_of_ble_eq_true rfl) rfl ?_
      refine E_goto (M := mX12_back) 16 (by decide) dX12_back_38 ?_
      refine E_sub (M := mX12_back) (lv' := [(0, .ref 149), (1, .int (x1 + 1))]) [1, 0] rfl ?_
      exact ih (x1 + 1) I4 L _ h
def f_X12_back (I : MI) (L : ML) : Option (Bool × MI × ML) := Option.bind (pfI I 149 0 0) fun I1 => if (I1 149 5 != 0) = true then (f_X12_back_16 FU 0 I1 L) else (some (false, I1, L))
set_option maxRecDepth 100000 in
theorem S_X12_back {g : Gx} (I : MI) (L : ML) (res : Bool × MI × ML) (h : f_X12_back I L = some res) : E g 1 0 mX12_back 0 [(0, .ref 149)] [] (I, L) (.inl (some (.int (bI res.1)))) (res.2.1, res.2.2) := by
  unfold f_X12_back at h
  refine E_aload_n (M := mX12_back) 1 rfl dX12_back_0 rfl 0 rfl ?_
  refine E_iconst (M := mX12_back) (v := 0) 2 rfl dX12_back_1 (by decide) ?_
  replace h := Option.bind_eq_some_iff.mp h
  obtain ⟨I1, hI1, h⟩ := h
  refine E_pfI (M := mX12_back) 5 rfl dX12_back_2 shc_149 fl_X12_3 rfl hI1 ?_
  refine E_aload_n (M := mX12_back) 6 rfl dX12_back_5 rfl 0 rfl ?_
  refine E_gB (M := mX12_back) 9 rfl dX12_back_6 shc_149 fl_X12_49 rfl ?_
  refine E_if_neB (M := mX12_back) 14 12 (by decide) rfl dX12_back_9 (fun c2 => ?_) (fun c2 => ?_)
  · rw [if_pos c2] at h
    refine E_iconst (M := mX12_back) (v := 0) 15 rfl dX12_back_14 (by decide) ?_
    refine E_istore_n (M := mX12_back) (lv' := [(1, .int 0), (0, .ref 149)]) 16 rfl dX12_back_15 rfl (Nat.le_of_ble_eq_true rfl) rfl ?_
    refine E_sub (M := mX12_back) (lv' := [(0, .ref 149), (1, .int 0)]) [1, 0] rfl ?_
    exact S_X12_back_16 FU 0 I1 L _ h
  · rw [if_neg (by rw [c2]; decide)] at h
    refine E_iconst (M := mX12_back) (v := 0) 13 rfl dX12_back_12 (by decide) ?_
    cases h
    exact E_zret (M := mX12_back) (x := false) rfl dX12_back_13
theorem C_X12_back {g : Gx} {I : MI} {L : ML} {res : Bool × MI × ML} (h : f_X12_back I L = some res) : Ent g 1 0 mX12_back [.ref 149] (I, L) (.inl (some (.int (bI res.1)))) (res.2.1, res.2.2) := Ent_of (by decide +kernel) (Nat.le_of_ble_eq_true rfl) (S_X12_back I L _ h)
def f_X12_remembers_55 : Nat → Int32 → MI → ML → Option (MI × ML)
  | 0, _, _, _ => none
  | n + 1, x1, I, L => if 445 ≤ x1 then (some (I, L)) else (Option.bind (ldI I 150 2143 x1) fun v2 => Option.bind (stI I 153 5340 ((445 * ((I 149 6) - 1)) + x1) v2) fun I3 => f_X12_remembers_55 n (x1 + 1) I3 L)
set_option maxRecDepth 100000 in
theorem S_X12_remembers_55 {g : Gx} : ∀ (n : Nat) (x1 : Int32) (I : MI) (L : ML) (res : MI × ML), f_X12_remembers_55 n x1 I L = some res → E g 1 0 mX12_remembers 55 [(0, .ref 149), (1, .int x1)] [] (I, L) (.inl none) (res.1, res.2) := by
  intro n
  induction n with
  | zero =>
    intros
    rename_i h
    cases h
  | succ n ih =>
    intro x1 I L res h
    rw [f_X12_remembers_55] at h
    refine E_iload_n (M := mX12_remembers) 56 rfl dX12_remembers_55 rfl 1 rfl ?_
    refine E_sipush (M := mX12_remembers) (v := 445) 59 rfl dX12_remembers_56 (by decide) ?_
    refine E_icmp_ge (M := mX12_remembers) 91 62 (by decide) rfl dX12_remembers_59 (fun c1 => ?_) (fun c1 => ?_)
    · rw [if_pos c1] at h
      cases h
      exact E_vret (M := mX12_remembers) rfl dX12_remembers_91
    · rw [if_neg c1] at h
      refine E_aload_n (M := mX12_remembers) 63 rfl dX12_remembers_62 rfl 0 rfl ?_
      refine E_gR (M := mX12_remembers) 153 66 rfl dX12_remembers_63 shc_149 fl_X12_23 rfl (by decide) (by decide) ?_
      refine E_sipush (M := mX12_remembers) (v := 445) 69 rfl dX12_remembers_66 (by decide) ?_
      refine E_aload_n (M := mX12_remembers) 70 rfl dX12_remembers_69 rfl 0 rfl ?_
      refine E_gI (M := mX12_remembers) 73 rfl dX12_remembers_70 shc_149 fl_X12_53 rfl ?_
      refine E_iconst (M := mX12_remembers) (v := 1) 74 rfl dX12_remembers_73 (by decide) ?_
      refine E_isub (M := mX12_remembers) 75 rfl dX12_remembers_74 ?_
      refine E_imul (M := mX12_remembers) 76 rfl dX12_remembers_75 ?_
      refine E_iload_n (M := mX12_remembers) 77 rfl dX12_remembers_76 rfl 1 rfl ?_
      refine E_iadd (M := mX12_remembers) 78 rfl dX12_remembers_77 ?_
      refine E_aload_n (M := mX12_remembers) 79 rfl dX12_remembers_78 rfl 0 rfl ?_
      refine E_gR (M := mX12_remembers) 150 82 rfl dX12_remembers_79 shc_149 fl_X12_13 rfl (by decide) (by decide) ?_
      refine E_iload_n (M := mX12_remembers) 83 rfl dX12_remembers_82 rfl 1 rfl ?_
      replace h := Option.bind_eq_some_iff.mp h
      obtain ⟨v2, hv2, h⟩ := h
      refine E_ldI (M := mX12_remembers) 84 rfl dX12_remembers_83 shc_150 hv2 ?_
      replace h := Option.bind_eq_some_iff.mp h
      obtain ⟨I3, hI3, h⟩ := h
      refine E_stI (M := mX12_remembers) 85 rfl dX12_remembers_84 shc_153 hI3 ?_
      refine E_iinc (M := mX12_remembers) (j := 1) (v := x1 + 1) (lv' := [(1, .int (x1 + 1)), (0, .ref 149)]) 88 rfl dX12_remembers_85 rfl rfl (Nat.le_of_ble_eq_true rfl) rfl ?_
      refine E_goto (M := mX12_remembers) 55 (by decide) dX12_remembers_88 ?_
      refine E_sub (M := mX12_remembers) (lv' := [(0, .ref 149), (1, .int (x1 + 1))]) [1, 0] rfl ?_
      exact ih (x1 + 1) I3 L _ h
def f_X12_remembers_53 (I : MI) (L : ML) : Option (MI × ML) := f_X12_remembers_55 FU 0 I L
set_option maxRecDepth 100000 in
theorem S_X12_remembers_53 {g : Gx} (I : MI) (L : ML) (res : MI × ML) (h : f_X12_remembers_53 I L = some res) : E g 1 0 mX12_remembers 53 [(0, .ref 149)] [] (I, L) (.inl none) (res.1, res.2) := by
  unfold f_X12_remembers_53 at h
  refine E_iconst (M := mX12_remembers) (v := 0) 54 rfl dX12_remembers_53 (by decide) ?_
  refine E_istore_n (M := mX12_remembers) (lv' := [(1, .int 0), (0, .ref 149)]) 55 rfl dX12_remembers_54 rfl (Nat.le_of_ble_eq_true rfl) rfl ?_
  refine E_sub (M := mX12_remembers) (lv' := [(0, .ref 149), (1, .int 0)]) [1, 0] rfl ?_
  exact S_X12_remembers_55 FU 0 I L _ h
def f_X12_remembers_11 : Nat → Int32 → MI → ML → Option (MI × ML)
  | 0, _, _, _ => none
  | n + 1, x1, I, L => if 4895 ≤ x1 then (f_X12_remembers_53 I L) else (Option.bind (ldI I 153 5340 (x1 + 445)) fun v2 => Option.bind (stI I 153 5340 x1 v2) fun I3 => f_X12_remembers_11 n (x1 + 1) I3 L)
set_option maxRecDepth 100000 in
theorem S_X12_remembers_11 {g : Gx} : ∀ (n : Nat) (x1 : Int32) (I : MI) (L : ML) (res : MI × ML), f_X12_remembers_11 n x1 I L = some res → E g 1 0 mX12_remembers 11 [(0, .ref 149), (1, .int x1)] [] (I, L) (.inl none) (res.1, res.2) := by
  intro n
  induction n with
  | zero =>
    intros
    rename_i h
    cases h
  | succ n ih =>
    intro x1 I L res h
    rw [f_X12_remembers_11] at h
    refine E_iload_n (M := mX12_remembers) 12 rfl dX12_remembers_11 rfl 1 rfl ?_
    refine E_sipush (M := mX12_remembers) (v := 4895) 15 rfl dX12_remembers_12 (by decide) ?_
    refine E_icmp_ge (M := mX12_remembers) 40 18 (by decide) rfl dX12_remembers_15 (fun c1 => ?_) (fun c1 => ?_)
    · rw [if_pos c1] at h
      refine E_goto (M := mX12_remembers) 53 (by decide) dX12_remembers_40 ?_
      refine E_sub (M := mX12_remembers) (lv' := [(0, .ref 149)]) [0] rfl ?_
      exact S_X12_remembers_53 I L _ h
    · rw [if_neg c1] at h
      refine E_aload_n (M := mX12_remembers) 19 rfl dX12_remembers_18 rfl 0 rfl ?_
      refine E_gR (M := mX12_remembers) 153 22 rfl dX12_remembers_19 shc_149 fl_X12_23 rfl (by decide) (by decide) ?_
      refine E_iload_n (M := mX12_remembers) 23 rfl dX12_remembers_22 rfl 1 rfl ?_
      refine E_aload_n (M := mX12_remembers) 24 rfl dX12_remembers_23 rfl 0 rfl ?_
      refine E_gR (M := mX12_remembers) 153 27 rfl dX12_remembers_24 shc_149 fl_X12_23 rfl (by decide) (by decide) ?_
      refine E_iload_n (M := mX12_remembers) 28 rfl dX12_remembers_27 rfl 1 rfl ?_
      refine E_sipush (M := mX12_remembers) (v := 445) 31 rfl dX12_remembers_28 (by decide) ?_
      refine E_iadd (M := mX12_remembers) 32 rfl dX12_remembers_31 ?_
      replace h := Option.bind_eq_some_iff.mp h
      obtain ⟨v2, hv2, h⟩ := h
      refine E_ldI (M := mX12_remembers) 33 rfl dX12_remembers_32 shc_153 hv2 ?_
      replace h := Option.bind_eq_some_iff.mp h
      obtain ⟨I3, hI3, h⟩ := h
      refine E_stI (M := mX12_remembers) 34 rfl dX12_remembers_33 shc_153 hI3 ?_
      refine E_iinc (M := mX12_remembers) (j := 1) (v := x1 + 1) (lv' := [(1, .int (x1 + 1)), (0, .ref 149)]) 37 rfl dX12_remembers_34 rfl rfl (Nat.le_of_ble_eq_true rfl) rfl ?_
      refine E_goto (M := mX12_remembers) 11 (by decide) dX12_remembers_37 ?_
      refine E_sub (M := mX12_remembers) (lv' := [(0, .ref 149), (1, .int (x1 + 1))]) [1, 0] rfl ?_
      exact ih (x1 + 1) I3 L _ h
def f_X12_remembers (I : MI) (L : ML) : Option (MI × ML) := if (I 149 6) = 12 then (f_X12_remembers_11 FU 0 I L) else (Option.bind (pfI I 149 6 ((I 149 6) + 1)) fun I2 => f_X12_remembers_53 I2 L)
set_option maxRecDepth 100000 in
theorem S_X12_remembers {g : Gx} (I : MI) (L : ML) (res : MI × ML) (h : f_X12_remembers I L = some res) : E g 1 0 mX12_remembers 0 [(0, .ref 149)] [] (I, L) (.inl none) (res.1, res.2) := by
  unfold f_X12_remembers at h
  refine E_aload_n (M := mX12_remembers) 1 rfl dX12_remembers_0 rfl 0 rfl ?_
  refine E_gI (M := mX12_remembers) 4 rfl dX12_remembers_1 shc_149 fl_X12_53 rfl ?_
  refine E_bipush (M := mX12_remembers) (v := 12) 6 rfl dX12_remembers_4 (by decide) ?_
  refine E_icmp_ne (M := mX12_remembers) 43 9 (by decide) rfl dX12_remembers_6 (fun c1 => ?_) (fun c1 => ?_)
  · rw [if_neg c1] at h
    refine E_aload_n (M := mX12_remembers) 44 rfl dX12_remembers_43 rfl 0 rfl ?_
    refine E_dup (M := mX12_remembers) 45 rfl dX12_remembers_44 rfl ?_
    refine E_gI (M := mX12_remembers) 48 rfl dX12_remembers_45 shc_149 fl_X12_53 rfl ?_
    refine E_iconst (M := mX12_remembers) (v := 1) 49 rfl dX12_remembers_48 (by decide) ?_
    refine E_iadd (M := mX12_remembers) 50 rfl dX12_remembers_49 ?_
    replace h := Option.bind_eq_some_iff.mp h
    obtain ⟨I2, hI2, h⟩ := h
    refine E_pfI (M := mX12_remembers) 53 rfl dX12_remembers_50 shc_149 fl_X12_53 rfl hI2 ?_
    refine E_sub (M := mX12_remembers) (lv' := [(0, .ref 149)]) [0] rfl ?_
    exact S_X12_remembers_53 I2 L _ h
  · rw [if_pos c1] at h
    refine E_iconst (M := mX12_remembers) (v := 0) 10 rfl dX12_remembers_9 (by decide) ?_
    refine E_istore_n (M := mX12_remembers) (lv' := [(1, .int 0), (0, .ref 149)]) 11 rfl dX12_remembers_10 rfl (Nat.le_of_ble_eq_true rfl) rfl ?_
    refine E_sub (M := mX12_remembers) (lv' := [(0, .ref 149), (1, .int 0)]) [1, 0] rfl ?_
    exact S_X12_remembers_11 FU 0 I L _ h
theorem C_X12_remembers {g : Gx} {I : MI} {L : ML} {res : MI × ML} (h : f_X12_remembers I L = some res) : Ent g 1 0 mX12_remembers [.ref 149] (I, L) (.inl none) (res.1, res.2) := Ent_of (by decide +kernel) (Nat.le_of_ble_eq_true rfl) (S_X12_remembers I L _ h)
def f_X12_undo_26 : Nat → Int32 → MI → ML → Option (Bool × MI × ML)
  | 0, _, _, _ => none
  | n + 1, x1, I, L => if 445 ≤ x1 then (some (true, I, L)) else (Option.bind (ldI I 153 5340 ((445 * (I 149 6)) + x1)) fun v2 => Option.bind (stI I 150 2143 x1 v2) fun I3 => f_X12_undo_26 n (x1 + 1) I3 L)
set_option maxRecDepth 100000 in
theorem S_X12_undo_26 {g : Gx} : ∀ (n : Nat) (x1 : Int32) (I : MI) (L : ML) (res : Bool × MI × ML), f_X12_undo_26 n x1 I L = some res → E g 1 0 mX12_undo 26 [(0, .ref 149), (1, .int x1)] [] (I, L) (.inl (some (.int (bI res.1)))) (res.2.1, res.2.2) := by
  intro n
  induction n with
  | zero =>
    intros
    rename_i h
    cases h
  | succ n ih =>
    intro x1 I L res h
    rw [f_X12_undo_26] at h
    refine E_iload_n (M := mX12_undo) 27 rfl dX12_undo_26 rfl 1 rfl ?_
    refine E_sipush (M := mX12_undo) (v := 445) 30 rfl dX12_undo_27 (by decide) ?_
    refine E_icmp_ge (M := mX12_undo) 60 33 (by decide) rfl dX12_undo_30 (fun c1 => ?_) (fun c1 => ?_)
    · rw [if_pos c1] at h
      refine E_iconst (M := mX12_undo) (v := 1) 61 rfl dX12_undo_60 (by decide) ?_
      cases h
      exact E_zret (M := mX12_undo) (x := true) rfl dX12_undo_61
    · rw [if_neg c1] at h
      refine E_aload_n (M := mX12_undo) 34 rfl dX12_undo_33 rfl 0 rfl ?_
      refine E_gR (M := mX12_undo) 150 37 rfl dX12_undo_34 shc_149 fl_X12_13 rfl (by decide) (by decide) ?_
      refine E_iload_n (M := mX12_undo) 38 rfl dX12_undo_37 rfl 1 rfl ?_
      refine E_aload_n (M := mX12_undo) 39 rfl dX12_undo_38 rfl 0 rfl ?_
      refine E_gR (M := mX12_undo) 153 42 rfl dX12_undo_39 shc_149 fl_X12_23 rfl (by decide) (by decide) ?_
      refine E_sipush (M := mX12_undo) (v := 445) 45 rfl dX12_undo_42 (by decide) ?_
      refine E_aload_n (M := mX12_undo) 46 rfl dX12_undo_45 rfl 0 rfl ?_
      refine E_gI (M := mX12_undo) 49 rfl dX12_undo_46 shc_149 fl_X12_53 rfl ?_
      refine E_imul (M := mX12_undo) 50 rfl dX12_undo_49 ?_
      refine E_iload_n (M := mX12_undo) 51 rfl dX12_undo_50 rfl 1 rfl ?_
      refine E_iadd (M := mX12_undo) 52 rfl dX12_undo_51 ?_
      replace h := Option.bind_eq_some_iff.mp h
      obtain ⟨v2, hv2, h⟩ := h
      refine E_ldI (M := mX12_undo) 53 rfl dX12_undo_52 shc_153 hv2 ?_
      replace h := Option.bind_eq_some_iff.mp h
      obtain ⟨I3, hI3, h⟩ := h
      refine E_stI (M := mX12_undo) 54 rfl dX12_undo_53 shc_150 hI3 ?_
      refine E_iinc (M := mX12_undo) (j := 1) (v := x1 + 1) (lv' := [(1, .int (x1 + 1)), (0, .ref 149)]) 57 rfl dX12_undo_54 rfl rfl (Nat.le_of_ble_eq_true rfl) rfl ?_
      refine E_goto (M := mX12_undo) 26 (by decide) dX12_undo_57 ?_
      refine E_sub (M := mX12_undo) (lv' := [(0, .ref 149), (1, .int (x1 + 1))]) [1, 0] rfl ?_
      exact ih (x1 + 1) I3 L _ h
def f_X12_undo (I : MI) (L : ML) : Option (Bool × MI × ML) := Option.bind (pfI I 149 0 0) fun I1 => if (I1 149 6) = 0 then (some (false, I1, L)) else (Option.bind (pfI I1 149 6 ((I1 149 6) - 1)) fun I3 => f_X12_undo_26 FU 0 I3 L)
set_option maxRecDepth 100000 in
theorem S_X12_undo {g : Gx} (I : MI) (L : ML) (res : Bool × MI × ML) (h : f_X12_undo I L = some res) : E g 1 0 mX12_undo 0 [(0, .ref 149)] [] (I, L) (.inl (some (.int (bI res.1)))) (res.2.1, res.2.2) := by
  unfold f_X12_undo at h
  refine E_aload_n (M := mX12_undo) 1 rfl dX12_undo_0 rfl 0 rfl ?_
  refine E_iconst (M := mX12_undo) (v := 0) 2 rfl dX12_undo_1 (by decide) ?_
  replace h := Option.bind_eq_some_iff.mp h
  obtain ⟨I1, hI1, h⟩ := h
  refine E_pfI (M := mX12_undo) 5 rfl dX12_undo_2 shc_149 fl_X12_3 rfl hI1 ?_
  refine E_aload_n (M := mX12_undo) 6 rfl dX12_undo_5 rfl 0 rfl ?_
  refine E_gI (M := mX12_undo) 9 rfl dX12_undo_6 shc_149 fl_X12_53 rfl ?_
  refine E_if_ne (M := mX12_undo) 14 12 (by decide) rfl dX12_undo_9 (fun c2 => ?_) (fun c2 => ?_)
  · rw [if_neg c2] at h
    refine E_aload_n (M := mX12_undo) 15 rfl dX12_undo_14 rfl 0 rfl ?_
    refine E_dup (M := mX12_undo) 16 rfl dX12_undo_15 rfl ?_
    refine E_gI (M := mX12_undo) 19 rfl dX12_undo_16 shc_149 fl_X12_53 rfl ?_
    refine E_iconst (M := mX12_undo) (v := 1) 20 rfl dX12_undo_19 (by decide) ?_
    refine E_isub (M := mX12_undo) 21 rfl dX12_undo_20 ?_
    replace h := Option.bind_eq_some_iff.mp h
    obtain ⟨I3, hI3, h⟩ := h
    refine E_pfI (M := mX12_undo) 24 rfl dX12_undo_21 shc_149 fl_X12_53 rfl hI3 ?_
    refine E_iconst (M := mX12_undo) (v := 0) 25 rfl dX12_undo_24 (by decide) ?_
    refine E_istore_n (M := mX12_undo) (lv' := [(1, .int 0), (0, .ref 149)]) 26 rfl dX12_undo_25 rfl (Nat.le_of_ble_eq_true rfl) rfl ?_
    refine E_sub (M := mX12_undo) (lv' := [(0, .ref 149), (1, .int 0)]) [1, 0] rfl ?_
    exact S_X12_undo_26 FU 0 I3 L _ h
  · rw [if_pos c2] at h
    refine E_iconst (M := mX12_undo) (v := 0) 13 rfl dX12_undo_12 (by decide) ?_
    cases h
    exact E_zret (M := mX12_undo) (x := false) rfl dX12_undo_13
theorem C_X12_undo {g : Gx} {I : MI} {L : ML} {res : Bool × MI × ML} (h : f_X12_undo I L = some res) : Ent g 1 0 mX12_undo [.ref 149] (I, L) (.inl (some (.int (bI res.1)))) (res.2.1, res.2.2) := Ent_of (by decide +kernel) (Nat.le_of_ble_eq_true rfl) (S_X12_undo I L _ h)
def f_X12_rooms (I : MI) (L : ML) : Option (Int32) := Option.bind (ldI I 150 2143 0) fun v1 => some v1
set_option maxRecDepth 100000 in
theorem S_X12_rooms {g : Gx} (I : MI) (L : ML) (res : Int32) (h : f_X12_rooms I L = some res) : E g 1 0 mX12_rooms 0 [(0, .ref 149)] [] (I, L) (.inl (some (.int res))) (I, L) := by
  unfold f_X12_rooms at h
  refine E_aload_n (M := mX12_rooms) 1 rfl dX12_rooms_0 rfl 0 rfl ?_
  refine E_gR (M := mX12_rooms) 150 4 rfl dX12_rooms_1 shc_149 fl_X12_13 rfl (by decide) (by decide) ?_
  refine E_iconst (M := mX12_rooms) (v := 0) 5 rfl dX12_rooms_4 (by decide) ?_
  replace h := Option.bind_eq_some_iff.mp h
  obtain ⟨v1, hv1, h⟩ := h
  refine E_ldI (M := mX12_rooms) 6 rfl dX12_rooms_5 shc_150 hv1 ?_
  cases h
  exact E_iret (M := mX12_rooms) rfl dX12_rooms_6
theorem C_X12_rooms {g : Gx} {I : MI} {L : ML} {res : Int32} (h : f_X12_rooms I L = some res) : Ent g 1 0 mX12_rooms [.ref 149] (I, L) (.inl (some (.int res))) (I, L) := Ent_of (by decide +kernel) (Nat.le_of_ble_eq_true rfl) (S_X12_rooms I L _ h)
def f_X12_heirs (I : MI) (L : ML) : Option (Int32) := Option.bind (ldI I 150 2143 2) fun v1 => some v1
set_option maxRecDepth 100000 in
theorem S_X12_heirs {g : Gx} (I : MI) (L : ML) (res : Int32) (h : f_X12_heirs I L = some res) : E g 1 0 mX12_heirs 0 [(0, .ref 149)] [] (I, L) (.inl (some (.int res))) (I, L) := by
  unfold f_X12_heirs at h
  refine E_aload_n (M := mX12_heirs) 1 rfl dX12_heirs_0 rfl 0 rfl ?_
  refine E_gR (M := mX12_heirs) 150 4 rfl dX12_heirs_1 shc_149 fl_X12_13 rfl (by decide) (by decide) ?_
  refine E_iconst (M := mX12_heirs) (v := 2) 5 rfl dX12_heirs_4 (by decide) ?_
  replace h := Option.bind_eq_some_iff.mp h
  obtain ⟨v1, hv1, h⟩ := h
  refine E_ldI (M := mX12_heirs) 6 rfl dX12_heirs_5 shc_150 hv1 ?_
  cases h
  exact E_iret (M := mX12_heirs) rfl dX12_heirs_6
theorem C_X12_heirs {g : Gx} {I : MI} {L : ML} {res : Int32} (h : f_X12_heirs I L = some res) : Ent g 1 0 mX12_heirs [.ref 149] (I, L) (.inl (some (.int res))) (I, L) := Ent_of (by decide +kernel) (Nat.le_of_ble_eq_true rfl) (S_X12_heirs I L _ h)
def f_X12_noises (I : MI) (L : ML) : Option (Int32) := Option.bind (ldI I 150 2143 3) fun v1 => some v1
set_option maxRecDepth 100000 in
theorem S_X12_noises {g : Gx} (I : MI) (L : ML) (res : Int32) (h : f_X12_noises I L = some res) : E g 1 0 mX12_noises 0 [(0, .ref 149)] [] (I, L) (.inl (some (.int res))) (I, L) := by
  unfold f_X12_noises at h
  refine E_aload_n (M := mX12_noises) 1 rfl dX12_noises_0 rfl 0 rfl ?_
  refine E_gR (M := mX12_noises) 150 4 rfl dX12_noises_1 shc_149 fl_X12_13 rfl (by decide) (by decide) ?_
  refine E_iconst (M := mX12_noises) (v := 3) 5 rfl dX12_noises_4 (by decide) ?_
  replace h := Option.bind_eq_some_iff.mp h
  obtain ⟨v1, hv1, h⟩ := h
  refine E_ldI (M := mX12_noises) 6 rfl dX12_noises_5 shc_150 hv1 ?_
  cases h
  exact E_iret (M := mX12_noises) rfl dX12_noises_6
theorem C_X12_noises {g : Gx} {I : MI} {L : ML} {res : Int32} (h : f_X12_noises I L = some res) : Ent g 1 0 mX12_noises [.ref 149] (I, L) (.inl (some (.int res))) (I, L) := Ent_of (by decide +kernel) (Nat.le_of_ble_eq_true rfl) (S_X12_noises I L _ h)
def f_X12_ofDoor (x1 : Int32) (x2 : Int32) (I : MI) (L : ML) : Option (Int32) := Option.bind (ldI I 150 2143 ((25 + (3 * x1)) + x2)) fun v1 => some v1
set_option maxRecDepth 100000 in
theorem S_X12_ofDoor {g : Gx} (x1 : Int32) (x2 : Int32) (I : MI) (L : ML) (res : Int32) (h : f_X12_ofDoor x1 x2 I L = some res) : E g 1 0 mX12_ofDoor 0 [(0, .ref 149), (1, .int x1), (2, .int x2)] [] (I, L) (.inl (some (.int res))) (I, L) := by
  unfold f_X12_ofDoor at h
  refine E_aload_n (M := mX12_ofDoor) 1 rfl dX12_ofDoor_0 rfl 0 rfl ?_
  refine E_gR (M := mX12_ofDoor) 150 4 rfl dX12_ofDoor_1 shc_149 fl_X12_13 rfl (by decide) (by decide) ?_
  refine E_bipush (M := mX12_ofDoor) (v := 25) 6 rfl dX12_ofDoor_4 (by decide) ?_
  refine E_iconst (M := mX12_ofDoor) (v := 3) 7 rfl dX12_ofDoor_6 (by decide) ?_
  refine E_iload_n (M := mX12_ofDoor) 8 rfl dX12_ofDoor_7 rfl 1 rfl ?_
  refine E_imul (M := mX12_ofDoor) 9 rfl dX12_ofDoor_8 ?_
  refine E_iadd (M := mX12_ofDoor) 10 rfl dX12_ofDoor_9 ?_
  refine E_iload_n (M := mX12_ofDoor) 11 rfl dX12_ofDoor_10 rfl 2 rfl ?_
  refine E_iadd (M := mX12_ofDoor) 12 rfl dX12_ofDoor_11 ?_
  replace h := Option.bind_eq_some_iff.mp h
  obtain ⟨v1, hv1, h⟩ := h
  refine E_ldI (M := mX12_ofDoor) 13 rfl dX12_ofDoor_12 shc_150 hv1 ?_
  cases h
  exact E_iret (M := mX12_ofDoor) rfl dX12_ofDoor_13
theorem C_X12_ofDoor {g : Gx} {x1 : Int32} {x2 : Int32} {I : MI} {L : ML} {res : Int32} (h : f_X12_ofDoor x1 x2 I L = some res) : Ent g 1 0 mX12_ofDoor [.ref 149, .int x1, .int x2] (I, L) (.inl (some (.int res))) (I, L) := Ent_of (by decide +kernel) (Nat.le_of_ble_eq_true rfl) (S_X12_ofDoor x1 x2 I L _ h)
def f_X12_ofHeir (x1 : Int32) (x2 : Int32) (I : MI) (L : ML) : Option (Int32) := Option.bind (ldI I 150 2143 ((67 + (3 * x1)) + x2)) fun v1 => some v1
set_option maxRecDepth 100000 in
theorem S_X12_ofHeir {g : Gx} (x1 : Int32) (x2 : Int32) (I : MI) (L : ML) (res : Int32) (h : f_X12_ofHeir x1 x2 I L = some res) : E g 1 0 mX12_ofHeir 0 [(0, .ref 149), (1, .int x1), (2, .int x2)] [] (I, L) (.inl (some (.int res))) (I, L) := by
  unfold f_X12_ofHeir at h
  refine E_aload_n (M := mX12_ofHeir) 1 rfl dX12_ofHeir_0 rfl 0 rfl ?_
  refine E_gR (M := mX12_ofHeir) 150 4 rfl dX12_ofHeir_1 shc_149 fl_X12_13 rfl (by decide) (by decide) ?_
  refine E_bipush (M := mX12_ofHeir) (v := 67) 6 rfl dX12_ofHeir_4 (by decide) ?_
  refine E_iconst (M := mX12_ofHeir) (v := 3) 7 rfl dX12_ofHeir_6 (by decide) ?_
  refine E_iload_n (M := mX12_ofHeir) 8 rfl dX12_ofHeir_7 rfl 1 rfl ?_
  refine E_imul (M := mX12_ofHeir) 9 rfl dX12_ofHeir_8 ?_
  refine E_iadd (M := mX12_ofHeir) 10 rfl dX12_ofHeir_9 ?_
  refine E_iload_n (M := mX12_ofHeir) 11 rfl dX12_ofHeir_10 rfl 2 rfl ?_
  refine E_iadd (M := mX12_ofHeir) 12 rfl dX12_ofHeir_11 ?_
  replace h := Option.bind_eq_some_iff.mp h
  obtain ⟨v1, hv1, h⟩ := h
  refine E_ldI (M := mX12_ofHeir) 13 rfl dX12_ofHeir_12 shc_150 hv1 ?_
  cases h
  exact E_iret (M := mX12_ofHeir) rfl dX12_ofHeir_13
theorem C_X12_ofHeir {g : Gx} {x1 : Int32} {x2 : Int32} {I : MI} {L : ML} {res : Int32} (h : f_X12_ofHeir x1 x2 I L = some res) : Ent g 1 0 mX12_ofHeir [.ref 149, .int x1, .int x2] (I, L) (.inl (some (.int res))) (I, L) := Ent_of (by decide +kernel) (Nat.le_of_ble_eq_true rfl) (S_X12_ofHeir x1 x2 I L _ h)
def f_X12_setsHeir (x1 : Int32) (x2 : Int32) (x3 : Int32) (I : MI) (L : ML) : Option (MI × ML) := Option.bind (stI I 150 2143 ((67 + (3 * x1)) + x2) x3) fun I1 => some (I1, L)
set_option maxRecDepth 100000 in
theorem S_X12_setsHeir {g : Gx} (x1 : Int32) (x2 : Int32) (x3 : Int32) (I : MI) (L : ML) (res : MI × ML) (h : f_X12_setsHeir x1 x2 x3 I L = some res) : E g 1 0 mX12_setsHeir 0 [(0, .ref 149), (1, .int x1), (2, .int x2), (3, .int x3)] [] (I, L) (.inl none) (res.1, res.2) := by
  unfold f_X12_setsHeir at h
  refine E_aload_n (M := mX12_setsHeir) 1 rfl dX12_setsHeir_0 rfl 0 rfl ?_
  refine E_gR (M := mX12_setsHeir) 150 4 rfl dX12_setsHeir_1 shc_149 fl_X12_13 rfl (by decide) (by decide) ?_
  refine E_bipush (M := mX12_setsHeir) (v := 67) 6 rfl dX12_setsHeir_4 (by decide) ?_
  refine E_iconst (M := mX12_setsHeir) (v := 3) 7 rfl dX12_setsHeir_6 (by decide) ?_
  refine E_iload_n (M := mX12_setsHeir) 8 rfl dX12_setsHeir_7 rfl 1 rfl ?_
  refine E_imul (M := mX12_setsHeir) 9 rfl dX12_setsHeir_8 ?_
  refine E_iadd (M := mX12_setsHeir) 10 rfl dX12_setsHeir_9 ?_
  refine E_iload_n (M := mX12_setsHeir) 11 rfl dX12_setsHeir_10 rfl 2 rfl ?_
  refine E_iadd (M := mX12_setsHeir) 12 rfl dX12_setsHeir_11 ?_
  refine E_iload_n (M := mX12_setsHeir) 13 rfl dX12_setsHeir_12 rfl 3 rfl ?_
  replace h := Option.bind_eq_some_iff.mp h
  obtain ⟨I1, hI1, h⟩ := h
  refine E_stI (M := mX12_setsHeir) 14 rfl dX12_setsHeir_13 shc_150 hI1 ?_
  cases h
  exact E_vret (M := mX12_setsHeir) rfl dX12_setsHeir_14
theorem C_X12_setsHeir {g : Gx} {x1 : Int32} {x2 : Int32} {x3 : Int32} {I : MI} {L : ML} {res : MI × ML} (h : f_X12_setsHeir x1 x2 x3 I L = some res) : Ent g 1 0 mX12_setsHeir [.ref 149, .int x1, .int x2, .int x3] (I, L) (.inl none) (res.1, res.2) := Ent_of (by decide +kernel) (Nat.le_of_ble_eq_true rfl) (S_X12_setsHeir x1 x2 x3 I L _ h)
def f_X12_of (x1 : Int32) (x2 : Int32) (I : MI) (L : ML) : Option (Int32) := Option.bind (ldI I 150 2143 ((85 + (10 * x1)) + x2)) fun v1 => some v1
set_option maxRecDepth 100000 in
theorem S_X12_of {g : Gx} (x1 : Int32) (x2 : Int32) (I : MI) (L : ML) (res : Int32) (h : f_X12_of x1 x2 I L = some res) : E g 1 0 mX12_of 0 [(0, .ref 149), (1, .int x1), (2, .int x2)] [] (I, L) (.inl (some (.int res))) (I, L) := by
  unfold f_X12_of at h
  refine E_aload_n (M := mX12_of) 1 rfl dX12_of_0 rfl 0 rfl ?_
  refine E_gR (M := mX12_of) 150 4 rfl dX12_of_1 shc_149 fl_X12_13 rfl (by decide) (by decide) ?_
  refine E_bipush (M := mX12_of) (v := 85) 6 rfl dX12_of_4 (by decide) ?_
  refine E_bipush (M := mX12_of) (v := 10) 8 rfl dX12_of_6 (by decide) ?_
  refine E_iload_n (M := mX12_of) 9 rfl dX12_of_8 rfl 1 rfl ?_
  refine E_imul (M := mX12_of) 10 rfl dX12_of_9 ?_
  refine E_iadd (M := mX12_of) 11 rfl dX12_of_10 ?_
  refine E_iload_n (M := mX12_of) 12 rfl dX12_of_11 rfl 2 rfl ?_
  refine E_iadd (M := mX12_of) 13 rfl dX12_of_12 ?_
  replace h := Option.bind_eq_some_iff.mp h
  obtain ⟨v1, hv1, h⟩ := h
  refine E_ldI (M := mX12_of) 14 rfl dX12_of_13 shc_150 hv1 ?_
  cases h
  exact E_iret (M := mX12_of) rfl dX12_of_14
theorem C_X12_of {g : Gx} {x1 : Int32} {x2 : Int32} {I : MI} {L : ML} {res : Int32} (h : f_X12_of x1 x2 I L = some res) : Ent g 1 0 mX12_of [.ref 149, .int x1, .int x2] (I, L) (.inl (some (.int res))) (I, L) := Ent_of (by decide +kernel) (Nat.le_of_ble_eq_true rfl) (S_X12_of x1 x2 I L _ h)
def f_X12_sets (x1 : Int32) (x2 : Int32) (x3 : Int32) (I : MI) (L : ML) : Option (MI × ML) := Option.bind (stI I 150 2143 ((85 + (10 * x1)) + x2) x3) fun I1 => some (I1, L)
set_option maxRecDepth 100000 in
theorem S_X12_sets {g : Gx} (x1 : Int32) (x2 : Int32) (x3 : Int32) (I : MI) (L : ML) (res : MI × ML) (h : f_X12_sets x1 x2 x3 I L = some res) : E g 1 0 mX12_sets 0 [(0, .ref 149), (1, .int x1), (2, .int x2), (3, .int x3)] [] (I, L) (.inl none) (res.1, res.2) := by
  unfold f_X12_sets at h
  refine E_aload_n (M := mX12_sets) 1 rfl dX12_sets_0 rfl 0 rfl ?_
  refine E_gR (M := mX12_sets) 150 4 rfl dX12_sets_1 shc_149 fl_X12_13 rfl (by decide) (by decide) ?_
  refine E_bipush (M := mX12_sets) (v := 85) 6 rfl dX12_sets_4 (by decide) ?_
  refine E_bipush (M := mX12_sets) (v := 10) 8 rfl dX12_sets_6 (by decide) ?_
  refine E_iload_n (M := mX12_sets) 9 rfl dX12_sets_8 rfl 1 rfl ?_
  refine E_imul (M := mX12_sets) 10 rfl dX12_sets_9 ?_
  refine E_iadd (M := mX12_sets) 11 rfl dX12_sets_10 ?_
  refine E_iload_n (M := mX12_sets) 12 rfl dX12_sets_11 rfl 2 rfl ?_
  refine E_iadd (M := mX12_sets) 13 rfl dX12_sets_12 ?_
  refine E_iload_n (M := mX12_sets) 14 rfl dX12_sets_13 rfl 3 rfl ?_
  replace h := Option.bind_eq_some_iff.mp h
  obtain ⟨I1, hI1, h⟩ := h
  refine E_stI (M := mX12_sets) 15 rfl dX12_sets_14 shc_150 hI1 ?_
  cases h
  exact E_vret (M := mX12_sets) rfl dX12_sets_15
theorem C_X12_sets {g : Gx} {x1 : Int32} {x2 : Int32} {x3 : Int32} {I : MI} {L : ML} {res : MI × ML} (h : f_X12_sets x1 x2 x3 I L = some res) : Ent g 1 0 mX12_sets [.ref 149, .int x1, .int x2, .int x3] (I, L) (.inl none) (res.1, res.2) := Ent_of (by decide +kernel) (Nat.le_of_ble_eq_true rfl) (S_X12_sets x1 x2 x3 I L _ h)
def f_X12_noRoom_19 (y0 : Bool) (I : MI) (L : ML) : Option (Bool) := some y0
set_option maxRecDepth 100000 in
theorem S_X12_noRoom_19 {g : Gx} (y0 : Bool) (I : MI) (L : ML) (res : Bool) (h : f_X12_noRoom_19 y0 I L = some res) : E g 2 0 mX12_noRoom 19 [] [.int (bI y0)] (I, L) (.inl (some (.int (bI res)))) (I, L) := by
  unfold f_X12_noRoom_19 at h
  cases h
  exact E_zret (M := mX12_noRoom) (x := y0) rfl dX12_noRoom_19
def f_X12_noRoom (x1 : Int32) (I : MI) (L : ML) : Option (Bool) := Option.bind (f_X12_rooms I L) fun v1 => Option.bind (f_X12_in x1 0 (v1 - 1) I L) fun v2 => if v2 = true then (f_X12_noRoom_19 false I L) else (f_X12_noRoom_19 true I L)
set_option maxRecDepth 100000 in
theorem S_X12_noRoom {g : Gx} (x1 : Int32) (I : MI) (L : ML) (res : Bool) (h : f_X12_noRoom x1 I L = some res) : E g 2 0 mX12_noRoom 0 [(0, .ref 149), (1, .int x1)] [] (I, L) (.inl (some (.int (bI res)))) (I, L) := by
  unfold f_X12_noRoom at h
  refine E_iload_n (M := mX12_noRoom) 1 rfl dX12_noRoom_0 rfl 1 rfl ?_
  refine E_iconst (M := mX12_noRoom) (v := 0) 2 rfl dX12_noRoom_1 (by decide) ?_
  refine E_aload_n (M := mX12_noRoom) 3 rfl dX12_noRoom_2 rfl 0 rfl ?_
  replace h := Option.bind_eq_some_iff.mp h
  obtain ⟨v1, hv1, h⟩ := h
  refine E_cV1 (M := mX12_noRoom) (As := []) 6 rfl dX12_noRoom_3 shc_149 ck_X12_56 cv_X12_rooms rfl (by decide) (Nat.le_of_ble_eq_true rfl) (C_X12_rooms (g := g) hv1) rfl ?_
  refine E_iconst (M := mX12_noRoom) (v := 1) 7 rfl dX12_noRoom_6 (by decide) ?_
  refine E_isub (M := mX12_noRoom) 8 rfl dX12_noRoom_7 ?_
  replace h := Option.bind_eq_some_iff.mp h
  obtain ⟨v2, hv2, h⟩ := h
  refine E_cS1 (M := mX12_noRoom) (As := [.int x1, .int 0, .int (v1 - 1)]) 11 rfl dX12_noRoom_8 ck_X12_60 ss_X12_in rfl (by decide) (Nat.le_of_ble_eq_true rfl) (C_X12_in (g := g) hv2) rfl ?_
  refine E_if_neB (M := mX12_noRoom) 18 14 (by decide) rfl dX12_noRoom_11 (fun c3 => ?_) (fun c3 => ?_)
  · rw [if_pos c3] at h
    refine E_iconst (M := mX12_noRoom) (v := 0) 19 rfl dX12_noRoom_18 (by decide) ?_
    refine E_sub (M := mX12_noRoom) (lv' := []) [] rfl ?_
    exact S_X12_noRoom_19 false I L _ h
  · rw [if_neg (by rw [c3]; decide)] at h
    refine E_iconst (M := mX12_noRoom) (v := 1) 15 rfl dX12_noRoom_14 (by decide) ?_
    refine E_goto (M := mX12_noRoom) 19 (by decide) dX12_noRoom_15 ?_
    refine E_sub (M := mX12_noRoom) (lv' := []) [] rfl ?_
    exact S_X12_noRoom_19 true I L _ h
theorem C_X12_noRoom {g : Gx} {x1 : Int32} {I : MI} {L : ML} {res : Bool} (h : f_X12_noRoom x1 I L = some res) : Ent g 2 0 mX12_noRoom [.ref 149, .int x1] (I, L) (.inl (some (.int (bI res)))) (I, L) := Ent_of (by decide +kernel) (Nat.le_of_ble_eq_true rfl) (S_X12_noRoom x1 I L _ h)
def f_X12_noHeir_19 (y0 : Bool) (I : MI) (L : ML) : Option (Bool) := some y0
set_option maxRecDepth 100000 in
theorem S_X12_noHeir_19 {g : Gx} (y0 : Bool) (I : MI) (L : ML) (res : Bool) (h : f_X12_noHeir_19 y0 I L = some res) : E g 2 0 mX12_noHeir 19 [] [.int (bI y0)] (I, L) (.inl (some (.int (bI res)))) (I, L) := by
  unfold f_X12_noHeir_19 at h
  cases h
  exact E_zret (M := mX12_noHeir) (x := y0) rfl dX12_noHeir_19
def f_X12_noHeir (x1 : Int32) (I : MI) (L : ML) : Option (Bool) := Option.bind (f_X12_heirs I L) fun v1 => Option.bind (f_X12_in x1 0 (v1 - 1) I L) fun v2 => if v2 = true then (f_X12_noHeir_19 false I L) else (f_X12_noHeir_19 true I L)
set_option maxRecDepth 100000 in
theorem S_X12_noHeir {g : Gx} (x1 : Int32) (I : MI) (L : ML) (res : Bool) (h : f_X12_noHeir x1 I L = some res) : E g 2 0 mX12_noHeir 0 [(0, .ref 149), (1, .int x1)] [] (I, L) (.inl (some (.int (bI res)))) (I, L) := by
  unfold f_X12_noHeir at h
  refine E_iload_n (M := mX12_noHeir) 1 rfl dX12_noHeir_0 rfl 1 rfl ?_
  refine E_iconst (M := mX12_noHeir) (v := 0) 2 rfl dX12_noHeir_1 (by decide) ?_
  refine E_aload_n (M := mX12_noHeir) 3 rfl dX12_noHeir_2 rfl 0 rfl ?_
  replace h := Option.bind_eq_some_iff.mp h
  obtain ⟨v1, hv1, h⟩ := h
  refine E_cV1 (M := mX12_noHeir) (As := []) 6 rfl dX12_noHeir_3 shc_149 ck_X12_64 cv_X12_heirs rfl (by decide) (Nat.le_of_ble_eq_true rfl) (C_X12_heirs (g := g) hv1) rfl ?_
  refine E_iconst (M := mX12_noHeir) (v := 1) 7 rfl dX12_noHeir_6 (by decide) ?_
  refine E_isub (M := mX12_noHeir) 8 rfl dX12_noHeir_7 ?_
  replace h := Option.bind_eq_some_iff.mp h
  obtain ⟨v2, hv2, h⟩ := h
  refine E_cS1 (M := mX12_noHeir) (As := [.int x1, .int 0, .int (v1 - 1)]) 11 rfl dX12_noHeir_8 ck_X12_60 ss_X12_in rfl (by decide) (Nat.le_of_ble_eq_true rfl) (C_X12_in (g := g) hv2) rfl ?_
  refine E_if_neB (M := mX12_noHeir) 18 14 (by decide) rfl dX12_noHeir_11 (fun c3 => ?_) (fun c3 => ?_)
  · rw [if_pos c3] at h
    refine E_iconst (M := mX12_noHeir) (v := 0) 19 rfl dX12_noHeir_18 (by decide) ?_
    refine E_sub (M := mX12_noHeir) (lv' := []) [] rfl ?_
    exact S_X12_noHeir_19 false I L _ h
  · rw [if_neg (by rw [c3]; decide)] at h
    refine E_iconst (M := mX12_noHeir) (v := 1) 15 rfl dX12_noHeir_14 (by decide) ?_
    refine E_goto (M := mX12_noHeir) 19 (by decide) dX12_noHeir_15 ?_
    refine E_sub (M := mX12_noHeir) (lv' := []) [] rfl ?_
    exact S_X12_noHeir_19 true I L _ h
theorem C_X12_noHeir {g : Gx} {x1 : Int32} {I : MI} {L : ML} {res : Bool} (h : f_X12_noHeir x1 I L = some res) : Ent g 2 0 mX12_noHeir [.ref 149, .int x1] (I, L) (.inl (some (.int (bI res)))) (I, L) := Ent_of (by decide +kernel) (Nat.le_of_ble_eq_true rfl) (S_X12_noHeir x1 I L _ h)
def f_X12_noNoise_19 (y0 : Bool) (I : MI) (L : ML) : Option (Bool) := some y0
set_option maxRecDepth 100000 in
theorem S_X12_noNoise_19 {g : Gx} (y0 : Bool) (I : MI) (L : ML) (res : Bool) (h : f_X12_noNoise_19 y0 I L = some res) : E g 2 0 mX12_noNoise 19 [] [.int (bI y0)] (I, L) (.inl (some (.int (bI res)))) (I, L) := by
  unfold f_X12_noNoise_19 at h
  cases h
  exact E_zret (M := mX12_noNoise) (x := y0) rfl dX12_noNoise_19
def f_X12_noNoise (x1 : Int32) (I : MI) (L : ML) : Option (Bool) := Option.bind (f_X12_noises I L) fun v1 => Option.bind (f_X12_in x1 0 (v1 - 1) I L) fun v2 => if v2 = true then (f_X12_noNoise_19 false I L) else (f_X12_noNoise_19 true I L)
set_option maxRecDepth 100000 in
theorem S_X12_noNoise {g : Gx} (x1 : Int32) (I : MI) (L : ML) (res : Bool) (h : f_X12_noNoise x1 I L = some res) : E g 2 0 mX12_noNoise 0 [(0, .ref 149), (1, .int x1)] [] (I, L) (.inl (some (.int (bI res)))) (I, L) := by
  unfold f_X12_noNoise at h
  refine E_iload_n (M := mX12_noNoise) 1 rfl dX12_noNoise_0 rfl 1 rfl ?_
  refine E_iconst (M := mX12_noNoise) (v := 0) 2 rfl dX12_noNoise_1 (by decide) ?_
  refine E_aload_n (M := mX12_noNoise) 3 rfl dX12_noNoise_2 rfl 0 rfl ?_
  replace h := Option.bind_eq_some_iff.mp h
  obtain ⟨v1, hv1, h⟩ := h
  refine E_cV1 (M := mX12_noNoise) (As := []) 6 rfl dX12_noNoise_3 shc_149 ck_X12_67 cv_X12_noises rfl (by decide) (Nat.le_of_ble_eq_true rfl) (C_X12_noises (g := g) hv1) rfl ?_
  refine E_iconst (M := mX12_noNoise) (v := 1) 7 rfl dX12_noNoise_6 (by decide) ?_
  refine E_isub (M := mX12_noNoise) 8 rfl dX12_noNoise_7 ?_
  replace h := Option.bind_eq_some_iff.mp h
  obtain ⟨v2, hv2, h⟩ := h
  refine E_cS1 (M := mX12_noNoise) (As := [.int x1, .int 0, .int (v1 - 1)]) 11 rfl dX12_noNoise_8 ck_X12_60 ss_X12_in rfl (by decide) (Nat.le_of_ble_eq_true rfl) (C_X12_in (g := g) hv2) rfl ?_
  refine E_if_neB (M := mX12_noNoise) 18 14 (by decide) rfl dX12_noNoise_11 (fun c3 => ?_) (fun c3 => ?_)
  · rw [if_pos c3] at h
    refine E_iconst (M := mX12_noNoise) (v := 0) 19 rfl dX12_noNoise_18 (by decide) ?_
    refine E_sub (M := mX12_noNoise) (lv' := []) [] rfl ?_
    exact S_X12_noNoise_19 false I L _ h
  · rw [if_neg (by rw [c3]; decide)] at h
    refine E_iconst (M := mX12_noNoise) (v := 1) 15 rfl dX12_noNoise_14 (by decide) ?_
    refine E_goto (M := mX12_noNoise) 19 (by decide) dX12_noNoise_15 ?_
    refine E_sub (M := mX12_noNoise) (lv' := []) [] rfl ?_
    exact S_X12_noNoise_19 true I L _ h
theorem C_X12_noNoise {g : Gx} {x1 : Int32} {I : MI} {L : ML} {res : Bool} (h : f_X12_noNoise x1 I L = some res) : Ent g 2 0 mX12_noNoise [.ref 149, .int x1] (I, L) (.inl (some (.int (bI res)))) (I, L) := Ent_of (by decide +kernel) (Nat.le_of_ble_eq_true rfl) (S_X12_noNoise x1 I L _ h)
def f_X12_feed_60 : Nat → Int32 → MI → ML → Option (Int32 × MI × ML)
  | 0, _, _, _ => none
  | n + 1, x6, I, L => if 20 ≤ x6 then (Option.bind (pfI I 149 8 ((I 149 8) + 20)) fun I2 => some (I2 149 8, I2, L)) else (Option.bind (ldI I 155 5 (x6 / 4)) fun v4 => Option.bind (stB I 154 400 ((I 149 8) + x6) ((v4 >>> ((24 - (8 * (x6 - x6 / 4 * 4))) &&& 31)).toInt8.toInt32)) fun I6 => f_X12_feed_60 n (x6 + 1) I6 L)
set_option maxRecDepth 100000 in
theorem S_X12_feed_60 {g : Gx} : ∀ (n : Nat) (x6 : Int32) (I : MI) (L : ML) (res : Int32 × MI × ML), f_X12_feed_60 n x6 I L = some res → E g 1 0 mX12_feed 60 [(0, .ref 149), (6, .int x6)] [] (I, L) (.inl (some (.int res.1))) (res.2.1, res.2.2) := by
  intro n
  induction n with
  | zero =>
    intros
    rename_i h
    cases h
  | succ n ih =>
    intro x6 I L res h
    rw [f_X12_feed_60] at h
    refine E_iload (M := mX12_feed) 62 rfl dX12_feed_60 1 rfl ?_
    refine E_bipush (M := mX12_feed) (v := 20) 64 rfl dX12_feed_62 (by decide) ?_
    refine E_icmp_ge (M := mX12_feed) 106 67 (by decide) rfl dX12_feed_64 (fun c1 => ?_) (fun c1 => ?_)
    · rw [if_pos c1] at h
      refine E_aload_n (M := mX12_feed) 107 rfl dX12_feed_106 rfl 0 rfl ?_
      refine E_dup (M := mX12_feed) 108 rfl dX12_feed_107 rfl ?_
      refine E_gI (M := mX12_feed) 111 rfl dX12_feed_108 shc_149 fl_X12_70 rfl ?_
      refine E_bipush (M := mX12_feed) (v := 20) 113 rfl dX12_feed_111 (by decide) ?_
      refine E_iadd (M := mX12_feed) 114 rfl dX12_feed_113 ?_
      replace h := Option.bind_eq_some_iff.mp h
      obtain ⟨I2, hI2, h⟩ := h
      refine E_pfI (M := mX12_feed) 117 rfl dX12_feed_114 shc_149 fl_X12_70 rfl hI2 ?_
      refine E_aload_n (M := mX12_feed) 118 rfl dX12_feed_117 rfl 0 rfl ?_
      refine E_gI (M := mX12_feed) 121 rfl dX12_feed_118 shc_149 fl_X12_70 rfl ?_
      cases h
      exact E_iret (M := mX12_feed) rfl dX12_feed_121
    · rw [if_neg c1] at h
      refine E_aload_n (M := mX12_feed) 68 rfl dX12_feed_67 rfl 0 rfl ?_
      refine E_gR (M := mX12_feed) 154 71 rfl dX12_feed_68 shc_149 fl_X12_26 rfl (by decide) (by decide) ?_
      refine E_aload_n (M := mX12_feed) 72 rfl dX12_feed_71 rfl 0 rfl ?_
      refine E_gI (M := mX12_feed) 75 rfl dX12_feed_72 shc_149 fl_X12_70 rfl ?_
      refine E_iload (M := mX12_feed) 77 rfl dX12_feed_75 1 rfl ?_
      refine E_iadd (M := mX12_feed) 78 rfl dX12_feed_77 ?_
      refine E_aload_n (M := mX12_feed) 79 rfl dX12_feed_78 rfl 0 rfl ?_
      refine E_gR (M := mX12_feed) 155 82 rfl dX12_feed_79 shc_149 fl_X12_33 rfl (by decide) (by decide) ?_
      refine E_iload (M := mX12_feed) 84 rfl dX12_feed_82 1 rfl ?_
      refine E_iconst (M := mX12_feed) (v := 4) 85 rfl dX12_feed_84 (by decide) ?_
      refine E_idiv (M := mX12_feed) 86 rfl dX12_feed_85 (by decide) ?_
      replace h := Option.bind_eq_some_iff.mp h
      obtain ⟨v4, hv4, h⟩ := h
      refine E_ldI (M := mX12_feed) 87 rfl dX12_feed_86 shc_155 hv4 ?_
      refine E_bipush (M := mX12_feed) (v := 24) 89 rfl dX12_feed_87 (by decide) ?_
      refine E_bipush (M := mX12_feed) (v := 8) 91 rfl dX12_feed_89 (by decide) ?_
      refine E_iload (M := mX12_feed) 93 rfl dX12_feed_91 1 rfl ?_
      refine E_iconst (M := mX12_feed) (v := 4) 94 rfl dX12_feed_93 (by decide) ?_
      refine E_irem (M := mX12_feed) 95 rfl dX12_feed_94 (by decide) ?_
      refine E_imul (M := mX12_feed) 96 rfl dX12_feed_95 ?_
      refine E_isub (M := mX12_feed) 97 rfl dX12_feed_96 ?_
      refine E_ishr (M := mX12_feed) 98 rfl dX12_feed_97 ?_
      refine E_i2b (M := mX12_feed) 99 rfl dX12_feed_98 ?_
      replace h := Option.bind_eq_some_iff.mp h
      obtain ⟨I6, hI6, h⟩ := h
      refine E_stB (M := mX12_feed) 100 rfl dX12_feed_99 shc_154 hI6 ?_
      refine E_iinc (M := mX12_feed) (j := 1) (v := x6 + 1) (lv' := [(6, .int (x6 + 1)), (0, .ref 149)]) 103 rfl dX12_feed_100 rfl rfl (Nat.le_of_ble_eq_true rfl) rfl ?_
      refine E_goto (M := mX12_feed) 60 (by decide) dX12_feed_103 ?_
      refine E_sub (M := mX12_feed) (lv' := [(0, .ref 149), (6, .int (x6 + 1))]) [1, 0] rfl ?_
      exact ih (x6 + 1) I6 L _ h
def f_X12_feed (x1 : Int32) (x2 : Int32) (x3 : Int32) (x4 : Int32) (x5 : Int32) (I : MI) (L : ML) : Option (Int32 × MI × ML) := Option.bind (pfI I 149 0 0) fun I1 => if ((I1 149 8) + 20) ≤ 400 then (Option.bind (stI I1 155 5 0 x1) fun I3 => Option.bind (stI I3 155 5 1 x2) fun I4 => Option.bind (stI I4 155 5 2 x3) fun I5 => Option.bind (stI I5 155 5 3 x4) fun I6 => Option.bind (stI I6 155 5 4 x5) fun I7 => f_X12_feed_60 FU 0 I7 L) else (some ((-1), I1, L))
set_option maxRecDepth 100000 in
theorem S_X12_feed {g : Gx} (x1 : Int32) (x2 : Int32) (x3 : Int32) (x4 : Int32) (x5 : Int32) (I : MI) (L : ML) (res : Int32 × MI × ML) (h : f_X12_feed x1 x2 x3 x4 x5 I L = some res) : E g 1 0 mX12_feed 0 [(0, .ref 149), (1, .int x1), (2, .int x2), (3, .int x3), (4, .int x4), (5, .int x5)] [] (I, L) (.inl (some (.int res.1))) (res.2.1, res.2.2) := by
  unfold f_X12_feed at h
  refine E_aload_n (M := mX12_feed) 1 rfl dX12_feed_0 rfl 0 rfl ?_
  refine E_iconst (M := mX12_feed) (v := 0) 2 rfl dX12_feed_1 (by decide) ?_
  replace h := Option.bind_eq_some_iff.mp h
  obtain ⟨I1, hI1, h⟩ := h
  refine E_pfI (M := mX12_feed) 5 rfl dX12_feed_2 shc_149 fl_X12_3 rfl hI1 ?_
  refine E_aload_n (M := mX12_feed) 6 rfl dX12_feed_5 rfl 0 rfl ?_
  refine E_gI (M := mX12_feed) 9 rfl dX12_feed_6 shc_149 fl_X12_70 rfl ?_
  refine E_bipush (M := mX12_feed) (v := 20) 11 rfl dX12_feed_9 (by decide) ?_
  refine E_iadd (M := mX12_feed) 12 rfl dX12_feed_11 ?_
  refine E_sipush (M := mX12_feed) (v := 400) 15 rfl dX12_feed_12 (by decide) ?_
  refine E_icmp_le (M := mX12_feed) 20 18 (by decide) rfl dX12_feed_15 (fun c2 => ?_) (fun c2 => ?_)
  · rw [if_pos c2] at h
    refine E_aload_n (M := mX12_feed) 21 rfl dX12_feed_20 rfl 0 rfl ?_
    refine E_gR (M := mX12_feed) 155 24 rfl dX12_feed_21 shc_149 fl_X12_33 rfl (by decide) (by decide) ?_
    refine E_iconst (M := mX12_feed) (v := 0) 25 rfl dX12_feed_24 (by decide) ?_
    refine E_iload_n (M := mX12_feed) 26 rfl dX12_feed_25 rfl 1 rfl ?_
    replace h := Option.bind_eq_some_iff.mp h
    obtain ⟨I3, hI3, h⟩ := h
    refine E_stI (M := mX12_feed) 27 rfl dX12_feed_26 shc_155 hI3 ?_
    refine E_aload_n (M := mX12_feed) 28 rfl dX12_feed_27 rfl 0 rfl ?_
    refine E_gR (M := mX12_feed) 155 31 rfl dX12_feed_28 shc_149 fl_X12_33 rfl (by decide) (by decide) ?_
    refine E_iconst (M := mX12_feed) (v := 1) 32 rfl dX12_feed_31 (by decide) ?_
    refine E_iload_n (M := mX12_feed) 33 rfl dX12_feed_32 rfl 2 rfl ?_
    replace h := Option.bind_eq_some_iff.mp h
    obtain ⟨I4, hI4, h⟩ := h
    refine E_stI (M := mX12_feed) 34 rfl dX12_feed_33 shc_155 hI4 ?_
    refine E_aload_n (M := mX12_feed) 35 rfl dX12_feed_34 rfl 0 rfl ?_
    refine E_gR (M := mX12_feed) 155 38 rfl dX12_feed_35 shc_149 fl_X12_33 rfl (by decide) (by decide) ?_
    refine E_iconst (M := mX12_feed) (v := 2) 39 rfl dX12_feed_38 (by decide) ?_
    refine E_iload_n (M := mX12_feed) 40 rfl dX12_feed_39 rfl 3 rfl ?_
    replace h := Option.bind_eq_some_iff.mp h
    obtain ⟨I5, hI5, h⟩ := h
    refine E_stI (M := mX12_feed) 41 rfl dX12_feed_40 shc_155 hI5 ?_
    refine E_aload_n (M := mX12_feed) 42 rfl dX12_feed_41 rfl 0 rfl ?_
    refine E_gR (M := mX12_feed) 155 45 rfl dX12_feed_42 shc_149 fl_X12_33 rfl (by decide) (by decide) ?_
    refine E_iconst (M := mX12_feed) (v := 3) 46 rfl dX12_feed_45 (by decide) ?_
    refine E_iload (M := mX12_feed) 48 rfl dX12_feed_46 4 rfl ?_
    replace h := Option.bind_eq_some_iff.mp h
    obtain ⟨I6, hI6, h⟩ := h
    refine E_stI (M := mX12_feed) 49 rfl dX12_feed_48 shc_155 hI6 ?_
    refine E_aload_n (M := mX12_feed) 50 rfl dX12_feed_49 rfl 0 rfl ?_
    refine E_gR (M := mX12_feed) 155 53 rfl dX12_feed_50 shc_149 fl_X12_33 rfl (by decide) (by decide) ?_
    refine E_iconst (M := mX12_feed) (v := 4) 54 rfl dX12_feed_53 (by decide) ?_
    refine E_iload (M := mX12_feed) 56 rfl dX12_feed_54 5 rfl ?_
    replace h := Option.bind_eq_some_iff.mp h
    obtain ⟨I7, hI7, h⟩ := h
    refine E_stI (M := mX12_feed) 57 rfl dX12_feed_56 shc_155 hI7 ?_
    refine E_iconst (M := mX12_feed) (v := 0) 58 rfl dX12_feed_57 (by decide) ?_
    refine E_istore (M := mX12_feed) (lv' := [(6, .int 0), (0, .ref 149), (1, .int x1), (2, .int x2), (3, .int x3), (4, .int x4), (5, .int x5)]) 60 rfl dX12_feed_58 (Nat.le_of_ble_eq_true rfl) rfl ?_
    refine E_sub (M := mX12_feed) (lv' := [(0, .ref 149), (6, .int 0)]) [1, 0] rfl ?_
    exact S_X12_feed_60 FU 0 I7 L _ h
  · rw [if_neg c2] at h
    refine E_iconst (M := mX12_feed) (v := (-1)) 19 rfl dX12_feed_18 (by decide) ?_
    cases h
    exact E_iret (M := mX12_feed) rfl dX12_feed_19
theorem C_X12_feed {g : Gx} {x1 : Int32} {x2 : Int32} {x3 : Int32} {x4 : Int32} {x5 : Int32} {I : MI} {L : ML} {res : Int32 × MI × ML} (h : f_X12_feed x1 x2 x3 x4 x5 I L = some res) : Ent g 1 0 mX12_feed [.ref 149, .int x1, .int x2, .int x3, .int x4, .int x5] (I, L) (.inl (some (.int res.1))) (res.2.1, res.2.2) := Ent_of (by decide +kernel) (Nat.le_of_ble_eq_true rfl) (S_X12_feed x1 x2 x3 x4 x5 I L _ h)
def f_X12_end_17 (I : MI) (L : ML) : Option (Bool × MI × ML) := some (false, I, L)
set_option maxRecDepth 100000 in
theorem S_X12_end_17 {g : Gx} (I : MI) (L : ML) (res : Bool × MI × ML) (h : f_X12_end_17 I L = some res) : E g 1 0 mX12_end 17 [] [] (I, L) (.inl (some (.int (bI res.1)))) (res.2.1, res.2.2) := by
  unfold f_X12_end_17 at h
  refine E_iconst (M := mX12_end) (v := 0) 18 rfl dX12_end_17 (by decide) ?_
  cases h
  exact E_zret (M := mX12_end) (x := false) rfl dX12_end_18
def f_X12_end (x1 : Int32) (I : MI) (L : ML) : Option (Bool × MI × ML) := Option.bind (pfI I 149 0 0) fun I1 => if x1 < 0 then (f_X12_end_17 I1 L) else (if x1 ≤ (I1 149 8) then (Option.bind (pfI I1 149 8 x1) fun I4 => some (true, I4, L)) else (f_X12_end_17 I1 L))
set_option maxRecDepth 100000 in
theorem S_X12_end {g : Gx} (x1 : Int32) (I : MI) (L : ML) (res : Bool × MI × ML) (h : f_X12_end x1 I L = some res) : E g 1 0 mX12_end 0 [(0, .ref 149), (1, .int x1)] [] (I, L) (.inl (some (.int (bI res.1)))) (res.2.1, res.2.2) := by
  unfold f_X12_end at h
  refine E_aload_n (M := mX12_end) 1 rfl dX12_end_0 rfl 0 rfl ?_
  refine E_iconst (M := mX12_end) (v := 0) 2 rfl dX12_end_1 (by decide) ?_
  replace h := Option.bind_eq_some_iff.mp h
  obtain ⟨I1, hI1, h⟩ := h
  refine E_pfI (M := mX12_end) 5 rfl dX12_end_2 shc_149 fl_X12_3 rfl hI1 ?_
  refine E_iload_n (M := mX12_end) 6 rfl dX12_end_5 rfl 1 rfl ?_
  refine E_if_lt (M := mX12_end) 17 9 (by decide) rfl dX12_end_6 (fun c2 => ?_) (fun c2 => ?_)
  · rw [if_pos c2] at h
    refine E_sub (M := mX12_end) (lv' := []) [] rfl ?_
    exact S_X12_end_17 I1 L _ h
  · rw [if_neg c2] at h
    refine E_iload_n (M := mX12_end) 10 rfl dX12_end_9 rfl 1 rfl ?_
    refine E_aload_n (M := mX12_end) 11 rfl dX12_end_10 rfl 0 rfl ?_
    refine E_gI (M := mX12_end) 14 rfl dX12_end_11 shc_149 fl_X12_70 rfl ?_
    refine E_icmp_le (M := mX12_end) 19 17 (by decide) rfl dX12_end_14 (fun c3 => ?_) (fun c3 => ?_)
    · rw [if_pos c3] at h
      refine E_aload_n (M := mX12_end) 20 rfl dX12_end_19 rfl 0 rfl ?_
      refine E_iload_n (M := mX12_end) 21 rfl dX12_end_20 rfl 1 rfl ?_
      replace h := Option.bind_eq_some_iff.mp h
      obtain ⟨I4, hI4, h⟩ := h
      refine E_pfI (M := mX12_end) 24 rfl dX12_end_21 shc_149 fl_X12_70 rfl hI4 ?_
      refine E_iconst (M := mX12_end) (v := 1) 25 rfl dX12_end_24 (by decide) ?_
      cases h
      exact E_zret (M := mX12_end) (x := true) rfl dX12_end_25
    · rw [if_neg c3] at h
      refine E_sub (M := mX12_end) (lv' := []) [] rfl ?_
      exact S_X12_end_17 I1 L _ h
theorem C_X12_end {g : Gx} {x1 : Int32} {I : MI} {L : ML} {res : Bool × MI × ML} (h : f_X12_end x1 I L = some res) : Ent g 1 0 mX12_end [.ref 149, .int x1] (I, L) (.inl (some (.int (bI res.1)))) (res.2.1, res.2.2) := Ent_of (by decide +kernel) (Nat.le_of_ble_eq_true rfl) (S_X12_end x1 I L _ h)
def f_X12_isAt_42 (y0 : Bool) (I : MI) (L : ML) : Option (Bool) := some y0
set_option maxRecDepth 100000 in
theorem S_X12_isAt_42 {g : Gx} (y0 : Bool) (I : MI) (L : ML) (res : Bool) (h : f_X12_isAt_42 y0 I L = some res) : E g 1 0 mX12_isAt 42 [] [.int (bI y0)] (I, L) (.inl (some (.int (bI res)))) (I, L) := by
  unfold f_X12_isAt_42 at h
  cases h
  exact E_zret (M := mX12_isAt) (x := y0) rfl dX12_isAt_42
def f_X12_isAt_41 (I : MI) (L : ML) : Option (Bool) := f_X12_isAt_42 false I L
set_option maxRecDepth 100000 in
theorem S_X12_isAt_41 {g : Gx} (I : MI) (L : ML) (res : Bool) (h : f_X12_isAt_41 I L = some res) : E g 1 0 mX12_isAt 41 [] [] (I, L) (.inl (some (.int (bI res)))) (I, L) := by
  unfold f_X12_isAt_41 at h
  refine E_iconst (M := mX12_isAt) (v := 0) 42 rfl dX12_isAt_41 (by decide) ?_
  refine E_sub (M := mX12_isAt) (lv' := []) [] rfl ?_
  exact S_X12_isAt_42 false I L _ h
def f_X12_isAt (x1 : Int32) (x2 : Int32) (I : MI) (L : ML) : Option (Bool) := if (I 149 10) ≤ (I 149 9) then (f_X12_isAt_41 I L) else (Option.bind (ldI I 154 400 (I 149 9)) fun v2 => if v2 < x1 then (f_X12_isAt_41 I L) else (Option.bind (ldI I 154 400 (I 149 9)) fun v4 => if x2 < v4 then (f_X12_isAt_41 I L) else (f_X12_isAt_42 true I L)))
set_option maxRecDepth 100000 in
theorem S_X12_isAt {g : Gx} (x1 : Int32) (x2 : Int32) (I : MI) (L : ML) (res : Bool) (h : f_X12_isAt x1 x2 I L = some res) : E g 1 0 mX12_isAt 0 [(0, .ref 149), (1, .int x1), (2, .int x2)] [] (I, L) (.inl (some (.int (bI res)))) (I, L) := by
  unfold f_X12_isAt at h
  refine E_aload_n (M := mX12_isAt) 1 rfl dX12_isAt_0 rfl 0 rfl ?_
  refine E_gI (M := mX12_isAt) 4 rfl dX12_isAt_1 shc_149 fl_X12_73 rfl ?_
  refine E_aload_n (M := mX12_isAt) 5 rfl dX12_isAt_4 rfl 0 rfl ?_
  refine E_gI (M := mX12_isAt) 8 rfl dX12_isAt_5 shc_149 fl_X12_76 rfl ?_
  refine E_icmp_ge (M := mX12_isAt) 41 11 (by decide) rfl dX12_isAt_8 (fun c1 => ?_) (fun c1 => ?_)
  · rw [if_pos c1] at h
    refine E_sub (M := mX12_isAt) (lv' := []) [] rfl ?_
    exact S_X12_isAt_41 I L _ h
  · rw [if_neg c1] at h
    refine E_aload_n (M := mX12_isAt) 12 rfl dX12_isAt_11 rfl 0 rfl ?_
    refine E_gR (M := mX12_isAt) 154 15 rfl dX12_isAt_12 shc_149 fl_X12_26 rfl (by decide) (by decide) ?_
    refine E_aload_n (M := mX12_isAt) 16 rfl dX12_isAt_15 rfl 0 rfl ?_
    refine E_gI (M := mX12_isAt) 19 rfl dX12_isAt_16 shc_149 fl_X12_73 rfl ?_
    replace h := Option.bind_eq_some_iff.mp h
    obtain ⟨v2, hv2, h⟩ := h
    refine E_ldB (M := mX12_isAt) 20 rfl dX12_isAt_19 shc_154 hv2 ?_
    refine E_iload_n (M := mX12_isAt) 21 rfl dX12_isAt_20 rfl 1 rfl ?_
    refine E_icmp_lt (M := mX12_isAt) 41 24 (by decide) rfl dX12_isAt_21 (fun c3 => ?_) (fun c3 => ?_)
    · rw [if_pos c3] at h
      refine E_sub (M := mX12_isAt) (lv' := []) [] rfl ?_
      exact S_X12_isAt_41 I L _ h
    · rw [if_neg c3] at h
      refine E_aload_n (M := mX12_isAt) 25 rfl dX12_isAt_24 rfl 0 rfl ?_
      refine E_gR (M := mX12_isAt) 154 28 rfl dX12_isAt_25 shc_149 fl_X12_26 rfl (by decide) (by decide) ?_
      refine E_aload_n (M := mX12_isAt) 29 rfl dX12_isAt_28 rfl 0 rfl ?_
      refine E_gI (M := mX12_isAt) 32 rfl dX12_isAt_29 shc_149 fl_X12_73 rfl ?_
      replace h := Option.bind_eq_some_iff.mp h
      obtain ⟨v4, hv4, h⟩ := h
      refine E_ldB (M := mX12_isAt) 33 rfl dX12_isAt_32 shc_154 hv4 ?_
      refine E_iload_n (M := mX12_isAt) 34 rfl dX12_isAt_33 rfl 2 rfl ?_
      refine E_icmp_gt (M := mX12_isAt) 41 37 (by decide) rfl dX12_isAt_34 (fun c5 => ?_) (fun c5 => ?_)
      · rw [if_pos c5] at h
        refine E_sub (M := mX12_isAt) (lv' := []) [] rfl ?_
        exact S_X12_isAt_41 I L _ h
      · rw [if_neg c5] at h
        refine E_iconst (M := mX12_isAt) (v := 1) 38 rfl dX12_isAt_37 (by decide) ?_
        refine E_goto (M := mX12_isAt) 42 (by decide) dX12_isAt_38 ?_
        refine E_sub (M := mX12_isAt) (lv' := []) [] rfl ?_
        exact S_X12_isAt_42 true I L _ h
theorem C_X12_isAt {g : Gx} {x1 : Int32} {x2 : Int32} {I : MI} {L : ML} {res : Bool} (h : f_X12_isAt x1 x2 I L = some res) : Ent g 1 0 mX12_isAt [.ref 149, .int x1, .int x2] (I, L) (.inl (some (.int (bI res)))) (I, L) := Ent_of (by decide +kernel) (Nat.le_of_ble_eq_true rfl) (S_X12_isAt x1 x2 I L _ h)
def f_X12_blanks_0 : Nat → MI → ML → Option (MI × ML)
  | 0, _, _ => none
  | n + 1, I, L => Option.bind (f_X12_isAt 32 32 I L) fun v1 => if v1 = true then (Option.bind (pfI I 149 9 ((I 149 9) + 1)) fun I4 => f_X12_blanks_0 n I4 L) else (Option.bind (pfI I 149 11 (I 149 9)) fun I3 => some (I3, L))
set_option maxRecDepth 100000 in
theorem S_X12_blanks_0 {g : Gx} : ∀ (n : Nat) (I : MI) (L : ML) (res : MI × ML), f_X12_blanks_0 n I L = some res → E g 2 0 mX12_blanks 0 [(0, .ref 149)] [] (I, L) (.inl none) (res.1, res.2) := by
  intro n
  induction n with
  | zero =>
    intros
    rename_i h
    cases h
  | succ n ih =>
    intro I L res h
    rw [f_X12_blanks_0] at h
    refine E_aload_n (M := mX12_blanks) 1 rfl dX12_blanks_0 rfl 0 rfl ?_
    refine E_bipush (M := mX12_blanks) (v := 32) 3 rfl dX12_blanks_1 (by decide) ?_
    refine E_bipush (M := mX12_blanks) (v := 32) 5 rfl dX12_blanks_3 (by decide) ?_
    replace h := Option.bind_eq_some_iff.mp h
    obtain ⟨v1, hv1, h⟩ := h
    refine E_cV1 (M := mX12_blanks) (As := [.int 32, .int 32]) 8 rfl dX12_blanks_5 shc_149 ck_X12_79 cv_X12_isAt rfl (by decide) (Nat.le_of_ble_eq_true rfl) (C_X12_isAt (g := g) hv1) rfl ?_
    refine E_if_eqB (M := mX12_blanks) 24 11 (by decide) rfl dX12_blanks_8 (fun c2 => ?_) (fun c2 => ?_)
    · rw [if_neg (by rw [c2]; decide)] at h
      refine E_aload_n (M := mX12_blanks) 25 rfl dX12_blanks_24 rfl 0 rfl ?_
      refine E_aload_n (M := mX12_blanks) 26 rfl dX12_blanks_25 rfl 0 rfl ?_
      refine E_gI (M := mX12_blanks) 29 rfl dX12_blanks_26 shc_149 fl_X12_73 rfl ?_
      replace h := Option.bind_eq_some_iff.mp h
      obtain ⟨I3, hI3, h⟩ := h
      refine E_pfI (M := mX12_blanks) 32 rfl dX12_blanks_29 shc_149 fl_X12_83 rfl hI3 ?_
      cases h
      exact E_vret (M := mX12_blanks) rfl dX12_blanks_32
    · rw [if_pos c2] at h
      refine E_aload_n (M := mX12_blanks) 12 rfl dX12_blanks_11 rfl 0 rfl ?_
      refine E_dup (M := mX12_blanks) 13 rfl dX12_blanks_12 rfl ?_
      refine E_gI (M := mX12_blanks) 16 rfl dX12_blanks_13 shc_149 fl_X12_73 rfl ?_
      refine E_iconst (M := mX12_blanks) (v := 1) 17 rfl dX12_blanks_16 (by decide) ?_
      refine E_iadd (M := mX12_blanks) 18 rfl dX12_blanks_17 ?_
      replace h := Option.bind_eq_some_iff.mp h
      obtain ⟨I4, hI4, h⟩ := h
      refine E_pfI (M := mX12_blanks) 21 rfl dX12_blanks_18 shc_149 fl_X12_73 rfl hI4 ?_
      refine E_goto (M := mX12_blanks) 0 (by decide) dX12_blanks_21 ?_
      refine E_sub (M := mX12_blanks) (lv' := [(0, .ref 149)]) [0] rfl ?_
      exact ih I4 L _ h
def f_X12_blanks (I : MI) (L : ML) : Option (MI × ML) := f_X12_blanks_0 FU I L
theorem C_X12_blanks {g : Gx} {I : MI} {L : ML} {res : MI × ML} (h : f_X12_blanks I L = some res) : Ent g 2 0 mX12_blanks [.ref 149] (I, L) (.inl none) (res.1, res.2) := Ent_of (by decide +kernel) (Nat.le_of_ble_eq_true rfl) (S_X12_blanks_0 FU I L _ h)
def f_X12_letters_4 : Nat → MI → ML → Option (MI × ML)
  | 0, _, _ => none
  | n + 1, I, L => Option.bind (f_X12_isAt 97 122 I L) fun v1 => if v1 = true then (Option.bind (pfI I 149 9 ((I 149 9) + 1)) fun I3 => f_X12_letters_4 n I3 L) else (some (I, L))
set_option maxRecDepth 100000 in
theorem S_X12_letters_4 {g : Gx} : ∀ (n : Nat) (I : MI) (L : ML) (res : MI × ML), f_X12_letters_4 n I L = some res → E g 3 0 mX12_letters 4 [(0, .ref 149)] [] (I, L) (.inl none) (res.1, res.2) := by
  intro n
  induction n with
  | zero =>
    intros
    rename_i h
    cases h
  | succ n ih =>
    intro I L res h
    rw [f_X12_letters_4] at h
    refine E_aload_n (M := mX12_letters) 5 rfl dX12_letters_4 rfl 0 rfl ?_
    refine E_bipush (M := mX12_letters) (v := 97) 7 rfl dX12_letters_5 (by decide) ?_
    refine E_bipush (M := mX12_letters) (v := 122) 9 rfl dX12_letters_7 (by decide) ?_
    replace h := Option.bind_eq_some_iff.mp h
    obtain ⟨v1, hv1, h⟩ := h
    refine E_cV1 (M := mX12_letters) (As := [.int 97, .int 122]) 12 rfl dX12_letters_9 shc_149 ck_X12_79 cv_X12_isAt rfl (by decide) (Nat.le_of_ble_eq_true rfl) (C_X12_isAt (g := g) hv1) rfl ?_
    refine E_if_eqB (M := mX12_letters) 28 15 (by decide) rfl dX12_letters_12 (fun c2 => ?_) (fun c2 => ?_)
    · rw [if_neg (by rw [c2]; decide)] at h
      cases h
      exact E_vret (M := mX12_letters) rfl dX12_letters_28
    · rw [if_pos c2] at h
      refine E_aload_n (M := mX12_letters) 16 rfl dX12_letters_15 rfl 0 rfl ?_
      refine E_dup (M := mX12_letters) 17 rfl dX12_letters_16 rfl ?_
      refine E_gI (M := mX12_letters) 20 rfl dX12_letters_17 shc_149 fl_X12_73 rfl ?_
      refine E_iconst (M := mX12_letters) (v := 1) 21 rfl dX12_letters_20 (by decide) ?_
      refine E_iadd (M := mX12_letters) 22 rfl dX12_letters_21 ?_
      replace h := Option.bind_eq_some_iff.mp h
      obtain ⟨I3, hI3, h⟩ := h
      refine E_pfI (M := mX12_letters) 25 rfl dX12_letters_22 shc_149 fl_X12_73 rfl hI3 ?_
      refine E_goto (M := mX12_letters) 4 (by decide) dX12_letters_25 ?_
      refine E_sub (M := mX12_letters) (lv' := [(0, .ref 149)]) [0] rfl ?_
      exact ih I3 L _ h
def f_X12_letters (I : MI) (L : ML) : Option (MI × ML) := Option.bind (f_X12_blanks I L) fun w1 => f_X12_letters_4 FU w1.1 w1.2
set_option maxRecDepth 100000 in
theorem S_X12_letters {g : Gx} (I : MI) (L : ML) (res : MI × ML) (h : f_X12_letters I L = some res) : E g 3 0 mX12_letters 0 [(0, .ref 149)] [] (I, L) (.inl none) (res.1, res.2) := by
  unfold f_X12_letters at h
  refine E_aload_n (M := mX12_letters) 1 rfl dX12_letters_0 rfl 0 rfl ?_
  replace h := Option.bind_eq_some_iff.mp h
  obtain ⟨w1, hw1, h⟩ := h
  refine E_cV0 (M := mX12_letters) (As := []) 4 rfl dX12_letters_1 shc_149 ck_X12_86 cv_X12_blanks rfl (by decide) (Nat.le_of_ble_eq_true rfl) (C_X12_blanks (g := g) hw1) rfl ?_
  refine E_sub (M := mX12_letters) (lv' := [(0, .ref 149)]) [0] rfl ?_
  exact S_X12_letters_4 FU w1.1 w1.2 _ h
theorem C_X12_letters {g : Gx} {I : MI} {L : ML} {res : MI × ML} (h : f_X12_letters I L = some res) : Ent g 3 0 mX12_letters [.ref 149] (I, L) (.inl none) (res.1, res.2) := Ent_of (by decide +kernel) (Nat.le_of_ble_eq_true rfl) (S_X12_letters I L _ h)
def f_X12_isWord_67 (x2 : Bool) (I : MI) (L : ML) : Option (Bool) := some x2
set_option maxRecDepth 100000 in
theorem S_X12_isWord_67 {g : Gx} (x2 : Bool) (I : MI) (L : ML) (res : Bool) (h : f_X12_isWord_67 x2 I L = some res) : E g 5 0 mX12_isWord 67 [(2, .int (bI x2))] [] (I, L) (.inl (some (.int (bI res)))) (I, L) := by
  unfold f_X12_isWord_67 at h
  refine E_iload_n (M := mX12_isWord) 68 rfl dX12_isWord_67 rfl 0 rfl ?_
  cases h
  exact E_zret (M := mX12_isWord) (x := x2) rfl dX12_isWord_68
def f_X12_isWord_60 (k24 : Nat → Bool → Int32 → MI → ML → Option (Bool)) (x1 : Nat) (x3 : Int32) (y0 : Bool) (I : MI) (L : ML) : Option (Bool) := k24 x1 y0 (x3 + 1) I L
set_option maxRecDepth 100000 in
theorem S_X12_isWord_60 {g : Gx} {k24 : Nat → Bool → Int32 → MI → ML → Option (Bool)} (hk24 : ∀ (x1z : Nat) (x2z : Bool) (x3z : Int32) (hx1z : x1z < 66) (I : MI) (L : ML) (res : Bool), k24 x1z x2z x3z I L = some res → E g 5 0 mX12_isWord 24 [(0, .ref 149), (1, .ref (100000 + x1z)), (2, .int (bI x2z)), (3, .int x3z)] [] (I, L) (.inl (some (.int (bI res)))) (I, L)) (x1 : Nat) (x3 : Int32) (y0 : Bool) (hx1 : x1 < 66) (I : MI) (L : ML) (res : Bool) (h : f_X12_isWord_60 k24 x1 x3 y0 I L = some res) : E g 5 0 mX12_isWord 60 [(0, .ref 149), (1, .ref (100000 + x1)), (3, .int x3)] [.int (bI y0)] (I, L) (.inl (some (.int (bI res)))) (I, L) := by
  unfold f_X12_isWord_60 at h
  refine E_istore_n (M := mX12_isWord) (lv' := [(2, .int (bI y0)), (0, .ref 149), (1, .ref (100000 + x1)), (3, .int x3)]) 61 rfl dX12_isWord_60 rfl (Nat.le_of_ble_eq_true rfl) rfl ?_
  refine E_iinc (M := mX12_isWord) (j := 3) (v := x3 + 1) (lv' := [(3, .int (x3 + 1)), (2, .int (bI y0)), (0, .ref 149), (1, .ref (100000 + x1))]) 64 rfl dX12_isWord_61 rfl rfl (Nat.le_of_ble_eq_true rfl) rfl ?_
  refine E_goto (M := mX12_isWord) 24 (by decide) dX12_isWord_64 ?_
  refine E_sub (M := mX12_isWord) (lv' := [(0, .ref 149), (1, .ref (100000 + x1)), (2, .int (bI y0)), (3, .int (x3 + 1))]) [2, 3, 1, 0] rfl ?_
  exact hk24 x1 y0 (x3 + 1) hx1 I L _ h
def f_X12_isWord_24 : Nat → Nat → Bool → Int32 → MI → ML → Option (Bool)
  | 0, _, _, _, _, _ => none
  | n + 1, x1, x2, x3, I, L => if x2 = true then (if (nI (sLen x1)) ≤ x3 then (f_X12_isWord_67 x2 I L) else (Option.bind (ldI I 154 400 ((I 149 11) + x3)) fun v3 => Option.bind (chrAt x1 x3) fun v4 => if v3 = v4 then (f_X12_isWord_60 (f_X12_isWord_24 n) x1 x3 true I L) else (f_X12_isWord_60 (f_X12_isWord_24 n) x1 x3 false I L))) else (f_X12_isWord_67 x2 I L)
set_option maxRecDepth 100000 in
theorem S_X12_isWord_24 {g : Gx} : ∀ (n : Nat) (x1 : Nat) (x2 : Bool) (x3 : Int32) (hx1 : x1 < 66) (I : MI) (L : ML) (res : Bool), f_X12_isWord_24 n x1 x2 x3 I L = some res → E g 5 0 mX12_isWord 24 [(0, .ref 149), (1, .ref (100000 + x1)), (2, .int (bI x2)), (3, .int x3)] [] (I, L) (.inl (some (.int (bI res)))) (I, L) := by
  intro n
  induction n with
  | zero =>
    intros
    rename_i h
    cases h
  | succ n ih =>
    intro x1 x2 x3 hx1 I L res h
    rw [f_X12_isWord_24] at h
    refine E_iload_n (M := mX12_isWord) 25 rfl dX12_isWord_24 rfl 2 rfl ?_
    refine E_if_eqB (M := mX12_isWord) 67 28 (by decide) rfl dX12_isWord_25 (fun c1 => ?_) (fun c1 => ?_)
    · rw [if_neg (by rw [c1]; decide)] at h
      refine E_sub (M := mX12_isWord) (lv' := [(2, .int (bI x2))]) [2] rfl ?_
      exact S_X12_isWord_67 x2 I L _ h
    · rw [if_pos c1] at h
      refine E_iload_n (M := mX12_isWord) 29 rfl dX12_isWord_28 rfl 3 rfl ?_
      refine E_aload_n (M := mX12_isWord) 30 rfl dX12_isWord_29 rfl 1 rfl ?_
      refine E_slen (M := mX12_isWord) hx1 33 rfl dX12_isWord_30 jb_X12_89 (by decide) (Nat.le_of_ble_eq_true rfl) ?_
      refine E_icmp_ge (M := mX12_isWord) 67 36 (by decide) rfl dX12_isWord_33 (fun c2 => ?_) (fun c2 => ?_)
      · rw [if_pos c2] at h
        refine E_sub (M := mX12_isWord) (lv' := [(2, .int (bI x2))]) [2] rfl ?_
        exact S_X12_isWord_67 x2 I L _ h
      · rw [if_neg c2] at h
        refine E_aload_n (M := mX12_isWord) 37 rfl dX12_isWord_36 rfl 0 rfl ?_
        refine E_gR (M := mX12_isWord) 154 40 rfl dX12_isWord_37 shc_149 fl_X12_26 rfl (by decide) (by decide) ?_
        refine E_aload_n (M := mX12_isWord) 41 rfl dX12_isWord_40 rfl 0 rfl ?_
        refine E_gI (M := mX12_isWord) 44 rfl dX12_isWord_41 shc_149 fl_X12_83 rfl ?_
        refine E_iload_n (M := mX12_isWord) 45 rfl dX12_isWord_44 rfl 3 rfl ?_
        refine E_iadd (M := mX12_isWord) 46 rfl dX12_isWord_45 ?_
        replace h := Option.bind_eq_some_iff.mp h
        obtain ⟨v3, hv3, h⟩ := h
        refine E_ldB (M := mX12_isWord) 47 rfl dX12_isWord_46 shc_154 hv3 ?_
        refine E_aload_n (M := mX12_isWord) 48 rfl dX12_isWord_47 rfl 1 rfl ?_
        refine E_iload_n (M := mX12_isWord) 49 rfl dX12_isWord_48 rfl 3 rfl ?_
        replace h := Option.bind_eq_some_iff.mp h
        obtain ⟨v4, hv4, h⟩ := h
        refine E_schr (M := mX12_isWord) hx1 52 rfl dX12_isWord_49 jb_X12_94 (by decide) (Nat.le_of_ble_eq_true rfl) hv4 ?_
        refine E_icmp_ne (M := mX12_isWord) 59 55 (by decide) rfl dX12_isWord_52 (fun c5 => ?_) (fun c5 => ?_)
        · rw [if_neg c5] at h
          refine E_iconst (M := mX12_isWord) (v := 0) 60 rfl dX12_isWord_59 (by decide) ?_
          refine E_sub (M := mX12_isWord) (lv' := [(0, .ref 149), (1, .ref (100000 + x1)), (3, .int x3)]) [0, 1, 3] rfl ?_
          exact S_X12_isWord_60 ih x1 x3 false hx1 I L _ h
        · rw [if_pos c5] at h
          refine E_iconst (M := mX12_isWord) (v := 1) 56 rfl dX12_isWord_55 (by decide) ?_
          refine E_goto (M := mX12_isWord) 60 (by decide) dX12_isWord_56 ?_
          refine E_sub (M := mX12_isWord) (lv' := [(0, .ref 149), (1, .ref (100000 + x1)), (3, .int x3)]) [0, 1, 3] rfl ?_
          exact S_X12_isWord_60 ih x1 x3 true hx1 I L _ h
def f_X12_isWord_21 (x1 : Nat) (y0 : Bool) (I : MI) (L : ML) : Option (Bool) := f_X12_isWord_24 FU x1 y0 0 I L
set_option maxRecDepth 100000 in
theorem S_X12_isWord_21 {g : Gx} (x1 : Nat) (y0 : Bool) (hx1 : x1 < 66) (I : MI) (L : ML) (res : Bool) (h : f_X12_isWord_21 x1 y0 I L = some res) : E g 5 0 mX12_isWord 21 [(0, .ref 149), (1, .ref (100000 + x1))] [.int (bI y0)] (I, L) (.inl (some (.int (bI res)))) (I, L) := by
  unfold f_X12_isWord_21 at h
  refine E_istore_n (M := mX12_isWord) (lv' := [(2, .int (bI y0)), (0, .ref 149), (1, .ref (100000 + x1))]) 22 rfl dX12_isWord_21 rfl (Nat.le_of_ble_eq_true rfl) rfl ?_
  refine E_iconst (M := mX12_isWord) (v := 0) 23 rfl dX12_isWord_22 (by decide) ?_
  refine E_istore_n (M := mX12_isWord) (lv' := [(3, .int 0), (2, .int (bI y0)), (0, .ref 149), (1, .ref (100000 + x1))]) 24 rfl dX12_isWord_23 rfl (Nat.le_of_ble_eq_true rfl) rfl ?_
  refine E_sub (M := mX12_isWord) (lv' := [(0, .ref 149), (1, .ref (100000 + x1)), (2, .int (bI y0)), (3, .int 0)]) [2, 3, 1, 0] rfl ?_
  exact S_X12_isWord_24 FU x1 y0 0 hx1 I L _ h
def f_X12_isWord (x1 : Nat) (I : MI) (L : ML) : Option (Bool) := if ((I 149 9) - (I 149 11)) = (nI (sLen x1)) then (f_X12_isWord_21 x1 true I L) else (f_X12_isWord_21 x1 false I L)
set_option maxRecDepth 100000 in
theorem S_X12_isWord {g : Gx} (x1 : Nat) (hx1 : x1 < 66) (I : MI) (L : ML) (res : Bool) (h : f_X12_isWord x1 I L = some res) : E g 5 0 mX12_isWord 0 [(0, .ref 149), (1, .ref (100000 + x1))] [] (I, L) (.inl (some (.int (bI res)))) (I, L) := by
  unfold f_X12_isWord at h
  refine E_aload_n (M := mX12_isWord) 1 rfl dX12_isWord_0 rfl 0 rfl ?_
  refine E_gI (M := mX12_isWord) 4 rfl dX12_isWord_1 shc_149 fl_X12_73 rfl ?_
  refine E_aload_n (M := mX12_isWord) 5 rfl dX12_isWord_4 rfl 0 rfl ?_
  refine E_gI (M := mX12_isWord) 8 rfl dX12_isWord_5 shc_149 fl_X12_83 rfl ?_
  refine E_isub (M := mX12_isWord) 9 rfl dX12_isWord_8 ?_
  refine E_aload_n (M := mX12_isWord) 10 rfl dX12_isWord_9 rfl 1 rfl ?_
  refine E_slen (M := mX12_isWord) hx1 13 rfl dX12_isWord_10 jb_X12_89 (by decide) (Nat.le_of_ble_eq_true rfl) ?_
  refine E_icmp_ne (M := mX12_isWord) 20 16 (by decide) rfl dX12_isWord_13 (fun c1 => ?_) (fun c1 => ?_)
  · rw [if_neg c1] at h
    refine E_iconst (M := mX12_isWord) (v := 0) 21 rfl dX12_isWord_20 (by decide) ?_
    refine E_sub (M := mX12_isWord) (lv' := [(0, .ref 149), (1, .ref (100000 + x1))]) [0, 1] rfl ?_
    exact S_X12_isWord_21 x1 false hx1 I L _ h
  · rw [if_pos c1] at h
    refine E_iconst (M := mX12_isWord) (v := 1) 17 rfl dX12_isWord_16 (by decide) ?_
    refine E_goto (M := mX12_isWord) 21 (by decide) dX12_isWord_17 ?_
    refine E_sub (M := mX12_isWord) (lv' := [(0, .ref 149), (1, .ref (100000 + x1))]) [0, 1] rfl ?_
    exact S_X12_isWord_21 x1 true hx1 I L _ h
theorem C_X12_isWord {g : Gx} {x1 : Nat} (hx1 : x1 < 66) {I : MI} {L : ML} {res : Bool} (h : f_X12_isWord x1 I L = some res) : Ent g 5 0 mX12_isWord [.ref 149, .ref (100000 + x1)] (I, L) (.inl (some (.int (bI res)))) (I, L) := Ent_of (by decide +kernel) (Nat.le_of_ble_eq_true rfl) (S_X12_isWord x1 hx1 I L _ h)
def f_X12_passes (x1 : Nat) (I : MI) (L : ML) : Option (Bool × MI × ML) := Option.bind (f_X12_letters I L) fun w1 => Option.bind (f_X12_isWord x1 w1.1 w1.2) fun v2 => if v2 = true then (some (true, w1.1, w1.2)) else (Option.bind (pfI w1.1 149 9 (w1.1 149 11)) fun I4 => some (false, I4, w1.2))
set_option maxRecDepth 100000 in
theorem S_X12_passes {g : Gx} (x1 : Nat) (hx1 : x1 < 66) (I : MI) (L : ML) (res : Bool × MI × ML) (h : f_X12_passes x1 I L = some res) : E g 6 0 mX12_passes 0 [(0, .ref 149), (1, .ref (100000 + x1))] [] (I, L) (.inl (some (.int (bI res.1)))) (res.2.1, res.2.2) := by
  unfold f_X12_passes at h
  refine E_aload_n (M := mX12_passes) 1 rfl dX12_passes_0 rfl 0 rfl ?_
  replace h := Option.bind_eq_some_iff.mp h
  obtain ⟨w1, hw1, h⟩ := h
  refine E_cV0 (M := mX12_passes) (As := []) 4 rfl dX12_passes_1 shc_149 ck_X12_98 cv_X12_letters rfl (by decide) (Nat.le_of_ble_eq_true rfl) (C_X12_letters (g := g) hw1) rfl ?_
  refine E_aload_n (M := mX12_passes) 5 rfl dX12_passes_4 rfl 0 rfl ?_
  refine E_aload_n (M := mX12_passes) 6 rfl dX12_passes_5 rfl 1 rfl ?_
  replace h := Option.bind_eq_some_iff.mp h
  obtain ⟨v2, hv2, h⟩ := h
  refine E_cV1 (M := mX12_passes) (As := [.ref (100000 + x1)]) 9 rfl dX12_passes_6 shc_149 ck_X12_101 cv_X12_isWord rfl (by decide) (Nat.le_of_ble_eq_true rfl) (C_X12_isWord (g := g) hx1 hv2) rfl ?_
  refine E_if_eqB (M := mX12_passes) 14 12 (by decide) rfl dX12_passes_9 (fun c3 => ?_) (fun c3 => ?_)
  · rw [if_neg (by rw [c3]; decide)] at h
    refine E_aload_n (M := mX12_passes) 15 rfl dX12_passes_14 rfl 0 rfl ?_
    refine E_aload_n (M := mX12_passes) 16 rfl dX12_passes_15 rfl 0 rfl ?_
    refine E_gI (M := mX12_passes) 19 rfl dX12_passes_16 shc_149 fl_X12_83 rfl ?_
    replace h := Option.bind_eq_some_iff.mp h
    obtain ⟨I4, hI4, h⟩ := h
    refine E_pfI (M := mX12_passes) 22 rfl dX12_passes_19 shc_149 fl_X12_73 rfl hI4 ?_
    refine E_iconst (M := mX12_passes) (v := 0) 23 rfl dX12_passes_22 (by decide) ?_
    cases h
    exact E_zret (M := mX12_passes) (x := false) rfl dX12_passes_23
  · rw [if_pos c3] at h
    refine E_iconst (M := mX12_passes) (v := 1) 13 rfl dX12_passes_12 (by decide) ?_
    cases h
    exact E_zret (M := mX12_passes) (x := true) rfl dX12_passes_13
theorem C_X12_passes {g : Gx} {x1 : Nat} (hx1 : x1 < 66) {I : MI} {L : ML} {res : Bool × MI × ML} (h : f_X12_passes x1 I L = some res) : Ent g 6 0 mX12_passes [.ref 149, .ref (100000 + x1)] (I, L) (.inl (some (.int (bI res.1)))) (res.2.1, res.2.2) := Ent_of (by decide +kernel) (Nat.le_of_ble_eq_true rfl) (S_X12_passes x1 hx1 I L _ h)
def f_X12_needs (x1 : Nat) (I : MI) (L : ML) : Option (Bool × MI × ML) := Option.bind (f_X12_letters I L) fun w1 => Option.bind (f_X12_isWord x1 w1.1 w1.2) fun v2 => some (v2, w1.1, w1.2)
set_option maxRecDepth 100000 in
theorem S_X12_needs {g : Gx} (x1 : Nat) (hx1 : x1 < 66) (I : MI) (L : ML) (res : Bool × MI × ML) (h : f_X12_needs x1 I L = some res) : E g 6 0 mX12_needs 0 [(0, .ref 149), (1, .ref (100000 + x1))] [] (I, L) (.inl (some (.int (bI res.1)))) (res.2.1, res.2.2) := by
  unfold f_X12_needs at h
  refine E_aload_n (M := mX12_needs) 1 rfl dX12_needs_0 rfl 0 rfl ?_
  replace h := Option.bind_eq_some_iff.mp h
  obtain ⟨w1, hw1, h⟩ := h
  refine E_cV0 (M := mX12_needs) (As := []) 4 rfl dX12_needs_1 shc_149 ck_X12_98 cv_X12_letters rfl (by decide) (Nat.le_of_ble_eq_true rfl) (C_X12_letters (g := g) hw1) rfl ?_
  refine E_aload_n (M := mX12_needs) 5 rfl dX12_needs_4 rfl 0 rfl ?_
  refine E_aload_n (M := mX12_needs) 6 rfl dX12_needs_5 rfl 1 rfl ?_
  replace h := Option.bind_eq_some_iff.mp h
  obtain ⟨v2, hv2, h⟩ := h
  refine E_cV1 (M := mX12_needs) (As := [.ref (100000 + x1)]) 9 rfl dX12_needs_6 shc_149 ck_X12_101 cv_X12_isWord rfl (by decide) (Nat.le_of_ble_eq_true rfl) (C_X12_isWord (g := g) hx1 hv2) rfl ?_
  cases h
  exact E_zret (M := mX12_needs) (x := v2) rfl dX12_needs_9
theorem C_X12_needs {g : Gx} {x1 : Nat} (hx1 : x1 < 66) {I : MI} {L : ML} {res : Bool × MI × ML} (h : f_X12_needs x1 I L = some res) : Ent g 6 0 mX12_needs [.ref 149, .ref (100000 + x1)] (I, L) (.inl (some (.int (bI res.1)))) (res.2.1, res.2.2) := Ent_of (by decide +kernel) (Nat.le_of_ble_eq_true rfl) (S_X12_needs x1 hx1 I L _ h)
def f_X12_sign (x1 : Int32) (I : MI) (L : ML) : Option (Bool × MI × ML) := Option.bind (f_X12_blanks I L) fun w1 => Option.bind (f_X12_isAt x1 x1 w1.1 w1.2) fun v2 => if v2 = true then (Option.bind (pfI w1.1 149 9 ((w1.1 149 9) + 1)) fun I4 => some (true, I4, w1.2)) else (some (false, w1.1, w1.2))
set_option maxRecDepth 100000 in
theorem S_X12_sign {g : Gx} (x1 : Int32) (I : MI) (L : ML) (res : Bool × MI × ML) (h : f_X12_sign x1 I L = some res) : E g 3 0 mX12_sign 0 [(0, .ref 149), (1, .int x1)] [] (I, L) (.inl (some (.int (bI res.1)))) (res.2.1, res.2.2) := by
  unfold f_X12_sign at h
  refine E_aload_n (M := mX12_sign) 1 rfl dX12_sign_0 rfl 0 rfl ?_
  replace h := Option.bind_eq_some_iff.mp h
  obtain ⟨w1, hw1, h⟩ := h
  refine E_cV0 (M := mX12_sign) (As := []) 4 rfl dX12_sign_1 shc_149 ck_X12_86 cv_X12_blanks rfl (by decide) (Nat.le_of_ble_eq_true rfl) (C_X12_blanks (g := g) hw1) rfl ?_
  refine E_aload_n (M := mX12_sign) 5 rfl dX12_sign_4 rfl 0 rfl ?_
  refine E_iload_n (M := mX12_sign) 6 rfl dX12_sign_5 rfl 1 rfl ?_
  refine E_iload_n (M := mX12_sign) 7 rfl dX12_sign_6 rfl 1 rfl ?_
  replace h := Option.bind_eq_some_iff.mp h
  obtain ⟨v2, hv2, h⟩ := h
  refine E_cV1 (M := mX12_sign) (As := [.int x1, .int x1]) 10 rfl dX12_sign_7 shc_149 ck_X12_79 cv_X12_isAt rfl (by decide) (Nat.le_of_ble_eq_true rfl) (C_X12_isAt (g := g) hv2) rfl ?_
  refine E_if_neB (M := mX12_sign) 15 13 (by decide) rfl dX12_sign_10 (fun c3 => ?_) (fun c3 => ?_)
  · rw [if_pos c3] at h
    refine E_aload_n (M := mX12_sign) 16 rfl dX12_sign_15 rfl 0 rfl ?_
    refine E_dup (M := mX12_sign) 17 rfl dX12_sign_16 rfl ?_
    refine E_gI (M := mX12_sign) 20 rfl dX12_sign_17 shc_149 fl_X12_73 rfl ?_
    refine E_iconst (M := mX12_sign) (v := 1) 21 rfl dX12_sign_20 (by decide) ?_
    refine E_iadd (M := mX12_sign) 22 rfl dX12_sign_21 ?_
    replace h := Option.bind_eq_some_iff.mp h
    obtain ⟨I4, hI4, h⟩ := h
    refine E_pfI (M := mX12_sign) 25 rfl dX12_sign_22 shc_149 fl_X12_73 rfl hI4 ?_
    refine E_iconst (M := mX12_sign) (v := 1) 26 rfl dX12_sign_25 (by decide) ?_
    cases h
    exact E_zret (M := mX12_sign) (x := true) rfl dX12_sign_26
  · rw [if_neg (by rw [c3]; decide)] at h
    refine E_iconst (M := mX12_sign) (v := 0) 14 rfl dX12_sign_13 (by decide) ?_
    cases h
    exact E_zret (M := mX12_sign) (x := false) rfl dX12_sign_14
theorem C_X12_sign {g : Gx} {x1 : Int32} {I : MI} {L : ML} {res : Bool × MI × ML} (h : f_X12_sign x1 I L = some res) : Ent g 3 0 mX12_sign [.ref 149, .int x1] (I, L) (.inl (some (.int (bI res.1)))) (res.2.1, res.2.2) := Ent_of (by decide +kernel) (Nat.le_of_ble_eq_true rfl) (S_X12_sign x1 I L _ h)
def f_X12_number_104 (y0 : Int32) (I : MI) (L : ML) : Option (Int32 × MI × ML) := some (y0, I, L)
set_option maxRecDepth 100000 in
theorem S_X12_number_104 {g : Gx} (y0 : Int32) (I : MI) (L : ML) (res : Int32 × MI × ML) (h : f_X12_number_104 y0 I L = some res) : E g 3 0 mX12_number 104 [] [.int y0] (I, L) (.inl (some (.int res.1))) (res.2.1, res.2.2) := by
  unfold f_X12_number_104 at h
  cases h
  exact E_iret (M := mX12_number) rfl dX12_number_104
def f_X12_number_99 (I : MI) (L : ML) : Option (Int32 × MI × ML) := f_X12_number_104 ((-1)) I L
set_option maxRecDepth 100000 in
theorem S_X12_number_99 {g : Gx} (I : MI) (L : ML) (res : Int32 × MI × ML) (h : f_X12_number_99 I L = some res) : E g 3 0 mX12_number 99 [] [] (I, L) (.inl (some (.int res.1))) (res.2.1, res.2.2) := by
  unfold f_X12_number_99 at h
  refine E_iconst (M := mX12_number) (v := (-1)) 100 rfl dX12_number_99 (by decide) ?_
  refine E_goto (M := mX12_number) 104 (by decide) dX12_number_100 ?_
  refine E_sub (M := mX12_number) (lv' := []) [] rfl ?_
  exact S_X12_number_104 ((-1)) I L _ h
def f_X12_number_51 (k6 : Int32 → Int32 → Int32 → MI → ML → Option (Int32 × MI × ML)) (x1 : Int32) (x2 : Int32) (y0 : Int32) (I : MI) (L : ML) : Option (Int32 × MI × ML) := Option.bind (pfI I 149 9 ((I 149 9) + 1)) fun I1 => k6 x1 x2 y0 I1 L
set_option maxRecDepth 100000 in
theorem S_X12_number_51 {g : Gx} {k6 : Int32 → Int32 → Int32 → MI → ML → Option (Int32 × MI × ML)} (hk6 : ∀ (x1z : Int32) (x2z : Int32) (x3z : Int32) (I : MI) (L : ML) (res : Int32 × MI × ML), k6 x1z x2z x3z I L = some res → E g 3 0 mX12_number 6 [(0, .ref 149), (1, .int x1z), (2, .int x2z), (3, .int x3z)] [] (I, L) (.inl (some (.int res.1))) (res.2.1, res.2.2)) (x1 : Int32) (x2 : Int32) (y0 : Int32) (I : MI) (L : ML) (res : Int32 × MI × ML) (h : f_X12_number_51 k6 x1 x2 y0 I L = some res) : E g 3 0 mX12_number 51 [(0, .ref 149), (1, .int x1), (2, .int x2)] [.int y0] (I, L) (.inl (some (.int res.1))) (res.2.1, res.2.2) := by
  unfold f_X12_number_51 at h
  refine E_istore_n (M := mX12_number) (lv' := [(3, .int y0), (0, .ref 149), (1, .int x1), (2, .int x2)]) 52 rfl dX12_number_51 rfl (Nat.le_of_ble_eq_true rfl) rfl ?_
  refine E_aload_n (M := mX12_number) 53 rfl dX12_number_52 rfl 1 rfl ?_
  refine E_dup (M := mX12_number) 54 rfl dX12_number_53 rfl ?_
  refine E_gI (M := mX12_number) 57 rfl dX12_number_54 shc_149 fl_X12_73 rfl ?_
  refine E_iconst (M := mX12_number) (v := 1) 58 rfl dX12_number_57 (by decide) ?_
  refine E_iadd (M := mX12_number) 59 rfl dX12_number_58 ?_
  replace h := Option.bind_eq_some_iff.mp h
  obtain ⟨I1, hI1, h⟩ := h
  refine E_pfI (M := mX12_number) 62 rfl dX12_number_59 shc_149 fl_X12_73 rfl hI1 ?_
  refine E_goto (M := mX12_number) 6 (by decide) dX12_number_62 ?_
  refine E_sub (M := mX12_number) (lv' := [(0, .ref 149), (1, .int x1), (2, .int x2), (3, .int y0)]) [1, 2, 3, 0] rfl ?_
  exact hk6 x1 x2 y0 I1 L _ h
def f_X12_number_6 : Nat → Int32 → Int32 → Int32 → MI → ML → Option (Int32 × MI × ML)
  | 0, _, _, _, _, _ => none
  | n + 1, x1, x2, x3, I, L => Option.bind (f_X12_isAt 48 57 I L) fun v1 => if v1 = true then (if 3 ≤ ((I 149 9) - (I 149 11)) then (f_X12_number_51 (f_X12_number_6 n) x1 x2 x3 I L) else (Option.bind (ldI I 154 400 (I 149 9)) fun v8 => f_X12_number_51 (f_X12_number_6 n) x1 x2 (((10 * x3) + v8) - 48) I L)) else (if (I 149 9) = (I 149 11) then (f_X12_number_99 I L) else (if 3 < ((I 149 9) - (I 149 11)) then (f_X12_number_99 I L) else (if x3 < x1 then (f_X12_number_99 I L) else (if x3 ≤ x2 then (f_X12_number_104 x3 I L) else (f_X12_number_99 I L)))))
set_option maxRecDepth 100000 in
theorem S_X12_number_6 {g : Gx} : ∀ (n : Nat) (x1 : Int32) (x2 : Int32) (x3 : Int32) (I : MI) (L : ML) (res : Int32 × MI × ML), f_X12_number_6 n x1 x2 x3 I L = some res → E g 3 0 mX12_number 6 [(0, .ref 149), (1, .int x1), (2, .int x2), (3, .int x3)] [] (I, L) (.inl (some (.int res.1))) (res.2.1, res.2.2) := by
  intro n
  induction n with
  | zero =>
    intros
    rename_i h
    cases h
  | succ n ih =>
    intro x1 x2 x3 I L res h
    rw [f_X12_number_6] at h
    refine E_aload_n (M := mX12_number) 7 rfl dX12_number_6 rfl 0 rfl ?_
    refine E_bipush (M := mX12_number) (v := 48) 9 rfl dX12_number_7 (by decide) ?_
    refine E_bipush (M := mX12_number) (v := 57) 11 rfl dX12_number_9 (by decide) ?_
    replace h := Option.bind_eq_some_iff.mp h
    obtain ⟨v1, hv1, h⟩ := h
    refine E_cV1 (M := mX12_number) (As := [.int 48, .int 57]) 14 rfl dX12_number_11 shc_149 ck_X12_79 cv_X12_isAt rfl (by decide) (Nat.le_of_ble_eq_true rfl) (C_X12_isAt (g := g) hv1) rfl ?_
    refine E_if_eqB (M := mX12_number) 65 17 (by decide) rfl dX12_number_14 (fun c2 => ?_) (fun c2 => ?_)
    · rw [if_neg (by rw [c2]; decide)] at h
      refine E_aload_n (M := mX12_number) 66 rfl dX12_number_65 rfl 0 rfl ?_
      refine E_gI (M := mX12_number) 69 rfl dX12_number_66 shc_149 fl_X12_73 rfl ?_
      refine E_aload_n (M := mX12_number) 70 rfl dX12_number_69 rfl 0 rfl ?_
      refine E_gI (M := mX12_number) 73 rfl dX12_number_70 shc_149 fl_X12_83 rfl ?_
      refine E_icmp_eq (M := mX12_number) 99 76 (by decide) rfl dX12_number_73 (fun c3 => ?_) (fun c3 => ?_)
      · rw [if_pos c3] at h
        refine E_sub (M := mX12_number) (lv' := []) [] rfl ?_
        exact S_X12_number_99 I L _ h
      · rw [if_neg c3] at h
        refine E_aload_n (M := mX12_number) 77 rfl dX12_number_76 rfl 0 rfl ?_
        refine E_gI (M := mX12_number) 80 rfl dX12_number_77 shc_149 fl_X12_73 rfl ?_
        refine E_aload_n (M := mX12_number) 81 rfl dX12_number_80 rfl 0 rfl ?_
        refine E_gI (M := mX12_number) 84 rfl dX12_number_81 shc_149 fl_X12_83 rfl ?_
        refine E_isub (M := mX12_number) 85 rfl dX12_number_84 ?_
        refine E_iconst (M := mX12_number) (v := 3) 86 rfl dX12_number_85 (by decide) ?_
        refine E_icmp_gt (M := mX12_number) 99 89 (by decide) rfl dX12_number_86 (fun c4 => ?_) (fun c4 => ?_)
        · rw [if_pos c4] at h
          refine E_sub (M := mX12_number) (lv' := []) [] rfl ?_
          exact S_X12_number_99 I L _ h
        · rw [if_neg c4] at h
          refine E_iload_n (M := mX12_number) 90 rfl dX12_number_89 rfl 3 rfl ?_
          refine E_iload_n (M := mX12_number) 91 rfl dX12_number_90 rfl 1 rfl ?_
          refine E_icmp_lt (M := mX12_number) 99 94 (by decide) rfl dX12_number_91 (fun c5 => ?_) (fun c5 => ?_)
          · rw [if_pos c5] at h
            refine E_sub (M := mX12_number) (lv' := []) [] rfl ?_
            exact S_X12_number_99 I L _ h
          · rw [if_neg c5] at h
            refine E_iload_n (M := mX12_number) 95 rfl dX12_number_94 rfl 3 rfl ?_
            refine E_iload_n (M := mX12_number) 96 rfl dX12_number_95 rfl 2 rfl ?_
            refine E_icmp_le (M := mX12_number) 103 99 (by decide) rfl dX12_number_96 (fun c6 => ?_) (fun c6 => ?_)
            · rw [if_pos c6] at h
              refine E_iload_n (M := mX12_number) 104 rfl dX12_number_103 rfl 3 rfl ?_
              refine E_sub (M := mX12_number) (lv' := []) [] rfl ?_
              exact S_X12_number_104 x3 I L _ h
            · rw [if_neg c6] at h
              refine E_sub (M := mX12_number) (lv' := []) [] rfl ?_
              exact S_X12_number_99 I L _ h
    · rw [if_pos c2] at h
      refine E_aload_n (M := mX12_number) 18 rfl dX12_number_17 rfl 0 rfl ?_
      refine E_gI (M := mX12_number) 21 rfl dX12_number_18 shc_149 fl_X12_73 rfl ?_
      refine E_aload_n (M := mX12_number) 22 rfl dX12_number_21 rfl 0 rfl ?_
      refine E_gI (M := mX12_number) 25 rfl dX12_number_22 shc_149 fl_X12_83 rfl ?_
      refine E_isub (M := mX12_number) 26 rfl dX12_number_25 ?_
      refine E_iconst (M := mX12_number) (v := 3) 27 rfl dX12_number_26 (by decide) ?_
      refine E_icmp_ge (M := mX12_number) 50 30 (by decide) rfl dX12_number_27 (fun c7 => ?_) (fun c7 => ?_)
      · rw [if_pos c7] at h
        refine E_iload_n (M := mX12_number) 51 rfl dX12_number_50 rfl 3 rfl ?_
        refine E_sub (M := mX12_number) (lv' := [(0, .ref 149), (1, .int x1), (2, .int x2)]) [0, 1, 2] rfl ?_
        exact S_X12_number_51 ih x1 x2 x3 I L _ h
      · rw [if_neg c7] at h
        refine E_bipush (M := mX12_number) (v := 10) 32 rfl dX12_number_30 (by decide) ?_
        refine E_iload_n (M := mX12_number) 33 rfl dX12_number_32 rfl 3 rfl ?_
        refine E_imul (M := mX12_number) 34 rfl dX12_number_33 ?_
        refine E_aload_n (M := mX12_number) 35 rfl dX12_number_34 rfl 0 rfl ?_
        refine E_gR (M := mX12_number) 154 38 rfl dX12_number_35 shc_149 fl_X12_26 rfl (by decide) (by decide) ?_
        refine E_aload_n (M := mX12_number) 39 rfl dX12_number_38 rfl 0 rfl ?_
        refine E_gI (M := mX12_number) 42 rfl dX12_number_39 shc_149 fl_X12_73 rfl ?_
        replace h := Option.bind_eq_some_iff.mp h
        obtain ⟨v8, hv8, h⟩ := h
        refine E_ldB (M := mX12_number) 43 rfl dX12_number_42 shc_154 hv8 ?_
        refine E_iadd (M := mX12_number) 44 rfl dX12_number_43 ?_
        refine E_bipush (M := mX12_number) (v := 48) 46 rfl dX12_number_44 (by decide) ?_
        refine E_isub (M := mX12_number) 47 rfl dX12_number_46 ?_
        refine E_goto (M := mX12_number) 51 (by decide) dX12_number_47 ?_
        refine E_sub (M := mX12_number) (lv' := [(0, .ref 149), (1, .int x1), (2, .int x2)]) [0, 1, 2] rfl ?_
        exact S_X12_number_51 ih x1 x2 (((10 * x3) + v8) - 48) I L _ h
def f_X12_number (x1 : Int32) (x2 : Int32) (I : MI) (L : ML) : Option (Int32 × MI × ML) := Option.bind (f_X12_blanks I L) fun w1 => f_X12_number_6 FU x1 x2 0 w1.1 w1.2
set_option maxRecDepth 100000 in
theorem S_X12_number {g : Gx} (x1 : Int32) (x2 : Int32) (I : MI) (L : ML) (res : Int32 × MI × ML) (h : f_X12_number x1 x2 I L = some res) : E g 3 0 mX12_number 0 [(0, .ref 149), (1, .int x1), (2, .int x2)] [] (I, L) (.inl (some (.int res.1))) (res.2.1, res.2.2) := by
  unfold f_X12_number at h
  refine E_aload_n (M := mX12_number) 1 rfl dX12_number_0 rfl 0 rfl ?_
  replace h := Option.bind_eq_some_iff.mp h
  obtain ⟨w1, hw1, h⟩ := h
  refine E_cV0 (M := mX12_number) (As := []) 4 rfl dX12_number_1 shc_149 ck_X12_86 cv_X12_blanks rfl (by decide) (Nat.le_of_ble_eq_true rfl) (C_X12_blanks (g := g) hw1) rfl ?_
  refine E_iconst (M := mX12_number) (v := 0) 5 rfl dX12_number_4 (by decide) ?_
  refine E_istore_n (M := mX12_number) (lv' := [(3, .int 0), (0, .ref 149), (1, .int x1), (2, .int x2)]) 6 rfl dX12_number_5 rfl (Nat.le_of_ble_eq_true rfl) rfl ?_
  refine E_sub (M := mX12_number) (lv' := [(0, .ref 149), (1, .int x1), (2, .int x2), (3, .int 0)]) [1, 2, 3, 0] rfl ?_
  exact S_X12_number_6 FU x1 x2 0 w1.1 w1.2 _ h
theorem C_X12_number {g : Gx} {x1 : Int32} {x2 : Int32} {I : MI} {L : ML} {res : Int32 × MI × ML} (h : f_X12_number x1 x2 I L = some res) : Ent g 3 0 mX12_number [.ref 149, .int x1, .int x2] (I, L) (.inl (some (.int res.1))) (res.2.1, res.2.2) := Ent_of (by decide +kernel) (Nat.le_of_ble_eq_true rfl) (S_X12_number x1 x2 I L _ h)
def f_X12_after_18 (y0 : Int32) (I : MI) (L : ML) : Option (Int32 × MI × ML) := some (y0, I, L)
set_option maxRecDepth 100000 in
theorem S_X12_after_18 {g : Gx} (y0 : Int32) (I : MI) (L : ML) (res : Int32 × MI × ML) (h : f_X12_after_18 y0 I L = some res) : E g 7 0 mX12_after 18 [] [.int y0] (I, L) (.inl (some (.int res.1))) (res.2.1, res.2.2) := by
  unfold f_X12_after_18 at h
  cases h
  exact E_iret (M := mX12_after) rfl dX12_after_18
def f_X12_after (x1 : Nat) (x2 : Int32) (x3 : Int32) (I : MI) (L : ML) : Option (Int32 × MI × ML) := Option.bind (f_X12_needs x1 I L) fun w1 => if w1.1 = true then (Option.bind (f_X12_number x2 x3 w1.2.1 w1.2.2) fun w3 => f_X12_after_18 w3.1 w3.2.1 w3.2.2) else (f_X12_after_18 ((-1)) w1.2.1 w1.2.2)
set_option maxRecDepth 100000 in
theorem S_X12_after {g : Gx} (x1 : Nat) (x2 : Int32) (x3 : Int32) (hx1 : x1 < 66) (I : MI) (L : ML) (res : Int32 × MI × ML) (h : f_X12_after x1 x2 x3 I L = some res) : E g 7 0 mX12_after 0 [(0, .ref 149), (1, .ref (100000 + x1)), (2, .int x2), (3, .int x3)] [] (I, L) (.inl (some (.int res.1))) (res.2.1, res.2.2) := by
  unfold f_X12_after at h
  refine E_aload_n (M := mX12_after) 1 rfl dX12_after_0 rfl 0 rfl ?_
  refine E_aload_n (M := mX12_after) 2 rfl dX12_after_1 rfl 1 rfl ?_
  replace h := Option.bind_eq_some_iff.mp h
  obtain ⟨w1, hw1, h⟩ := h
  refine E_cV1 (M := mX12_after) (As := [.ref (100000 + x1)]) 5 rfl dX12_after_2 shc_149 ck_X12_105 cv_X12_needs rfl (by decide) (Nat.le_of_ble_eq_true rfl) (C_X12_needs (g := g) hx1 hw1) rfl ?_
  refine E_if_eqB (M := mX12_after) 17 8 (by decide) rfl dX12_after_5 (fun c2 => ?_) (fun c2 => ?_)
  · rw [if_neg (by rw [c2]; decide)] at h
    refine E_iconst (M := mX12_after) (v := (-1)) 18 rfl dX12_after_17 (by decide) ?_
    refine E_sub (M := mX12_after) (lv' := []) [] rfl ?_
    exact S_X12_after_18 ((-1)) w1.2.1 w1.2.2 _ h
  · rw [if_pos c2] at h
    refine E_aload_n (M := mX12_after) 9 rfl dX12_after_8 rfl 0 rfl ?_
    refine E_iload_n (M := mX12_after) 10 rfl dX12_after_9 rfl 2 rfl ?_
    refine E_iload_n (M := mX12_after) 11 rfl dX12_after_10 rfl 3 rfl ?_
    replace h := Option.bind_eq_some_iff.mp h
    obtain ⟨w3, hw3, h⟩ := h
    refine E_cV1 (M := mX12_after) (As := [.int x2, .int x3]) 14 rfl dX12_after_11 shc_149 ck_X12_108 cv_X12_number rfl (by decide) (Nat.le_of_ble_eq_true rfl) (C_X12_number (g := g) hw3) rfl ?_
    refine E_goto (M := mX12_after) 18 (by decide) dX12_after_14 ?_
    refine E_sub (M := mX12_after) (lv' := []) [] rfl ?_
    exact S_X12_after_18 w3.1 w3.2.1 w3.2.2 _ h
theorem C_X12_after {g : Gx} {x1 : Nat} {x2 : Int32} {x3 : Int32} (hx1 : x1 < 66) {I : MI} {L : ML} {res : Int32 × MI × ML} (h : f_X12_after x1 x2 x3 I L = some res) : Ent g 7 0 mX12_after [.ref 149, .ref (100000 + x1), .int x2, .int x3] (I, L) (.inl (some (.int res.1))) (res.2.1, res.2.2) := Ent_of (by decide +kernel) (Nat.le_of_ble_eq_true rfl) (S_X12_after x1 x2 x3 hx1 I L _ h)
def f_X12_fault (I : MI) (L : ML) : Option (Int32 × MI × ML) := Option.bind (pfI I 149 0 0) fun I1 => some (I1 149 13, I1, L)
set_option maxRecDepth 100000 in
theorem S_X12_fault {g : Gx} (I : MI) (L : ML) (res : Int32 × MI × ML) (h : f_X12_fault I L = some res) : E g 1 0 mX12_fault 0 [(0, .ref 149)] [] (I, L) (.inl (some (.int res.1))) (res.2.1, res.2.2) := by
  unfold f_X12_fault at h
  refine E_aload_n (M := mX12_fault) 1 rfl dX12_fault_0 rfl 0 rfl ?_
  refine E_iconst (M := mX12_fault) (v := 0) 2 rfl dX12_fault_1 (by decide) ?_
  replace h := Option.bind_eq_some_iff.mp h
  obtain ⟨I1, hI1, h⟩ := h
  refine E_pfI (M := mX12_fault) 5 rfl dX12_fault_2 shc_149 fl_X12_3 rfl hI1 ?_
  refine E_aload_n (M := mX12_fault) 6 rfl dX12_fault_5 rfl 0 rfl ?_
  refine E_gI (M := mX12_fault) 9 rfl dX12_fault_6 shc_149 fl_X12_30 rfl ?_
  cases h
  exact E_iret (M := mX12_fault) rfl dX12_fault_9
theorem C_X12_fault {g : Gx} {I : MI} {L : ML} {res : Int32 × MI × ML} (h : f_X12_fault I L = some res) : Ent g 1 0 mX12_fault [.ref 149] (I, L) (.inl (some (.int res.1))) (res.2.1, res.2.2) := Ent_of (by decide +kernel) (Nat.le_of_ble_eq_true rfl) (S_X12_fault I L _ h)
def f_X12_uses (I : MI) (L : ML) : Option (MI × ML) := Option.bind (pfI I 149 0 0) fun I1 => Option.bind (pfI I1 149 10 (I1 149 8)) fun I2 => Option.bind (pfI I2 149 8 0) fun I3 => Option.bind (pfI I3 149 9 0) fun I4 => some (I4, L)
set_option maxRecDepth 100000 in
theorem S_X12_uses {g : Gx} (I : MI) (L : ML) (res : MI × ML) (h : f_X12_uses I L = some res) : E g 1 0 mX12_uses 0 [(0, .ref 149)] [] (I, L) (.inl none) (res.1, res.2) := by
  unfold f_X12_uses at h
  refine E_aload_n (M := mX12_uses) 1 rfl dX12_uses_0 rfl 0 rfl ?_
  refine E_iconst (M := mX12_uses) (v := 0) 2 rfl dX12_uses_1 (by decide) ?_
  replace h := Option.bind_eq_some_iff.mp h
  obtain ⟨I1, hI1, h⟩ := h
  refine E_pfI (M := mX12_uses) 5 rfl dX12_uses_2 shc_149 fl_X12_3 rfl hI1 ?_
  refine E_aload_n (M := mX12_uses) 6 rfl dX12_uses_5 rfl 0 rfl ?_
  refine E_aload_n (M := mX12_uses) 7 rfl dX12_uses_6 rfl 0 rfl ?_
  refine E_gI (M := mX12_uses) 10 rfl dX12_uses_7 shc_149 fl_X12_70 rfl ?_
  replace h := Option.bind_eq_some_iff.mp h
  obtain ⟨I2, hI2, h⟩ := h
  refine E_pfI (M := mX12_uses) 13 rfl dX12_uses_10 shc_149 fl_X12_76 rfl hI2 ?_
  refine E_aload_n (M := mX12_uses) 14 rfl dX12_uses_13 rfl 0 rfl ?_
  refine E_iconst (M := mX12_uses) (v := 0) 15 rfl dX12_uses_14 (by decide) ?_
  replace h := Option.bind_eq_some_iff.mp h
  obtain ⟨I3, hI3, h⟩ := h
  refine E_pfI (M := mX12_uses) 18 rfl dX12_uses_15 shc_149 fl_X12_70 rfl hI3 ?_
  refine E_aload_n (M := mX12_uses) 19 rfl dX12_uses_18 rfl 0 rfl ?_
  refine E_iconst (M := mX12_uses) (v := 0) 20 rfl dX12_uses_19 (by decide) ?_
  replace h := Option.bind_eq_some_iff.mp h
  obtain ⟨I4, hI4, h⟩ := h
  refine E_pfI (M := mX12_uses) 23 rfl dX12_uses_20 shc_149 fl_X12_73 rfl hI4 ?_
  cases h
  exact E_vret (M := mX12_uses) rfl dX12_uses_23
theorem C_X12_uses {g : Gx} {I : MI} {L : ML} {res : MI × ML} (h : f_X12_uses I L = some res) : Ent g 1 0 mX12_uses [.ref 149] (I, L) (.inl none) (res.1, res.2) := Ent_of (by decide +kernel) (Nat.le_of_ble_eq_true rfl) (S_X12_uses I L _ h)
def f_X12_roomTold (I : MI) (L : ML) : Option (Int32 × MI × ML) := Option.bind (f_X12_rooms I L) fun v1 => Option.bind (f_X12_number 0 (v1 - 1) I L) fun w2 => some (w2.1, w2.2.1, w2.2.2)
set_option maxRecDepth 100000 in
theorem S_X12_roomTold {g : Gx} (I : MI) (L : ML) (res : Int32 × MI × ML) (h : f_X12_roomTold I L = some res) : E g 4 0 mX12_roomTold 0 [(0, .ref 149)] [] (I, L) (.inl (some (.int res.1))) (res.2.1, res.2.2) := by
  unfold f_X12_roomTold at h
  refine E_aload_n (M := mX12_roomTold) 1 rfl dX12_roomTold_0 rfl 0 rfl ?_
  refine E_iconst (M := mX12_roomTold) (v := 0) 2 rfl dX12_roomTold_1 (by decide) ?_
  refine E_aload_n (M := mX12_roomTold) 3 rfl dX12_roomTold_2 rfl 0 rfl ?_
  replace h := Option.bind_eq_some_iff.mp h
  obtain ⟨v1, hv1, h⟩ := h
  refine E_cV1 (M := mX12_roomTold) (As := []) 6 rfl dX12_roomTold_3 shc_149 ck_X12_56 cv_X12_rooms rfl (by decide) (Nat.le_of_ble_eq_true rfl) (C_X12_rooms (g := g) hv1) rfl ?_
  refine E_iconst (M := mX12_roomTold) (v := 1) 7 rfl dX12_roomTold_6 (by decide) ?_
  refine E_isub (M := mX12_roomTold) 8 rfl dX12_roomTold_7 ?_
  replace h := Option.bind_eq_some_iff.mp h
  obtain ⟨w2, hw2, h⟩ := h
  refine E_cV1 (M := mX12_roomTold) (As := [.int 0, .int (v1 - 1)]) 11 rfl dX12_roomTold_8 shc_149 ck_X12_108 cv_X12_number rfl (by decide) (Nat.le_of_ble_eq_true rfl) (C_X12_number (g := g) hw2) rfl ?_
  cases h
  exact E_iret (M := mX12_roomTold) rfl dX12_roomTold_11
theorem C_X12_roomTold {g : Gx} {I : MI} {L : ML} {res : Int32 × MI × ML} (h : f_X12_roomTold I L = some res) : Ent g 4 0 mX12_roomTold [.ref 149] (I, L) (.inl (some (.int res.1))) (res.2.1, res.2.2) := Ent_of (by decide +kernel) (Nat.le_of_ble_eq_true rfl) (S_X12_roomTold I L _ h)
def f_X12_readRoom_55 (y0 : Bool) (I : MI) (L : ML) : Option (Bool × MI × ML) := some (y0, I, L)
set_option maxRecDepth 100000 in
theorem S_X12_readRoom_55 {g : Gx} (y0 : Bool) (I : MI) (L : ML) (res : Bool × MI × ML) (h : f_X12_readRoom_55 y0 I L = some res) : E g 4 0 mX12_readRoom 55 [] [.int (bI y0)] (I, L) (.inl (some (.int (bI res.1)))) (res.2.1, res.2.2) := by
  unfold f_X12_readRoom_55 at h
  cases h
  exact E_zret (M := mX12_readRoom) (x := y0) rfl dX12_readRoom_55
def f_X12_readRoom_46 (x1 : Int32) (I : MI) (L : ML) : Option (Bool × MI × ML) := if x1 < 0 then (f_X12_readRoom_55 false I L) else (f_X12_readRoom_55 true I L)
set_option maxRecDepth 100000 in
theorem S_X12_readRoom_46 {g : Gx} (x1 : Int32) (I : MI) (L : ML) (res : Bool × MI × ML) (h : f_X12_readRoom_46 x1 I L = some res) : E g 4 0 mX12_readRoom 46 [(1, .int x1)] [] (I, L) (.inl (some (.int (bI res.1)))) (res.2.1, res.2.2) := by
  unfold f_X12_readRoom_46 at h
  refine E_iload_n (M := mX12_readRoom) 47 rfl dX12_readRoom_46 rfl 0 rfl ?_
  refine E_if_lt (M := mX12_readRoom) 54 50 (by decide) rfl dX12_readRoom_47 (fun c1 => ?_) (fun c1 => ?_)
  · rw [if_pos c1] at h
    refine E_iconst (M := mX12_readRoom) (v := 0) 55 rfl dX12_readRoom_54 (by decide) ?_
    refine E_sub (M := mX12_readRoom) (lv' := []) [] rfl ?_
    exact S_X12_readRoom_55 false I L _ h
  · rw [if_neg c1] at h
    refine E_iconst (M := mX12_readRoom) (v := 1) 51 rfl dX12_readRoom_50 (by decide) ?_
    refine E_goto (M := mX12_readRoom) 55 (by decide) dX12_readRoom_51 ?_
    refine E_sub (M := mX12_readRoom) (lv' := []) [] rfl ?_
    exact S_X12_readRoom_55 true I L _ h
def f_X12_readRoom (I : MI) (L : ML) : Option (Bool × MI × ML) := Option.bind (f_X12_rooms I L) fun v1 => if v1 = 10 then (some (false, I, L)) else (Option.bind (f_X12_number 0 20 I L) fun w3 => Option.bind (f_X12_rooms w3.2.1 w3.2.2) fun v4 => Option.bind (stI w3.2.1 150 2143 (15 + v4) w3.1) fun I5 => if w3.1 < 0 then (f_X12_readRoom_46 w3.1 I5 w3.2.2) else (Option.bind (ldI I5 150 2143 0) fun v7 => Option.bind (stI I5 150 2143 0 (v7 + 1)) fun I8 => f_X12_readRoom_46 w3.1 I8 w3.2.2))
set_option maxRecDepth 100000 in
theorem S_X12_readRoom {g : Gx} (I : MI) (L : ML) (res : Bool × MI × ML) (h : f_X12_readRoom I L = some res) : E g 4 0 mX12_readRoom 0 [(0, .ref 149)] [] (I, L) (.inl (some (.int (bI res.1)))) (res.2.1, res.2.2) := by
  unfold f_X12_readRoom at h
  refine E_aload_n (M := mX12_readRoom) 1 rfl dX12_readRoom_0 rfl 0 rfl ?_
  replace h := Option.bind_eq_some_iff.mp h
  obtain ⟨v1, hv1, h⟩ := h
  refine E_cV1 (M := mX12_readRoom) (As := []) 4 rfl dX12_readRoom_1 shc_149 ck_X12_56 cv_X12_rooms rfl (by decide) (Nat.le_of_ble_eq_true rfl) (C_X12_rooms (g := g) hv1) rfl ?_
  refine E_bipush (M := mX12_readRoom) (v := 10) 6 rfl dX12_readRoom_4 (by decide) ?_
  refine E_icmp_ne (M := mX12_readRoom) 11 9 (by decide) rfl dX12_readRoom_6 (fun c2 => ?_) (fun c2 => ?_)
  · rw [if_neg c2] at h
    refine E_aload_n (M := mX12_readRoom) 12 rfl dX12_readRoom_11 rfl 0 rfl ?_
    refine E_iconst (M := mX12_readRoom) (v := 0) 13 rfl dX12_readRoom_12 (by decide) ?_
    refine E_bipush (M := mX12_readRoom) (v := 20) 15 rfl dX12_readRoom_13 (by decide) ?_
    replace h := Option.bind_eq_some_iff.mp h
    obtain ⟨w3, hw3, h⟩ := h
    refine E_cV1 (M := mX12_readRoom) (As := [.int 0, .int 20]) 18 rfl dX12_readRoom_15 shc_149 ck_X12_108 cv_X12_number rfl (by decide) (Nat.le_of_ble_eq_true rfl) (C_X12_number (g := g) hw3) rfl ?_
    refine E_istore_n (M := mX12_readRoom) (lv' := [(1, .int w3.1), (0, .ref 149)]) 19 rfl dX12_readRoom_18 rfl (Nat.le_of_ble_eq_true rfl) rfl ?_
    refine E_aload_n (M := mX12_readRoom) 20 rfl dX12_readRoom_19 rfl 1 rfl ?_
    refine E_gR (M := mX12_readRoom) 150 23 rfl dX12_readRoom_20 shc_149 fl_X12_13 rfl (by decide) (by decide) ?_
    refine E_bipush (M := mX12_readRoom) (v := 15) 25 rfl dX12_readRoom_23 (by decide) ?_
    refine E_aload_n (M := mX12_readRoom) 26 rfl dX12_readRoom_25 rfl 1 rfl ?_
    replace h := Option.bind_eq_some_iff.mp h
    obtain ⟨v4, hv4, h⟩ := h
    refine E_cV1 (M := mX12_readRoom) (As := []) 29 rfl dX12_readRoom_26 shc_149 ck_X12_56 cv_X12_rooms rfl (by decide) (Nat.le_of_ble_eq_true rfl) (C_X12_rooms (g := g) hv4) rfl ?_
    refine E_iadd (M := mX12_readRoom) 30 rfl dX12_readRoom_29 ?_
    refine E_iload_n (M := mX12_readRoom) 31 rfl dX12_readRoom_30 rfl 0 rfl ?_
    replace h := Option.bind_eq_some_iff.mp h
    obtain ⟨I5, hI5, h⟩ := h
    refine E_stI (M := mX12_readRoom) 32 rfl dX12_readRoom_31 shc_150 hI5 ?_
    refine E_iload_n (M := mX12_readRoom) 33 rfl dX12_readRoom_32 rfl 0 rfl ?_
    refine E_if_lt (M := mX12_readRoom) 46 36 (by decide) rfl dX12_readRoom_33 (fun c6 => ?_) (fun c6 => ?_)
    · rw [if_pos c6] at h
      refine E_sub (M := mX12_readRoom) (lv' := [(1, .int w3.1)]) [0] rfl ?_
      exact S_X12_readRoom_46 w3.1 I5 w3.2.2 _ h
    · rw [if_neg c6] at h
      refine E_aload_n (M := mX12_readRoom) 37 rfl dX12_readRoom_36 rfl 1 rfl ?_
      refine E_gR (M := mX12_readRoom) 150 40 rfl dX12_readRoom_37 shc_149 fl_X12_13 rfl (by decide) (by decide) ?_
      refine E_iconst (M := mX12_readRoom) (v := 0) 41 rfl dX12_readRoom_40 (by decide) ?_
      refine E_dup2 (M := mX12_readRoom) 42 rfl dX12_readRoom_41 rfl rfl ?_
      replace h := Option.bind_eq_some_iff.mp h
      obtain ⟨v7, hv7, h⟩ := h
      refine E_ldI (M := mX12_readRoom) 43 rfl dX12_readRoom_42 shc_150 hv7 ?_
      refine E_iconst (M := mX12_readRoom) (v := 1) 44 rfl dX12_readRoom_43 (by decide) ?_
      refine E_iadd (M := mX12_readRoom) 45 rfl dX12_readRoom_44 ?_
      replace h := Option.bind_eq_some_iff.mp h
      obtain ⟨I8, hI8, h⟩ := h
      refine E_stI (M := mX12_readRoom) 46 rfl dX12_readRoom_45 shc_150 hI8 ?_
      refine E_sub (M := mX12_readRoom) (lv' := [(1, .int w3.1)]) [0] rfl ?_
      exact S_X12_readRoom_46 w3.1 I8 w3.2.2 _ h
  · rw [if_pos c2] at h
    refine E_iconst (M := mX12_readRoom) (v := 0) 10 rfl dX12_readRoom_9 (by decide) ?_
    cases h
    exact E_zret (M := mX12_readRoom) (x := false) rfl dX12_readRoom_10
theorem C_X12_readRoom {g : Gx} {I : MI} {L : ML} {res : Bool × MI × ML} (h : f_X12_readRoom I L = some res) : Ent g 4 0 mX12_readRoom [.ref 149] (I, L) (.inl (some (.int (bI res.1)))) (res.2.1, res.2.2) := Ent_of (by decide +kernel) (Nat.le_of_ble_eq_true rfl) (S_X12_readRoom I L _ h)
def f_X12_readDoor_42 (I : MI) (L : ML) : Option (Bool × MI × ML) := some (false, I, L)
set_option maxRecDepth 100000 in
theorem S_X12_readDoor_42 {g : Gx} (I : MI) (L : ML) (res : Bool × MI × ML) (h : f_X12_readDoor_42 I L = some res) : E g 5 0 mX12_readDoor 42 [] [] (I, L) (.inl (some (.int (bI res.1)))) (res.2.1, res.2.2) := by
  unfold f_X12_readDoor_42 at h
  refine E_iconst (M := mX12_readDoor) (v := 0) 43 rfl dX12_readDoor_42 (by decide) ?_
  cases h
  exact E_zret (M := mX12_readDoor) (x := false) rfl dX12_readDoor_43
def f_X12_readDoor_32 (x1 : Int32) (x2 : Int32) (y0 : Int32) (I : MI) (L : ML) : Option (Bool × MI × ML) := if y0 < 0 then (f_X12_readDoor_42 I L) else (if x2 = y0 then (f_X12_readDoor_42 I L) else (Option.bind (f_X12_number 1 30 I L) fun w3 => if 0 ≤ w3.1 then (Option.bind (stI w3.2.1 150 2143 (25 + (3 * x1)) x2) fun I5 => Option.bind (stI I5 150 2143 ((25 + (3 * x1)) + 1) y0) fun I6 => Option.bind (stI I6 150 2143 ((25 + (3 * x1)) + 2) w3.1) fun I7 => Option.bind (ldI I7 150 2143 1) fun v8 => Option.bind (stI I7 150 2143 1 (v8 + 1)) fun I9 => some (true, I9, w3.2.2)) else (some (false, w3.2.1, w3.2.2))))
set_option maxRecDepth 100000 in
theorem S_X12_readDoor_32 {g : Gx} (x1 : Int32) (x2 : Int32) (y0 : Int32) (I : MI) (L : ML) (res : Bool × MI × ML) (h : f_X12_readDoor_32 x1 x2 y0 I L = some res) : E g 5 0 mX12_readDoor 32 [(0, .ref 149), (1, .int x1), (2, .int x2)] [.int y0] (I, L) (.inl (some (.int (bI res.1)))) (res.2.1, res.2.2) := by
  unfold f_X12_readDoor_32 at h
  refine E_istore_n (M := mX12_readDoor) (lv' := [(3, .int y0), (0, .ref 149), (1, .int x1), (2, .int x2)]) 33 rfl dX12_readDoor_32 rfl (Nat.le_of_ble_eq_true rfl) rfl ?_
  refine E_iload_n (M := mX12_readDoor) 34 rfl dX12_readDoor_33 rfl 0 rfl ?_
  refine E_if_lt (M := mX12_readDoor) 42 37 (by decide) rfl dX12_readDoor_34 (fun c1 => ?_) (fun c1 => ?_)
  · rw [if_pos c1] at h
    refine E_sub (M := mX12_readDoor) (lv' := []) [] rfl ?_
    exact S_X12_readDoor_42 I L _ h
  · rw [if_neg c1] at h
    refine E_iload_n (M := mX12_readDoor) 38 rfl dX12_readDoor_37 rfl 3 rfl ?_
    refine E_iload_n (M := mX12_readDoor) 39 rfl dX12_readDoor_38 rfl 0 rfl ?_
    refine E_icmp_ne (M := mX12_readDoor) 44 42 (by decide) rfl dX12_readDoor_39 (fun c2 => ?_) (fun c2 => ?_)
    · rw [if_neg c2] at h
      refine E_aload_n (M := mX12_readDoor) 45 rfl dX12_readDoor_44 rfl 1 rfl ?_
      refine E_iconst (M := mX12_readDoor) (v := 1) 46 rfl dX12_readDoor_45 (by decide) ?_
      refine E_bipush (M := mX12_readDoor) (v := 30) 48 rfl dX12_readDoor_46 (by decide) ?_
      replace h := Option.bind_eq_some_iff.mp h
      obtain ⟨w3, hw3, h⟩ := h
      refine E_cV1 (M := mX12_readDoor) (As := [.int 1, .int 30]) 51 rfl dX12_readDoor_48 shc_149 ck_X12_108 cv_X12_number rfl (by decide) (Nat.le_of_ble_eq_true rfl) (C_X12_number (g := g) hw3) rfl ?_
      refine E_istore (M := mX12_readDoor) (lv' := [(4, .int w3.1), (3, .int y0), (0, .ref 149), (1, .int x1), (2, .int x2)]) 53 rfl dX12_readDoor_51 (Nat.le_of_ble_eq_true rfl) rfl ?_
      refine E_iload (M := mX12_readDoor) 55 rfl dX12_readDoor_53 0 rfl ?_
      refine E_if_ge (M := mX12_readDoor) 60 58 (by decide) rfl dX12_readDoor_55 (fun c4 => ?_) (fun c4 => ?_)
      · rw [if_pos c4] at h
        refine E_aload_n (M := mX12_readDoor) 61 rfl dX12_readDoor_60 rfl 2 rfl ?_
        refine E_gR (M := mX12_readDoor) 150 64 rfl dX12_readDoor_61 shc_149 fl_X12_13 rfl (by decide) (by decide) ?_
        refine E_bipush (M := mX12_readDoor) (v := 25) 66 rfl dX12_readDoor_64 (by decide) ?_
        refine E_iconst (M := mX12_readDoor) (v := 3) 67 rfl dX12_readDoor_66 (by decide) ?_
        refine E_iload_n (M := mX12_readDoor) 68 rfl dX12_readDoor_67 rfl 3 rfl ?_
        refine E_imul (M := mX12_readDoor) 69 rfl dX12_readDoor_68 ?_
        refine E_iadd (M := mX12_readDoor) 70 rfl dX12_readDoor_69 ?_
        refine E_iload_n (M := mX12_readDoor) 71 rfl dX12_readDoor_70 rfl 4 rfl ?_
        replace h := Option.bind_eq_some_iff.mp h
        obtain ⟨I5, hI5, h⟩ := h
        refine E_stI (M := mX12_readDoor) 72 rfl dX12_readDoor_71 shc_150 hI5 ?_
        refine E_aload_n (M := mX12_readDoor) 73 rfl dX12_readDoor_72 rfl 2 rfl ?_
        refine E_gR (M := mX12_readDoor) 150 76 rfl dX12_readDoor_73 shc_149 fl_X12_13 rfl (by decide) (by decide) ?_
        refine E_bipush (M := mX12_readDoor) (v := 25) 78 rfl dX12_readDoor_76 (by decide) ?_
        refine E_iconst (M := mX12_readDoor) (v := 3) 79 rfl dX12_readDoor_78 (by decide) ?_
        refine E_iload_n (M := mX12_readDoor) 80 rfl dX12_readDoor_79 rfl 3 rfl ?_
        refine E_imul (M := mX12_readDoor) 81 rfl dX12_readDoor_80 ?_
        refine E_iadd (M := mX12_readDoor) 82 rfl dX12_readDoor_81 ?_
        refine E_iconst (M := mX12_readDoor) (v := 1) 83 rfl dX12_readDoor_82 (by decide) ?_
        refine E_iadd (M := mX12_readDoor) 84 rfl dX12_readDoor_83 ?_
        refine E_iload_n (M := mX12_readDoor) 85 rfl dX12_readDoor_84 rfl 1 rfl ?_
        replace h := Option.bind_eq_some_iff.mp h
        obtain ⟨I6, hI6, h⟩ := h
        refine E_stI (M := mX12_readDoor) 86 rfl dX12_readDoor_85 shc_150 hI6 ?_
        refine E_aload_n (M := mX12_readDoor) 87 rfl dX12_readDoor_86 rfl 2 rfl ?_
        refine E_gR (M := mX12_readDoor) 150 90 rfl dX12_readDoor_87 shc_149 fl_X12_13 rfl (by decide) (by decide) ?_
        refine E_bipush (M := mX12_readDoor) (v := 25) 92 rfl dX12_readDoor_90 (by decide) ?_
        refine E_iconst (M := mX12_readDoor) (v := 3) 93 rfl dX12_readDoor_92 (by decide) ?_
        refine E_iload_n (M := mX12_readDoor) 94 rfl dX12_readDoor_93 rfl 3 rfl ?_
        refine E_imul (M := mX12_readDoor) 95 rfl dX12_readDoor_94 ?_
        refine E_iadd (M := mX12_readDoor) 96 rfl dX12_readDoor_95 ?_
        refine E_iconst (M := mX12_readDoor) (v := 2) 97 rfl dX12_readDoor_96 (by decide) ?_
        refine E_iadd (M := mX12_readDoor) 98 rfl dX12_readDoor_97 ?_
        refine E_iload (M := mX12_readDoor) 100 rfl dX12_readDoor_98 0 rfl ?_
        replace h := Option.bind_eq_some_iff.mp h
        obtain ⟨I7, hI7, h⟩ := h
        refine E_stI (M := mX12_readDoor) 101 rfl dX12_readDoor_100 shc_150 hI7 ?_
        refine E_aload_n (M := mX12_readDoor) 102 rfl dX12_readDoor_101 rfl 2 rfl ?_
        refine E_gR (M := mX12_readDoor) 150 105 rfl dX12_readDoor_102 shc_149 fl_X12_13 rfl (by decide) (by decide) ?_
        refine E_iconst (M := mX12_readDoor) (v := 1) 106 rfl dX12_readDoor_105 (by decide) ?_
        refine E_dup2 (M := mX12_readDoor) 107 rfl dX12_readDoor_106 rfl rfl ?_
        replace h := Option.bind_eq_some_iff.mp h
        obtain ⟨v8, hv8, h⟩ := h
        refine E_ldI (M := mX12_readDoor) 108 rfl dX12_readDoor_107 shc_150 hv8 ?_
        refine E_iconst (M := mX12_readDoor) (v := 1) 109 rfl dX12_readDoor_108 (by decide) ?_
        refine E_iadd (M := mX12_readDoor) 110 rfl dX12_readDoor_109 ?_
        replace h := Option.bind_eq_some_iff.mp h
        obtain ⟨I9, hI9, h⟩ := h
        refine E_stI (M := mX12_readDoor) 111 rfl dX12_readDoor_110 shc_150 hI9 ?_
        refine E_iconst (M := mX12_readDoor) (v := 1) 112 rfl dX12_readDoor_111 (by decide) ?_
        cases h
        exact E_zret (M := mX12_readDoor) (x := true) rfl dX12_readDoor_112
      · rw [if_neg c4] at h
        refine E_iconst (M := mX12_readDoor) (v := 0) 59 rfl dX12_readDoor_58 (by decide) ?_
        cases h
        exact E_zret (M := mX12_readDoor) (x := false) rfl dX12_readDoor_59
    · rw [if_pos c2] at h
      refine E_sub (M := mX12_readDoor) (lv' := []) [] rfl ?_
      exact S_X12_readDoor_42 I L _ h
def f_X12_readDoor (I : MI) (L : ML) : Option (Bool × MI × ML) := Option.bind (ldI I 150 2143 1) fun v1 => if v1 = 14 then (some (false, I, L)) else (Option.bind (f_X12_roomTold I L) fun w3 => if 0 ≤ w3.1 then (Option.bind (f_X12_roomTold w3.2.1 w3.2.2) fun w5 => f_X12_readDoor_32 v1 w3.1 w5.1 w5.2.1 w5.2.2) else (f_X12_readDoor_32 v1 w3.1 ((-1)) w3.2.1 w3.2.2))
set_option maxRecDepth 100000 in
theorem S_X12_readDoor {g : Gx} (I : MI) (L : ML) (res : Bool × MI × ML) (h : f_X12_readDoor I L = some res) : E g 5 0 mX12_readDoor 0 [(0, .ref 149)] [] (I, L) (.inl (some (.int (bI res.1)))) (res.2.1, res.2.2) := by
  unfold f_X12_readDoor at h
  refine E_aload_n (M := mX12_readDoor) 1 rfl dX12_readDoor_0 rfl 0 rfl ?_
  refine E_gR (M := mX12_readDoor) 150 4 rfl dX12_readDoor_1 shc_149 fl_X12_13 rfl (by decide) (by decide) ?_
  refine E_iconst (M := mX12_readDoor) (v := 1) 5 rfl dX12_readDoor_4 (by decide) ?_
  replace h := Option.bind_eq_some_iff.mp h
  obtain ⟨v1, hv1, h⟩ := h
  refine E_ldI (M := mX12_readDoor) 6 rfl dX12_readDoor_5 shc_150 hv1 ?_
  refine E_istore_n (M := mX12_readDoor) (lv' := [(1, .int v1), (0, .ref 149)]) 7 rfl dX12_readDoor_6 rfl (Nat.le_of_ble_eq_true rfl) rfl ?_
  refine E_iload_n (M := mX12_readDoor) 8 rfl dX12_readDoor_7 rfl 0 rfl ?_
  refine E_bipush (M := mX12_readDoor) (v := 14) 10 rfl dX12_readDoor_8 (by decide) ?_
  refine E_icmp_ne (M := mX12_readDoor) 15 13 (by decide) rfl dX12_readDoor_10 (fun c2 => ?_) (fun c2 => ?_)
  · rw [if_neg c2] at h
    refine E_aload_n (M := mX12_readDoor) 16 rfl dX12_readDoor_15 rfl 1 rfl ?_
    replace h := Option.bind_eq_some_iff.mp h
    obtain ⟨w3, hw3, h⟩ := h
    refine E_cV1 (M := mX12_readDoor) (As := []) 19 rfl dX12_readDoor_16 shc_149 ck_X12_112 cv_X12_roomTold rfl (by decide) (Nat.le_of_ble_eq_true rfl) (C_X12_roomTold (g := g) hw3) rfl ?_
    refine E_istore_n (M := mX12_readDoor) (lv' := [(2, .int w3.1), (1, .int v1), (0, .ref 149)]) 20 rfl dX12_readDoor_19 rfl (Nat.le_of_ble_eq_true rfl) rfl ?_
    refine E_iload_n (M := mX12_readDoor) 21 rfl dX12_readDoor_20 rfl 0 rfl ?_
    refine E_if_ge (M := mX12_readDoor) 28 24 (by decide) rfl dX12_readDoor_21 (fun c4 => ?_) (fun c4 => ?_)
    · rw [if_pos c4] at h
      refine E_aload_n (M := mX12_readDoor) 29 rfl dX12_readDoor_28 rfl 2 rfl ?_
      replace h := Option.bind_eq_some_iff.mp h
      obtain ⟨w5, hw5, h⟩ := h
      refine E_cV1 (M := mX12_readDoor) (As := []) 32 rfl dX12_readDoor_29 shc_149 ck_X12_112 cv_X12_roomTold rfl (by decide) (Nat.le_of_ble_eq_true rfl) (C_X12_roomTold (g := g) hw5) rfl ?_
      refine E_sub (M := mX12_readDoor) (lv' := [(0, .ref 149), (1, .int v1), (2, .int w3.1)]) [2, 1, 0] rfl ?_
      exact S_X12_readDoor_32 v1 w3.1 w5.1 w5.2.1 w5.2.2 _ h
    · rw [if_neg c4] at h
      refine E_iconst (M := mX12_readDoor) (v := (-1)) 25 rfl dX12_readDoor_24 (by decide) ?_
      refine E_goto (M := mX12_readDoor) 32 (by decide) dX12_readDoor_25 ?_
      refine E_sub (M := mX12_readDoor) (lv' := [(0, .ref 149), (1, .int v1), (2, .int w3.1)]) [2, 1, 0] rfl ?_
      exact S_X12_readDoor_32 v1 w3.1 ((-1)) w3.2.1 w3.2.2 _ h
  · rw [if_pos c2] at h
    refine E_iconst (M := mX12_readDoor) (v := 0) 14 rfl dX12_readDoor_13 (by decide) ?_
    cases h
    exact E_zret (M := mX12_readDoor) (x := false) rfl dX12_readDoor_14
theorem C_X12_readDoor {g : Gx} {I : MI} {L : ML} {res : Bool × MI × ML} (h : f_X12_readDoor I L = some res) : Ent g 5 0 mX12_readDoor [.ref 149] (I, L) (.inl (some (.int (bI res.1)))) (res.2.1, res.2.2) := Ent_of (by decide +kernel) (Nat.le_of_ble_eq_true rfl) (S_X12_readDoor I L _ h)
def f_X12_readHeir_44 (x1 : Int32) (x2 : Int32) (y0 : Int32) (I : MI) (L : ML) : Option (Bool × MI × ML) := if 0 ≤ y0 then (Option.bind (f_X12_setsHeir x1 0 x2 I L) fun w2 => Option.bind (f_X12_setsHeir x1 1 y0 w2.1 w2.2) fun w3 => Option.bind (f_X12_setsHeir x1 2 0 w3.1 w3.2) fun w4 => Option.bind (ldI w4.1 150 2143 2) fun v5 => Option.bind (stI w4.1 150 2143 2 (v5 + 1)) fun I6 => some (true, I6, w4.2)) else (some (false, I, L))
set_option maxRecDepth 100000 in
theorem S_X12_readHeir_44 {g : Gx} (x1 : Int32) (x2 : Int32) (y0 : Int32) (I : MI) (L : ML) (res : Bool × MI × ML) (h : f_X12_readHeir_44 x1 x2 y0 I L = some res) : E g 8 0 mX12_readHeir 44 [(0, .ref 149), (1, .int x1), (2, .int x2)] [.int y0] (I, L) (.inl (some (.int (bI res.1)))) (res.2.1, res.2.2) := by
  unfold f_X12_readHeir_44 at h
  refine E_istore_n (M := mX12_readHeir) (lv' := [(3, .int y0), (0, .ref 149), (1, .int x1), (2, .int x2)]) 45 rfl dX12_readHeir_44 rfl (Nat.le_of_ble_eq_true rfl) rfl ?_
  refine E_iload_n (M := mX12_readHeir) 46 rfl dX12_readHeir_45 rfl 0 rfl ?_
  refine E_if_ge (M := mX12_readHeir) 51 49 (by decide) rfl dX12_readHeir_46 (fun c1 => ?_) (fun c1 => ?_)
  · rw [if_pos c1] at h
    refine E_aload_n (M := mX12_readHeir) 52 rfl dX12_readHeir_51 rfl 1 rfl ?_
    refine E_iload_n (M := mX12_readHeir) 53 rfl dX12_readHeir_52 rfl 2 rfl ?_
    refine E_iconst (M := mX12_readHeir) (v := 0) 54 rfl dX12_readHeir_53 (by decide) ?_
    refine E_iload_n (M := mX12_readHeir) 55 rfl dX12_readHeir_54 rfl 3 rfl ?_
    replace h := Option.bind_eq_some_iff.mp h
    obtain ⟨w2, hw2, h⟩ := h
    refine E_cV0 (M := mX12_readHeir) (As := [.int x1, .int 0, .int x2]) 58 rfl dX12_readHeir_55 shc_149 ck_X12_122 cv_X12_setsHeir rfl (by decide) (Nat.le_of_ble_eq_true rfl) (C_X12_setsHeir (g := g) hw2) rfl ?_
    refine E_aload_n (M := mX12_readHeir) 59 rfl dX12_readHeir_58 rfl 1 rfl ?_
    refine E_iload_n (M := mX12_readHeir) 60 rfl dX12_readHeir_59 rfl 2 rfl ?_
    refine E_iconst (M := mX12_readHeir) (v := 1) 61 rfl dX12_readHeir_60 (by decide) ?_
    refine E_iload_n (M := mX12_readHeir) 62 rfl dX12_readHeir_61 rfl 0 rfl ?_
    replace h := Option.bind_eq_some_iff.mp h
    obtain ⟨w3, hw3, h⟩ := h
    refine E_cV0 (M := mX12_readHeir) (As := [.int x1, .int 1, .int y0]) 65 rfl dX12_readHeir_62 shc_149 ck_X12_122 cv_X12_setsHeir rfl (by decide) (Nat.le_of_ble_eq_true rfl) (C_X12_setsHeir (g := g) hw3) rfl ?_
    refine E_aload_n (M := mX12_readHeir) 66 rfl dX12_readHeir_65 rfl 1 rfl ?_
    refine E_iload_n (M := mX12_readHeir) 67 rfl dX12_readHeir_66 rfl 2 rfl ?_
    refine E_iconst (M := mX12_readHeir) (v := 2) 68 rfl dX12_readHeir_67 (by decide) ?_
    refine E_iconst (M := mX12_readHeir) (v := 0) 69 rfl dX12_readHeir_68 (by decide) ?_
    replace h := Option.bind_eq_some_iff.mp h
    obtain ⟨w4, hw4, h⟩ := h
    refine E_cV0 (M := mX12_readHeir) (As := [.int x1, .int 2, .int 0]) 72 rfl dX12_readHeir_69 shc_149 ck_X12_122 cv_X12_setsHeir rfl (by decide) (Nat.le_of_ble_eq_true rfl) (C_X12_setsHeir (g := g) hw4) rfl ?_
    refine E_aload_n (M := mX12_readHeir) 73 rfl dX12_readHeir_72 rfl 1 rfl ?_
    refine E_gR (M := mX12_readHeir) 150 76 rfl dX12_readHeir_73 shc_149 fl_X12_13 rfl (by decide) (by decide) ?_
    refine E_iconst (M := mX12_readHeir) (v := 2) 77 rfl dX12_readHeir_76 (by decide) ?_
    refine E_dup2 (M := mX12_readHeir) 78 rfl dX12_readHeir_77 rfl rfl ?_
    replace h := Option.bind_eq_some_iff.mp h
    obtain ⟨v5, hv5, h⟩ := h
    refine E_ldI (M := mX12_readHeir) 79 rfl dX12_readHeir_78 shc_150 hv5 ?_
    refine E_iconst (M := mX12_readHeir) (v := 1) 80 rfl dX12_readHeir_79 (by decide) ?_
    refine E_iadd (M := mX12_readHeir) 81 rfl dX12_readHeir_80 ?_
    replace h := Option.bind_eq_some_iff.mp h
    obtain ⟨I6, hI6, h⟩ := h
    refine E_stI (M := mX12_readHeir) 82 rfl dX12_readHeir_81 shc_150 hI6 ?_
    refine E_iconst (M := mX12_readHeir) (v := 1) 83 rfl dX12_readHeir_82 (by decide) ?_
    cases h
    exact E_zret (M := mX12_readHeir) (x := true) rfl dX12_readHeir_83
  · rw [if_neg c1] at h
    refine E_iconst (M := mX12_readHeir) (v := 0) 50 rfl dX12_readHeir_49 (by decide) ?_
    cases h
    exact E_zret (M := mX12_readHeir) (x := false) rfl dX12_readHeir_50
def f_X12_readHeir_20 (I : MI) (L : ML) : Option (Bool × MI × ML) := some (false, I, L)
set_option maxRecDepth 100000 in
theorem S_X12_readHeir_20 {g : Gx} (I : MI) (L : ML) (res : Bool × MI × ML) (h : f_X12_readHeir_20 I L = some res) : E g 8 0 mX12_readHeir 20 [] [] (I, L) (.inl (some (.int (bI res.1)))) (res.2.1, res.2.2) := by
  unfold f_X12_readHeir_20 at h
  refine E_iconst (M := mX12_readHeir) (v := 0) 21 rfl dX12_readHeir_20 (by decide) ?_
  cases h
  exact E_zret (M := mX12_readHeir) (x := false) rfl dX12_readHeir_21
def f_X12_readHeir (I : MI) (L : ML) : Option (Bool × MI × ML) := Option.bind (f_X12_heirs I L) fun v1 => if v1 = 6 then (f_X12_readHeir_20 I L) else (Option.bind (f_X12_needs 43 I L) fun w3 => if w3.1 = true then (Option.bind (f_X12_roomTold w3.2.1 w3.2.2) fun w5 => if 0 ≤ w5.1 then (Option.bind (f_X12_after 44 1 50 w5.2.1 w5.2.2) fun w7 => f_X12_readHeir_44 v1 w5.1 w7.1 w7.2.1 w7.2.2) else (f_X12_readHeir_44 v1 w5.1 ((-1)) w5.2.1 w5.2.2)) else (f_X12_readHeir_20 w3.2.1 w3.2.2))
set_option maxRecDepth 100000 in
theorem S_X12_readHeir {g : Gx} (I : MI) (L : ML) (res : Bool × MI × ML) (h : f_X12_readHeir I L = some res) : E g 8 0 mX12_readHeir 0 [(0, .ref 149)] [] (I, L) (.inl (some (.int (bI res.1)))) (res.2.1, res.2.2) := by
  unfold f_X12_readHeir at h
  refine E_aload_n (M := mX12_readHeir) 1 rfl dX12_readHeir_0 rfl 0 rfl ?_
  replace h := Option.bind_eq_some_iff.mp h
  obtain ⟨v1, hv1, h⟩ := h
  refine E_cV1 (M := mX12_readHeir) (As := []) 4 rfl dX12_readHeir_1 shc_149 ck_X12_64 cv_X12_heirs rfl (by decide) (Nat.le_of_ble_eq_true rfl) (C_X12_heirs (g := g) hv1) rfl ?_
  refine E_istore_n (M := mX12_readHeir) (lv' := [(1, .int v1), (0, .ref 149)]) 5 rfl dX12_readHeir_4 rfl (Nat.le_of_ble_eq_true rfl) rfl ?_
  refine E_iload_n (M := mX12_readHeir) 6 rfl dX12_readHeir_5 rfl 0 rfl ?_
  refine E_bipush (M := mX12_readHeir) (v := 6) 8 rfl dX12_readHeir_6 (by decide) ?_
  refine E_icmp_eq (M := mX12_readHeir) 20 11 (by decide) rfl dX12_readHeir_8 (fun c2 => ?_) (fun c2 => ?_)
  · rw [if_pos c2] at h
    refine E_sub (M := mX12_readHeir) (lv' := []) [] rfl ?_
    exact S_X12_readHeir_20 I L _ h
  · rw [if_neg c2] at h
    refine E_aload_n (M := mX12_readHeir) 12 rfl dX12_readHeir_11 rfl 1 rfl ?_
    refine E_ldcS (M := mX12_readHeir) 43 (by decide) 14 rfl dX12_readHeir_12 rfl ?_
    replace h := Option.bind_eq_some_iff.mp h
    obtain ⟨w3, hw3, h⟩ := h
    refine E_cV1 (M := mX12_readHeir) (As := [.ref (100000 + 43)]) 17 rfl dX12_readHeir_14 shc_149 ck_X12_105 cv_X12_needs rfl (by decide) (Nat.le_of_ble_eq_true rfl) (C_X12_needs (g := g) (by decide) hw3) rfl ?_
    refine E_if_neB (M := mX12_readHeir) 22 20 (by decide) rfl dX12_readHeir_17 (fun c4 => ?_) (fun c4 => ?_)
    · rw [if_pos c4] at h
      refine E_aload_n (M := mX12_readHeir) 23 rfl dX12_readHeir_22 rfl 1 rfl ?_
      replace h := Option.bind_eq_some_iff.mp h
      obtain ⟨w5, hw5, h⟩ := h
      refine E_cV1 (M := mX12_readHeir) (As := []) 26 rfl dX12_readHeir_23 shc_149 ck_X12_112 cv_X12_roomTold rfl (by decide) (Nat.le_of_ble_eq_true rfl) (C_X12_roomTold (g := g) hw5) rfl ?_
      refine E_istore_n (M := mX12_readHeir) (lv' := [(2, .int w5.1), (1, .int v1), (0, .ref 149)]) 27 rfl dX12_readHeir_26 rfl (Nat.le_of_ble_eq_true rfl) rfl ?_
      refine E_iload_n (M := mX12_readHeir) 28 rfl dX12_readHeir_27 rfl 0 rfl ?_
      refine E_if_ge (M := mX12_readHeir) 35 31 (by decide) rfl dX12_readHeir_28 (fun c6 => ?_) (fun c6 => ?_)
      · rw [if_pos c6] at h
        refine E_aload_n (M := mX12_readHeir) 36 rfl dX12_readHeir_35 rfl 2 rfl ?_
        refine E_ldcS (M := mX12_readHeir) 44 (by decide) 38 rfl dX12_readHeir_36 rfl ?_
        refine E_iconst (M := mX12_readHeir) (v := 1) 39 rfl dX12_readHeir_38 (by decide) ?_
        refine E_bipush (M := mX12_readHeir) (v := 50) 41 rfl dX12_readHeir_39 (by decide) ?_
        replace h := Option.bind_eq_some_iff.mp h
        obtain ⟨w7, hw7, h⟩ := h
        refine E_cV1 (M := mX12_readHeir) (As := [.ref (100000 + 44), .int 1, .int 50]) 44 rfl dX12_readHeir_41 shc_149 ck_X12_118 cv_X12_after rfl (by decide) (Nat.le_of_ble_eq_true rfl) (C_X12_after (g := g) (by decide) hw7) rfl ?_
        refine E_sub (M := mX12_readHeir) (lv' := [(0, .ref 149), (1, .int v1), (2, .int w5.1)]) [2, 1, 0] rfl ?_
        exact S_X12_readHeir_44 v1 w5.1 w7.1 w7.2.1 w7.2.2 _ h
      · rw [if_neg c6] at h
        refine E_iconst (M := mX12_readHeir) (v := (-1)) 32 rfl dX12_readHeir_31 (by decide) ?_
        refine E_goto (M := mX12_readHeir) 44 (by decide) dX12_readHeir_32 ?_
        refine E_sub (M := mX12_readHeir) (lv' := [(0, .ref 149), (1, .int v1), (2, .int w5.1)]) [2, 1, 0] rfl ?_
        exact S_X12_readHeir_44 v1 w5.1 ((-1)) w5.2.1 w5.2.2 _ h
    · rw [if_neg (by rw [c4]; decide)] at h
      refine E_sub (M := mX12_readHeir) (lv' := []) [] rfl ?_
      exact S_X12_readHeir_20 w3.2.1 w3.2.2 _ h
theorem C_X12_readHeir {g : Gx} {I : MI} {L : ML} {res : Bool × MI × ML} (h : f_X12_readHeir I L = some res) : Ent g 8 0 mX12_readHeir [.ref 149] (I, L) (.inl (some (.int (bI res.1)))) (res.2.1, res.2.2) := Ent_of (by decide +kernel) (Nat.le_of_ble_eq_true rfl) (S_X12_readHeir I L _ h)
def f_X12_readHours_2 : Nat → Int32 → MI → ML → Option (Int32 × MI × ML)
  | 0, _, _, _ => none
  | n + 1, x1, I, L => Option.bind (f_X12_number 0 23 I L) fun w1 => if 0 ≤ w1.1 then (Option.bind (f_X12_blanks w1.2.1 w1.2.2) fun w3 => Option.bind (f_X12_isAt 48 57 w3.1 w3.2) fun v4 => if v4 = true then (f_X12_readHours_2 n (x1 ||| (1 <<< (w1.1 &&& 31))) w3.1 w3.2) else (some (x1 ||| (1 <<< (w1.1 &&& 31)), w3.1, w3.2))) else (some ((-1), w1.2.1, w1.2.2))
set_option maxRecDepth 100000 in
theorem S_X12_readHours_2 {g : Gx} : ∀ (n : Nat) (x1 : Int32) (I : MI) (L : ML) (res : Int32 × MI × ML), f_X12_readHours_2 n x1 I L = some res → E g 4 0 mX12_readHours 2 [(0, .ref 149), (1, .int x1)] [] (I, L) (.inl (some (.int res.1))) (res.2.1, res.2.2) := by
  intro n
  induction n with
  | zero =>
    intros
    rename_i h
    cases h
  | succ n ih =>
    intro x1 I L res h
    rw [f_X12_readHours_2] at h
    refine E_aload_n (M := mX12_readHours) 3 rfl dX12_readHours_2 rfl 0 rfl ?_
    refine E_iconst (M := mX12_readHours) (v := 0) 4 rfl dX12_readHours_3 (by decide) ?_
    refine E_bipush (M := mX12_readHours) (v := 23) 6 rfl dX12_readHours_4 (by decide) ?_
    replace h := Option.bind_eq_some_iff.mp h
    obtain ⟨w1, hw1, h⟩ := h
    refine E_cV1 (M := mX12_readHours) (As := [.int 0, .int 23]) 9 rfl dX12_readHours_6 shc_149 ck_X12_108 cv_X12_number rfl (by decide) (Nat.le_of_ble_eq_true rfl) (C_X12_number (g := g) hw1) rfl ?_
    refine E_istore_n (M := mX12_readHours) (lv' := [(2, .int w1.1), (0, .ref 149), (1, .int x1)]) 10 rfl dX12_readHours_9 rfl (Nat.le_of_ble_eq_true rfl) rfl ?_
    refine E_iload_n (M := mX12_readHours) 11 rfl dX12_readHours_10 rfl 0 rfl ?_
    refine E_if_ge (M := mX12_readHours) 16 14 (by decide) rfl dX12_readHours_11 (fun c2 => ?_) (fun c2 => ?_)
    · rw [if_pos c2] at h
      refine E_iload_n (M := mX12_readHours) 17 rfl dX12_readHours_16 rfl 2 rfl ?_
      refine E_iconst (M := mX12_readHours) (v := 1) 18 rfl dX12_readHours_17 (by decide) ?_
      refine E_iload_n (M := mX12_readHours) 19 rfl dX12_readHours_18 rfl 0 rfl ?_
      refine E_ishl (M := mX12_readHours) 20 rfl dX12_readHours_19 ?_
      refine E_ior (M := mX12_readHours) 21 rfl dX12_readHours_20 ?_
      refine E_istore_n (M := mX12_readHours) (lv' := [(1, .int (x1 ||| (1 <<< (w1.1 &&& 31)))), (2, .int w1.1), (0, .ref 149)]) 22 rfl dX12_readHours_21 rfl (Nat.le_of_ble_eq_true rfl) rfl ?_
      refine E_aload_n (M := mX12_readHours) 23 rfl dX12_readHours_22 rfl 2 rfl ?_
      replace h := Option.bind_eq_some_iff.mp h
      obtain ⟨w3, hw3, h⟩ := h
      refine E_cV0 (M := mX12_readHours) (As := []) 26 rfl dX12_readHours_23 shc_149 ck_X12_86 cv_X12_blanks rfl (by decide) (Nat.le_of_ble_eq_true rfl) (C_X12_blanks (g := g) hw3) rfl ?_
      refine E_aload_n (M := mX12_readHours) 27 rfl dX12_readHours_26 rfl 2 rfl ?_
      refine E_bipush (M := mX12_readHours) (v := 48) 29 rfl dX12_readHours_27 (by decide) ?_
      refine E_bipush (M := mX12_readHours) (v := 57) 31 rfl dX12_readHours_29 (by decide) ?_
      replace h := Option.bind_eq_some_iff.mp h
      obtain ⟨v4, hv4, h⟩ := h
      refine E_cV1 (M := mX12_readHours) (As := [.int 48, .int 57]) 34 rfl dX12_readHours_31 shc_149 ck_X12_79 cv_X12_isAt rfl (by decide) (Nat.le_of_ble_eq_true rfl) (C_X12_isAt (g := g) hv4) rfl ?_
      refine E_if_neB (M := mX12_readHours) 2 37 (by decide) rfl dX12_readHours_34 (fun c5 => ?_) (fun c5 => ?_)
      · rw [if_pos c5] at h
        refine E_sub (M := mX12_readHours) (lv' := [(0, .ref 149), (1, .int (x1 ||| (1 <<< (w1.1 &&& 31))))]) [2, 0] rfl ?_
        exact ih (x1 ||| (1 <<< (w1.1 &&& 31))) w3.1 w3.2 _ h
      · rw [if_neg (by rw [c5]; decide)] at h
        refine E_iload_n (M := mX12_readHours) 38 rfl dX12_readHours_37 rfl 0 rfl ?_
        cases h
        exact E_iret (M := mX12_readHours) rfl dX12_readHours_38
    · rw [if_neg c2] at h
      refine E_iconst (M := mX12_readHours) (v := (-1)) 15 rfl dX12_readHours_14 (by decide) ?_
      cases h
      exact E_iret (M := mX12_readHours) rfl dX12_readHours_15
def f_X12_readHours (I : MI) (L : ML) : Option (Int32 × MI × ML) := f_X12_readHours_2 FU 0 I L
set_option maxRecDepth 100000 in
theorem S_X12_readHours {g : Gx} (I : MI) (L : ML) (res : Int32 × MI × ML) (h : f_X12_readHours I L = some res) : E g 4 0 mX12_readHours 0 [(0, .ref 149)] [] (I, L) (.inl (some (.int res.1))) (res.2.1, res.2.2) := by
  unfold f_X12_readHours at h
  refine E_iconst (M := mX12_readHours) (v := 0) 1 rfl dX12_readHours_0 (by decide) ?_
  refine E_istore_n (M := mX12_readHours) (lv' := [(1, .int 0), (0, .ref 149)]) 2 rfl dX12_readHours_1 rfl (Nat.le_of_ble_eq_true rfl) rfl ?_
  refine E_sub (M := mX12_readHours) (lv' := [(0, .ref 149), (1, .int 0)]) [1, 0] rfl ?_
  exact S_X12_readHours_2 FU 0 I L _ h
theorem C_X12_readHours {g : Gx} {I : MI} {L : ML} {res : Int32 × MI × ML} (h : f_X12_readHours I L = some res) : Ent g 4 0 mX12_readHours [.ref 149] (I, L) (.inl (some (.int res.1))) (res.2.1, res.2.2) := Ent_of (by decide +kernel) (Nat.le_of_ble_eq_true rfl) (S_X12_readHours I L _ h)
def f_X12_readNoise_196 : Nat → Int32 → Int32 → Int32 → Int32 → Int32 → Int32 → Int32 → Int32 → MI → ML → Option (Bool × MI × ML)
  | 0, _, _, _, _, _, _, _, _, _, _ => none
  | n + 1, x1, x2, x3, x4, x5, x6, x7, x8, I, L => if 10 ≤ x8 then (Option.bind (f_X12_sets x1 0 x2 I L) fun w2 => Option.bind (f_X12_sets x1 1 x4 w2.1 w2.2) fun w3 => Option.bind (f_X12_sets x1 2 x5 w3.1 w3.2) fun w4 => Option.bind (f_X12_sets x1 3 x6 w4.1 w4.2) fun w5 => Option.bind (f_X12_sets x1 4 x7 w5.1 w5.2) fun w6 => Option.bind (f_X12_sets x1 6 x3 w6.1 w6.2) fun w7 => Option.bind (f_X12_sets x1 7 ((-1)) w7.1 w7.2) fun w8 => Option.bind (ldI w8.1 150 2143 3) fun v9 => Option.bind (stI w8.1 150 2143 3 (v9 + 1)) fun I10 => some (true, I10, w8.2)) else (Option.bind (f_X12_sets x1 x8 0 I L) fun w11 => f_X12_readNoise_196 n x1 x2 x3 x4 x5 x6 x7 (x8 + 1) w11.1 w11.2)
set_option maxRecDepth 100000 in
theorem S_X12_readNoise_196 {g : Gx} : ∀ (n : Nat) (x1 : Int32) (x2 : Int32) (x3 : Int32) (x4 : Int32) (x5 : Int32) (x6 : Int32) (x7 : Int32) (x8 : Int32) (I : MI) (L : ML) (res : Bool × MI × ML), f_X12_readNoise_196 n x1 x2 x3 x4 x5 x6 x7 x8 I L = some res → E g 8 0 mX12_readNoise 196 [(0, .ref 149), (1, .int x1), (2, .int x2), (3, .int x3), (4, .int x4), (5, .int x5), (6, .int x6), (7, .int x7), (8, .int x8)] [] (I, L) (.inl (some (.int (bI res.1)))) (res.2.1, res.2.2) := by
  intro n
  induction n with
  | zero =>
    intros
    rename_i h
    cases h
  | succ n ih =>
    intro x1 x2 x3 x4 x5 x6 x7 x8 I L res h
    rw [f_X12_readNoise_196] at h
    refine E_iload (M := mX12_readNoise) 198 rfl dX12_readNoise_196 8 rfl ?_
    refine E_bipush (M := mX12_readNoise) (v := 10) 200 rfl dX12_readNoise_198 (by decide) ?_
    refine E_icmp_ge (M := mX12_readNoise) 217 203 (by decide) rfl dX12_readNoise_200 (fun c1 => ?_) (fun c1 => ?_)
    · rw [if_pos c1] at h
      refine E_aload_n (M := mX12_readNoise) 218 rfl dX12_readNoise_217 rfl 0 rfl ?_
      refine E_iload_n (M := mX12_readNoise) 219 rfl dX12_readNoise_218 rfl 1 rfl ?_
      refine E_iconst (M := mX12_readNoise) (v := 0) 220 rfl dX12_readNoise_219 (by decide) ?_
      refine E_iload_n (M := mX12_readNoise) 221 rfl dX12_readNoise_220 rfl 2 rfl ?_
      replace h := Option.bind_eq_some_iff.mp h
      obtain ⟨w2, hw2, h⟩ := h
      refine E_cV0 (M := mX12_readNoise) (As := [.int x1, .int 0, .int x2]) 224 rfl dX12_readNoise_221 shc_149 ck_X12_143 cv_X12_sets rfl (by decide) (Nat.le_of_ble_eq_true rfl) (C_X12_sets (g := g) hw2) rfl ?_
      refine E_aload_n (M := mX12_readNoise) 225 rfl dX12_readNoise_224 rfl 0 rfl ?_
      refine E_iload_n (M := mX12_readNoise) 226 rfl dX12_readNoise_225 rfl 1 rfl ?_
      refine E_iconst (M := mX12_readNoise) (v := 1) 227 rfl dX12_readNoise_226 (by decide) ?_
      refine E_iload (M := mX12_readNoise) 229 rfl dX12_readNoise_227 4 rfl ?_
      replace h := Option.bind_eq_some_iff.mp h
      obtain ⟨w3, hw3, h⟩ := h
      refine E_cV0 (M := mX12_readNoise) (As := [.int x1, .int 1, .int x4]) 232 rfl dX12_readNoise_229 shc_149 ck_X12_143 cv_X12_sets rfl (by decide) (Nat.le_of_ble_eq_true rfl) (C_X12_sets (g := g) hw3) rfl ?_
      refine E_aload_n (M := mX12_readNoise) 233 rfl dX12_readNoise_232 rfl 0 rfl ?_
      refine E_iload_n (M := mX12_readNoise) 234 rfl dX12_readNoise_233 rfl 1 rfl ?_
      refine E_iconst (M := mX12_readNoise) (v := 2) 235 rfl dX12_readNoise_234 (by decide) ?_
      refine E_iload (M := mX12_readNoise) 237 rfl dX12_readNoise_235 5 rfl ?_
      replace h := Option.bind_eq_some_iff.mp h
      obtain ⟨w4, hw4, h⟩ := h
      refine E_cV0 (M := mX12_readNoise) (As := [.int x1, .int 2, .int x5]) 240 rfl dX12_readNoise_237 shc_149 ck_X12_143 cv_X12_sets rfl (by decide) (Nat.le_of_ble_eq_true rfl) (C_X12_sets (g := g) hw4) rfl ?_
      refine E_aload_n (M := mX12_readNoise) 241 rfl dX12_readNoise_240 rfl 0 rfl ?_
      refine E_iload_n (M := mX12_readNoise) 242 rfl dX12_readNoise_241 rfl 1 rfl ?_
      refine E_iconst (M := mX12_readNoise) (v := 3) 243 rfl dX12_readNoise_242 (by decide) ?_
      refine E_iload (M := mX12_readNoise) 245 rfl dX12_readNoise_243 6 rfl ?_
      replace h := Option.bind_eq_some_iff.mp h
      obtain ⟨w5, hw5, h⟩ := h
      refine E_cV0 (M := mX12_readNoise) (As := [.int x1, .int 3, .int x6]) 248 rfl dX12_readNoise_245 shc_149 ck_X12_143 cv_X12_sets rfl (by decide) (Nat.le_of_ble_eq_true rfl) (C_X12_sets (g := g) hw5) rfl ?_
      refine E_aload_n (M := mX12_readNoise) 249 rfl dX12_readNoise_248 rfl 0 rfl ?_
      refine E_iload_n (M := mX12_readNoise) 250 rfl dX12_readNoise_249 rfl 1 rfl ?_
      refine E_iconst (M := mX12_readNoise) (v := 4) 251 rfl dX12_readNoise_250 (by decide) ?_
      refine E_iload (M := mX12_readNoise) 253 rfl dX12_readNoise_251 7 rfl ?_
      replace h := Option.bind_eq_some_iff.mp h
      obtain ⟨w6, hw6, h⟩ := h
      refine E_cV0 (M := mX12_readNoise) (As := [.int x1, .int 4, .int x7]) 256 rfl dX12_readNoise_253 shc_149 ck_X12_143 cv_X12_sets rfl (by decide) (Nat.le_of_ble_eq_true rfl) (C_X12_sets (g := g) hw6) rfl ?_
      refine E_aload_n (M := mX12_readNoise) 257 rfl dX12_readNoise_256 rfl 0 rfl ?_
      refine E_iload_n (M := mX12_readNoise) 258 rfl dX12_readNoise_257 rfl 1 rfl ?_
      refine E_bipush (M := mX12_readNoise) (v := 6) 260 rfl dX12_readNoise_258 (by decide) ?_
      refine E_iload_n (M := mX12_readNoise) 261 rfl dX12_readNoise_260 rfl 3 rfl ?_
      replace h := Option.bind_eq_some_iff.mp h
      obtain ⟨w7, hw7, h⟩ := h
      refine E_cV0 (M := mX12_readNoise) (As := [.int x1, .int 6, .int x3]) 264 rfl dX12_readNoise_261 shc_149 ck_X12_143 cv_X12_sets rfl (by decide) (Nat.le_of_ble_eq_true rfl) (C_X12_sets (g := g) hw7) rfl ?_
      refine E_aload_n (M := mX12_readNoise) 265 rfl dX12_readNoise_264 rfl 0 rfl ?_
      refine E_iload_n (M := mX12_readNoise) 266 rfl dX12_readNoise_265 rfl 1 rfl ?_
      refine E_bipush (M := mX12_readNoise) (v := 7) 268 rfl dX12_readNoise_266 (by decide) ?_
      refine E_iconst (M := mX12_readNoise) (v := (-1)) 269 rfl dX12_readNoise_268 (by decide) ?_
      replace h := Option.bind_eq_some_iff.mp h
      obtain ⟨w8, hw8, h⟩ := h
      refine E_cV0 (M := mX12_readNoise) (As := [.int x1, .int 7, .int ((-1))]) 272 rfl dX12_readNoise_269 shc_149 ck_X12_143 cv_X12_sets rfl (by decide) (Nat.le_of_ble_eq_true rfl) (C_X12_sets (g := g) hw8) rfl ?_
      refine E_aload_n (M := mX12_readNoise) 273 rfl dX12_readNoise_272 rfl 0 rfl ?_
      refine E_gR (M := mX12_readNoise) 150 276 rfl dX12_readNoise_273 shc_149 fl_X12_13 rfl (by decide) (by decide) ?_
      refine E_iconst (M := mX12_readNoise) (v := 3) 277 rfl dX12_readNoise_276 (by decide) ?_
      refine E_dup2 (M := mX12_readNoise) 278 rfl dX12_readNoise_277 rfl rfl ?_
      replace h := Option.bind_eq_some_iff.mp h
      obtain ⟨v9, hv9, h⟩ := h
      refine E_ldI (M := mX12_readNoise) 279 rfl dX12_readNoise_278 shc_150 hv9 ?_
      refine E_iconst (M := mX12_readNoise) (v := 1) 280 rfl dX12_readNoise_279 (by decide) ?_
      refine E_iadd (M := mX12_readNoise) 281 rfl dX12_readNoise_280 ?_
      replace h := Option.bind_eq_some_iff.mp h
      obtain ⟨I10, hI10, h⟩ := h
      refine E_stI (M := mX12_readNoise) 282 rfl dX12_readNoise_281 shc_150 hI10 ?_
      refine E_iconst (M := mX12_readNoise) (v := 1) 283 rfl dX12_readNoise_282 (by decide) ?_
      cases h
      exact E_zret (M := mX12_readNoise) (x := true) rfl dX12_readNoise_283
    · rw [if_neg c1] at h
      refine E_aload_n (M := mX12_readNoise) 204 rfl dX12_readNoise_203 rfl 0 rfl ?_
      refine E_iload_n (M := mX12_readNoise) 205 rfl dX12_readNoise_204 rfl 1 rfl ?_
      refine E_iload (M := mX12_readNoise) 207 rfl dX12_readNoise_205 8 rfl ?_
      refine E_iconst (M := mX12_readNoise) (v := 0) 208 rfl dX12_readNoise_207 (by decide) ?_
      replace h := Option.bind_eq_some_iff.mp h
      obtain ⟨w11, hw11, h⟩ := h
      refine E_cV0 (M := mX12_readNoise) (As := [.int x1, .int x8, .int 0]) 211 rfl dX12_readNoise_208 shc_149 ck_X12_143 cv_X12_sets rfl (by decide) (Nat.le_of_ble_eq_true rfl) (C_X12_sets (g := g) hw11) rfl ?_
      refine E_iinc (M := mX12_readNoise) (j := 8) (v := x8 + 1) (lv' := [(8, .int (x8 + 1)), (0, .ref 149), (1, .int x1), (2, .int x2), (3, .int x3), (4, .int x4), (5, .int x5), (6, .int x6), (7, .int x7)]) 214 rfl dX12_readNoise_211 rfl rfl (Nat.le_of_ble_eq_true rfl) rfl ?_
      refine E_goto (M := mX12_readNoise) 196 (by decide) dX12_readNoise_214 ?_
      refine E_sub (M := mX12_readNoise) (lv' := [(0, .ref 149), (1, .int x1), (2, .int x2), (3, .int x3), (4, .int x4), (5, .int x5), (6, .int x6), (7, .int x7), (8, .int (x8 + 1))]) [1, 2, 3, 4, 5, 6, 7, 8, 0] rfl ?_
      exact ih x1 x2 x3 x4 x5 x6 x7 (x8 + 1) w11.1 w11.2 _ h
def f_X12_readNoise_184 (x1 : Int32) (x2 : Int32) (x3 : Int32) (x4 : Int32) (x5 : Int32) (x6 : Int32) (y0 : Int32) (I : MI) (L : ML) : Option (Bool × MI × ML) := if 0 ≤ y0 then (f_X12_readNoise_196 FU x1 x2 x3 x4 x5 x6 y0 0 I L) else (some (false, I, L))
set_option maxRecDepth 100000 in
theorem S_X12_readNoise_184 {g : Gx} (x1 : Int32) (x2 : Int32) (x3 : Int32) (x4 : Int32) (x5 : Int32) (x6 : Int32) (y0 : Int32) (I : MI) (L : ML) (res : Bool × MI × ML) (h : f_X12_readNoise_184 x1 x2 x3 x4 x5 x6 y0 I L = some res) : E g 8 0 mX12_readNoise 184 [(0, .ref 149), (1, .int x1), (2, .int x2), (3, .int x3), (4, .int x4), (5, .int x5), (6, .int x6)] [.int y0] (I, L) (.inl (some (.int (bI res.1)))) (res.2.1, res.2.2) := by
  unfold f_X12_readNoise_184 at h
  refine E_istore (M := mX12_readNoise) (lv' := [(7, .int y0), (0, .ref 149), (1, .int x1), (2, .int x2), (3, .int x3), (4, .int x4), (5, .int x5), (6, .int x6)]) 186 rfl dX12_readNoise_184 (Nat.le_of_ble_eq_true rfl) rfl ?_
  refine E_iload (M := mX12_readNoise) 188 rfl dX12_readNoise_186 0 rfl ?_
  refine E_if_ge (M := mX12_readNoise) 193 191 (by decide) rfl dX12_readNoise_188 (fun c1 => ?_) (fun c1 => ?_)
  · rw [if_pos c1] at h
    refine E_iconst (M := mX12_readNoise) (v := 0) 194 rfl dX12_readNoise_193 (by decide) ?_
    refine E_istore (M := mX12_readNoise) (lv' := [(8, .int 0), (7, .int y0), (0, .ref 149), (1, .int x1), (2, .int x2), (3, .int x3), (4, .int x4), (5, .int x5), (6, .int x6)]) 196 rfl dX12_readNoise_194 (Nat.le_of_ble_eq_true rfl) rfl ?_
    refine E_sub (M := mX12_readNoise) (lv' := [(0, .ref 149), (1, .int x1), (2, .int x2), (3, .int x3), (4, .int x4), (5, .int x5), (6, .int x6), (7, .int y0), (8, .int 0)]) [2, 3, 4, 5, 6, 7, 8, 1, 0] rfl ?_
    exact S_X12_readNoise_196 FU x1 x2 x3 x4 x5 x6 y0 0 I L _ h
  · rw [if_neg c1] at h
    refine E_iconst (M := mX12_readNoise) (v := 0) 192 rfl dX12_readNoise_191 (by decide) ?_
    cases h
    exact E_zret (M := mX12_readNoise) (x := false) rfl dX12_readNoise_192
def f_X12_readNoise_164 (x1 : Int32) (x2 : Int32) (x3 : Int32) (x4 : Int32) (x5 : Int32) (y0 : Int32) (I : MI) (L : ML) : Option (Bool × MI × ML) := if 0 ≤ y0 then (Option.bind (f_X12_after 52 0 99 I L) fun w2 => f_X12_readNoise_184 x1 x2 x3 x4 x5 y0 w2.1 w2.2.1 w2.2.2) else (f_X12_readNoise_184 x1 x2 x3 x4 x5 y0 ((-1)) I L)
set_option maxRecDepth 100000 in
theorem S_X12_readNoise_164 {g : Gx} (x1 : Int32) (x2 : Int32) (x3 : Int32) (x4 : Int32) (x5 : Int32) (y0 : Int32) (I : MI) (L : ML) (res : Bool × MI × ML) (h : f_X12_readNoise_164 x1 x2 x3 x4 x5 y0 I L = some res) : E g 8 0 mX12_readNoise 164 [(0, .ref 149), (1, .int x1), (2, .int x2), (3, .int x3), (4, .int x4), (5, .int x5)] [.int y0] (I, L) (.inl (some (.int (bI res.1)))) (res.2.1, res.2.2) := by
  unfold f_X12_readNoise_164 at h
  refine E_istore (M := mX12_readNoise) (lv' := [(6, .int y0), (0, .ref 149), (1, .int x1), (2, .int x2), (3, .int x3), (4, .int x4), (5, .int x5)]) 166 rfl dX12_readNoise_164 (Nat.le_of_ble_eq_true rfl) rfl ?_
  refine E_iload (M := mX12_readNoise) 168 rfl dX12_readNoise_166 0 rfl ?_
  refine E_if_ge (M := mX12_readNoise) 175 171 (by decide) rfl dX12_readNoise_168 (fun c1 => ?_) (fun c1 => ?_)
  · rw [if_pos c1] at h
    refine E_aload_n (M := mX12_readNoise) 176 rfl dX12_readNoise_175 rfl 1 rfl ?_
    refine E_ldcS (M := mX12_readNoise) 52 (by decide) 178 rfl dX12_readNoise_176 rfl ?_
    refine E_iconst (M := mX12_readNoise) (v := 0) 179 rfl dX12_readNoise_178 (by decide) ?_
    refine E_bipush (M := mX12_readNoise) (v := 99) 181 rfl dX12_readNoise_179 (by decide) ?_
    replace h := Option.bind_eq_some_iff.mp h
    obtain ⟨w2, hw2, h⟩ := h
    refine E_cV1 (M := mX12_readNoise) (As := [.ref (100000 + 52), .int 0, .int 99]) 184 rfl dX12_readNoise_181 shc_149 ck_X12_118 cv_X12_after rfl (by decide) (Nat.le_of_ble_eq_true rfl) (C_X12_after (g := g) (by decide) hw2) rfl ?_
    refine E_sub (M := mX12_readNoise) (lv' := [(0, .ref 149), (1, .int x1), (2, .int x2), (3, .int x3), (4, .int x4), (5, .int x5), (6, .int y0)]) [1, 2, 3, 4, 5, 6, 0] rfl ?_
    exact S_X12_readNoise_184 x1 x2 x3 x4 x5 y0 w2.1 w2.2.1 w2.2.2 _ h
  · rw [if_neg c1] at h
    refine E_iconst (M := mX12_readNoise) (v := (-1)) 172 rfl dX12_readNoise_171 (by decide) ?_
    refine E_goto (M := mX12_readNoise) 184 (by decide) dX12_readNoise_172 ?_
    refine E_sub (M := mX12_readNoise) (lv' := [(0, .ref 149), (1, .int x1), (2, .int x2), (3, .int x3), (4, .int x4), (5, .int x5), (6, .int y0)]) [1, 2, 3, 4, 5, 6, 0] rfl ?_
    exact S_X12_readNoise_184 x1 x2 x3 x4 x5 y0 ((-1)) I L _ h
def f_X12_readNoise_144 (x1 : Int32) (x2 : Int32) (x3 : Int32) (x4 : Int32) (y0 : Int32) (I : MI) (L : ML) : Option (Bool × MI × ML) := if 0 ≤ y0 then (Option.bind (f_X12_after 51 1 99 I L) fun w2 => f_X12_readNoise_164 x1 x2 x3 x4 y0 w2.1 w2.2.1 w2.2.2) else (f_X12_readNoise_164 x1 x2 x3 x4 y0 ((-1)) I L)
set_option maxRecDepth 100000 in
theorem S_X12_readNoise_144 {g : Gx} (x1 : Int32) (x2 : Int32) (x3 : Int32) (x4 : Int32) (y0 : Int32) (I : MI) (L : ML) (res : Bool × MI × ML) (h : f_X12_readNoise_144 x1 x2 x3 x4 y0 I L = some res) : E g 8 0 mX12_readNoise 144 [(0, .ref 149), (1, .int x1), (2, .int x2), (3, .int x3), (4, .int x4)] [.int y0] (I, L) (.inl (some (.int (bI res.1)))) (res.2.1, res.2.2) := by
  unfold f_X12_readNoise_144 at h
  refine E_istore (M := mX12_readNoise) (lv' := [(5, .int y0), (0, .ref 149), (1, .int x1), (2, .int x2), (3, .int x3), (4, .int x4)]) 146 rfl dX12_readNoise_144 (Nat.le_of_ble_eq_true rfl) rfl ?_
  refine E_iload (M := mX12_readNoise) 148 rfl dX12_readNoise_146 0 rfl ?_
  refine E_if_ge (M := mX12_readNoise) 155 151 (by decide) rfl dX12_readNoise_148 (fun c1 => ?_) (fun c1 => ?_)
  · rw [if_pos c1] at h
    refine E_aload_n (M := mX12_readNoise) 156 rfl dX12_readNoise_155 rfl 1 rfl ?_
    refine E_ldcS (M := mX12_readNoise) 51 (by decide) 158 rfl dX12_readNoise_156 rfl ?_
    refine E_iconst (M := mX12_readNoise) (v := 1) 159 rfl dX12_readNoise_158 (by decide) ?_
    refine E_bipush (M := mX12_readNoise) (v := 99) 161 rfl dX12_readNoise_159 (by decide) ?_
    replace h := Option.bind_eq_some_iff.mp h
    obtain ⟨w2, hw2, h⟩ := h
    refine E_cV1 (M := mX12_readNoise) (As := [.ref (100000 + 51), .int 1, .int 99]) 164 rfl dX12_readNoise_161 shc_149 ck_X12_118 cv_X12_after rfl (by decide) (Nat.le_of_ble_eq_true rfl) (C_X12_after (g := g) (by decide) hw2) rfl ?_
    refine E_sub (M := mX12_readNoise) (lv' := [(0, .ref 149), (1, .int x1), (2, .int x2), (3, .int x3), (4, .int x4), (5, .int y0)]) [1, 2, 3, 4, 5, 0] rfl ?_
    exact S_X12_readNoise_164 x1 x2 x3 x4 y0 w2.1 w2.2.1 w2.2.2 _ h
  · rw [if_neg c1] at h
    refine E_iconst (M := mX12_readNoise) (v := (-1)) 152 rfl dX12_readNoise_151 (by decide) ?_
    refine E_goto (M := mX12_readNoise) 164 (by decide) dX12_readNoise_152 ?_
    refine E_sub (M := mX12_readNoise) (lv' := [(0, .ref 149), (1, .int x1), (2, .int x2), (3, .int x3), (4, .int x4), (5, .int y0)]) [1, 2, 3, 4, 5, 0] rfl ?_
    exact S_X12_readNoise_164 x1 x2 x3 x4 y0 ((-1)) I L _ h
def f_X12_readNoise_118 (I : MI) (L : ML) : Option (Bool × MI × ML) := some (false, I, L)
set_option maxRecDepth 100000 in
theorem S_X12_readNoise_118 {g : Gx} (I : MI) (L : ML) (res : Bool × MI × ML) (h : f_X12_readNoise_118 I L = some res) : E g 8 0 mX12_readNoise 118 [] [] (I, L) (.inl (some (.int (bI res.1)))) (res.2.1, res.2.2) := by
  unfold f_X12_readNoise_118 at h
  refine E_iconst (M := mX12_readNoise) (v := 0) 119 rfl dX12_readNoise_118 (by decide) ?_
  cases h
  exact E_zret (M := mX12_readNoise) (x := false) rfl dX12_readNoise_119
def f_X12_readNoise_104 (x1 : Int32) (x2 : Int32) (y0 : Int32) (I : MI) (L : ML) : Option (Bool × MI × ML) := if y0 < 0 then (f_X12_readNoise_118 I L) else (Option.bind (f_X12_needs 43 I L) fun w2 => if w2.1 = true then (Option.bind (f_X12_roomTold w2.2.1 w2.2.2) fun w4 => if 0 ≤ w4.1 then (Option.bind (f_X12_after 50 0 99 w4.2.1 w4.2.2) fun w6 => f_X12_readNoise_144 x1 x2 y0 w4.1 w6.1 w6.2.1 w6.2.2) else (f_X12_readNoise_144 x1 x2 y0 w4.1 ((-1)) w4.2.1 w4.2.2)) else (f_X12_readNoise_118 w2.2.1 w2.2.2))
set_option maxRecDepth 100000 in
theorem S_X12_readNoise_104 {g : Gx} (x1 : Int32) (x2 : Int32) (y0 : Int32) (I : MI) (L : ML) (res : Bool × MI × ML) (h : f_X12_readNoise_104 x1 x2 y0 I L = some res) : E g 8 0 mX12_readNoise 104 [(0, .ref 149), (1, .int x1), (2, .int x2)] [.int y0] (I, L) (.inl (some (.int (bI res.1)))) (res.2.1, res.2.2) := by
  unfold f_X12_readNoise_104 at h
  refine E_istore_n (M := mX12_readNoise) (lv' := [(3, .int y0), (0, .ref 149), (1, .int x1), (2, .int x2)]) 105 rfl dX12_readNoise_104 rfl (Nat.le_of_ble_eq_true rfl) rfl ?_
  refine E_iload_n (M := mX12_readNoise) 106 rfl dX12_readNoise_105 rfl 0 rfl ?_
  refine E_if_lt (M := mX12_readNoise) 118 109 (by decide) rfl dX12_readNoise_106 (fun c1 => ?_) (fun c1 => ?_)
  · rw [if_pos c1] at h
    refine E_sub (M := mX12_readNoise) (lv' := []) [] rfl ?_
    exact S_X12_readNoise_118 I L _ h
  · rw [if_neg c1] at h
    refine E_aload_n (M := mX12_readNoise) 110 rfl dX12_readNoise_109 rfl 1 rfl ?_
    refine E_ldcS (M := mX12_readNoise) 43 (by decide) 112 rfl dX12_readNoise_110 rfl ?_
    replace h := Option.bind_eq_some_iff.mp h
    obtain ⟨w2, hw2, h⟩ := h
    refine E_cV1 (M := mX12_readNoise) (As := [.ref (100000 + 43)]) 115 rfl dX12_readNoise_112 shc_149 ck_X12_105 cv_X12_needs rfl (by decide) (Nat.le_of_ble_eq_true rfl) (C_X12_needs (g := g) (by decide) hw2) rfl ?_
    refine E_if_neB (M := mX12_readNoise) 120 118 (by decide) rfl dX12_readNoise_115 (fun c3 => ?_) (fun c3 => ?_)
    · rw [if_pos c3] at h
      refine E_aload_n (M := mX12_readNoise) 121 rfl dX12_readNoise_120 rfl 1 rfl ?_
      replace h := Option.bind_eq_some_iff.mp h
      obtain ⟨w4, hw4, h⟩ := h
      refine E_cV1 (M := mX12_readNoise) (As := []) 124 rfl dX12_readNoise_121 shc_149 ck_X12_112 cv_X12_roomTold rfl (by decide) (Nat.le_of_ble_eq_true rfl) (C_X12_roomTold (g := g) hw4) rfl ?_
      refine E_istore (M := mX12_readNoise) (lv' := [(4, .int w4.1), (3, .int y0), (0, .ref 149), (1, .int x1), (2, .int x2)]) 126 rfl dX12_readNoise_124 (Nat.le_of_ble_eq_true rfl) rfl ?_
      refine E_iload (M := mX12_readNoise) 128 rfl dX12_readNoise_126 0 rfl ?_
      refine E_if_ge (M := mX12_readNoise) 135 131 (by decide) rfl dX12_readNoise_128 (fun c5 => ?_) (fun c5 => ?_)
      · rw [if_pos c5] at h
        refine E_aload_n (M := mX12_readNoise) 136 rfl dX12_readNoise_135 rfl 2 rfl ?_
        refine E_ldcS (M := mX12_readNoise) 50 (by decide) 138 rfl dX12_readNoise_136 rfl ?_
        refine E_iconst (M := mX12_readNoise) (v := 0) 139 rfl dX12_readNoise_138 (by decide) ?_
        refine E_bipush (M := mX12_readNoise) (v := 99) 141 rfl dX12_readNoise_139 (by decide) ?_
        replace h := Option.bind_eq_some_iff.mp h
        obtain ⟨w6, hw6, h⟩ := h
        refine E_cV1 (M := mX12_readNoise) (As := [.ref (100000 + 50), .int 0, .int 99]) 144 rfl dX12_readNoise_141 shc_149 ck_X12_118 cv_X12_after rfl (by decide) (Nat.le_of_ble_eq_true rfl) (C_X12_after (g := g) (by decide) hw6) rfl ?_
        refine E_sub (M := mX12_readNoise) (lv' := [(0, .ref 149), (1, .int x1), (2, .int x2), (3, .int y0), (4, .int w4.1)]) [2, 3, 4, 1, 0] rfl ?_
        exact S_X12_readNoise_144 x1 x2 y0 w4.1 w6.1 w6.2.1 w6.2.2 _ h
      · rw [if_neg c5] at h
        refine E_iconst (M := mX12_readNoise) (v := (-1)) 132 rfl dX12_readNoise_131 (by decide) ?_
        refine E_goto (M := mX12_readNoise) 144 (by decide) dX12_readNoise_132 ?_
        refine E_sub (M := mX12_readNoise) (lv' := [(0, .ref 149), (1, .int x1), (2, .int x2), (3, .int y0), (4, .int w4.1)]) [2, 3, 4, 1, 0] rfl ?_
        exact S_X12_readNoise_144 x1 x2 y0 w4.1 ((-1)) w4.2.1 w4.2.2 _ h
    · rw [if_neg (by rw [c3]; decide)] at h
      refine E_sub (M := mX12_readNoise) (lv' := []) [] rfl ?_
      exact S_X12_readNoise_118 w2.2.1 w2.2.2 _ h
def f_X12_readNoise_70 (x1 : Int32) (y0 : Int32) (I : MI) (L : ML) : Option (Bool × MI × ML) := if 0 ≤ y0 then (if y0 = 0 then (Option.bind (f_X12_readHours I L) fun w5 => f_X12_readNoise_104 x1 y0 w5.1 w5.2.1 w5.2.2) else (if y0 = 2 then (Option.bind (f_X12_number 0 100 I L) fun w4 => f_X12_readNoise_104 x1 y0 w4.1 w4.2.1 w4.2.2) else (f_X12_readNoise_104 x1 y0 0 I L))) else (some (false, I, L))
set_option maxRecDepth 100000 in
theorem S_X12_readNoise_70 {g : Gx} (x1 : Int32) (y0 : Int32) (I : MI) (L : ML) (res : Bool × MI × ML) (h : f_X12_readNoise_70 x1 y0 I L = some res) : E g 8 0 mX12_readNoise 70 [(0, .ref 149), (1, .int x1)] [.int y0] (I, L) (.inl (some (.int (bI res.1)))) (res.2.1, res.2.2) := by
  unfold f_X12_readNoise_70 at h
  refine E_istore_n (M := mX12_readNoise) (lv' := [(2, .int y0), (0, .ref 149), (1, .int x1)]) 71 rfl dX12_readNoise_70 rfl (Nat.le_of_ble_eq_true rfl) rfl ?_
  refine E_iload_n (M := mX12_readNoise) 72 rfl dX12_readNoise_71 rfl 0 rfl ?_
  refine E_if_ge (M := mX12_readNoise) 77 75 (by decide) rfl dX12_readNoise_72 (fun c1 => ?_) (fun c1 => ?_)
  · rw [if_pos c1] at h
    refine E_iload_n (M := mX12_readNoise) 78 rfl dX12_readNoise_77 rfl 0 rfl ?_
    refine E_if_ne (M := mX12_readNoise) 88 81 (by decide) rfl dX12_readNoise_78 (fun c2 => ?_) (fun c2 => ?_)
    · rw [if_neg c2] at h
      refine E_iload_n (M := mX12_readNoise) 89 rfl dX12_readNoise_88 rfl 0 rfl ?_
      refine E_iconst (M := mX12_readNoise) (v := 2) 90 rfl dX12_readNoise_89 (by decide) ?_
      refine E_icmp_ne (M := mX12_readNoise) 103 93 (by decide) rfl dX12_readNoise_90 (fun c3 => ?_) (fun c3 => ?_)
      · rw [if_neg c3] at h
        refine E_iconst (M := mX12_readNoise) (v := 0) 104 rfl dX12_readNoise_103 (by decide) ?_
        refine E_sub (M := mX12_readNoise) (lv' := [(0, .ref 149), (1, .int x1), (2, .int y0)]) [1, 2, 0] rfl ?_
        exact S_X12_readNoise_104 x1 y0 0 I L _ h
      · rw [if_pos c3] at h
        refine E_aload_n (M := mX12_readNoise) 94 rfl dX12_readNoise_93 rfl 1 rfl ?_
        refine E_iconst (M := mX12_readNoise) (v := 0) 95 rfl dX12_readNoise_94 (by decide) ?_
        refine E_bipush (M := mX12_readNoise) (v := 100) 97 rfl dX12_readNoise_95 (by decide) ?_
        replace h := Option.bind_eq_some_iff.mp h
        obtain ⟨w4, hw4, h⟩ := h
        refine E_cV1 (M := mX12_readNoise) (As := [.int 0, .int 100]) 100 rfl dX12_readNoise_97 shc_149 ck_X12_108 cv_X12_number rfl (by decide) (Nat.le_of_ble_eq_true rfl) (C_X12_number (g := g) hw4) rfl ?_
        refine E_goto (M := mX12_readNoise) 104 (by decide) dX12_readNoise_100 ?_
        refine E_sub (M := mX12_readNoise) (lv' := [(0, .ref 149), (1, .int x1), (2, .int y0)]) [1, 2, 0] rfl ?_
        exact S_X12_readNoise_104 x1 y0 w4.1 w4.2.1 w4.2.2 _ h
    · rw [if_pos c2] at h
      refine E_aload_n (M := mX12_readNoise) 82 rfl dX12_readNoise_81 rfl 1 rfl ?_
      replace h := Option.bind_eq_some_iff.mp h
      obtain ⟨w5, hw5, h⟩ := h
      refine E_cV1 (M := mX12_readNoise) (As := []) 85 rfl dX12_readNoise_82 shc_149 ck_X12_134 cv_X12_readHours rfl (by decide) (Nat.le_of_ble_eq_true rfl) (C_X12_readHours (g := g) hw5) rfl ?_
      refine E_goto (M := mX12_readNoise) 104 (by decide) dX12_readNoise_85 ?_
      refine E_sub (M := mX12_readNoise) (lv' := [(0, .ref 149), (1, .int x1), (2, .int y0)]) [1, 2, 0] rfl ?_
      exact S_X12_readNoise_104 x1 y0 w5.1 w5.2.1 w5.2.2 _ h
  · rw [if_neg c1] at h
    refine E_iconst (M := mX12_readNoise) (v := 0) 76 rfl dX12_readNoise_75 (by decide) ?_
    cases h
    exact E_zret (M := mX12_readNoise) (x := false) rfl dX12_readNoise_76
def f_X12_readNoise (I : MI) (L : ML) : Option (Bool × MI × ML) := Option.bind (f_X12_noises I L) fun v1 => if v1 = 12 then (some (false, I, L)) else (Option.bind (f_X12_letters I L) fun w3 => Option.bind (f_X12_isWord 46 w3.1 w3.2) fun v4 => if v4 = true then (f_X12_readNoise_70 v1 0 w3.1 w3.2) else (Option.bind (f_X12_isWord 47 w3.1 w3.2) fun v6 => if v6 = true then (f_X12_readNoise_70 v1 1 w3.1 w3.2) else (Option.bind (f_X12_isWord 48 w3.1 w3.2) fun v8 => if v8 = true then (f_X12_readNoise_70 v1 2 w3.1 w3.2) else (Option.bind (f_X12_isWord 49 w3.1 w3.2) fun v10 => if v10 = true then (f_X12_readNoise_70 v1 3 w3.1 w3.2) else (f_X12_readNoise_70 v1 ((-1)) w3.1 w3.2)))))
set_option maxRecDepth 100000 in
theorem S_X12_readNoise {g : Gx} (I : MI) (L : ML) (res : Bool × MI × ML) (h : f_X12_readNoise I L = some res) : E g 8 0 mX12_readNoise 0 [(0, .ref 149)] [] (I, L) (.inl (some (.int (bI res.1)))) (res.2.1, res.2.2) := by
  unfold f_X12_readNoise at h
  refine E_aload_n (M := mX12_readNoise) 1 rfl dX12_readNoise_0 rfl 0 rfl ?_
  replace h := Option.bind_eq_some_iff.mp h
  obtain ⟨v1, hv1, h⟩ := h
  refine E_cV1 (M := mX12_readNoise) (As := []) 4 rfl dX12_readNoise_1 shc_149 ck_X12_67 cv_X12_noises rfl (by decide) (Nat.le_of_ble_eq_true rfl) (C_X12_noises (g := g) hv1) rfl ?_
  refine E_istore_n (M := mX12_readNoise) (lv' := [(1, .int v1), (0, .ref 149)]) 5 rfl dX12_readNoise_4 rfl (Nat.le_of_ble_eq_true rfl) rfl ?_
  refine E_iload_n (M := mX12_readNoise) 6 rfl dX12_readNoise_5 rfl 0 rfl ?_
  refine E_bipush (M := mX12_readNoise) (v := 12) 8 rfl dX12_readNoise_6 (by decide) ?_
  refine E_icmp_ne (M := mX12_readNoise) 13 11 (by decide) rfl dX12_readNoise_8 (fun c2 => ?_) (fun c2 => ?_)
  · rw [if_neg c2] at h
    refine E_aload_n (M := mX12_readNoise) 14 rfl dX12_readNoise_13 rfl 1 rfl ?_
    replace h := Option.bind_eq_some_iff.mp h
    obtain ⟨w3, hw3, h⟩ := h
    refine E_cV0 (M := mX12_readNoise) (As := []) 17 rfl dX12_readNoise_14 shc_149 ck_X12_98 cv_X12_letters rfl (by decide) (Nat.le_of_ble_eq_true rfl) (C_X12_letters (g := g) hw3) rfl ?_
    refine E_aload_n (M := mX12_readNoise) 18 rfl dX12_readNoise_17 rfl 1 rfl ?_
    refine E_ldcS (M := mX12_readNoise) 46 (by decide) 20 rfl dX12_readNoise_18 rfl ?_
    replace h := Option.bind_eq_some_iff.mp h
    obtain ⟨v4, hv4, h⟩ := h
    refine E_cV1 (M := mX12_readNoise) (As := [.ref (100000 + 46)]) 23 rfl dX12_readNoise_20 shc_149 ck_X12_101 cv_X12_isWord rfl (by decide) (Nat.le_of_ble_eq_true rfl) (C_X12_isWord (g := g) (by decide) hv4) rfl ?_
    refine E_if_eqB (M := mX12_readNoise) 30 26 (by decide) rfl dX12_readNoise_23 (fun c5 => ?_) (fun c5 => ?_)
    · rw [if_neg (by rw [c5]; decide)] at h
      refine E_aload_n (M := mX12_readNoise) 31 rfl dX12_readNoise_30 rfl 1 rfl ?_
      refine E_ldcS (M := mX12_readNoise) 47 (by decide) 33 rfl dX12_readNoise_31 rfl ?_
      replace h := Option.bind_eq_some_iff.mp h
      obtain ⟨v6, hv6, h⟩ := h
      refine E_cV1 (M := mX12_readNoise) (As := [.ref (100000 + 47)]) 36 rfl dX12_readNoise_33 shc_149 ck_X12_101 cv_X12_isWord rfl (by decide) (Nat.le_of_ble_eq_true rfl) (C_X12_isWord (g := g) (by decide) hv6) rfl ?_
      refine E_if_eqB (M := mX12_readNoise) 43 39 (by decide) rfl dX12_readNoise_36 (fun c7 => ?_) (fun c7 => ?_)
      · rw [if_neg (by rw [c7]; decide)] at h
        refine E_aload_n (M := mX12_readNoise) 44 rfl dX12_readNoise_43 rfl 1 rfl ?_
        refine E_ldcS (M := mX12_readNoise) 48 (by decide) 46 rfl dX12_readNoise_44 rfl ?_
        replace h := Option.bind_eq_some_iff.mp h
        obtain ⟨v8, hv8, h⟩ := h
        refine E_cV1 (M := mX12_readNoise) (As := [.ref (100000 + 48)]) 49 rfl dX12_readNoise_46 shc_149 ck_X12_101 cv_X12_isWord rfl (by decide) (Nat.le_of_ble_eq_true rfl) (C_X12_isWord (g := g) (by decide) hv8) rfl ?_
        refine E_if_eqB (M := mX12_readNoise) 56 52 (by decide) rfl dX12_readNoise_49 (fun c9 => ?_) (fun c9 => ?_)
        · rw [if_neg (by rw [c9]; decide)] at h
          refine E_aload_n (M := mX12_readNoise) 57 rfl dX12_readNoise_56 rfl 1 rfl ?_
          refine E_ldcS (M := mX12_readNoise) 49 (by decide) 59 rfl dX12_readNoise_57 rfl ?_
          replace h := Option.bind_eq_some_iff.mp h
          obtain ⟨v10, hv10, h⟩ := h
          refine E_cV1 (M := mX12_readNoise) (As := [.ref (100000 + 49)]) 62 rfl dX12_readNoise_59 shc_149 ck_X12_101 cv_X12_isWord rfl (by decide) (Nat.le_of_ble_eq_true rfl) (C_X12_isWord (g := g) (by decide) hv10) rfl ?_
          refine E_if_eqB (M := mX12_readNoise) 69 65 (by decide) rfl dX12_readNoise_62 (fun c11 => ?_) (fun c11 => ?_)
          · rw [if_neg (by rw [c11]; decide)] at h
            refine E_iconst (M := mX12_readNoise) (v := (-1)) 70 rfl dX12_readNoise_69 (by decide) ?_
            refine E_sub (M := mX12_readNoise) (lv' := [(0, .ref 149), (1, .int v1)]) [1, 0] rfl ?_
            exact S_X12_readNoise_70 v1 ((-1)) w3.1 w3.2 _ h
          · rw [if_pos c11] at h
            refine E_iconst (M := mX12_readNoise) (v := 3) 66 rfl dX12_readNoise_65 (by decide) ?_
            refine E_goto (M := mX12_readNoise) 70 (by decide) dX12_readNoise_66 ?_
            refine E_sub (M := mX12_readNoise) (lv' := [(0, .ref 149), (1, .int v1)]) [1, 0] rfl ?_
            exact S_X12_readNoise_70 v1 3 w3.1 w3.2 _ h
        · rw [if_pos c9] at h
          refine E_iconst (M := mX12_readNoise) (v := 2) 53 rfl dX12_readNoise_52 (by decide) ?_
          refine E_goto (M := mX12_readNoise) 70 (by decide) dX12_readNoise_53 ?_
          refine E_sub (M := mX12_readNoise) (lv' := [(0, .ref 149), (1, .int v1)]) [1, 0] rfl ?_
          exact S_X12_readNoise_70 v1 2 w3.1 w3.2 _ h
      · rw [if_pos c7] at h
        refine E_iconst (M := mX12_readNoise) (v := 1) 40 rfl dX12_readNoise_39 (by decide) ?_
        refine E_goto (M := mX12_readNoise) 70 (by decide) dX12_readNoise_40 ?_
        refine E_sub (M := mX12_readNoise) (lv' := [(0, .ref 149), (1, .int v1)]) [1, 0] rfl ?_
        exact S_X12_readNoise_70 v1 1 w3.1 w3.2 _ h
    · rw [if_pos c5] at h
      refine E_iconst (M := mX12_readNoise) (v := 0) 27 rfl dX12_readNoise_26 (by decide) ?_
      refine E_goto (M := mX12_readNoise) 70 (by decide) dX12_readNoise_27 ?_
      refine E_sub (M := mX12_readNoise) (lv' := [(0, .ref 149), (1, .int v1)]) [1, 0] rfl ?_
      exact S_X12_readNoise_70 v1 0 w3.1 w3.2 _ h
  · rw [if_pos c2] at h
    refine E_iconst (M := mX12_readNoise) (v := 0) 12 rfl dX12_readNoise_11 (by decide) ?_
    cases h
    exact E_zret (M := mX12_readNoise) (x := false) rfl dX12_readNoise_12
theorem C_X12_readNoise {g : Gx} {I : MI} {L : ML} {res : Bool × MI × ML} (h : f_X12_readNoise I L = some res) : Ent g 8 0 mX12_readNoise [.ref 149] (I, L) (.inl (some (.int (bI res.1)))) (res.2.1, res.2.2) := Ent_of (by decide +kernel) (Nat.le_of_ble_eq_true rfl) (S_X12_readNoise I L _ h)
