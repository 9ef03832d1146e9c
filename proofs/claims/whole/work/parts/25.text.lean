theorem T_X3_addNoise {x0 : Nat} (hx0 : isH x0) {I : MI} {L : ML} {res : Nat × MI × ML} (h : f_X3_addNoise x0 I L = some res) : isN res.1 := by
  unfold f_X3_addNoise at h
  obtain ⟨I1, hI1, h⟩ := Option.bind_eq_some_iff.mp h
  obtain ⟨v, hv, h⟩ := Option.bind_eq_some_iff.mp h
  cases h
  exact isN_ld hx0 hv
def f_X4_begins_19 (x3 : Bool) (I : MI) (L : ML) : Option ((String ⊕ Bool) × MI × ML) := some (.inr x3, I, L)
set_option maxRecDepth 100000 in
theorem S_X4_begins_19 {g : Gx} (x3 : Bool) (I : MI) (L : ML) (res : (String ⊕ Bool) × MI × ML) (h : f_X4_begins_19 x3 I L = some res) : E g 7 (bS res.1) mX4_begins 19 [(3, .int (bI x3))] [] (I, L) (rB res.1) (res.2.1, res.2.2) := by
  unfold f_X4_begins_19 at h
  refine E_iload_n (M := mX4_begins) 20 rfl dX4_begins_19 rfl 0 rfl ?_
  cases h
  exact E_zret (M := mX4_begins) (x := x3) rfl dX4_begins_20
def f_X4_begins (x1 : Nat) (x2 : Bool) (I : MI) (L : ML) : Option ((String ⊕ Bool) × MI × ML) := Option.bind (f_X8_isWord x1 I L) fun v1 => if v1 = true then (Option.bind (f_X8_check x2 I L) fun w3 => xc w3 fun _ => Option.bind (f_X8_step w3.2.1 w3.2.2) fun w6 => f_X4_begins_19 v1 w6.1 w6.2) else (f_X4_begins_19 v1 I L)
set_option maxRecDepth 100000 in
theorem S_X4_begins {g : Gx} (x1 : Nat) (x2 : Bool) (hx1 : x1 < 66) (I : MI) (L : ML) (res : (String ⊕ Bool) × MI × ML) (h : f_X4_begins x1 x2 I L = some res) : E g 7 (bS res.1) mX4_begins 0 [(0, .ref 1), (1, .ref (100000 + x1)), (2, .int (bI x2))] [] (I, L) (rB res.1) (res.2.1, res.2.2) := by
  unfold f_X4_begins at h
  refine E_aload_n (M := mX4_begins) 1 rfl dX4_begins_0 rfl 0 rfl ?_
  refine E_aload_n (M := mX4_begins) 2 rfl dX4_begins_1 rfl 1 rfl ?_
  replace h := Option.bind_eq_some_iff.mp h
  obtain ⟨v1, hv1, h⟩ := h
  refine E_cV1 (M := mX4_begins) (As := [.ref (100000 + x1)]) 5 rfl dX4_begins_2 shc_1 ck_X4_90 cv_X8_isWord rfl (by decide) (Nat.le_of_ble_eq_true rfl) (C_X8_isWord (g := g) hx1 hv1) rfl ?_
  refine E_istore_n (M := mX4_begins) (lv' := [(3, .int (bI v1)), (0, .ref 1), (1, .ref (100000 + x1)), (2, .int (bI x2))]) 6 rfl dX4_begins_5 rfl (Nat.le_of_ble_eq_true rfl) rfl ?_
  refine E_iload_n (M := mX4_begins) 7 rfl dX4_begins_6 rfl 0 rfl ?_
  refine E_if_eqB (M := mX4_begins) 19 10 (by decide) rfl dX4_begins_7 (fun c2 => ?_) (fun c2 => ?_)
  · rw [if_neg (by rw [c2]; decide)] at h
    refine E_sub (M := mX4_begins) (lv' := [(3, .int (bI v1))]) [0] rfl ?_
    exact S_X4_begins_19 v1 I L _ h
  · rw [if_pos c2] at h
    refine E_aload_n (M := mX4_begins) 11 rfl dX4_begins_10 rfl 1 rfl ?_
    refine E_iload_n (M := mX4_begins) 12 rfl dX4_begins_11 rfl 3 rfl ?_
    replace h := Option.bind_eq_some_iff.mp h
    obtain ⟨w3, hw3, h⟩ := h
    replace h := xc_s h
    rcases h with ⟨ex4, hex4, rfl⟩ | ⟨v5, hv5, h⟩
    · have hc := (C_X8_check (g := g) hw3)
      rw [hex4] at hc
      exact E_callVX (M := mX4_begins) (As := [.int (bI x2)]) dX4_begins_12 shc_1 ck_X4_15 cv_X8_check rfl (by decide) (Nat.le_of_ble_eq_true rfl) hc rfl
    have hcv5 := (C_X8_check (g := g) hw3)
    rw [hv5] at hcv5
    refine E_cV0 (M := mX4_begins) (As := [.int (bI x2)]) 15 rfl dX4_begins_12 shc_1 ck_X4_15 cv_X8_check rfl (by decide) (Nat.le_of_ble_eq_true rfl) hcv5 rfl ?_
    refine E_aload_n (M := mX4_begins) 16 rfl dX4_begins_15 rfl 1 rfl ?_
    replace h := Option.bind_eq_some_iff.mp h
    obtain ⟨w6, hw6, h⟩ := h
    refine E_cV0 (M := mX4_begins) (As := []) 19 rfl dX4_begins_16 shc_1 ck_X4_94 cv_X8_step rfl (by decide) (Nat.le_of_ble_eq_true rfl) (C_X8_step (g := g) hw6) rfl ?_
    refine E_sub (M := mX4_begins) (lv' := [(3, .int (bI v1))]) [0] rfl ?_
    exact S_X4_begins_19 v1 w6.1 w6.2 _ h
theorem C_X4_begins {g : Gx} {x1 : Nat} {x2 : Bool} (hx1 : x1 < 66) {I : MI} {L : ML} {res : (String ⊕ Bool) × MI × ML} (h : f_X4_begins x1 x2 I L = some res) : Ent g 7 (bS res.1) mX4_begins [.ref 1, .ref (100000 + x1), .int (bI x2)] (I, L) (rB res.1) (res.2.1, res.2.2) := Ent_of (by decide +kernel) (Nat.le_of_ble_eq_true rfl) (S_X4_begins x1 x2 hx1 I L _ h)
def f_X4_readRoom (x1 : Nat) (I : MI) (L : ML) : Option ((String ⊕ Int32) × MI × ML) := Option.bind (f_X8_needNumber 0 ((I x1 0) - 1) I L) fun w1 => xc w1 fun v3 => some (.inr v3, w1.2.1, w1.2.2)
set_option maxRecDepth 100000 in
theorem S_X4_readRoom {g : Gx} (x1 : Nat) (hx1 : isH x1) (I : MI) (L : ML) (res : (String ⊕ Int32) × MI × ML) (h : f_X4_readRoom x1 I L = some res) : E g 8 (bS res.1) mX4_readRoom 0 [(0, .ref 1), (1, .ref x1)] [] (I, L) (rI res.1) (res.2.1, res.2.2) := by
  unfold f_X4_readRoom at h
  refine E_aload_n (M := mX4_readRoom) 1 rfl dX4_readRoom_0 rfl 0 rfl ?_
  refine E_iconst (M := mX4_readRoom) (v := 0) 2 rfl dX4_readRoom_1 (by decide) ?_
  refine E_aload_n (M := mX4_readRoom) 3 rfl dX4_readRoom_2 rfl 1 rfl ?_
  refine E_gI (M := mX4_readRoom) 6 rfl dX4_readRoom_3 (sh_H hx1) fl_X4_30 rfl ?_
  refine E_iconst (M := mX4_readRoom) (v := 1) 7 rfl dX4_readRoom_6 (by decide) ?_
  refine E_isub (M := mX4_readRoom) 8 rfl dX4_readRoom_7 ?_
  replace h := Option.bind_eq_some_iff.mp h
  obtain ⟨w1, hw1, h⟩ := h
  replace h := xc_s h
  rcases h with ⟨ex2, hex2, rfl⟩ | ⟨v3, hv3, h⟩
  · have hc := (C_X8_needNumber (g := g) hw1)
    rw [hex2] at hc
    exact E_callVX (M := mX4_readRoom) (As := [.int 0, .int ((I x1 0) - 1)]) dX4_readRoom_8 shc_1 ck_X4_40 cv_X8_needNumber rfl (by decide) (Nat.le_of_ble_eq_true rfl) hc rfl
  have hcv3 := (C_X8_needNumber (g := g) hw1)
  rw [hv3] at hcv3
  refine E_cV1 (M := mX4_readRoom) (As := [.int 0, .int ((I x1 0) - 1)]) 11 rfl dX4_readRoom_8 shc_1 ck_X4_40 cv_X8_needNumber rfl (by decide) (Nat.le_of_ble_eq_true rfl) hcv3 rfl ?_
  cases h
  exact E_iret (M := mX4_readRoom) rfl dX4_readRoom_11
theorem C_X4_readRoom {g : Gx} {x1 : Nat} (hx1 : isH x1) {I : MI} {L : ML} {res : (String ⊕ Int32) × MI × ML} (h : f_X4_readRoom x1 I L = some res) : Ent g 8 (bS res.1) mX4_readRoom [.ref 1, .ref x1] (I, L) (rI res.1) (res.2.1, res.2.2) := Ent_of (by decide +kernel) (Nat.le_of_ble_eq_true rfl) (S_X4_readRoom x1 hx1 I L _ h)
def f_X4_readDoor_20 (x1 : Nat) (x2 : Int32) (y1 : Bool) (I : MI) (L : ML) : Option ((String ⊕ Unit) × MI × ML) := Option.bind (f_X8_check y1 I L) fun w1 => xc w1 fun _ => Option.bind (f_X4_readRoom x1 w1.2.1 w1.2.2) fun w4 => xc w4 fun v6 => Option.bind (f_X8_needNumber 1 30 w4.2.1 w4.2.2) fun w7 => xc w7 fun v9 => Option.bind (f_X3_addDoor x1 x2 v6 v9 w7.2.1 w7.2.2) fun w10 => some (.inr (), w10.1, w10.2)
set_option maxRecDepth 100000 in
theorem S_X4_readDoor_20 {g : Gx} (x1 : Nat) (x2 : Int32) (y1 : Bool) (hx1 : isH x1) (I : MI) (L : ML) (res : (String ⊕ Unit) × MI × ML) (h : f_X4_readDoor_20 x1 x2 y1 I L = some res) : E g 9 (bS res.1) mX4_readDoor 20 [(0, .ref 1), (1, .ref x1), (2, .int x2)] [.int (bI y1), .ref 1] (I, L) (rU res.1) (res.2.1, res.2.2) := by
  unfold f_X4_readDoor_20 at h
  replace h := Option.bind_eq_some_iff.mp h
  obtain ⟨w1, hw1, h⟩ := h
  replace h := xc_s h
  rcases h with ⟨ex2, hex2, rfl⟩ | ⟨v3, hv3, h⟩
  · have hc := (C_X8_check (g := g) hw1)
    rw [hex2] at hc
    exact E_callVX (M := mX4_readDoor) (As := [.int (bI y1)]) dX4_readDoor_20 shc_1 ck_X4_15 cv_X8_check rfl (by decide) (Nat.le_of_ble_eq_true rfl) hc rfl
  have hcv3 := (C_X8_check (g := g) hw1)
  rw [hv3] at hcv3
  refine E_cV0 (M := mX4_readDoor) (As := [.int (bI y1)]) 23 rfl dX4_readDoor_20 shc_1 ck_X4_15 cv_X8_check rfl (by decide) (Nat.le_of_ble_eq_true rfl) hcv3 rfl ?_
  refine E_aload_n (M := mX4_readDoor) 24 rfl dX4_readDoor_23 rfl 0 rfl ?_
  refine E_aload_n (M := mX4_readDoor) 25 rfl dX4_readDoor_24 rfl 1 rfl ?_
  replace h := Option.bind_eq_some_iff.mp h
  obtain ⟨w4, hw4, h⟩ := h
  replace h := xc_s h
  rcases h with ⟨ex5, hex5, rfl⟩ | ⟨v6, hv6, h⟩
  · have hc := (C_X4_readRoom (g := g) hx1 hw4)
    rw [hex5] at hc
    exact E_callSX (M := mX4_readDoor) (As := [.ref 1, .ref x1]) dX4_readDoor_25 ck_X4_82 ss_X4_readRoom rfl (by decide) (Nat.le_of_ble_eq_true rfl) hc rfl
  have hcv6 := (C_X4_readRoom (g := g) hx1 hw4)
  rw [hv6] at hcv6
  refine E_cS1 (M := mX4_readDoor) (As := [.ref 1, .ref x1]) 28 rfl dX4_readDoor_25 ck_X4_82 ss_X4_readRoom rfl (by decide) (Nat.le_of_ble_eq_true rfl) hcv6 rfl ?_
  refine E_istore_n (M := mX4_readDoor) (lv' := [(3, .int v6), (0, .ref 1), (1, .ref x1), (2, .int x2)]) 29 rfl dX4_readDoor_28 rfl (Nat.le_of_ble_eq_true rfl) rfl ?_
  refine E_aload_n (M := mX4_readDoor) 30 rfl dX4_readDoor_29 rfl 2 rfl ?_
  refine E_iload_n (M := mX4_readDoor) 31 rfl dX4_readDoor_30 rfl 3 rfl ?_
  refine E_iload_n (M := mX4_readDoor) 32 rfl dX4_readDoor_31 rfl 0 rfl ?_
  refine E_aload_n (M := mX4_readDoor) 33 rfl dX4_readDoor_32 rfl 1 rfl ?_
  refine E_iconst (M := mX4_readDoor) (v := 1) 34 rfl dX4_readDoor_33 (by decide) ?_
  refine E_bipush (M := mX4_readDoor) (v := 30) 36 rfl dX4_readDoor_34 (by decide) ?_
  replace h := Option.bind_eq_some_iff.mp h
  obtain ⟨w7, hw7, h⟩ := h
  replace h := xc_s h
  rcases h with ⟨ex8, hex8, rfl⟩ | ⟨v9, hv9, h⟩
  · have hc := (C_X8_needNumber (g := g) hw7)
    rw [hex8] at hc
    exact E_callVX (M := mX4_readDoor) (As := [.int 1, .int 30]) dX4_readDoor_36 shc_1 ck_X4_40 cv_X8_needNumber rfl (by decide) (Nat.le_of_ble_eq_true rfl) hc rfl
  have hcv9 := (C_X8_needNumber (g := g) hw7)
  rw [hv9] at hcv9
  refine E_cV1 (M := mX4_readDoor) (As := [.int 1, .int 30]) 39 rfl dX4_readDoor_36 shc_1 ck_X4_40 cv_X8_needNumber rfl (by decide) (Nat.le_of_ble_eq_true rfl) hcv9 rfl ?_
  replace h := Option.bind_eq_some_iff.mp h
  obtain ⟨w10, hw10, h⟩ := h
  refine E_cV0 (M := mX4_readDoor) (As := [.int x2, .int v6, .int v9]) 42 rfl dX4_readDoor_39 (sh_H hx1) ck_X4_100 cv_X3_addDoor rfl (by decide) (Nat.le_of_ble_eq_true rfl) (C_X3_addDoor (g := g) hx1 hw10) rfl ?_
  cases h
  exact E_vret (M := mX4_readDoor) rfl dX4_readDoor_42
def f_X4_readDoor (x1 : Nat) (I : MI) (L : ML) : Option ((String ⊕ Unit) × MI × ML) := Option.bind (f_X4_readRoom x1 I L) fun w1 => xc w1 fun v3 => if (w1.2.1 1 6) = v3 then (f_X4_readDoor_20 x1 v3 false w1.2.1 w1.2.2) else (f_X4_readDoor_20 x1 v3 true w1.2.1 w1.2.2)
set_option maxRecDepth 100000 in
theorem S_X4_readDoor {g : Gx} (x1 : Nat) (hx1 : isH x1) (I : MI) (L : ML) (res : (String ⊕ Unit) × MI × ML) (h : f_X4_readDoor x1 I L = some res) : E g 9 (bS res.1) mX4_readDoor 0 [(0, .ref 1), (1, .ref x1)] [] (I, L) (rU res.1) (res.2.1, res.2.2) := by
  unfold f_X4_readDoor at h
  refine E_aload_n (M := mX4_readDoor) 1 rfl dX4_readDoor_0 rfl 0 rfl ?_
  refine E_aload_n (M := mX4_readDoor) 2 rfl dX4_readDoor_1 rfl 1 rfl ?_
  replace h := Option.bind_eq_some_iff.mp h
  obtain ⟨w1, hw1, h⟩ := h
  replace h := xc_s h
  rcases h with ⟨ex2, hex2, rfl⟩ | ⟨v3, hv3, h⟩
  · have hc := (C_X4_readRoom (g := g) hx1 hw1)
    rw [hex2] at hc
    exact E_callSX (M := mX4_readDoor) (As := [.ref 1, .ref x1]) dX4_readDoor_2 ck_X4_82 ss_X4_readRoom rfl (by decide) (Nat.le_of_ble_eq_true rfl) hc rfl
  have hcv3 := (C_X4_readRoom (g := g) hx1 hw1)
  rw [hv3] at hcv3
  refine E_cS1 (M := mX4_readDoor) (As := [.ref 1, .ref x1]) 5 rfl dX4_readDoor_2 ck_X4_82 ss_X4_readRoom rfl (by decide) (Nat.le_of_ble_eq_true rfl) hcv3 rfl ?_
  refine E_istore_n (M := mX4_readDoor) (lv' := [(2, .int v3), (0, .ref 1), (1, .ref x1)]) 6 rfl dX4_readDoor_5 rfl (Nat.le_of_ble_eq_true rfl) rfl ?_
  refine E_aload_n (M := mX4_readDoor) 7 rfl dX4_readDoor_6 rfl 1 rfl ?_
  refine E_aload_n (M := mX4_readDoor) 8 rfl dX4_readDoor_7 rfl 1 rfl ?_
  refine E_gI (M := mX4_readDoor) 11 rfl dX4_readDoor_8 shc_1 fl_X4_97 rfl ?_
  refine E_iload_n (M := mX4_readDoor) 12 rfl dX4_readDoor_11 rfl 0 rfl ?_
  refine E_icmp_eq (M := mX4_readDoor) 19 15 (by decide) rfl dX4_readDoor_12 (fun c4 => ?_) (fun c4 => ?_)
  · rw [if_pos c4] at h
    refine E_iconst (M := mX4_readDoor) (v := 0) 20 rfl dX4_readDoor_19 (by decide) ?_
    refine E_sub (M := mX4_readDoor) (lv' := [(0, .ref 1), (1, .ref x1), (2, .int v3)]) [1, 2, 0] rfl ?_
    exact S_X4_readDoor_20 x1 v3 false hx1 w1.2.1 w1.2.2 _ h
  · rw [if_neg c4] at h
    refine E_iconst (M := mX4_readDoor) (v := 1) 16 rfl dX4_readDoor_15 (by decide) ?_
    refine E_goto (M := mX4_readDoor) 20 (by decide) dX4_readDoor_16 ?_
    refine E_sub (M := mX4_readDoor) (lv' := [(0, .ref 1), (1, .ref x1), (2, .int v3)]) [1, 2, 0] rfl ?_
    exact S_X4_readDoor_20 x1 v3 true hx1 w1.2.1 w1.2.2 _ h
theorem C_X4_readDoor {g : Gx} {x1 : Nat} (hx1 : isH x1) {I : MI} {L : ML} {res : (String ⊕ Unit) × MI × ML} (h : f_X4_readDoor x1 I L = some res) : Ent g 9 (bS res.1) mX4_readDoor [.ref 1, .ref x1] (I, L) (rU res.1) (res.2.1, res.2.2) := Ent_of (by decide +kernel) (Nat.le_of_ble_eq_true rfl) (S_X4_readDoor x1 hx1 I L _ h)
def f_X4_readHeir (x1 : Nat) (I : MI) (L : ML) : Option ((String ⊕ Unit) × MI × ML) := Option.bind (f_X8_needWord 4 I L) fun w1 => xc w1 fun _ => Option.bind (f_X4_readRoom x1 w1.2.1 w1.2.2) fun w4 => xc w4 fun v6 => Option.bind (f_X8_needWord 5 w4.2.1 w4.2.2) fun w7 => xc w7 fun _ => Option.bind (f_X8_needNumber 1 50 w7.2.1 w7.2.2) fun w10 => xc w10 fun v12 => Option.bind (f_X3_addHeir x1 v6 v12 w10.2.1 w10.2.2) fun w13 => some (.inr (), w13.1, w13.2)
set_option maxRecDepth 100000 in
theorem S_X4_readHeir {g : Gx} (x1 : Nat) (hx1 : isH x1) (I : MI) (L : ML) (res : (String ⊕ Unit) × MI × ML) (h : f_X4_readHeir x1 I L = some res) : E g 9 (bS res.1) mX4_readHeir 0 [(0, .ref 1), (1, .ref x1)] [] (I, L) (rU res.1) (res.2.1, res.2.2) := by
  unfold f_X4_readHeir at h
  refine E_aload_n (M := mX4_readHeir) 1 rfl dX4_readHeir_0 rfl 0 rfl ?_
  refine E_ldcS (M := mX4_readHeir) 4 (by decide) 3 rfl dX4_readHeir_1 rfl ?_
  replace h := Option.bind_eq_some_iff.mp h
  obtain ⟨w1, hw1, h⟩ := h
  replace h := xc_s h
  rcases h with ⟨ex2, hex2, rfl⟩ | ⟨v3, hv3, h⟩
  · have hc := (C_X8_needWord (g := g) (by decide) hw1)
    rw [hex2] at hc
    exact E_callVX (M := mX4_readHeir) (As := [.ref (100000 + 4)]) dX4_readHeir_3 shc_1 ck_X4_78 cv_X8_needWord rfl (by decide) (Nat.le_of_ble_eq_true rfl) hc rfl
  have hcv3 := (C_X8_needWord (g := g) (by decide) hw1)
  rw [hv3] at hcv3
  refine E_cV0 (M := mX4_readHeir) (As := [.ref (100000 + 4)]) 6 rfl dX4_readHeir_3 shc_1 ck_X4_78 cv_X8_needWord rfl (by decide) (Nat.le_of_ble_eq_true rfl) hcv3 rfl ?_
  refine E_aload_n (M := mX4_readHeir) 7 rfl dX4_readHeir_6 rfl 0 rfl ?_
  refine E_aload_n (M := mX4_readHeir) 8 rfl dX4_readHeir_7 rfl 1 rfl ?_
  replace h := Option.bind_eq_some_iff.mp h
  obtain ⟨w4, hw4, h⟩ := h
  replace h := xc_s h
  rcases h with ⟨ex5, hex5, rfl⟩ | ⟨v6, hv6, h⟩
  · have hc := (C_X4_readRoom (g := g) hx1 hw4)
    rw [hex5] at hc
    exact E_callSX (M := mX4_readHeir) (As := [.ref 1, .ref x1]) dX4_readHeir_8 ck_X4_82 ss_X4_readRoom rfl (by decide) (Nat.le_of_ble_eq_true rfl) hc rfl
  have hcv6 := (C_X4_readRoom (g := g) hx1 hw4)
  rw [hv6] at hcv6
  refine E_cS1 (M := mX4_readHeir) (As := [.ref 1, .ref x1]) 11 rfl dX4_readHeir_8 ck_X4_82 ss_X4_readRoom rfl (by decide) (Nat.le_of_ble_eq_true rfl) hcv6 rfl ?_
  refine E_istore_n (M := mX4_readHeir) (lv' := [(2, .int v6), (0, .ref 1), (1, .ref x1)]) 12 rfl dX4_readHeir_11 rfl (Nat.le_of_ble_eq_true rfl) rfl ?_
  refine E_aload_n (M := mX4_readHeir) 13 rfl dX4_readHeir_12 rfl 1 rfl ?_
  refine E_ldcS (M := mX4_readHeir) 5 (by decide) 15 rfl dX4_readHeir_13 rfl ?_
  replace h := Option.bind_eq_some_iff.mp h
  obtain ⟨w7, hw7, h⟩ := h
  replace h := xc_s h
  rcases h with ⟨ex8, hex8, rfl⟩ | ⟨v9, hv9, h⟩
  · have hc := (C_X8_needWord (g := g) (by decide) hw7)
    rw [hex8] at hc
    exact E_callVX (M := mX4_readHeir) (As := [.ref (100000 + 5)]) dX4_readHeir_15 shc_1 ck_X4_78 cv_X8_needWord rfl (by decide) (Nat.le_of_ble_eq_true rfl) hc rfl
  have hcv9 := (C_X8_needWord (g := g) (by decide) hw7)
  rw [hv9] at hcv9
  refine E_cV0 (M := mX4_readHeir) (As := [.ref (100000 + 5)]) 18 rfl dX4_readHeir_15 shc_1 ck_X4_78 cv_X8_needWord rfl (by decide) (Nat.le_of_ble_eq_true rfl) hcv9 rfl ?_
  refine E_aload_n (M := mX4_readHeir) 19 rfl dX4_readHeir_18 rfl 2 rfl ?_
  refine E_iload_n (M := mX4_readHeir) 20 rfl dX4_readHeir_19 rfl 0 rfl ?_
  refine E_aload_n (M := mX4_readHeir) 21 rfl dX4_readHeir_20 rfl 1 rfl ?_
  refine E_iconst (M := mX4_readHeir) (v := 1) 22 rfl dX4_readHeir_21 (by decide) ?_
  refine E_bipush (M := mX4_readHeir) (v := 50) 24 rfl dX4_readHeir_22 (by decide) ?_
  replace h := Option.bind_eq_some_iff.mp h
  obtain ⟨w10, hw10, h⟩ := h
  replace h := xc_s h
  rcases h with ⟨ex11, hex11, rfl⟩ | ⟨v12, hv12, h⟩
  · have hc := (C_X8_needNumber (g := g) hw10)
    rw [hex11] at hc
    exact E_callVX (M := mX4_readHeir) (As := [.int 1, .int 50]) dX4_readHeir_24 shc_1 ck_X4_40 cv_X8_needNumber rfl (by decide) (Nat.le_of_ble_eq_true rfl) hc rfl
  have hcv12 := (C_X8_needNumber (g := g) hw10)
  rw [hv12] at hcv12
  refine E_cV1 (M := mX4_readHeir) (As := [.int 1, .int 50]) 27 rfl dX4_readHeir_24 shc_1 ck_X4_40 cv_X8_needNumber rfl (by decide) (Nat.le_of_ble_eq_true rfl) hcv12 rfl ?_
  replace h := Option.bind_eq_some_iff.mp h
  obtain ⟨w13, hw13, h⟩ := h
  refine E_cV0 (M := mX4_readHeir) (As := [.int v6, .int v12]) 30 rfl dX4_readHeir_27 (sh_H hx1) ck_X4_108 cv_X3_addHeir rfl (by decide) (Nat.le_of_ble_eq_true rfl) (C_X3_addHeir (g := g) hx1 hw13) rfl ?_
  cases h
  exact E_vret (M := mX4_readHeir) rfl dX4_readHeir_30
theorem C_X4_readHeir {g : Gx} {x1 : Nat} (hx1 : isH x1) {I : MI} {L : ML} {res : (String ⊕ Unit) × MI × ML} (h : f_X4_readHeir x1 I L = some res) : Ent g 9 (bS res.1) mX4_readHeir [.ref 1, .ref x1] (I, L) (rU res.1) (res.2.1, res.2.2) := Ent_of (by decide +kernel) (Nat.le_of_ble_eq_true rfl) (S_X4_readHeir x1 hx1 I L _ h)
def f_X4_readRate_63 (x2 : Int32) (I : MI) (L : ML) : Option ((String ⊕ Int32) × MI × ML) := some (.inr x2, I, L)
set_option maxRecDepth 100000 in
theorem S_X4_readRate_63 {g : Gx} (x2 : Int32) (I : MI) (L : ML) (res : (String ⊕ Int32) × MI × ML) (h : f_X4_readRate_63 x2 I L = some res) : E g 8 (bS res.1) mX4_readRate 63 [(2, .int x2)] [] (I, L) (rI res.1) (res.2.1, res.2.2) := by
  unfold f_X4_readRate_63 at h
  refine E_iload_n (M := mX4_readRate) 64 rfl dX4_readRate_63 rfl 0 rfl ?_
  cases h
  exact E_iret (M := mX4_readRate) rfl dX4_readRate_64
def f_X4_readRate_31 : Nat → Int32 → Int32 → MI → ML → Option ((String ⊕ Int32) × MI × ML)
  | 0, _, _, _, _ => none
  | n + 1, x2, x3, I, L => if 400 ≤ x3 then (f_X4_readRate_63 x2 I L) else (Option.bind (f_X8_isNumber I L) fun v2 => if v2 = true then (Option.bind (f_X8_needNumber 0 23 I L) fun w4 => xc w4 fun v6 => f_X4_readRate_31 n (x2 ||| (1 <<< (v6 &&& 31))) (x3 + 1) w4.2.1 w4.2.2) else (f_X4_readRate_63 x2 I L))
set_option maxRecDepth 100000 in
theorem S_X4_readRate_31 {g : Gx} : ∀ (n : Nat) (x2 : Int32) (x3 : Int32) (I : MI) (L : ML) (res : (String ⊕ Int32) × MI × ML), f_X4_readRate_31 n x2 x3 I L = some res → E g 8 (bS res.1) mX4_readRate 31 [(0, .ref 1), (2, .int x2), (3, .int x3)] [] (I, L) (rI res.1) (res.2.1, res.2.2) := by
  intro n
  induction n with
  | zero =>
    intros
    rename_i h
    cases h
  | succ n ih =>
    intro x2 x3 I L res h
    rw [f_X4_readRate_31] at h
    refine E_iload_n (M := mX4_readRate) 32 rfl dX4_readRate_31 rfl 2 rfl ?_
    refine E_sipush (M := mX4_readRate) (v := 400) 35 rfl dX4_readRate_32 (by decide) ?_
    refine E_icmp_ge (M := mX4_readRate) 63 38 (by decide) rfl dX4_readRate_35 (fun c1 => ?_) (fun c1 => ?_)
    · rw [if_pos c1] at h
      refine E_sub (M := mX4_readRate) (lv' := [(2, .int x2)]) [1] rfl ?_
      exact S_X4_readRate_63 x2 I L _ h
    · rw [if_neg c1] at h
      refine E_aload_n (M := mX4_readRate) 39 rfl dX4_readRate_38 rfl 0 rfl ?_
      replace h := Option.bind_eq_some_iff.mp h
      obtain ⟨v2, hv2, h⟩ := h
      refine E_cV1 (M := mX4_readRate) (As := []) 42 rfl dX4_readRate_39 shc_1 ck_X4_146 cv_X8_isNumber rfl (by decide) (Nat.le_of_ble_eq_true rfl) (C_X8_isNumber (g := g) hv2) rfl ?_
      refine E_if_eqB (M := mX4_readRate) 63 45 (by decide) rfl dX4_readRate_42 (fun c3 => ?_) (fun c3 => ?_)
      · rw [if_neg (by rw [c3]; decide)] at h
        refine E_sub (M := mX4_readRate) (lv' := [(2, .int x2)]) [1] rfl ?_
        exact S_X4_readRate_63 x2 I L _ h
      · rw [if_pos c3] at h
        refine E_iload_n (M := mX4_readRate) 46 rfl dX4_readRate_45 rfl 1 rfl ?_
        refine E_iconst (M := mX4_readRate) (v := 1) 47 rfl dX4_readRate_46 (by decide) ?_
        refine E_aload_n (M := mX4_readRate) 48 rfl dX4_readRate_47 rfl 0 rfl ?_
        refine E_iconst (M := mX4_readRate) (v := 0) 49 rfl dX4_readRate_48 (by decide) ?_
        refine E_bipush (M := mX4_readRate) (v := 23) 51 rfl dX4_readRate_49 (by decide) ?_
        replace h := Option.bind_eq_some_iff.mp h
        obtain ⟨w4, hw4, h⟩ := h
        replace h := xc_s h
        rcases h with ⟨ex5, hex5, rfl⟩ | ⟨v6, hv6, h⟩
        · have hc := (C_X8_needNumber (g := g) hw4)
          rw [hex5] at hc
          exact E_callVX (M := mX4_readRate) (As := [.int 0, .int 23]) dX4_readRate_51 shc_1 ck_X4_40 cv_X8_needNumber rfl (by decide) (Nat.le_of_ble_eq_true rfl) hc rfl
        have hcv6 := (C_X8_needNumber (g := g) hw4)
        rw [hv6] at hcv6
        refine E_cV1 (M := mX4_readRate) (As := [.int 0, .int 23]) 54 rfl dX4_readRate_51 shc_1 ck_X4_40 cv_X8_needNumber rfl (by decide) (Nat.le_of_ble_eq_true rfl) hcv6 rfl ?_
        refine E_ishl (M := mX4_readRate) 55 rfl dX4_readRate_54 ?_
        refine E_ior (M := mX4_readRate) 56 rfl dX4_readRate_55 ?_
        refine E_istore_n (M := mX4_readRate) (lv' := [(2, .int (x2 ||| (1 <<< (v6 &&& 31)))), (0, .ref 1), (3, .int x3)]) 57 rfl dX4_readRate_56 rfl (Nat.le_of_ble_eq_true rfl) rfl ?_
        refine E_iinc (M := mX4_readRate) (j := 2) (v := x3 + 1) (lv' := [(3, .int (x3 + 1)), (2, .int (x2 ||| (1 <<< (v6 &&& 31)))), (0, .ref 1)]) 60 rfl dX4_readRate_57 rfl rfl (Nat.le_of_ble_eq_true rfl) rfl ?_
        refine E_goto (M := mX4_readRate) 31 (by decide) dX4_readRate_60 ?_
        refine E_sub (M := mX4_readRate) (lv' := [(0, .ref 1), (2, .int (x2 ||| (1 <<< (v6 &&& 31)))), (3, .int (x3 + 1))]) [2, 1, 0] rfl ?_
        exact ih (x2 ||| (1 <<< (v6 &&& 31))) (x3 + 1) w4.2.1 w4.2.2 _ h
def f_X4_readRate (x1 : Int32) (I : MI) (L : ML) : Option ((String ⊕ Int32) × MI × ML) := if x1 = 2 then (Option.bind (f_X8_needNumber 0 100 I L) fun w6 => xc w6 fun v8 => some (.inr v8, w6.2.1, w6.2.2)) else (if x1 = 0 then (Option.bind (f_X8_needNumber 0 23 I L) fun w3 => xc w3 fun v5 => f_X4_readRate_31 FU (1 <<< (v5 &&& 31)) 0 w3.2.1 w3.2.2) else (f_X4_readRate_63 0 I L))
set_option maxRecDepth 100000 in
theorem S_X4_readRate {g : Gx} (x1 : Int32) (I : MI) (L : ML) (res : (String ⊕ Int32) × MI × ML) (h : f_X4_readRate x1 I L = some res) : E g 8 (bS res.1) mX4_readRate 0 [(0, .ref 1), (1, .int x1)] [] (I, L) (rI res.1) (res.2.1, res.2.2) := by
  unfold f_X4_readRate at h
  refine E_iload_n (M := mX4_readRate) 1 rfl dX4_readRate_0 rfl 1 rfl ?_
  refine E_iconst (M := mX4_readRate) (v := 2) 2 rfl dX4_readRate_1 (by decide) ?_
  refine E_icmp_ne (M := mX4_readRate) 13 5 (by decide) rfl dX4_readRate_2 (fun c1 => ?_) (fun c1 => ?_)
  · rw [if_neg c1] at h
    refine E_iconst (M := mX4_readRate) (v := 0) 14 rfl dX4_readRate_13 (by decide) ?_
    refine E_istore_n (M := mX4_readRate) (lv' := [(2, .int 0), (0, .ref 1), (1, .int x1)]) 15 rfl dX4_readRate_14 rfl (Nat.le_of_ble_eq_true rfl) rfl ?_
    refine E_iload_n (M := mX4_readRate) 16 rfl dX4_readRate_15 rfl 2 rfl ?_
    refine E_if_ne (M := mX4_readRate) 63 19 (by decide) rfl dX4_readRate_16 (fun c2 => ?_) (fun c2 => ?_)
    · rw [if_neg c2] at h
      refine E_sub (M := mX4_readRate) (lv' := [(2, .int 0)]) [0] rfl ?_
      exact S_X4_readRate_63 0 I L _ h
    · rw [if_pos c2] at h
      refine E_iconst (M := mX4_readRate) (v := 1) 20 rfl dX4_readRate_19 (by decide) ?_
      refine E_aload_n (M := mX4_readRate) 21 rfl dX4_readRate_20 rfl 1 rfl ?_
      refine E_iconst (M := mX4_readRate) (v := 0) 22 rfl dX4_readRate_21 (by decide) ?_
      refine E_bipush (M := mX4_readRate) (v := 23) 24 rfl dX4_readRate_22 (by decide) ?_
      replace h := Option.bind_eq_some_iff.mp h
      obtain ⟨w3, hw3, h⟩ := h
      replace h := xc_s h
      rcases h with ⟨ex4, hex4, rfl⟩ | ⟨v5, hv5, h⟩
      · have hc := (C_X8_needNumber (g := g) hw3)
        rw [hex4] at hc
        exact E_callVX (M := mX4_readRate) (As := [.int 0, .int 23]) dX4_readRate_24 shc_1 ck_X4_40 cv_X8_needNumber rfl (by decide) (Nat.le_of_ble_eq_true rfl) hc rfl
      have hcv5 := (C_X8_needNumber (g := g) hw3)
      rw [hv5] at hcv5
      refine E_cV1 (M := mX4_readRate) (As := [.int 0, .int 23]) 27 rfl dX4_readRate_24 shc_1 ck_X4_40 cv_X8_needNumber rfl (by decide) (Nat.le_of_ble_eq_true rfl) hcv5 rfl ?_
      refine E_ishl (M := mX4_readRate) 28 rfl dX4_readRate_27 ?_
      refine E_istore_n (M := mX4_readRate) (lv' := [(2, .int (1 <<< (v5 &&& 31))), (0, .ref 1), (1, .int x1)]) 29 rfl dX4_readRate_28 rfl (Nat.le_of_ble_eq_true rfl) rfl ?_
      refine E_iconst (M := mX4_readRate) (v := 0) 30 rfl dX4_readRate_29 (by decide) ?_
      refine E_istore_n (M := mX4_readRate) (lv' := [(3, .int 0), (2, .int (1 <<< (v5 &&& 31))), (0, .ref 1), (1, .int x1)]) 31 rfl dX4_readRate_30 rfl (Nat.le_of_ble_eq_true rfl) rfl ?_
      refine E_sub (M := mX4_readRate) (lv' := [(0, .ref 1), (2, .int (1 <<< (v5 &&& 31))), (3, .int 0)]) [2, 1, 0] rfl ?_
      exact S_X4_readRate_31 FU (1 <<< (v5 &&& 31)) 0 w3.2.1 w3.2.2 _ h
  · rw [if_pos c1] at h
    refine E_aload_n (M := mX4_readRate) 6 rfl dX4_readRate_5 rfl 0 rfl ?_
    refine E_iconst (M := mX4_readRate) (v := 0) 7 rfl dX4_readRate_6 (by decide) ?_
    refine E_bipush (M := mX4_readRate) (v := 100) 9 rfl dX4_readRate_7 (by decide) ?_
    replace h := Option.bind_eq_some_iff.mp h
    obtain ⟨w6, hw6, h⟩ := h
    replace h := xc_s h
    rcases h with ⟨ex7, hex7, rfl⟩ | ⟨v8, hv8, h⟩
    · have hc := (C_X8_needNumber (g := g) hw6)
      rw [hex7] at hc
      exact E_callVX (M := mX4_readRate) (As := [.int 0, .int 100]) dX4_readRate_9 shc_1 ck_X4_40 cv_X8_needNumber rfl (by decide) (Nat.le_of_ble_eq_true rfl) hc rfl
    have hcv8 := (C_X8_needNumber (g := g) hw6)
    rw [hv8] at hcv8
    refine E_cV1 (M := mX4_readRate) (As := [.int 0, .int 100]) 12 rfl dX4_readRate_9 shc_1 ck_X4_40 cv_X8_needNumber rfl (by decide) (Nat.le_of_ble_eq_true rfl) hcv8 rfl ?_
    cases h
    exact E_iret (M := mX4_readRate) rfl dX4_readRate_12
theorem C_X4_readRate {g : Gx} {x1 : Int32} {I : MI} {L : ML} {res : (String ⊕ Int32) × MI × ML} (h : f_X4_readRate x1 I L = some res) : Ent g 8 (bS res.1) mX4_readRate [.ref 1, .int x1] (I, L) (rI res.1) (res.2.1, res.2.2) := Ent_of (by decide +kernel) (Nat.le_of_ble_eq_true rfl) (S_X4_readRate x1 I L _ h)
def f_X4_readNoise_16 (x1 : Nat) (x2 : Int32) (y1 : Bool) (I : MI) (L : ML) : Option ((String ⊕ Unit) × MI × ML) := Option.bind (f_X8_check y1 I L) fun w1 => xc w1 fun _ => Option.bind (f_X8_step w1.2.1 w1.2.2) fun w4 => Option.bind (f_X3_addNoise x1 w4.1 w4.2) fun w5 => Option.bind (pfI w5.2.1 w5.1 0 x2) fun I6 => Option.bind (f_X4_readRate x2 I6 w5.2.2) fun w7 => xc w7 fun v9 => Option.bind (pfI w7.2.1 w5.1 1 v9) fun I10 => Option.bind (f_X8_needWord 4 I10 w7.2.2) fun w11 => xc w11 fun _ => Option.bind (f_X4_readRoom x1 w11.2.1 w11.2.2) fun w14 => xc w14 fun v16 => Option.bind (pfI w14.2.1 w5.1 2 v16) fun I17 => Option.bind (f_X8_needWord 11 I17 w14.2.2) fun w18 => xc w18 fun _ => Option.bind (f_X8_needNumber 0 99 w18.2.1 w18.2.2) fun w21 => xc w21 fun v23 => Option.bind (pfI w21.2.1 w5.1 3 v23) fun I24 => Option.bind (f_X8_needWord 12 I24 w21.2.2) fun w25 => xc w25 fun _ => Option.bind (f_X8_needNumber 1 99 w25.2.1 w25.2.2) fun w28 => xc w28 fun v30 => Option.bind (pfI w28.2.1 w5.1 4 v30) fun I31 => Option.bind (f_X8_needWord 13 I31 w28.2.2) fun w32 => xc w32 fun _ => Option.bind (f_X8_needNumber 0 99 w32.2.1 w32.2.2) fun w35 => xc w35 fun v37 => Option.bind (pfI w35.2.1 w5.1 5 v37) fun I38 => some (.inr (), I38, w35.2.2)
set_option maxRecDepth 100000 in
theorem S_X4_readNoise_16 {g : Gx} (x1 : Nat) (x2 : Int32) (y1 : Bool) (hx1 : isH x1) (I : MI) (L : ML) (res : (String ⊕ Unit) × MI × ML) (h : f_X4_readNoise_16 x1 x2 y1 I L = some res) : E g 9 (bS res.1) mX4_readNoise 16 [(0, .ref 1), (1, .ref x1), (2, .int x2)] [.int (bI y1), .ref 1] (I, L) (rU res.1) (res.2.1, res.2.2) := by
  unfold f_X4_readNoise_16 at h
  replace h := Option.bind_eq_some_iff.mp h
  obtain ⟨w1, hw1, h⟩ := h
  replace h := xc_s h
  rcases h with ⟨ex2, hex2, rfl⟩ | ⟨v3, hv3, h⟩
  · have hc := (C_X8_check (g := g) hw1)
    rw [hex2] at hc
    exact E_callVX (M := mX4_readNoise) (As := [.int (bI y1)]) dX4_readNoise_16 shc_1 ck_X4_15 cv_X8_check rfl (by decide) (Nat.le_of_ble_eq_true rfl) hc rfl
  have hcv3 := (C_X8_check (g := g) hw1)
  rw [hv3] at hcv3
  refine E_cV0 (M := mX4_readNoise) (As := [.int (bI y1)]) 19 rfl dX4_readNoise_16 shc_1 ck_X4_15 cv_X8_check rfl (by decide) (Nat.le_of_ble_eq_true rfl) hcv3 rfl ?_
  refine E_aload_n (M := mX4_readNoise) 20 rfl dX4_readNoise_19 rfl 0 rfl ?_
  replace h := Option.bind_eq_some_iff.mp h
  obtain ⟨w4, hw4, h⟩ := h
  refine E_cV0 (M := mX4_readNoise) (As := []) 23 rfl dX4_readNoise_20 shc_1 ck_X4_94 cv_X8_step rfl (by decide) (Nat.le_of_ble_eq_true rfl) (C_X8_step (g := g) hw4) rfl ?_
  refine E_aload_n (M := mX4_readNoise) 24 rfl dX4_readNoise_23 rfl 1 rfl ?_
  replace h := Option.bind_eq_some_iff.mp h
  obtain ⟨w5, hw5, h⟩ := h
  refine E_cV1 (M := mX4_readNoise) (As := []) 27 rfl dX4_readNoise_24 (sh_H hx1) ck_X4_116 cv_X3_addNoise rfl (by decide) (Nat.le_of_ble_eq_true rfl) (C_X3_addNoise (g := g) hx1 hw5) rfl ?_
  refine E_astore_n (M := mX4_readNoise) (lv' := [(3, .ref w5.1), (0, .ref 1), (1, .ref x1), (2, .int x2)]) 28 rfl dX4_readNoise_27 rfl (Nat.le_of_ble_eq_true rfl) rfl ?_
  refine E_aload_n (M := mX4_readNoise) 29 rfl dX4_readNoise_28 rfl 0 rfl ?_
  refine E_iload_n (M := mX4_readNoise) 30 rfl dX4_readNoise_29 rfl 3 rfl ?_
  replace h := Option.bind_eq_some_iff.mp h
  obtain ⟨I6, hI6, h⟩ := h
  refine E_pfI (M := mX4_readNoise) 33 rfl dX4_readNoise_30 (sh_N (T_X3_addNoise hx1 hw5)) fl_X4_120 rfl hI6 ?_
  refine E_aload_n (M := mX4_readNoise) 34 rfl dX4_readNoise_33 rfl 0 rfl ?_
  refine E_aload_n (M := mX4_readNoise) 35 rfl dX4_readNoise_34 rfl 1 rfl ?_
  refine E_iload_n (M := mX4_readNoise) 36 rfl dX4_readNoise_35 rfl 3 rfl ?_
  replace h := Option.bind_eq_some_iff.mp h
  obtain ⟨w7, hw7, h⟩ := h
  replace h := xc_s h
  rcases h with ⟨ex8, hex8, rfl⟩ | ⟨v9, hv9, h⟩
  · have hc := (C_X4_readRate (g := g) hw7)
    rw [hex8] at hc
    exact E_callSX (M := mX4_readNoise) (As := [.ref 1, .int x2]) dX4_readNoise_36 ck_X4_125 ss_X4_readRate rfl (by decide) (Nat.le_of_ble_eq_true rfl) hc rfl
  have hcv9 := (C_X4_readRate (g := g) hw7)
  rw [hv9] at hcv9
  refine E_cS1 (M := mX4_readNoise) (As := [.ref 1, .int x2]) 39 rfl dX4_readNoise_36 ck_X4_125 ss_X4_readRate rfl (by decide) (Nat.le_of_ble_eq_true rfl) hcv9 rfl ?_
  replace h := Option.bind_eq_some_iff.mp h
  obtain ⟨I10, hI10, h⟩ := h
  refine E_pfI (M := mX4_readNoise) 42 rfl dX4_readNoise_39 (sh_N (T_X3_addNoise hx1 hw5)) fl_X4_129 rfl hI10 ?_
  refine E_aload_n (M := mX4_readNoise) 43 rfl dX4_readNoise_42 rfl 1 rfl ?_
  refine E_ldcS (M := mX4_readNoise) 4 (by decide) 45 rfl dX4_readNoise_43 rfl ?_
  replace h := Option.bind_eq_some_iff.mp h
  obtain ⟨w11, hw11, h⟩ := h
  replace h := xc_s h
  rcases h with ⟨ex12, hex12, rfl⟩ | ⟨v13, hv13, h⟩
  · have hc := (C_X8_needWord (g := g) (by decide) hw11)
    rw [hex12] at hc
    exact E_callVX (M := mX4_readNoise) (As := [.ref (100000 + 4)]) dX4_readNoise_45 shc_1 ck_X4_78 cv_X8_needWord rfl (by decide) (Nat.le_of_ble_eq_true rfl) hc rfl
  have hcv13 := (C_X8_needWord (g := g) (by decide) hw11)
  rw [hv13] at hcv13
  refine E_cV0 (M := mX4_readNoise) (As := [.ref (100000 + 4)]) 48 rfl dX4_readNoise_45 shc_1 ck_X4_78 cv_X8_needWord rfl (by decide) (Nat.le_of_ble_eq_true rfl) hcv13 rfl ?_
  refine E_aload_n (M := mX4_readNoise) 49 rfl dX4_readNoise_48 rfl 0 rfl ?_
  refine E_aload_n (M := mX4_readNoise) 50 rfl dX4_readNoise_49 rfl 1 rfl ?_
  refine E_aload_n (M := mX4_readNoise) 51 rfl dX4_readNoise_50 rfl 2 rfl ?_
  replace h := Option.bind_eq_some_iff.mp h
  obtain ⟨w14, hw14, h⟩ := h
  replace h := xc_s h
  rcases h with ⟨ex15, hex15, rfl⟩ | ⟨v16, hv16, h⟩
  · have hc := (C_X4_readRoom (g := g) hx1 hw14)
    rw [hex15] at hc
    exact E_callSX (M := mX4_readNoise) (As := [.ref 1, .ref x1]) dX4_readNoise_51 ck_X4_82 ss_X4_readRoom rfl (by decide) (Nat.le_of_ble_eq_true rfl) hc rfl
  have hcv16 := (C_X4_readRoom (g := g) hx1 hw14)
  rw [hv16] at hcv16
  refine E_cS1 (M := mX4_readNoise) (As := [.ref 1, .ref x1]) 54 rfl dX4_readNoise_51 ck_X4_82 ss_X4_readRoom rfl (by decide) (Nat.le_of_ble_eq_true rfl) hcv16 rfl ?_
  replace h := Option.bind_eq_some_iff.mp h
  obtain ⟨I17, hI17, h⟩ := h
  refine E_pfI (M := mX4_readNoise) 57 rfl dX4_readNoise_54 (sh_N (T_X3_addNoise hx1 hw5)) fl_X4_132 rfl hI17 ?_
  refine E_aload_n (M := mX4_readNoise) 58 rfl dX4_readNoise_57 rfl 1 rfl ?_
  refine E_ldcS (M := mX4_readNoise) 11 (by decide) 60 rfl dX4_readNoise_58 rfl ?_
  replace h := Option.bind_eq_some_iff.mp h
  obtain ⟨w18, hw18, h⟩ := h
  replace h := xc_s h
  rcases h with ⟨ex19, hex19, rfl⟩ | ⟨v20, hv20, h⟩
  · have hc := (C_X8_needWord (g := g) (by decide) hw18)
    rw [hex19] at hc
    exact E_callVX (M := mX4_readNoise) (As := [.ref (100000 + 11)]) dX4_readNoise_60 shc_1 ck_X4_78 cv_X8_needWord rfl (by decide) (Nat.le_of_ble_eq_true rfl) hc rfl
  have hcv20 := (C_X8_needWord (g := g) (by decide) hw18)
  rw [hv20] at hcv20
  refine E_cV0 (M := mX4_readNoise) (As := [.ref (100000 + 11)]) 63 rfl dX4_readNoise_60 shc_1 ck_X4_78 cv_X8_needWord rfl (by decide) (Nat.le_of_ble_eq_true rfl) hcv20 rfl ?_
  refine E_aload_n (M := mX4_readNoise) 64 rfl dX4_readNoise_63 rfl 0 rfl ?_
  refine E_aload_n (M := mX4_readNoise) 65 rfl dX4_readNoise_64 rfl 1 rfl ?_
  refine E_iconst (M := mX4_readNoise) (v := 0) 66 rfl dX4_readNoise_65 (by decide) ?_
  refine E_bipush (M := mX4_readNoise) (v := 99) 68 rfl dX4_readNoise_66 (by decide) ?_
  replace h := Option.bind_eq_some_iff.mp h
  obtain ⟨w21, hw21, h⟩ := h
  replace h := xc_s h
  rcases h with ⟨ex22, hex22, rfl⟩ | ⟨v23, hv23, h⟩
  · have hc := (C_X8_needNumber (g := g) hw21)
    rw [hex22] at hc
    exact E_callVX (M := mX4_readNoise) (As := [.int 0, .int 99]) dX4_readNoise_68 shc_1 ck_X4_40 cv_X8_needNumber rfl (by decide) (Nat.le_of_ble_eq_true rfl) hc rfl
  have hcv23 := (C_X8_needNumber (g := g) hw21)
  rw [hv23] at hcv23
  refine E_cV1 (M := mX4_readNoise) (As := [.int 0, .int 99]) 71 rfl dX4_readNoise_68 shc_1 ck_X4_40 cv_X8_needNumber rfl (by decide) (Nat.le_of_ble_eq_true rfl) hcv23 rfl ?_
  replace h := Option.bind_eq_some_iff.mp h
  obtain ⟨I24, hI24, h⟩ := h
  refine E_pfI (M := mX4_readNoise) 74 rfl dX4_readNoise_71 (sh_N (T_X3_addNoise hx1 hw5)) fl_X4_136 rfl hI24 ?_
  refine E_aload_n (M := mX4_readNoise) 75 rfl dX4_readNoise_74 rfl 1 rfl ?_
  refine E_ldcS (M := mX4_readNoise) 12 (by decide) 77 rfl dX4_readNoise_75 rfl ?_
  replace h := Option.bind_eq_some_iff.mp h
  obtain ⟨w25, hw25, h⟩ := h
  replace h := xc_s h
  rcases h with ⟨ex26, hex26, rfl⟩ | ⟨v27, hv27, h⟩
  · have hc := (C_X8_needWord (g := g) (by decide) hw25)
    rw [hex26] at hc
    exact E_callVX (M := mX4_readNoise) (As := [.ref (100000 + 12)]) dX4_readNoise_77 shc_1 ck_X4_78 cv_X8_needWord rfl (by decide) (Nat.le_of_ble_eq_true rfl) hc rfl
  have hcv27 := (C_X8_needWord (g := g) (by decide) hw25)
  rw [hv27] at hcv27
  refine E_cV0 (M := mX4_readNoise) (As := [.ref (100000 + 12)]) 80 rfl dX4_readNoise_77 shc_1 ck_X4_78 cv_X8_needWord rfl (by decide) (Nat.le_of_ble_eq_true rfl) hcv27 rfl ?_
  refine E_aload_n (M := mX4_readNoise) 81 rfl dX4_readNoise_80 rfl 0 rfl ?_
  refine E_aload_n (M := mX4_readNoise) 82 rfl dX4_readNoise_81 rfl 1 rfl ?_
  refine E_iconst (M := mX4_readNoise) (v := 1) 83 rfl dX4_readNoise_82 (by decide) ?_
  refine E_bipush (M := mX4_readNoise) (v := 99) 85 rfl dX4_readNoise_83 (by decide) ?_
  replace h := Option.bind_eq_some_iff.mp h
  obtain ⟨w28, hw28, h⟩ := h
  replace h := xc_s h
  rcases h with ⟨ex29, hex29, rfl⟩ | ⟨v30, hv30, h⟩
  · have hc := (C_X8_needNumber (g := g) hw28)
    rw [hex29] at hc
    exact E_callVX (M := mX4_readNoise) (As := [.int 1, .int 99]) dX4_readNoise_85 shc_1 ck_X4_40 cv_X8_needNumber rfl (by decide) (Nat.le_of_ble_eq_true rfl) hc rfl
  have hcv30 := (C_X8_needNumber (g := g) hw28)
  rw [hv30] at hcv30
  refine E_cV1 (M := mX4_readNoise) (As := [.int 1, .int 99]) 88 rfl dX4_readNoise_85 shc_1 ck_X4_40 cv_X8_needNumber rfl (by decide) (Nat.le_of_ble_eq_true rfl) hcv30 rfl ?_
  replace h := Option.bind_eq_some_iff.mp h
  obtain ⟨I31, hI31, h⟩ := h
  refine E_pfI (M := mX4_readNoise) 91 rfl dX4_readNoise_88 (sh_N (T_X3_addNoise hx1 hw5)) fl_X4_140 rfl hI31 ?_
  refine E_aload_n (M := mX4_readNoise) 92 rfl dX4_readNoise_91 rfl 1 rfl ?_
  refine E_ldcS (M := mX4_readNoise) 13 (by decide) 94 rfl dX4_readNoise_92 rfl ?_
  replace h := Option.bind_eq_some_iff.mp h
  obtain ⟨w32, hw32, h⟩ := h
  replace h := xc_s h
  rcases h with ⟨ex33, hex33, rfl⟩ | ⟨v34, hv34, h⟩
  · have hc := (C_X8_needWord (g := g) (by decide) hw32)
    rw [hex33] at hc
    exact E_callVX (M := mX4_readNoise) (As := [.ref (100000 + 13)]) dX4_readNoise_94 shc_1 ck_X4_78 cv_X8_needWord rfl (by decide) (Nat.le_of_ble_eq_true rfl) hc rfl
  have hcv34 := (C_X8_needWord (g := g) (by decide) hw32)
  rw [hv34] at hcv34
  refine E_cV0 (M := mX4_readNoise) (As := [.ref (100000 + 13)]) 97 rfl dX4_readNoise_94 shc_1 ck_X4_78 cv_X8_needWord rfl (by decide) (Nat.le_of_ble_eq_true rfl) hcv34 rfl ?_
  refine E_aload_n (M := mX4_readNoise) 98 rfl dX4_readNoise_97 rfl 0 rfl ?_
  refine E_aload_n (M := mX4_readNoise) 99 rfl dX4_readNoise_98 rfl 1 rfl ?_
  refine E_iconst (M := mX4_readNoise) (v := 0) 100 rfl dX4_readNoise_99 (by decide) ?_
  refine E_bipush (M := mX4_readNoise) (v := 99) 102 rfl dX4_readNoise_100 (by decide) ?_
  replace h := Option.bind_eq_some_iff.mp h
  obtain ⟨w35, hw35, h⟩ := h
  replace h := xc_s h
  rcases h with ⟨ex36, hex36, rfl⟩ | ⟨v37, hv37, h⟩
  · have hc := (C_X8_needNumber (g := g) hw35)
    rw [hex36] at hc
    exact E_callVX (M := mX4_readNoise) (As := [.int 0, .int 99]) dX4_readNoise_102 shc_1 ck_X4_40 cv_X8_needNumber rfl (by decide) (Nat.le_of_ble_eq_true rfl) hc rfl
  have hcv37 := (C_X8_needNumber (g := g) hw35)
  rw [hv37] at hcv37
  refine E_cV1 (M := mX4_readNoise) (As := [.int 0, .int 99]) 105 rfl dX4_readNoise_102 shc_1 ck_X4_40 cv_X8_needNumber rfl (by decide) (Nat.le_of_ble_eq_true rfl) hcv37 rfl ?_
  replace h := Option.bind_eq_some_iff.mp h
  obtain ⟨I38, hI38, h⟩ := h
  refine E_pfI (M := mX4_readNoise) 108 rfl dX4_readNoise_105 (sh_N (T_X3_addNoise hx1 hw5)) fl_X4_144 rfl hI38 ?_
  cases h
  exact E_vret (M := mX4_readNoise) rfl dX4_readNoise_108
def f_X4_readNoise (x1 : Nat) (I : MI) (L : ML) : Option ((String ⊕ Unit) × MI × ML) := Option.bind (f_X8_kindHere I L) fun v1 => if v1 = ((-1)) then (f_X4_readNoise_16 x1 v1 false I L) else (f_X4_readNoise_16 x1 v1 true I L)
set_option maxRecDepth 100000 in
theorem S_X4_readNoise {g : Gx} (x1 : Nat) (hx1 : isH x1) (I : MI) (L : ML) (res : (String ⊕ Unit) × MI × ML) (h : f_X4_readNoise x1 I L = some res) : E g 9 (bS res.1) mX4_readNoise 0 [(0, .ref 1), (1, .ref x1)] [] (I, L) (rU res.1) (res.2.1, res.2.2) := by
  unfold f_X4_readNoise at h
  refine E_aload_n (M := mX4_readNoise) 1 rfl dX4_readNoise_0 rfl 0 rfl ?_
  replace h := Option.bind_eq_some_iff.mp h
  obtain ⟨v1, hv1, h⟩ := h
  refine E_cV1 (M := mX4_readNoise) (As := []) 4 rfl dX4_readNoise_1 shc_1 ck_X4_112 cv_X8_kindHere rfl (by decide) (Nat.le_of_ble_eq_true rfl) (C_X8_kindHere (g := g) hv1) rfl ?_
  refine E_istore_n (M := mX4_readNoise) (lv' := [(2, .int v1), (0, .ref 1), (1, .ref x1)]) 5 rfl dX4_readNoise_4 rfl (Nat.le_of_ble_eq_true rfl) rfl ?_
  refine E_aload_n (M := mX4_readNoise) 6 rfl dX4_readNoise_5 rfl 1 rfl ?_
  refine E_iload_n (M := mX4_readNoise) 7 rfl dX4_readNoise_6 rfl 0 rfl ?_
  refine E_iconst (M := mX4_readNoise) (v := (-1)) 8 rfl dX4_readNoise_7 (by decide) ?_
  refine E_icmp_eq (M := mX4_readNoise) 15 11 (by decide) rfl dX4_readNoise_8 (fun c2 => ?_) (fun c2 => ?_)
  · rw [if_pos c2] at h
    refine E_iconst (M := mX4_readNoise) (v := 0) 16 rfl dX4_readNoise_15 (by decide) ?_
    refine E_sub (M := mX4_readNoise) (lv' := [(0, .ref 1), (1, .ref x1), (2, .int v1)]) [1, 2, 0] rfl ?_
    exact S_X4_readNoise_16 x1 v1 false hx1 I L _ h
  · rw [if_neg c2] at h
    refine E_iconst (M := mX4_readNoise) (v := 1) 12 rfl dX4_readNoise_11 (by decide) ?_
    refine E_goto (M := mX4_readNoise) 16 (by decide) dX4_readNoise_12 ?_
    refine E_sub (M := mX4_readNoise) (lv' := [(0, .ref 1), (1, .ref x1), (2, .int v1)]) [1, 2, 0] rfl ?_
    exact S_X4_readNoise_16 x1 v1 true hx1 I L _ h
theorem C_X4_readNoise {g : Gx} {x1 : Nat} (hx1 : isH x1) {I : MI} {L : ML} {res : (String ⊕ Unit) × MI × ML} (h : f_X4_readNoise x1 I L = some res) : Ent g 9 (bS res.1) mX4_readNoise [.ref 1, .ref x1] (I, L) (rU res.1) (res.2.1, res.2.2) := Ent_of (by decide +kernel) (Nat.le_of_ble_eq_true rfl) (S_X4_readNoise x1 hx1 I L _ h)
def f_X4_readLine_179 (I : MI) (L : ML) : Option ((String ⊕ Unit) × MI × ML) := some (.inr (), I, L)
set_option maxRecDepth 100000 in
theorem S_X4_readLine_179 {g : Gx} (I : MI) (L : ML) (res : (String ⊕ Unit) × MI × ML) (h : f_X4_readLine_179 I L = some res) : E g 10 (bS res.1) mX4_readLine 179 [] [] (I, L) (rU res.1) (res.2.1, res.2.2) := by
  unfold f_X4_readLine_179 at h
  cases h
  exact E_vret (M := mX4_readLine) rfl dX4_readLine_179
def f_X4_readLine_116 (x1 : Nat) (y1 : Nat) (y2 : Bool) (I : MI) (L : ML) : Option ((String ⊕ Unit) × MI × ML) := Option.bind (f_X4_begins y1 y2 I L) fun w1 => xc w1 fun v3 => if v3 = true then (Option.bind (f_X4_readNoise x1 w1.2.1 w1.2.2) fun w23 => xc w23 fun _ => f_X4_readLine_179 w23.2.1 w23.2.2) else (Option.bind (f_X4_begins 14 true w1.2.1 w1.2.2) fun w5 => xc w5 fun v7 => if v7 = true then (Option.bind (f_X8_needNumber 0 100 w5.2.1 w5.2.2) fun w19 => xc w19 fun v21 => Option.bind (pfI w19.2.1 x1 13 v21) fun I22 => f_X4_readLine_179 I22 w19.2.2) else (Option.bind (f_X8_needWord 15 w5.2.1 w5.2.2) fun w9 => xc w9 fun _ => Option.bind (f_X4_readRoom x1 w9.2.1 w9.2.2) fun w12 => xc w12 fun v14 => Option.bind (f_X8_needNumber 0 20 w12.2.1 w12.2.2) fun w15 => xc w15 fun v17 => Option.bind (stI w15.2.1 (x1 + 1) 10 v14 v17) fun I18 => f_X4_readLine_179 I18 w15.2.2))
set_option maxRecDepth 100000 in
theorem S_X4_readLine_116 {g : Gx} (x1 : Nat) (y1 : Nat) (y2 : Bool) (hx1 : isH x1) (hy1 : y1 < 66) (I : MI) (L : ML) (res : (String ⊕ Unit) × MI × ML) (h : f_X4_readLine_116 x1 y1 y2 I L = some res) : E g 10 (bS res.1) mX4_readLine 116 [(0, .ref 1), (1, .ref x1)] [.int (bI y2), .ref (100000 + y1), .ref 1] (I, L) (rU res.1) (res.2.1, res.2.2) := by
  unfold f_X4_readLine_116 at h
  replace h := Option.bind_eq_some_iff.mp h
  obtain ⟨w1, hw1, h⟩ := h
  replace h := xc_s h
  rcases h with ⟨ex2, hex2, rfl⟩ | ⟨v3, hv3, h⟩
  · have hc := (C_X4_begins (g := g) hy1 hw1)
    rw [hex2] at hc
    exact E_callSX (M := mX4_readLine) (As := [.ref 1, .ref (100000 + y1), .int (bI y2)]) dX4_readLine_116 ck_X4_36 ss_X4_begins rfl (by decide) (Nat.le_of_ble_eq_true rfl) hc rfl
  have hcv3 := (C_X4_begins (g := g) hy1 hw1)
  rw [hv3] at hcv3
  refine E_cS1 (M := mX4_readLine) (As := [.ref 1, .ref (100000 + y1), .int (bI y2)]) 119 rfl dX4_readLine_116 ck_X4_36 ss_X4_begins rfl (by decide) (Nat.le_of_ble_eq_true rfl) hcv3 rfl ?_
  refine E_if_eqB (M := mX4_readLine) 130 122 (by decide) rfl dX4_readLine_119 (fun c4 => ?_) (fun c4 => ?_)
  · rw [if_neg (by rw [c4]; decide)] at h
    refine E_aload_n (M := mX4_readLine) 131 rfl dX4_readLine_130 rfl 0 rfl ?_
    refine E_ldcS (M := mX4_readLine) 14 (by decide) 133 rfl dX4_readLine_131 rfl ?_
    refine E_iconst (M := mX4_readLine) (v := 1) 134 rfl dX4_readLine_133 (by decide) ?_
    replace h := Option.bind_eq_some_iff.mp h
    obtain ⟨w5, hw5, h⟩ := h
    replace h := xc_s h
    rcases h with ⟨ex6, hex6, rfl⟩ | ⟨v7, hv7, h⟩
    · have hc := (C_X4_begins (g := g) (by decide) hw5)
      rw [hex6] at hc
      exact E_callSX (M := mX4_readLine) (As := [.ref 1, .ref (100000 + 14), .int (bI true)]) dX4_readLine_134 ck_X4_36 ss_X4_begins rfl (by decide) (Nat.le_of_ble_eq_true rfl) hc rfl
    have hcv7 := (C_X4_begins (g := g) (by decide) hw5)
    rw [hv7] at hcv7
    refine E_cS1 (M := mX4_readLine) (As := [.ref 1, .ref (100000 + 14), .int (bI true)]) 137 rfl dX4_readLine_134 ck_X4_36 ss_X4_begins rfl (by decide) (Nat.le_of_ble_eq_true rfl) hcv7 rfl ?_
    refine E_if_eqB (M := mX4_readLine) 154 140 (by decide) rfl dX4_readLine_137 (fun c8 => ?_) (fun c8 => ?_)
    · rw [if_neg (by rw [c8]; decide)] at h
      refine E_aload_n (M := mX4_readLine) 155 rfl dX4_readLine_154 rfl 0 rfl ?_
      refine E_ldcS (M := mX4_readLine) 15 (by decide) 157 rfl dX4_readLine_155 rfl ?_
      replace h := Option.bind_eq_some_iff.mp h
      obtain ⟨w9, hw9, h⟩ := h
      replace h := xc_s h
      rcases h with ⟨ex10, hex10, rfl⟩ | ⟨v11, hv11, h⟩
      · have hc := (C_X8_needWord (g := g) (by decide) hw9)
        rw [hex10] at hc
        exact E_callVX (M := mX4_readLine) (As := [.ref (100000 + 15)]) dX4_readLine_157 shc_1 ck_X4_78 cv_X8_needWord rfl (by decide) (Nat.le_of_ble_eq_true rfl) hc rfl
      have hcv11 := (C_X8_needWord (g := g) (by decide) hw9)
      rw [hv11] at hcv11
      refine E_cV0 (M := mX4_readLine) (As := [.ref (100000 + 15)]) 160 rfl dX4_readLine_157 shc_1 ck_X4_78 cv_X8_needWord rfl (by decide) (Nat.le_of_ble_eq_true rfl) hcv11 rfl ?_
      refine E_aload_n (M := mX4_readLine) 161 rfl dX4_readLine_160 rfl 0 rfl ?_
      refine E_aload_n (M := mX4_readLine) 162 rfl dX4_readLine_161 rfl 1 rfl ?_
      replace h := Option.bind_eq_some_iff.mp h
      obtain ⟨w12, hw12, h⟩ := h
      replace h := xc_s h
      rcases h with ⟨ex13, hex13, rfl⟩ | ⟨v14, hv14, h⟩
      · have hc := (C_X4_readRoom (g := g) hx1 hw12)
        rw [hex13] at hc
        exact E_callSX (M := mX4_readLine) (As := [.ref 1, .ref x1]) dX4_readLine_162 ck_X4_82 ss_X4_readRoom rfl (by decide) (Nat.le_of_ble_eq_true rfl) hc rfl
      have hcv14 := (C_X4_readRoom (g := g) hx1 hw12)
      rw [hv14] at hcv14
      refine E_cS1 (M := mX4_readLine) (As := [.ref 1, .ref x1]) 165 rfl dX4_readLine_162 ck_X4_82 ss_X4_readRoom rfl (by decide) (Nat.le_of_ble_eq_true rfl) hcv14 rfl ?_
      refine E_istore_n (M := mX4_readLine) (lv' := [(2, .int v14), (0, .ref 1), (1, .ref x1)]) 166 rfl dX4_readLine_165 rfl (Nat.le_of_ble_eq_true rfl) rfl ?_
      refine E_aload_n (M := mX4_readLine) 167 rfl dX4_readLine_166 rfl 2 rfl ?_
      refine E_gR (M := mX4_readLine) (x1 + 1) 170 rfl dX4_readLine_167 (sh_H hx1) fl_X4_86 rfl (rt_H4 hx1) (H_lt hx1 1 (by decide)) ?_
      refine E_iload_n (M := mX4_readLine) 171 rfl dX4_readLine_170 rfl 0 rfl ?_
      refine E_aload_n (M := mX4_readLine) 172 rfl dX4_readLine_171 rfl 1 rfl ?_
      refine E_iconst (M := mX4_readLine) (v := 0) 173 rfl dX4_readLine_172 (by decide) ?_
      refine E_bipush (M := mX4_readLine) (v := 20) 175 rfl dX4_readLine_173 (by decide) ?_
      replace h := Option.bind_eq_some_iff.mp h
      obtain ⟨w15, hw15, h⟩ := h
      replace h := xc_s h
      rcases h with ⟨ex16, hex16, rfl⟩ | ⟨v17, hv17, h⟩
      · have hc := (C_X8_needNumber (g := g) hw15)
        rw [hex16] at hc
        exact E_callVX (M := mX4_readLine) (As := [.int 0, .int 20]) dX4_readLine_175 shc_1 ck_X4_40 cv_X8_needNumber rfl (by decide) (Nat.le_of_ble_eq_true rfl) hc rfl
      have hcv17 := (C_X8_needNumber (g := g) hw15)
      rw [hv17] at hcv17
      refine E_cV1 (M := mX4_readLine) (As := [.int 0, .int 20]) 178 rfl dX4_readLine_175 shc_1 ck_X4_40 cv_X8_needNumber rfl (by decide) (Nat.le_of_ble_eq_true rfl) hcv17 rfl ?_
      replace h := Option.bind_eq_some_iff.mp h
      obtain ⟨I18, hI18, h⟩ := h
      refine E_stI (M := mX4_readLine) 179 rfl dX4_readLine_178 (sh_H1 hx1) hI18 ?_
      refine E_sub (M := mX4_readLine) (lv' := []) [] rfl ?_
      exact S_X4_readLine_179 I18 w15.2.2 _ h
    · rw [if_pos c8] at h
      refine E_aload_n (M := mX4_readLine) 141 rfl dX4_readLine_140 rfl 1 rfl ?_
      refine E_aload_n (M := mX4_readLine) 142 rfl dX4_readLine_141 rfl 0 rfl ?_
      refine E_iconst (M := mX4_readLine) (v := 0) 143 rfl dX4_readLine_142 (by decide) ?_
      refine E_bipush (M := mX4_readLine) (v := 100) 145 rfl dX4_readLine_143 (by decide) ?_
      replace h := Option.bind_eq_some_iff.mp h
      obtain ⟨w19, hw19, h⟩ := h
      replace h := xc_s h
      rcases h with ⟨ex20, hex20, rfl⟩ | ⟨v21, hv21, h⟩
      · have hc := (C_X8_needNumber (g := g) hw19)
        rw [hex20] at hc
        exact E_callVX (M := mX4_readLine) (As := [.int 0, .int 100]) dX4_readLine_145 shc_1 ck_X4_40 cv_X8_needNumber rfl (by decide) (Nat.le_of_ble_eq_true rfl) hc rfl
      have hcv21 := (C_X8_needNumber (g := g) hw19)
      rw [hv21] at hcv21
      refine E_cV1 (M := mX4_readLine) (As := [.int 0, .int 100]) 148 rfl dX4_readLine_145 shc_1 ck_X4_40 cv_X8_needNumber rfl (by decide) (Nat.le_of_ble_eq_true rfl) hcv21 rfl ?_
      replace h := Option.bind_eq_some_iff.mp h
      obtain ⟨I22, hI22, h⟩ := h
      refine E_pfI (M := mX4_readLine) 151 rfl dX4_readLine_148 (sh_H hx1) fl_X4_74 rfl hI22 ?_
      refine E_goto (M := mX4_readLine) 179 (by decide) dX4_readLine_151 ?_
      refine E_sub (M := mX4_readLine) (lv' := []) [] rfl ?_
      exact S_X4_readLine_179 I22 w19.2.2 _ h
  · rw [if_pos c4] at h
    refine E_aload_n (M := mX4_readLine) 123 rfl dX4_readLine_122 rfl 0 rfl ?_
    refine E_aload_n (M := mX4_readLine) 124 rfl dX4_readLine_123 rfl 1 rfl ?_
    replace h := Option.bind_eq_some_iff.mp h
    obtain ⟨w23, hw23, h⟩ := h
    replace h := xc_s h
    rcases h with ⟨ex24, hex24, rfl⟩ | ⟨v25, hv25, h⟩
    · have hc := (C_X4_readNoise (g := g) hx1 hw23)
      rw [hex24] at hc
      exact E_callSX (M := mX4_readLine) (As := [.ref 1, .ref x1]) dX4_readLine_124 ck_X4_69 ss_X4_readNoise rfl (by decide) (Nat.le_of_ble_eq_true rfl) hc rfl
    have hcv25 := (C_X4_readNoise (g := g) hx1 hw23)
    rw [hv25] at hcv25
    refine E_cS0 (M := mX4_readLine) (As := [.ref 1, .ref x1]) 127 rfl dX4_readLine_124 ck_X4_69 ss_X4_readNoise rfl (by decide) (Nat.le_of_ble_eq_true rfl) hcv25 rfl ?_
    refine E_goto (M := mX4_readLine) 179 (by decide) dX4_readLine_127 ?_
    refine E_sub (M := mX4_readLine) (lv' := []) [] rfl ?_
    exact S_X4_readLine_179 w23.2.1 w23.2.2 _ h
def f_X4_readLine_85 (x1 : Nat) (y1 : Nat) (y2 : Bool) (I : MI) (L : ML) : Option ((String ⊕ Unit) × MI × ML) := Option.bind (f_X4_begins y1 y2 I L) fun w1 => xc w1 fun v3 => if v3 = true then (Option.bind (f_X4_readHeir x1 w1.2.1 w1.2.2) fun w6 => xc w6 fun _ => f_X4_readLine_179 w6.2.1 w6.2.2) else (if 12 ≤ (w1.2.1 x1 3) then (f_X4_readLine_116 x1 6 false w1.2.1 w1.2.2) else (f_X4_readLine_116 x1 6 true w1.2.1 w1.2.2))
set_option maxRecDepth 100000 in
theorem S_X4_readLine_85 {g : Gx} (x1 : Nat) (y1 : Nat) (y2 : Bool) (hx1 : isH x1) (hy1 : y1 < 66) (I : MI) (L : ML) (res : (String ⊕ Unit) × MI × ML) (h : f_X4_readLine_85 x1 y1 y2 I L = some res) : E g 10 (bS res.1) mX4_readLine 85 [(0, .ref 1), (1, .ref x1)] [.int (bI y2), .ref (100000 + y1), .ref 1] (I, L) (rU res.1) (res.2.1, res.2.2) := by
  unfold f_X4_readLine_85 at h
  replace h := Option.bind_eq_some_iff.mp h
  obtain ⟨w1, hw1, h⟩ := h
  replace h := xc_s h
  rcases h with ⟨ex2, hex2, rfl⟩ | ⟨v3, hv3, h⟩
  · have hc := (C_X4_begins (g := g) hy1 hw1)
    rw [hex2] at hc
    exact E_callSX (M := mX4_readLine) (As := [.ref 1, .ref (100000 + y1), .int (bI y2)]) dX4_readLine_85 ck_X4_36 ss_X4_begins rfl (by decide) (Nat.le_of_ble_eq_true rfl) hc rfl
  have hcv3 := (C_X4_begins (g := g) hy1 hw1)
  rw [hv3] at hcv3
  refine E_cS1 (M := mX4_readLine) (As := [.ref 1, .ref (100000 + y1), .int (bI y2)]) 88 rfl dX4_readLine_85 ck_X4_36 ss_X4_begins rfl (by decide) (Nat.le_of_ble_eq_true rfl) hcv3 rfl ?_
  refine E_if_eqB (M := mX4_readLine) 99 91 (by decide) rfl dX4_readLine_88 (fun c4 => ?_) (fun c4 => ?_)
  · rw [if_neg (by rw [c4]; decide)] at h
    refine E_aload_n (M := mX4_readLine) 100 rfl dX4_readLine_99 rfl 0 rfl ?_
    refine E_ldcS (M := mX4_readLine) 6 (by decide) 102 rfl dX4_readLine_100 rfl ?_
    refine E_aload_n (M := mX4_readLine) 103 rfl dX4_readLine_102 rfl 1 rfl ?_
    refine E_gI (M := mX4_readLine) 106 rfl dX4_readLine_103 (sh_H hx1) fl_X4_66 rfl ?_
    refine E_bipush (M := mX4_readLine) (v := 12) 108 rfl dX4_readLine_106 (by decide) ?_
    refine E_icmp_ge (M := mX4_readLine) 115 111 (by decide) rfl dX4_readLine_108 (fun c5 => ?_) (fun c5 => ?_)
    · rw [if_pos c5] at h
      refine E_iconst (M := mX4_readLine) (v := 0) 116 rfl dX4_readLine_115 (by decide) ?_
      refine E_sub (M := mX4_readLine) (lv' := [(0, .ref 1), (1, .ref x1)]) [0, 1] rfl ?_
      exact S_X4_readLine_116 x1 6 false hx1 (by decide) w1.2.1 w1.2.2 _ h
    · rw [if_neg c5] at h
      refine E_iconst (M := mX4_readLine) (v := 1) 112 rfl dX4_readLine_111 (by decide) ?_
      refine E_goto (M := mX4_readLine) 116 (by decide) dX4_readLine_112 ?_
      refine E_sub (M := mX4_readLine) (lv' := [(0, .ref 1), (1, .ref x1)]) [0, 1] rfl ?_
      exact S_X4_readLine_116 x1 6 true hx1 (by decide) w1.2.1 w1.2.2 _ h
  · rw [if_pos c4] at h
    refine E_aload_n (M := mX4_readLine) 92 rfl dX4_readLine_91 rfl 0 rfl ?_
    refine E_aload_n (M := mX4_readLine) 93 rfl dX4_readLine_92 rfl 1 rfl ?_
    replace h := Option.bind_eq_some_iff.mp h
    obtain ⟨w6, hw6, h⟩ := h
    replace h := xc_s h
    rcases h with ⟨ex7, hex7, rfl⟩ | ⟨v8, hv8, h⟩
    · have hc := (C_X4_readHeir (g := g) hx1 hw6)
      rw [hex7] at hc
      exact E_callSX (M := mX4_readLine) (As := [.ref 1, .ref x1]) dX4_readLine_93 ck_X4_61 ss_X4_readHeir rfl (by decide) (Nat.le_of_ble_eq_true rfl) hc rfl
    have hcv8 := (C_X4_readHeir (g := g) hx1 hw6)
    rw [hv8] at hcv8
    refine E_cS0 (M := mX4_readLine) (As := [.ref 1, .ref x1]) 96 rfl dX4_readLine_93 ck_X4_61 ss_X4_readHeir rfl (by decide) (Nat.le_of_ble_eq_true rfl) hcv8 rfl ?_
    refine E_goto (M := mX4_readLine) 179 (by decide) dX4_readLine_96 ?_
    refine E_sub (M := mX4_readLine) (lv' := []) [] rfl ?_
    exact S_X4_readLine_179 w6.2.1 w6.2.2 _ h
def f_X4_readLine_54 (x1 : Nat) (y1 : Nat) (y2 : Bool) (I : MI) (L : ML) : Option ((String ⊕ Unit) × MI × ML) := Option.bind (f_X4_begins y1 y2 I L) fun w1 => xc w1 fun v3 => if v3 = true then (Option.bind (f_X4_readDoor x1 w1.2.1 w1.2.2) fun w6 => xc w6 fun _ => f_X4_readLine_179 w6.2.1 w6.2.2) else (if 6 ≤ (w1.2.1 x1 2) then (f_X4_readLine_85 x1 3 false w1.2.1 w1.2.2) else (f_X4_readLine_85 x1 3 true w1.2.1 w1.2.2))
set_option maxRecDepth 100000 in
theorem S_X4_readLine_54 {g : Gx} (x1 : Nat) (y1 : Nat) (y2 : Bool) (hx1 : isH x1) (hy1 : y1 < 66) (I : MI) (L : ML) (res : (String ⊕ Unit) × MI × ML) (h : f_X4_readLine_54 x1 y1 y2 I L = some res) : E g 10 (bS res.1) mX4_readLine 54 [(0, .ref 1), (1, .ref x1)] [.int (bI y2), .ref (100000 + y1), .ref 1] (I, L) (rU res.1) (res.2.1, res.2.2) := by
  unfold f_X4_readLine_54 at h
  replace h := Option.bind_eq_some_iff.mp h
  obtain ⟨w1, hw1, h⟩ := h
  replace h := xc_s h
  rcases h with ⟨ex2, hex2, rfl⟩ | ⟨v3, hv3, h⟩
  · have hc := (C_X4_begins (g := g) hy1 hw1)
    rw [hex2] at hc
    exact E_callSX (M := mX4_readLine) (As := [.ref 1, .ref (100000 + y1), .int (bI y2)]) dX4_readLine_54 ck_X4_36 ss_X4_begins rfl (by decide) (Nat.le_of_ble_eq_true rfl) hc rfl
  have hcv3 := (C_X4_begins (g := g) hy1 hw1)
  rw [hv3] at hcv3
  refine E_cS1 (M := mX4_readLine) (As := [.ref 1, .ref (100000 + y1), .int (bI y2)]) 57 rfl dX4_readLine_54 ck_X4_36 ss_X4_begins rfl (by decide) (Nat.le_of_ble_eq_true rfl) hcv3 rfl ?_
  refine E_if_eqB (M := mX4_readLine) 68 60 (by decide) rfl dX4_readLine_57 (fun c4 => ?_) (fun c4 => ?_)
  · rw [if_neg (by rw [c4]; decide)] at h
    refine E_aload_n (M := mX4_readLine) 69 rfl dX4_readLine_68 rfl 0 rfl ?_
    refine E_ldcS (M := mX4_readLine) 3 (by decide) 71 rfl dX4_readLine_69 rfl ?_
    refine E_aload_n (M := mX4_readLine) 72 rfl dX4_readLine_71 rfl 1 rfl ?_
    refine E_gI (M := mX4_readLine) 75 rfl dX4_readLine_72 (sh_H hx1) fl_X4_58 rfl ?_
    refine E_bipush (M := mX4_readLine) (v := 6) 77 rfl dX4_readLine_75 (by decide) ?_
    refine E_icmp_ge (M := mX4_readLine) 84 80 (by decide) rfl dX4_readLine_77 (fun c5 => ?_) (fun c5 => ?_)
    · rw [if_pos c5] at h
      refine E_iconst (M := mX4_readLine) (v := 0) 85 rfl dX4_readLine_84 (by decide) ?_
      refine E_sub (M := mX4_readLine) (lv' := [(0, .ref 1), (1, .ref x1)]) [0, 1] rfl ?_
      exact S_X4_readLine_85 x1 3 false hx1 (by decide) w1.2.1 w1.2.2 _ h
    · rw [if_neg c5] at h
      refine E_iconst (M := mX4_readLine) (v := 1) 81 rfl dX4_readLine_80 (by decide) ?_
      refine E_goto (M := mX4_readLine) 85 (by decide) dX4_readLine_81 ?_
      refine E_sub (M := mX4_readLine) (lv' := [(0, .ref 1), (1, .ref x1)]) [0, 1] rfl ?_
      exact S_X4_readLine_85 x1 3 true hx1 (by decide) w1.2.1 w1.2.2 _ h
  · rw [if_pos c4] at h
    refine E_aload_n (M := mX4_readLine) 61 rfl dX4_readLine_60 rfl 0 rfl ?_
    refine E_aload_n (M := mX4_readLine) 62 rfl dX4_readLine_61 rfl 1 rfl ?_
    replace h := Option.bind_eq_some_iff.mp h
    obtain ⟨w6, hw6, h⟩ := h
    replace h := xc_s h
    rcases h with ⟨ex7, hex7, rfl⟩ | ⟨v8, hv8, h⟩
    · have hc := (C_X4_readDoor (g := g) hx1 hw6)
      rw [hex7] at hc
      exact E_callSX (M := mX4_readLine) (As := [.ref 1, .ref x1]) dX4_readLine_62 ck_X4_53 ss_X4_readDoor rfl (by decide) (Nat.le_of_ble_eq_true rfl) hc rfl
    have hcv8 := (C_X4_readDoor (g := g) hx1 hw6)
    rw [hv8] at hcv8
    refine E_cS0 (M := mX4_readLine) (As := [.ref 1, .ref x1]) 65 rfl dX4_readLine_62 ck_X4_53 ss_X4_readDoor rfl (by decide) (Nat.le_of_ble_eq_true rfl) hcv8 rfl ?_
    refine E_goto (M := mX4_readLine) 179 (by decide) dX4_readLine_65 ?_
    refine E_sub (M := mX4_readLine) (lv' := []) [] rfl ?_
    exact S_X4_readLine_179 w6.2.1 w6.2.2 _ h
def f_X4_readLine_17 (x1 : Nat) (y1 : Nat) (y2 : Bool) (I : MI) (L : ML) : Option ((String ⊕ Unit) × MI × ML) := Option.bind (f_X4_begins y1 y2 I L) fun w1 => xc w1 fun v3 => if v3 = true then (Option.bind (f_X8_needNumber 0 20 w1.2.1 w1.2.2) fun w6 => xc w6 fun v8 => Option.bind (f_X3_addRoom x1 v8 w6.2.1 w6.2.2) fun w9 => f_X4_readLine_179 w9.1 w9.2) else (if 14 ≤ (w1.2.1 x1 1) then (f_X4_readLine_54 x1 2 false w1.2.1 w1.2.2) else (f_X4_readLine_54 x1 2 true w1.2.1 w1.2.2))
set_option maxRecDepth 100000 in
theorem S_X4_readLine_17 {g : Gx} (x1 : Nat) (y1 : Nat) (y2 : Bool) (hx1 : isH x1) (hy1 : y1 < 66) (I : MI) (L : ML) (res : (String ⊕ Unit) × MI × ML) (h : f_X4_readLine_17 x1 y1 y2 I L = some res) : E g 10 (bS res.1) mX4_readLine 17 [(0, .ref 1), (1, .ref x1)] [.int (bI y2), .ref (100000 + y1), .ref 1] (I, L) (rU res.1) (res.2.1, res.2.2) := by
  unfold f_X4_readLine_17 at h
  replace h := Option.bind_eq_some_iff.mp h
  obtain ⟨w1, hw1, h⟩ := h
  replace h := xc_s h
  rcases h with ⟨ex2, hex2, rfl⟩ | ⟨v3, hv3, h⟩
  · have hc := (C_X4_begins (g := g) hy1 hw1)
    rw [hex2] at hc
    exact E_callSX (M := mX4_readLine) (As := [.ref 1, .ref (100000 + y1), .int (bI y2)]) dX4_readLine_17 ck_X4_36 ss_X4_begins rfl (by decide) (Nat.le_of_ble_eq_true rfl) hc rfl
  have hcv3 := (C_X4_begins (g := g) hy1 hw1)
  rw [hv3] at hcv3
  refine E_cS1 (M := mX4_readLine) (As := [.ref 1, .ref (100000 + y1), .int (bI y2)]) 20 rfl dX4_readLine_17 ck_X4_36 ss_X4_begins rfl (by decide) (Nat.le_of_ble_eq_true rfl) hcv3 rfl ?_
  refine E_if_eqB (M := mX4_readLine) 37 23 (by decide) rfl dX4_readLine_20 (fun c4 => ?_) (fun c4 => ?_)
  · rw [if_neg (by rw [c4]; decide)] at h
    refine E_aload_n (M := mX4_readLine) 38 rfl dX4_readLine_37 rfl 0 rfl ?_
    refine E_ldcS (M := mX4_readLine) 2 (by decide) 40 rfl dX4_readLine_38 rfl ?_
    refine E_aload_n (M := mX4_readLine) 41 rfl dX4_readLine_40 rfl 1 rfl ?_
    refine E_gI (M := mX4_readLine) 44 rfl dX4_readLine_41 (sh_H hx1) fl_X4_50 rfl ?_
    refine E_bipush (M := mX4_readLine) (v := 14) 46 rfl dX4_readLine_44 (by decide) ?_
    refine E_icmp_ge (M := mX4_readLine) 53 49 (by decide) rfl dX4_readLine_46 (fun c5 => ?_) (fun c5 => ?_)
    · rw [if_pos c5] at h
      refine E_iconst (M := mX4_readLine) (v := 0) 54 rfl dX4_readLine_53 (by decide) ?_
      refine E_sub (M := mX4_readLine) (lv' := [(0, .ref 1), (1, .ref x1)]) [0, 1] rfl ?_
      exact S_X4_readLine_54 x1 2 false hx1 (by decide) w1.2.1 w1.2.2 _ h
    · rw [if_neg c5] at h
      refine E_iconst (M := mX4_readLine) (v := 1) 50 rfl dX4_readLine_49 (by decide) ?_
      refine E_goto (M := mX4_readLine) 54 (by decide) dX4_readLine_50 ?_
      refine E_sub (M := mX4_readLine) (lv' := [(0, .ref 1), (1, .ref x1)]) [0, 1] rfl ?_
      exact S_X4_readLine_54 x1 2 true hx1 (by decide) w1.2.1 w1.2.2 _ h
  · rw [if_pos c4] at h
    refine E_aload_n (M := mX4_readLine) 24 rfl dX4_readLine_23 rfl 1 rfl ?_
    refine E_aload_n (M := mX4_readLine) 25 rfl dX4_readLine_24 rfl 0 rfl ?_
    refine E_iconst (M := mX4_readLine) (v := 0) 26 rfl dX4_readLine_25 (by decide) ?_
    refine E_bipush (M := mX4_readLine) (v := 20) 28 rfl dX4_readLine_26 (by decide) ?_
    replace h := Option.bind_eq_some_iff.mp h
    obtain ⟨w6, hw6, h⟩ := h
    replace h := xc_s h
    rcases h with ⟨ex7, hex7, rfl⟩ | ⟨v8, hv8, h⟩
    · have hc := (C_X8_needNumber (g := g) hw6)
      rw [hex7] at hc
      exact E_callVX (M := mX4_readLine) (As := [.int 0, .int 20]) dX4_readLine_28 shc_1 ck_X4_40 cv_X8_needNumber rfl (by decide) (Nat.le_of_ble_eq_true rfl) hc rfl
    have hcv8 := (C_X8_needNumber (g := g) hw6)
    rw [hv8] at hcv8
    refine E_cV1 (M := mX4_readLine) (As := [.int 0, .int 20]) 31 rfl dX4_readLine_28 shc_1 ck_X4_40 cv_X8_needNumber rfl (by decide) (Nat.le_of_ble_eq_true rfl) hcv8 rfl ?_
    replace h := Option.bind_eq_some_iff.mp h
    obtain ⟨w9, hw9, h⟩ := h
    refine E_cV0 (M := mX4_readLine) (As := [.int v8]) 34 rfl dX4_readLine_31 (sh_H hx1) ck_X4_44 cv_X3_addRoom rfl (by decide) (Nat.le_of_ble_eq_true rfl) (C_X3_addRoom (g := g) hx1 hw9) rfl ?_
    refine E_goto (M := mX4_readLine) 179 (by decide) dX4_readLine_34 ?_
    refine E_sub (M := mX4_readLine) (lv' := []) [] rfl ?_
    exact S_X4_readLine_179 w9.1 w9.2 _ h
def f_X4_readLine (x1 : Nat) (I : MI) (L : ML) : Option ((String ⊕ Unit) × MI × ML) := if 10 ≤ (I x1 0) then (f_X4_readLine_17 x1 1 false I L) else (f_X4_readLine_17 x1 1 true I L)
set_option maxRecDepth 100000 in
theorem S_X4_readLine {g : Gx} (x1 : Nat) (hx1 : isH x1) (I : MI) (L : ML) (res : (String ⊕ Unit) × MI × ML) (h : f_X4_readLine x1 I L = some res) : E g 10 (bS res.1) mX4_readLine 0 [(0, .ref 1), (1, .ref x1)] [] (I, L) (rU res.1) (res.2.1, res.2.2) := by
  unfold f_X4_readLine at h
  refine E_aload_n (M := mX4_readLine) 1 rfl dX4_readLine_0 rfl 0 rfl ?_
  refine E_ldcS (M := mX4_readLine) 1 (by decide) 3 rfl dX4_readLine_1 rfl ?_
  refine E_aload_n (M := mX4_readLine) 4 rfl dX4_readLine_3 rfl 1 rfl ?_
  refine E_gI (M := mX4_readLine) 7 rfl dX4_readLine_4 (sh_H hx1) fl_X4_30 rfl ?_
  refine E_bipush (M := mX4_readLine) (v := 10) 9 rfl dX4_readLine_7 (by decide) ?_
  refine E_icmp_ge (M := mX4_readLine) 16 12 (by decide) rfl dX4_readLine_9 (fun c1 => ?_) (fun c1 => ?_)
  · rw [if_pos c1] at h
    refine E_iconst (M := mX4_readLine) (v := 0) 17 rfl dX4_readLine_16 (by decide) ?_
    refine E_sub (M := mX4_readLine) (lv' := [(0, .ref 1), (1, .ref x1)]) [0, 1] rfl ?_
    exact S_X4_readLine_17 x1 1 false hx1 (by decide) I L _ h
  · rw [if_neg c1] at h
    refine E_iconst (M := mX4_readLine) (v := 1) 13 rfl dX4_readLine_12 (by decide) ?_
    refine E_goto (M := mX4_readLine) 17 (by decide) dX4_readLine_13 ?_
    refine E_sub (M := mX4_readLine) (lv' := [(0, .ref 1), (1, .ref x1)]) [0, 1] rfl ?_
    exact S_X4_readLine_17 x1 1 true hx1 (by decide) I L _ h
theorem C_X4_readLine {g : Gx} {x1 : Nat} (hx1 : isH x1) {I : MI} {L : ML} {res : (String ⊕ Unit) × MI × ML} (h : f_X4_readLine x1 I L = some res) : Ent g 10 (bS res.1) mX4_readLine [.ref 1, .ref x1] (I, L) (rU res.1) (res.2.1, res.2.2) := Ent_of (by decide +kernel) (Nat.le_of_ble_eq_true rfl) (S_X4_readLine x1 hx1 I L _ h)
def f_X4_read_56 (I : MI) (L : ML) : Option ((String ⊕ Unit) × MI × ML) := some (.inr (), I, L)
set_option maxRecDepth 100000 in
theorem S_X4_read_56 {g : Gx} (I : MI) (L : ML) (res : (String ⊕ Unit) × MI × ML) (h : f_X4_read_56 I L = some res) : E g 11 (bS res.1) mX4_read 56 [] [] (I, L) (rU res.1) (res.2.1, res.2.2) := by
  unfold f_X4_read_56 at h
  cases h
  exact E_vret (M := mX4_read) rfl dX4_read_56
def f_X4_read_37 (k15 : Nat → Bool → Int32 → MI → ML → Option ((String ⊕ Unit) × MI × ML)) (x1 : Nat) (x3 : Int32) (y1 : Bool) (I : MI) (L : ML) : Option ((String ⊕ Unit) × MI × ML) := Option.bind (f_X8_check y1 I L) fun w1 => xc w1 fun _ => Option.bind (f_X4_readLine x1 w1.2.1 w1.2.2) fun w4 => xc w4 fun _ => Option.bind (f_X8_hasNextLine w4.2.1 w4.2.2) fun w7 => xc w7 fun v9 => k15 x1 v9 (x3 + 1) w7.2.1 w7.2.2
set_option maxRecDepth 100000 in
theorem S_X4_read_37 {g : Gx} {k15 : Nat → Bool → Int32 → MI → ML → Option ((String ⊕ Unit) × MI × ML)} (hk15 : ∀ (x1z : Nat) (x2z : Bool) (x3z : Int32) (hx1z : isH x1z) (I : MI) (L : ML) (res : (String ⊕ Unit) × MI × ML), k15 x1z x2z x3z I L = some res → E g 11 (bS res.1) mX4_read 15 [(0, .ref 1), (1, .ref x1z), (2, .int (bI x2z)), (3, .int x3z)] [] (I, L) (rU res.1) (res.2.1, res.2.2)) (x1 : Nat) (x3 : Int32) (y1 : Bool) (hx1 : isH x1) (I : MI) (L : ML) (res : (String ⊕ Unit) × MI × ML) (h : f_X4_read_37 k15 x1 x3 y1 I L = some res) : E g 11 (bS res.1) mX4_read 37 [(0, .ref 1), (1, .ref x1), (3, .int x3)] [.int (bI y1), .ref 1] (I, L) (rU res.1) (res.2.1, res.2.2) := by
  unfold f_X4_read_37 at h
  replace h := Option.bind_eq_some_iff.mp h
  obtain ⟨w1, hw1, h⟩ := h
  replace h := xc_s h
  rcases h with ⟨ex2, hex2, rfl⟩ | ⟨v3, hv3, h⟩
  · have hc := (C_X8_check (g := g) hw1)
    rw [hex2] at hc
    exact E_callVX (M := mX4_read) (As := [.int (bI y1)]) dX4_read_37 shc_1 ck_X4_15 cv_X8_check rfl (by decide) (Nat.le_of_ble_eq_true rfl) hc rfl
  have hcv3 := (C_X8_check (g := g) hw1)
  rw [hv3] at hcv3
  refine E_cV0 (M := mX4_read) (As := [.int (bI y1)]) 40 rfl dX4_read_37 shc_1 ck_X4_15 cv_X8_check rfl (by decide) (Nat.le_of_ble_eq_true rfl) hcv3 rfl ?_
  refine E_aload_n (M := mX4_read) 41 rfl dX4_read_40 rfl 0 rfl ?_
  refine E_aload_n (M := mX4_read) 42 rfl dX4_read_41 rfl 1 rfl ?_
  replace h := Option.bind_eq_some_iff.mp h
  obtain ⟨w4, hw4, h⟩ := h
  replace h := xc_s h
  rcases h with ⟨ex5, hex5, rfl⟩ | ⟨v6, hv6, h⟩
  · have hc := (C_X4_readLine (g := g) hx1 hw4)
    rw [hex5] at hc
    exact E_callSX (M := mX4_read) (As := [.ref 1, .ref x1]) dX4_read_42 ck_X4_19 ss_X4_readLine rfl (by decide) (Nat.le_of_ble_eq_true rfl) hc rfl
  have hcv6 := (C_X4_readLine (g := g) hx1 hw4)
  rw [hv6] at hcv6
  refine E_cS0 (M := mX4_read) (As := [.ref 1, .ref x1]) 45 rfl dX4_read_42 ck_X4_19 ss_X4_readLine rfl (by decide) (Nat.le_of_ble_eq_true rfl) hcv6 rfl ?_
  refine E_aload_n (M := mX4_read) 46 rfl dX4_read_45 rfl 0 rfl ?_
  replace h := Option.bind_eq_some_iff.mp h
  obtain ⟨w7, hw7, h⟩ := h
  replace h := xc_s h
  rcases h with ⟨ex8, hex8, rfl⟩ | ⟨v9, hv9, h⟩
  · have hc := (C_X8_hasNextLine (g := g) hw7)
    rw [hex8] at hc
    exact E_callVX (M := mX4_read) (As := []) dX4_read_46 shc_1 ck_X4_25 cv_X8_hasNextLine rfl (by decide) (Nat.le_of_ble_eq_true rfl) hc rfl
  have hcv9 := (C_X8_hasNextLine (g := g) hw7)
  rw [hv9] at hcv9
  refine E_cV1 (M := mX4_read) (As := []) 49 rfl dX4_read_46 shc_1 ck_X4_25 cv_X8_hasNextLine rfl (by decide) (Nat.le_of_ble_eq_true rfl) hcv9 rfl ?_
  refine E_istore_n (M := mX4_read) (lv' := [(2, .int (bI v9)), (0, .ref 1), (1, .ref x1), (3, .int x3)]) 50 rfl dX4_read_49 rfl (Nat.le_of_ble_eq_true rfl) rfl ?_
  refine E_iinc (M := mX4_read) (j := 3) (v := x3 + 1) (lv' := [(3, .int (x3 + 1)), (2, .int (bI v9)), (0, .ref 1), (1, .ref x1)]) 53 rfl dX4_read_50 rfl rfl (Nat.le_of_ble_eq_true rfl) rfl ?_
  refine E_goto (M := mX4_read) 15 (by decide) dX4_read_53 ?_
  refine E_sub (M := mX4_read) (lv' := [(0, .ref 1), (1, .ref x1), (2, .int (bI v9)), (3, .int (x3 + 1))]) [2, 3, 1, 0] rfl ?_
  exact hk15 x1 v9 (x3 + 1) hx1 w7.2.1 w7.2.2 _ h
def f_X4_read_15 : Nat → Nat → Bool → Int32 → MI → ML → Option ((String ⊕ Unit) × MI × ML)
  | 0, _, _, _, _, _ => none
  | n + 1, x1, x2, x3, I, L => if x2 = true then (if 14 < x3 then (f_X4_read_56 I L) else (if 14 ≤ x3 then (f_X4_read_37 (f_X4_read_15 n) x1 x3 false I L) else (f_X4_read_37 (f_X4_read_15 n) x1 x3 true I L))) else (f_X4_read_56 I L)
set_option maxRecDepth 100000 in
theorem S_X4_read_15 {g : Gx} : ∀ (n : Nat) (x1 : Nat) (x2 : Bool) (x3 : Int32) (hx1 : isH x1) (I : MI) (L : ML) (res : (String ⊕ Unit) × MI × ML), f_X4_read_15 n x1 x2 x3 I L = some res → E g 11 (bS res.1) mX4_read 15 [(0, .ref 1), (1, .ref x1), (2, .int (bI x2)), (3, .int x3)] [] (I, L) (rU res.1) (res.2.1, res.2.2) := by
  intro n
  induction n with
  | zero =>
    intros
    rename_i h
    cases h
  | succ n ih =>
    intro x1 x2 x3 hx1 I L res h
    rw [f_X4_read_15] at h
    refine E_iload_n (M := mX4_read) 16 rfl dX4_read_15 rfl 2 rfl ?_
    refine E_if_eqB (M := mX4_read) 56 19 (by decide) rfl dX4_read_16 (fun c1 => ?_) (fun c1 => ?_)
    · rw [if_neg (by rw [c1]; decide)] at h
      refine E_sub (M := mX4_read) (lv' := []) [] rfl ?_
      exact S_X4_read_56 I L _ h
    · rw [if_pos c1] at h
      refine E_iload_n (M := mX4_read) 20 rfl dX4_read_19 rfl 3 rfl ?_
      refine E_bipush (M := mX4_read) (v := 14) 22 rfl dX4_read_20 (by decide) ?_
      refine E_icmp_gt (M := mX4_read) 56 25 (by decide) rfl dX4_read_22 (fun c2 => ?_) (fun c2 => ?_)
      · rw [if_pos c2] at h
        refine E_sub (M := mX4_read) (lv' := []) [] rfl ?_
        exact S_X4_read_56 I L _ h
      · rw [if_neg c2] at h
        refine E_aload_n (M := mX4_read) 26 rfl dX4_read_25 rfl 0 rfl ?_
        refine E_iload_n (M := mX4_read) 27 rfl dX4_read_26 rfl 3 rfl ?_
        refine E_bipush (M := mX4_read) (v := 14) 29 rfl dX4_read_27 (by decide) ?_
        refine E_icmp_ge (M := mX4_read) 36 32 (by decide) rfl dX4_read_29 (fun c3 => ?_) (fun c3 => ?_)
        · rw [if_pos c3] at h
          refine E_iconst (M := mX4_read) (v := 0) 37 rfl dX4_read_36 (by decide) ?_
          refine E_sub (M := mX4_read) (lv' := [(0, .ref 1), (1, .ref x1), (3, .int x3)]) [0, 1, 3] rfl ?_
          exact S_X4_read_37 ih x1 x3 false hx1 I L _ h
        · rw [if_neg c3] at h
          refine E_iconst (M := mX4_read) (v := 1) 33 rfl dX4_read_32 (by decide) ?_
          refine E_goto (M := mX4_read) 37 (by decide) dX4_read_33 ?_
          refine E_sub (M := mX4_read) (lv' := [(0, .ref 1), (1, .ref x1), (3, .int x3)]) [0, 1, 3] rfl ?_
          exact S_X4_read_37 ih x1 x3 true hx1 I L _ h
def f_X4_read_12 (x1 : Nat) (y0 : Bool) (I : MI) (L : ML) : Option ((String ⊕ Unit) × MI × ML) := f_X4_read_15 FU x1 y0 0 I L
set_option maxRecDepth 100000 in
theorem S_X4_read_12 {g : Gx} (x1 : Nat) (y0 : Bool) (hx1 : isH x1) (I : MI) (L : ML) (res : (String ⊕ Unit) × MI × ML) (h : f_X4_read_12 x1 y0 I L = some res) : E g 11 (bS res.1) mX4_read 12 [(0, .ref 1), (1, .ref x1)] [.int (bI y0)] (I, L) (rU res.1) (res.2.1, res.2.2) := by
  unfold f_X4_read_12 at h
  refine E_istore_n (M := mX4_read) (lv' := [(2, .int (bI y0)), (0, .ref 1), (1, .ref x1)]) 13 rfl dX4_read_12 rfl (Nat.le_of_ble_eq_true rfl) rfl ?_
  refine E_iconst (M := mX4_read) (v := 0) 14 rfl dX4_read_13 (by decide) ?_
  refine E_istore_n (M := mX4_read) (lv' := [(3, .int 0), (2, .int (bI y0)), (0, .ref 1), (1, .ref x1)]) 15 rfl dX4_read_14 rfl (Nat.le_of_ble_eq_true rfl) rfl ?_
  refine E_sub (M := mX4_read) (lv' := [(0, .ref 1), (1, .ref x1), (2, .int (bI y0)), (3, .int 0)]) [2, 3, 1, 0] rfl ?_
  exact S_X4_read_15 FU x1 y0 0 hx1 I L _ h
def f_X4_read (x1 : Nat) (I : MI) (L : ML) : Option ((String ⊕ Unit) × MI × ML) := Option.bind (f_X8_isOver I L) fun v1 => if v1 = true then (f_X4_read_12 x1 false I L) else (f_X4_read_12 x1 true I L)
set_option maxRecDepth 100000 in
theorem S_X4_read {g : Gx} (x1 : Nat) (hx1 : isH x1) (I : MI) (L : ML) (res : (String ⊕ Unit) × MI × ML) (h : f_X4_read x1 I L = some res) : E g 11 (bS res.1) mX4_read 0 [(0, .ref 1), (1, .ref x1)] [] (I, L) (rU res.1) (res.2.1, res.2.2) := by
  unfold f_X4_read at h
  refine E_aload_n (M := mX4_read) 1 rfl dX4_read_0 rfl 0 rfl ?_
  replace h := Option.bind_eq_some_iff.mp h
  obtain ⟨v1, hv1, h⟩ := h
  refine E_cV1 (M := mX4_read) (As := []) 4 rfl dX4_read_1 shc_1 ck_X4_9 cv_X8_isOver rfl (by decide) (Nat.le_of_ble_eq_true rfl) (C_X8_isOver (g := g) hv1) rfl ?_
  refine E_if_neB (M := mX4_read) 11 7 (by decide) rfl dX4_read_4 (fun c2 => ?_) (fun c2 => ?_)
  · rw [if_pos c2] at h
    refine E_iconst (M := mX4_read) (v := 0) 12 rfl dX4_read_11 (by decide) ?_
    refine E_sub (M := mX4_read) (lv' := [(0, .ref 1), (1, .ref x1)]) [0, 1] rfl ?_
    exact S_X4_read_12 x1 false hx1 I L _ h
  · rw [if_neg (by rw [c2]; decide)] at h
    refine E_iconst (M := mX4_read) (v := 1) 8 rfl dX4_read_7 (by decide) ?_
    refine E_goto (M := mX4_read) 12 (by decide) dX4_read_8 ?_
    refine E_sub (M := mX4_read) (lv' := [(0, .ref 1), (1, .ref x1)]) [0, 1] rfl ?_
    exact S_X4_read_12 x1 true hx1 I L _ h
theorem C_X4_read {g : Gx} {x1 : Nat} (hx1 : isH x1) {I : MI} {L : ML} {res : (String ⊕ Unit) × MI × ML} (h : f_X4_read x1 I L = some res) : Ent g 11 (bS res.1) mX4_read [.ref 1, .ref x1] (I, L) (rU res.1) (res.2.1, res.2.2) := Ent_of (by decide +kernel) (Nat.le_of_ble_eq_true rfl) (S_X4_read x1 hx1 I L _ h)
def f_X10_plainCode_30 (y0 : Int32) (I : MI) (L : ML) : Option (Int32) := some y0
set_option maxRecDepth 100000 in
theorem S_X10_plainCode_30 {g : Gx} (y0 : Int32) (I : MI) (L : ML) (res : Int32) (h : f_X10_plainCode_30 y0 I L = some res) : E g 7 0 mX10_plainCode 30 [] [.int y0] (I, L) (.inl (some (.int res))) (I, L) := by
  unfold f_X10_plainCode_30 at h
  cases h
  exact E_iret (M := mX10_plainCode) rfl dX10_plainCode_30
def f_X10_plainCode (I : MI) (L : ML) : Option (Int32) := Option.bind (f_X8_isWord 22 I L) fun v1 => if v1 = true then (f_X10_plainCode_30 4 I L) else (Option.bind (f_X8_isWord 23 I L) fun v3 => if v3 = true then (f_X10_plainCode_30 5 I L) else (Option.bind (f_X8_kindHere I L) fun v5 => f_X10_plainCode_30 v5 I L))
set_option maxRecDepth 100000 in
theorem S_X10_plainCode {g : Gx} (I : MI) (L : ML) (res : Int32) (h : f_X10_plainCode I L = some res) : E g 7 0 mX10_plainCode 0 [(0, .ref 1)] [] (I, L) (.inl (some (.int res))) (I, L) := by
  unfold f_X10_plainCode at h
  refine E_aload_n (M := mX10_plainCode) 1 rfl dX10_plainCode_0 rfl 0 rfl ?_
  refine E_ldcS (M := mX10_plainCode) 22 (by decide) 3 rfl dX10_plainCode_1 rfl ?_
  replace h := Option.bind_eq_some_iff.mp h
  obtain ⟨v1, hv1, h⟩ := h
  refine E_cV1 (M := mX10_plainCode) (As := [.ref (100000 + 22)]) 6 rfl dX10_plainCode_3 shc_1 ck_X10_77 cv_X8_isWord rfl (by decide) (Nat.le_of_ble_eq_true rfl) (C_X8_isWord (g := g) (by decide) hv1) rfl ?_
  refine E_if_eqB (M := mX10_plainCode) 13 9 (by decide) rfl dX10_plainCode_6 (fun c2 => ?_) (fun c2 => ?_)
  · rw [if_neg (by rw [c2]; decide)] at h
    refine E_aload_n (M := mX10_plainCode) 14 rfl dX10_plainCode_13 rfl 0 rfl ?_
    refine E_ldcS (M := mX10_plainCode) 23 (by decide) 16 rfl dX10_plainCode_14 rfl ?_
    replace h := Option.bind_eq_some_iff.mp h
    obtain ⟨v3, hv3, h⟩ := h
    refine E_cV1 (M := mX10_plainCode) (As := [.ref (100000 + 23)]) 19 rfl dX10_plainCode_16 shc_1 ck_X10_77 cv_X8_isWord rfl (by decide) (Nat.le_of_ble_eq_true rfl) (C_X8_isWord (g := g) (by decide) hv3) rfl ?_
    refine E_if_eqB (M := mX10_plainCode) 26 22 (by decide) rfl dX10_plainCode_19 (fun c4 => ?_) (fun c4 => ?_)
    · rw [if_neg (by rw [c4]; decide)] at h
      refine E_aload_n (M := mX10_plainCode) 27 rfl dX10_plainCode_26 rfl 0 rfl ?_
      replace h := Option.bind_eq_some_iff.mp h
      obtain ⟨v5, hv5, h⟩ := h
      refine E_cV1 (M := mX10_plainCode) (As := []) 30 rfl dX10_plainCode_27 shc_1 ck_X10_102 cv_X8_kindHere rfl (by decide) (Nat.le_of_ble_eq_true rfl) (C_X8_kindHere (g := g) hv5) rfl ?_
      refine E_sub (M := mX10_plainCode) (lv' := []) [] rfl ?_
      exact S_X10_plainCode_30 v5 I L _ h
    · rw [if_pos c4] at h
      refine E_iconst (M := mX10_plainCode) (v := 5) 23 rfl dX10_plainCode_22 (by decide) ?_
      refine E_goto (M := mX10_plainCode) 30 (by decide) dX10_plainCode_23 ?_
      refine E_sub (M := mX10_plainCode) (lv' := []) [] rfl ?_
      exact S_X10_plainCode_30 5 I L _ h
  · rw [if_pos c2] at h
    refine E_iconst (M := mX10_plainCode) (v := 4) 10 rfl dX10_plainCode_9 (by decide) ?_
    refine E_goto (M := mX10_plainCode) 30 (by decide) dX10_plainCode_10 ?_
    refine E_sub (M := mX10_plainCode) (lv' := []) [] rfl ?_
    exact S_X10_plainCode_30 4 I L _ h
theorem C_X10_plainCode {g : Gx} {I : MI} {L : ML} {res : Int32} (h : f_X10_plainCode I L = some res) : Ent g 7 0 mX10_plainCode [.ref 1] (I, L) (.inl (some (.int res))) (I, L) := Ent_of (by decide +kernel) (Nat.le_of_ble_eq_true rfl) (S_X10_plainCode I L _ h)
def f_X10_wordCode_85 (y0 : Int32) (I : MI) (L : ML) : Option (Int32) := some y0
set_option maxRecDepth 100000 in
theorem S_X10_wordCode_85 {g : Gx} (y0 : Int32) (I : MI) (L : ML) (res : Int32) (h : f_X10_wordCode_85 y0 I L = some res) : E g 6 0 mX10_wordCode 85 [] [.int y0] (I, L) (.inl (some (.int res))) (I, L) := by
  unfold f_X10_wordCode_85 at h
  cases h
  exact E_iret (M := mX10_wordCode) rfl dX10_wordCode_85
def f_X10_wordCode (I : MI) (L : ML) : Option (Int32) := Option.bind (f_X8_isWord 24 I L) fun v1 => if v1 = true then (f_X10_wordCode_85 6 I L) else (Option.bind (f_X8_isWord 25 I L) fun v3 => if v3 = true then (f_X10_wordCode_85 7 I L) else (Option.bind (f_X8_isWord 26 I L) fun v5 => if v5 = true then (f_X10_wordCode_85 8 I L) else (Option.bind (f_X8_isWord 27 I L) fun v7 => if v7 = true then (f_X10_wordCode_85 9 I L) else (Option.bind (f_X8_isWord 28 I L) fun v9 => if v9 = true then (f_X10_wordCode_85 10 I L) else (Option.bind (f_X8_isWord 29 I L) fun v11 => if v11 = true then (f_X10_wordCode_85 11 I L) else (f_X10_wordCode_85 ((-1)) I L))))))
set_option maxRecDepth 100000 in
theorem S_X10_wordCode {g : Gx} (I : MI) (L : ML) (res : Int32) (h : f_X10_wordCode I L = some res) : E g 6 0 mX10_wordCode 0 [(0, .ref 1)] [] (I, L) (.inl (some (.int res))) (I, L) := by
  unfold f_X10_wordCode at h
  refine E_aload_n (M := mX10_wordCode) 1 rfl dX10_wordCode_0 rfl 0 rfl ?_
  refine E_ldcS (M := mX10_wordCode) 24 (by decide) 3 rfl dX10_wordCode_1 rfl ?_
  replace h := Option.bind_eq_some_iff.mp h
  obtain ⟨v1, hv1, h⟩ := h
  refine E_cV1 (M := mX10_wordCode) (As := [.ref (100000 + 24)]) 6 rfl dX10_wordCode_3 shc_1 ck_X10_77 cv_X8_isWord rfl (by decide) (Nat.le_of_ble_eq_true rfl) (C_X8_isWord (g := g) (by decide) hv1) rfl ?_
  refine E_if_eqB (M := mX10_wordCode) 14 9 (by decide) rfl dX10_wordCode_6 (fun c2 => ?_) (fun c2 => ?_)
  · rw [if_neg (by rw [c2]; decide)] at h
    refine E_aload_n (M := mX10_wordCode) 15 rfl dX10_wordCode_14 rfl 0 rfl ?_
    refine E_ldcS (M := mX10_wordCode) 25 (by decide) 17 rfl dX10_wordCode_15 rfl ?_
    replace h := Option.bind_eq_some_iff.mp h
    obtain ⟨v3, hv3, h⟩ := h
    refine E_cV1 (M := mX10_wordCode) (As := [.ref (100000 + 25)]) 20 rfl dX10_wordCode_17 shc_1 ck_X10_77 cv_X8_isWord rfl (by decide) (Nat.le_of_ble_eq_true rfl) (C_X8_isWord (g := g) (by decide) hv3) rfl ?_
    refine E_if_eqB (M := mX10_wordCode) 28 23 (by decide) rfl dX10_wordCode_20 (fun c4 => ?_) (fun c4 => ?_)
    · rw [if_neg (by rw [c4]; decide)] at h
      refine E_aload_n (M := mX10_wordCode) 29 rfl dX10_wordCode_28 rfl 0 rfl ?_
      refine E_ldcS (M := mX10_wordCode) 26 (by decide) 31 rfl dX10_wordCode_29 rfl ?_
      replace h := Option.bind_eq_some_iff.mp h
      obtain ⟨v5, hv5, h⟩ := h
      refine E_cV1 (M := mX10_wordCode) (As := [.ref (100000 + 26)]) 34 rfl dX10_wordCode_31 shc_1 ck_X10_77 cv_X8_isWord rfl (by decide) (Nat.le_of_ble_eq_true rfl) (C_X8_isWord (g := g) (by decide) hv5) rfl ?_
      refine E_if_eqB (M := mX10_wordCode) 42 37 (by decide) rfl dX10_wordCode_34 (fun c6 => ?_) (fun c6 => ?_)
      · rw [if_neg (by rw [c6]; decide)] at h
        refine E_aload_n (M := mX10_wordCode) 43 rfl dX10_wordCode_42 rfl 0 rfl ?_
        refine E_ldcS (M := mX10_wordCode) 27 (by decide) 45 rfl dX10_wordCode_43 rfl ?_
        replace h := Option.bind_eq_some_iff.mp h
        obtain ⟨v7, hv7, h⟩ := h
        refine E_cV1 (M := mX10_wordCode) (As := [.ref (100000 + 27)]) 48 rfl dX10_wordCode_45 shc_1 ck_X10_77 cv_X8_isWord rfl (by decide) (Nat.le_of_ble_eq_true rfl) (C_X8_isWord (g := g) (by decide) hv7) rfl ?_
        refine E_if_eqB (M := mX10_wordCode) 56 51 (by decide) rfl dX10_wordCode_48 (fun c8 => ?_) (fun c8 => ?_)
        · rw [if_neg (by rw [c8]; decide)] at h
          refine E_aload_n (M := mX10_wordCode) 57 rfl dX10_wordCode_56 rfl 0 rfl ?_
          refine E_ldcS (M := mX10_wordCode) 28 (by decide) 59 rfl dX10_wordCode_57 rfl ?_
          replace h := Option.bind_eq_some_iff.mp h
          obtain ⟨v9, hv9, h⟩ := h
          refine E_cV1 (M := mX10_wordCode) (As := [.ref (100000 + 28)]) 62 rfl dX10_wordCode_59 shc_1 ck_X10_77 cv_X8_isWord rfl (by decide) (Nat.le_of_ble_eq_true rfl) (C_X8_isWord (g := g) (by decide) hv9) rfl ?_
          refine E_if_eqB (M := mX10_wordCode) 70 65 (by decide) rfl dX10_wordCode_62 (fun c10 => ?_) (fun c10 => ?_)
          · rw [if_neg (by rw [c10]; decide)] at h
            refine E_aload_n (M := mX10_wordCode) 71 rfl dX10_wordCode_70 rfl 0 rfl ?_
            refine E_ldcS (M := mX10_wordCode) 29 (by decide) 73 rfl dX10_wordCode_71 rfl ?_
            replace h := Option.bind_eq_some_iff.mp h
            obtain ⟨v11, hv11, h⟩ := h
            refine E_cV1 (M := mX10_wordCode) (As := [.ref (100000 + 29)]) 76 rfl dX10_wordCode_73 shc_1 ck_X10_77 cv_X8_isWord rfl (by decide) (Nat.le_of_ble_eq_true rfl) (C_X8_isWord (g := g) (by decide) hv11) rfl ?_
            refine E_if_eqB (M := mX10_wordCode) 84 79 (by decide) rfl dX10_wordCode_76 (fun c12 => ?_) (fun c12 => ?_)
            · rw [if_neg (by rw [c12]; decide)] at h
              refine E_iconst (M := mX10_wordCode) (v := (-1)) 85 rfl dX10_wordCode_84 (by decide) ?_
              refine E_sub (M := mX10_wordCode) (lv' := []) [] rfl ?_
              exact S_X10_wordCode_85 ((-1)) I L _ h
            · rw [if_pos c12] at h
              refine E_bipush (M := mX10_wordCode) (v := 11) 81 rfl dX10_wordCode_79 (by decide) ?_
              refine E_goto (M := mX10_wordCode) 85 (by decide) dX10_wordCode_81 ?_
              refine E_sub (M := mX10_wordCode) (lv' := []) [] rfl ?_
              exact S_X10_wordCode_85 11 I L _ h
          · rw [if_pos c10] at h
            refine E_bipush (M := mX10_wordCode) (v := 10) 67 rfl dX10_wordCode_65 (by decide) ?_
            refine E_goto (M := mX10_wordCode) 85 (by decide) dX10_wordCode_67 ?_
            refine E_sub (M := mX10_wordCode) (lv' := []) [] rfl ?_
            exact S_X10_wordCode_85 10 I L _ h
        · rw [if_pos c8] at h
          refine E_bipush (M := mX10_wordCode) (v := 9) 53 rfl dX10_wordCode_51 (by decide) ?_
          refine E_goto (M := mX10_wordCode) 85 (by decide) dX10_wordCode_53 ?_
          refine E_sub (M := mX10_wordCode) (lv' := []) [] rfl ?_
          exact S_X10_wordCode_85 9 I L _ h
      · rw [if_pos c6] at h
        refine E_bipush (M := mX10_wordCode) (v := 8) 39 rfl dX10_wordCode_37 (by decide) ?_
        refine E_goto (M := mX10_wordCode) 85 (by decide) dX10_wordCode_39 ?_
        refine E_sub (M := mX10_wordCode) (lv' := []) [] rfl ?_
        exact S_X10_wordCode_85 8 I L _ h
    · rw [if_pos c4] at h
      refine E_bipush (M := mX10_wordCode) (v := 7) 25 rfl dX10_wordCode_23 (by decide) ?_
      refine E_goto (M := mX10_wordCode) 85 (by decide) dX10_wordCode_25 ?_
      refine E_sub (M := mX10_wordCode) (lv' := []) [] rfl ?_
      exact S_X10_wordCode_85 7 I L _ h
  · rw [if_pos c2] at h
    refine E_bipush (M := mX10_wordCode) (v := 6) 11 rfl dX10_wordCode_9 (by decide) ?_
    refine E_goto (M := mX10_wordCode) 85 (by decide) dX10_wordCode_11 ?_
    refine E_sub (M := mX10_wordCode) (lv' := []) [] rfl ?_
    exact S_X10_wordCode_85 6 I L _ h
theorem C_X10_wordCode {g : Gx} {I : MI} {L : ML} {res : Int32} (h : f_X10_wordCode I L = some res) : Ent g 6 0 mX10_wordCode [.ref 1] (I, L) (.inl (some (.int res))) (I, L) := Ent_of (by decide +kernel) (Nat.le_of_ble_eq_true rfl) (S_X10_wordCode I L _ h)
def f_X10_readSum_95 (I : MI) (L : ML) : Option ((String ⊕ Unit) × MI × ML) := some (.inr (), I, L)
set_option maxRecDepth 100000 in
theorem S_X10_readSum_95 {g : Gx} (I : MI) (L : ML) (res : (String ⊕ Unit) × MI × ML) (h : f_X10_readSum_95 I L = some res) : E g 7 (bS res.1) mX10_readSum 95 [] [] (I, L) (rU res.1) (res.2.1, res.2.2) := by
  unfold f_X10_readSum_95 at h
  cases h
  exact E_vret (M := mX10_readSum) rfl dX10_readSum_95
def f_X10_readSum_89 (k4 : Nat → Bool → Int32 → MI → ML → Option ((String ⊕ Unit) × MI × ML)) (x1 : Nat) (x2 : Bool) (x3 : Int32) (I : MI) (L : ML) : Option ((String ⊕ Unit) × MI × ML) := k4 x1 x2 (x3 + 1) I L
set_option maxRecDepth 100000 in
theorem S_X10_readSum_89 {g : Gx} {k4 : Nat → Bool → Int32 → MI → ML → Option ((String ⊕ Unit) × MI × ML)} (hk4 : ∀ (x1z : Nat) (x2z : Bool) (x3z : Int32) (hx1z : isH x1z) (I : MI) (L : ML) (res : (String ⊕ Unit) × MI × ML), k4 x1z x2z x3z I L = some res → E g 7 (bS res.1) mX10_readSum 4 [(0, .ref 1), (1, .ref (x1z + 5)), (2, .int (bI x2z)), (3, .int x3z)] [] (I, L) (rU res.1) (res.2.1, res.2.2)) (x1 : Nat) (x2 : Bool) (x3 : Int32) (hx1 : isH x1) (I : MI) (L : ML) (res : (String ⊕ Unit) × MI × ML) (h : f_X10_readSum_89 k4 x1 x2 x3 I L = some res) : E g 7 (bS res.1) mX10_readSum 89 [(0, .ref 1), (1, .ref (x1 + 5)), (2, .int (bI x2)), (3, .int x3)] [] (I, L) (rU res.1) (res.2.1, res.2.2) := by
  unfold f_X10_readSum_89 at h
  refine E_iinc (M := mX10_readSum) (j := 3) (v := x3 + 1) (lv' := [(3, .int (x3 + 1)), (0, .ref 1), (1, .ref (x1 + 5)), (2, .int (bI x2))]) 92 rfl dX10_readSum_89 rfl rfl (Nat.le_of_ble_eq_true rfl) rfl ?_
  refine E_goto (M := mX10_readSum) 4 (by decide) dX10_readSum_92 ?_
  refine E_sub (M := mX10_readSum) (lv' := [(0, .ref 1), (1, .ref (x1 + 5)), (2, .int (bI x2)), (3, .int (x3 + 1))]) [1, 2, 3, 0] rfl ?_
  exact hk4 x1 x2 (x3 + 1) hx1 I L _ h
def f_X10_readSum_74 (k4 : Nat → Bool → Int32 → MI → ML → Option ((String ⊕ Unit) × MI × ML)) (x1 : Nat) (x3 : Int32) (I : MI) (L : ML) : Option ((String ⊕ Unit) × MI × ML) := Option.bind (f_X8_isSign 43 I L) fun v1 => if v1 = true then (Option.bind (f_X8_step I L) fun w3 => f_X10_readSum_89 k4 x1 v1 x3 w3.1 w3.2) else (f_X10_readSum_89 k4 x1 v1 x3 I L)
set_option maxRecDepth 100000 in
theorem S_X10_readSum_74 {g : Gx} {k4 : Nat → Bool → Int32 → MI → ML → Option ((String ⊕ Unit) × MI × ML)} (hk4 : ∀ (x1z : Nat) (x2z : Bool) (x3z : Int32) (hx1z : isH x1z) (I : MI) (L : ML) (res : (String ⊕ Unit) × MI × ML), k4 x1z x2z x3z I L = some res → E g 7 (bS res.1) mX10_readSum 4 [(0, .ref 1), (1, .ref (x1z + 5)), (2, .int (bI x2z)), (3, .int x3z)] [] (I, L) (rU res.1) (res.2.1, res.2.2)) (x1 : Nat) (x3 : Int32) (hx1 : isH x1) (I : MI) (L : ML) (res : (String ⊕ Unit) × MI × ML) (h : f_X10_readSum_74 k4 x1 x3 I L = some res) : E g 7 (bS res.1) mX10_readSum 74 [(0, .ref 1), (1, .ref (x1 + 5)), (3, .int x3)] [] (I, L) (rU res.1) (res.2.1, res.2.2) := by
  unfold f_X10_readSum_74 at h
  refine E_aload_n (M := mX10_readSum) 75 rfl dX10_readSum_74 rfl 0 rfl ?_
  refine E_bipush (M := mX10_readSum) (v := 43) 77 rfl dX10_readSum_75 (by decide) ?_
  replace h := Option.bind_eq_some_iff.mp h
  obtain ⟨v1, hv1, h⟩ := h
  refine E_cV1 (M := mX10_readSum) (As := [.int 43]) 80 rfl dX10_readSum_77 shc_1 ck_X10_80 cv_X8_isSign rfl (by decide) (Nat.le_of_ble_eq_true rfl) (C_X8_isSign (g := g) hv1) rfl ?_
  refine E_istore_n (M := mX10_readSum) (lv' := [(2, .int (bI v1)), (0, .ref 1), (1, .ref (x1 + 5)), (3, .int x3)]) 81 rfl dX10_readSum_80 rfl (Nat.le_of_ble_eq_true rfl) rfl ?_
  refine E_iload_n (M := mX10_readSum) 82 rfl dX10_readSum_81 rfl 0 rfl ?_
  refine E_if_eqB (M := mX10_readSum) 89 85 (by decide) rfl dX10_readSum_82 (fun c2 => ?_) (fun c2 => ?_)
  · rw [if_neg (by rw [c2]; decide)] at h
    refine E_sub (M := mX10_readSum) (lv' := [(0, .ref 1), (1, .ref (x1 + 5)), (2, .int (bI v1)), (3, .int x3)]) [1, 2, 0, 3] rfl ?_
    exact S_X10_readSum_89 hk4 x1 v1 x3 hx1 I L _ h
  · rw [if_pos c2] at h
    refine E_aload_n (M := mX10_readSum) 86 rfl dX10_readSum_85 rfl 1 rfl ?_
    replace h := Option.bind_eq_some_iff.mp h
    obtain ⟨w3, hw3, h⟩ := h
    refine E_cV0 (M := mX10_readSum) (As := []) 89 rfl dX10_readSum_86 shc_1 ck_X10_84 cv_X8_step rfl (by decide) (Nat.le_of_ble_eq_true rfl) (C_X8_step (g := g) hw3) rfl ?_
    refine E_sub (M := mX10_readSum) (lv' := [(0, .ref 1), (1, .ref (x1 + 5)), (2, .int (bI v1)), (3, .int x3)]) [1, 2, 0, 3] rfl ?_
    exact S_X10_readSum_89 hk4 x1 v1 x3 hx1 w3.1 w3.2 _ h
def f_X10_readSum_51 (k4 : Nat → Bool → Int32 → MI → ML → Option ((String ⊕ Unit) × MI × ML)) (x1 : Nat) (x3 : Int32) (x4 : Int32) (y1 : Bool) (I : MI) (L : ML) : Option ((String ⊕ Unit) × MI × ML) := Option.bind (f_X8_check y1 I L) fun w1 => xc w1 fun _ => Option.bind (f_X8_step w1.2.1 w1.2.2) fun w4 => Option.bind (f_X9_addCode x1 x4 w4.1 w4.2) fun w5 => if x3 ≤ 0 then (f_X10_readSum_74 k4 x1 x3 w5.1 w5.2) else (Option.bind (f_X9_addCode x1 15 w5.1 w5.2) fun w7 => f_X10_readSum_74 k4 x1 x3 w7.1 w7.2)
set_option maxRecDepth 100000 in
theorem S_X10_readSum_51 {g : Gx} {k4 : Nat → Bool → Int32 → MI → ML → Option ((String ⊕ Unit) × MI × ML)} (hk4 : ∀ (x1z : Nat) (x2z : Bool) (x3z : Int32) (hx1z : isH x1z) (I : MI) (L : ML) (res : (String ⊕ Unit) × MI × ML), k4 x1z x2z x3z I L = some res → E g 7 (bS res.1) mX10_readSum 4 [(0, .ref 1), (1, .ref (x1z + 5)), (2, .int (bI x2z)), (3, .int x3z)] [] (I, L) (rU res.1) (res.2.1, res.2.2)) (x1 : Nat) (x3 : Int32) (x4 : Int32) (y1 : Bool) (hx1 : isH x1) (I : MI) (L : ML) (res : (String ⊕ Unit) × MI × ML) (h : f_X10_readSum_51 k4 x1 x3 x4 y1 I L = some res) : E g 7 (bS res.1) mX10_readSum 51 [(0, .ref 1), (1, .ref (x1 + 5)), (3, .int x3), (4, .int x4)] [.int (bI y1), .ref 1] (I, L) (rU res.1) (res.2.1, res.2.2) := by
  unfold f_X10_readSum_51 at h
  replace h := Option.bind_eq_some_iff.mp h
  obtain ⟨w1, hw1, h⟩ := h
  replace h := xc_s h
  rcases h with ⟨ex2, hex2, rfl⟩ | ⟨v3, hv3, h⟩
  · have hc := (C_X8_check (g := g) hw1)
    rw [hex2] at hc
    exact E_callVX (M := mX10_readSum) (As := [.int (bI y1)]) dX10_readSum_51 shc_1 ck_X10_20 cv_X8_check rfl (by decide) (Nat.le_of_ble_eq_true rfl) hc rfl
  have hcv3 := (C_X8_check (g := g) hw1)
  rw [hv3] at hcv3
  refine E_cV0 (M := mX10_readSum) (As := [.int (bI y1)]) 54 rfl dX10_readSum_51 shc_1 ck_X10_20 cv_X8_check rfl (by decide) (Nat.le_of_ble_eq_true rfl) hcv3 rfl ?_
  refine E_aload_n (M := mX10_readSum) 55 rfl dX10_readSum_54 rfl 0 rfl ?_
  replace h := Option.bind_eq_some_iff.mp h
  obtain ⟨w4, hw4, h⟩ := h
  refine E_cV0 (M := mX10_readSum) (As := []) 58 rfl dX10_readSum_55 shc_1 ck_X10_84 cv_X8_step rfl (by decide) (Nat.le_of_ble_eq_true rfl) (C_X8_step (g := g) hw4) rfl ?_
  refine E_aload_n (M := mX10_readSum) 59 rfl dX10_readSum_58 rfl 1 rfl ?_
  refine E_iload (M := mX10_readSum) 61 rfl dX10_readSum_59 3 rfl ?_
  replace h := Option.bind_eq_some_iff.mp h
  obtain ⟨w5, hw5, h⟩ := h
  refine E_cV0 (M := mX10_readSum) (As := [.int x4]) 64 rfl dX10_readSum_61 (sh_H5 hx1) ck_X10_66 cv_X9_addCode rfl (by decide) (Nat.le_of_ble_eq_true rfl) (C_X9_addCode (g := g) hx1 hw5) rfl ?_
  refine E_iload_n (M := mX10_readSum) 65 rfl dX10_readSum_64 rfl 2 rfl ?_
  refine E_if_le (M := mX10_readSum) 74 68 (by decide) rfl dX10_readSum_65 (fun c6 => ?_) (fun c6 => ?_)
  · rw [if_pos c6] at h
    refine E_sub (M := mX10_readSum) (lv' := [(0, .ref 1), (1, .ref (x1 + 5)), (3, .int x3)]) [0, 1, 2] rfl ?_
    exact S_X10_readSum_74 hk4 x1 x3 hx1 w5.1 w5.2 _ h
  · rw [if_neg c6] at h
    refine E_aload_n (M := mX10_readSum) 69 rfl dX10_readSum_68 rfl 1 rfl ?_
    refine E_bipush (M := mX10_readSum) (v := 15) 71 rfl dX10_readSum_69 (by decide) ?_
    replace h := Option.bind_eq_some_iff.mp h
    obtain ⟨w7, hw7, h⟩ := h
    refine E_cV0 (M := mX10_readSum) (As := [.int 15]) 74 rfl dX10_readSum_71 (sh_H5 hx1) ck_X10_66 cv_X9_addCode rfl (by decide) (Nat.le_of_ble_eq_true rfl) (C_X9_addCode (g := g) hx1 hw7) rfl ?_
    refine E_sub (M := mX10_readSum) (lv' := [(0, .ref 1), (1, .ref (x1 + 5)), (3, .int x3)]) [0, 1, 2] rfl ?_
    exact S_X10_readSum_74 hk4 x1 x3 hx1 w7.1 w7.2 _ h
def f_X10_readSum_37 (k4 : Nat → Bool → Int32 → MI → ML → Option ((String ⊕ Unit) × MI × ML)) (x1 : Nat) (x3 : Int32) (y0 : Int32) (I : MI) (L : ML) : Option ((String ⊕ Unit) × MI × ML) := if y0 = ((-1)) then (f_X10_readSum_51 k4 x1 x3 y0 false I L) else (f_X10_readSum_51 k4 x1 x3 y0 true I L)
set_option maxRecDepth 100000 in
theorem S_X10_readSum_37 {g : Gx} {k4 : Nat → Bool → Int32 → MI → ML → Option ((String ⊕ Unit) × MI × ML)} (hk4 : ∀ (x1z : Nat) (x2z : Bool) (x3z : Int32) (hx1z : isH x1z) (I : MI) (L : ML) (res : (String ⊕ Unit) × MI × ML), k4 x1z x2z x3z I L = some res → E g 7 (bS res.1) mX10_readSum 4 [(0, .ref 1), (1, .ref (x1z + 5)), (2, .int (bI x2z)), (3, .int x3z)] [] (I, L) (rU res.1) (res.2.1, res.2.2)) (x1 : Nat) (x3 : Int32) (y0 : Int32) (hx1 : isH x1) (I : MI) (L : ML) (res : (String ⊕ Unit) × MI × ML) (h : f_X10_readSum_37 k4 x1 x3 y0 I L = some res) : E g 7 (bS res.1) mX10_readSum 37 [(0, .ref 1), (1, .ref (x1 + 5)), (3, .int x3)] [.int y0] (I, L) (rU res.1) (res.2.1, res.2.2) := by
  unfold f_X10_readSum_37 at h
  refine E_istore (M := mX10_readSum) (lv' := [(4, .int y0), (0, .ref 1), (1, .ref (x1 + 5)), (3, .int x3)]) 39 rfl dX10_readSum_37 (Nat.le_of_ble_eq_true rfl) rfl ?_
  refine E_aload_n (M := mX10_readSum) 40 rfl dX10_readSum_39 rfl 1 rfl ?_
  refine E_iload (M := mX10_readSum) 42 rfl dX10_readSum_40 0 rfl ?_
  refine E_iconst (M := mX10_readSum) (v := (-1)) 43 rfl dX10_readSum_42 (by decide) ?_
  refine E_icmp_eq (M := mX10_readSum) 50 46 (by decide) rfl dX10_readSum_43 (fun c1 => ?_) (fun c1 => ?_)
  · rw [if_pos c1] at h
    refine E_iconst (M := mX10_readSum) (v := 0) 51 rfl dX10_readSum_50 (by decide) ?_
    refine E_sub (M := mX10_readSum) (lv' := [(0, .ref 1), (1, .ref (x1 + 5)), (3, .int x3), (4, .int y0)]) [1, 2, 3, 0] rfl ?_
    exact S_X10_readSum_51 hk4 x1 x3 y0 false hx1 I L _ h
  · rw [if_neg c1] at h
    refine E_iconst (M := mX10_readSum) (v := 1) 47 rfl dX10_readSum_46 (by decide) ?_
    refine E_goto (M := mX10_readSum) 51 (by decide) dX10_readSum_47 ?_
    refine E_sub (M := mX10_readSum) (lv' := [(0, .ref 1), (1, .ref (x1 + 5)), (3, .int x3), (4, .int y0)]) [1, 2, 3, 0] rfl ?_
    exact S_X10_readSum_51 hk4 x1 x3 y0 true hx1 I L _ h
def f_X10_readSum_4 : Nat → Nat → Bool → Int32 → MI → ML → Option ((String ⊕ Unit) × MI × ML)
  | 0, _, _, _, _, _ => none
  | n + 1, x1, x2, x3, I, L => if x2 = true then (if 400 ≤ x3 then (f_X10_readSum_95 I L) else (if (I 1 6) = ((-1)) then (Option.bind (f_X10_wordCode I L) fun v4 => f_X10_readSum_37 (f_X10_readSum_4 n) x1 x3 v4 I L) else (f_X10_readSum_37 (f_X10_readSum_4 n) x1 x3 (18 + (I 1 6)) I L))) else (f_X10_readSum_95 I L)
set_option maxRecDepth 100000 in
theorem S_X10_readSum_4 {g : Gx} : ∀ (n : Nat) (x1 : Nat) (x2 : Bool) (x3 : Int32) (hx1 : isH x1) (I : MI) (L : ML) (res : (String ⊕ Unit) × MI × ML), f_X10_readSum_4 n x1 x2 x3 I L = some res → E g 7 (bS res.1) mX10_readSum 4 [(0, .ref 1), (1, .ref (x1 + 5)), (2, .int (bI x2)), (3, .int x3)] [] (I, L) (rU res.1) (res.2.1, res.2.2) := by
  intro n
  induction n with
  | zero =>
    intros
    rename_i h
    cases h
  | succ n ih =>
    intro x1 x2 x3 hx1 I L res h
    rw [f_X10_readSum_4] at h
    refine E_iload_n (M := mX10_readSum) 5 rfl dX10_readSum_4 rfl 2 rfl ?_
    refine E_if_eqB (M := mX10_readSum) 95 8 (by decide) rfl dX10_readSum_5 (fun c1 => ?_) (fun c1 => ?_)
    · rw [if_neg (by rw [c1]; decide)] at h
      refine E_sub (M := mX10_readSum) (lv' := []) [] rfl ?_
      exact S_X10_readSum_95 I L _ h
    · rw [if_pos c1] at h
      refine E_iload_n (M := mX10_readSum) 9 rfl dX10_readSum_8 rfl 3 rfl ?_
      refine E_sipush (M := mX10_readSum) (v := 400) 12 rfl dX10_readSum_9 (by decide) ?_
      refine E_icmp_ge (M := mX10_readSum) 95 15 (by decide) rfl dX10_readSum_12 (fun c2 => ?_) (fun c2 => ?_)
      · rw [if_pos c2] at h
        refine E_sub (M := mX10_readSum) (lv' := []) [] rfl ?_
        exact S_X10_readSum_95 I L _ h
      · rw [if_neg c2] at h
        refine E_aload_n (M := mX10_readSum) 16 rfl dX10_readSum_15 rfl 0 rfl ?_
        refine E_gI (M := mX10_readSum) 19 rfl dX10_readSum_16 shc_1 fl_X10_109 rfl ?_
        refine E_iconst (M := mX10_readSum) (v := (-1)) 20 rfl dX10_readSum_19 (by decide) ?_
        refine E_icmp_eq (M := mX10_readSum) 33 23 (by decide) rfl dX10_readSum_20 (fun c3 => ?_) (fun c3 => ?_)
        · rw [if_pos c3] at h
          refine E_aload_n (M := mX10_readSum) 34 rfl dX10_readSum_33 rfl 0 rfl ?_
          replace h := Option.bind_eq_some_iff.mp h
          obtain ⟨v4, hv4, h⟩ := h
          refine E_cS1 (M := mX10_readSum) (As := [.ref 1]) 37 rfl dX10_readSum_34 ck_X10_113 ss_X10_wordCode rfl (by decide) (Nat.le_of_ble_eq_true rfl) (C_X10_wordCode (g := g) hv4) rfl ?_
          refine E_sub (M := mX10_readSum) (lv' := [(0, .ref 1), (1, .ref (x1 + 5)), (3, .int x3)]) [0, 1, 3] rfl ?_
          exact S_X10_readSum_37 ih x1 x3 v4 hx1 I L _ h
        · rw [if_neg c3] at h
          refine E_bipush (M := mX10_readSum) (v := 18) 25 rfl dX10_readSum_23 (by decide) ?_
          refine E_aload_n (M := mX10_readSum) 26 rfl dX10_readSum_25 rfl 0 rfl ?_
          refine E_gI (M := mX10_readSum) 29 rfl dX10_readSum_26 shc_1 fl_X10_109 rfl ?_
          refine E_iadd (M := mX10_readSum) 30 rfl dX10_readSum_29 ?_
          refine E_goto (M := mX10_readSum) 37 (by decide) dX10_readSum_30 ?_
          refine E_sub (M := mX10_readSum) (lv' := [(0, .ref 1), (1, .ref (x1 + 5)), (3, .int x3)]) [0, 1, 3] rfl ?_
          exact S_X10_readSum_37 ih x1 x3 (18 + (I 1 6)) hx1 I L _ h
def f_X10_readSum (x1 : Nat) (I : MI) (L : ML) : Option ((String ⊕ Unit) × MI × ML) := f_X10_readSum_4 FU x1 true 0 I L
set_option maxRecDepth 100000 in
theorem S_X10_readSum {g : Gx} (x1 : Nat) (hx1 : isH x1) (I : MI) (L : ML) (res : (String ⊕ Unit) × MI × ML) (h : f_X10_readSum x1 I L = some res) : E g 7 (bS res.1) mX10_readSum 0 [(0, .ref 1), (1, .ref (x1 + 5))] [] (I, L) (rU res.1) (res.2.1, res.2.2) := by
  unfold f_X10_readSum at h
  refine E_iconst (M := mX10_readSum) (v := 1) 1 rfl dX10_readSum_0 (by decide) ?_
  refine E_istore_n (M := mX10_readSum) (lv' := [(2, .int 1), (0, .ref 1), (1, .ref (x1 + 5))]) 2 rfl dX10_readSum_1 rfl (Nat.le_of_ble_eq_true rfl) rfl ?_
  refine E_iconst (M := mX10_readSum) (v := 0) 3 rfl dX10_readSum_2 (by decide) ?_
  refine E_istore_n (M := mX10_readSum) (lv' := [(3, .int 0), (2, .int 1), (0, .ref 1), (1, .ref (x1 + 5))]) 4 rfl dX10_readSum_3 rfl (Nat.le_of_ble_eq_true rfl) rfl ?_
  refine E_sub (M := mX10_readSum) (lv' := [(0, .ref 1), (1, .ref (x1 + 5)), (2, .int 1), (3, .int 0)]) [2, 3, 1, 0] rfl ?_
  exact S_X10_readSum_4 FU x1 true 0 hx1 I L _ h
theorem C_X10_readSum {g : Gx} {x1 : Nat} (hx1 : isH x1) {I : MI} {L : ML} {res : (String ⊕ Unit) × MI × ML} (h : f_X10_readSum x1 I L = some res) : Ent g 7 (bS res.1) mX10_readSum [.ref 1, .ref (x1 + 5)] (I, L) (rU res.1) (res.2.1, res.2.2) := Ent_of (by decide +kernel) (Nat.le_of_ble_eq_true rfl) (S_X10_readSum x1 hx1 I L _ h)
def f_X10_readComparison_55 (y0 : Nat) (y1 : Int32) (I : MI) (L : ML) : Option ((String ⊕ Unit) × MI × ML) := Option.bind (f_X9_addCode y0 y1 I L) fun w1 => some (.inr (), w1.1, w1.2)
set_option maxRecDepth 100000 in
theorem S_X10_readComparison_55 {g : Gx} (y0 : Nat) (y1 : Int32) (hy0 : isH y0) (I : MI) (L : ML) (res : (String ⊕ Unit) × MI × ML) (h : f_X10_readComparison_55 y0 y1 I L = some res) : E g 8 (bS res.1) mX10_readComparison 55 [] [.int y1, .ref (y0 + 5)] (I, L) (rU res.1) (res.2.1, res.2.2) := by
  unfold f_X10_readComparison_55 at h
  replace h := Option.bind_eq_some_iff.mp h
  obtain ⟨w1, hw1, h⟩ := h
  refine E_cV0 (M := mX10_readComparison) (As := [.int y1]) 58 rfl dX10_readComparison_55 (sh_H5 hy0) ck_X10_66 cv_X9_addCode rfl (by decide) (Nat.le_of_ble_eq_true rfl) (C_X9_addCode (g := g) hy0 hw1) rfl ?_
  cases h
  exact E_vret (M := mX10_readComparison) rfl dX10_readComparison_58
def f_X10_readComparison_31 (x1 : Nat) (x2 : Bool) (y1 : Bool) (I : MI) (L : ML) : Option ((String ⊕ Unit) × MI × ML) := Option.bind (f_X8_check y1 I L) fun w1 => xc w1 fun _ => Option.bind (f_X8_step w1.2.1 w1.2.2) fun w4 => Option.bind (f_X10_readSum x1 w4.1 w4.2) fun w5 => xc w5 fun _ => if x2 = true then (f_X10_readComparison_55 x1 16 w5.2.1 w5.2.2) else (f_X10_readComparison_55 x1 17 w5.2.1 w5.2.2)
set_option maxRecDepth 100000 in
theorem S_X10_readComparison_31 {g : Gx} (x1 : Nat) (x2 : Bool) (y1 : Bool) (hx1 : isH x1) (I : MI) (L : ML) (res : (String ⊕ Unit) × MI × ML) (h : f_X10_readComparison_31 x1 x2 y1 I L = some res) : E g 8 (bS res.1) mX10_readComparison 31 [(0, .ref 1), (1, .ref (x1 + 5)), (2, .int (bI x2))] [.int (bI y1), .ref 1] (I, L) (rU res.1) (res.2.1, res.2.2) := by
  unfold f_X10_readComparison_31 at h
  replace h := Option.bind_eq_some_iff.mp h
  obtain ⟨w1, hw1, h⟩ := h
  replace h := xc_s h
  rcases h with ⟨ex2, hex2, rfl⟩ | ⟨v3, hv3, h⟩
  · have hc := (C_X8_check (g := g) hw1)
    rw [hex2] at hc
    exact E_callVX (M := mX10_readComparison) (As := [.int (bI y1)]) dX10_readComparison_31 shc_1 ck_X10_20 cv_X8_check rfl (by decide) (Nat.le_of_ble_eq_true rfl) hc rfl
  have hcv3 := (C_X8_check (g := g) hw1)
  rw [hv3] at hcv3
  refine E_cV0 (M := mX10_readComparison) (As := [.int (bI y1)]) 34 rfl dX10_readComparison_31 shc_1 ck_X10_20 cv_X8_check rfl (by decide) (Nat.le_of_ble_eq_true rfl) hcv3 rfl ?_
  refine E_aload_n (M := mX10_readComparison) 35 rfl dX10_readComparison_34 rfl 0 rfl ?_
  replace h := Option.bind_eq_some_iff.mp h
  obtain ⟨w4, hw4, h⟩ := h
  refine E_cV0 (M := mX10_readComparison) (As := []) 38 rfl dX10_readComparison_35 shc_1 ck_X10_84 cv_X8_step rfl (by decide) (Nat.le_of_ble_eq_true rfl) (C_X8_step (g := g) hw4) rfl ?_
  refine E_aload_n (M := mX10_readComparison) 39 rfl dX10_readComparison_38 rfl 0 rfl ?_
  refine E_aload_n (M := mX10_readComparison) 40 rfl dX10_readComparison_39 rfl 1 rfl ?_
  replace h := Option.bind_eq_some_iff.mp h
  obtain ⟨w5, hw5, h⟩ := h
  replace h := xc_s h
  rcases h with ⟨ex6, hex6, rfl⟩ | ⟨v7, hv7, h⟩
  · have hc := (C_X10_readSum (g := g) hx1 hw5)
    rw [hex6] at hc
    exact E_callSX (M := mX10_readComparison) (As := [.ref 1, .ref (x1 + 5)]) dX10_readComparison_40 ck_X10_106 ss_X10_readSum rfl (by decide) (Nat.le_of_ble_eq_true rfl) hc rfl
  have hcv7 := (C_X10_readSum (g := g) hx1 hw5)
  rw [hv7] at hcv7
  refine E_cS0 (M := mX10_readComparison) (As := [.ref 1, .ref (x1 + 5)]) 43 rfl dX10_readComparison_40 ck_X10_106 ss_X10_readSum rfl (by decide) (Nat.le_of_ble_eq_true rfl) hcv7 rfl ?_
  refine E_aload_n (M := mX10_readComparison) 44 rfl dX10_readComparison_43 rfl 1 rfl ?_
  refine E_iload_n (M := mX10_readComparison) 45 rfl dX10_readComparison_44 rfl 2 rfl ?_
  refine E_if_eqB (M := mX10_readComparison) 53 48 (by decide) rfl dX10_readComparison_45 (fun c8 => ?_) (fun c8 => ?_)
  · rw [if_neg (by rw [c8]; decide)] at h
    refine E_bipush (M := mX10_readComparison) (v := 17) 55 rfl dX10_readComparison_53 (by decide) ?_
    refine E_sub (M := mX10_readComparison) (lv' := []) [] rfl ?_
    exact S_X10_readComparison_55 x1 17 hx1 w5.2.1 w5.2.2 _ h
  · rw [if_pos c8] at h
    refine E_bipush (M := mX10_readComparison) (v := 16) 50 rfl dX10_readComparison_48 (by decide) ?_
    refine E_goto (M := mX10_readComparison) 55 (by decide) dX10_readComparison_50 ?_
    refine E_sub (M := mX10_readComparison) (lv' := []) [] rfl ?_
    exact S_X10_readComparison_55 x1 16 hx1 w5.2.1 w5.2.2 _ h
def f_X10_readComparison_26 (x1 : Nat) (x2 : Bool) (I : MI) (L : ML) : Option ((String ⊕ Unit) × MI × ML) := f_X10_readComparison_31 x1 x2 true I L
set_option maxRecDepth 100000 in
theorem S_X10_readComparison_26 {g : Gx} (x1 : Nat) (x2 : Bool) (hx1 : isH x1) (I : MI) (L : ML) (res : (String ⊕ Unit) × MI × ML) (h : f_X10_readComparison_26 x1 x2 I L = some res) : E g 8 (bS res.1) mX10_readComparison 26 [(0, .ref 1), (1, .ref (x1 + 5)), (2, .int (bI x2))] [.ref 1] (I, L) (rU res.1) (res.2.1, res.2.2) := by
  unfold f_X10_readComparison_26 at h
  refine E_iconst (M := mX10_readComparison) (v := 1) 27 rfl dX10_readComparison_26 (by decide) ?_
  refine E_goto (M := mX10_readComparison) 31 (by decide) dX10_readComparison_27 ?_
  refine E_sub (M := mX10_readComparison) (lv' := [(0, .ref 1), (1, .ref (x1 + 5)), (2, .int (bI x2))]) [0, 1, 2] rfl ?_
  exact S_X10_readComparison_31 x1 x2 true hx1 I L _ h
def f_X10_readComparison (x1 : Nat) (I : MI) (L : ML) : Option ((String ⊕ Unit) × MI × ML) := Option.bind (f_X10_readSum x1 I L) fun w1 => xc w1 fun _ => Option.bind (f_X8_isSign 60 w1.2.1 w1.2.2) fun v4 => if v4 = true then (f_X10_readComparison_26 x1 v4 w1.2.1 w1.2.2) else (Option.bind (f_X8_isSign 62 w1.2.1 w1.2.2) fun v6 => if v6 = true then (f_X10_readComparison_26 x1 v4 w1.2.1 w1.2.2) else (f_X10_readComparison_31 x1 v4 false w1.2.1 w1.2.2))
set_option maxRecDepth 100000 in
theorem S_X10_readComparison {g : Gx} (x1 : Nat) (hx1 : isH x1) (I : MI) (L : ML) (res : (String ⊕ Unit) × MI × ML) (h : f_X10_readComparison x1 I L = some res) : E g 8 (bS res.1) mX10_readComparison 0 [(0, .ref 1), (1, .ref (x1 + 5))] [] (I, L) (rU res.1) (res.2.1, res.2.2) := by
  unfold f_X10_readComparison at h
  refine E_aload_n (M := mX10_readComparison) 1 rfl dX10_readComparison_0 rfl 0 rfl ?_
  refine E_aload_n (M := mX10_readComparison) 2 rfl dX10_readComparison_1 rfl 1 rfl ?_
  replace h := Option.bind_eq_some_iff.mp h
  obtain ⟨w1, hw1, h⟩ := h
  replace h := xc_s h
  rcases h with ⟨ex2, hex2, rfl⟩ | ⟨v3, hv3, h⟩
  · have hc := (C_X10_readSum (g := g) hx1 hw1)
    rw [hex2] at hc
    exact E_callSX (M := mX10_readComparison) (As := [.ref 1, .ref (x1 + 5)]) dX10_readComparison_2 ck_X10_106 ss_X10_readSum rfl (by decide) (Nat.le_of_ble_eq_true rfl) hc rfl
  have hcv3 := (C_X10_readSum (g := g) hx1 hw1)
  rw [hv3] at hcv3
  refine E_cS0 (M := mX10_readComparison) (As := [.ref 1, .ref (x1 + 5)]) 5 rfl dX10_readComparison_2 ck_X10_106 ss_X10_readSum rfl (by decide) (Nat.le_of_ble_eq_true rfl) hcv3 rfl ?_
  refine E_aload_n (M := mX10_readComparison) 6 rfl dX10_readComparison_5 rfl 0 rfl ?_
  refine E_bipush (M := mX10_readComparison) (v := 60) 8 rfl dX10_readComparison_6 (by decide) ?_
  replace h := Option.bind_eq_some_iff.mp h
  obtain ⟨v4, hv4, h⟩ := h
  refine E_cV1 (M := mX10_readComparison) (As := [.int 60]) 11 rfl dX10_readComparison_8 shc_1 ck_X10_80 cv_X8_isSign rfl (by decide) (Nat.le_of_ble_eq_true rfl) (C_X8_isSign (g := g) hv4) rfl ?_
  refine E_istore_n (M := mX10_readComparison) (lv' := [(2, .int (bI v4)), (0, .ref 1), (1, .ref (x1 + 5))]) 12 rfl dX10_readComparison_11 rfl (Nat.le_of_ble_eq_true rfl) rfl ?_
  refine E_aload_n (M := mX10_readComparison) 13 rfl dX10_readComparison_12 rfl 1 rfl ?_
  refine E_iload_n (M := mX10_readComparison) 14 rfl dX10_readComparison_13 rfl 0 rfl ?_
  refine E_if_neB (M := mX10_readComparison) 26 17 (by decide) rfl dX10_readComparison_14 (fun c5 => ?_) (fun c5 => ?_)
  · rw [if_pos c5] at h
    refine E_sub (M := mX10_readComparison) (lv' := [(0, .ref 1), (1, .ref (x1 + 5)), (2, .int (bI v4))]) [1, 2, 0] rfl ?_
    exact S_X10_readComparison_26 x1 v4 hx1 w1.2.1 w1.2.2 _ h
  · rw [if_neg (by rw [c5]; decide)] at h
    refine E_aload_n (M := mX10_readComparison) 18 rfl dX10_readComparison_17 rfl 1 rfl ?_
    refine E_bipush (M := mX10_readComparison) (v := 62) 20 rfl dX10_readComparison_18 (by decide) ?_
    replace h := Option.bind_eq_some_iff.mp h
    obtain ⟨v6, hv6, h⟩ := h
    refine E_cV1 (M := mX10_readComparison) (As := [.int 62]) 23 rfl dX10_readComparison_20 shc_1 ck_X10_80 cv_X8_isSign rfl (by decide) (Nat.le_of_ble_eq_true rfl) (C_X8_isSign (g := g) hv6) rfl ?_
    refine E_if_eqB (M := mX10_readComparison) 30 26 (by decide) rfl dX10_readComparison_23 (fun c7 => ?_) (fun c7 => ?_)
    · rw [if_neg (by rw [c7]; decide)] at h
      refine E_iconst (M := mX10_readComparison) (v := 0) 31 rfl dX10_readComparison_30 (by decide) ?_
      refine E_sub (M := mX10_readComparison) (lv' := [(0, .ref 1), (1, .ref (x1 + 5)), (2, .int (bI v4))]) [1, 2, 0] rfl ?_
      exact S_X10_readComparison_31 x1 v4 false hx1 w1.2.1 w1.2.2 _ h
    · rw [if_pos c7] at h
      refine E_sub (M := mX10_readComparison) (lv' := [(0, .ref 1), (1, .ref (x1 + 5)), (2, .int (bI v4))]) [1, 2, 0] rfl ?_
      exact S_X10_readComparison_26 x1 v4 hx1 w1.2.1 w1.2.2 _ h
theorem C_X10_readComparison {g : Gx} {x1 : Nat} (hx1 : isH x1) {I : MI} {L : ML} {res : (String ⊕ Unit) × MI × ML} (h : f_X10_readComparison x1 I L = some res) : Ent g 8 (bS res.1) mX10_readComparison [.ref 1, .ref (x1 + 5)] (I, L) (rU res.1) (res.2.1, res.2.2) := Ent_of (by decide +kernel) (Nat.le_of_ble_eq_true rfl) (S_X10_readComparison x1 hx1 I L _ h)
def f_X10_readAny_42 (r_X10_readAny : Nat → Int32 → MI → ML → Option ((String ⊕ Unit) × MI × ML)) (r_X10_readAll : Nat → Int32 → MI → ML → Option ((String ⊕ Unit) × MI × ML)) (r_X10_readAtom : Nat → Int32 → MI → ML → Option ((String ⊕ Unit) × MI × ML)) (I : MI) (L : ML) : Option ((String ⊕ Unit) × MI × ML) := some (.inr (), I, L)
set_option maxRecDepth 100000 in
theorem S_X10_readAny_42 {g : Gx} {D : Nat} {r_X10_readAny : Nat → Int32 → MI → ML → Option ((String ⊕ Unit) × MI × ML)} {r_X10_readAll : Nat → Int32 → MI → ML → Option ((String ⊕ Unit) × MI × ML)} {r_X10_readAtom : Nat → Int32 → MI → ML → Option ((String ⊕ Unit) × MI × ML)} (hD : 8 ≤ D) (hr_X10_readAny : ∀ {x1 : Nat} {x2 : Int32} (hx1 : isH x1) {I : MI} {L : ML} {res : (String ⊕ Unit) × MI × ML}, r_X10_readAny x1 x2 I L = some res → Ent g D (bS res.1) mX10_readAny [.ref 1, .ref (x1 + 5), .int x2] (I, L) (rU res.1) (res.2.1, res.2.2)) (hr_X10_readAll : ∀ {x1 : Nat} {x2 : Int32} (hx1 : isH x1) {I : MI} {L : ML} {res : (String ⊕ Unit) × MI × ML}, r_X10_readAll x1 x2 I L = some res → Ent g D (bS res.1) mX10_readAll [.ref 1, .ref (x1 + 5), .int x2] (I, L) (rU res.1) (res.2.1, res.2.2)) (hr_X10_readAtom : ∀ {x1 : Nat} {x2 : Int32} (hx1 : isH x1) {I : MI} {L : ML} {res : (String ⊕ Unit) × MI × ML}, r_X10_readAtom x1 x2 I L = some res → Ent g D (bS res.1) mX10_readAtom [.ref 1, .ref (x1 + 5), .int x2] (I, L) (rU res.1) (res.2.1, res.2.2)) (I : MI) (L : ML) (res : (String ⊕ Unit) × MI × ML) (h : f_X10_readAny_42 r_X10_readAny r_X10_readAll r_X10_readAtom I L = some res) : E g (D + 1) (bS res.1) mX10_readAny 42 [] [] (I, L) (rU res.1) (res.2.1, res.2.2) := by
  unfold f_X10_readAny_42 at h
  cases h
  exact E_vret (M := mX10_readAny) rfl dX10_readAny_42
def f_X10_readAny_8 (r_X10_readAny : Nat → Int32 → MI → ML → Option ((String ⊕ Unit) × MI × ML)) (r_X10_readAll : Nat → Int32 → MI → ML → Option ((String ⊕ Unit) × MI × ML)) (r_X10_readAtom : Nat → Int32 → MI → ML → Option ((String ⊕ Unit) × MI × ML)) : Nat → Nat → Int32 → Int32 → MI → ML → Option ((String ⊕ Unit) × MI × ML)
  | 0, _, _, _, _, _ => none
  | n + 1, x1, x2, x3, I, L => if 400 ≤ x3 then (f_X10_readAny_42 r_X10_readAny r_X10_readAll r_X10_readAtom I L) else (Option.bind (f_X8_takesWord 31 I L) fun w2 => if w2.1 = true then (Option.bind (r_X10_readAll x1 x2 w2.2.1 w2.2.2) fun w4 => xc w4 fun _ => Option.bind (f_X9_addCode x1 13 w4.2.1 w4.2.2) fun w7 => f_X10_readAny_8 r_X10_readAny r_X10_readAll r_X10_readAtom n x1 x2 (x3 + 1) w7.1 w7.2) else (f_X10_readAny_42 r_X10_readAny r_X10_readAll r_X10_readAtom w2.2.1 w2.2.2))
set_option maxRecDepth 100000 in
theorem S_X10_readAny_8 {g : Gx} {D : Nat} {r_X10_readAny : Nat → Int32 → MI → ML → Option ((String ⊕ Unit) × MI × ML)} {r_X10_readAll : Nat → Int32 → MI → ML → Option ((String ⊕ Unit) × MI × ML)} {r_X10_readAtom : Nat → Int32 → MI → ML → Option ((String ⊕ Unit) × MI × ML)} (hD : 8 ≤ D) (hr_X10_readAny : ∀ {x1 : Nat} {x2 : Int32} (hx1 : isH x1) {I : MI} {L : ML} {res : (String ⊕ Unit) × MI × ML}, r_X10_readAny x1 x2 I L = some res → Ent g D (bS res.1) mX10_readAny [.ref 1, .ref (x1 + 5), .int x2] (I, L) (rU res.1) (res.2.1, res.2.2)) (hr_X10_readAll : ∀ {x1 : Nat} {x2 : Int32} (hx1 : isH x1) {I : MI} {L : ML} {res : (String ⊕ Unit) × MI × ML}, r_X10_readAll x1 x2 I L = some res → Ent g D (bS res.1) mX10_readAll [.ref 1, .ref (x1 + 5), .int x2] (I, L) (rU res.1) (res.2.1, res.2.2)) (hr_X10_readAtom : ∀ {x1 : Nat} {x2 : Int32} (hx1 : isH x1) {I : MI} {L : ML} {res : (String ⊕ Unit) × MI × ML}, r_X10_readAtom x1 x2 I L = some res → Ent g D (bS res.1) mX10_readAtom [.ref 1, .ref (x1 + 5), .int x2] (I, L) (rU res.1) (res.2.1, res.2.2)) : ∀ (n : Nat) (x1 : Nat) (x2 : Int32) (x3 : Int32) (hx1 : isH x1) (I : MI) (L : ML) (res : (String ⊕ Unit) × MI × ML), f_X10_readAny_8 r_X10_readAny r_X10_readAll r_X10_readAtom n x1 x2 x3 I L = some res → E g (D + 1) (bS res.1) mX10_readAny 8 [(0, .ref 1), (1, .ref (x1 + 5)), (2, .int x2), (3, .int x3)] [] (I, L) (rU res.1) (res.2.1, res.2.2) := by
  intro n
  induction n with
  | zero =>
    intros
    rename_i h
    cases h
  | succ n ih =>
    intro x1 x2 x3 hx1 I L res h
    rw [f_X10_readAny_8] at h
    refine E_iload_n (M := mX10_readAny) 9 rfl dX10_readAny_8 rfl 3 rfl ?_
    refine E_sipush (M := mX10_readAny) (v := 400) 12 rfl dX10_readAny_9 (by decide) ?_
    refine E_icmp_ge (M := mX10_readAny) 42 15 (by decide) rfl dX10_readAny_12 (fun c1 => ?_) (fun c1 => ?_)
    · rw [if_pos c1] at h
      refine E_sub (M := mX10_readAny) (lv' := []) [] rfl ?_
      exact S_X10_readAny_42 hD hr_X10_readAny hr_X10_readAll hr_X10_readAtom I L _ h
    · rw [if_neg c1] at h
      refine E_aload_n (M := mX10_readAny) 16 rfl dX10_readAny_15 rfl 0 rfl ?_
      refine E_ldcS (M := mX10_readAny) 31 (by decide) 18 rfl dX10_readAny_16 rfl ?_
      replace h := Option.bind_eq_some_iff.mp h
      obtain ⟨w2, hw2, h⟩ := h
      refine E_cV1 (M := mX10_readAny) (As := [.ref (100000 + 31)]) 21 rfl dX10_readAny_18 shc_1 ck_X10_35 cv_X8_takesWord rfl (by omega) (Nat.le_of_ble_eq_true rfl) (C_X8_takesWord (g := g) (by decide) hw2) rfl ?_
      refine E_if_eqB (M := mX10_readAny) 42 24 (by decide) rfl dX10_readAny_21 (fun c3 => ?_) (fun c3 => ?_)
      · rw [if_neg (by rw [c3]; decide)] at h
        refine E_sub (M := mX10_readAny) (lv' := []) [] rfl ?_
        exact S_X10_readAny_42 hD hr_X10_readAny hr_X10_readAll hr_X10_readAtom w2.2.1 w2.2.2 _ h
      · rw [if_pos c3] at h
        refine E_aload_n (M := mX10_readAny) 25 rfl dX10_readAny_24 rfl 0 rfl ?_
        refine E_aload_n (M := mX10_readAny) 26 rfl dX10_readAny_25 rfl 1 rfl ?_
        refine E_iload_n (M := mX10_readAny) 27 rfl dX10_readAny_26 rfl 2 rfl ?_
        replace h := Option.bind_eq_some_iff.mp h
        obtain ⟨w4, hw4, h⟩ := h
        replace h := xc_s h
        rcases h with ⟨ex5, hex5, rfl⟩ | ⟨v6, hv6, h⟩
        · have hc := (hr_X10_readAll hx1 hw4)
          rw [hex5] at hc
          exact E_callSX (M := mX10_readAny) (As := [.ref 1, .ref (x1 + 5), .int x2]) dX10_readAny_27 ck_X10_61 ss_X10_readAll rfl (by omega) (Nat.le_of_ble_eq_true rfl) hc rfl
        have hcv6 := (hr_X10_readAll hx1 hw4)
        rw [hv6] at hcv6
        refine E_cS0 (M := mX10_readAny) (As := [.ref 1, .ref (x1 + 5), .int x2]) 30 rfl dX10_readAny_27 ck_X10_61 ss_X10_readAll rfl (by omega) (Nat.le_of_ble_eq_true rfl) hcv6 rfl ?_
        refine E_aload_n (M := mX10_readAny) 31 rfl dX10_readAny_30 rfl 1 rfl ?_
        refine E_bipush (M := mX10_readAny) (v := 13) 33 rfl dX10_readAny_31 (by decide) ?_
        replace h := Option.bind_eq_some_iff.mp h
        obtain ⟨w7, hw7, h⟩ := h
        refine E_cV0 (M := mX10_readAny) (As := [.int 13]) 36 rfl dX10_readAny_33 (sh_H5 hx1) ck_X10_66 cv_X9_addCode rfl (by omega) (Nat.le_of_ble_eq_true rfl) (C_X9_addCode (g := g) hx1 hw7) rfl ?_
        refine E_iinc (M := mX10_readAny) (j := 3) (v := x3 + 1) (lv' := [(3, .int (x3 + 1)), (0, .ref 1), (1, .ref (x1 + 5)), (2, .int x2)]) 39 rfl dX10_readAny_36 rfl rfl (Nat.le_of_ble_eq_true rfl) rfl ?_
        refine E_goto (M := mX10_readAny) 8 (by decide) dX10_readAny_39 ?_
        refine E_sub (M := mX10_readAny) (lv' := [(0, .ref 1), (1, .ref (x1 + 5)), (2, .int x2), (3, .int (x3 + 1))]) [1, 2, 3, 0] rfl ?_
        exact ih x1 x2 (x3 + 1) hx1 w7.1 w7.2 _ h
def F_X10_readAny (r_X10_readAny : Nat → Int32 → MI → ML → Option ((String ⊕ Unit) × MI × ML)) (r_X10_readAll : Nat → Int32 → MI → ML → Option ((String ⊕ Unit) × MI × ML)) (r_X10_readAtom : Nat → Int32 → MI → ML → Option ((String ⊕ Unit) × MI × ML)) (x1 : Nat) (x2 : Int32) (I : MI) (L : ML) : Option ((String ⊕ Unit) × MI × ML) := Option.bind (r_X10_readAll x1 x2 I L) fun w1 => xc w1 fun _ => f_X10_readAny_8 r_X10_readAny r_X10_readAll r_X10_readAtom FU x1 x2 0 w1.2.1 w1.2.2
set_option maxRecDepth 100000 in
theorem S_X10_readAny {g : Gx} {D : Nat} {r_X10_readAny : Nat → Int32 → MI → ML → Option ((String ⊕ Unit) × MI × ML)} {r_X10_readAll : Nat → Int32 → MI → ML → Option ((String ⊕ Unit) × MI × ML)} {r_X10_readAtom : Nat → Int32 → MI → ML → Option ((String ⊕ Unit) × MI × ML)} (hD : 8 ≤ D) (hr_X10_readAny : ∀ {x1 : Nat} {x2 : Int32} (hx1 : isH x1) {I : MI} {L : ML} {res : (String ⊕ Unit) × MI × ML}, r_X10_readAny x1 x2 I L = some res → Ent g D (bS res.1) mX10_readAny [.ref 1, .ref (x1 + 5), .int x2] (I, L) (rU res.1) (res.2.1, res.2.2)) (hr_X10_readAll : ∀ {x1 : Nat} {x2 : Int32} (hx1 : isH x1) {I : MI} {L : ML} {res : (String ⊕ Unit) × MI × ML}, r_X10_readAll x1 x2 I L = some res → Ent g D (bS res.1) mX10_readAll [.ref 1, .ref (x1 + 5), .int x2] (I, L) (rU res.1) (res.2.1, res.2.2)) (hr_X10_readAtom : ∀ {x1 : Nat} {x2 : Int32} (hx1 : isH x1) {I : MI} {L : ML} {res : (String ⊕ Unit) × MI × ML}, r_X10_readAtom x1 x2 I L = some res → Ent g D (bS res.1) mX10_readAtom [.ref 1, .ref (x1 + 5), .int x2] (I, L) (rU res.1) (res.2.1, res.2.2)) (x1 : Nat) (x2 : Int32) (hx1 : isH x1) (I : MI) (L : ML) (res : (String ⊕ Unit) × MI × ML) (h : F_X10_readAny r_X10_readAny r_X10_readAll r_X10_readAtom x1 x2 I L = some res) : E g (D + 1) (bS res.1) mX10_readAny 0 [(0, .ref 1), (1, .ref (x1 + 5)), (2, .int x2)] [] (I, L) (rU res.1) (res.2.1, res.2.2) := by
  unfold F_X10_readAny at h
  refine E_aload_n (M := mX10_readAny) 1 rfl dX10_readAny_0 rfl 0 rfl ?_
  refine E_aload_n (M := mX10_readAny) 2 rfl dX10_readAny_1 rfl 1 rfl ?_
  refine E_iload_n (M := mX10_readAny) 3 rfl dX10_readAny_2 rfl 2 rfl ?_
  replace h := Option.bind_eq_some_iff.mp h
  obtain ⟨w1, hw1, h⟩ := h
  replace h := xc_s h
  rcases h with ⟨ex2, hex2, rfl⟩ | ⟨v3, hv3, h⟩
  · have hc := (hr_X10_readAll hx1 hw1)
    rw [hex2] at hc
    exact E_callSX (M := mX10_readAny) (As := [.ref 1, .ref (x1 + 5), .int x2]) dX10_readAny_3 ck_X10_61 ss_X10_readAll rfl (by omega) (Nat.le_of_ble_eq_true rfl) hc rfl
  have hcv3 := (hr_X10_readAll hx1 hw1)
  rw [hv3] at hcv3
  refine E_cS0 (M := mX10_readAny) (As := [.ref 1, .ref (x1 + 5), .int x2]) 6 rfl dX10_readAny_3 ck_X10_61 ss_X10_readAll rfl (by omega) (Nat.le_of_ble_eq_true rfl) hcv3 rfl ?_
  refine E_iconst (M := mX10_readAny) (v := 0) 7 rfl dX10_readAny_6 (by decide) ?_
  refine E_istore_n (M := mX10_readAny) (lv' := [(3, .int 0), (0, .ref 1), (1, .ref (x1 + 5)), (2, .int x2)]) 8 rfl dX10_readAny_7 rfl (Nat.le_of_ble_eq_true rfl) rfl ?_
  refine E_sub (M := mX10_readAny) (lv' := [(0, .ref 1), (1, .ref (x1 + 5)), (2, .int x2), (3, .int 0)]) [1, 2, 3, 0] rfl ?_
  exact S_X10_readAny_8 hD hr_X10_readAny hr_X10_readAll hr_X10_readAtom FU x1 x2 0 hx1 w1.2.1 w1.2.2 _ h
def f_X10_readAll_42 (r_X10_readAny : Nat → Int32 → MI → ML → Option ((String ⊕ Unit) × MI × ML)) (r_X10_readAll : Nat → Int32 → MI → ML → Option ((String ⊕ Unit) × MI × ML)) (r_X10_readAtom : Nat → Int32 → MI → ML → Option ((String ⊕ Unit) × MI × ML)) (I : MI) (L : ML) : Option ((String ⊕ Unit) × MI × ML) := some (.inr (), I, L)
set_option maxRecDepth 100000 in
theorem S_X10_readAll_42 {g : Gx} {D : Nat} {r_X10_readAny : Nat → Int32 → MI → ML → Option ((String ⊕ Unit) × MI × ML)} {r_X10_readAll : Nat → Int32 → MI → ML → Option ((String ⊕ Unit) × MI × ML)} {r_X10_readAtom : Nat → Int32 → MI → ML → Option ((String ⊕ Unit) × MI × ML)} (hD : 8 ≤ D) (hr_X10_readAny : ∀ {x1 : Nat} {x2 : Int32} (hx1 : isH x1) {I : MI} {L : ML} {res : (String ⊕ Unit) × MI × ML}, r_X10_readAny x1 x2 I L = some res → Ent g D (bS res.1) mX10_readAny [.ref 1, .ref (x1 + 5), .int x2] (I, L) (rU res.1) (res.2.1, res.2.2)) (hr_X10_readAll : ∀ {x1 : Nat} {x2 : Int32} (hx1 : isH x1) {I : MI} {L : ML} {res : (String ⊕ Unit) × MI × ML}, r_X10_readAll x1 x2 I L = some res → Ent g D (bS res.1) mX10_readAll [.ref 1, .ref (x1 + 5), .int x2] (I, L) (rU res.1) (res.2.1, res.2.2)) (hr_X10_readAtom : ∀ {x1 : Nat} {x2 : Int32} (hx1 : isH x1) {I : MI} {L : ML} {res : (String ⊕ Unit) × MI × ML}, r_X10_readAtom x1 x2 I L = some res → Ent g D (bS res.1) mX10_readAtom [.ref 1, .ref (x1 + 5), .int x2] (I, L) (rU res.1) (res.2.1, res.2.2)) (I : MI) (L : ML) (res : (String ⊕ Unit) × MI × ML) (h : f_X10_readAll_42 r_X10_readAny r_X10_readAll r_X10_readAtom I L = some res) : E g (D + 1) (bS res.1) mX10_readAll 42 [] [] (I, L) (rU res.1) (res.2.1, res.2.2) := by
  unfold f_X10_readAll_42 at h
  cases h
  exact E_vret (M := mX10_readAll) rfl dX10_readAll_42
def f_X10_readAll_8 (r_X10_readAny : Nat → Int32 → MI → ML → Option ((String ⊕ Unit) × MI × ML)) (r_X10_readAll : Nat → Int32 → MI → ML → Option ((String ⊕ Unit) × MI × ML)) (r_X10_readAtom : Nat → Int32 → MI → ML → Option ((String ⊕ Unit) × MI × ML)) : Nat → Nat → Int32 → Int32 → MI → ML → Option ((String ⊕ Unit) × MI × ML)
  | 0, _, _, _, _, _ => none
  | n + 1, x1, x2, x3, I, L => if 400 ≤ x3 then (f_X10_readAll_42 r_X10_readAny r_X10_readAll r_X10_readAtom I L) else (Option.bind (f_X8_takesWord 30 I L) fun w2 => if w2.1 = true then (Option.bind (r_X10_readAtom x1 x2 w2.2.1 w2.2.2) fun w4 => xc w4 fun _ => Option.bind (f_X9_addCode x1 14 w4.2.1 w4.2.2) fun w7 => f_X10_readAll_8 r_X10_readAny r_X10_readAll r_X10_readAtom n x1 x2 (x3 + 1) w7.1 w7.2) else (f_X10_readAll_42 r_X10_readAny r_X10_readAll r_X10_readAtom w2.2.1 w2.2.2))
set_option maxRecDepth 100000 in
theorem S_X10_readAll_8 {g : Gx} {D : Nat} {r_X10_readAny : Nat → Int32 → MI → ML → Option ((String ⊕ Unit) × MI × ML)} {r_X10_readAll : Nat → Int32 → MI → ML → Option ((String ⊕ Unit) × MI × ML)} {r_X10_readAtom : Nat → Int32 → MI → ML → Option ((String ⊕ Unit) × MI × ML)} (hD : 8 ≤ D) (hr_X10_readAny : ∀ {x1 : Nat} {x2 : Int32} (hx1 : isH x1) {I : MI} {L : ML} {res : (String ⊕ Unit) × MI × ML}, r_X10_readAny x1 x2 I L = some res → Ent g D (bS res.1) mX10_readAny [.ref 1, .ref (x1 + 5), .int x2] (I, L) (rU res.1) (res.2.1, res.2.2)) (hr_X10_readAll : ∀ {x1 : Nat} {x2 : Int32} (hx1 : isH x1) {I : MI} {L : ML} {res : (String ⊕ Unit) × MI × ML}, r_X10_readAll x1 x2 I L = some res → Ent g D (bS res.1) mX10_readAll [.ref 1, .ref (x1 + 5), .int x2] (I, L) (rU res.1) (res.2.1, res.2.2)) (hr_X10_readAtom : ∀ {x1 : Nat} {x2 : Int32} (hx1 : isH x1) {I : MI} {L : ML} {res : (String ⊕ Unit) × MI × ML}, r_X10_readAtom x1 x2 I L = some res → Ent g D (bS res.1) mX10_readAtom [.ref 1, .ref (x1 + 5), .int x2] (I, L) (rU res.1) (res.2.1, res.2.2)) : ∀ (n : Nat) (x1 : Nat) (x2 : Int32) (x3 : Int32) (hx1 : isH x1) (I : MI) (L : ML) (res : (String ⊕ Unit) × MI × ML), f_X10_readAll_8 r_X10_readAny r_X10_readAll r_X10_readAtom n x1 x2 x3 I L = some res → E g (D + 1) (bS res.1) mX10_readAll 8 [(0, .ref 1), (1, .ref (x1 + 5)), (2, .int x2), (3, .int x3)] [] (I, L) (rU res.1) (res.2.1, res.2.2) := by
  intro n
  induction n with
  | zero =>
    intros
    rename_i h
    cases h
  | succ n ih =>
    intro x1 x2 x3 hx1 I L res h
    rw [f_X10_readAll_8] at h
    refine E_iload_n (M := mX10_readAll) 9 rfl dX10_readAll_8 rfl 3 rfl ?_
    refine E_sipush (M := mX10_readAll) (v := 400) 12 rfl dX10_readAll_9 (by decide) ?_
    refine E_icmp_ge (M := mX10_readAll) 42 15 (by decide) rfl dX10_readAll_12 (fun c1 => ?_) (fun c1 => ?_)
    · rw [if_pos c1] at h
      refine E_sub (M := mX10_readAll) (lv' := []) [] rfl ?_
      exact S_X10_readAll_42 hD hr_X10_readAny hr_X10_readAll hr_X10_readAtom I L _ h
    · rw [if_neg c1] at h
      refine E_aload_n (M := mX10_readAll) 16 rfl dX10_readAll_15 rfl 0 rfl ?_
      refine E_ldcS (M := mX10_readAll) 30 (by decide) 18 rfl dX10_readAll_16 rfl ?_
      replace h := Option.bind_eq_some_iff.mp h
      obtain ⟨w2, hw2, h⟩ := h
      refine E_cV1 (M := mX10_readAll) (As := [.ref (100000 + 30)]) 21 rfl dX10_readAll_18 shc_1 ck_X10_35 cv_X8_takesWord rfl (by omega) (Nat.le_of_ble_eq_true rfl) (C_X8_takesWord (g := g) (by decide) hw2) rfl ?_
      refine E_if_eqB (M := mX10_readAll) 42 24 (by decide) rfl dX10_readAll_21 (fun c3 => ?_) (fun c3 => ?_)
      · rw [if_neg (by rw [c3]; decide)] at h
        refine E_sub (M := mX10_readAll) (lv' := []) [] rfl ?_
        exact S_X10_readAll_42 hD hr_X10_readAny hr_X10_readAll hr_X10_readAtom w2.2.1 w2.2.2 _ h
      · rw [if_pos c3] at h
        refine E_aload_n (M := mX10_readAll) 25 rfl dX10_readAll_24 rfl 0 rfl ?_
        refine E_aload_n (M := mX10_readAll) 26 rfl dX10_readAll_25 rfl 1 rfl ?_
        refine E_iload_n (M := mX10_readAll) 27 rfl dX10_readAll_26 rfl 2 rfl ?_
        replace h := Option.bind_eq_some_iff.mp h
        obtain ⟨w4, hw4, h⟩ := h
        replace h := xc_s h
        rcases h with ⟨ex5, hex5, rfl⟩ | ⟨v6, hv6, h⟩
        · have hc := (hr_X10_readAtom hx1 hw4)
          rw [hex5] at hc
          exact E_callSX (M := mX10_readAll) (As := [.ref 1, .ref (x1 + 5), .int x2]) dX10_readAll_27 ck_X10_70 ss_X10_readAtom rfl (by omega) (Nat.le_of_ble_eq_true rfl) hc rfl
        have hcv6 := (hr_X10_readAtom hx1 hw4)
        rw [hv6] at hcv6
        refine E_cS0 (M := mX10_readAll) (As := [.ref 1, .ref (x1 + 5), .int x2]) 30 rfl dX10_readAll_27 ck_X10_70 ss_X10_readAtom rfl (by omega) (Nat.le_of_ble_eq_true rfl) hcv6 rfl ?_
        refine E_aload_n (M := mX10_readAll) 31 rfl dX10_readAll_30 rfl 1 rfl ?_
        refine E_bipush (M := mX10_readAll) (v := 14) 33 rfl dX10_readAll_31 (by decide) ?_
        replace h := Option.bind_eq_some_iff.mp h
        obtain ⟨w7, hw7, h⟩ := h
        refine E_cV0 (M := mX10_readAll) (As := [.int 14]) 36 rfl dX10_readAll_33 (sh_H5 hx1) ck_X10_66 cv_X9_addCode rfl (by omega) (Nat.le_of_ble_eq_true rfl) (C_X9_addCode (g := g) hx1 hw7) rfl ?_
        refine E_iinc (M := mX10_readAll) (j := 3) (v := x3 + 1) (lv' := [(3, .int (x3 + 1)), (0, .ref 1), (1, .ref (x1 + 5)), (2, .int x2)]) 39 rfl dX10_readAll_36 rfl rfl (Nat.le_of_ble_eq_true rfl) rfl ?_
        refine E_goto (M := mX10_readAll) 8 (by decide) dX10_readAll_39 ?_
        refine E_sub (M := mX10_readAll) (lv' := [(0, .ref 1), (1, .ref (x1 + 5)), (2, .int x2), (3, .int (x3 + 1))]) [1, 2, 3, 0] rfl ?_
        exact ih x1 x2 (x3 + 1) hx1 w7.1 w7.2 _ h
def F_X10_readAll (r_X10_readAny : Nat → Int32 → MI → ML → Option ((String ⊕ Unit) × MI × ML)) (r_X10_readAll : Nat → Int32 → MI → ML → Option ((String ⊕ Unit) × MI × ML)) (r_X10_readAtom : Nat → Int32 → MI → ML → Option ((String ⊕ Unit) × MI × ML)) (x1 : Nat) (x2 : Int32) (I : MI) (L : ML) : Option ((String ⊕ Unit) × MI × ML) := Option.bind (r_X10_readAtom x1 x2 I L) fun w1 => xc w1 fun _ => f_X10_readAll_8 r_X10_readAny r_X10_readAll r_X10_readAtom FU x1 x2 0 w1.2.1 w1.2.2
set_option maxRecDepth 100000 in
theorem S_X10_readAll {g : Gx} {D : Nat} {r_X10_readAny : Nat → Int32 → MI → ML → Option ((String ⊕ Unit) × MI × ML)} {r_X10_readAll : Nat → Int32 → MI → ML → Option ((String ⊕ Unit) × MI × ML)} {r_X10_readAtom : Nat → Int32 → MI → ML → Option ((String ⊕ Unit) × MI × ML)} (hD : 8 ≤ D) (hr_X10_readAny : ∀ {x1 : Nat} {x2 : Int32} (hx1 : isH x1) {I : MI} {L : ML} {res : (String ⊕ Unit) × MI × ML}, r_X10_readAny x1 x2 I L = some res → Ent g D (bS res.1) mX10_readAny [.ref 1, .ref (x1 + 5), .int x2] (I, L) (rU res.1) (res.2.1, res.2.2)) (hr_X10_readAll : ∀ {x1 : Nat} {x2 : Int32} (hx1 : isH x1) {I : MI} {L : ML} {res : (String ⊕ Unit) × MI × ML}, r_X10_readAll x1 x2 I L = some res → Ent g D (bS res.1) mX10_readAll [.ref 1, .ref (x1 + 5), .int x2] (I, L) (rU res.1) (res.2.1, res.2.2)) (hr_X10_readAtom : ∀ {x1 : Nat} {x2 : Int32} (hx1 : isH x1) {I : MI} {L : ML} {res : (String ⊕ Unit) × MI × ML}, r_X10_readAtom x1 x2 I L = some res → Ent g D (bS res.1) mX10_readAtom [.ref 1, .ref (x1 + 5), .int x2] (I, L) (rU res.1) (res.2.1, res.2.2)) (x1 : Nat) (x2 : Int32) (hx1 : isH x1) (I : MI) (L : ML) (res : (String ⊕ Unit) × MI × ML) (h : F_X10_readAll r_X10_readAny r_X10_readAll r_X10_readAtom x1 x2 I L = some res) : E g (D + 1) (bS res.1) mX10_readAll 0 [(0, .ref 1), (1, .ref (x1 + 5)), (2, .int x2)] [] (I, L) (rU res.1) (res.2.1, res.2.2) := by
  unfold F_X10_readAll at h
  refine E_aload_n (M := mX10_readAll) 1 rfl dX10_readAll_0 rfl 0 rfl ?_
  refine E_aload_n (M := mX10_readAll) 2 rfl dX10_readAll_1 rfl 1 rfl ?_
  refine E_iload_n (M := mX10_readAll) 3 rfl dX10_readAll_2 rfl 2 rfl ?_
  replace h := Option.bind_eq_some_iff.mp h
  obtain ⟨w1, hw1, h⟩ := h
  replace h := xc_s h
  rcases h with ⟨ex2, hex2, rfl⟩ | ⟨v3, hv3, h⟩
  · have hc := (hr_X10_readAtom hx1 hw1)
    rw [hex2] at hc
    exact E_callSX (M := mX10_readAll) (As := [.ref 1, .ref (x1 + 5), .int x2]) dX10_readAll_3 ck_X10_70 ss_X10_readAtom rfl (by omega) (Nat.le_of_ble_eq_true rfl) hc rfl
  have hcv3 := (hr_X10_readAtom hx1 hw1)
  rw [hv3] at hcv3
  refine E_cS0 (M := mX10_readAll) (As := [.ref 1, .ref (x1 + 5), .int x2]) 6 rfl dX10_readAll_3 ck_X10_70 ss_X10_readAtom rfl (by omega) (Nat.le_of_ble_eq_true rfl) hcv3 rfl ?_
  refine E_iconst (M := mX10_readAll) (v := 0) 7 rfl dX10_readAll_6 (by decide) ?_
  refine E_istore_n (M := mX10_readAll) (lv' := [(3, .int 0), (0, .ref 1), (1, .ref (x1 + 5)), (2, .int x2)]) 8 rfl dX10_readAll_7 rfl (Nat.le_of_ble_eq_true rfl) rfl ?_
  refine E_sub (M := mX10_readAll) (lv' := [(0, .ref 1), (1, .ref (x1 + 5)), (2, .int x2), (3, .int 0)]) [1, 2, 3, 0] rfl ?_
  exact S_X10_readAll_8 hD hr_X10_readAny hr_X10_readAll hr_X10_readAtom FU x1 x2 0 hx1 w1.2.1 w1.2.2 _ h
def f_X10_readAtom_105 (r_X10_readAny : Nat → Int32 → MI → ML → Option ((String ⊕ Unit) × MI × ML)) (r_X10_readAll : Nat → Int32 → MI → ML → Option ((String ⊕ Unit) × MI × ML)) (r_X10_readAtom : Nat → Int32 → MI → ML → Option ((String ⊕ Unit) × MI × ML)) (I : MI) (L : ML) : Option ((String ⊕ Unit) × MI × ML) := some (.inr (), I, L)
set_option maxRecDepth 100000 in
theorem S_X10_readAtom_105 {g : Gx} {D : Nat} {r_X10_readAny : Nat → Int32 → MI → ML → Option ((String ⊕ Unit) × MI × ML)} {r_X10_readAll : Nat → Int32 → MI → ML → Option ((String ⊕ Unit) × MI × ML)} {r_X10_readAtom : Nat → Int32 → MI → ML → Option ((String ⊕ Unit) × MI × ML)} (hD : 8 ≤ D) (hr_X10_readAny : ∀ {x1 : Nat} {x2 : Int32} (hx1 : isH x1) {I : MI} {L : ML} {res : (String ⊕ Unit) × MI × ML}, r_X10_readAny x1 x2 I L = some res → Ent g D (bS res.1) mX10_readAny [.ref 1, .ref (x1 + 5), .int x2] (I, L) (rU res.1) (res.2.1, res.2.2)) (hr_X10_readAll : ∀ {x1 : Nat} {x2 : Int32} (hx1 : isH x1) {I : MI} {L : ML} {res : (String ⊕ Unit) × MI × ML}, r_X10_readAll x1 x2 I L = some res → Ent g D (bS res.1) mX10_readAll [.ref 1, .ref (x1 + 5), .int x2] (I, L) (rU res.1) (res.2.1, res.2.2)) (hr_X10_readAtom : ∀ {x1 : Nat} {x2 : Int32} (hx1 : isH x1) {I : MI} {L : ML} {res : (String ⊕ Unit) × MI × ML}, r_X10_readAtom x1 x2 I L = some res → Ent g D (bS res.1) mX10_readAtom [.ref 1, .ref (x1 + 5), .int x2] (I, L) (rU res.1) (res.2.1, res.2.2)) (I : MI) (L : ML) (res : (String ⊕ Unit) × MI × ML) (h : f_X10_readAtom_105 r_X10_readAny r_X10_readAll r_X10_readAtom I L = some res) : E g (D + 1) (bS res.1) mX10_readAtom 105 [] [] (I, L) (rU res.1) (res.2.1, res.2.2) := by
  unfold f_X10_readAtom_105 at h
  cases h
  exact E_vret (M := mX10_readAtom) rfl dX10_readAtom_105
def f_X10_readAtom_74 (r_X10_readAny : Nat → Int32 → MI → ML → Option ((String ⊕ Unit) × MI × ML)) (r_X10_readAll : Nat → Int32 → MI → ML → Option ((String ⊕ Unit) × MI × ML)) (r_X10_readAtom : Nat → Int32 → MI → ML → Option ((String ⊕ Unit) × MI × ML)) (I : MI) (L : ML) : Option ((String ⊕ Unit) × MI × ML) := some (.inr (), I, L)
set_option maxRecDepth 100000 in
theorem S_X10_readAtom_74 {g : Gx} {D : Nat} {r_X10_readAny : Nat → Int32 → MI → ML → Option ((String ⊕ Unit) × MI × ML)} {r_X10_readAll : Nat → Int32 → MI → ML → Option ((String ⊕ Unit) × MI × ML)} {r_X10_readAtom : Nat → Int32 → MI → ML → Option ((String ⊕ Unit) × MI × ML)} (hD : 8 ≤ D) (hr_X10_readAny : ∀ {x1 : Nat} {x2 : Int32} (hx1 : isH x1) {I : MI} {L : ML} {res : (String ⊕ Unit) × MI × ML}, r_X10_readAny x1 x2 I L = some res → Ent g D (bS res.1) mX10_readAny [.ref 1, .ref (x1 + 5), .int x2] (I, L) (rU res.1) (res.2.1, res.2.2)) (hr_X10_readAll : ∀ {x1 : Nat} {x2 : Int32} (hx1 : isH x1) {I : MI} {L : ML} {res : (String ⊕ Unit) × MI × ML}, r_X10_readAll x1 x2 I L = some res → Ent g D (bS res.1) mX10_readAll [.ref 1, .ref (x1 + 5), .int x2] (I, L) (rU res.1) (res.2.1, res.2.2)) (hr_X10_readAtom : ∀ {x1 : Nat} {x2 : Int32} (hx1 : isH x1) {I : MI} {L : ML} {res : (String ⊕ Unit) × MI × ML}, r_X10_readAtom x1 x2 I L = some res → Ent g D (bS res.1) mX10_readAtom [.ref 1, .ref (x1 + 5), .int x2] (I, L) (rU res.1) (res.2.1, res.2.2)) (I : MI) (L : ML) (res : (String ⊕ Unit) × MI × ML) (h : f_X10_readAtom_74 r_X10_readAny r_X10_readAll r_X10_readAtom I L = some res) : E g (D + 1) (bS res.1) mX10_readAtom 74 [] [] (I, L) (rU res.1) (res.2.1, res.2.2) := by
  unfold f_X10_readAtom_74 at h
  cases h
  exact E_vret (M := mX10_readAtom) rfl dX10_readAtom_74
def f_X10_readAtom_32 (r_X10_readAny : Nat → Int32 → MI → ML → Option ((String ⊕ Unit) × MI × ML)) (r_X10_readAll : Nat → Int32 → MI → ML → Option ((String ⊕ Unit) × MI × ML)) (r_X10_readAtom : Nat → Int32 → MI → ML → Option ((String ⊕ Unit) × MI × ML)) (x1 : Nat) (x2 : Int32) (x3 : Bool) (y1 : Bool) (I : MI) (L : ML) : Option ((String ⊕ Unit) × MI × ML) := Option.bind (f_X8_check y1 I L) fun w1 => xc w1 fun _ => Option.bind (f_X8_step w1.2.1 w1.2.2) fun w4 => if x3 = true then (Option.bind (r_X10_readAtom x1 (x2 + 1) w4.1 w4.2) fun w12 => xc w12 fun _ => Option.bind (f_X9_addCode x1 12 w12.2.1 w12.2.2) fun w15 => f_X10_readAtom_74 r_X10_readAny r_X10_readAll r_X10_readAtom w15.1 w15.2) else (Option.bind (r_X10_readAny x1 (x2 + 1) w4.1 w4.2) fun w6 => xc w6 fun _ => Option.bind (f_X8_needSign 41 w6.2.1 w6.2.2) fun w9 => xc w9 fun _ => f_X10_readAtom_74 r_X10_readAny r_X10_readAll r_X10_readAtom w9.2.1 w9.2.2)
set_option maxRecDepth 100000 in
theorem S_X10_readAtom_32 {g : Gx} {D : Nat} {r_X10_readAny : Nat → Int32 → MI → ML → Option ((String ⊕ Unit) × MI × ML)} {r_X10_readAll : Nat → Int32 → MI → ML → Option ((String ⊕ Unit) × MI × ML)} {r_X10_readAtom : Nat → Int32 → MI → ML → Option ((String ⊕ Unit) × MI × ML)} (hD : 8 ≤ D) (hr_X10_readAny : ∀ {x1 : Nat} {x2 : Int32} (hx1 : isH x1) {I : MI} {L : ML} {res : (String ⊕ Unit) × MI × ML}, r_X10_readAny x1 x2 I L = some res → Ent g D (bS res.1) mX10_readAny [.ref 1, .ref (x1 + 5), .int x2] (I, L) (rU res.1) (res.2.1, res.2.2)) (hr_X10_readAll : ∀ {x1 : Nat} {x2 : Int32} (hx1 : isH x1) {I : MI} {L : ML} {res : (String ⊕ Unit) × MI × ML}, r_X10_readAll x1 x2 I L = some res → Ent g D (bS res.1) mX10_readAll [.ref 1, .ref (x1 + 5), .int x2] (I, L) (rU res.1) (res.2.1, res.2.2)) (hr_X10_readAtom : ∀ {x1 : Nat} {x2 : Int32} (hx1 : isH x1) {I : MI} {L : ML} {res : (String ⊕ Unit) × MI × ML}, r_X10_readAtom x1 x2 I L = some res → Ent g D (bS res.1) mX10_readAtom [.ref 1, .ref (x1 + 5), .int x2] (I, L) (rU res.1) (res.2.1, res.2.2)) (x1 : Nat) (x2 : Int32) (x3 : Bool) (y1 : Bool) (hx1 : isH x1) (I : MI) (L : ML) (res : (String ⊕ Unit) × MI × ML) (h : f_X10_readAtom_32 r_X10_readAny r_X10_readAll r_X10_readAtom x1 x2 x3 y1 I L = some res) : E g (D + 1) (bS res.1) mX10_readAtom 32 [(0, .ref 1), (1, .ref (x1 + 5)), (2, .int x2), (3, .int (bI x3))] [.int (bI y1), .ref 1] (I, L) (rU res.1) (res.2.1, res.2.2) := by
  unfold f_X10_readAtom_32 at h
  replace h := Option.bind_eq_some_iff.mp h
  obtain ⟨w1, hw1, h⟩ := h
  replace h := xc_s h
  rcases h with ⟨ex2, hex2, rfl⟩ | ⟨v3, hv3, h⟩
  · have hc := (C_X8_check (g := g) hw1)
    rw [hex2] at hc
    exact E_callVX (M := mX10_readAtom) (As := [.int (bI y1)]) dX10_readAtom_32 shc_1 ck_X10_20 cv_X8_check rfl (by omega) (Nat.le_of_ble_eq_true rfl) hc rfl
  have hcv3 := (C_X8_check (g := g) hw1)
  rw [hv3] at hcv3
  refine E_cV0 (M := mX10_readAtom) (As := [.int (bI y1)]) 35 rfl dX10_readAtom_32 shc_1 ck_X10_20 cv_X8_check rfl (by omega) (Nat.le_of_ble_eq_true rfl) hcv3 rfl ?_
  refine E_aload_n (M := mX10_readAtom) 36 rfl dX10_readAtom_35 rfl 0 rfl ?_
  replace h := Option.bind_eq_some_iff.mp h
  obtain ⟨w4, hw4, h⟩ := h
  refine E_cV0 (M := mX10_readAtom) (As := []) 39 rfl dX10_readAtom_36 shc_1 ck_X10_84 cv_X8_step rfl (by omega) (Nat.le_of_ble_eq_true rfl) (C_X8_step (g := g) hw4) rfl ?_
  refine E_iload_n (M := mX10_readAtom) 40 rfl dX10_readAtom_39 rfl 3 rfl ?_
  refine E_if_eqB (M := mX10_readAtom) 60 43 (by decide) rfl dX10_readAtom_40 (fun c5 => ?_) (fun c5 => ?_)
  · rw [if_neg (by rw [c5]; decide)] at h
    refine E_aload_n (M := mX10_readAtom) 61 rfl dX10_readAtom_60 rfl 0 rfl ?_
    refine E_aload_n (M := mX10_readAtom) 62 rfl dX10_readAtom_61 rfl 1 rfl ?_
    refine E_iload_n (M := mX10_readAtom) 63 rfl dX10_readAtom_62 rfl 2 rfl ?_
    refine E_iconst (M := mX10_readAtom) (v := 1) 64 rfl dX10_readAtom_63 (by decide) ?_
    refine E_iadd (M := mX10_readAtom) 65 rfl dX10_readAtom_64 ?_
    replace h := Option.bind_eq_some_iff.mp h
    obtain ⟨w6, hw6, h⟩ := h
    replace h := xc_s h
    rcases h with ⟨ex7, hex7, rfl⟩ | ⟨v8, hv8, h⟩
    · have hc := (hr_X10_readAny hx1 hw6)
      rw [hex7] at hc
      exact E_callSX (M := mX10_readAtom) (As := [.ref 1, .ref (x1 + 5), .int (x2 + 1)]) dX10_readAtom_65 ck_X10_53 ss_X10_readAny rfl (by omega) (Nat.le_of_ble_eq_true rfl) hc rfl
    have hcv8 := (hr_X10_readAny hx1 hw6)
    rw [hv8] at hcv8
    refine E_cS0 (M := mX10_readAtom) (As := [.ref 1, .ref (x1 + 5), .int (x2 + 1)]) 68 rfl dX10_readAtom_65 ck_X10_53 ss_X10_readAny rfl (by omega) (Nat.le_of_ble_eq_true rfl) hcv8 rfl ?_
    refine E_aload_n (M := mX10_readAtom) 69 rfl dX10_readAtom_68 rfl 0 rfl ?_
    refine E_bipush (M := mX10_readAtom) (v := 41) 71 rfl dX10_readAtom_69 (by decide) ?_
    replace h := Option.bind_eq_some_iff.mp h
    obtain ⟨w9, hw9, h⟩ := h
    replace h := xc_s h
    rcases h with ⟨ex10, hex10, rfl⟩ | ⟨v11, hv11, h⟩
    · have hc := (C_X8_needSign (g := g) hw9)
      rw [hex10] at hc
      exact E_callVX (M := mX10_readAtom) (As := [.int 41]) dX10_readAtom_71 shc_1 ck_X10_87 cv_X8_needSign rfl (by omega) (Nat.le_of_ble_eq_true rfl) hc rfl
    have hcv11 := (C_X8_needSign (g := g) hw9)
    rw [hv11] at hcv11
    refine E_cV0 (M := mX10_readAtom) (As := [.int 41]) 74 rfl dX10_readAtom_71 shc_1 ck_X10_87 cv_X8_needSign rfl (by omega) (Nat.le_of_ble_eq_true rfl) hcv11 rfl ?_
    refine E_sub (M := mX10_readAtom) (lv' := []) [] rfl ?_
    exact S_X10_readAtom_74 hD hr_X10_readAny hr_X10_readAll hr_X10_readAtom w9.2.1 w9.2.2 _ h
  · rw [if_pos c5] at h
    refine E_aload_n (M := mX10_readAtom) 44 rfl dX10_readAtom_43 rfl 0 rfl ?_
    refine E_aload_n (M := mX10_readAtom) 45 rfl dX10_readAtom_44 rfl 1 rfl ?_
    refine E_iload_n (M := mX10_readAtom) 46 rfl dX10_readAtom_45 rfl 2 rfl ?_
    refine E_iconst (M := mX10_readAtom) (v := 1) 47 rfl dX10_readAtom_46 (by decide) ?_
    refine E_iadd (M := mX10_readAtom) 48 rfl dX10_readAtom_47 ?_
    replace h := Option.bind_eq_some_iff.mp h
    obtain ⟨w12, hw12, h⟩ := h
    replace h := xc_s h
    rcases h with ⟨ex13, hex13, rfl⟩ | ⟨v14, hv14, h⟩
    · have hc := (hr_X10_readAtom hx1 hw12)
      rw [hex13] at hc
      exact E_callSX (M := mX10_readAtom) (As := [.ref 1, .ref (x1 + 5), .int (x2 + 1)]) dX10_readAtom_48 ck_X10_70 ss_X10_readAtom rfl (by omega) (Nat.le_of_ble_eq_true rfl) hc rfl
    have hcv14 := (hr_X10_readAtom hx1 hw12)
    rw [hv14] at hcv14
    refine E_cS0 (M := mX10_readAtom) (As := [.ref 1, .ref (x1 + 5), .int (x2 + 1)]) 51 rfl dX10_readAtom_48 ck_X10_70 ss_X10_readAtom rfl (by omega) (Nat.le_of_ble_eq_true rfl) hcv14 rfl ?_
    refine E_aload_n (M := mX10_readAtom) 52 rfl dX10_readAtom_51 rfl 1 rfl ?_
    refine E_bipush (M := mX10_readAtom) (v := 12) 54 rfl dX10_readAtom_52 (by decide) ?_
    replace h := Option.bind_eq_some_iff.mp h
    obtain ⟨w15, hw15, h⟩ := h
    refine E_cV0 (M := mX10_readAtom) (As := [.int 12]) 57 rfl dX10_readAtom_54 (sh_H5 hx1) ck_X10_66 cv_X9_addCode rfl (by omega) (Nat.le_of_ble_eq_true rfl) (C_X9_addCode (g := g) hx1 hw15) rfl ?_
    refine E_goto (M := mX10_readAtom) 74 (by decide) dX10_readAtom_57 ?_
    refine E_sub (M := mX10_readAtom) (lv' := []) [] rfl ?_
    exact S_X10_readAtom_74 hD hr_X10_readAny hr_X10_readAll hr_X10_readAtom w15.1 w15.2 _ h
def f_X10_readAtom_20 (r_X10_readAny : Nat → Int32 → MI → ML → Option ((String ⊕ Unit) × MI × ML)) (r_X10_readAll : Nat → Int32 → MI → ML → Option ((String ⊕ Unit) × MI × ML)) (r_X10_readAtom : Nat → Int32 → MI → ML → Option ((String ⊕ Unit) × MI × ML)) (x1 : Nat) (x2 : Int32) (x3 : Bool) (I : MI) (L : ML) : Option ((String ⊕ Unit) × MI × ML) := if 6 ≤ x2 then (f_X10_readAtom_32 r_X10_readAny r_X10_readAll r_X10_readAtom x1 x2 x3 false I L) else (f_X10_readAtom_32 r_X10_readAny r_X10_readAll r_X10_readAtom x1 x2 x3 true I L)
set_option maxRecDepth 100000 in
theorem S_X10_readAtom_20 {g : Gx} {D : Nat} {r_X10_readAny : Nat → Int32 → MI → ML → Option ((String ⊕ Unit) × MI × ML)} {r_X10_readAll : Nat → Int32 → MI → ML → Option ((String ⊕ Unit) × MI × ML)} {r_X10_readAtom : Nat → Int32 → MI → ML → Option ((String ⊕ Unit) × MI × ML)} (hD : 8 ≤ D) (hr_X10_readAny : ∀ {x1 : Nat} {x2 : Int32} (hx1 : isH x1) {I : MI} {L : ML} {res : (String ⊕ Unit) × MI × ML}, r_X10_readAny x1 x2 I L = some res → Ent g D (bS res.1) mX10_readAny [.ref 1, .ref (x1 + 5), .int x2] (I, L) (rU res.1) (res.2.1, res.2.2)) (hr_X10_readAll : ∀ {x1 : Nat} {x2 : Int32} (hx1 : isH x1) {I : MI} {L : ML} {res : (String ⊕ Unit) × MI × ML}, r_X10_readAll x1 x2 I L = some res → Ent g D (bS res.1) mX10_readAll [.ref 1, .ref (x1 + 5), .int x2] (I, L) (rU res.1) (res.2.1, res.2.2)) (hr_X10_readAtom : ∀ {x1 : Nat} {x2 : Int32} (hx1 : isH x1) {I : MI} {L : ML} {res : (String ⊕ Unit) × MI × ML}, r_X10_readAtom x1 x2 I L = some res → Ent g D (bS res.1) mX10_readAtom [.ref 1, .ref (x1 + 5), .int x2] (I, L) (rU res.1) (res.2.1, res.2.2)) (x1 : Nat) (x2 : Int32) (x3 : Bool) (hx1 : isH x1) (I : MI) (L : ML) (res : (String ⊕ Unit) × MI × ML) (h : f_X10_readAtom_20 r_X10_readAny r_X10_readAll r_X10_readAtom x1 x2 x3 I L = some res) : E g (D + 1) (bS res.1) mX10_readAtom 20 [(0, .ref 1), (1, .ref (x1 + 5)), (2, .int x2), (3, .int (bI x3))] [] (I, L) (rU res.1) (res.2.1, res.2.2) := by
  unfold f_X10_readAtom_20 at h
  refine E_aload_n (M := mX10_readAtom) 21 rfl dX10_readAtom_20 rfl 0 rfl ?_
  refine E_iload_n (M := mX10_readAtom) 22 rfl dX10_readAtom_21 rfl 2 rfl ?_
  refine E_bipush (M := mX10_readAtom) (v := 6) 24 rfl dX10_readAtom_22 (by decide) ?_
  refine E_icmp_ge (M := mX10_readAtom) 31 27 (by decide) rfl dX10_readAtom_24 (fun c1 => ?_) (fun c1 => ?_)
  · rw [if_pos c1] at h
    refine E_iconst (M := mX10_readAtom) (v := 0) 32 rfl dX10_readAtom_31 (by decide) ?_
    refine E_sub (M := mX10_readAtom) (lv' := [(0, .ref 1), (1, .ref (x1 + 5)), (2, .int x2), (3, .int (bI x3))]) [0, 1, 2, 3] rfl ?_
    exact S_X10_readAtom_32 hD hr_X10_readAny hr_X10_readAll hr_X10_readAtom x1 x2 x3 false hx1 I L _ h
  · rw [if_neg c1] at h
    refine E_iconst (M := mX10_readAtom) (v := 1) 28 rfl dX10_readAtom_27 (by decide) ?_
    refine E_goto (M := mX10_readAtom) 32 (by decide) dX10_readAtom_28 ?_
    refine E_sub (M := mX10_readAtom) (lv' := [(0, .ref 1), (1, .ref (x1 + 5)), (2, .int x2), (3, .int (bI x3))]) [0, 1, 2, 3] rfl ?_
    exact S_X10_readAtom_32 hD hr_X10_readAny hr_X10_readAll hr_X10_readAtom x1 x2 x3 true hx1 I L _ h
def F_X10_readAtom (r_X10_readAny : Nat → Int32 → MI → ML → Option ((String ⊕ Unit) × MI × ML)) (r_X10_readAll : Nat → Int32 → MI → ML → Option ((String ⊕ Unit) × MI × ML)) (r_X10_readAtom : Nat → Int32 → MI → ML → Option ((String ⊕ Unit) × MI × ML)) (x1 : Nat) (x2 : Int32) (I : MI) (L : ML) : Option ((String ⊕ Unit) × MI × ML) := Option.bind (f_X8_isWord 21 I L) fun v1 => if v1 = true then (f_X10_readAtom_20 r_X10_readAny r_X10_readAll r_X10_readAtom x1 x2 v1 I L) else (Option.bind (f_X8_isSign 40 I L) fun v3 => if v3 = true then (f_X10_readAtom_20 r_X10_readAny r_X10_readAll r_X10_readAtom x1 x2 v1 I L) else (Option.bind (f_X10_plainCode I L) fun v5 => if v5 = ((-1)) then (Option.bind (f_X10_readComparison x1 I L) fun w9 => xc w9 fun _ => f_X10_readAtom_105 r_X10_readAny r_X10_readAll r_X10_readAtom w9.2.1 w9.2.2) else (Option.bind (f_X8_step I L) fun w7 => Option.bind (f_X9_addCode x1 v5 w7.1 w7.2) fun w8 => f_X10_readAtom_105 r_X10_readAny r_X10_readAll r_X10_readAtom w8.1 w8.2)))
set_option maxRecDepth 100000 in
theorem S_X10_readAtom {g : Gx} {D : Nat} {r_X10_readAny : Nat → Int32 → MI → ML → Option ((String ⊕ Unit) × MI × ML)} {r_X10_readAll : Nat → Int32 → MI → ML → Option ((String ⊕ Unit) × MI × ML)} {r_X10_readAtom : Nat → Int32 → MI → ML → Option ((String ⊕ Unit) × MI × ML)} (hD : 8 ≤ D) (hr_X10_readAny : ∀ {x1 : Nat} {x2 : Int32} (hx1 : isH x1) {I : MI} {L : ML} {res : (String ⊕ Unit) × MI × ML}, r_X10_readAny x1 x2 I L = some res → Ent g D (bS res.1) mX10_readAny [.ref 1, .ref (x1 + 5), .int x2] (I, L) (rU res.1) (res.2.1, res.2.2)) (hr_X10_readAll : ∀ {x1 : Nat} {x2 : Int32} (hx1 : isH x1) {I : MI} {L : ML} {res : (String ⊕ Unit) × MI × ML}, r_X10_readAll x1 x2 I L = some res → Ent g D (bS res.1) mX10_readAll [.ref 1, .ref (x1 + 5), .int x2] (I, L) (rU res.1) (res.2.1, res.2.2)) (hr_X10_readAtom : ∀ {x1 : Nat} {x2 : Int32} (hx1 : isH x1) {I : MI} {L : ML} {res : (String ⊕ Unit) × MI × ML}, r_X10_readAtom x1 x2 I L = some res → Ent g D (bS res.1) mX10_readAtom [.ref 1, .ref (x1 + 5), .int x2] (I, L) (rU res.1) (res.2.1, res.2.2)) (x1 : Nat) (x2 : Int32) (hx1 : isH x1) (I : MI) (L : ML) (res : (String ⊕ Unit) × MI × ML) (h : F_X10_readAtom r_X10_readAny r_X10_readAll r_X10_readAtom x1 x2 I L = some res) : E g (D + 1) (bS res.1) mX10_readAtom 0 [(0, .ref 1), (1, .ref (x1 + 5)), (2, .int x2)] [] (I, L) (rU res.1) (res.2.1, res.2.2) := by
  unfold F_X10_readAtom at h
  refine E_aload_n (M := mX10_readAtom) 1 rfl dX10_readAtom_0 rfl 0 rfl ?_
  refine E_ldcS (M := mX10_readAtom) 21 (by decide) 3 rfl dX10_readAtom_1 rfl ?_
  replace h := Option.bind_eq_some_iff.mp h
  obtain ⟨v1, hv1, h⟩ := h
  refine E_cV1 (M := mX10_readAtom) (As := [.ref (100000 + 21)]) 6 rfl dX10_readAtom_3 shc_1 ck_X10_77 cv_X8_isWord rfl (by omega) (Nat.le_of_ble_eq_true rfl) (C_X8_isWord (g := g) (by decide) hv1) rfl ?_
  refine E_istore_n (M := mX10_readAtom) (lv' := [(3, .int (bI v1)), (0, .ref 1), (1, .ref (x1 + 5)), (2, .int x2)]) 7 rfl dX10_readAtom_6 rfl (Nat.le_of_ble_eq_true rfl) rfl ?_
  refine E_iload_n (M := mX10_readAtom) 8 rfl dX10_readAtom_7 rfl 0 rfl ?_
  refine E_if_neB (M := mX10_readAtom) 20 11 (by decide) rfl dX10_readAtom_8 (fun c2 => ?_) (fun c2 => ?_)
  · rw [if_pos c2] at h
    refine E_sub (M := mX10_readAtom) (lv' := [(0, .ref 1), (1, .ref (x1 + 5)), (2, .int x2), (3, .int (bI v1))]) [1, 2, 3, 0] rfl ?_
    exact S_X10_readAtom_20 hD hr_X10_readAny hr_X10_readAll hr_X10_readAtom x1 x2 v1 hx1 I L _ h
  · rw [if_neg (by rw [c2]; decide)] at h
    refine E_aload_n (M := mX10_readAtom) 12 rfl dX10_readAtom_11 rfl 1 rfl ?_
    refine E_bipush (M := mX10_readAtom) (v := 40) 14 rfl dX10_readAtom_12 (by decide) ?_
    replace h := Option.bind_eq_some_iff.mp h
    obtain ⟨v3, hv3, h⟩ := h
    refine E_cV1 (M := mX10_readAtom) (As := [.int 40]) 17 rfl dX10_readAtom_14 shc_1 ck_X10_80 cv_X8_isSign rfl (by omega) (Nat.le_of_ble_eq_true rfl) (C_X8_isSign (g := g) hv3) rfl ?_
    refine E_if_eqB (M := mX10_readAtom) 75 20 (by decide) rfl dX10_readAtom_17 (fun c4 => ?_) (fun c4 => ?_)
    · rw [if_neg (by rw [c4]; decide)] at h
      refine E_aload_n (M := mX10_readAtom) 76 rfl dX10_readAtom_75 rfl 1 rfl ?_
      replace h := Option.bind_eq_some_iff.mp h
      obtain ⟨v5, hv5, h⟩ := h
      refine E_cS1 (M := mX10_readAtom) (As := [.ref 1]) 79 rfl dX10_readAtom_76 ck_X10_91 ss_X10_plainCode rfl (by omega) (Nat.le_of_ble_eq_true rfl) (C_X10_plainCode (g := g) hv5) rfl ?_
      refine E_istore (M := mX10_readAtom) (lv' := [(4, .int v5), (3, .int (bI v1)), (0, .ref 1), (1, .ref (x1 + 5)), (2, .int x2)]) 81 rfl dX10_readAtom_79 (Nat.le_of_ble_eq_true rfl) rfl ?_
      refine E_iload (M := mX10_readAtom) 83 rfl dX10_readAtom_81 0 rfl ?_
      refine E_iconst (M := mX10_readAtom) (v := (-1)) 84 rfl dX10_readAtom_83 (by decide) ?_
      refine E_icmp_ne (M := mX10_readAtom) 95 87 (by decide) rfl dX10_readAtom_84 (fun c6 => ?_) (fun c6 => ?_)
      · rw [if_neg c6] at h
        refine E_aload_n (M := mX10_readAtom) 96 rfl dX10_readAtom_95 rfl 2 rfl ?_
        replace h := Option.bind_eq_some_iff.mp h
        obtain ⟨w7, hw7, h⟩ := h
        refine E_cV0 (M := mX10_readAtom) (As := []) 99 rfl dX10_readAtom_96 shc_1 ck_X10_84 cv_X8_step rfl (by omega) (Nat.le_of_ble_eq_true rfl) (C_X8_step (g := g) hw7) rfl ?_
        refine E_aload_n (M := mX10_readAtom) 100 rfl dX10_readAtom_99 rfl 3 rfl ?_
        refine E_iload (M := mX10_readAtom) 102 rfl dX10_readAtom_100 0 rfl ?_
        replace h := Option.bind_eq_some_iff.mp h
        obtain ⟨w8, hw8, h⟩ := h
        refine E_cV0 (M := mX10_readAtom) (As := [.int v5]) 105 rfl dX10_readAtom_102 (sh_H5 hx1) ck_X10_66 cv_X9_addCode rfl (by omega) (Nat.le_of_ble_eq_true rfl) (C_X9_addCode (g := g) hx1 hw8) rfl ?_
        refine E_sub (M := mX10_readAtom) (lv' := []) [] rfl ?_
        exact S_X10_readAtom_105 hD hr_X10_readAny hr_X10_readAll hr_X10_readAtom w8.1 w8.2 _ h
      · rw [if_pos c6] at h
        refine E_aload_n (M := mX10_readAtom) 88 rfl dX10_readAtom_87 rfl 2 rfl ?_
        refine E_aload_n (M := mX10_readAtom) 89 rfl dX10_readAtom_88 rfl 3 rfl ?_
        replace h := Option.bind_eq_some_iff.mp h
        obtain ⟨w9, hw9, h⟩ := h
        replace h := xc_s h
        rcases h with ⟨ex10, hex10, rfl⟩ | ⟨v11, hv11, h⟩
        · have hc := (C_X10_readComparison (g := g) hx1 hw9)
          rw [hex10] at hc
          exact E_callSX (M := mX10_readAtom) (As := [.ref 1, .ref (x1 + 5)]) dX10_readAtom_89 ck_X10_95 ss_X10_readComparison rfl (by omega) (Nat.le_of_ble_eq_true rfl) hc rfl
        have hcv11 := (C_X10_readComparison (g := g) hx1 hw9)
        rw [hv11] at hcv11
        refine E_cS0 (M := mX10_readAtom) (As := [.ref 1, .ref (x1 + 5)]) 92 rfl dX10_readAtom_89 ck_X10_95 ss_X10_readComparison rfl (by omega) (Nat.le_of_ble_eq_true rfl) hcv11 rfl ?_
        refine E_goto (M := mX10_readAtom) 105 (by decide) dX10_readAtom_92 ?_
        refine E_sub (M := mX10_readAtom) (lv' := []) [] rfl ?_
        exact S_X10_readAtom_105 hD hr_X10_readAny hr_X10_readAll hr_X10_readAtom w9.2.1 w9.2.2 _ h
    · rw [if_pos c4] at h
      refine E_sub (M := mX10_readAtom) (lv' := [(0, .ref 1), (1, .ref (x1 + 5)), (2, .int x2), (3, .int (bI v1))]) [1, 2, 3, 0] rfl ?_
      exact S_X10_readAtom_20 hD hr_X10_readAny hr_X10_readAll hr_X10_readAtom x1 x2 v1 hx1 I L _ h
def f_g_X10_readAny : Nat → (Nat → Int32 → MI → ML → Option ((String ⊕ Unit) × MI × ML)) × (Nat → Int32 → MI → ML → Option ((String ⊕ Unit) × MI × ML)) × (Nat → Int32 → MI → ML → Option ((String ⊕ Unit) × MI × ML))
  | 0 => (fun _ _ _ _ => none, fun _ _ _ _ => none, fun _ _ _ _ => none)
  | n + 1 => (F_X10_readAny (f_g_X10_readAny n).1 (f_g_X10_readAny n).2.1 (f_g_X10_readAny n).2.2, F_X10_readAll (f_g_X10_readAny n).1 (f_g_X10_readAny n).2.1 (f_g_X10_readAny n).2.2, F_X10_readAtom (f_g_X10_readAny n).1 (f_g_X10_readAny n).2.1 (f_g_X10_readAny n).2.2)
def f_X10_readAny (n : Nat) : Nat → Int32 → MI → ML → Option ((String ⊕ Unit) × MI × ML) := (f_g_X10_readAny n).1
def f_X10_readAll (n : Nat) : Nat → Int32 → MI → ML → Option ((String ⊕ Unit) × MI × ML) := (f_g_X10_readAny n).2.1
def f_X10_readAtom (n : Nat) : Nat → Int32 → MI → ML → Option ((String ⊕ Unit) × MI × ML) := (f_g_X10_readAny n).2.2
theorem C_f_g_X10_readAny {g : Gx} : ∀ (n : Nat), (∀ {x1 : Nat} {x2 : Int32} (hx1 : isH x1) {I : MI} {L : ML} {res : (String ⊕ Unit) × MI × ML}, f_X10_readAny n x1 x2 I L = some res → Ent g (8 + n) (bS res.1) mX10_readAny [.ref 1, .ref (x1 + 5), .int x2] (I, L) (rU res.1) (res.2.1, res.2.2)) ∧ (∀ {x1 : Nat} {x2 : Int32} (hx1 : isH x1) {I : MI} {L : ML} {res : (String ⊕ Unit) × MI × ML}, f_X10_readAll n x1 x2 I L = some res → Ent g (8 + n) (bS res.1) mX10_readAll [.ref 1, .ref (x1 + 5), .int x2] (I, L) (rU res.1) (res.2.1, res.2.2)) ∧ (∀ {x1 : Nat} {x2 : Int32} (hx1 : isH x1) {I : MI} {L : ML} {res : (String ⊕ Unit) × MI × ML}, f_X10_readAtom n x1 x2 I L = some res → Ent g (8 + n) (bS res.1) mX10_readAtom [.ref 1, .ref (x1 + 5), .int x2] (I, L) (rU res.1) (res.2.1, res.2.2)) := by
  intro n
  induction n with
  | zero =>
    refine ⟨?_, ?_, ?_⟩
    · intros
      rename_i h
      cases h
    · intros
      rename_i h
      cases h
    · intros
      rename_i h
      cases h
  | succ n ih =>
    refine ⟨?_, ?_, ?_⟩
    · intro x1 x2 hx1 I L res h
      exact Ent_of (by decide +kernel) (Nat.le_of_ble_eq_true rfl) (S_X10_readAny (D := 8 + n) (by omega) ih.1 ih.2.1 ih.2.2 x1 x2 hx1 I L _ h)
    · intro x1 x2 hx1 I L res h
      exact Ent_of (by decide +kernel) (Nat.le_of_ble_eq_true rfl) (S_X10_readAll (D := 8 + n) (by omega) ih.1 ih.2.1 ih.2.2 x1 x2 hx1 I L _ h)
    · intro x1 x2 hx1 I L res h
      exact Ent_of (by decide +kernel) (Nat.le_of_ble_eq_true rfl) (S_X10_readAtom (D := 8 + n) (by omega) ih.1 ih.2.1 ih.2.2 x1 x2 hx1 I L _ h)
theorem C_X10_readAny {g : Gx} (n : Nat) : ∀ {x1 : Nat} {x2 : Int32} (hx1 : isH x1) {I : MI} {L : ML} {res : (String ⊕ Unit) × MI × ML}, f_X10_readAny n x1 x2 I L = some res → Ent g (8 + n) (bS res.1) mX10_readAny [.ref 1, .ref (x1 + 5), .int x2] (I, L) (rU res.1) (res.2.1, res.2.2) := (C_f_g_X10_readAny n).1
theorem C_X10_readAll {g : Gx} (n : Nat) : ∀ {x1 : Nat} {x2 : Int32} (hx1 : isH x1) {I : MI} {L : ML} {res : (String ⊕ Unit) × MI × ML}, f_X10_readAll n x1 x2 I L = some res → Ent g (8 + n) (bS res.1) mX10_readAll [.ref 1, .ref (x1 + 5), .int x2] (I, L) (rU res.1) (res.2.1, res.2.2) := (C_f_g_X10_readAny n).2.1
theorem C_X10_readAtom {g : Gx} (n : Nat) : ∀ {x1 : Nat} {x2 : Int32} (hx1 : isH x1) {I : MI} {L : ML} {res : (String ⊕ Unit) × MI × ML}, f_X10_readAtom n x1 x2 I L = some res → Ent g (8 + n) (bS res.1) mX10_readAtom [.ref 1, .ref (x1 + 5), .int x2] (I, L) (rU res.1) (res.2.1, res.2.2) := (C_f_g_X10_readAny n).2.2
def f_X10_readLine_62 (x1 : Nat) (x3 : Int32) (x4 : Int32) (I : MI) (L : ML) : Option ((String ⊕ Unit) × MI × ML) := Option.bind (f_X9_addLine x1 x3 x4 I L) fun w1 => some (.inr (), w1.1, w1.2)
set_option maxRecDepth 100000 in
theorem S_X10_readLine_62 {g : Gx} (x1 : Nat) (x3 : Int32) (x4 : Int32) (hx1 : isH x1) (I : MI) (L : ML) (res : (String ⊕ Unit) × MI × ML) (h : f_X10_readLine_62 x1 x3 x4 I L = some res) : E g 49 (bS res.1) mX10_readLine 62 [(1, .ref (x1 + 5)), (3, .int x3), (4, .int x4)] [] (I, L) (rU res.1) (res.2.1, res.2.2) := by
  unfold f_X10_readLine_62 at h
  refine E_aload_n (M := mX10_readLine) 63 rfl dX10_readLine_62 rfl 0 rfl ?_
  refine E_iload_n (M := mX10_readLine) 64 rfl dX10_readLine_63 rfl 1 rfl ?_
  refine E_iload (M := mX10_readLine) 66 rfl dX10_readLine_64 2 rfl ?_
  replace h := Option.bind_eq_some_iff.mp h
  obtain ⟨w1, hw1, h⟩ := h
  refine E_cV0 (M := mX10_readLine) (As := [.int x3, .int x4]) 69 rfl dX10_readLine_66 (sh_H5 hx1) ck_X10_57 cv_X9_addLine rfl (by decide) (Nat.le_of_ble_eq_true rfl) (C_X9_addLine (g := g) hx1 hw1) rfl ?_
  cases h
  exact E_vret (M := mX10_readLine) rfl dX10_readLine_69
def f_X10_readLine_47 (x1 : Nat) (x3 : Int32) (x4 : Int32) (I : MI) (L : ML) : Option ((String ⊕ Unit) × MI × ML) := Option.bind (f_X8_takesWord 20 I L) fun w1 => if w1.1 = true then (Option.bind (f_X10_readAny 40 x1 0 w1.2.1 w1.2.2) fun w3 => xc w3 fun _ => f_X10_readLine_62 x1 x3 x4 w3.2.1 w3.2.2) else (f_X10_readLine_62 x1 x3 x4 w1.2.1 w1.2.2)
set_option maxRecDepth 100000 in
theorem S_X10_readLine_47 {g : Gx} (x1 : Nat) (x3 : Int32) (x4 : Int32) (hx1 : isH x1) (I : MI) (L : ML) (res : (String ⊕ Unit) × MI × ML) (h : f_X10_readLine_47 x1 x3 x4 I L = some res) : E g 49 (bS res.1) mX10_readLine 47 [(0, .ref 1), (1, .ref (x1 + 5)), (3, .int x3), (4, .int x4)] [] (I, L) (rU res.1) (res.2.1, res.2.2) := by
  unfold f_X10_readLine_47 at h
  refine E_aload_n (M := mX10_readLine) 48 rfl dX10_readLine_47 rfl 0 rfl ?_
  refine E_ldcS (M := mX10_readLine) 20 (by decide) 50 rfl dX10_readLine_48 rfl ?_
  replace h := Option.bind_eq_some_iff.mp h
  obtain ⟨w1, hw1, h⟩ := h
  refine E_cV1 (M := mX10_readLine) (As := [.ref (100000 + 20)]) 53 rfl dX10_readLine_50 shc_1 ck_X10_35 cv_X8_takesWord rfl (by decide) (Nat.le_of_ble_eq_true rfl) (C_X8_takesWord (g := g) (by decide) hw1) rfl ?_
  refine E_if_eqB (M := mX10_readLine) 62 56 (by decide) rfl dX10_readLine_53 (fun c2 => ?_) (fun c2 => ?_)
  · rw [if_neg (by rw [c2]; decide)] at h
    refine E_sub (M := mX10_readLine) (lv' := [(1, .ref (x1 + 5)), (3, .int x3), (4, .int x4)]) [1, 2, 3] rfl ?_
    exact S_X10_readLine_62 x1 x3 x4 hx1 w1.2.1 w1.2.2 _ h
  · rw [if_pos c2] at h
    refine E_aload_n (M := mX10_readLine) 57 rfl dX10_readLine_56 rfl 0 rfl ?_
    refine E_aload_n (M := mX10_readLine) 58 rfl dX10_readLine_57 rfl 1 rfl ?_
    refine E_iconst (M := mX10_readLine) (v := 0) 59 rfl dX10_readLine_58 (by decide) ?_
    replace h := Option.bind_eq_some_iff.mp h
    obtain ⟨w3, hw3, h⟩ := h
    replace h := xc_s h
    rcases h with ⟨ex4, hex4, rfl⟩ | ⟨v5, hv5, h⟩
    · have hc := (C_X10_readAny (g := g) 40 hx1 hw3)
      rw [hex4] at hc
      exact E_callSX (M := mX10_readLine) (As := [.ref 1, .ref (x1 + 5), .int 0]) dX10_readLine_59 ck_X10_53 ss_X10_readAny rfl (by decide) (Nat.le_of_ble_eq_true rfl) hc rfl
    have hcv5 := (C_X10_readAny (g := g) 40 hx1 hw3)
    rw [hv5] at hcv5
    refine E_cS0 (M := mX10_readLine) (As := [.ref 1, .ref (x1 + 5), .int 0]) 62 rfl dX10_readLine_59 ck_X10_53 ss_X10_readAny rfl (by decide) (Nat.le_of_ble_eq_true rfl) hcv5 rfl ?_
    refine E_sub (M := mX10_readLine) (lv' := [(1, .ref (x1 + 5)), (3, .int x3), (4, .int x4)]) [1, 2, 3] rfl ?_
    exact S_X10_readLine_62 x1 x3 x4 hx1 w3.2.1 w3.2.2 _ h
def f_X10_readLine_17 (x1 : Nat) (x2 : Bool) (I : MI) (L : ML) : Option ((String ⊕ Unit) × MI × ML) := Option.bind (f_X8_needNumber 0 5 I L) fun w1 => xc w1 fun v3 => if x2 = true then (f_X10_readLine_47 x1 v3 ((-1)) w1.2.1 w1.2.2) else (Option.bind (f_X8_needWord 19 w1.2.1 w1.2.2) fun w5 => xc w5 fun _ => Option.bind (f_X8_needNumber 0 999 w5.2.1 w5.2.2) fun w8 => xc w8 fun v10 => f_X10_readLine_47 x1 v3 v10 w8.2.1 w8.2.2)
set_option maxRecDepth 100000 in
theorem S_X10_readLine_17 {g : Gx} (x1 : Nat) (x2 : Bool) (hx1 : isH x1) (I : MI) (L : ML) (res : (String ⊕ Unit) × MI × ML) (h : f_X10_readLine_17 x1 x2 I L = some res) : E g 49 (bS res.1) mX10_readLine 17 [(0, .ref 1), (1, .ref (x1 + 5)), (2, .int (bI x2))] [] (I, L) (rU res.1) (res.2.1, res.2.2) := by
  unfold f_X10_readLine_17 at h
  refine E_aload_n (M := mX10_readLine) 18 rfl dX10_readLine_17 rfl 0 rfl ?_
  refine E_iconst (M := mX10_readLine) (v := 0) 19 rfl dX10_readLine_18 (by decide) ?_
  refine E_iconst (M := mX10_readLine) (v := 5) 20 rfl dX10_readLine_19 (by decide) ?_
  replace h := Option.bind_eq_some_iff.mp h
  obtain ⟨w1, hw1, h⟩ := h
  replace h := xc_s h
  rcases h with ⟨ex2, hex2, rfl⟩ | ⟨v3, hv3, h⟩
  · have hc := (C_X8_needNumber (g := g) hw1)
    rw [hex2] at hc
    exact E_callVX (M := mX10_readLine) (As := [.int 0, .int 5]) dX10_readLine_20 shc_1 ck_X10_45 cv_X8_needNumber rfl (by decide) (Nat.le_of_ble_eq_true rfl) hc rfl
  have hcv3 := (C_X8_needNumber (g := g) hw1)
  rw [hv3] at hcv3
  refine E_cV1 (M := mX10_readLine) (As := [.int 0, .int 5]) 23 rfl dX10_readLine_20 shc_1 ck_X10_45 cv_X8_needNumber rfl (by decide) (Nat.le_of_ble_eq_true rfl) hcv3 rfl ?_
  refine E_istore_n (M := mX10_readLine) (lv' := [(3, .int v3), (0, .ref 1), (1, .ref (x1 + 5)), (2, .int (bI x2))]) 24 rfl dX10_readLine_23 rfl (Nat.le_of_ble_eq_true rfl) rfl ?_
  refine E_iconst (M := mX10_readLine) (v := (-1)) 25 rfl dX10_readLine_24 (by decide) ?_
  refine E_istore (M := mX10_readLine) (lv' := [(4, .int ((-1))), (3, .int v3), (0, .ref 1), (1, .ref (x1 + 5)), (2, .int (bI x2))]) 27 rfl dX10_readLine_25 (Nat.le_of_ble_eq_true rfl) rfl ?_
  refine E_iload_n (M := mX10_readLine) 28 rfl dX10_readLine_27 rfl 4 rfl ?_
  refine E_if_neB (M := mX10_readLine) 47 31 (by decide) rfl dX10_readLine_28 (fun c4 => ?_) (fun c4 => ?_)
  · rw [if_pos c4] at h
    refine E_sub (M := mX10_readLine) (lv' := [(0, .ref 1), (1, .ref (x1 + 5)), (3, .int v3), (4, .int ((-1)))]) [2, 3, 1, 0] rfl ?_
    exact S_X10_readLine_47 x1 v3 ((-1)) hx1 w1.2.1 w1.2.2 _ h
  · rw [if_neg (by rw [c4]; decide)] at h
    refine E_aload_n (M := mX10_readLine) 32 rfl dX10_readLine_31 rfl 2 rfl ?_
    refine E_ldcS (M := mX10_readLine) 19 (by decide) 34 rfl dX10_readLine_32 rfl ?_
    replace h := Option.bind_eq_some_iff.mp h
    obtain ⟨w5, hw5, h⟩ := h
    replace h := xc_s h
    rcases h with ⟨ex6, hex6, rfl⟩ | ⟨v7, hv7, h⟩
    · have hc := (C_X8_needWord (g := g) (by decide) hw5)
      rw [hex6] at hc
      exact E_callVX (M := mX10_readLine) (As := [.ref (100000 + 19)]) dX10_readLine_34 shc_1 ck_X10_41 cv_X8_needWord rfl (by decide) (Nat.le_of_ble_eq_true rfl) hc rfl
    have hcv7 := (C_X8_needWord (g := g) (by decide) hw5)
    rw [hv7] at hcv7
    refine E_cV0 (M := mX10_readLine) (As := [.ref (100000 + 19)]) 37 rfl dX10_readLine_34 shc_1 ck_X10_41 cv_X8_needWord rfl (by decide) (Nat.le_of_ble_eq_true rfl) hcv7 rfl ?_
    refine E_aload_n (M := mX10_readLine) 38 rfl dX10_readLine_37 rfl 2 rfl ?_
    refine E_iconst (M := mX10_readLine) (v := 0) 39 rfl dX10_readLine_38 (by decide) ?_
    refine E_sipush (M := mX10_readLine) (v := 999) 42 rfl dX10_readLine_39 (by decide) ?_
    replace h := Option.bind_eq_some_iff.mp h
    obtain ⟨w8, hw8, h⟩ := h
    replace h := xc_s h
    rcases h with ⟨ex9, hex9, rfl⟩ | ⟨v10, hv10, h⟩
    · have hc := (C_X8_needNumber (g := g) hw8)
      rw [hex9] at hc
      exact E_callVX (M := mX10_readLine) (As := [.int 0, .int 999]) dX10_readLine_42 shc_1 ck_X10_45 cv_X8_needNumber rfl (by decide) (Nat.le_of_ble_eq_true rfl) hc rfl
    have hcv10 := (C_X8_needNumber (g := g) hw8)
    rw [hv10] at hcv10
    refine E_cV1 (M := mX10_readLine) (As := [.int 0, .int 999]) 45 rfl dX10_readLine_42 shc_1 ck_X10_45 cv_X8_needNumber rfl (by decide) (Nat.le_of_ble_eq_true rfl) hcv10 rfl ?_
    refine E_istore (M := mX10_readLine) (lv' := [(4, .int v10), (3, .int v3), (0, .ref 1), (1, .ref (x1 + 5)), (2, .int (bI x2))]) 47 rfl dX10_readLine_45 (Nat.le_of_ble_eq_true rfl) rfl ?_
    refine E_sub (M := mX10_readLine) (lv' := [(0, .ref 1), (1, .ref (x1 + 5)), (3, .int v3), (4, .int v10)]) [2, 3, 1, 0] rfl ?_
    exact S_X10_readLine_47 x1 v3 v10 hx1 w8.2.1 w8.2.2 _ h
def f_X10_readLine (x1 : Nat) (I : MI) (L : ML) : Option ((String ⊕ Unit) × MI × ML) := Option.bind (f_X8_takesWord 17 I L) fun w1 => if w1.1 = true then (f_X10_readLine_17 x1 w1.1 w1.2.1 w1.2.2) else (Option.bind (f_X8_needWord 18 w1.2.1 w1.2.2) fun w3 => xc w3 fun _ => f_X10_readLine_17 x1 w1.1 w3.2.1 w3.2.2)
set_option maxRecDepth 100000 in
theorem S_X10_readLine {g : Gx} (x1 : Nat) (hx1 : isH x1) (I : MI) (L : ML) (res : (String ⊕ Unit) × MI × ML) (h : f_X10_readLine x1 I L = some res) : E g 49 (bS res.1) mX10_readLine 0 [(0, .ref 1), (1, .ref (x1 + 5))] [] (I, L) (rU res.1) (res.2.1, res.2.2) := by
  unfold f_X10_readLine at h
  refine E_aload_n (M := mX10_readLine) 1 rfl dX10_readLine_0 rfl 0 rfl ?_
  refine E_ldcS (M := mX10_readLine) 17 (by decide) 3 rfl dX10_readLine_1 rfl ?_
  replace h := Option.bind_eq_some_iff.mp h
  obtain ⟨w1, hw1, h⟩ := h
  refine E_cV1 (M := mX10_readLine) (As := [.ref (100000 + 17)]) 6 rfl dX10_readLine_3 shc_1 ck_X10_35 cv_X8_takesWord rfl (by decide) (Nat.le_of_ble_eq_true rfl) (C_X8_takesWord (g := g) (by decide) hw1) rfl ?_
  refine E_istore_n (M := mX10_readLine) (lv' := [(2, .int (bI w1.1)), (0, .ref 1), (1, .ref (x1 + 5))]) 7 rfl dX10_readLine_6 rfl (Nat.le_of_ble_eq_true rfl) rfl ?_
  refine E_iload_n (M := mX10_readLine) 8 rfl dX10_readLine_7 rfl 0 rfl ?_
  refine E_if_neB (M := mX10_readLine) 17 11 (by decide) rfl dX10_readLine_8 (fun c2 => ?_) (fun c2 => ?_)
  · rw [if_pos c2] at h
    refine E_sub (M := mX10_readLine) (lv' := [(0, .ref 1), (1, .ref (x1 + 5)), (2, .int (bI w1.1))]) [1, 2, 0] rfl ?_
    exact S_X10_readLine_17 x1 w1.1 hx1 w1.2.1 w1.2.2 _ h
  · rw [if_neg (by rw [c2]; decide)] at h
    refine E_aload_n (M := mX10_readLine) 12 rfl dX10_readLine_11 rfl 1 rfl ?_
    refine E_ldcS (M := mX10_readLine) 18 (by decide) 14 rfl dX10_readLine_12 rfl ?_
    replace h := Option.bind_eq_some_iff.mp h
    obtain ⟨w3, hw3, h⟩ := h
    replace h := xc_s h
    rcases h with ⟨ex4, hex4, rfl⟩ | ⟨v5, hv5, h⟩
    · have hc := (C_X8_needWord (g := g) (by decide) hw3)
      rw [hex4] at hc
      exact E_callVX (M := mX10_readLine) (As := [.ref (100000 + 18)]) dX10_readLine_14 shc_1 ck_X10_41 cv_X8_needWord rfl (by decide) (Nat.le_of_ble_eq_true rfl) hc rfl
    have hcv5 := (C_X8_needWord (g := g) (by decide) hw3)
    rw [hv5] at hcv5
    refine E_cV0 (M := mX10_readLine) (As := [.ref (100000 + 18)]) 17 rfl dX10_readLine_14 shc_1 ck_X10_41 cv_X8_needWord rfl (by decide) (Nat.le_of_ble_eq_true rfl) hcv5 rfl ?_
    refine E_sub (M := mX10_readLine) (lv' := [(0, .ref 1), (1, .ref (x1 + 5)), (2, .int (bI w1.1))]) [1, 2, 0] rfl ?_
    exact S_X10_readLine_17 x1 w1.1 hx1 w3.2.1 w3.2.2 _ h
theorem C_X10_readLine {g : Gx} {x1 : Nat} (hx1 : isH x1) {I : MI} {L : ML} {res : (String ⊕ Unit) × MI × ML} (h : f_X10_readLine x1 I L = some res) : Ent g 49 (bS res.1) mX10_readLine [.ref 1, .ref (x1 + 5)] (I, L) (rU res.1) (res.2.1, res.2.2) := Ent_of (by decide +kernel) (Nat.le_of_ble_eq_true rfl) (S_X10_readLine x1 hx1 I L _ h)
def f_X10_read_60 (I : MI) (L : ML) : Option ((String ⊕ Unit) × MI × ML) := some (.inr (), I, L)
set_option maxRecDepth 100000 in
theorem S_X10_read_60 {g : Gx} (I : MI) (L : ML) (res : (String ⊕ Unit) × MI × ML) (h : f_X10_read_60 I L = some res) : E g 50 (bS res.1) mX10_read 60 [] [] (I, L) (rU res.1) (res.2.1, res.2.2) := by
  unfold f_X10_read_60 at h
  cases h
  exact E_vret (M := mX10_read) rfl dX10_read_60
def f_X10_read_41 (k19 : Nat → Bool → Int32 → MI → ML → Option ((String ⊕ Unit) × MI × ML)) (x1 : Nat) (x3 : Int32) (y1 : Bool) (I : MI) (L : ML) : Option ((String ⊕ Unit) × MI × ML) := Option.bind (f_X8_check y1 I L) fun w1 => xc w1 fun _ => Option.bind (f_X10_readLine x1 w1.2.1 w1.2.2) fun w4 => xc w4 fun _ => Option.bind (f_X8_hasNextLine w4.2.1 w4.2.2) fun w7 => xc w7 fun v9 => k19 x1 v9 (x3 + 1) w7.2.1 w7.2.2
set_option maxRecDepth 100000 in
theorem S_X10_read_41 {g : Gx} {k19 : Nat → Bool → Int32 → MI → ML → Option ((String ⊕ Unit) × MI × ML)} (hk19 : ∀ (x1z : Nat) (x2z : Bool) (x3z : Int32) (hx1z : isH x1z) (I : MI) (L : ML) (res : (String ⊕ Unit) × MI × ML), k19 x1z x2z x3z I L = some res → E g 50 (bS res.1) mX10_read 19 [(0, .ref 1), (1, .ref (x1z + 5)), (2, .int (bI x2z)), (3, .int x3z)] [] (I, L) (rU res.1) (res.2.1, res.2.2)) (x1 : Nat) (x3 : Int32) (y1 : Bool) (hx1 : isH x1) (I : MI) (L : ML) (res : (String ⊕ Unit) × MI × ML) (h : f_X10_read_41 k19 x1 x3 y1 I L = some res) : E g 50 (bS res.1) mX10_read 41 [(0, .ref 1), (1, .ref (x1 + 5)), (3, .int x3)] [.int (bI y1), .ref 1] (I, L) (rU res.1) (res.2.1, res.2.2) := by
  unfold f_X10_read_41 at h
  replace h := Option.bind_eq_some_iff.mp h
  obtain ⟨w1, hw1, h⟩ := h
  replace h := xc_s h
  rcases h with ⟨ex2, hex2, rfl⟩ | ⟨v3, hv3, h⟩
  · have hc := (C_X8_check (g := g) hw1)
    rw [hex2] at hc
    exact E_callVX (M := mX10_read) (As := [.int (bI y1)]) dX10_read_41 shc_1 ck_X10_20 cv_X8_check rfl (by decide) (Nat.le_of_ble_eq_true rfl) hc rfl
  have hcv3 := (C_X8_check (g := g) hw1)
  rw [hv3] at hcv3
  refine E_cV0 (M := mX10_read) (As := [.int (bI y1)]) 44 rfl dX10_read_41 shc_1 ck_X10_20 cv_X8_check rfl (by decide) (Nat.le_of_ble_eq_true rfl) hcv3 rfl ?_
  refine E_aload_n (M := mX10_read) 45 rfl dX10_read_44 rfl 0 rfl ?_
  refine E_aload_n (M := mX10_read) 46 rfl dX10_read_45 rfl 1 rfl ?_
  replace h := Option.bind_eq_some_iff.mp h
  obtain ⟨w4, hw4, h⟩ := h
  replace h := xc_s h
  rcases h with ⟨ex5, hex5, rfl⟩ | ⟨v6, hv6, h⟩
  · have hc := (C_X10_readLine (g := g) hx1 hw4)
    rw [hex5] at hc
    exact E_callSX (M := mX10_read) (As := [.ref 1, .ref (x1 + 5)]) dX10_read_46 ck_X10_24 ss_X10_readLine rfl (by decide) (Nat.le_of_ble_eq_true rfl) hc rfl
  have hcv6 := (C_X10_readLine (g := g) hx1 hw4)
  rw [hv6] at hcv6
  refine E_cS0 (M := mX10_read) (As := [.ref 1, .ref (x1 + 5)]) 49 rfl dX10_read_46 ck_X10_24 ss_X10_readLine rfl (by decide) (Nat.le_of_ble_eq_true rfl) hcv6 rfl ?_
  refine E_aload_n (M := mX10_read) 50 rfl dX10_read_49 rfl 0 rfl ?_
  replace h := Option.bind_eq_some_iff.mp h
  obtain ⟨w7, hw7, h⟩ := h
  replace h := xc_s h
  rcases h with ⟨ex8, hex8, rfl⟩ | ⟨v9, hv9, h⟩
  · have hc := (C_X8_hasNextLine (g := g) hw7)
    rw [hex8] at hc
    exact E_callVX (M := mX10_read) (As := []) dX10_read_50 shc_1 ck_X10_30 cv_X8_hasNextLine rfl (by decide) (Nat.le_of_ble_eq_true rfl) hc rfl
  have hcv9 := (C_X8_hasNextLine (g := g) hw7)
  rw [hv9] at hcv9
  refine E_cV1 (M := mX10_read) (As := []) 53 rfl dX10_read_50 shc_1 ck_X10_30 cv_X8_hasNextLine rfl (by decide) (Nat.le_of_ble_eq_true rfl) hcv9 rfl ?_
  refine E_istore_n (M := mX10_read) (lv' := [(2, .int (bI v9)), (0, .ref 1), (1, .ref (x1 + 5)), (3, .int x3)]) 54 rfl dX10_read_53 rfl (Nat.le_of_ble_eq_true rfl) rfl ?_
  refine E_iinc (M := mX10_read) (j := 3) (v := x3 + 1) (lv' := [(3, .int (x3 + 1)), (2, .int (bI v9)), (0, .ref 1), (1, .ref (x1 + 5))]) 57 rfl dX10_read_54 rfl rfl (Nat.le_of_ble_eq_true rfl) rfl ?_
  refine E_goto (M := mX10_read) 19 (by decide) dX10_read_57 ?_
  refine E_sub (M := mX10_read) (lv' := [(0, .ref 1), (1, .ref (x1 + 5)), (2, .int (bI v9)), (3, .int (x3 + 1))]) [2, 3, 1, 0] rfl ?_
  exact hk19 x1 v9 (x3 + 1) hx1 w7.2.1 w7.2.2 _ h
def f_X10_read_19 : Nat → Nat → Bool → Int32 → MI → ML → Option ((String ⊕ Unit) × MI × ML)
  | 0, _, _, _, _, _ => none
  | n + 1, x1, x2, x3, I, L => if x2 = true then (if 12 < x3 then (f_X10_read_60 I L) else (if 12 ≤ x3 then (f_X10_read_41 (f_X10_read_19 n) x1 x3 false I L) else (f_X10_read_41 (f_X10_read_19 n) x1 x3 true I L))) else (f_X10_read_60 I L)
set_option maxRecDepth 100000 in
theorem S_X10_read_19 {g : Gx} : ∀ (n : Nat) (x1 : Nat) (x2 : Bool) (x3 : Int32) (hx1 : isH x1) (I : MI) (L : ML) (res : (String ⊕ Unit) × MI × ML), f_X10_read_19 n x1 x2 x3 I L = some res → E g 50 (bS res.1) mX10_read 19 [(0, .ref 1), (1, .ref (x1 + 5)), (2, .int (bI x2)), (3, .int x3)] [] (I, L) (rU res.1) (res.2.1, res.2.2) := by
  intro n
  induction n with
  | zero =>
    intros
    rename_i h
    cases h
  | succ n ih =>
    intro x1 x2 x3 hx1 I L res h
    rw [f_X10_read_19] at h
    refine E_iload_n (M := mX10_read) 20 rfl dX10_read_19 rfl 2 rfl ?_
    refine E_if_eqB (M := mX10_read) 60 23 (by decide) rfl dX10_read_20 (fun c1 => ?_) (fun c1 => ?_)
    · rw [if_neg (by rw [c1]; decide)] at h
      refine E_sub (M := mX10_read) (lv' := []) [] rfl ?_
      exact S_X10_read_60 I L _ h
    · rw [if_pos c1] at h
      refine E_iload_n (M := mX10_read) 24 rfl dX10_read_23 rfl 3 rfl ?_
      refine E_bipush (M := mX10_read) (v := 12) 26 rfl dX10_read_24 (by decide) ?_
      refine E_icmp_gt (M := mX10_read) 60 29 (by decide) rfl dX10_read_26 (fun c2 => ?_) (fun c2 => ?_)
      · rw [if_pos c2] at h
        refine E_sub (M := mX10_read) (lv' := []) [] rfl ?_
        exact S_X10_read_60 I L _ h
      · rw [if_neg c2] at h
        refine E_aload_n (M := mX10_read) 30 rfl dX10_read_29 rfl 0 rfl ?_
        refine E_iload_n (M := mX10_read) 31 rfl dX10_read_30 rfl 3 rfl ?_
        refine E_bipush (M := mX10_read) (v := 12) 33 rfl dX10_read_31 (by decide) ?_
        refine E_icmp_ge (M := mX10_read) 40 36 (by decide) rfl dX10_read_33 (fun c3 => ?_) (fun c3 => ?_)
        · rw [if_pos c3] at h
          refine E_iconst (M := mX10_read) (v := 0) 41 rfl dX10_read_40 (by decide) ?_
          refine E_sub (M := mX10_read) (lv' := [(0, .ref 1), (1, .ref (x1 + 5)), (3, .int x3)]) [0, 1, 3] rfl ?_
          exact S_X10_read_41 ih x1 x3 false hx1 I L _ h
        · rw [if_neg c3] at h
          refine E_iconst (M := mX10_read) (v := 1) 37 rfl dX10_read_36 (by decide) ?_
          refine E_goto (M := mX10_read) 41 (by decide) dX10_read_37 ?_
          refine E_sub (M := mX10_read) (lv' := [(0, .ref 1), (1, .ref (x1 + 5)), (3, .int x3)]) [0, 1, 3] rfl ?_
          exact S_X10_read_41 ih x1 x3 true hx1 I L _ h
def f_X10_read_16 (x1 : Nat) (y0 : Bool) (I : MI) (L : ML) : Option ((String ⊕ Unit) × MI × ML) := f_X10_read_19 FU x1 y0 0 I L
set_option maxRecDepth 100000 in
theorem S_X10_read_16 {g : Gx} (x1 : Nat) (y0 : Bool) (hx1 : isH x1) (I : MI) (L : ML) (res : (String ⊕ Unit) × MI × ML) (h : f_X10_read_16 x1 y0 I L = some res) : E g 50 (bS res.1) mX10_read 16 [(0, .ref 1), (1, .ref (x1 + 5))] [.int (bI y0)] (I, L) (rU res.1) (res.2.1, res.2.2) := by
  unfold f_X10_read_16 at h
  refine E_istore_n (M := mX10_read) (lv' := [(2, .int (bI y0)), (0, .ref 1), (1, .ref (x1 + 5))]) 17 rfl dX10_read_16 rfl (Nat.le_of_ble_eq_true rfl) rfl ?_
  refine E_iconst (M := mX10_read) (v := 0) 18 rfl dX10_read_17 (by decide) ?_
  refine E_istore_n (M := mX10_read) (lv' := [(3, .int 0), (2, .int (bI y0)), (0, .ref 1), (1, .ref (x1 + 5))]) 19 rfl dX10_read_18 rfl (Nat.le_of_ble_eq_true rfl) rfl ?_
  refine E_sub (M := mX10_read) (lv' := [(0, .ref 1), (1, .ref (x1 + 5)), (2, .int (bI y0)), (3, .int 0)]) [2, 3, 1, 0] rfl ?_
  exact S_X10_read_19 FU x1 y0 0 hx1 I L _ h
def f_X10_read (x1 : Nat) (I : MI) (L : ML) : Option ((String ⊕ Unit) × MI × ML) := Option.bind (f_X9_clear x1 I L) fun w1 => Option.bind (f_X8_isOver w1.1 w1.2) fun v2 => if v2 = true then (f_X10_read_16 x1 false w1.1 w1.2) else (f_X10_read_16 x1 true w1.1 w1.2)
set_option maxRecDepth 100000 in
theorem S_X10_read {g : Gx} (x1 : Nat) (hx1 : isH x1) (I : MI) (L : ML) (res : (String ⊕ Unit) × MI × ML) (h : f_X10_read x1 I L = some res) : E g 50 (bS res.1) mX10_read 0 [(0, .ref 1), (1, .ref (x1 + 5))] [] (I, L) (rU res.1) (res.2.1, res.2.2) := by
  unfold f_X10_read at h
  refine E_aload_n (M := mX10_read) 1 rfl dX10_read_0 rfl 1 rfl ?_
  replace h := Option.bind_eq_some_iff.mp h
  obtain ⟨w1, hw1, h⟩ := h
  refine E_cV0 (M := mX10_read) (As := []) 4 rfl dX10_read_1 (sh_H5 hx1) ck_X10_9 cv_X9_clear rfl (by decide) (Nat.le_of_ble_eq_true rfl) (C_X9_clear (g := g) hx1 hw1) rfl ?_
  refine E_aload_n (M := mX10_read) 5 rfl dX10_read_4 rfl 0 rfl ?_
  replace h := Option.bind_eq_some_iff.mp h
  obtain ⟨v2, hv2, h⟩ := h
  refine E_cV1 (M := mX10_read) (As := []) 8 rfl dX10_read_5 shc_1 ck_X10_14 cv_X8_isOver rfl (by decide) (Nat.le_of_ble_eq_true rfl) (C_X8_isOver (g := g) hv2) rfl ?_
  refine E_if_neB (M := mX10_read) 15 11 (by decide) rfl dX10_read_8 (fun c3 => ?_) (fun c3 => ?_)
  · rw [if_pos c3] at h
    refine E_iconst (M := mX10_read) (v := 0) 16 rfl dX10_read_15 (by decide) ?_
    refine E_sub (M := mX10_read) (lv' := [(0, .ref 1), (1, .ref (x1 + 5))]) [0, 1] rfl ?_
    exact S_X10_read_16 x1 false hx1 w1.1 w1.2 _ h
  · rw [if_neg (by rw [c3]; decide)] at h
    refine E_iconst (M := mX10_read) (v := 1) 12 rfl dX10_read_11 (by decide) ?_
    refine E_goto (M := mX10_read) 16 (by decide) dX10_read_12 ?_
    refine E_sub (M := mX10_read) (lv' := [(0, .ref 1), (1, .ref (x1 + 5))]) [0, 1] rfl ?_
    exact S_X10_read_16 x1 true hx1 w1.1 w1.2 _ h
theorem C_X10_read {g : Gx} {x1 : Nat} (hx1 : isH x1) {I : MI} {L : ML} {res : (String ⊕ Unit) × MI × ML} (h : f_X10_read x1 I L = some res) : Ent g 50 (bS res.1) mX10_read [.ref 1, .ref (x1 + 5)] (I, L) (rU res.1) (res.2.1, res.2.2) := Ent_of (by decide +kernel) (Nat.le_of_ble_eq_true rfl) (S_X10_read x1 hx1 I L _ h)
