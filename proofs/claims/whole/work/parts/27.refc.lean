def f_X12_atOf (x1 : Int32) (x2 : Int32) (I : MI) (L : ML) : Option (Int32) := Option.bind (f_X12_of x1 3 I L) fun v1 => Option.bind (f_X12_of x1 5 I L) fun v2 => Option.bind (f_X12_of x1 1 I L) fun v3 => Option.bind (f_X12_costOf v3 x2 I L) fun v4 => Option.bind (f_X12_of x1 1 I L) fun v5 => Option.bind (ldI I 150 2143 (15 + v5)) fun v6 => some (if 0 < (((v1 - v2) - v4) - v6) then (((v1 - v2) - v4) - v6) else 0)
set_option maxRecDepth 100000 in
theorem S_X12_atOf {g : Gx} (x1 : Int32) (x2 : Int32) (I : MI) (L : ML) (res : Int32) (h : f_X12_atOf x1 x2 I L = some res) : E g 5 0 mX12_atOf 0 [(0, .ref 149), (1, .int x1), (2, .int x2)] [] (I, L) (.inl (some (.int res))) (I, L) := by
  unfold f_X12_atOf at h
  refine E_iconst (M := mX12_atOf) (v := 0) 1 rfl dX12_atOf_0 (by decide) ?_
  refine E_aload_n (M := mX12_atOf) 2 rfl dX12_atOf_1 rfl 0 rfl ?_
  refine E_iload_n (M := mX12_atOf) 3 rfl dX12_atOf_2 rfl 1 rfl ?_
  refine E_iconst (M := mX12_atOf) (v := 3) 4 rfl dX12_atOf_3 (by decide) ?_
  replace h := Option.bind_eq_some_iff.mp h
  obtain ⟨v1, hv1, h⟩ := h
  refine E_cV1 (M := mX12_atOf) (As := [.int x1, .int 3]) 7 rfl dX12_atOf_4 shc_149 ck_X12_260 cv_X12_of rfl (by decide) (Nat.le_of_ble_eq_true rfl) (C_X12_of (g := g) hv1) rfl ?_
  refine E_aload_n (M := mX12_atOf) 8 rfl dX12_atOf_7 rfl 0 rfl ?_
  refine E_iload_n (M := mX12_atOf) 9 rfl dX12_atOf_8 rfl 1 rfl ?_
  refine E_iconst (M := mX12_atOf) (v := 5) 10 rfl dX12_atOf_9 (by decide) ?_
  replace h := Option.bind_eq_some_iff.mp h
  obtain ⟨v2, hv2, h⟩ := h
  refine E_cV1 (M := mX12_atOf) (As := [.int x1, .int 5]) 13 rfl dX12_atOf_10 shc_149 ck_X12_260 cv_X12_of rfl (by decide) (Nat.le_of_ble_eq_true rfl) (C_X12_of (g := g) hv2) rfl ?_
  refine E_isub (M := mX12_atOf) 14 rfl dX12_atOf_13 ?_
  refine E_aload_n (M := mX12_atOf) 15 rfl dX12_atOf_14 rfl 0 rfl ?_
  refine E_aload_n (M := mX12_atOf) 16 rfl dX12_atOf_15 rfl 0 rfl ?_
  refine E_iload_n (M := mX12_atOf) 17 rfl dX12_atOf_16 rfl 1 rfl ?_
  refine E_iconst (M := mX12_atOf) (v := 1) 18 rfl dX12_atOf_17 (by decide) ?_
  replace h := Option.bind_eq_some_iff.mp h
  obtain ⟨v3, hv3, h⟩ := h
  refine E_cV1 (M := mX12_atOf) (As := [.int x1, .int 1]) 21 rfl dX12_atOf_18 shc_149 ck_X12_260 cv_X12_of rfl (by decide) (Nat.le_of_ble_eq_true rfl) (C_X12_of (g := g) hv3) rfl ?_
  refine E_iload_n (M := mX12_atOf) 22 rfl dX12_atOf_21 rfl 2 rfl ?_
  replace h := Option.bind_eq_some_iff.mp h
  obtain ⟨v4, hv4, h⟩ := h
  refine E_cV1 (M := mX12_atOf) (As := [.int v3, .int x2]) 25 rfl dX12_atOf_22 shc_149 ck_X12_252 cv_X12_costOf rfl (by decide) (Nat.le_of_ble_eq_true rfl) (C_X12_costOf (g := g) hv4) rfl ?_
  refine E_isub (M := mX12_atOf) 26 rfl dX12_atOf_25 ?_
  refine E_aload_n (M := mX12_atOf) 27 rfl dX12_atOf_26 rfl 0 rfl ?_
  refine E_gR (M := mX12_atOf) 150 30 rfl dX12_atOf_27 shc_149 fl_X12_13 rfl (by decide) (by decide) ?_
  refine E_bipush (M := mX12_atOf) (v := 15) 32 rfl dX12_atOf_30 (by decide) ?_
  refine E_aload_n (M := mX12_atOf) 33 rfl dX12_atOf_32 rfl 0 rfl ?_
  refine E_iload_n (M := mX12_atOf) 34 rfl dX12_atOf_33 rfl 1 rfl ?_
  refine E_iconst (M := mX12_atOf) (v := 1) 35 rfl dX12_atOf_34 (by decide) ?_
  replace h := Option.bind_eq_some_iff.mp h
  obtain ⟨v5, hv5, h⟩ := h
  refine E_cV1 (M := mX12_atOf) (As := [.int x1, .int 1]) 38 rfl dX12_atOf_35 shc_149 ck_X12_260 cv_X12_of rfl (by decide) (Nat.le_of_ble_eq_true rfl) (C_X12_of (g := g) hv5) rfl ?_
  refine E_iadd (M := mX12_atOf) 39 rfl dX12_atOf_38 ?_
  replace h := Option.bind_eq_some_iff.mp h
  obtain ⟨v6, hv6, h⟩ := h
  refine E_ldI (M := mX12_atOf) 40 rfl dX12_atOf_39 shc_150 hv6 ?_
  refine E_isub (M := mX12_atOf) 41 rfl dX12_atOf_40 ?_
  refine E_max (M := mX12_atOf) 44 rfl dX12_atOf_41 jm_X12_263 (by decide) (Nat.le_of_ble_eq_true rfl) ?_
  cases h
  exact E_iret (M := mX12_atOf) rfl dX12_atOf_44
theorem C_X12_atOf {g : Gx} {x1 : Int32} {x2 : Int32} {I : MI} {L : ML} {res : Int32} (h : f_X12_atOf x1 x2 I L = some res) : Ent g 5 0 mX12_atOf [.ref 149, .int x1, .int x2] (I, L) (.inl (some (.int res))) (I, L) := Ent_of (by decide +kernel) (Nat.le_of_ble_eq_true rfl) (S_X12_atOf x1 x2 I L _ h)
def f_X12_isHearing_25 (y0 : Bool) (I : MI) (L : ML) : Option (Bool) := some y0
set_option maxRecDepth 100000 in
theorem S_X12_isHearing_25 {g : Gx} (y0 : Bool) (I : MI) (L : ML) (res : Bool) (h : f_X12_isHearing_25 y0 I L = some res) : E g 6 0 mX12_isHearing 25 [] [.int (bI y0)] (I, L) (.inl (some (.int (bI res)))) (I, L) := by
  unfold f_X12_isHearing_25 at h
  cases h
  exact E_zret (M := mX12_isHearing) (x := y0) rfl dX12_isHearing_25
def f_X12_isHearing (x1 : Int32) (x2 : Int32) (I : MI) (L : ML) : Option (Bool) := Option.bind (f_X12_ofHeir x1 0 I L) fun v1 => Option.bind (f_X12_atOf x2 v1 I L) fun v2 => Option.bind (f_X12_ofHeir x1 1 I L) fun v3 => if v2 < v3 then (f_X12_isHearing_25 false I L) else (f_X12_isHearing_25 true I L)
set_option maxRecDepth 100000 in
theorem S_X12_isHearing {g : Gx} (x1 : Int32) (x2 : Int32) (I : MI) (L : ML) (res : Bool) (h : f_X12_isHearing x1 x2 I L = some res) : E g 6 0 mX12_isHearing 0 [(0, .ref 149), (1, .int x1), (2, .int x2)] [] (I, L) (.inl (some (.int (bI res)))) (I, L) := by
  unfold f_X12_isHearing at h
  refine E_aload_n (M := mX12_isHearing) 1 rfl dX12_isHearing_0 rfl 0 rfl ?_
  refine E_iload_n (M := mX12_isHearing) 2 rfl dX12_isHearing_1 rfl 2 rfl ?_
  refine E_aload_n (M := mX12_isHearing) 3 rfl dX12_isHearing_2 rfl 0 rfl ?_
  refine E_iload_n (M := mX12_isHearing) 4 rfl dX12_isHearing_3 rfl 1 rfl ?_
  refine E_iconst (M := mX12_isHearing) (v := 0) 5 rfl dX12_isHearing_4 (by decide) ?_
  replace h := Option.bind_eq_some_iff.mp h
  obtain ⟨v1, hv1, h⟩ := h
  refine E_cV1 (M := mX12_isHearing) (As := [.int x1, .int 0]) 8 rfl dX12_isHearing_5 shc_149 ck_X12_266 cv_X12_ofHeir rfl (by decide) (Nat.le_of_ble_eq_true rfl) (C_X12_ofHeir (g := g) hv1) rfl ?_
  replace h := Option.bind_eq_some_iff.mp h
  obtain ⟨v2, hv2, h⟩ := h
  refine E_cV1 (M := mX12_isHearing) (As := [.int x2, .int v1]) 11 rfl dX12_isHearing_8 shc_149 ck_X12_269 cv_X12_atOf rfl (by decide) (Nat.le_of_ble_eq_true rfl) (C_X12_atOf (g := g) hv2) rfl ?_
  refine E_aload_n (M := mX12_isHearing) 12 rfl dX12_isHearing_11 rfl 0 rfl ?_
  refine E_iload_n (M := mX12_isHearing) 13 rfl dX12_isHearing_12 rfl 1 rfl ?_
  refine E_iconst (M := mX12_isHearing) (v := 1) 14 rfl dX12_isHearing_13 (by decide) ?_
  replace h := Option.bind_eq_some_iff.mp h
  obtain ⟨v3, hv3, h⟩ := h
  refine E_cV1 (M := mX12_isHearing) (As := [.int x1, .int 1]) 17 rfl dX12_isHearing_14 shc_149 ck_X12_266 cv_X12_ofHeir rfl (by decide) (Nat.le_of_ble_eq_true rfl) (C_X12_ofHeir (g := g) hv3) rfl ?_
  refine E_icmp_lt (M := mX12_isHearing) 24 20 (by decide) rfl dX12_isHearing_17 (fun c4 => ?_) (fun c4 => ?_)
  · rw [if_pos c4] at h
    refine E_iconst (M := mX12_isHearing) (v := 0) 25 rfl dX12_isHearing_24 (by decide) ?_
    refine E_sub (M := mX12_isHearing) (lv' := []) [] rfl ?_
    exact S_X12_isHearing_25 false I L _ h
  · rw [if_neg c4] at h
    refine E_iconst (M := mX12_isHearing) (v := 1) 21 rfl dX12_isHearing_20 (by decide) ?_
    refine E_goto (M := mX12_isHearing) 25 (by decide) dX12_isHearing_21 ?_
    refine E_sub (M := mX12_isHearing) (lv' := []) [] rfl ?_
    exact S_X12_isHearing_25 true I L _ h
theorem C_X12_isHearing {g : Gx} {x1 : Int32} {x2 : Int32} {I : MI} {L : ML} {res : Bool} (h : f_X12_isHearing x1 x2 I L = some res) : Ent g 6 0 mX12_isHearing [.ref 149, .int x1, .int x2] (I, L) (.inl (some (.int (bI res)))) (I, L) := Ent_of (by decide +kernel) (Nat.le_of_ble_eq_true rfl) (S_X12_isHearing x1 x2 I L _ h)
def f_X12_isHeard_30 (k4 : Int32 → Bool → Int32 → MI → ML → Option (Bool)) (x1 : Int32) (x3 : Int32) (y0 : Bool) (I : MI) (L : ML) : Option (Bool) := k4 x1 y0 (x3 + 1) I L
set_option maxRecDepth 100000 in
theorem S_X12_isHeard_30 {g : Gx} {k4 : Int32 → Bool → Int32 → MI → ML → Option (Bool)} (hk4 : ∀ (x1z : Int32) (x2z : Bool) (x3z : Int32) (I : MI) (L : ML) (res : Bool), k4 x1z x2z x3z I L = some res → E g 7 0 mX12_isHeard 4 [(0, .ref 149), (1, .int x1z), (2, .int (bI x2z)), (3, .int x3z)] [] (I, L) (.inl (some (.int (bI res)))) (I, L)) (x1 : Int32) (x3 : Int32) (y0 : Bool) (I : MI) (L : ML) (res : Bool) (h : f_X12_isHeard_30 k4 x1 x3 y0 I L = some res) : E g 7 0 mX12_isHeard 30 [(0, .ref 149), (1, .int x1), (3, .int x3)] [.int (bI y0)] (I, L) (.inl (some (.int (bI res)))) (I, L) := by
  unfold f_X12_isHeard_30 at h
  refine E_istore_n (M := mX12_isHeard) (lv' := [(2, .int (bI y0)), (0, .ref 149), (1, .int x1), (3, .int x3)]) 31 rfl dX12_isHeard_30 rfl (Nat.le_of_ble_eq_true rfl) rfl ?_
  refine E_iinc (M := mX12_isHeard) (j := 3) (v := x3 + 1) (lv' := [(3, .int (x3 + 1)), (2, .int (bI y0)), (0, .ref 149), (1, .int x1)]) 34 rfl dX12_isHeard_31 rfl rfl (Nat.le_of_ble_eq_true rfl) rfl ?_
  refine E_goto (M := mX12_isHeard) 4 (by decide) dX12_isHeard_34 ?_
  refine E_sub (M := mX12_isHeard) (lv' := [(0, .ref 149), (1, .int x1), (2, .int (bI y0)), (3, .int (x3 + 1))]) [2, 3, 1, 0] rfl ?_
  exact hk4 x1 y0 (x3 + 1) I L _ h
def f_X12_isHeard_25 (k4 : Int32 → Bool → Int32 → MI → ML → Option (Bool)) (x1 : Int32) (x3 : Int32) (I : MI) (L : ML) : Option (Bool) := f_X12_isHeard_30 k4 x1 x3 true I L
set_option maxRecDepth 100000 in
theorem S_X12_isHeard_25 {g : Gx} {k4 : Int32 → Bool → Int32 → MI → ML → Option (Bool)} (hk4 : ∀ (x1z : Int32) (x2z : Bool) (x3z : Int32) (I : MI) (L : ML) (res : Bool), k4 x1z x2z x3z I L = some res → E g 7 0 mX12_isHeard 4 [(0, .ref 149), (1, .int x1z), (2, .int (bI x2z)), (3, .int x3z)] [] (I, L) (.inl (some (.int (bI res)))) (I, L)) (x1 : Int32) (x3 : Int32) (I : MI) (L : ML) (res : Bool) (h : f_X12_isHeard_25 k4 x1 x3 I L = some res) : E g 7 0 mX12_isHeard 25 [(0, .ref 149), (1, .int x1), (3, .int x3)] [] (I, L) (.inl (some (.int (bI res)))) (I, L) := by
  unfold f_X12_isHeard_25 at h
  refine E_iconst (M := mX12_isHeard) (v := 1) 26 rfl dX12_isHeard_25 (by decide) ?_
  refine E_goto (M := mX12_isHeard) 30 (by decide) dX12_isHeard_26 ?_
  refine E_sub (M := mX12_isHeard) (lv' := [(0, .ref 149), (1, .int x1), (3, .int x3)]) [0, 1, 2] rfl ?_
  exact S_X12_isHeard_30 hk4 x1 x3 true I L _ h
def f_X12_isHeard_4 : Nat → Int32 → Bool → Int32 → MI → ML → Option (Bool)
  | 0, _, _, _, _, _ => none
  | n + 1, x1, x2, x3, I, L => Option.bind (f_X12_heirs I L) fun v1 => if v1 ≤ x3 then (some x2) else (if x2 = true then (f_X12_isHeard_25 (f_X12_isHeard_4 n) x1 x3 I L) else (Option.bind (f_X12_isHearing x3 x1 I L) fun v4 => if v4 = true then (f_X12_isHeard_25 (f_X12_isHeard_4 n) x1 x3 I L) else (f_X12_isHeard_30 (f_X12_isHeard_4 n) x1 x3 false I L)))
set_option maxRecDepth 100000 in
theorem S_X12_isHeard_4 {g : Gx} : ∀ (n : Nat) (x1 : Int32) (x2 : Bool) (x3 : Int32) (I : MI) (L : ML) (res : Bool), f_X12_isHeard_4 n x1 x2 x3 I L = some res → E g 7 0 mX12_isHeard 4 [(0, .ref 149), (1, .int x1), (2, .int (bI x2)), (3, .int x3)] [] (I, L) (.inl (some (.int (bI res)))) (I, L) := by
  intro n
  induction n with
  | zero =>
    intros
    rename_i h
    cases h
  | succ n ih =>
    intro x1 x2 x3 I L res h
    rw [f_X12_isHeard_4] at h
    refine E_iload_n (M := mX12_isHeard) 5 rfl dX12_isHeard_4 rfl 3 rfl ?_
    refine E_aload_n (M := mX12_isHeard) 6 rfl dX12_isHeard_5 rfl 0 rfl ?_
    replace h := Option.bind_eq_some_iff.mp h
    obtain ⟨v1, hv1, h⟩ := h
    refine E_cV1 (M := mX12_isHeard) (As := []) 9 rfl dX12_isHeard_6 shc_149 ck_X12_64 cv_X12_heirs rfl (by decide) (Nat.le_of_ble_eq_true rfl) (C_X12_heirs (g := g) hv1) rfl ?_
    refine E_icmp_ge (M := mX12_isHeard) 37 12 (by decide) rfl dX12_isHeard_9 (fun c2 => ?_) (fun c2 => ?_)
    · rw [if_pos c2] at h
      refine E_iload_n (M := mX12_isHeard) 38 rfl dX12_isHeard_37 rfl 2 rfl ?_
      cases h
      exact E_zret (M := mX12_isHeard) (x := x2) rfl dX12_isHeard_38
    · rw [if_neg c2] at h
      refine E_iload_n (M := mX12_isHeard) 13 rfl dX12_isHeard_12 rfl 2 rfl ?_
      refine E_if_neB (M := mX12_isHeard) 25 16 (by decide) rfl dX12_isHeard_13 (fun c3 => ?_) (fun c3 => ?_)
      · rw [if_pos c3] at h
        refine E_sub (M := mX12_isHeard) (lv' := [(0, .ref 149), (1, .int x1), (3, .int x3)]) [0, 1, 3] rfl ?_
        exact S_X12_isHeard_25 ih x1 x3 I L _ h
      · rw [if_neg (by rw [c3]; decide)] at h
        refine E_aload_n (M := mX12_isHeard) 17 rfl dX12_isHeard_16 rfl 0 rfl ?_
        refine E_iload_n (M := mX12_isHeard) 18 rfl dX12_isHeard_17 rfl 3 rfl ?_
        refine E_iload_n (M := mX12_isHeard) 19 rfl dX12_isHeard_18 rfl 1 rfl ?_
        replace h := Option.bind_eq_some_iff.mp h
        obtain ⟨v4, hv4, h⟩ := h
        refine E_cV1 (M := mX12_isHeard) (As := [.int x3, .int x1]) 22 rfl dX12_isHeard_19 shc_149 ck_X12_272 cv_X12_isHearing rfl (by decide) (Nat.le_of_ble_eq_true rfl) (C_X12_isHearing (g := g) hv4) rfl ?_
        refine E_if_eqB (M := mX12_isHeard) 29 25 (by decide) rfl dX12_isHeard_22 (fun c5 => ?_) (fun c5 => ?_)
        · rw [if_neg (by rw [c5]; decide)] at h
          refine E_iconst (M := mX12_isHeard) (v := 0) 30 rfl dX12_isHeard_29 (by decide) ?_
          refine E_sub (M := mX12_isHeard) (lv' := [(0, .ref 149), (1, .int x1), (3, .int x3)]) [0, 1, 3] rfl ?_
          exact S_X12_isHeard_30 ih x1 x3 false I L _ h
        · rw [if_pos c5] at h
          refine E_sub (M := mX12_isHeard) (lv' := [(0, .ref 149), (1, .int x1), (3, .int x3)]) [0, 1, 3] rfl ?_
          exact S_X12_isHeard_25 ih x1 x3 I L _ h
def f_X12_isHeard (x1 : Int32) (I : MI) (L : ML) : Option (Bool) := f_X12_isHeard_4 FU x1 false 0 I L
set_option maxRecDepth 100000 in
theorem S_X12_isHeard {g : Gx} (x1 : Int32) (I : MI) (L : ML) (res : Bool) (h : f_X12_isHeard x1 I L = some res) : E g 7 0 mX12_isHeard 0 [(0, .ref 149), (1, .int x1)] [] (I, L) (.inl (some (.int (bI res)))) (I, L) := by
  unfold f_X12_isHeard at h
  refine E_iconst (M := mX12_isHeard) (v := 0) 1 rfl dX12_isHeard_0 (by decide) ?_
  refine E_istore_n (M := mX12_isHeard) (lv' := [(2, .int 0), (0, .ref 149), (1, .int x1)]) 2 rfl dX12_isHeard_1 rfl (Nat.le_of_ble_eq_true rfl) rfl ?_
  refine E_iconst (M := mX12_isHeard) (v := 0) 3 rfl dX12_isHeard_2 (by decide) ?_
  refine E_istore_n (M := mX12_isHeard) (lv' := [(3, .int 0), (2, .int 0), (0, .ref 149), (1, .int x1)]) 4 rfl dX12_isHeard_3 rfl (Nat.le_of_ble_eq_true rfl) rfl ?_
  refine E_sub (M := mX12_isHeard) (lv' := [(0, .ref 149), (1, .int x1), (2, .int 0), (3, .int 0)]) [2, 3, 1, 0] rfl ?_
  exact S_X12_isHeard_4 FU x1 false 0 I L _ h
theorem C_X12_isHeard {g : Gx} {x1 : Int32} {I : MI} {L : ML} {res : Bool} (h : f_X12_isHeard x1 I L = some res) : Ent g 7 0 mX12_isHeard [.ref 149, .int x1] (I, L) (.inl (some (.int (bI res)))) (I, L) := Ent_of (by decide +kernel) (Nat.le_of_ble_eq_true rfl) (S_X12_isHeard x1 I L _ h)
def f_X12_factOf_135 (y0 : Bool) (I : MI) (L : ML) : Option (Int32) := some (bI y0)
set_option maxRecDepth 100000 in
theorem S_X12_factOf_135 {g : Gx} (y0 : Bool) (I : MI) (L : ML) (res : Int32) (h : f_X12_factOf_135 y0 I L = some res) : E g 7 0 mX12_factOf 135 [] [.int (bI y0)] (I, L) (.inl (some (.int res))) (I, L) := by
  unfold f_X12_factOf_135 at h
  cases h
  exact E_iret (M := mX12_factOf) rfl dX12_factOf_135
def f_X12_factOf_111 (y0 : Bool) (I : MI) (L : ML) : Option (Int32) := some (bI y0)
set_option maxRecDepth 100000 in
theorem S_X12_factOf_111 {g : Gx} (y0 : Bool) (I : MI) (L : ML) (res : Int32) (h : f_X12_factOf_111 y0 I L = some res) : E g 7 0 mX12_factOf 111 [] [.int (bI y0)] (I, L) (.inl (some (.int res))) (I, L) := by
  unfold f_X12_factOf_111 at h
  cases h
  exact E_iret (M := mX12_factOf) rfl dX12_factOf_111
def f_X12_factOf (x1 : Int32) (x2 : Int32) (x3 : Int32) (x4 : Int32) (I : MI) (L : ML) : Option (Int32) := if x1 = 0 then (Option.bind (f_X12_of x4 2 I L) fun v2 => some v2) else if x1 = 1 then (Option.bind (f_X12_of x4 3 I L) fun v4 => some v4) else if x1 = 2 then (Option.bind (ldI I 150 2143 7) fun v6 => some v6) else if x1 = 3 then (Option.bind (f_X12_of x4 1 I L) fun v8 => some v8) else if x1 = 4 then (some x4) else if x1 = 5 then (Option.bind (f_X12_of x4 5 I L) fun v11 => some v11) else if x1 = 6 then (Option.bind (f_X12_of x4 0 I L) fun v13 => if v13 = x2 then (f_X12_factOf_111 true I L) else (f_X12_factOf_111 false I L)) else if x1 = 7 then (Option.bind (ldI I 150 2143 9) fun v16 => some v16) else if x1 = 8 then (Option.bind (f_X12_isHearing x3 x4 I L) fun v18 => if v18 = true then (f_X12_factOf_135 true I L) else (f_X12_factOf_135 false I L)) else (some x2)
set_option maxRecDepth 100000 in
theorem S_X12_factOf {g : Gx} (x1 : Int32) (x2 : Int32) (x3 : Int32) (x4 : Int32) (I : MI) (L : ML) (res : Int32) (h : f_X12_factOf x1 x2 x3 x4 I L = some res) : E g 7 0 mX12_factOf 0 [(0, .ref 149), (1, .int x1), (2, .int x2), (3, .int x3), (4, .int x4)] [] (I, L) (.inl (some (.int res))) (I, L) := by
  unfold f_X12_factOf at h
  refine E_iload_n (M := mX12_factOf) 1 rfl dX12_factOf_0 rfl 1 rfl ?_
  by_cases c1 : x1 = 0
  · rw [if_pos c1] at h
    refine E_tsIn (M := mX12_factOf) (off := 51) 0 c1 52 (by decide) (by decide) (by decide) rfl dX12_factOf_1 ?_
    refine E_aload_n (M := mX12_factOf) 53 rfl dX12_factOf_52 rfl 0 rfl ?_
    refine E_iload (M := mX12_factOf) 55 rfl dX12_factOf_53 4 rfl ?_
    refine E_iconst (M := mX12_factOf) (v := 2) 56 rfl dX12_factOf_55 (by decide) ?_
    replace h := Option.bind_eq_some_iff.mp h
    obtain ⟨v2, hv2, h⟩ := h
    refine E_cV1 (M := mX12_factOf) (As := [.int x4, .int 2]) 59 rfl dX12_factOf_56 shc_149 ck_X12_260 cv_X12_of rfl (by decide) (Nat.le_of_ble_eq_true rfl) (C_X12_of (g := g) hv2) rfl ?_
    cases h
    exact E_iret (M := mX12_factOf) rfl dX12_factOf_59
  rw [if_neg c1] at h
  by_cases c3 : x1 = 1
  · rw [if_pos c3] at h
    refine E_tsIn (M := mX12_factOf) (off := 59) 1 c3 60 (by decide) (by decide) (by decide) rfl dX12_factOf_1 ?_
    refine E_aload_n (M := mX12_factOf) 61 rfl dX12_factOf_60 rfl 0 rfl ?_
    refine E_iload (M := mX12_factOf) 63 rfl dX12_factOf_61 4 rfl ?_
    refine E_iconst (M := mX12_factOf) (v := 3) 64 rfl dX12_factOf_63 (by decide) ?_
    replace h := Option.bind_eq_some_iff.mp h
    obtain ⟨v4, hv4, h⟩ := h
    refine E_cV1 (M := mX12_factOf) (As := [.int x4, .int 3]) 67 rfl dX12_factOf_64 shc_149 ck_X12_260 cv_X12_of rfl (by decide) (Nat.le_of_ble_eq_true rfl) (C_X12_of (g := g) hv4) rfl ?_
    cases h
    exact E_iret (M := mX12_factOf) rfl dX12_factOf_67
  rw [if_neg c3] at h
  by_cases c5 : x1 = 2
  · rw [if_pos c5] at h
    refine E_tsIn (M := mX12_factOf) (off := 67) 2 c5 68 (by decide) (by decide) (by decide) rfl dX12_factOf_1 ?_
    refine E_aload_n (M := mX12_factOf) 69 rfl dX12_factOf_68 rfl 0 rfl ?_
    refine E_gR (M := mX12_factOf) 150 72 rfl dX12_factOf_69 shc_149 fl_X12_13 rfl (by decide) (by decide) ?_
    refine E_bipush (M := mX12_factOf) (v := 7) 74 rfl dX12_factOf_72 (by decide) ?_
    replace h := Option.bind_eq_some_iff.mp h
    obtain ⟨v6, hv6, h⟩ := h
    refine E_ldI (M := mX12_factOf) 75 rfl dX12_factOf_74 shc_150 hv6 ?_
    cases h
    exact E_iret (M := mX12_factOf) rfl dX12_factOf_75
  rw [if_neg c5] at h
  by_cases c7 : x1 = 3
  · rw [if_pos c7] at h
    refine E_tsIn (M := mX12_factOf) (off := 75) 3 c7 76 (by decide) (by decide) (by decide) rfl dX12_factOf_1 ?_
    refine E_aload_n (M := mX12_factOf) 77 rfl dX12_factOf_76 rfl 0 rfl ?_
    refine E_iload (M := mX12_factOf) 79 rfl dX12_factOf_77 4 rfl ?_
    refine E_iconst (M := mX12_factOf) (v := 1) 80 rfl dX12_factOf_79 (by decide) ?_
    replace h := Option.bind_eq_some_iff.mp h
    obtain ⟨v8, hv8, h⟩ := h
    refine E_cV1 (M := mX12_factOf) (As := [.int x4, .int 1]) 83 rfl dX12_factOf_80 shc_149 ck_X12_260 cv_X12_of rfl (by decide) (Nat.le_of_ble_eq_true rfl) (C_X12_of (g := g) hv8) rfl ?_
    cases h
    exact E_iret (M := mX12_factOf) rfl dX12_factOf_83
  rw [if_neg c7] at h
  by_cases c9 : x1 = 4
  · rw [if_pos c9] at h
    refine E_tsIn (M := mX12_factOf) (off := 83) 4 c9 84 (by decide) (by decide) (by decide) rfl dX12_factOf_1 ?_
    refine E_iload (M := mX12_factOf) 86 rfl dX12_factOf_84 4 rfl ?_
    cases h
    exact E_iret (M := mX12_factOf) rfl dX12_factOf_86
  rw [if_neg c9] at h
  by_cases c10 : x1 = 5
  · rw [if_pos c10] at h
    refine E_tsIn (M := mX12_factOf) (off := 86) 5 c10 87 (by decide) (by decide) (by decide) rfl dX12_factOf_1 ?_
    refine E_aload_n (M := mX12_factOf) 88 rfl dX12_factOf_87 rfl 0 rfl ?_
    refine E_iload (M := mX12_factOf) 90 rfl dX12_factOf_88 4 rfl ?_
    refine E_iconst (M := mX12_factOf) (v := 5) 91 rfl dX12_factOf_90 (by decide) ?_
    replace h := Option.bind_eq_some_iff.mp h
    obtain ⟨v11, hv11, h⟩ := h
    refine E_cV1 (M := mX12_factOf) (As := [.int x4, .int 5]) 94 rfl dX12_factOf_91 shc_149 ck_X12_260 cv_X12_of rfl (by decide) (Nat.le_of_ble_eq_true rfl) (C_X12_of (g := g) hv11) rfl ?_
    cases h
    exact E_iret (M := mX12_factOf) rfl dX12_factOf_94
  rw [if_neg c10] at h
  by_cases c12 : x1 = 6
  · rw [if_pos c12] at h
    refine E_tsIn (M := mX12_factOf) (off := 94) 6 c12 95 (by decide) (by decide) (by decide) rfl dX12_factOf_1 ?_
    refine E_aload_n (M := mX12_factOf) 96 rfl dX12_factOf_95 rfl 0 rfl ?_
    refine E_iload (M := mX12_factOf) 98 rfl dX12_factOf_96 4 rfl ?_
    refine E_iconst (M := mX12_factOf) (v := 0) 99 rfl dX12_factOf_98 (by decide) ?_
    replace h := Option.bind_eq_some_iff.mp h
    obtain ⟨v13, hv13, h⟩ := h
    refine E_cV1 (M := mX12_factOf) (As := [.int x4, .int 0]) 102 rfl dX12_factOf_99 shc_149 ck_X12_260 cv_X12_of rfl (by decide) (Nat.le_of_ble_eq_true rfl) (C_X12_of (g := g) hv13) rfl ?_
    refine E_iload_n (M := mX12_factOf) 103 rfl dX12_factOf_102 rfl 2 rfl ?_
    refine E_icmp_ne (M := mX12_factOf) 110 106 (by decide) rfl dX12_factOf_103 (fun c14 => ?_) (fun c14 => ?_)
    · rw [if_neg c14] at h
      refine E_iconst (M := mX12_factOf) (v := 0) 111 rfl dX12_factOf_110 (by decide) ?_
      refine E_sub (M := mX12_factOf) (lv' := []) [] rfl ?_
      exact S_X12_factOf_111 false I L _ h
    · rw [if_pos c14] at h
      refine E_iconst (M := mX12_factOf) (v := 1) 107 rfl dX12_factOf_106 (by decide) ?_
      refine E_goto (M := mX12_factOf) 111 (by decide) dX12_factOf_107 ?_
      refine E_sub (M := mX12_factOf) (lv' := []) [] rfl ?_
      exact S_X12_factOf_111 true I L _ h
  rw [if_neg c12] at h
  by_cases c15 : x1 = 7
  · rw [if_pos c15] at h
    refine E_tsIn (M := mX12_factOf) (off := 111) 7 c15 112 (by decide) (by decide) (by decide) rfl dX12_factOf_1 ?_
    refine E_aload_n (M := mX12_factOf) 113 rfl dX12_factOf_112 rfl 0 rfl ?_
    refine E_gR (M := mX12_factOf) 150 116 rfl dX12_factOf_113 shc_149 fl_X12_13 rfl (by decide) (by decide) ?_
    refine E_bipush (M := mX12_factOf) (v := 9) 118 rfl dX12_factOf_116 (by decide) ?_
    replace h := Option.bind_eq_some_iff.mp h
    obtain ⟨v16, hv16, h⟩ := h
    refine E_ldI (M := mX12_factOf) 119 rfl dX12_factOf_118 shc_150 hv16 ?_
    cases h
    exact E_iret (M := mX12_factOf) rfl dX12_factOf_119
  rw [if_neg c15] at h
  by_cases c17 : x1 = 8
  · rw [if_pos c17] at h
    refine E_tsIn (M := mX12_factOf) (off := 119) 8 c17 120 (by decide) (by decide) (by decide) rfl dX12_factOf_1 ?_
    refine E_aload_n (M := mX12_factOf) 121 rfl dX12_factOf_120 rfl 0 rfl ?_
    refine E_iload_n (M := mX12_factOf) 122 rfl dX12_factOf_121 rfl 3 rfl ?_
    refine E_iload (M := mX12_factOf) 124 rfl dX12_factOf_122 4 rfl ?_
    replace h := Option.bind_eq_some_iff.mp h
    obtain ⟨v18, hv18, h⟩ := h
    refine E_cV1 (M := mX12_factOf) (As := [.int x3, .int x4]) 127 rfl dX12_factOf_124 shc_149 ck_X12_272 cv_X12_isHearing rfl (by decide) (Nat.le_of_ble_eq_true rfl) (C_X12_isHearing (g := g) hv18) rfl ?_
    refine E_if_eqB (M := mX12_factOf) 134 130 (by decide) rfl dX12_factOf_127 (fun c19 => ?_) (fun c19 => ?_)
    · rw [if_neg (by rw [c19]; decide)] at h
      refine E_iconst (M := mX12_factOf) (v := 0) 135 rfl dX12_factOf_134 (by decide) ?_
      refine E_sub (M := mX12_factOf) (lv' := []) [] rfl ?_
      exact S_X12_factOf_135 false I L _ h
    · rw [if_pos c19] at h
      refine E_iconst (M := mX12_factOf) (v := 1) 131 rfl dX12_factOf_130 (by decide) ?_
      refine E_goto (M := mX12_factOf) 135 (by decide) dX12_factOf_131 ?_
      refine E_sub (M := mX12_factOf) (lv' := []) [] rfl ?_
      exact S_X12_factOf_135 true I L _ h
  rw [if_neg c17] at h
  refine E_tsOut (M := mX12_factOf) 9 (by decide) (fun i hi => match i, hi with | 0, _ => toI c1 (by decide) | 1, _ => toI c3 (by decide) | 2, _ => toI c5 (by decide) | 3, _ => toI c7 (by decide) | 4, _ => toI c9 (by decide) | 5, _ => toI c10 (by decide) | 6, _ => toI c12 (by decide) | 7, _ => toI c15 (by decide) | 8, _ => toI c17 (by decide) | (n + 9), hi => absurd hi (by omega)) 136 (by decide) dX12_factOf_1 ?_
  refine E_iload_n (M := mX12_factOf) 137 rfl dX12_factOf_136 rfl 2 rfl ?_
  cases h
  exact E_iret (M := mX12_factOf) rfl dX12_factOf_137
theorem C_X12_factOf {g : Gx} {x1 : Int32} {x2 : Int32} {x3 : Int32} {x4 : Int32} {I : MI} {L : ML} {res : Int32} (h : f_X12_factOf x1 x2 x3 x4 I L = some res) : Ent g 7 0 mX12_factOf [.ref 149, .int x1, .int x2, .int x3, .int x4] (I, L) (.inl (some (.int res))) (I, L) := Ent_of (by decide +kernel) (Nat.le_of_ble_eq_true rfl) (S_X12_factOf x1 x2 x3 x4 I L _ h)
def f_X12_holdsLine_291 (y0 : Bool) (I : MI) (L : ML) : Option (Bool × MI × ML) := some (y0, I, L)
set_option maxRecDepth 100000 in
theorem S_X12_holdsLine_291 {g : Gx} (y0 : Bool) (I : MI) (L : ML) (res : Bool × MI × ML) (h : f_X12_holdsLine_291 y0 I L = some res) : E g 8 0 mX12_holdsLine 291 [] [.int (bI y0)] (I, L) (.inl (some (.int (bI res.1)))) (res.2.1, res.2.2) := by
  unfold f_X12_holdsLine_291 at h
  cases h
  exact E_zret (M := mX12_holdsLine) (x := y0) rfl dX12_holdsLine_291
def f_X12_holdsLine_286 (I : MI) (L : ML) : Option (Bool × MI × ML) := f_X12_holdsLine_291 true I L
set_option maxRecDepth 100000 in
theorem S_X12_holdsLine_286 {g : Gx} (I : MI) (L : ML) (res : Bool × MI × ML) (h : f_X12_holdsLine_286 I L = some res) : E g 8 0 mX12_holdsLine 286 [] [] (I, L) (.inl (some (.int (bI res.1)))) (res.2.1, res.2.2) := by
  unfold f_X12_holdsLine_286 at h
  refine E_iconst (M := mX12_holdsLine) (v := 1) 287 rfl dX12_holdsLine_286 (by decide) ?_
  refine E_goto (M := mX12_holdsLine) 291 (by decide) dX12_holdsLine_287 ?_
  refine E_sub (M := mX12_holdsLine) (lv' := []) [] rfl ?_
  exact S_X12_holdsLine_291 true I L _ h
def f_X12_holdsLine_265 (k23 : Int32 → Int32 → Int32 → Int32 → Int32 → MI → ML → Option (Bool × MI × ML)) (x2 : Int32) (x3 : Int32) (x4 : Int32) (x5 : Int32) (x6 : Int32) (I : MI) (L : ML) : Option (Bool × MI × ML) := k23 x2 x3 x4 x5 (x6 + 1) I L
set_option maxRecDepth 100000 in
theorem S_X12_holdsLine_265 {g : Gx} {k23 : Int32 → Int32 → Int32 → Int32 → Int32 → MI → ML → Option (Bool × MI × ML)} (hk23 : ∀ (x2z : Int32) (x3z : Int32) (x4z : Int32) (x5z : Int32) (x6z : Int32) (I : MI) (L : ML) (res : Bool × MI × ML), k23 x2z x3z x4z x5z x6z I L = some res → E g 8 0 mX12_holdsLine 23 [(0, .ref 149), (2, .int x2z), (3, .int x3z), (4, .int x4z), (5, .int x5z), (6, .int x6z)] [] (I, L) (.inl (some (.int (bI res.1)))) (res.2.1, res.2.2)) (x2 : Int32) (x3 : Int32) (x4 : Int32) (x5 : Int32) (x6 : Int32) (I : MI) (L : ML) (res : Bool × MI × ML) (h : f_X12_holdsLine_265 k23 x2 x3 x4 x5 x6 I L = some res) : E g 8 0 mX12_holdsLine 265 [(0, .ref 149), (2, .int x2), (3, .int x3), (4, .int x4), (5, .int x5), (6, .int x6)] [] (I, L) (.inl (some (.int (bI res.1)))) (res.2.1, res.2.2) := by
  unfold f_X12_holdsLine_265 at h
  refine E_iinc (M := mX12_holdsLine) (j := 5) (v := x6 + 1) (lv' := [(6, .int (x6 + 1)), (0, .ref 149), (2, .int x2), (3, .int x3), (4, .int x4), (5, .int x5)]) 268 rfl dX12_holdsLine_265 rfl rfl (Nat.le_of_ble_eq_true rfl) rfl ?_
  refine E_goto (M := mX12_holdsLine) 23 (by decide) dX12_holdsLine_268 ?_
  refine E_sub (M := mX12_holdsLine) (lv' := [(0, .ref 149), (2, .int x2), (3, .int x3), (4, .int x4), (5, .int x5), (6, .int (x6 + 1))]) [1, 2, 3, 4, 5, 0] rfl ?_
  exact hk23 x2 x3 x4 x5 (x6 + 1) I L _ h
def f_X12_holdsLine_264 (k23 : Int32 → Int32 → Int32 → Int32 → Int32 → MI → ML → Option (Bool × MI × ML)) (x2 : Int32) (x3 : Int32) (x4 : Int32) (x5 : Int32) (x6 : Int32) (y1 : Int32) (y2 : Int32) (I : MI) (L : ML) : Option (Bool × MI × ML) := Option.bind (stI I 157 400 y1 y2) fun I1 => f_X12_holdsLine_265 k23 x2 x3 x4 x5 x6 I1 L
set_option maxRecDepth 100000 in
theorem S_X12_holdsLine_264 {g : Gx} {k23 : Int32 → Int32 → Int32 → Int32 → Int32 → MI → ML → Option (Bool × MI × ML)} (hk23 : ∀ (x2z : Int32) (x3z : Int32) (x4z : Int32) (x5z : Int32) (x6z : Int32) (I : MI) (L : ML) (res : Bool × MI × ML), k23 x2z x3z x4z x5z x6z I L = some res → E g 8 0 mX12_holdsLine 23 [(0, .ref 149), (2, .int x2z), (3, .int x3z), (4, .int x4z), (5, .int x5z), (6, .int x6z)] [] (I, L) (.inl (some (.int (bI res.1)))) (res.2.1, res.2.2)) (x2 : Int32) (x3 : Int32) (x4 : Int32) (x5 : Int32) (x6 : Int32) (y1 : Int32) (y2 : Int32) (I : MI) (L : ML) (res : Bool × MI × ML) (h : f_X12_holdsLine_264 k23 x2 x3 x4 x5 x6 y1 y2 I L = some res) : E g 8 0 mX12_holdsLine 264 [(0, .ref 149), (2, .int x2), (3, .int x3), (4, .int x4), (5, .int x5), (6, .int x6)] [.int y2, .int y1, .ref 157] (I, L) (.inl (some (.int (bI res.1)))) (res.2.1, res.2.2) := by
  unfold f_X12_holdsLine_264 at h
  replace h := Option.bind_eq_some_iff.mp h
  obtain ⟨I1, hI1, h⟩ := h
  refine E_stI (M := mX12_holdsLine) 265 rfl dX12_holdsLine_264 shc_157 hI1 ?_
  refine E_sub (M := mX12_holdsLine) (lv' := [(0, .ref 149), (2, .int x2), (3, .int x3), (4, .int x4), (5, .int x5), (6, .int x6)]) [0, 1, 2, 3, 4, 5] rfl ?_
  exact S_X12_holdsLine_265 hk23 x2 x3 x4 x5 x6 I1 L _ h
def f_X12_holdsLine_229 (k23 : Int32 → Int32 → Int32 → Int32 → Int32 → MI → ML → Option (Bool × MI × ML)) (x2 : Int32) (x3 : Int32) (x4 : Int32) (x5 : Int32) (x6 : Int32) (x7 : Int32) (x8 : Int32) (x9 : Int32) (y0 : Bool) (I : MI) (L : ML) : Option (Bool × MI × ML) := if x7 = 10 then (f_X12_holdsLine_264 k23 x2 x3 x4 x5 x6 (x4 - 1) (x8 + x9) I L) else (if y0 = true then (f_X12_holdsLine_264 k23 x2 x3 x4 x5 x6 (x4 - 1) 1 I L) else (f_X12_holdsLine_264 k23 x2 x3 x4 x5 x6 (x4 - 1) 0 I L))
set_option maxRecDepth 100000 in
theorem S_X12_holdsLine_229 {g : Gx} {k23 : Int32 → Int32 → Int32 → Int32 → Int32 → MI → ML → Option (Bool × MI × ML)} (hk23 : ∀ (x2z : Int32) (x3z : Int32) (x4z : Int32) (x5z : Int32) (x6z : Int32) (I : MI) (L : ML) (res : Bool × MI × ML), k23 x2z x3z x4z x5z x6z I L = some res → E g 8 0 mX12_holdsLine 23 [(0, .ref 149), (2, .int x2z), (3, .int x3z), (4, .int x4z), (5, .int x5z), (6, .int x6z)] [] (I, L) (.inl (some (.int (bI res.1)))) (res.2.1, res.2.2)) (x2 : Int32) (x3 : Int32) (x4 : Int32) (x5 : Int32) (x6 : Int32) (x7 : Int32) (x8 : Int32) (x9 : Int32) (y0 : Bool) (I : MI) (L : ML) (res : Bool × MI × ML) (h : f_X12_holdsLine_229 k23 x2 x3 x4 x5 x6 x7 x8 x9 y0 I L = some res) : E g 8 0 mX12_holdsLine 229 [(0, .ref 149), (2, .int x2), (3, .int x3), (4, .int x4), (5, .int x5), (6, .int x6), (7, .int x7), (8, .int x8), (9, .int x9)] [.int (bI y0)] (I, L) (.inl (some (.int (bI res.1)))) (res.2.1, res.2.2) := by
  unfold f_X12_holdsLine_229 at h
  refine E_istore (M := mX12_holdsLine) (lv' := [(10, .int (bI y0)), (0, .ref 149), (2, .int x2), (3, .int x3), (4, .int x4), (5, .int x5), (6, .int x6), (7, .int x7), (8, .int x8), (9, .int x9)]) 231 rfl dX12_holdsLine_229 (Nat.le_of_ble_eq_true rfl) rfl ?_
  refine E_aload_n (M := mX12_holdsLine) 232 rfl dX12_holdsLine_231 rfl 1 rfl ?_
  refine E_gR (M := mX12_holdsLine) 157 235 rfl dX12_holdsLine_232 shc_149 fl_X12_39 rfl (by decide) (by decide) ?_
  refine E_iload (M := mX12_holdsLine) 237 rfl dX12_holdsLine_235 4 rfl ?_
  refine E_iconst (M := mX12_holdsLine) (v := 1) 238 rfl dX12_holdsLine_237 (by decide) ?_
  refine E_isub (M := mX12_holdsLine) 239 rfl dX12_holdsLine_238 ?_
  refine E_iload (M := mX12_holdsLine) 241 rfl dX12_holdsLine_239 7 rfl ?_
  refine E_bipush (M := mX12_holdsLine) (v := 10) 243 rfl dX12_holdsLine_241 (by decide) ?_
  refine E_icmp_ne (M := mX12_holdsLine) 254 246 (by decide) rfl dX12_holdsLine_243 (fun c1 => ?_) (fun c1 => ?_)
  · rw [if_neg c1] at h
    refine E_iload (M := mX12_holdsLine) 256 rfl dX12_holdsLine_254 0 rfl ?_
    refine E_if_eqB (M := mX12_holdsLine) 263 259 (by decide) rfl dX12_holdsLine_256 (fun c2 => ?_) (fun c2 => ?_)
    · rw [if_neg (by rw [c2]; decide)] at h
      refine E_iconst (M := mX12_holdsLine) (v := 0) 264 rfl dX12_holdsLine_263 (by decide) ?_
      refine E_sub (M := mX12_holdsLine) (lv' := [(0, .ref 149), (2, .int x2), (3, .int x3), (4, .int x4), (5, .int x5), (6, .int x6)]) [1, 2, 3, 4, 5, 6] rfl ?_
      exact S_X12_holdsLine_264 hk23 x2 x3 x4 x5 x6 (x4 - 1) 0 I L _ h
    · rw [if_pos c2] at h
      refine E_iconst (M := mX12_holdsLine) (v := 1) 260 rfl dX12_holdsLine_259 (by decide) ?_
      refine E_goto (M := mX12_holdsLine) 264 (by decide) dX12_holdsLine_260 ?_
      refine E_sub (M := mX12_holdsLine) (lv' := [(0, .ref 149), (2, .int x2), (3, .int x3), (4, .int x4), (5, .int x5), (6, .int x6)]) [1, 2, 3, 4, 5, 6] rfl ?_
      exact S_X12_holdsLine_264 hk23 x2 x3 x4 x5 x6 (x4 - 1) 1 I L _ h
  · rw [if_pos c1] at h
    refine E_iload (M := mX12_holdsLine) 248 rfl dX12_holdsLine_246 8 rfl ?_
    refine E_iload (M := mX12_holdsLine) 250 rfl dX12_holdsLine_248 9 rfl ?_
    refine E_iadd (M := mX12_holdsLine) 251 rfl dX12_holdsLine_250 ?_
    refine E_goto (M := mX12_holdsLine) 264 (by decide) dX12_holdsLine_251 ?_
    refine E_sub (M := mX12_holdsLine) (lv' := [(0, .ref 149), (2, .int x2), (3, .int x3), (4, .int x4), (5, .int x5), (6, .int x6)]) [1, 2, 3, 4, 5, 6] rfl ?_
    exact S_X12_holdsLine_264 hk23 x2 x3 x4 x5 x6 (x4 - 1) (x8 + x9) I L _ h
def f_X12_holdsLine_23 : Nat → Int32 → Int32 → Int32 → Int32 → Int32 → MI → ML → Option (Bool × MI × ML)
  | 0, _, _, _, _, _, _, _ => none
  | n + 1, x2, x3, x4, x5, x6, I, L => Option.bind (ldI I 150 2143 (x5 + 3)) fun v1 => if v1 ≤ x6 then (if x4 = 0 then (f_X12_holdsLine_286 I L) else (Option.bind (ldI I 157 400 0) fun v4 => if v4 = 1 then (f_X12_holdsLine_286 I L) else (f_X12_holdsLine_291 false I L))) else (Option.bind (ldI I 150 2143 (494 + (2 * x6))) fun v6 => if 9 < v6 then (if v6 = 13 then (Option.bind (ldI I 157 400 (x4 - 1)) fun v18 => Option.bind (stI I 157 400 (x4 - 1) (1 - v18)) fun I19 => f_X12_holdsLine_265 (f_X12_holdsLine_23 n) x2 x3 x4 x5 x6 I19 L) else (Option.bind (ldI I 157 400 ((x4 + (-1)) - 1)) fun v9 => Option.bind (ldI I 157 400 (x4 + (-1))) fun v10 => if v6 = 11 then (if v10 ≤ v9 then (f_X12_holdsLine_229 (f_X12_holdsLine_23 n) x2 x3 (x4 + (-1)) x5 x6 v6 v9 v10 false I L) else (f_X12_holdsLine_229 (f_X12_holdsLine_23 n) x2 x3 (x4 + (-1)) x5 x6 v6 v9 v10 true I L)) else (if v6 = 12 then (if v9 ≤ v10 then (f_X12_holdsLine_229 (f_X12_holdsLine_23 n) x2 x3 (x4 + (-1)) x5 x6 v6 v9 v10 false I L) else (f_X12_holdsLine_229 (f_X12_holdsLine_23 n) x2 x3 (x4 + (-1)) x5 x6 v6 v9 v10 true I L)) else (if v6 = 14 then (if (v9 + v10) = 2 then (f_X12_holdsLine_229 (f_X12_holdsLine_23 n) x2 x3 (x4 + (-1)) x5 x6 v6 v9 v10 true I L) else (f_X12_holdsLine_229 (f_X12_holdsLine_23 n) x2 x3 (x4 + (-1)) x5 x6 v6 v9 v10 false I L)) else (if (v9 + v10) ≤ 0 then (f_X12_holdsLine_229 (f_X12_holdsLine_23 n) x2 x3 (x4 + (-1)) x5 x6 v6 v9 v10 false I L) else (f_X12_holdsLine_229 (f_X12_holdsLine_23 n) x2 x3 (x4 + (-1)) x5 x6 v6 v9 v10 true I L)))))) else (Option.bind (ldI I 150 2143 ((494 + (2 * x6)) + 1)) fun v20 => Option.bind (f_X12_factOf v6 v20 x2 x3 I L) fun v21 => Option.bind (stI I 157 400 x4 v21) fun I22 => f_X12_holdsLine_265 (f_X12_holdsLine_23 n) x2 x3 (x4 + 1) x5 x6 I22 L))
set_option maxRecDepth 100000 in
theorem S_X12_holdsLine_23 {g : Gx} : ∀ (n : Nat) (x2 : Int32) (x3 : Int32) (x4 : Int32) (x5 : Int32) (x6 : Int32) (I : MI) (L : ML) (res : Bool × MI × ML), f_X12_holdsLine_23 n x2 x3 x4 x5 x6 I L = some res → E g 8 0 mX12_holdsLine 23 [(0, .ref 149), (2, .int x2), (3, .int x3), (4, .int x4), (5, .int x5), (6, .int x6)] [] (I, L) (.inl (some (.int (bI res.1)))) (res.2.1, res.2.2) := by
  intro n
  induction n with
  | zero =>
    intros
    rename_i h
    cases h
  | succ n ih =>
    intro x2 x3 x4 x5 x6 I L res h
    rw [f_X12_holdsLine_23] at h
    refine E_iload (M := mX12_holdsLine) 25 rfl dX12_holdsLine_23 5 rfl ?_
    refine E_aload_n (M := mX12_holdsLine) 26 rfl dX12_holdsLine_25 rfl 0 rfl ?_
    refine E_gR (M := mX12_holdsLine) 150 29 rfl dX12_holdsLine_26 shc_149 fl_X12_13 rfl (by decide) (by decide) ?_
    refine E_iload (M := mX12_holdsLine) 31 rfl dX12_holdsLine_29 4 rfl ?_
    refine E_iconst (M := mX12_holdsLine) (v := 3) 32 rfl dX12_holdsLine_31 (by decide) ?_
    refine E_iadd (M := mX12_holdsLine) 33 rfl dX12_holdsLine_32 ?_
    replace h := Option.bind_eq_some_iff.mp h
    obtain ⟨v1, hv1, h⟩ := h
    refine E_ldI (M := mX12_holdsLine) 34 rfl dX12_holdsLine_33 shc_150 hv1 ?_
    refine E_icmp_ge (M := mX12_holdsLine) 271 37 (by decide) rfl dX12_holdsLine_34 (fun c2 => ?_) (fun c2 => ?_)
    · rw [if_pos c2] at h
      refine E_iload (M := mX12_holdsLine) 273 rfl dX12_holdsLine_271 3 rfl ?_
      refine E_if_eq (M := mX12_holdsLine) 286 276 (by decide) rfl dX12_holdsLine_273 (fun c3 => ?_) (fun c3 => ?_)
      · rw [if_pos c3] at h
        refine E_sub (M := mX12_holdsLine) (lv' := []) [] rfl ?_
        exact S_X12_holdsLine_286 I L _ h
      · rw [if_neg c3] at h
        refine E_aload_n (M := mX12_holdsLine) 277 rfl dX12_holdsLine_276 rfl 0 rfl ?_
        refine E_gR (M := mX12_holdsLine) 157 280 rfl dX12_holdsLine_277 shc_149 fl_X12_39 rfl (by decide) (by decide) ?_
        refine E_iconst (M := mX12_holdsLine) (v := 0) 281 rfl dX12_holdsLine_280 (by decide) ?_
        replace h := Option.bind_eq_some_iff.mp h
        obtain ⟨v4, hv4, h⟩ := h
        refine E_ldI (M := mX12_holdsLine) 282 rfl dX12_holdsLine_281 shc_157 hv4 ?_
        refine E_iconst (M := mX12_holdsLine) (v := 1) 283 rfl dX12_holdsLine_282 (by decide) ?_
        refine E_icmp_ne (M := mX12_holdsLine) 290 286 (by decide) rfl dX12_holdsLine_283 (fun c5 => ?_) (fun c5 => ?_)
        · rw [if_neg c5] at h
          refine E_iconst (M := mX12_holdsLine) (v := 0) 291 rfl dX12_holdsLine_290 (by decide) ?_
          refine E_sub (M := mX12_holdsLine) (lv' := []) [] rfl ?_
          exact S_X12_holdsLine_291 false I L _ h
        · rw [if_pos c5] at h
          refine E_sub (M := mX12_holdsLine) (lv' := []) [] rfl ?_
          exact S_X12_holdsLine_286 I L _ h
    · rw [if_neg c2] at h
      refine E_aload_n (M := mX12_holdsLine) 38 rfl dX12_holdsLine_37 rfl 0 rfl ?_
      refine E_gR (M := mX12_holdsLine) 150 41 rfl dX12_holdsLine_38 shc_149 fl_X12_13 rfl (by decide) (by decide) ?_
      refine E_sipush (M := mX12_holdsLine) (v := 494) 44 rfl dX12_holdsLine_41 (by decide) ?_
      refine E_iconst (M := mX12_holdsLine) (v := 2) 45 rfl dX12_holdsLine_44 (by decide) ?_
      refine E_iload (M := mX12_holdsLine) 47 rfl dX12_holdsLine_45 5 rfl ?_
      refine E_imul (M := mX12_holdsLine) 48 rfl dX12_holdsLine_47 ?_
      refine E_iadd (M := mX12_holdsLine) 49 rfl dX12_holdsLine_48 ?_
      replace h := Option.bind_eq_some_iff.mp h
      obtain ⟨v6, hv6, h⟩ := h
      refine E_ldI (M := mX12_holdsLine) 50 rfl dX12_holdsLine_49 shc_150 hv6 ?_
      refine E_istore (M := mX12_holdsLine) (lv' := [(7, .int v6), (0, .ref 149), (2, .int x2), (3, .int x3), (4, .int x4), (5, .int x5), (6, .int x6)]) 52 rfl dX12_holdsLine_50 (Nat.le_of_ble_eq_true rfl) rfl ?_
      refine E_iload (M := mX12_holdsLine) 54 rfl dX12_holdsLine_52 0 rfl ?_
      refine E_bipush (M := mX12_holdsLine) (v := 9) 56 rfl dX12_holdsLine_54 (by decide) ?_
      refine E_icmp_gt (M := mX12_holdsLine) 95 59 (by decide) rfl dX12_holdsLine_56 (fun c7 => ?_) (fun c7 => ?_)
      · rw [if_pos c7] at h
        refine E_iload (M := mX12_holdsLine) 97 rfl dX12_holdsLine_95 0 rfl ?_
        refine E_bipush (M := mX12_holdsLine) (v := 13) 99 rfl dX12_holdsLine_97 (by decide) ?_
        refine E_icmp_ne (M := mX12_holdsLine) 125 102 (by decide) rfl dX12_holdsLine_99 (fun c8 => ?_) (fun c8 => ?_)
        · rw [if_neg c8] at h
          refine E_iinc (M := mX12_holdsLine) (j := 4) (v := x4 + (-1)) (lv' := [(4, .int (x4 + (-1))), (7, .int v6), (0, .ref 149), (2, .int x2), (3, .int x3), (5, .int x5), (6, .int x6)]) 128 rfl dX12_holdsLine_125 rfl rfl (Nat.le_of_ble_eq_true rfl) rfl ?_
          refine E_aload_n (M := mX12_holdsLine) 129 rfl dX12_holdsLine_128 rfl 2 rfl ?_
          refine E_gR (M := mX12_holdsLine) 157 132 rfl dX12_holdsLine_129 shc_149 fl_X12_39 rfl (by decide) (by decide) ?_
          refine E_iload (M := mX12_holdsLine) 134 rfl dX12_holdsLine_132 0 rfl ?_
          refine E_iconst (M := mX12_holdsLine) (v := 1) 135 rfl dX12_holdsLine_134 (by decide) ?_
          refine E_isub (M := mX12_holdsLine) 136 rfl dX12_holdsLine_135 ?_
          replace h := Option.bind_eq_some_iff.mp h
          obtain ⟨v9, hv9, h⟩ := h
          refine E_ldI (M := mX12_holdsLine) 137 rfl dX12_holdsLine_136 shc_157 hv9 ?_
          refine E_istore (M := mX12_holdsLine) (lv' := [(8, .int v9), (4, .int (x4 + (-1))), (7, .int v6), (0, .ref 149), (2, .int x2), (3, .int x3), (5, .int x5), (6, .int x6)]) 139 rfl dX12_holdsLine_137 (Nat.le_of_ble_eq_true rfl) rfl ?_
          refine E_aload_n (M := mX12_holdsLine) 140 rfl dX12_holdsLine_139 rfl 3 rfl ?_
          refine E_gR (M := mX12_holdsLine) 157 143 rfl dX12_holdsLine_140 shc_149 fl_X12_39 rfl (by decide) (by decide) ?_
          refine E_iload (M := mX12_holdsLine) 145 rfl dX12_holdsLine_143 1 rfl ?_
          replace h := Option.bind_eq_some_iff.mp h
          obtain ⟨v10, hv10, h⟩ := h
          refine E_ldI (M := mX12_holdsLine) 146 rfl dX12_holdsLine_145 shc_157 hv10 ?_
          refine E_istore (M := mX12_holdsLine) (lv' := [(9, .int v10), (8, .int v9), (4, .int (x4 + (-1))), (7, .int v6), (0, .ref 149), (2, .int x2), (3, .int x3), (5, .int x5), (6, .int x6)]) 148 rfl dX12_holdsLine_146 (Nat.le_of_ble_eq_true rfl) rfl ?_
          refine E_iload (M := mX12_holdsLine) 150 rfl dX12_holdsLine_148 3 rfl ?_
          refine E_bipush (M := mX12_holdsLine) (v := 11) 152 rfl dX12_holdsLine_150 (by decide) ?_
          refine E_icmp_ne (M := mX12_holdsLine) 170 155 (by decide) rfl dX12_holdsLine_152 (fun c11 => ?_) (fun c11 => ?_)
          · rw [if_neg c11] at h
            refine E_iload (M := mX12_holdsLine) 172 rfl dX12_holdsLine_170 3 rfl ?_
            refine E_bipush (M := mX12_holdsLine) (v := 12) 174 rfl dX12_holdsLine_172 (by decide) ?_
            refine E_icmp_ne (M := mX12_holdsLine) 192 177 (by decide) rfl dX12_holdsLine_174 (fun c12 => ?_) (fun c12 => ?_)
            · rw [if_neg c12] at h
              refine E_iload (M := mX12_holdsLine) 194 rfl dX12_holdsLine_192 3 rfl ?_
              refine E_bipush (M := mX12_holdsLine) (v := 14) 196 rfl dX12_holdsLine_194 (by decide) ?_
              refine E_icmp_ne (M := mX12_holdsLine) 216 199 (by decide) rfl dX12_holdsLine_196 (fun c13 => ?_) (fun c13 => ?_)
              · rw [if_neg c13] at h
                refine E_iload (M := mX12_holdsLine) 218 rfl dX12_holdsLine_216 1 rfl ?_
                refine E_iload (M := mX12_holdsLine) 220 rfl dX12_holdsLine_218 0 rfl ?_
                refine E_iadd (M := mX12_holdsLine) 221 rfl dX12_holdsLine_220 ?_
                refine E_if_le (M := mX12_holdsLine) 228 224 (by decide) rfl dX12_holdsLine_221 (fun c14 => ?_) (fun c14 => ?_)
                · rw [if_pos c14] at h
                  refine E_iconst (M := mX12_holdsLine) (v := 0) 229 rfl dX12_holdsLine_228 (by decide) ?_
                  refine E_sub (M := mX12_holdsLine) (lv' := [(0, .ref 149), (2, .int x2), (3, .int x3), (4, .int (x4 + (-1))), (5, .int x5), (6, .int x6), (7, .int v6), (8, .int v9), (9, .int v10)]) [4, 5, 6, 2, 7, 8, 3, 1, 0] rfl ?_
                  exact S_X12_holdsLine_229 ih x2 x3 (x4 + (-1)) x5 x6 v6 v9 v10 false I L _ h
                · rw [if_neg c14] at h
                  refine E_iconst (M := mX12_holdsLine) (v := 1) 225 rfl dX12_holdsLine_224 (by decide) ?_
                  refine E_goto (M := mX12_holdsLine) 229 (by decide) dX12_holdsLine_225 ?_
                  refine E_sub (M := mX12_holdsLine) (lv' := [(0, .ref 149), (2, .int x2), (3, .int x3), (4, .int (x4 + (-1))), (5, .int x5), (6, .int x6), (7, .int v6), (8, .int v9), (9, .int v10)]) [4, 5, 6, 2, 7, 8, 3, 1, 0] rfl ?_
                  exact S_X12_holdsLine_229 ih x2 x3 (x4 + (-1)) x5 x6 v6 v9 v10 true I L _ h
              · rw [if_pos c13] at h
                refine E_iload (M := mX12_holdsLine) 201 rfl dX12_holdsLine_199 1 rfl ?_
                refine E_iload (M := mX12_holdsLine) 203 rfl dX12_holdsLine_201 0 rfl ?_
                refine E_iadd (M := mX12_holdsLine) 204 rfl dX12_holdsLine_203 ?_
                refine E_iconst (M := mX12_holdsLine) (v := 2) 205 rfl dX12_holdsLine_204 (by decide) ?_
                refine E_icmp_ne (M := mX12_holdsLine) 212 208 (by decide) rfl dX12_holdsLine_205 (fun c15 => ?_) (fun c15 => ?_)
                · rw [if_neg c15] at h
                  refine E_iconst (M := mX12_holdsLine) (v := 0) 213 rfl dX12_holdsLine_212 (by decide) ?_
                  refine E_goto (M := mX12_holdsLine) 229 (by decide) dX12_holdsLine_213 ?_
                  refine E_sub (M := mX12_holdsLine) (lv' := [(0, .ref 149), (2, .int x2), (3, .int x3), (4, .int (x4 + (-1))), (5, .int x5), (6, .int x6), (7, .int v6), (8, .int v9), (9, .int v10)]) [4, 5, 6, 2, 7, 8, 3, 1, 0] rfl ?_
                  exact S_X12_holdsLine_229 ih x2 x3 (x4 + (-1)) x5 x6 v6 v9 v10 false I L _ h
                · rw [if_pos c15] at h
                  refine E_iconst (M := mX12_holdsLine) (v := 1) 209 rfl dX12_holdsLine_208 (by decide) ?_
                  refine E_goto (M := mX12_holdsLine) 229 (by decide) dX12_holdsLine_209 ?_
                  refine E_sub (M := mX12_holdsLine) (lv' := [(0, .ref 149), (2, .int x2), (3, .int x3), (4, .int (x4 + (-1))), (5, .int x5), (6, .int x6), (7, .int v6), (8, .int v9), (9, .int v10)]) [4, 5, 6, 2, 7, 8, 3, 1, 0] rfl ?_
                  exact S_X12_holdsLine_229 ih x2 x3 (x4 + (-1)) x5 x6 v6 v9 v10 true I L _ h
            · rw [if_pos c12] at h
              refine E_iload (M := mX12_holdsLine) 179 rfl dX12_holdsLine_177 1 rfl ?_
              refine E_iload (M := mX12_holdsLine) 181 rfl dX12_holdsLine_179 0 rfl ?_
              refine E_icmp_le (M := mX12_holdsLine) 188 184 (by decide) rfl dX12_holdsLine_181 (fun c16 => ?_) (fun c16 => ?_)
              · rw [if_pos c16] at h
                refine E_iconst (M := mX12_holdsLine) (v := 0) 189 rfl dX12_holdsLine_188 (by decide) ?_
                refine E_goto (M := mX12_holdsLine) 229 (by decide) dX12_holdsLine_189 ?_
                refine E_sub (M := mX12_holdsLine) (lv' := [(0, .ref 149), (2, .int x2), (3, .int x3), (4, .int (x4 + (-1))), (5, .int x5), (6, .int x6), (7, .int v6), (8, .int v9), (9, .int v10)]) [4, 5, 6, 2, 7, 8, 3, 1, 0] rfl ?_
                exact S_X12_holdsLine_229 ih x2 x3 (x4 + (-1)) x5 x6 v6 v9 v10 false I L _ h
              · rw [if_neg c16] at h
                refine E_iconst (M := mX12_holdsLine) (v := 1) 185 rfl dX12_holdsLine_184 (by decide) ?_
                refine E_goto (M := mX12_holdsLine) 229 (by decide) dX12_holdsLine_185 ?_
                refine E_sub (M := mX12_holdsLine) (lv' := [(0, .ref 149), (2, .int x2), (3, .int x3), (4, .int (x4 + (-1))), (5, .int x5), (6, .int x6), (7, .int v6), (8, .int v9), (9, .int v10)]) [4, 5, 6, 2, 7, 8, 3, 1, 0] rfl ?_
                exact S_X12_holdsLine_229 ih x2 x3 (x4 + (-1)) x5 x6 v6 v9 v10 true I L _ h
          · rw [if_pos c11] at h
            refine E_iload (M := mX12_holdsLine) 157 rfl dX12_holdsLine_155 1 rfl ?_
            refine E_iload (M := mX12_holdsLine) 159 rfl dX12_holdsLine_157 0 rfl ?_
            refine E_icmp_ge (M := mX12_holdsLine) 166 162 (by decide) rfl dX12_holdsLine_159 (fun c17 => ?_) (fun c17 => ?_)
            · rw [if_pos c17] at h
              refine E_iconst (M := mX12_holdsLine) (v := 0) 167 rfl dX12_holdsLine_166 (by decide) ?_
              refine E_goto (M := mX12_holdsLine) 229 (by decide) dX12_holdsLine_167 ?_
              refine E_sub (M := mX12_holdsLine) (lv' := [(0, .ref 149), (2, .int x2), (3, .int x3), (4, .int (x4 + (-1))), (5, .int x5), (6, .int x6), (7, .int v6), (8, .int v9), (9, .int v10)]) [4, 5, 6, 2, 7, 8, 3, 1, 0] rfl ?_
              exact S_X12_holdsLine_229 ih x2 x3 (x4 + (-1)) x5 x6 v6 v9 v10 false I L _ h
            · rw [if_neg c17] at h
              refine E_iconst (M := mX12_holdsLine) (v := 1) 163 rfl dX12_holdsLine_162 (by decide) ?_
              refine E_goto (M := mX12_holdsLine) 229 (by decide) dX12_holdsLine_163 ?_
              refine E_sub (M := mX12_holdsLine) (lv' := [(0, .ref 149), (2, .int x2), (3, .int x3), (4, .int (x4 + (-1))), (5, .int x5), (6, .int x6), (7, .int v6), (8, .int v9), (9, .int v10)]) [4, 5, 6, 2, 7, 8, 3, 1, 0] rfl ?_
              exact S_X12_holdsLine_229 ih x2 x3 (x4 + (-1)) x5 x6 v6 v9 v10 true I L _ h
        · rw [if_pos c8] at h
          refine E_aload_n (M := mX12_holdsLine) 103 rfl dX12_holdsLine_102 rfl 1 rfl ?_
          refine E_gR (M := mX12_holdsLine) 157 106 rfl dX12_holdsLine_103 shc_149 fl_X12_39 rfl (by decide) (by decide) ?_
          refine E_iload (M := mX12_holdsLine) 108 rfl dX12_holdsLine_106 4 rfl ?_
          refine E_iconst (M := mX12_holdsLine) (v := 1) 109 rfl dX12_holdsLine_108 (by decide) ?_
          refine E_isub (M := mX12_holdsLine) 110 rfl dX12_holdsLine_109 ?_
          refine E_iconst (M := mX12_holdsLine) (v := 1) 111 rfl dX12_holdsLine_110 (by decide) ?_
          refine E_aload_n (M := mX12_holdsLine) 112 rfl dX12_holdsLine_111 rfl 1 rfl ?_
          refine E_gR (M := mX12_holdsLine) 157 115 rfl dX12_holdsLine_112 shc_149 fl_X12_39 rfl (by decide) (by decide) ?_
          refine E_iload (M := mX12_holdsLine) 117 rfl dX12_holdsLine_115 4 rfl ?_
          refine E_iconst (M := mX12_holdsLine) (v := 1) 118 rfl dX12_holdsLine_117 (by decide) ?_
          refine E_isub (M := mX12_holdsLine) 119 rfl dX12_holdsLine_118 ?_
          replace h := Option.bind_eq_some_iff.mp h
          obtain ⟨v18, hv18, h⟩ := h
          refine E_ldI (M := mX12_holdsLine) 120 rfl dX12_holdsLine_119 shc_157 hv18 ?_
          refine E_isub (M := mX12_holdsLine) 121 rfl dX12_holdsLine_120 ?_
          replace h := Option.bind_eq_some_iff.mp h
          obtain ⟨I19, hI19, h⟩ := h
          refine E_stI (M := mX12_holdsLine) 122 rfl dX12_holdsLine_121 shc_157 hI19 ?_
          refine E_goto (M := mX12_holdsLine) 265 (by decide) dX12_holdsLine_122 ?_
          refine E_sub (M := mX12_holdsLine) (lv' := [(0, .ref 149), (2, .int x2), (3, .int x3), (4, .int x4), (5, .int x5), (6, .int x6)]) [1, 2, 3, 4, 5, 6] rfl ?_
          exact S_X12_holdsLine_265 ih x2 x3 x4 x5 x6 I19 L _ h
      · rw [if_neg c7] at h
        refine E_aload_n (M := mX12_holdsLine) 60 rfl dX12_holdsLine_59 rfl 1 rfl ?_
        refine E_gR (M := mX12_holdsLine) 157 63 rfl dX12_holdsLine_60 shc_149 fl_X12_39 rfl (by decide) (by decide) ?_
        refine E_iload (M := mX12_holdsLine) 65 rfl dX12_holdsLine_63 4 rfl ?_
        refine E_aload_n (M := mX12_holdsLine) 66 rfl dX12_holdsLine_65 rfl 1 rfl ?_
        refine E_iload (M := mX12_holdsLine) 68 rfl dX12_holdsLine_66 0 rfl ?_
        refine E_aload_n (M := mX12_holdsLine) 69 rfl dX12_holdsLine_68 rfl 1 rfl ?_
        refine E_gR (M := mX12_holdsLine) 150 72 rfl dX12_holdsLine_69 shc_149 fl_X12_13 rfl (by decide) (by decide) ?_
        refine E_sipush (M := mX12_holdsLine) (v := 494) 75 rfl dX12_holdsLine_72 (by decide) ?_
        refine E_iconst (M := mX12_holdsLine) (v := 2) 76 rfl dX12_holdsLine_75 (by decide) ?_
        refine E_iload (M := mX12_holdsLine) 78 rfl dX12_holdsLine_76 6 rfl ?_
        refine E_imul (M := mX12_holdsLine) 79 rfl dX12_holdsLine_78 ?_
        refine E_iadd (M := mX12_holdsLine) 80 rfl dX12_holdsLine_79 ?_
        refine E_iconst (M := mX12_holdsLine) (v := 1) 81 rfl dX12_holdsLine_80 (by decide) ?_
        refine E_iadd (M := mX12_holdsLine) 82 rfl dX12_holdsLine_81 ?_
        replace h := Option.bind_eq_some_iff.mp h
        obtain ⟨v20, hv20, h⟩ := h
        refine E_ldI (M := mX12_holdsLine) 83 rfl dX12_holdsLine_82 shc_150 hv20 ?_
        refine E_iload_n (M := mX12_holdsLine) 84 rfl dX12_holdsLine_83 rfl 2 rfl ?_
        refine E_iload_n (M := mX12_holdsLine) 85 rfl dX12_holdsLine_84 rfl 3 rfl ?_
        replace h := Option.bind_eq_some_iff.mp h
        obtain ⟨v21, hv21, h⟩ := h
        refine E_cV1 (M := mX12_holdsLine) (As := [.int v6, .int v20, .int x2, .int x3]) 88 rfl dX12_holdsLine_85 shc_149 ck_X12_275 cv_X12_factOf rfl (by decide) (Nat.le_of_ble_eq_true rfl) (C_X12_factOf (g := g) hv21) rfl ?_
        replace h := Option.bind_eq_some_iff.mp h
        obtain ⟨I22, hI22, h⟩ := h
        refine E_stI (M := mX12_holdsLine) 89 rfl dX12_holdsLine_88 shc_157 hI22 ?_
        refine E_iinc (M := mX12_holdsLine) (j := 4) (v := x4 + 1) (lv' := [(4, .int (x4 + 1)), (7, .int v6), (0, .ref 149), (2, .int x2), (3, .int x3), (5, .int x5), (6, .int x6)]) 92 rfl dX12_holdsLine_89 rfl rfl (Nat.le_of_ble_eq_true rfl) rfl ?_
        refine E_goto (M := mX12_holdsLine) 265 (by decide) dX12_holdsLine_92 ?_
        refine E_sub (M := mX12_holdsLine) (lv' := [(0, .ref 149), (2, .int x2), (3, .int x3), (4, .int (x4 + 1)), (5, .int x5), (6, .int x6)]) [2, 3, 4, 0, 5, 6] rfl ?_
        exact S_X12_holdsLine_265 ih x2 x3 (x4 + 1) x5 x6 I22 L _ h
def f_X12_holdsLine (x1 : Int32) (x2 : Int32) (x3 : Int32) (I : MI) (L : ML) : Option (Bool × MI × ML) := Option.bind (ldI I 150 2143 ((446 + (4 * x1)) + 2)) fun v1 => f_X12_holdsLine_23 FU x2 x3 0 (446 + (4 * x1)) v1 I L
set_option maxRecDepth 100000 in
theorem S_X12_holdsLine {g : Gx} (x1 : Int32) (x2 : Int32) (x3 : Int32) (I : MI) (L : ML) (res : Bool × MI × ML) (h : f_X12_holdsLine x1 x2 x3 I L = some res) : E g 8 0 mX12_holdsLine 0 [(0, .ref 149), (1, .int x1), (2, .int x2), (3, .int x3)] [] (I, L) (.inl (some (.int (bI res.1)))) (res.2.1, res.2.2) := by
  unfold f_X12_holdsLine at h
  refine E_iconst (M := mX12_holdsLine) (v := 0) 1 rfl dX12_holdsLine_0 (by decide) ?_
  refine E_istore (M := mX12_holdsLine) (lv' := [(4, .int 0), (0, .ref 149), (1, .int x1), (2, .int x2), (3, .int x3)]) 3 rfl dX12_holdsLine_1 (Nat.le_of_ble_eq_true rfl) rfl ?_
  refine E_sipush (M := mX12_holdsLine) (v := 446) 6 rfl dX12_holdsLine_3 (by decide) ?_
  refine E_iconst (M := mX12_holdsLine) (v := 4) 7 rfl dX12_holdsLine_6 (by decide) ?_
  refine E_iload_n (M := mX12_holdsLine) 8 rfl dX12_holdsLine_7 rfl 2 rfl ?_
  refine E_imul (M := mX12_holdsLine) 9 rfl dX12_holdsLine_8 ?_
  refine E_iadd (M := mX12_holdsLine) 10 rfl dX12_holdsLine_9 ?_
  refine E_istore (M := mX12_holdsLine) (lv' := [(5, .int (446 + (4 * x1))), (4, .int 0), (0, .ref 149), (1, .int x1), (2, .int x2), (3, .int x3)]) 12 rfl dX12_holdsLine_10 (Nat.le_of_ble_eq_true rfl) rfl ?_
  refine E_aload_n (M := mX12_holdsLine) 13 rfl dX12_holdsLine_12 rfl 2 rfl ?_
  refine E_gR (M := mX12_holdsLine) 150 16 rfl dX12_holdsLine_13 shc_149 fl_X12_13 rfl (by decide) (by decide) ?_
  refine E_iload (M := mX12_holdsLine) 18 rfl dX12_holdsLine_16 0 rfl ?_
  refine E_iconst (M := mX12_holdsLine) (v := 2) 19 rfl dX12_holdsLine_18 (by decide) ?_
  refine E_iadd (M := mX12_holdsLine) 20 rfl dX12_holdsLine_19 ?_
  replace h := Option.bind_eq_some_iff.mp h
  obtain ⟨v1, hv1, h⟩ := h
  refine E_ldI (M := mX12_holdsLine) 21 rfl dX12_holdsLine_20 shc_150 hv1 ?_
  refine E_istore (M := mX12_holdsLine) (lv' := [(6, .int v1), (5, .int (446 + (4 * x1))), (4, .int 0), (0, .ref 149), (1, .int x1), (2, .int x2), (3, .int x3)]) 23 rfl dX12_holdsLine_21 (Nat.le_of_ble_eq_true rfl) rfl ?_
  refine E_sub (M := mX12_holdsLine) (lv' := [(0, .ref 149), (2, .int x2), (3, .int x3), (4, .int 0), (5, .int (446 + (4 * x1))), (6, .int v1)]) [3, 5, 6, 2, 1, 0] rfl ?_
  exact S_X12_holdsLine_23 FU x2 x3 0 (446 + (4 * x1)) v1 I L _ h
theorem C_X12_holdsLine {g : Gx} {x1 : Int32} {x2 : Int32} {x3 : Int32} {I : MI} {L : ML} {res : Bool × MI × ML} (h : f_X12_holdsLine x1 x2 x3 I L = some res) : Ent g 8 0 mX12_holdsLine [.ref 149, .int x1, .int x2, .int x3] (I, L) (.inl (some (.int (bI res.1)))) (res.2.1, res.2.2) := Ent_of (by decide +kernel) (Nat.le_of_ble_eq_true rfl) (S_X12_holdsLine x1 x2 x3 I L _ h)
def f_X12_titleOf_95 (x3 : Int32) (I : MI) (L : ML) : Option (Int32 × MI × ML) := some (x3, I, L)
set_option maxRecDepth 100000 in
theorem S_X12_titleOf_95 {g : Gx} (x3 : Int32) (I : MI) (L : ML) (res : Int32 × MI × ML) (h : f_X12_titleOf_95 x3 I L = some res) : E g 9 0 mX12_titleOf 95 [(3, .int x3)] [] (I, L) (.inl (some (.int res.1))) (res.2.1, res.2.2) := by
  unfold f_X12_titleOf_95 at h
  refine E_iload_n (M := mX12_titleOf) 96 rfl dX12_titleOf_95 rfl 0 rfl ?_
  cases h
  exact E_iret (M := mX12_titleOf) rfl dX12_titleOf_96
def f_X12_titleOf_89 (k5 : Int32 → Int32 → Int32 → Int32 → MI → ML → Option (Int32 × MI × ML)) (x1 : Int32) (x2 : Int32) (x3 : Int32) (x4 : Int32) (I : MI) (L : ML) : Option (Int32 × MI × ML) := k5 x1 x2 x3 (x4 + 1) I L
set_option maxRecDepth 100000 in
theorem S_X12_titleOf_89 {g : Gx} {k5 : Int32 → Int32 → Int32 → Int32 → MI → ML → Option (Int32 × MI × ML)} (hk5 : ∀ (x1z : Int32) (x2z : Int32) (x3z : Int32) (x4z : Int32) (I : MI) (L : ML) (res : Int32 × MI × ML), k5 x1z x2z x3z x4z I L = some res → E g 9 0 mX12_titleOf 5 [(0, .ref 149), (1, .int x1z), (2, .int x2z), (3, .int x3z), (4, .int x4z)] [] (I, L) (.inl (some (.int res.1))) (res.2.1, res.2.2)) (x1 : Int32) (x2 : Int32) (x3 : Int32) (x4 : Int32) (I : MI) (L : ML) (res : Int32 × MI × ML) (h : f_X12_titleOf_89 k5 x1 x2 x3 x4 I L = some res) : E g 9 0 mX12_titleOf 89 [(0, .ref 149), (1, .int x1), (2, .int x2), (3, .int x3), (4, .int x4)] [] (I, L) (.inl (some (.int res.1))) (res.2.1, res.2.2) := by
  unfold f_X12_titleOf_89 at h
  refine E_iinc (M := mX12_titleOf) (j := 4) (v := x4 + 1) (lv' := [(4, .int (x4 + 1)), (0, .ref 149), (1, .int x1), (2, .int x2), (3, .int x3)]) 92 rfl dX12_titleOf_89 rfl rfl (Nat.le_of_ble_eq_true rfl) rfl ?_
  refine E_goto (M := mX12_titleOf) 5 (by decide) dX12_titleOf_92 ?_
  refine E_sub (M := mX12_titleOf) (lv' := [(0, .ref 149), (1, .int x1), (2, .int x2), (3, .int x3), (4, .int (x4 + 1))]) [1, 2, 3, 4, 0] rfl ?_
  exact hk5 x1 x2 x3 (x4 + 1) I L _ h
def f_X12_titleOf_5 : Nat → Int32 → Int32 → Int32 → Int32 → MI → ML → Option (Int32 × MI × ML)
  | 0, _, _, _, _, _, _ => none
  | n + 1, x1, x2, x3, x4, I, L => Option.bind (ldI I 150 2143 5) fun v1 => if v1 = 1 then (Option.bind (ldI I 150 2143 445) fun v3 => if v3 ≤ x4 then (f_X12_titleOf_95 x3 I L) else (Option.bind (ldI I 150 2143 (446 + (4 * x4))) fun v5 => if v5 = x1 then (Option.bind (f_X12_holdsLine x4 x1 x2 I L) fun w7 => if w7.1 = true then (Option.bind (ldI w7.2.1 150 2143 ((446 + (4 * x4)) + 1)) fun v9 => if 0 ≤ v9 then (Option.bind (ldI w7.2.1 150 2143 ((446 + (4 * x4)) + 1)) fun v11 => f_X12_titleOf_89 (f_X12_titleOf_5 n) x1 x2 (x3 + v11) x4 w7.2.1 w7.2.2) else (some (0, w7.2.1, w7.2.2))) else (f_X12_titleOf_89 (f_X12_titleOf_5 n) x1 x2 x3 x4 w7.2.1 w7.2.2)) else (f_X12_titleOf_89 (f_X12_titleOf_5 n) x1 x2 x3 x4 I L))) else (f_X12_titleOf_95 x3 I L)
set_option maxRecDepth 100000 in
theorem S_X12_titleOf_5 {g : Gx} : ∀ (n : Nat) (x1 : Int32) (x2 : Int32) (x3 : Int32) (x4 : Int32) (I : MI) (L : ML) (res : Int32 × MI × ML), f_X12_titleOf_5 n x1 x2 x3 x4 I L = some res → E g 9 0 mX12_titleOf 5 [(0, .ref 149), (1, .int x1), (2, .int x2), (3, .int x3), (4, .int x4)] [] (I, L) (.inl (some (.int res.1))) (res.2.1, res.2.2) := by
  intro n
  induction n with
  | zero =>
    intros
    rename_i h
    cases h
  | succ n ih =>
    intro x1 x2 x3 x4 I L res h
    rw [f_X12_titleOf_5] at h
    refine E_aload_n (M := mX12_titleOf) 6 rfl dX12_titleOf_5 rfl 0 rfl ?_
    refine E_gR (M := mX12_titleOf) 150 9 rfl dX12_titleOf_6 shc_149 fl_X12_13 rfl (by decide) (by decide) ?_
    refine E_iconst (M := mX12_titleOf) (v := 5) 10 rfl dX12_titleOf_9 (by decide) ?_
    replace h := Option.bind_eq_some_iff.mp h
    obtain ⟨v1, hv1, h⟩ := h
    refine E_ldI (M := mX12_titleOf) 11 rfl dX12_titleOf_10 shc_150 hv1 ?_
    refine E_iconst (M := mX12_titleOf) (v := 1) 12 rfl dX12_titleOf_11 (by decide) ?_
    refine E_icmp_ne (M := mX12_titleOf) 95 15 (by decide) rfl dX12_titleOf_12 (fun c2 => ?_) (fun c2 => ?_)
    · rw [if_neg c2] at h
      refine E_sub (M := mX12_titleOf) (lv' := [(3, .int x3)]) [3] rfl ?_
      exact S_X12_titleOf_95 x3 I L _ h
    · rw [if_pos c2] at h
      refine E_iload (M := mX12_titleOf) 17 rfl dX12_titleOf_15 4 rfl ?_
      refine E_aload_n (M := mX12_titleOf) 18 rfl dX12_titleOf_17 rfl 0 rfl ?_
      refine E_gR (M := mX12_titleOf) 150 21 rfl dX12_titleOf_18 shc_149 fl_X12_13 rfl (by decide) (by decide) ?_
      refine E_sipush (M := mX12_titleOf) (v := 445) 24 rfl dX12_titleOf_21 (by decide) ?_
      replace h := Option.bind_eq_some_iff.mp h
      obtain ⟨v3, hv3, h⟩ := h
      refine E_ldI (M := mX12_titleOf) 25 rfl dX12_titleOf_24 shc_150 hv3 ?_
      refine E_icmp_ge (M := mX12_titleOf) 95 28 (by decide) rfl dX12_titleOf_25 (fun c4 => ?_) (fun c4 => ?_)
      · rw [if_pos c4] at h
        refine E_sub (M := mX12_titleOf) (lv' := [(3, .int x3)]) [3] rfl ?_
        exact S_X12_titleOf_95 x3 I L _ h
      · rw [if_neg c4] at h
        refine E_sipush (M := mX12_titleOf) (v := 446) 31 rfl dX12_titleOf_28 (by decide) ?_
        refine E_iconst (M := mX12_titleOf) (v := 4) 32 rfl dX12_titleOf_31 (by decide) ?_
        refine E_iload (M := mX12_titleOf) 34 rfl dX12_titleOf_32 4 rfl ?_
        refine E_imul (M := mX12_titleOf) 35 rfl dX12_titleOf_34 ?_
        refine E_iadd (M := mX12_titleOf) 36 rfl dX12_titleOf_35 ?_
        refine E_istore (M := mX12_titleOf) (lv' := [(5, .int (446 + (4 * x4))), (0, .ref 149), (1, .int x1), (2, .int x2), (3, .int x3), (4, .int x4)]) 38 rfl dX12_titleOf_36 (Nat.le_of_ble_eq_true rfl) rfl ?_
        refine E_aload_n (M := mX12_titleOf) 39 rfl dX12_titleOf_38 rfl 1 rfl ?_
        refine E_gR (M := mX12_titleOf) 150 42 rfl dX12_titleOf_39 shc_149 fl_X12_13 rfl (by decide) (by decide) ?_
        refine E_iload (M := mX12_titleOf) 44 rfl dX12_titleOf_42 0 rfl ?_
        replace h := Option.bind_eq_some_iff.mp h
        obtain ⟨v5, hv5, h⟩ := h
        refine E_ldI (M := mX12_titleOf) 45 rfl dX12_titleOf_44 shc_150 hv5 ?_
        refine E_iload_n (M := mX12_titleOf) 46 rfl dX12_titleOf_45 rfl 2 rfl ?_
        refine E_icmp_ne (M := mX12_titleOf) 89 49 (by decide) rfl dX12_titleOf_46 (fun c6 => ?_) (fun c6 => ?_)
        · rw [if_neg c6] at h
          refine E_sub (M := mX12_titleOf) (lv' := [(0, .ref 149), (1, .int x1), (2, .int x2), (3, .int x3), (4, .int x4)]) [1, 2, 3, 4, 5] rfl ?_
          exact S_X12_titleOf_89 ih x1 x2 x3 x4 I L _ h
        · rw [if_pos c6] at h
          refine E_aload_n (M := mX12_titleOf) 50 rfl dX12_titleOf_49 rfl 1 rfl ?_
          refine E_iload (M := mX12_titleOf) 52 rfl dX12_titleOf_50 5 rfl ?_
          refine E_iload_n (M := mX12_titleOf) 53 rfl dX12_titleOf_52 rfl 2 rfl ?_
          refine E_iload_n (M := mX12_titleOf) 54 rfl dX12_titleOf_53 rfl 3 rfl ?_
          replace h := Option.bind_eq_some_iff.mp h
          obtain ⟨w7, hw7, h⟩ := h
          refine E_cV1 (M := mX12_titleOf) (As := [.int x4, .int x1, .int x2]) 57 rfl dX12_titleOf_54 shc_149 ck_X12_279 cv_X12_holdsLine rfl (by decide) (Nat.le_of_ble_eq_true rfl) (C_X12_holdsLine (g := g) hw7) rfl ?_
          refine E_if_neB (M := mX12_titleOf) 63 60 (by decide) rfl dX12_titleOf_57 (fun c8 => ?_) (fun c8 => ?_)
          · rw [if_pos c8] at h
            refine E_aload_n (M := mX12_titleOf) 64 rfl dX12_titleOf_63 rfl 1 rfl ?_
            refine E_gR (M := mX12_titleOf) 150 67 rfl dX12_titleOf_64 shc_149 fl_X12_13 rfl (by decide) (by decide) ?_
            refine E_iload (M := mX12_titleOf) 69 rfl dX12_titleOf_67 0 rfl ?_
            refine E_iconst (M := mX12_titleOf) (v := 1) 70 rfl dX12_titleOf_69 (by decide) ?_
            refine E_iadd (M := mX12_titleOf) 71 rfl dX12_titleOf_70 ?_
            replace h := Option.bind_eq_some_iff.mp h
            obtain ⟨v9, hv9, h⟩ := h
            refine E_ldI (M := mX12_titleOf) 72 rfl dX12_titleOf_71 shc_150 hv9 ?_
            refine E_if_ge (M := mX12_titleOf) 77 75 (by decide) rfl dX12_titleOf_72 (fun c10 => ?_) (fun c10 => ?_)
            · rw [if_pos c10] at h
              refine E_iload_n (M := mX12_titleOf) 78 rfl dX12_titleOf_77 rfl 4 rfl ?_
              refine E_aload_n (M := mX12_titleOf) 79 rfl dX12_titleOf_78 rfl 1 rfl ?_
              refine E_gR (M := mX12_titleOf) 150 82 rfl dX12_titleOf_79 shc_149 fl_X12_13 rfl (by decide) (by decide) ?_
              refine E_iload (M := mX12_titleOf) 84 rfl dX12_titleOf_82 0 rfl ?_
              refine E_iconst (M := mX12_titleOf) (v := 1) 85 rfl dX12_titleOf_84 (by decide) ?_
              refine E_iadd (M := mX12_titleOf) 86 rfl dX12_titleOf_85 ?_
              replace h := Option.bind_eq_some_iff.mp h
              obtain ⟨v11, hv11, h⟩ := h
              refine E_ldI (M := mX12_titleOf) 87 rfl dX12_titleOf_86 shc_150 hv11 ?_
              refine E_iadd (M := mX12_titleOf) 88 rfl dX12_titleOf_87 ?_
              refine E_istore_n (M := mX12_titleOf) (lv' := [(3, .int (x3 + v11)), (5, .int (446 + (4 * x4))), (0, .ref 149), (1, .int x1), (2, .int x2), (4, .int x4)]) 89 rfl dX12_titleOf_88 rfl (Nat.le_of_ble_eq_true rfl) rfl ?_
              refine E_sub (M := mX12_titleOf) (lv' := [(0, .ref 149), (1, .int x1), (2, .int x2), (3, .int (x3 + v11)), (4, .int x4)]) [2, 3, 4, 0, 5] rfl ?_
              exact S_X12_titleOf_89 ih x1 x2 (x3 + v11) x4 w7.2.1 w7.2.2 _ h
            · rw [if_neg c10] at h
              refine E_iconst (M := mX12_titleOf) (v := 0) 76 rfl dX12_titleOf_75 (by decide) ?_
              cases h
              exact E_iret (M := mX12_titleOf) rfl dX12_titleOf_76
          · rw [if_neg (by rw [c8]; decide)] at h
            refine E_goto (M := mX12_titleOf) 89 (by decide) dX12_titleOf_60 ?_
            refine E_sub (M := mX12_titleOf) (lv' := [(0, .ref 149), (1, .int x1), (2, .int x2), (3, .int x3), (4, .int x4)]) [1, 2, 3, 4, 5] rfl ?_
            exact S_X12_titleOf_89 ih x1 x2 x3 x4 w7.2.1 w7.2.2 _ h
def f_X12_titleOf (x1 : Int32) (x2 : Int32) (I : MI) (L : ML) : Option (Int32 × MI × ML) := f_X12_titleOf_5 FU x1 x2 0 0 I L
set_option maxRecDepth 100000 in
theorem S_X12_titleOf {g : Gx} (x1 : Int32) (x2 : Int32) (I : MI) (L : ML) (res : Int32 × MI × ML) (h : f_X12_titleOf x1 x2 I L = some res) : E g 9 0 mX12_titleOf 0 [(0, .ref 149), (1, .int x1), (2, .int x2)] [] (I, L) (.inl (some (.int res.1))) (res.2.1, res.2.2) := by
  unfold f_X12_titleOf at h
  refine E_iconst (M := mX12_titleOf) (v := 0) 1 rfl dX12_titleOf_0 (by decide) ?_
  refine E_istore_n (M := mX12_titleOf) (lv' := [(3, .int 0), (0, .ref 149), (1, .int x1), (2, .int x2)]) 2 rfl dX12_titleOf_1 rfl (Nat.le_of_ble_eq_true rfl) rfl ?_
  refine E_iconst (M := mX12_titleOf) (v := 0) 3 rfl dX12_titleOf_2 (by decide) ?_
  refine E_istore (M := mX12_titleOf) (lv' := [(4, .int 0), (3, .int 0), (0, .ref 149), (1, .int x1), (2, .int x2)]) 5 rfl dX12_titleOf_3 (Nat.le_of_ble_eq_true rfl) rfl ?_
  refine E_sub (M := mX12_titleOf) (lv' := [(0, .ref 149), (1, .int x1), (2, .int x2), (3, .int 0), (4, .int 0)]) [2, 3, 4, 1, 0] rfl ?_
  exact S_X12_titleOf_5 FU x1 x2 0 0 I L _ h
theorem C_X12_titleOf {g : Gx} {x1 : Int32} {x2 : Int32} {I : MI} {L : ML} {res : Int32 × MI × ML} (h : f_X12_titleOf x1 x2 I L = some res) : Ent g 9 0 mX12_titleOf [.ref 149, .int x1, .int x2] (I, L) (.inl (some (.int res.1))) (res.2.1, res.2.2) := Ent_of (by decide +kernel) (Nat.le_of_ble_eq_true rfl) (S_X12_titleOf x1 x2 I L _ h)
def f_X12_allTitles_5 : Nat → Int32 → Int64 → Int32 → MI → ML → Option (Int64 × MI × ML)
  | 0, _, _, _, _, _ => none
  | n + 1, x1, x2, x4, I, L => Option.bind (f_X12_heirs I L) fun v1 => if v1 ≤ x4 then (some (x2, I, L)) else (Option.bind (f_X12_titleOf x4 x1 I L) fun w3 => Option.bind (stI w3.2.1 158 6 x4 w3.1) fun I4 => Option.bind (ldI I4 158 6 x4) fun v5 => f_X12_allTitles_5 n x1 (x2 + v5.toInt64) (x4 + 1) I4 w3.2.2)
set_option maxRecDepth 100000 in
theorem S_X12_allTitles_5 {g : Gx} : ∀ (n : Nat) (x1 : Int32) (x2 : Int64) (x4 : Int32) (I : MI) (L : ML) (res : Int64 × MI × ML), f_X12_allTitles_5 n x1 x2 x4 I L = some res → E g 10 0 mX12_allTitles 5 [(0, .ref 149), (1, .int x1), (2, .long x2), (4, .int x4)] [] (I, L) (.inl (some (.long res.1))) (res.2.1, res.2.2) := by
  intro n
  induction n with
  | zero =>
    intros
    rename_i h
    cases h
  | succ n ih =>
    intro x1 x2 x4 I L res h
    rw [f_X12_allTitles_5] at h
    refine E_iload (M := mX12_allTitles) 7 rfl dX12_allTitles_5 3 rfl ?_
    refine E_aload_n (M := mX12_allTitles) 8 rfl dX12_allTitles_7 rfl 0 rfl ?_
    replace h := Option.bind_eq_some_iff.mp h
    obtain ⟨v1, hv1, h⟩ := h
    refine E_cV1 (M := mX12_allTitles) (As := []) 11 rfl dX12_allTitles_8 shc_149 ck_X12_64 cv_X12_heirs rfl (by decide) (Nat.le_of_ble_eq_true rfl) (C_X12_heirs (g := g) hv1) rfl ?_
    refine E_icmp_ge (M := mX12_allTitles) 45 14 (by decide) rfl dX12_allTitles_11 (fun c2 => ?_) (fun c2 => ?_)
    · rw [if_pos c2] at h
      refine E_lload_n (M := mX12_allTitles) 46 rfl dX12_allTitles_45 rfl 2 rfl ?_
      cases h
      exact E_lret (M := mX12_allTitles) rfl dX12_allTitles_46
    · rw [if_neg c2] at h
      refine E_aload_n (M := mX12_allTitles) 15 rfl dX12_allTitles_14 rfl 0 rfl ?_
      refine E_gR (M := mX12_allTitles) 158 18 rfl dX12_allTitles_15 shc_149 fl_X12_42 rfl (by decide) (by decide) ?_
      refine E_iload (M := mX12_allTitles) 20 rfl dX12_allTitles_18 3 rfl ?_
      refine E_aload_n (M := mX12_allTitles) 21 rfl dX12_allTitles_20 rfl 0 rfl ?_
      refine E_iload (M := mX12_allTitles) 23 rfl dX12_allTitles_21 3 rfl ?_
      refine E_iload_n (M := mX12_allTitles) 24 rfl dX12_allTitles_23 rfl 1 rfl ?_
      replace h := Option.bind_eq_some_iff.mp h
      obtain ⟨w3, hw3, h⟩ := h
      refine E_cV1 (M := mX12_allTitles) (As := [.int x4, .int x1]) 27 rfl dX12_allTitles_24 shc_149 ck_X12_282 cv_X12_titleOf rfl (by decide) (Nat.le_of_ble_eq_true rfl) (C_X12_titleOf (g := g) hw3) rfl ?_
      replace h := Option.bind_eq_some_iff.mp h
      obtain ⟨I4, hI4, h⟩ := h
      refine E_stI (M := mX12_allTitles) 28 rfl dX12_allTitles_27 shc_158 hI4 ?_
      refine E_lload_n (M := mX12_allTitles) 29 rfl dX12_allTitles_28 rfl 2 rfl ?_
      refine E_aload_n (M := mX12_allTitles) 30 rfl dX12_allTitles_29 rfl 0 rfl ?_
      refine E_gR (M := mX12_allTitles) 158 33 rfl dX12_allTitles_30 shc_149 fl_X12_42 rfl (by decide) (by decide) ?_
      refine E_iload (M := mX12_allTitles) 35 rfl dX12_allTitles_33 3 rfl ?_
      replace h := Option.bind_eq_some_iff.mp h
      obtain ⟨v5, hv5, h⟩ := h
      refine E_ldI (M := mX12_allTitles) 36 rfl dX12_allTitles_35 shc_158 hv5 ?_
      refine E_i2l (M := mX12_allTitles) 37 rfl dX12_allTitles_36 ?_
      refine E_ladd (M := mX12_allTitles) 38 rfl dX12_allTitles_37 ?_
      refine E_lstore_n (M := mX12_allTitles) (lv' := [(2, .long (x2 + v5.toInt64)), (0, .ref 149), (1, .int x1), (4, .int x4)]) 39 rfl dX12_allTitles_38 rfl (Nat.le_of_ble_eq_true rfl) rfl ?_
      refine E_iinc (M := mX12_allTitles) (j := 3) (v := x4 + 1) (lv' := [(4, .int (x4 + 1)), (2, .long (x2 + v5.toInt64)), (0, .ref 149), (1, .int x1)]) 42 rfl dX12_allTitles_39 rfl rfl (Nat.le_of_ble_eq_true rfl) rfl ?_
      refine E_goto (M := mX12_allTitles) 5 (by decide) dX12_allTitles_42 ?_
      refine E_sub (M := mX12_allTitles) (lv' := [(0, .ref 149), (1, .int x1), (2, .long (x2 + v5.toInt64)), (4, .int (x4 + 1))]) [2, 3, 1, 0] rfl ?_
      exact ih x1 (x2 + v5.toInt64) (x4 + 1) I4 w3.2.2 _ h
def f_X12_allTitles (x1 : Int32) (I : MI) (L : ML) : Option (Int64 × MI × ML) := f_X12_allTitles_5 FU x1 0 0 I L
set_option maxRecDepth 100000 in
theorem S_X12_allTitles {g : Gx} (x1 : Int32) (I : MI) (L : ML) (res : Int64 × MI × ML) (h : f_X12_allTitles x1 I L = some res) : E g 10 0 mX12_allTitles 0 [(0, .ref 149), (1, .int x1)] [] (I, L) (.inl (some (.long res.1))) (res.2.1, res.2.2) := by
  unfold f_X12_allTitles at h
  refine E_lconst (M := mX12_allTitles) (v := 0) 1 rfl dX12_allTitles_0 (by decide) ?_
  refine E_lstore_n (M := mX12_allTitles) (lv' := [(2, .long 0), (0, .ref 149), (1, .int x1)]) 2 rfl dX12_allTitles_1 rfl (Nat.le_of_ble_eq_true rfl) rfl ?_
  refine E_iconst (M := mX12_allTitles) (v := 0) 3 rfl dX12_allTitles_2 (by decide) ?_
  refine E_istore (M := mX12_allTitles) (lv' := [(4, .int 0), (2, .long 0), (0, .ref 149), (1, .int x1)]) 5 rfl dX12_allTitles_3 (Nat.le_of_ble_eq_true rfl) rfl ?_
  refine E_sub (M := mX12_allTitles) (lv' := [(0, .ref 149), (1, .int x1), (2, .long 0), (4, .int 0)]) [2, 3, 1, 0] rfl ?_
  exact S_X12_allTitles_5 FU x1 0 0 I L _ h
theorem C_X12_allTitles {g : Gx} {x1 : Int32} {I : MI} {L : ML} {res : Int64 × MI × ML} (h : f_X12_allTitles x1 I L = some res) : Ent g 10 0 mX12_allTitles [.ref 149, .int x1] (I, L) (.inl (some (.long res.1))) (res.2.1, res.2.2) := Ent_of (by decide +kernel) (Nat.le_of_ble_eq_true rfl) (S_X12_allTitles x1 I L _ h)
def f_X12_parts_184 (x6 : Int64) (I : MI) (L : ML) : Option (Int64 × MI × ML) := some (x6, I, L)
set_option maxRecDepth 100000 in
theorem S_X12_parts_184 {g : Gx} (x6 : Int64) (I : MI) (L : ML) (res : Int64 × MI × ML) (h : f_X12_parts_184 x6 I L = some res) : E g 11 0 mX12_parts 184 [(6, .long x6)] [] (I, L) (.inl (some (.long res.1))) (res.2.1, res.2.2) := by
  unfold f_X12_parts_184 at h
  refine E_lload (M := mX12_parts) 186 rfl dX12_parts_184 0 rfl ?_
  cases h
  exact E_lret (M := mX12_parts) rfl dX12_parts_186
def f_X12_parts_149 (k94 : Int64 → Int64 → Int32 → Int32 → Int32 → MI → ML → Option (Int64 × MI × ML)) (x4 : Int64) (x6 : Int64) (x8 : Int32) (x9 : Int32) (x10 : Int32) (I : MI) (L : ML) : Option (Int64 × MI × ML) := k94 x4 x6 x8 x9 (x10 + 1) I L
set_option maxRecDepth 100000 in
theorem S_X12_parts_149 {g : Gx} {k94 : Int64 → Int64 → Int32 → Int32 → Int32 → MI → ML → Option (Int64 × MI × ML)} (hk94 : ∀ (x4z : Int64) (x6z : Int64) (x8z : Int32) (x9z : Int32) (x10z : Int32) (I : MI) (L : ML) (res : Int64 × MI × ML), k94 x4z x6z x8z x9z x10z I L = some res → E g 11 0 mX12_parts 94 [(0, .ref 149), (4, .long x4z), (6, .long x6z), (8, .int x8z), (9, .int x9z), (10, .int x10z)] [] (I, L) (.inl (some (.long res.1))) (res.2.1, res.2.2)) (x4 : Int64) (x6 : Int64) (x8 : Int32) (x9 : Int32) (x10 : Int32) (I : MI) (L : ML) (res : Int64 × MI × ML) (h : f_X12_parts_149 k94 x4 x6 x8 x9 x10 I L = some res) : E g 11 0 mX12_parts 149 [(0, .ref 149), (4, .long x4), (6, .long x6), (8, .int x8), (9, .int x9), (10, .int x10)] [] (I, L) (.inl (some (.long res.1))) (res.2.1, res.2.2) := by
  unfold f_X12_parts_149 at h
  refine E_iinc (M := mX12_parts) (j := 5) (v := x10 + 1) (lv' := [(10, .int (x10 + 1)), (0, .ref 149), (4, .long x4), (6, .long x6), (8, .int x8), (9, .int x9)]) 152 rfl dX12_parts_149 rfl rfl (Nat.le_of_ble_eq_true rfl) rfl ?_
  refine E_goto (M := mX12_parts) 94 (by decide) dX12_parts_152 ?_
  refine E_sub (M := mX12_parts) (lv' := [(0, .ref 149), (4, .long x4), (6, .long x6), (8, .int x8), (9, .int x9), (10, .int (x10 + 1))]) [1, 2, 3, 4, 5, 0] rfl ?_
  exact hk94 x4 x6 x8 x9 (x10 + 1) I L _ h
def f_X12_parts_145 (k94 : Int64 → Int64 → Int32 → Int32 → Int32 → MI → ML → Option (Int64 × MI × ML)) (x4 : Int64) (x6 : Int64) (x8 : Int32) (x10 : Int32) (I : MI) (L : ML) : Option (Int64 × MI × ML) := f_X12_parts_149 k94 x4 x6 x8 x10 x10 I L
set_option maxRecDepth 100000 in
theorem S_X12_parts_145 {g : Gx} {k94 : Int64 → Int64 → Int32 → Int32 → Int32 → MI → ML → Option (Int64 × MI × ML)} (hk94 : ∀ (x4z : Int64) (x6z : Int64) (x8z : Int32) (x9z : Int32) (x10z : Int32) (I : MI) (L : ML) (res : Int64 × MI × ML), k94 x4z x6z x8z x9z x10z I L = some res → E g 11 0 mX12_parts 94 [(0, .ref 149), (4, .long x4z), (6, .long x6z), (8, .int x8z), (9, .int x9z), (10, .int x10z)] [] (I, L) (.inl (some (.long res.1))) (res.2.1, res.2.2)) (x4 : Int64) (x6 : Int64) (x8 : Int32) (x10 : Int32) (I : MI) (L : ML) (res : Int64 × MI × ML) (h : f_X12_parts_145 k94 x4 x6 x8 x10 I L = some res) : E g 11 0 mX12_parts 145 [(0, .ref 149), (4, .long x4), (6, .long x6), (8, .int x8), (10, .int x10)] [] (I, L) (.inl (some (.long res.1))) (res.2.1, res.2.2) := by
  unfold f_X12_parts_145 at h
  refine E_iload (M := mX12_parts) 147 rfl dX12_parts_145 4 rfl ?_
  refine E_istore (M := mX12_parts) (lv' := [(9, .int x10), (0, .ref 149), (4, .long x4), (6, .long x6), (8, .int x8), (10, .int x10)]) 149 rfl dX12_parts_147 (Nat.le_of_ble_eq_true rfl) rfl ?_
  refine E_sub (M := mX12_parts) (lv' := [(0, .ref 149), (4, .long x4), (6, .long x6), (8, .int x8), (9, .int x10), (10, .int x10)]) [1, 2, 3, 4, 0, 5] rfl ?_
  exact S_X12_parts_149 hk94 x4 x6 x8 x10 x10 I L _ h
def f_X12_parts_94 (k74 : Int64 → Int64 → Int32 → MI → ML → Option (Int64 × MI × ML)) : Nat → Int64 → Int64 → Int32 → Int32 → Int32 → MI → ML → Option (Int64 × MI × ML)
  | 0, _, _, _, _, _, _, _ => none
  | n + 1, x4, x6, x8, x9, x10, I, L => Option.bind (f_X12_heirs I L) fun v1 => if v1 ≤ x10 then (Option.bind (ldL L 159 6 x9) fun v3 => Option.bind (stL L 159 6 x9 (v3 + 1)) fun L4 => k74 x4 (x6 - 1) (x8 ||| (1 <<< (x9 &&& 31))) I L4) else (Option.bind (f_X12_has x8 x10 I L) fun v5 => if v5 = true then (f_X12_parts_149 (f_X12_parts_94 k74 n) x4 x6 x8 x9 x10 I L) else (Option.bind (ldI I 158 6 x10) fun v7 => if v7 ≤ 0 then (f_X12_parts_149 (f_X12_parts_94 k74 n) x4 x6 x8 x9 x10 I L) else (if x9 < 0 then (f_X12_parts_145 (f_X12_parts_94 k74 n) x4 x6 x8 x10 I L) else (Option.bind (ldI I 158 6 x10) fun v10 => Option.bind (ldI I 158 6 x9) fun v11 => if v10 ≤ v11 then (f_X12_parts_149 (f_X12_parts_94 k74 n) x4 x6 x8 x9 x10 I L) else (f_X12_parts_145 (f_X12_parts_94 k74 n) x4 x6 x8 x10 I L)))))
set_option maxRecDepth 100000 in
theorem S_X12_parts_94 {g : Gx} {k74 : Int64 → Int64 → Int32 → MI → ML → Option (Int64 × MI × ML)} (hk74 : ∀ (x4z : Int64) (x6z : Int64) (x8z : Int32) (I : MI) (L : ML) (res : Int64 × MI × ML), k74 x4z x6z x8z I L = some res → E g 11 0 mX12_parts 74 [(0, .ref 149), (4, .long x4z), (6, .long x6z), (8, .int x8z)] [] (I, L) (.inl (some (.long res.1))) (res.2.1, res.2.2)) : ∀ (n : Nat) (x4 : Int64) (x6 : Int64) (x8 : Int32) (x9 : Int32) (x10 : Int32) (I : MI) (L : ML) (res : Int64 × MI × ML), f_X12_parts_94 k74 n x4 x6 x8 x9 x10 I L = some res → E g 11 0 mX12_parts 94 [(0, .ref 149), (4, .long x4), (6, .long x6), (8, .int x8), (9, .int x9), (10, .int x10)] [] (I, L) (.inl (some (.long res.1))) (res.2.1, res.2.2) := by
  intro n
  induction n with
  | zero =>
    intros
    rename_i h
    cases h
  | succ n ih =>
    intro x4 x6 x8 x9 x10 I L res h
    rw [f_X12_parts_94] at h
    refine E_iload (M := mX12_parts) 96 rfl dX12_parts_94 5 rfl ?_
    refine E_aload_n (M := mX12_parts) 97 rfl dX12_parts_96 rfl 0 rfl ?_
    replace h := Option.bind_eq_some_iff.mp h
    obtain ⟨v1, hv1, h⟩ := h
    refine E_cV1 (M := mX12_parts) (As := []) 100 rfl dX12_parts_97 shc_149 ck_X12_64 cv_X12_heirs rfl (by decide) (Nat.le_of_ble_eq_true rfl) (C_X12_heirs (g := g) hv1) rfl ?_
    refine E_icmp_ge (M := mX12_parts) 155 103 (by decide) rfl dX12_parts_100 (fun c2 => ?_) (fun c2 => ?_)
    · rw [if_pos c2] at h
      refine E_iload (M := mX12_parts) 157 rfl dX12_parts_155 3 rfl ?_
      refine E_iconst (M := mX12_parts) (v := 1) 158 rfl dX12_parts_157 (by decide) ?_
      refine E_iload (M := mX12_parts) 160 rfl dX12_parts_158 4 rfl ?_
      refine E_ishl (M := mX12_parts) 161 rfl dX12_parts_160 ?_
      refine E_ior (M := mX12_parts) 162 rfl dX12_parts_161 ?_
      refine E_istore (M := mX12_parts) (lv' := [(8, .int (x8 ||| (1 <<< (x9 &&& 31)))), (0, .ref 149), (4, .long x4), (6, .long x6), (9, .int x9), (10, .int x10)]) 164 rfl dX12_parts_162 (Nat.le_of_ble_eq_true rfl) rfl ?_
      refine E_aload_n (M := mX12_parts) 165 rfl dX12_parts_164 rfl 1 rfl ?_
      refine E_gR (M := mX12_parts) 159 168 rfl dX12_parts_165 shc_149 fl_X12_45 rfl (by decide) (by decide) ?_
      refine E_iload (M := mX12_parts) 170 rfl dX12_parts_168 4 rfl ?_
      refine E_dup2 (M := mX12_parts) 171 rfl dX12_parts_170 rfl rfl ?_
      replace h := Option.bind_eq_some_iff.mp h
      obtain ⟨v3, hv3, h⟩ := h
      refine E_ldL (M := mX12_parts) 172 rfl dX12_parts_171 shc_159 hv3 ?_
      refine E_lconst (M := mX12_parts) (v := 1) 173 rfl dX12_parts_172 (by decide) ?_
      refine E_ladd (M := mX12_parts) 174 rfl dX12_parts_173 ?_
      replace h := Option.bind_eq_some_iff.mp h
      obtain ⟨L4, hL4, h⟩ := h
      refine E_stL (M := mX12_parts) 175 rfl dX12_parts_174 shc_159 hL4 ?_
      refine E_lload (M := mX12_parts) 177 rfl dX12_parts_175 3 rfl ?_
      refine E_lconst (M := mX12_parts) (v := 1) 178 rfl dX12_parts_177 (by decide) ?_
      refine E_lsub (M := mX12_parts) 179 rfl dX12_parts_178 ?_
      refine E_lstore (M := mX12_parts) (lv' := [(6, .long (x6 - 1)), (8, .int (x8 ||| (1 <<< (x9 &&& 31)))), (0, .ref 149), (4, .long x4), (9, .int x9), (10, .int x10)]) 181 rfl dX12_parts_179 (Nat.le_of_ble_eq_true rfl) rfl ?_
      refine E_goto (M := mX12_parts) 74 (by decide) dX12_parts_181 ?_
      refine E_sub (M := mX12_parts) (lv' := [(0, .ref 149), (4, .long x4), (6, .long (x6 - 1)), (8, .int (x8 ||| (1 <<< (x9 &&& 31))))]) [2, 3, 0, 1] rfl ?_
      exact hk74 x4 (x6 - 1) (x8 ||| (1 <<< (x9 &&& 31))) I L4 _ h
    · rw [if_neg c2] at h
      refine E_iload (M := mX12_parts) 105 rfl dX12_parts_103 3 rfl ?_
      refine E_iload (M := mX12_parts) 107 rfl dX12_parts_105 5 rfl ?_
      replace h := Option.bind_eq_some_iff.mp h
      obtain ⟨v5, hv5, h⟩ := h
      refine E_cS1 (M := mX12_parts) (As := [.int x8, .int x10]) 110 rfl dX12_parts_107 ck_X12_289 ss_X12_has rfl (by decide) (Nat.le_of_ble_eq_true rfl) (C_X12_has (g := g) hv5) rfl ?_
      refine E_if_neB (M := mX12_parts) 149 113 (by decide) rfl dX12_parts_110 (fun c6 => ?_) (fun c6 => ?_)
      · rw [if_pos c6] at h
        refine E_sub (M := mX12_parts) (lv' := [(0, .ref 149), (4, .long x4), (6, .long x6), (8, .int x8), (9, .int x9), (10, .int x10)]) [0, 1, 2, 3, 4, 5] rfl ?_
        exact S_X12_parts_149 ih x4 x6 x8 x9 x10 I L _ h
      · rw [if_neg (by rw [c6]; decide)] at h
        refine E_aload_n (M := mX12_parts) 114 rfl dX12_parts_113 rfl 0 rfl ?_
        refine E_gR (M := mX12_parts) 158 117 rfl dX12_parts_114 shc_149 fl_X12_42 rfl (by decide) (by decide) ?_
        refine E_iload (M := mX12_parts) 119 rfl dX12_parts_117 5 rfl ?_
        replace h := Option.bind_eq_some_iff.mp h
        obtain ⟨v7, hv7, h⟩ := h
        refine E_ldI (M := mX12_parts) 120 rfl dX12_parts_119 shc_158 hv7 ?_
        refine E_if_le (M := mX12_parts) 149 123 (by decide) rfl dX12_parts_120 (fun c8 => ?_) (fun c8 => ?_)
        · rw [if_pos c8] at h
          refine E_sub (M := mX12_parts) (lv' := [(0, .ref 149), (4, .long x4), (6, .long x6), (8, .int x8), (9, .int x9), (10, .int x10)]) [0, 1, 2, 3, 4, 5] rfl ?_
          exact S_X12_parts_149 ih x4 x6 x8 x9 x10 I L _ h
        · rw [if_neg c8] at h
          refine E_iload (M := mX12_parts) 125 rfl dX12_parts_123 4 rfl ?_
          refine E_if_lt (M := mX12_parts) 145 128 (by decide) rfl dX12_parts_125 (fun c9 => ?_) (fun c9 => ?_)
          · rw [if_pos c9] at h
            refine E_sub (M := mX12_parts) (lv' := [(0, .ref 149), (4, .long x4), (6, .long x6), (8, .int x8), (10, .int x10)]) [0, 1, 2, 3, 5] rfl ?_
            exact S_X12_parts_145 ih x4 x6 x8 x10 I L _ h
          · rw [if_neg c9] at h
            refine E_aload_n (M := mX12_parts) 129 rfl dX12_parts_128 rfl 0 rfl ?_
            refine E_gR (M := mX12_parts) 158 132 rfl dX12_parts_129 shc_149 fl_X12_42 rfl (by decide) (by decide) ?_
            refine E_iload (M := mX12_parts) 134 rfl dX12_parts_132 5 rfl ?_
            replace h := Option.bind_eq_some_iff.mp h
            obtain ⟨v10, hv10, h⟩ := h
            refine E_ldI (M := mX12_parts) 135 rfl dX12_parts_134 shc_158 hv10 ?_
            refine E_aload_n (M := mX12_parts) 136 rfl dX12_parts_135 rfl 0 rfl ?_
            refine E_gR (M := mX12_parts) 158 139 rfl dX12_parts_136 shc_149 fl_X12_42 rfl (by decide) (by decide) ?_
            refine E_iload (M := mX12_parts) 141 rfl dX12_parts_139 4 rfl ?_
            replace h := Option.bind_eq_some_iff.mp h
            obtain ⟨v11, hv11, h⟩ := h
            refine E_ldI (M := mX12_parts) 142 rfl dX12_parts_141 shc_158 hv11 ?_
            refine E_icmp_le (M := mX12_parts) 149 145 (by decide) rfl dX12_parts_142 (fun c12 => ?_) (fun c12 => ?_)
            · rw [if_pos c12] at h
              refine E_sub (M := mX12_parts) (lv' := [(0, .ref 149), (4, .long x4), (6, .long x6), (8, .int x8), (9, .int x9), (10, .int x10)]) [0, 1, 2, 3, 4, 5] rfl ?_
              exact S_X12_parts_149 ih x4 x6 x8 x9 x10 I L _ h
            · rw [if_neg c12] at h
              refine E_sub (M := mX12_parts) (lv' := [(0, .ref 149), (4, .long x4), (6, .long x6), (8, .int x8), (10, .int x10)]) [0, 1, 2, 3, 5] rfl ?_
              exact S_X12_parts_145 ih x4 x6 x8 x10 I L _ h
def f_X12_parts_74 : Nat → Int64 → Int64 → Int32 → MI → ML → Option (Int64 × MI × ML)
  | 0, _, _, _, _, _ => none
  | n + 1, x4, x6, x8, I, L => if x6 ≤ 0 then (f_X12_parts_184 x6 I L) else (if x4 ≤ 0 then (f_X12_parts_184 x6 I L) else (f_X12_parts_94 (f_X12_parts_74 n) FU x4 x6 x8 ((-1)) 0 I L))
set_option maxRecDepth 100000 in
theorem S_X12_parts_74 {g : Gx} : ∀ (n : Nat) (x4 : Int64) (x6 : Int64) (x8 : Int32) (I : MI) (L : ML) (res : Int64 × MI × ML), f_X12_parts_74 n x4 x6 x8 I L = some res → E g 11 0 mX12_parts 74 [(0, .ref 149), (4, .long x4), (6, .long x6), (8, .int x8)] [] (I, L) (.inl (some (.long res.1))) (res.2.1, res.2.2) := by
  intro n
  induction n with
  | zero =>
    intros
    rename_i h
    cases h
  | succ n ih =>
    intro x4 x6 x8 I L res h
    rw [f_X12_parts_74] at h
    refine E_lload (M := mX12_parts) 76 rfl dX12_parts_74 2 rfl ?_
    refine E_lconst (M := mX12_parts) (v := 0) 77 rfl dX12_parts_76 (by decide) ?_
    refine E_lc_le (M := mX12_parts) 184 78 81 (by decide) rfl rfl dX12_parts_77 dX12_parts_78 (fun c1 => ?_) (fun c1 => ?_)
    · rw [if_pos c1] at h
      refine E_sub (M := mX12_parts) (lv' := [(6, .long x6)]) [2] rfl ?_
      exact S_X12_parts_184 x6 I L _ h
    · rw [if_neg c1] at h
      refine E_lload (M := mX12_parts) 83 rfl dX12_parts_81 1 rfl ?_
      refine E_lconst (M := mX12_parts) (v := 0) 84 rfl dX12_parts_83 (by decide) ?_
      refine E_lc_le (M := mX12_parts) 184 85 88 (by decide) rfl rfl dX12_parts_84 dX12_parts_85 (fun c2 => ?_) (fun c2 => ?_)
      · rw [if_pos c2] at h
        refine E_sub (M := mX12_parts) (lv' := [(6, .long x6)]) [2] rfl ?_
        exact S_X12_parts_184 x6 I L _ h
      · rw [if_neg c2] at h
        refine E_iconst (M := mX12_parts) (v := (-1)) 89 rfl dX12_parts_88 (by decide) ?_
        refine E_istore (M := mX12_parts) (lv' := [(9, .int ((-1))), (0, .ref 149), (4, .long x4), (6, .long x6), (8, .int x8)]) 91 rfl dX12_parts_89 (Nat.le_of_ble_eq_true rfl) rfl ?_
        refine E_iconst (M := mX12_parts) (v := 0) 92 rfl dX12_parts_91 (by decide) ?_
        refine E_istore (M := mX12_parts) (lv' := [(10, .int 0), (9, .int ((-1))), (0, .ref 149), (4, .long x4), (6, .long x6), (8, .int x8)]) 94 rfl dX12_parts_92 (Nat.le_of_ble_eq_true rfl) rfl ?_
        refine E_sub (M := mX12_parts) (lv' := [(0, .ref 149), (4, .long x4), (6, .long x6), (8, .int x8), (9, .int ((-1))), (10, .int 0)]) [2, 3, 4, 5, 1, 0] rfl ?_
        exact S_X12_parts_94 ih FU x4 x6 x8 ((-1)) 0 I L _ h
def f_X12_parts_52 (k13 : Int64 → Int64 → Int64 → Int32 → MI → ML → Option (Int64 × MI × ML)) (x2 : Int64) (x4 : Int64) (x6 : Int64) (x8 : Int32) (y1 : Int32) (y2 : Int64) (I : MI) (L : ML) : Option (Int64 × MI × ML) := Option.bind (stL L 159 6 y1 y2) fun L1 => Option.bind (ldL L1 159 6 x8) fun v2 => k13 x2 x4 (x6 - v2) (x8 + 1) I L1
set_option maxRecDepth 100000 in
theorem S_X12_parts_52 {g : Gx} {k13 : Int64 → Int64 → Int64 → Int32 → MI → ML → Option (Int64 × MI × ML)} (hk13 : ∀ (x2z : Int64) (x4z : Int64) (x6z : Int64) (x8z : Int32) (I : MI) (L : ML) (res : Int64 × MI × ML), k13 x2z x4z x6z x8z I L = some res → E g 11 0 mX12_parts 13 [(0, .ref 149), (2, .long x2z), (4, .long x4z), (6, .long x6z), (8, .int x8z)] [] (I, L) (.inl (some (.long res.1))) (res.2.1, res.2.2)) (x2 : Int64) (x4 : Int64) (x6 : Int64) (x8 : Int32) (y1 : Int32) (y2 : Int64) (I : MI) (L : ML) (res : Int64 × MI × ML) (h : f_X12_parts_52 k13 x2 x4 x6 x8 y1 y2 I L = some res) : E g 11 0 mX12_parts 52 [(0, .ref 149), (2, .long x2), (4, .long x4), (6, .long x6), (8, .int x8)] [.long y2, .int y1, .ref 159] (I, L) (.inl (some (.long res.1))) (res.2.1, res.2.2) := by
  unfold f_X12_parts_52 at h
  replace h := Option.bind_eq_some_iff.mp h
  obtain ⟨L1, hL1, h⟩ := h
  refine E_stL (M := mX12_parts) 53 rfl dX12_parts_52 shc_159 hL1 ?_
  refine E_lload (M := mX12_parts) 55 rfl dX12_parts_53 3 rfl ?_
  refine E_aload_n (M := mX12_parts) 56 rfl dX12_parts_55 rfl 0 rfl ?_
  refine E_gR (M := mX12_parts) 159 59 rfl dX12_parts_56 shc_149 fl_X12_45 rfl (by decide) (by decide) ?_
  refine E_iload (M := mX12_parts) 61 rfl dX12_parts_59 4 rfl ?_
  replace h := Option.bind_eq_some_iff.mp h
  obtain ⟨v2, hv2, h⟩ := h
  refine E_ldL (M := mX12_parts) 62 rfl dX12_parts_61 shc_159 hv2 ?_
  refine E_lsub (M := mX12_parts) 63 rfl dX12_parts_62 ?_
  refine E_lstore (M := mX12_parts) (lv' := [(6, .long (x6 - v2)), (0, .ref 149), (2, .long x2), (4, .long x4), (8, .int x8)]) 65 rfl dX12_parts_63 (Nat.le_of_ble_eq_true rfl) rfl ?_
  refine E_iinc (M := mX12_parts) (j := 4) (v := x8 + 1) (lv' := [(8, .int (x8 + 1)), (6, .long (x6 - v2)), (0, .ref 149), (2, .long x2), (4, .long x4)]) 68 rfl dX12_parts_65 rfl rfl (Nat.le_of_ble_eq_true rfl) rfl ?_
  refine E_goto (M := mX12_parts) 13 (by decide) dX12_parts_68 ?_
  refine E_sub (M := mX12_parts) (lv' := [(0, .ref 149), (2, .long x2), (4, .long x4), (6, .long (x6 - v2)), (8, .int (x8 + 1))]) [2, 3, 4, 1, 0] rfl ?_
  exact hk13 x2 x4 (x6 - v2) (x8 + 1) I L1 _ h
def f_X12_parts_13 : Nat → Int64 → Int64 → Int64 → Int32 → MI → ML → Option (Int64 × MI × ML)
  | 0, _, _, _, _, _, _ => none
  | n + 1, x2, x4, x6, x8, I, L => Option.bind (f_X12_heirs I L) fun v1 => if v1 ≤ x8 then (f_X12_parts_74 FU x4 x6 0 I L) else (if x4 = 0 then (f_X12_parts_52 (f_X12_parts_13 n) x2 x4 x6 x8 x8 0 I L) else (Option.bind (ldI I 158 6 x8) fun v4 => Option.bind (dvL (x2 * v4.toInt64) x4) fun v5 => f_X12_parts_52 (f_X12_parts_13 n) x2 x4 x6 x8 x8 v5 I L))
set_option maxRecDepth 100000 in
theorem S_X12_parts_13 {g : Gx} : ∀ (n : Nat) (x2 : Int64) (x4 : Int64) (x6 : Int64) (x8 : Int32) (I : MI) (L : ML) (res : Int64 × MI × ML), f_X12_parts_13 n x2 x4 x6 x8 I L = some res → E g 11 0 mX12_parts 13 [(0, .ref 149), (2, .long x2), (4, .long x4), (6, .long x6), (8, .int x8)] [] (I, L) (.inl (some (.long res.1))) (res.2.1, res.2.2) := by
  intro n
  induction n with
  | zero =>
    intros
    rename_i h
    cases h
  | succ n ih =>
    intro x2 x4 x6 x8 I L res h
    rw [f_X12_parts_13] at h
    refine E_iload (M := mX12_parts) 15 rfl dX12_parts_13 4 rfl ?_
    refine E_aload_n (M := mX12_parts) 16 rfl dX12_parts_15 rfl 0 rfl ?_
    replace h := Option.bind_eq_some_iff.mp h
    obtain ⟨v1, hv1, h⟩ := h
    refine E_cV1 (M := mX12_parts) (As := []) 19 rfl dX12_parts_16 shc_149 ck_X12_64 cv_X12_heirs rfl (by decide) (Nat.le_of_ble_eq_true rfl) (C_X12_heirs (g := g) hv1) rfl ?_
    refine E_icmp_ge (M := mX12_parts) 71 22 (by decide) rfl dX12_parts_19 (fun c2 => ?_) (fun c2 => ?_)
    · rw [if_pos c2] at h
      refine E_iconst (M := mX12_parts) (v := 0) 72 rfl dX12_parts_71 (by decide) ?_
      refine E_istore (M := mX12_parts) (lv' := [(8, .int 0), (0, .ref 149), (2, .long x2), (4, .long x4), (6, .long x6)]) 74 rfl dX12_parts_72 (Nat.le_of_ble_eq_true rfl) rfl ?_
      refine E_sub (M := mX12_parts) (lv' := [(0, .ref 149), (4, .long x4), (6, .long x6), (8, .int 0)]) [1, 3, 4, 0] rfl ?_
      exact S_X12_parts_74 FU x4 x6 0 I L _ h
    · rw [if_neg c2] at h
      refine E_aload_n (M := mX12_parts) 23 rfl dX12_parts_22 rfl 0 rfl ?_
      refine E_gR (M := mX12_parts) 159 26 rfl dX12_parts_23 shc_149 fl_X12_45 rfl (by decide) (by decide) ?_
      refine E_iload (M := mX12_parts) 28 rfl dX12_parts_26 4 rfl ?_
      refine E_lload (M := mX12_parts) 30 rfl dX12_parts_28 2 rfl ?_
      refine E_lconst (M := mX12_parts) (v := 0) 31 rfl dX12_parts_30 (by decide) ?_
      refine E_lc_ne (M := mX12_parts) 39 32 35 (by decide) rfl rfl dX12_parts_31 dX12_parts_32 (fun c3 => ?_) (fun c3 => ?_)
      · rw [if_neg c3] at h
        refine E_lload_n (M := mX12_parts) 40 rfl dX12_parts_39 rfl 1 rfl ?_
        refine E_aload_n (M := mX12_parts) 41 rfl dX12_parts_40 rfl 0 rfl ?_
        refine E_gR (M := mX12_parts) 158 44 rfl dX12_parts_41 shc_149 fl_X12_42 rfl (by decide) (by decide) ?_
        refine E_iload (M := mX12_parts) 46 rfl dX12_parts_44 4 rfl ?_
        replace h := Option.bind_eq_some_iff.mp h
        obtain ⟨v4, hv4, h⟩ := h
        refine E_ldI (M := mX12_parts) 47 rfl dX12_parts_46 shc_158 hv4 ?_
        refine E_i2l (M := mX12_parts) 48 rfl dX12_parts_47 ?_
        refine E_lmul (M := mX12_parts) 49 rfl dX12_parts_48 ?_
        refine E_lload (M := mX12_parts) 51 rfl dX12_parts_49 2 rfl ?_
        replace h := Option.bind_eq_some_iff.mp h
        obtain ⟨v5, hv5, h⟩ := h
        refine E_dvL (M := mX12_parts) 52 rfl dX12_parts_51 hv5 ?_
        refine E_sub (M := mX12_parts) (lv' := [(0, .ref 149), (2, .long x2), (4, .long x4), (6, .long x6), (8, .int x8)]) [0, 1, 2, 3, 4] rfl ?_
        exact S_X12_parts_52 ih x2 x4 x6 x8 x8 v5 I L _ h
      · rw [if_pos c3] at h
        refine E_lconst (M := mX12_parts) (v := 0) 36 rfl dX12_parts_35 (by decide) ?_
        refine E_goto (M := mX12_parts) 52 (by decide) dX12_parts_36 ?_
        refine E_sub (M := mX12_parts) (lv' := [(0, .ref 149), (2, .long x2), (4, .long x4), (6, .long x6), (8, .int x8)]) [0, 1, 2, 3, 4] rfl ?_
        exact S_X12_parts_52 ih x2 x4 x6 x8 x8 0 I L _ h
def f_X12_parts (x1 : Int32) (x2 : Int64) (I : MI) (L : ML) : Option (Int64 × MI × ML) := Option.bind (f_X12_allTitles x1 I L) fun w1 => f_X12_parts_13 FU x2 w1.1 x2 0 w1.2.1 w1.2.2
set_option maxRecDepth 100000 in
theorem S_X12_parts {g : Gx} (x1 : Int32) (x2 : Int64) (I : MI) (L : ML) (res : Int64 × MI × ML) (h : f_X12_parts x1 x2 I L = some res) : E g 11 0 mX12_parts 0 [(0, .ref 149), (1, .int x1), (2, .long x2)] [] (I, L) (.inl (some (.long res.1))) (res.2.1, res.2.2) := by
  unfold f_X12_parts at h
  refine E_aload_n (M := mX12_parts) 1 rfl dX12_parts_0 rfl 0 rfl ?_
  refine E_iload_n (M := mX12_parts) 2 rfl dX12_parts_1 rfl 1 rfl ?_
  replace h := Option.bind_eq_some_iff.mp h
  obtain ⟨w1, hw1, h⟩ := h
  refine E_cV1 (M := mX12_parts) (As := [.int x1]) 5 rfl dX12_parts_2 shc_149 ck_X12_285 cv_X12_allTitles rfl (by decide) (Nat.le_of_ble_eq_true rfl) (C_X12_allTitles (g := g) hw1) rfl ?_
  refine E_lstore (M := mX12_parts) (lv' := [(4, .long w1.1), (0, .ref 149), (1, .int x1), (2, .long x2)]) 7 rfl dX12_parts_5 (Nat.le_of_ble_eq_true rfl) rfl ?_
  refine E_lload_n (M := mX12_parts) 8 rfl dX12_parts_7 rfl 3 rfl ?_
  refine E_lstore (M := mX12_parts) (lv' := [(6, .long x2), (4, .long w1.1), (0, .ref 149), (1, .int x1), (2, .long x2)]) 10 rfl dX12_parts_8 (Nat.le_of_ble_eq_true rfl) rfl ?_
  refine E_iconst (M := mX12_parts) (v := 0) 11 rfl dX12_parts_10 (by decide) ?_
  refine E_istore (M := mX12_parts) (lv' := [(8, .int 0), (6, .long x2), (4, .long w1.1), (0, .ref 149), (1, .int x1), (2, .long x2)]) 13 rfl dX12_parts_11 (Nat.le_of_ble_eq_true rfl) rfl ?_
  refine E_sub (M := mX12_parts) (lv' := [(0, .ref 149), (2, .long x2), (4, .long w1.1), (6, .long x2), (8, .int 0)]) [3, 5, 2, 1, 0] rfl ?_
  exact S_X12_parts_13 FU x2 w1.1 x2 0 w1.2.1 w1.2.2 _ h
theorem C_X12_parts {g : Gx} {x1 : Int32} {x2 : Int64} {I : MI} {L : ML} {res : Int64 × MI × ML} (h : f_X12_parts x1 x2 I L = some res) : Ent g 11 0 mX12_parts [.ref 149, .int x1, .long x2] (I, L) (.inl (some (.long res.1))) (res.2.1, res.2.2) := Ent_of (by decide +kernel) (Nat.le_of_ble_eq_true rfl) (S_X12_parts x1 x2 I L _ h)
def f_X12_loudAt_39 (k9 : Int32 → Int32 → Int32 → Int32 → MI → ML → Option (Int32 × MI × ML)) (x1 : Int32) (x2 : Int32) (x4 : Int32) (y0 : Int32) (y1 : Int32) (I : MI) (L : ML) : Option (Int32 × MI × ML) := k9 x1 x2 (y0 + y1) (x4 + 1) I L
set_option maxRecDepth 100000 in
theorem S_X12_loudAt_39 {g : Gx} {k9 : Int32 → Int32 → Int32 → Int32 → MI → ML → Option (Int32 × MI × ML)} (hk9 : ∀ (x1z : Int32) (x2z : Int32) (x3z : Int32) (x4z : Int32) (I : MI) (L : ML) (res : Int32 × MI × ML), k9 x1z x2z x3z x4z I L = some res → E g 6 0 mX12_loudAt 9 [(0, .ref 149), (1, .int x1z), (2, .int x2z), (3, .int x3z), (4, .int x4z)] [] (I, L) (.inl (some (.int res.1))) (res.2.1, res.2.2)) (x1 : Int32) (x2 : Int32) (x4 : Int32) (y0 : Int32) (y1 : Int32) (I : MI) (L : ML) (res : Int32 × MI × ML) (h : f_X12_loudAt_39 k9 x1 x2 x4 y0 y1 I L = some res) : E g 6 0 mX12_loudAt 39 [(0, .ref 149), (1, .int x1), (2, .int x2), (4, .int x4)] [.int y1, .int y0] (I, L) (.inl (some (.int res.1))) (res.2.1, res.2.2) := by
  unfold f_X12_loudAt_39 at h
  refine E_iadd (M := mX12_loudAt) 40 rfl dX12_loudAt_39 ?_
  refine E_istore_n (M := mX12_loudAt) (lv' := [(3, .int (y0 + y1)), (0, .ref 149), (1, .int x1), (2, .int x2), (4, .int x4)]) 41 rfl dX12_loudAt_40 rfl (Nat.le_of_ble_eq_true rfl) rfl ?_
  refine E_iinc (M := mX12_loudAt) (j := 4) (v := x4 + 1) (lv' := [(4, .int (x4 + 1)), (3, .int (y0 + y1)), (0, .ref 149), (1, .int x1), (2, .int x2)]) 44 rfl dX12_loudAt_41 rfl rfl (Nat.le_of_ble_eq_true rfl) rfl ?_
  refine E_goto (M := mX12_loudAt) 9 (by decide) dX12_loudAt_44 ?_
  refine E_sub (M := mX12_loudAt) (lv' := [(0, .ref 149), (1, .int x1), (2, .int x2), (3, .int (y0 + y1)), (4, .int (x4 + 1))]) [2, 3, 4, 1, 0] rfl ?_
  exact hk9 x1 x2 (y0 + y1) (x4 + 1) I L _ h
def f_X12_loudAt_9 : Nat → Int32 → Int32 → Int32 → Int32 → MI → ML → Option (Int32 × MI × ML)
  | 0, _, _, _, _, _, _ => none
  | n + 1, x1, x2, x3, x4, I, L => Option.bind (f_X12_noises I L) fun v1 => if v1 ≤ x4 then (some (x3, I, L)) else (Option.bind (f_X12_has x2 x4 I L) fun v3 => if v3 = true then (f_X12_loudAt_39 (f_X12_loudAt_9 n) x1 x2 x4 x3 0 I L) else (Option.bind (f_X12_atOf x4 x1 I L) fun v5 => f_X12_loudAt_39 (f_X12_loudAt_9 n) x1 x2 x4 x3 v5 I L))
set_option maxRecDepth 100000 in
theorem S_X12_loudAt_9 {g : Gx} : ∀ (n : Nat) (x1 : Int32) (x2 : Int32) (x3 : Int32) (x4 : Int32) (I : MI) (L : ML) (res : Int32 × MI × ML), f_X12_loudAt_9 n x1 x2 x3 x4 I L = some res → E g 6 0 mX12_loudAt 9 [(0, .ref 149), (1, .int x1), (2, .int x2), (3, .int x3), (4, .int x4)] [] (I, L) (.inl (some (.int res.1))) (res.2.1, res.2.2) := by
  intro n
  induction n with
  | zero =>
    intros
    rename_i h
    cases h
  | succ n ih =>
    intro x1 x2 x3 x4 I L res h
    rw [f_X12_loudAt_9] at h
    refine E_iload (M := mX12_loudAt) 11 rfl dX12_loudAt_9 4 rfl ?_
    refine E_aload_n (M := mX12_loudAt) 12 rfl dX12_loudAt_11 rfl 0 rfl ?_
    replace h := Option.bind_eq_some_iff.mp h
    obtain ⟨v1, hv1, h⟩ := h
    refine E_cV1 (M := mX12_loudAt) (As := []) 15 rfl dX12_loudAt_12 shc_149 ck_X12_67 cv_X12_noises rfl (by decide) (Nat.le_of_ble_eq_true rfl) (C_X12_noises (g := g) hv1) rfl ?_
    refine E_icmp_ge (M := mX12_loudAt) 47 18 (by decide) rfl dX12_loudAt_15 (fun c2 => ?_) (fun c2 => ?_)
    · rw [if_pos c2] at h
      refine E_iload_n (M := mX12_loudAt) 48 rfl dX12_loudAt_47 rfl 3 rfl ?_
      cases h
      exact E_iret (M := mX12_loudAt) rfl dX12_loudAt_48
    · rw [if_neg c2] at h
      refine E_iload_n (M := mX12_loudAt) 19 rfl dX12_loudAt_18 rfl 3 rfl ?_
      refine E_iload_n (M := mX12_loudAt) 20 rfl dX12_loudAt_19 rfl 2 rfl ?_
      refine E_iload (M := mX12_loudAt) 22 rfl dX12_loudAt_20 4 rfl ?_
      replace h := Option.bind_eq_some_iff.mp h
      obtain ⟨v3, hv3, h⟩ := h
      refine E_cS1 (M := mX12_loudAt) (As := [.int x2, .int x4]) 25 rfl dX12_loudAt_22 ck_X12_289 ss_X12_has rfl (by decide) (Nat.le_of_ble_eq_true rfl) (C_X12_has (g := g) hv3) rfl ?_
      refine E_if_eqB (M := mX12_loudAt) 32 28 (by decide) rfl dX12_loudAt_25 (fun c4 => ?_) (fun c4 => ?_)
      · rw [if_neg (by rw [c4]; decide)] at h
        refine E_aload_n (M := mX12_loudAt) 33 rfl dX12_loudAt_32 rfl 0 rfl ?_
        refine E_iload (M := mX12_loudAt) 35 rfl dX12_loudAt_33 4 rfl ?_
        refine E_iload_n (M := mX12_loudAt) 36 rfl dX12_loudAt_35 rfl 1 rfl ?_
        replace h := Option.bind_eq_some_iff.mp h
        obtain ⟨v5, hv5, h⟩ := h
        refine E_cV1 (M := mX12_loudAt) (As := [.int x4, .int x1]) 39 rfl dX12_loudAt_36 shc_149 ck_X12_269 cv_X12_atOf rfl (by decide) (Nat.le_of_ble_eq_true rfl) (C_X12_atOf (g := g) hv5) rfl ?_
        refine E_sub (M := mX12_loudAt) (lv' := [(0, .ref 149), (1, .int x1), (2, .int x2), (4, .int x4)]) [0, 1, 2, 4] rfl ?_
        exact S_X12_loudAt_39 ih x1 x2 x4 x3 v5 I L _ h
      · rw [if_pos c4] at h
        refine E_iconst (M := mX12_loudAt) (v := 0) 29 rfl dX12_loudAt_28 (by decide) ?_
        refine E_goto (M := mX12_loudAt) 39 (by decide) dX12_loudAt_29 ?_
        refine E_sub (M := mX12_loudAt) (lv' := [(0, .ref 149), (1, .int x1), (2, .int x2), (4, .int x4)]) [0, 1, 2, 4] rfl ?_
        exact S_X12_loudAt_39 ih x1 x2 x4 x3 0 I L _ h
def f_X12_loudAt (x1 : Int32) (x2 : Int32) (I : MI) (L : ML) : Option (Int32 × MI × ML) := Option.bind (f_X12_spreads I L) fun w1 => f_X12_loudAt_9 FU x1 x2 0 0 w1.1 w1.2
set_option maxRecDepth 100000 in
theorem S_X12_loudAt {g : Gx} (x1 : Int32) (x2 : Int32) (I : MI) (L : ML) (res : Int32 × MI × ML) (h : f_X12_loudAt x1 x2 I L = some res) : E g 6 0 mX12_loudAt 0 [(0, .ref 149), (1, .int x1), (2, .int x2)] [] (I, L) (.inl (some (.int res.1))) (res.2.1, res.2.2) := by
  unfold f_X12_loudAt at h
  refine E_aload_n (M := mX12_loudAt) 1 rfl dX12_loudAt_0 rfl 0 rfl ?_
  replace h := Option.bind_eq_some_iff.mp h
  obtain ⟨w1, hw1, h⟩ := h
  refine E_cV0 (M := mX12_loudAt) (As := []) 4 rfl dX12_loudAt_1 shc_149 ck_X12_298 cv_X12_spreads rfl (by decide) (Nat.le_of_ble_eq_true rfl) (C_X12_spreads (g := g) hw1) rfl ?_
  refine E_iconst (M := mX12_loudAt) (v := 0) 5 rfl dX12_loudAt_4 (by decide) ?_
  refine E_istore_n (M := mX12_loudAt) (lv' := [(3, .int 0), (0, .ref 149), (1, .int x1), (2, .int x2)]) 6 rfl dX12_loudAt_5 rfl (Nat.le_of_ble_eq_true rfl) rfl ?_
  refine E_iconst (M := mX12_loudAt) (v := 0) 7 rfl dX12_loudAt_6 (by decide) ?_
  refine E_istore (M := mX12_loudAt) (lv' := [(4, .int 0), (3, .int 0), (0, .ref 149), (1, .int x1), (2, .int x2)]) 9 rfl dX12_loudAt_7 (Nat.le_of_ble_eq_true rfl) rfl ?_
  refine E_sub (M := mX12_loudAt) (lv' := [(0, .ref 149), (1, .int x1), (2, .int x2), (3, .int 0), (4, .int 0)]) [2, 3, 4, 1, 0] rfl ?_
  exact S_X12_loudAt_9 FU x1 x2 0 0 w1.1 w1.2 _ h
theorem C_X12_loudAt {g : Gx} {x1 : Int32} {x2 : Int32} {I : MI} {L : ML} {res : Int32 × MI × ML} (h : f_X12_loudAt x1 x2 I L = some res) : Ent g 6 0 mX12_loudAt [.ref 149, .int x1, .int x2] (I, L) (.inl (some (.int res.1))) (res.2.1, res.2.2) := Ent_of (by decide +kernel) (Nat.le_of_ble_eq_true rfl) (S_X12_loudAt x1 x2 I L _ h)
def f_X12_room_167 (x3 : Int32) (I : MI) (L : ML) : Option (Int32 × MI × ML) := some (x3, I, L)
set_option maxRecDepth 100000 in
theorem S_X12_room_167 {g : Gx} (x3 : Int32) (I : MI) (L : ML) (res : Int32 × MI × ML) (h : f_X12_room_167 x3 I L = some res) : E g 7 0 mX12_room 167 [(3, .int x3)] [] (I, L) (.inl (some (.int res.1))) (res.2.1, res.2.2) := by
  unfold f_X12_room_167 at h
  refine E_iload_n (M := mX12_room) 168 rfl dX12_room_167 rfl 0 rfl ?_
  cases h
  exact E_iret (M := mX12_room) rfl dX12_room_168
def f_X12_room_155 (x1 : Int32) (x2 : Int32) (x3 : Int32) (I : MI) (L : ML) : Option (Int32 × MI × ML) := if x2 = 3 then (Option.bind (f_X12_loudAt x1 0 I L) fun w2 => f_X12_room_167 w2.1 w2.2.1 w2.2.2) else (f_X12_room_167 x3 I L)
set_option maxRecDepth 100000 in
theorem S_X12_room_155 {g : Gx} (x1 : Int32) (x2 : Int32) (x3 : Int32) (I : MI) (L : ML) (res : Int32 × MI × ML) (h : f_X12_room_155 x1 x2 x3 I L = some res) : E g 7 0 mX12_room 155 [(0, .ref 149), (1, .int x1), (2, .int x2), (3, .int x3)] [] (I, L) (.inl (some (.int res.1))) (res.2.1, res.2.2) := by
  unfold f_X12_room_155 at h
  refine E_iload_n (M := mX12_room) 156 rfl dX12_room_155 rfl 2 rfl ?_
  refine E_iconst (M := mX12_room) (v := 3) 157 rfl dX12_room_156 (by decide) ?_
  refine E_icmp_ne (M := mX12_room) 167 160 (by decide) rfl dX12_room_157 (fun c1 => ?_) (fun c1 => ?_)
  · rw [if_neg c1] at h
    refine E_sub (M := mX12_room) (lv' := [(3, .int x3)]) [3] rfl ?_
    exact S_X12_room_167 x3 I L _ h
  · rw [if_pos c1] at h
    refine E_aload_n (M := mX12_room) 161 rfl dX12_room_160 rfl 0 rfl ?_
    refine E_iload_n (M := mX12_room) 162 rfl dX12_room_161 rfl 1 rfl ?_
    refine E_iconst (M := mX12_room) (v := 0) 163 rfl dX12_room_162 (by decide) ?_
    replace h := Option.bind_eq_some_iff.mp h
    obtain ⟨w2, hw2, h⟩ := h
    refine E_cV1 (M := mX12_room) (As := [.int x1, .int 0]) 166 rfl dX12_room_163 shc_149 ck_X12_295 cv_X12_loudAt rfl (by decide) (Nat.le_of_ble_eq_true rfl) (C_X12_loudAt (g := g) hw2) rfl ?_
    refine E_istore_n (M := mX12_room) (lv' := [(3, .int w2.1), (0, .ref 149), (1, .int x1), (2, .int x2)]) 167 rfl dX12_room_166 rfl (Nat.le_of_ble_eq_true rfl) rfl ?_
    refine E_sub (M := mX12_room) (lv' := [(3, .int w2.1)]) [0] rfl ?_
    exact S_X12_room_167 w2.1 w2.2.1 w2.2.2 _ h
def f_X12_room_147 (k121 : Int32 → Int32 → Int32 → Int32 → MI → ML → Option (Int32 × MI × ML)) (x1 : Int32) (x2 : Int32) (x4 : Int32) (y0 : Int32) (y1 : Bool) (I : MI) (L : ML) : Option (Int32 × MI × ML) := k121 x1 x2 (y0 + (bI y1)) (x4 + 1) I L
set_option maxRecDepth 100000 in
theorem S_X12_room_147 {g : Gx} {k121 : Int32 → Int32 → Int32 → Int32 → MI → ML → Option (Int32 × MI × ML)} (hk121 : ∀ (x1z : Int32) (x2z : Int32) (x3z : Int32) (x4z : Int32) (I : MI) (L : ML) (res : Int32 × MI × ML), k121 x1z x2z x3z x4z I L = some res → E g 7 0 mX12_room 121 [(0, .ref 149), (1, .int x1z), (2, .int x2z), (3, .int x3z), (4, .int x4z)] [] (I, L) (.inl (some (.int res.1))) (res.2.1, res.2.2)) (x1 : Int32) (x2 : Int32) (x4 : Int32) (y0 : Int32) (y1 : Bool) (I : MI) (L : ML) (res : Int32 × MI × ML) (h : f_X12_room_147 k121 x1 x2 x4 y0 y1 I L = some res) : E g 7 0 mX12_room 147 [(0, .ref 149), (1, .int x1), (2, .int x2), (4, .int x4)] [.int (bI y1), .int y0] (I, L) (.inl (some (.int res.1))) (res.2.1, res.2.2) := by
  unfold f_X12_room_147 at h
  refine E_iadd (M := mX12_room) 148 rfl dX12_room_147 ?_
  refine E_istore_n (M := mX12_room) (lv' := [(3, .int (y0 + (bI y1))), (0, .ref 149), (1, .int x1), (2, .int x2), (4, .int x4)]) 149 rfl dX12_room_148 rfl (Nat.le_of_ble_eq_true rfl) rfl ?_
  refine E_iinc (M := mX12_room) (j := 4) (v := x4 + 1) (lv' := [(4, .int (x4 + 1)), (3, .int (y0 + (bI y1))), (0, .ref 149), (1, .int x1), (2, .int x2)]) 152 rfl dX12_room_149 rfl rfl (Nat.le_of_ble_eq_true rfl) rfl ?_
  refine E_goto (M := mX12_room) 121 (by decide) dX12_room_152 ?_
  refine E_sub (M := mX12_room) (lv' := [(0, .ref 149), (1, .int x1), (2, .int x2), (3, .int (y0 + (bI y1))), (4, .int (x4 + 1))]) [2, 3, 4, 1, 0] rfl ?_
  exact hk121 x1 x2 (y0 + (bI y1)) (x4 + 1) I L _ h
def f_X12_room_121 : Nat → Int32 → Int32 → Int32 → Int32 → MI → ML → Option (Int32 × MI × ML)
  | 0, _, _, _, _, _, _ => none
  | n + 1, x1, x2, x3, x4, I, L => Option.bind (f_X12_heirs I L) fun v1 => if v1 ≤ x4 then (f_X12_room_155 x1 x2 x3 I L) else (Option.bind (f_X12_ofHeir x4 0 I L) fun v3 => if v3 = x1 then (f_X12_room_147 (f_X12_room_121 n) x1 x2 x4 x3 true I L) else (f_X12_room_147 (f_X12_room_121 n) x1 x2 x4 x3 false I L))
set_option maxRecDepth 100000 in
theorem S_X12_room_121 {g : Gx} : ∀ (n : Nat) (x1 : Int32) (x2 : Int32) (x3 : Int32) (x4 : Int32) (I : MI) (L : ML) (res : Int32 × MI × ML), f_X12_room_121 n x1 x2 x3 x4 I L = some res → E g 7 0 mX12_room 121 [(0, .ref 149), (1, .int x1), (2, .int x2), (3, .int x3), (4, .int x4)] [] (I, L) (.inl (some (.int res.1))) (res.2.1, res.2.2) := by
  intro n
  induction n with
  | zero =>
    intros
    rename_i h
    cases h
  | succ n ih =>
    intro x1 x2 x3 x4 I L res h
    rw [f_X12_room_121] at h
    refine E_iload (M := mX12_room) 123 rfl dX12_room_121 4 rfl ?_
    refine E_aload_n (M := mX12_room) 124 rfl dX12_room_123 rfl 0 rfl ?_
    replace h := Option.bind_eq_some_iff.mp h
    obtain ⟨v1, hv1, h⟩ := h
    refine E_cV1 (M := mX12_room) (As := []) 127 rfl dX12_room_124 shc_149 ck_X12_64 cv_X12_heirs rfl (by decide) (Nat.le_of_ble_eq_true rfl) (C_X12_heirs (g := g) hv1) rfl ?_
    refine E_icmp_ge (M := mX12_room) 155 130 (by decide) rfl dX12_room_127 (fun c2 => ?_) (fun c2 => ?_)
    · rw [if_pos c2] at h
      refine E_sub (M := mX12_room) (lv' := [(0, .ref 149), (1, .int x1), (2, .int x2), (3, .int x3)]) [0, 1, 2, 3] rfl ?_
      exact S_X12_room_155 x1 x2 x3 I L _ h
    · rw [if_neg c2] at h
      refine E_iload_n (M := mX12_room) 131 rfl dX12_room_130 rfl 3 rfl ?_
      refine E_aload_n (M := mX12_room) 132 rfl dX12_room_131 rfl 0 rfl ?_
      refine E_iload (M := mX12_room) 134 rfl dX12_room_132 4 rfl ?_
      refine E_iconst (M := mX12_room) (v := 0) 135 rfl dX12_room_134 (by decide) ?_
      replace h := Option.bind_eq_some_iff.mp h
      obtain ⟨v3, hv3, h⟩ := h
      refine E_cV1 (M := mX12_room) (As := [.int x4, .int 0]) 138 rfl dX12_room_135 shc_149 ck_X12_266 cv_X12_ofHeir rfl (by decide) (Nat.le_of_ble_eq_true rfl) (C_X12_ofHeir (g := g) hv3) rfl ?_
      refine E_iload_n (M := mX12_room) 139 rfl dX12_room_138 rfl 1 rfl ?_
      refine E_icmp_ne (M := mX12_room) 146 142 (by decide) rfl dX12_room_139 (fun c4 => ?_) (fun c4 => ?_)
      · rw [if_neg c4] at h
        refine E_iconst (M := mX12_room) (v := 0) 147 rfl dX12_room_146 (by decide) ?_
        refine E_sub (M := mX12_room) (lv' := [(0, .ref 149), (1, .int x1), (2, .int x2), (4, .int x4)]) [0, 1, 2, 4] rfl ?_
        exact S_X12_room_147 ih x1 x2 x4 x3 false I L _ h
      · rw [if_pos c4] at h
        refine E_iconst (M := mX12_room) (v := 1) 143 rfl dX12_room_142 (by decide) ?_
        refine E_goto (M := mX12_room) 147 (by decide) dX12_room_143 ?_
        refine E_sub (M := mX12_room) (lv' := [(0, .ref 149), (1, .int x1), (2, .int x2), (4, .int x4)]) [0, 1, 2, 4] rfl ?_
        exact S_X12_room_147 ih x1 x2 x4 x3 true I L _ h
def f_X12_room_113 (x1 : Int32) (x2 : Int32) (x3 : Int32) (I : MI) (L : ML) : Option (Int32 × MI × ML) := if x2 = 2 then (f_X12_room_121 FU x1 x2 x3 0 I L) else (f_X12_room_155 x1 x2 x3 I L)
set_option maxRecDepth 100000 in
theorem S_X12_room_113 {g : Gx} (x1 : Int32) (x2 : Int32) (x3 : Int32) (I : MI) (L : ML) (res : Int32 × MI × ML) (h : f_X12_room_113 x1 x2 x3 I L = some res) : E g 7 0 mX12_room 113 [(0, .ref 149), (1, .int x1), (2, .int x2), (3, .int x3)] [] (I, L) (.inl (some (.int res.1))) (res.2.1, res.2.2) := by
  unfold f_X12_room_113 at h
  refine E_iload_n (M := mX12_room) 114 rfl dX12_room_113 rfl 2 rfl ?_
  refine E_iconst (M := mX12_room) (v := 2) 115 rfl dX12_room_114 (by decide) ?_
  refine E_icmp_ne (M := mX12_room) 155 118 (by decide) rfl dX12_room_115 (fun c1 => ?_) (fun c1 => ?_)
  · rw [if_neg c1] at h
    refine E_sub (M := mX12_room) (lv' := [(0, .ref 149), (1, .int x1), (2, .int x2), (3, .int x3)]) [0, 1, 2, 3] rfl ?_
    exact S_X12_room_155 x1 x2 x3 I L _ h
  · rw [if_pos c1] at h
    refine E_iconst (M := mX12_room) (v := 0) 119 rfl dX12_room_118 (by decide) ?_
    refine E_istore (M := mX12_room) (lv' := [(4, .int 0), (0, .ref 149), (1, .int x1), (2, .int x2), (3, .int x3)]) 121 rfl dX12_room_119 (Nat.le_of_ble_eq_true rfl) rfl ?_
    refine E_sub (M := mX12_room) (lv' := [(0, .ref 149), (1, .int x1), (2, .int x2), (3, .int x3), (4, .int 0)]) [1, 2, 3, 4, 0] rfl ?_
    exact S_X12_room_121 FU x1 x2 x3 0 I L _ h
def f_X12_room_105 (k66 : Int32 → Int32 → Int32 → Int32 → MI → ML → Option (Int32 × MI × ML)) (x1 : Int32) (x2 : Int32) (x4 : Int32) (y0 : Int32) (y1 : Bool) (I : MI) (L : ML) : Option (Int32 × MI × ML) := k66 x1 x2 (y0 + (bI y1)) (x4 + 1) I L
set_option maxRecDepth 100000 in
theorem S_X12_room_105 {g : Gx} {k66 : Int32 → Int32 → Int32 → Int32 → MI → ML → Option (Int32 × MI × ML)} (hk66 : ∀ (x1z : Int32) (x2z : Int32) (x3z : Int32) (x4z : Int32) (I : MI) (L : ML) (res : Int32 × MI × ML), k66 x1z x2z x3z x4z I L = some res → E g 7 0 mX12_room 66 [(0, .ref 149), (1, .int x1z), (2, .int x2z), (3, .int x3z), (4, .int x4z)] [] (I, L) (.inl (some (.int res.1))) (res.2.1, res.2.2)) (x1 : Int32) (x2 : Int32) (x4 : Int32) (y0 : Int32) (y1 : Bool) (I : MI) (L : ML) (res : Int32 × MI × ML) (h : f_X12_room_105 k66 x1 x2 x4 y0 y1 I L = some res) : E g 7 0 mX12_room 105 [(0, .ref 149), (1, .int x1), (2, .int x2), (4, .int x4)] [.int (bI y1), .int y0] (I, L) (.inl (some (.int res.1))) (res.2.1, res.2.2) := by
  unfold f_X12_room_105 at h
  refine E_iadd (M := mX12_room) 106 rfl dX12_room_105 ?_
  refine E_istore_n (M := mX12_room) (lv' := [(3, .int (y0 + (bI y1))), (0, .ref 149), (1, .int x1), (2, .int x2), (4, .int x4)]) 107 rfl dX12_room_106 rfl (Nat.le_of_ble_eq_true rfl) rfl ?_
  refine E_iinc (M := mX12_room) (j := 4) (v := x4 + 1) (lv' := [(4, .int (x4 + 1)), (3, .int (y0 + (bI y1))), (0, .ref 149), (1, .int x1), (2, .int x2)]) 110 rfl dX12_room_107 rfl rfl (Nat.le_of_ble_eq_true rfl) rfl ?_
  refine E_goto (M := mX12_room) 66 (by decide) dX12_room_110 ?_
  refine E_sub (M := mX12_room) (lv' := [(0, .ref 149), (1, .int x1), (2, .int x2), (3, .int (y0 + (bI y1))), (4, .int (x4 + 1))]) [2, 3, 4, 1, 0] rfl ?_
  exact hk66 x1 x2 (y0 + (bI y1)) (x4 + 1) I L _ h
def f_X12_room_100 (k66 : Int32 → Int32 → Int32 → Int32 → MI → ML → Option (Int32 × MI × ML)) (x1 : Int32) (x2 : Int32) (x4 : Int32) (y0 : Int32) (I : MI) (L : ML) : Option (Int32 × MI × ML) := f_X12_room_105 k66 x1 x2 x4 y0 true I L
set_option maxRecDepth 100000 in
theorem S_X12_room_100 {g : Gx} {k66 : Int32 → Int32 → Int32 → Int32 → MI → ML → Option (Int32 × MI × ML)} (hk66 : ∀ (x1z : Int32) (x2z : Int32) (x3z : Int32) (x4z : Int32) (I : MI) (L : ML) (res : Int32 × MI × ML), k66 x1z x2z x3z x4z I L = some res → E g 7 0 mX12_room 66 [(0, .ref 149), (1, .int x1z), (2, .int x2z), (3, .int x3z), (4, .int x4z)] [] (I, L) (.inl (some (.int res.1))) (res.2.1, res.2.2)) (x1 : Int32) (x2 : Int32) (x4 : Int32) (y0 : Int32) (I : MI) (L : ML) (res : Int32 × MI × ML) (h : f_X12_room_100 k66 x1 x2 x4 y0 I L = some res) : E g 7 0 mX12_room 100 [(0, .ref 149), (1, .int x1), (2, .int x2), (4, .int x4)] [.int y0] (I, L) (.inl (some (.int res.1))) (res.2.1, res.2.2) := by
  unfold f_X12_room_100 at h
  refine E_iconst (M := mX12_room) (v := 1) 101 rfl dX12_room_100 (by decide) ?_
  refine E_goto (M := mX12_room) 105 (by decide) dX12_room_101 ?_
  refine E_sub (M := mX12_room) (lv' := [(0, .ref 149), (1, .int x1), (2, .int x2), (4, .int x4)]) [0, 1, 2, 3] rfl ?_
  exact S_X12_room_105 hk66 x1 x2 x4 y0 true I L _ h
def f_X12_room_66 : Nat → Int32 → Int32 → Int32 → Int32 → MI → ML → Option (Int32 × MI × ML)
  | 0, _, _, _, _, _, _ => none
  | n + 1, x1, x2, x3, x4, I, L => Option.bind (ldI I 150 2143 1) fun v1 => if v1 ≤ x4 then (f_X12_room_113 x1 x2 x3 I L) else (Option.bind (f_X12_ofDoor x4 0 I L) fun v3 => if v3 = x1 then (f_X12_room_100 (f_X12_room_66 n) x1 x2 x4 x3 I L) else (Option.bind (f_X12_ofDoor x4 1 I L) fun v5 => if v5 = x1 then (f_X12_room_100 (f_X12_room_66 n) x1 x2 x4 x3 I L) else (f_X12_room_105 (f_X12_room_66 n) x1 x2 x4 x3 false I L)))
set_option maxRecDepth 100000 in
theorem S_X12_room_66 {g : Gx} : ∀ (n : Nat) (x1 : Int32) (x2 : Int32) (x3 : Int32) (x4 : Int32) (I : MI) (L : ML) (res : Int32 × MI × ML), f_X12_room_66 n x1 x2 x3 x4 I L = some res → E g 7 0 mX12_room 66 [(0, .ref 149), (1, .int x1), (2, .int x2), (3, .int x3), (4, .int x4)] [] (I, L) (.inl (some (.int res.1))) (res.2.1, res.2.2) := by
  intro n
  induction n with
  | zero =>
    intros
    rename_i h
    cases h
  | succ n ih =>
    intro x1 x2 x3 x4 I L res h
    rw [f_X12_room_66] at h
    refine E_iload (M := mX12_room) 68 rfl dX12_room_66 4 rfl ?_
    refine E_aload_n (M := mX12_room) 69 rfl dX12_room_68 rfl 0 rfl ?_
    refine E_gR (M := mX12_room) 150 72 rfl dX12_room_69 shc_149 fl_X12_13 rfl (by decide) (by decide) ?_
    refine E_iconst (M := mX12_room) (v := 1) 73 rfl dX12_room_72 (by decide) ?_
    replace h := Option.bind_eq_some_iff.mp h
    obtain ⟨v1, hv1, h⟩ := h
    refine E_ldI (M := mX12_room) 74 rfl dX12_room_73 shc_150 hv1 ?_
    refine E_icmp_ge (M := mX12_room) 113 77 (by decide) rfl dX12_room_74 (fun c2 => ?_) (fun c2 => ?_)
    · rw [if_pos c2] at h
      refine E_sub (M := mX12_room) (lv' := [(0, .ref 149), (1, .int x1), (2, .int x2), (3, .int x3)]) [0, 1, 2, 3] rfl ?_
      exact S_X12_room_113 x1 x2 x3 I L _ h
    · rw [if_neg c2] at h
      refine E_iload_n (M := mX12_room) 78 rfl dX12_room_77 rfl 3 rfl ?_
      refine E_aload_n (M := mX12_room) 79 rfl dX12_room_78 rfl 0 rfl ?_
      refine E_iload (M := mX12_room) 81 rfl dX12_room_79 4 rfl ?_
      refine E_iconst (M := mX12_room) (v := 0) 82 rfl dX12_room_81 (by decide) ?_
      replace h := Option.bind_eq_some_iff.mp h
      obtain ⟨v3, hv3, h⟩ := h
      refine E_cV1 (M := mX12_room) (As := [.int x4, .int 0]) 85 rfl dX12_room_82 shc_149 ck_X12_249 cv_X12_ofDoor rfl (by decide) (Nat.le_of_ble_eq_true rfl) (C_X12_ofDoor (g := g) hv3) rfl ?_
      refine E_iload_n (M := mX12_room) 86 rfl dX12_room_85 rfl 1 rfl ?_
      refine E_icmp_eq (M := mX12_room) 100 89 (by decide) rfl dX12_room_86 (fun c4 => ?_) (fun c4 => ?_)
      · rw [if_pos c4] at h
        refine E_sub (M := mX12_room) (lv' := [(0, .ref 149), (1, .int x1), (2, .int x2), (4, .int x4)]) [0, 1, 2, 4] rfl ?_
        exact S_X12_room_100 ih x1 x2 x4 x3 I L _ h
      · rw [if_neg c4] at h
        refine E_aload_n (M := mX12_room) 90 rfl dX12_room_89 rfl 0 rfl ?_
        refine E_iload (M := mX12_room) 92 rfl dX12_room_90 4 rfl ?_
        refine E_iconst (M := mX12_room) (v := 1) 93 rfl dX12_room_92 (by decide) ?_
        replace h := Option.bind_eq_some_iff.mp h
        obtain ⟨v5, hv5, h⟩ := h
        refine E_cV1 (M := mX12_room) (As := [.int x4, .int 1]) 96 rfl dX12_room_93 shc_149 ck_X12_249 cv_X12_ofDoor rfl (by decide) (Nat.le_of_ble_eq_true rfl) (C_X12_ofDoor (g := g) hv5) rfl ?_
        refine E_iload_n (M := mX12_room) 97 rfl dX12_room_96 rfl 1 rfl ?_
        refine E_icmp_ne (M := mX12_room) 104 100 (by decide) rfl dX12_room_97 (fun c6 => ?_) (fun c6 => ?_)
        · rw [if_neg c6] at h
          refine E_iconst (M := mX12_room) (v := 0) 105 rfl dX12_room_104 (by decide) ?_
          refine E_sub (M := mX12_room) (lv' := [(0, .ref 149), (1, .int x1), (2, .int x2), (4, .int x4)]) [0, 1, 2, 4] rfl ?_
          exact S_X12_room_105 ih x1 x2 x4 x3 false I L _ h
        · rw [if_pos c6] at h
          refine E_sub (M := mX12_room) (lv' := [(0, .ref 149), (1, .int x1), (2, .int x2), (4, .int x4)]) [0, 1, 2, 4] rfl ?_
          exact S_X12_room_100 ih x1 x2 x4 x3 I L _ h
def f_X12_room_40 (I : MI) (L : ML) : Option (Int32 × MI × ML) := some (0, I, L)
set_option maxRecDepth 100000 in
theorem S_X12_room_40 {g : Gx} (I : MI) (L : ML) (res : Int32 × MI × ML) (h : f_X12_room_40 I L = some res) : E g 7 0 mX12_room 40 [] [] (I, L) (.inl (some (.int res.1))) (res.2.1, res.2.2) := by
  unfold f_X12_room_40 at h
  refine E_iconst (M := mX12_room) (v := 0) 41 rfl dX12_room_40 (by decide) ?_
  cases h
  exact E_iret (M := mX12_room) rfl dX12_room_41
def f_X12_room_33 (x1 : Int32) (x2 : Int32) (y1 : Bool) (I : MI) (L : ML) : Option (Int32 × MI × ML) := Option.bind (f_X12_throwsIf y1 2 I L) fun w1 => if w1.1 = true then (f_X12_room_40 w1.2.1 w1.2.2) else (if x2 = 0 then (Option.bind (ldI w1.2.1 150 2143 (15 + x1)) fun v5 => some (v5, w1.2.1, w1.2.2)) else (if x2 = 1 then (f_X12_room_66 FU x1 x2 0 0 w1.2.1 w1.2.2) else (f_X12_room_113 x1 x2 0 w1.2.1 w1.2.2)))
set_option maxRecDepth 100000 in
theorem S_X12_room_33 {g : Gx} (x1 : Int32) (x2 : Int32) (y1 : Bool) (I : MI) (L : ML) (res : Int32 × MI × ML) (h : f_X12_room_33 x1 x2 y1 I L = some res) : E g 7 0 mX12_room 33 [(0, .ref 149), (1, .int x1), (2, .int x2)] [.int (bI y1), .ref 149] (I, L) (.inl (some (.int res.1))) (res.2.1, res.2.2) := by
  unfold f_X12_room_33 at h
  refine E_iconst (M := mX12_room) (v := 2) 34 rfl dX12_room_33 (by decide) ?_
  replace h := Option.bind_eq_some_iff.mp h
  obtain ⟨w1, hw1, h⟩ := h
  refine E_cV1 (M := mX12_room) (As := [.int (bI y1), .int 2]) 37 rfl dX12_room_34 shc_149 ck_X12_245 cv_X12_throwsIf rfl (by decide) (Nat.le_of_ble_eq_true rfl) (C_X12_throwsIf (g := g) hw1) rfl ?_
  refine E_if_eqB (M := mX12_room) 42 40 (by decide) rfl dX12_room_37 (fun c2 => ?_) (fun c2 => ?_)
  · rw [if_neg (by rw [c2]; decide)] at h
    refine E_iconst (M := mX12_room) (v := 0) 43 rfl dX12_room_42 (by decide) ?_
    refine E_istore_n (M := mX12_room) (lv' := [(3, .int 0), (0, .ref 149), (1, .int x1), (2, .int x2)]) 44 rfl dX12_room_43 rfl (Nat.le_of_ble_eq_true rfl) rfl ?_
    refine E_iload_n (M := mX12_room) 45 rfl dX12_room_44 rfl 3 rfl ?_
    refine E_if_ne (M := mX12_room) 58 48 (by decide) rfl dX12_room_45 (fun c3 => ?_) (fun c3 => ?_)
    · rw [if_neg c3] at h
      refine E_iload_n (M := mX12_room) 59 rfl dX12_room_58 rfl 3 rfl ?_
      refine E_iconst (M := mX12_room) (v := 1) 60 rfl dX12_room_59 (by decide) ?_
      refine E_icmp_ne (M := mX12_room) 113 63 (by decide) rfl dX12_room_60 (fun c4 => ?_) (fun c4 => ?_)
      · rw [if_neg c4] at h
        refine E_sub (M := mX12_room) (lv' := [(0, .ref 149), (1, .int x1), (2, .int x2), (3, .int 0)]) [1, 2, 3, 0] rfl ?_
        exact S_X12_room_113 x1 x2 0 w1.2.1 w1.2.2 _ h
      · rw [if_pos c4] at h
        refine E_iconst (M := mX12_room) (v := 0) 64 rfl dX12_room_63 (by decide) ?_
        refine E_istore (M := mX12_room) (lv' := [(4, .int 0), (3, .int 0), (0, .ref 149), (1, .int x1), (2, .int x2)]) 66 rfl dX12_room_64 (Nat.le_of_ble_eq_true rfl) rfl ?_
        refine E_sub (M := mX12_room) (lv' := [(0, .ref 149), (1, .int x1), (2, .int x2), (3, .int 0), (4, .int 0)]) [2, 3, 4, 1, 0] rfl ?_
        exact S_X12_room_66 FU x1 x2 0 0 w1.2.1 w1.2.2 _ h
    · rw [if_pos c3] at h
      refine E_aload_n (M := mX12_room) 49 rfl dX12_room_48 rfl 1 rfl ?_
      refine E_gR (M := mX12_room) 150 52 rfl dX12_room_49 shc_149 fl_X12_13 rfl (by decide) (by decide) ?_
      refine E_bipush (M := mX12_room) (v := 15) 54 rfl dX12_room_52 (by decide) ?_
      refine E_iload_n (M := mX12_room) 55 rfl dX12_room_54 rfl 2 rfl ?_
      refine E_iadd (M := mX12_room) 56 rfl dX12_room_55 ?_
      replace h := Option.bind_eq_some_iff.mp h
      obtain ⟨v5, hv5, h⟩ := h
      refine E_ldI (M := mX12_room) 57 rfl dX12_room_56 shc_150 hv5 ?_
      cases h
      exact E_iret (M := mX12_room) rfl dX12_room_57
  · rw [if_pos c2] at h
    refine E_sub (M := mX12_room) (lv' := []) [] rfl ?_
    exact S_X12_room_40 w1.2.1 w1.2.2 _ h
def f_X12_room (x1 : Int32) (x2 : Int32) (I : MI) (L : ML) : Option (Int32 × MI × ML) := Option.bind (pfI I 149 0 0) fun I1 => Option.bind (f_X12_noRoom x1 I1 L) fun v2 => Option.bind (f_X12_throwsIf v2 1 I1 L) fun w3 => if w3.1 = true then (f_X12_room_40 w3.2.1 w3.2.2) else (Option.bind (f_X12_in x2 0 3 w3.2.1 w3.2.2) fun v5 => if v5 = true then (f_X12_room_33 x1 x2 false w3.2.1 w3.2.2) else (f_X12_room_33 x1 x2 true w3.2.1 w3.2.2))
set_option maxRecDepth 100000 in
theorem S_X12_room {g : Gx} (x1 : Int32) (x2 : Int32) (I : MI) (L : ML) (res : Int32 × MI × ML) (h : f_X12_room x1 x2 I L = some res) : E g 7 0 mX12_room 0 [(0, .ref 149), (1, .int x1), (2, .int x2)] [] (I, L) (.inl (some (.int res.1))) (res.2.1, res.2.2) := by
  unfold f_X12_room at h
  refine E_aload_n (M := mX12_room) 1 rfl dX12_room_0 rfl 0 rfl ?_
  refine E_iconst (M := mX12_room) (v := 0) 2 rfl dX12_room_1 (by decide) ?_
  replace h := Option.bind_eq_some_iff.mp h
  obtain ⟨I1, hI1, h⟩ := h
  refine E_pfI (M := mX12_room) 5 rfl dX12_room_2 shc_149 fl_X12_3 rfl hI1 ?_
  refine E_aload_n (M := mX12_room) 6 rfl dX12_room_5 rfl 0 rfl ?_
  refine E_aload_n (M := mX12_room) 7 rfl dX12_room_6 rfl 0 rfl ?_
  refine E_iload_n (M := mX12_room) 8 rfl dX12_room_7 rfl 1 rfl ?_
  replace h := Option.bind_eq_some_iff.mp h
  obtain ⟨v2, hv2, h⟩ := h
  refine E_cV1 (M := mX12_room) (As := [.int x1]) 11 rfl dX12_room_8 shc_149 ck_X12_292 cv_X12_noRoom rfl (by decide) (Nat.le_of_ble_eq_true rfl) (C_X12_noRoom (g := g) hv2) rfl ?_
  refine E_iconst (M := mX12_room) (v := 1) 12 rfl dX12_room_11 (by decide) ?_
  replace h := Option.bind_eq_some_iff.mp h
  obtain ⟨w3, hw3, h⟩ := h
  refine E_cV1 (M := mX12_room) (As := [.int (bI v2), .int 1]) 15 rfl dX12_room_12 shc_149 ck_X12_245 cv_X12_throwsIf rfl (by decide) (Nat.le_of_ble_eq_true rfl) (C_X12_throwsIf (g := g) hw3) rfl ?_
  refine E_if_neB (M := mX12_room) 40 18 (by decide) rfl dX12_room_15 (fun c4 => ?_) (fun c4 => ?_)
  · rw [if_pos c4] at h
    refine E_sub (M := mX12_room) (lv' := []) [] rfl ?_
    exact S_X12_room_40 w3.2.1 w3.2.2 _ h
  · rw [if_neg (by rw [c4]; decide)] at h
    refine E_aload_n (M := mX12_room) 19 rfl dX12_room_18 rfl 0 rfl ?_
    refine E_iload_n (M := mX12_room) 20 rfl dX12_room_19 rfl 2 rfl ?_
    refine E_iconst (M := mX12_room) (v := 0) 21 rfl dX12_room_20 (by decide) ?_
    refine E_iconst (M := mX12_room) (v := 3) 22 rfl dX12_room_21 (by decide) ?_
    replace h := Option.bind_eq_some_iff.mp h
    obtain ⟨v5, hv5, h⟩ := h
    refine E_cS1 (M := mX12_room) (As := [.int x2, .int 0, .int 3]) 25 rfl dX12_room_22 ck_X12_60 ss_X12_in rfl (by decide) (Nat.le_of_ble_eq_true rfl) (C_X12_in (g := g) hv5) rfl ?_
    refine E_if_neB (M := mX12_room) 32 28 (by decide) rfl dX12_room_25 (fun c6 => ?_) (fun c6 => ?_)
    · rw [if_pos c6] at h
      refine E_iconst (M := mX12_room) (v := 0) 33 rfl dX12_room_32 (by decide) ?_
      refine E_sub (M := mX12_room) (lv' := [(0, .ref 149), (1, .int x1), (2, .int x2)]) [0, 1, 2] rfl ?_
      exact S_X12_room_33 x1 x2 false w3.2.1 w3.2.2 _ h
    · rw [if_neg (by rw [c6]; decide)] at h
      refine E_iconst (M := mX12_room) (v := 1) 29 rfl dX12_room_28 (by decide) ?_
      refine E_goto (M := mX12_room) 33 (by decide) dX12_room_29 ?_
      refine E_sub (M := mX12_room) (lv' := [(0, .ref 149), (1, .int x1), (2, .int x2)]) [0, 1, 2] rfl ?_
      exact S_X12_room_33 x1 x2 true w3.2.1 w3.2.2 _ h
theorem C_X12_room {g : Gx} {x1 : Int32} {x2 : Int32} {I : MI} {L : ML} {res : Int32 × MI × ML} (h : f_X12_room x1 x2 I L = some res) : Ent g 7 0 mX12_room [.ref 149, .int x1, .int x2] (I, L) (.inl (some (.int res.1))) (res.2.1, res.2.2) := Ent_of (by decide +kernel) (Nat.le_of_ble_eq_true rfl) (S_X12_room x1 x2 I L _ h)
def f_X12_heir_91 (k63 : Int32 → Int32 → Int32 → MI → ML → Option (Int32 × MI × ML)) (x1 : Int32) (x4 : Int32) (y0 : Int32) (y1 : Int32) (I : MI) (L : ML) : Option (Int32 × MI × ML) := k63 x1 (y0 ||| y1) (x4 + 1) I L
set_option maxRecDepth 100000 in
theorem S_X12_heir_91 {g : Gx} {k63 : Int32 → Int32 → Int32 → MI → ML → Option (Int32 × MI × ML)} (hk63 : ∀ (x1z : Int32) (x3z : Int32) (x4z : Int32) (I : MI) (L : ML) (res : Int32 × MI × ML), k63 x1z x3z x4z I L = some res → E g 7 0 mX12_heir 63 [(0, .ref 149), (1, .int x1z), (3, .int x3z), (4, .int x4z)] [] (I, L) (.inl (some (.int res.1))) (res.2.1, res.2.2)) (x1 : Int32) (x4 : Int32) (y0 : Int32) (y1 : Int32) (I : MI) (L : ML) (res : Int32 × MI × ML) (h : f_X12_heir_91 k63 x1 x4 y0 y1 I L = some res) : E g 7 0 mX12_heir 91 [(0, .ref 149), (1, .int x1), (4, .int x4)] [.int y1, .int y0] (I, L) (.inl (some (.int res.1))) (res.2.1, res.2.2) := by
  unfold f_X12_heir_91 at h
  refine E_ior (M := mX12_heir) 92 rfl dX12_heir_91 ?_
  refine E_istore_n (M := mX12_heir) (lv' := [(3, .int (y0 ||| y1)), (0, .ref 149), (1, .int x1), (4, .int x4)]) 93 rfl dX12_heir_92 rfl (Nat.le_of_ble_eq_true rfl) rfl ?_
  refine E_iinc (M := mX12_heir) (j := 3) (v := x4 + 1) (lv' := [(4, .int (x4 + 1)), (3, .int (y0 ||| y1)), (0, .ref 149), (1, .int x1)]) 96 rfl dX12_heir_93 rfl rfl (Nat.le_of_ble_eq_true rfl) rfl ?_
  refine E_goto (M := mX12_heir) 63 (by decide) dX12_heir_96 ?_
  refine E_sub (M := mX12_heir) (lv' := [(0, .ref 149), (1, .int x1), (3, .int (y0 ||| y1)), (4, .int (x4 + 1))]) [2, 3, 1, 0] rfl ?_
  exact hk63 x1 (y0 ||| y1) (x4 + 1) I L _ h
def f_X12_heir_63 : Nat → Int32 → Int32 → Int32 → MI → ML → Option (Int32 × MI × ML)
  | 0, _, _, _, _, _ => none
  | n + 1, x1, x3, x4, I, L => Option.bind (f_X12_noises I L) fun v1 => if v1 ≤ x4 then (some (x3, I, L)) else (Option.bind (f_X12_isHearing x1 x4 I L) fun v3 => if v3 = true then (f_X12_heir_91 (f_X12_heir_63 n) x1 x4 x3 (1 <<< (x4 &&& 31)) I L) else (f_X12_heir_91 (f_X12_heir_63 n) x1 x4 x3 0 I L))
set_option maxRecDepth 100000 in
theorem S_X12_heir_63 {g : Gx} : ∀ (n : Nat) (x1 : Int32) (x3 : Int32) (x4 : Int32) (I : MI) (L : ML) (res : Int32 × MI × ML), f_X12_heir_63 n x1 x3 x4 I L = some res → E g 7 0 mX12_heir 63 [(0, .ref 149), (1, .int x1), (3, .int x3), (4, .int x4)] [] (I, L) (.inl (some (.int res.1))) (res.2.1, res.2.2) := by
  intro n
  induction n with
  | zero =>
    intros
    rename_i h
    cases h
  | succ n ih =>
    intro x1 x3 x4 I L res h
    rw [f_X12_heir_63] at h
    refine E_iload (M := mX12_heir) 65 rfl dX12_heir_63 3 rfl ?_
    refine E_aload_n (M := mX12_heir) 66 rfl dX12_heir_65 rfl 0 rfl ?_
    replace h := Option.bind_eq_some_iff.mp h
    obtain ⟨v1, hv1, h⟩ := h
    refine E_cV1 (M := mX12_heir) (As := []) 69 rfl dX12_heir_66 shc_149 ck_X12_67 cv_X12_noises rfl (by decide) (Nat.le_of_ble_eq_true rfl) (C_X12_noises (g := g) hv1) rfl ?_
    refine E_icmp_ge (M := mX12_heir) 99 72 (by decide) rfl dX12_heir_69 (fun c2 => ?_) (fun c2 => ?_)
    · rw [if_pos c2] at h
      refine E_iload_n (M := mX12_heir) 100 rfl dX12_heir_99 rfl 2 rfl ?_
      cases h
      exact E_iret (M := mX12_heir) rfl dX12_heir_100
    · rw [if_neg c2] at h
      refine E_iload_n (M := mX12_heir) 73 rfl dX12_heir_72 rfl 2 rfl ?_
      refine E_aload_n (M := mX12_heir) 74 rfl dX12_heir_73 rfl 0 rfl ?_
      refine E_iload_n (M := mX12_heir) 75 rfl dX12_heir_74 rfl 1 rfl ?_
      refine E_iload (M := mX12_heir) 77 rfl dX12_heir_75 3 rfl ?_
      replace h := Option.bind_eq_some_iff.mp h
      obtain ⟨v3, hv3, h⟩ := h
      refine E_cV1 (M := mX12_heir) (As := [.int x1, .int x4]) 80 rfl dX12_heir_77 shc_149 ck_X12_272 cv_X12_isHearing rfl (by decide) (Nat.le_of_ble_eq_true rfl) (C_X12_isHearing (g := g) hv3) rfl ?_
      refine E_if_eqB (M := mX12_heir) 90 83 (by decide) rfl dX12_heir_80 (fun c4 => ?_) (fun c4 => ?_)
      · rw [if_neg (by rw [c4]; decide)] at h
        refine E_iconst (M := mX12_heir) (v := 0) 91 rfl dX12_heir_90 (by decide) ?_
        refine E_sub (M := mX12_heir) (lv' := [(0, .ref 149), (1, .int x1), (4, .int x4)]) [0, 1, 3] rfl ?_
        exact S_X12_heir_91 ih x1 x4 x3 0 I L _ h
      · rw [if_pos c4] at h
        refine E_iconst (M := mX12_heir) (v := 1) 84 rfl dX12_heir_83 (by decide) ?_
        refine E_iload (M := mX12_heir) 86 rfl dX12_heir_84 3 rfl ?_
        refine E_ishl (M := mX12_heir) 87 rfl dX12_heir_86 ?_
        refine E_goto (M := mX12_heir) 91 (by decide) dX12_heir_87 ?_
        refine E_sub (M := mX12_heir) (lv' := [(0, .ref 149), (1, .int x1), (4, .int x4)]) [0, 1, 3] rfl ?_
        exact S_X12_heir_91 ih x1 x4 x3 (1 <<< (x4 &&& 31)) I L _ h
def f_X12_heir_40 (I : MI) (L : ML) : Option (Int32 × MI × ML) := some (0, I, L)
set_option maxRecDepth 100000 in
theorem S_X12_heir_40 {g : Gx} (I : MI) (L : ML) (res : Int32 × MI × ML) (h : f_X12_heir_40 I L = some res) : E g 7 0 mX12_heir 40 [] [] (I, L) (.inl (some (.int res.1))) (res.2.1, res.2.2) := by
  unfold f_X12_heir_40 at h
  refine E_iconst (M := mX12_heir) (v := 0) 41 rfl dX12_heir_40 (by decide) ?_
  cases h
  exact E_iret (M := mX12_heir) rfl dX12_heir_41
def f_X12_heir_33 (x1 : Int32) (x2 : Int32) (y1 : Bool) (I : MI) (L : ML) : Option (Int32 × MI × ML) := Option.bind (f_X12_throwsIf y1 2 I L) fun w1 => if w1.1 = true then (f_X12_heir_40 w1.2.1 w1.2.2) else (if 3 ≤ x2 then (Option.bind (f_X12_spreads w1.2.1 w1.2.2) fun w4 => f_X12_heir_63 FU x1 0 0 w4.1 w4.2) else (Option.bind (f_X12_ofHeir x1 x2 w1.2.1 w1.2.2) fun v5 => some (v5, w1.2.1, w1.2.2)))
set_option maxRecDepth 100000 in
theorem S_X12_heir_33 {g : Gx} (x1 : Int32) (x2 : Int32) (y1 : Bool) (I : MI) (L : ML) (res : Int32 × MI × ML) (h : f_X12_heir_33 x1 x2 y1 I L = some res) : E g 7 0 mX12_heir 33 [(0, .ref 149), (1, .int x1), (2, .int x2)] [.int (bI y1), .ref 149] (I, L) (.inl (some (.int res.1))) (res.2.1, res.2.2) := by
  unfold f_X12_heir_33 at h
  refine E_iconst (M := mX12_heir) (v := 2) 34 rfl dX12_heir_33 (by decide) ?_
  replace h := Option.bind_eq_some_iff.mp h
  obtain ⟨w1, hw1, h⟩ := h
  refine E_cV1 (M := mX12_heir) (As := [.int (bI y1), .int 2]) 37 rfl dX12_heir_34 shc_149 ck_X12_245 cv_X12_throwsIf rfl (by decide) (Nat.le_of_ble_eq_true rfl) (C_X12_throwsIf (g := g) hw1) rfl ?_
  refine E_if_eqB (M := mX12_heir) 42 40 (by decide) rfl dX12_heir_37 (fun c2 => ?_) (fun c2 => ?_)
  · rw [if_neg (by rw [c2]; decide)] at h
    refine E_iload_n (M := mX12_heir) 43 rfl dX12_heir_42 rfl 2 rfl ?_
    refine E_iconst (M := mX12_heir) (v := 3) 44 rfl dX12_heir_43 (by decide) ?_
    refine E_icmp_ge (M := mX12_heir) 54 47 (by decide) rfl dX12_heir_44 (fun c3 => ?_) (fun c3 => ?_)
    · rw [if_pos c3] at h
      refine E_aload_n (M := mX12_heir) 55 rfl dX12_heir_54 rfl 0 rfl ?_
      replace h := Option.bind_eq_some_iff.mp h
      obtain ⟨w4, hw4, h⟩ := h
      refine E_cV0 (M := mX12_heir) (As := []) 58 rfl dX12_heir_55 shc_149 ck_X12_298 cv_X12_spreads rfl (by decide) (Nat.le_of_ble_eq_true rfl) (C_X12_spreads (g := g) hw4) rfl ?_
      refine E_iconst (M := mX12_heir) (v := 0) 59 rfl dX12_heir_58 (by decide) ?_
      refine E_istore_n (M := mX12_heir) (lv' := [(3, .int 0), (0, .ref 149), (1, .int x1), (2, .int x2)]) 60 rfl dX12_heir_59 rfl (Nat.le_of_ble_eq_true rfl) rfl ?_
      refine E_iconst (M := mX12_heir) (v := 0) 61 rfl dX12_heir_60 (by decide) ?_
      refine E_istore (M := mX12_heir) (lv' := [(4, .int 0), (3, .int 0), (0, .ref 149), (1, .int x1), (2, .int x2)]) 63 rfl dX12_heir_61 (Nat.le_of_ble_eq_true rfl) rfl ?_
      refine E_sub (M := mX12_heir) (lv' := [(0, .ref 149), (1, .int x1), (3, .int 0), (4, .int 0)]) [2, 3, 1, 0] rfl ?_
      exact S_X12_heir_63 FU x1 0 0 w4.1 w4.2 _ h
    · rw [if_neg c3] at h
      refine E_aload_n (M := mX12_heir) 48 rfl dX12_heir_47 rfl 0 rfl ?_
      refine E_iload_n (M := mX12_heir) 49 rfl dX12_heir_48 rfl 1 rfl ?_
      refine E_iload_n (M := mX12_heir) 50 rfl dX12_heir_49 rfl 2 rfl ?_
      replace h := Option.bind_eq_some_iff.mp h
      obtain ⟨v5, hv5, h⟩ := h
      refine E_cV1 (M := mX12_heir) (As := [.int x1, .int x2]) 53 rfl dX12_heir_50 shc_149 ck_X12_266 cv_X12_ofHeir rfl (by decide) (Nat.le_of_ble_eq_true rfl) (C_X12_ofHeir (g := g) hv5) rfl ?_
      cases h
      exact E_iret (M := mX12_heir) rfl dX12_heir_53
  · rw [if_pos c2] at h
    refine E_sub (M := mX12_heir) (lv' := []) [] rfl ?_
    exact S_X12_heir_40 w1.2.1 w1.2.2 _ h
def f_X12_heir (x1 : Int32) (x2 : Int32) (I : MI) (L : ML) : Option (Int32 × MI × ML) := Option.bind (pfI I 149 0 0) fun I1 => Option.bind (f_X12_noHeir x1 I1 L) fun v2 => Option.bind (f_X12_throwsIf v2 1 I1 L) fun w3 => if w3.1 = true then (f_X12_heir_40 w3.2.1 w3.2.2) else (Option.bind (f_X12_in x2 0 3 w3.2.1 w3.2.2) fun v5 => if v5 = true then (f_X12_heir_33 x1 x2 false w3.2.1 w3.2.2) else (f_X12_heir_33 x1 x2 true w3.2.1 w3.2.2))
set_option maxRecDepth 100000 in
theorem S_X12_heir {g : Gx} (x1 : Int32) (x2 : Int32) (I : MI) (L : ML) (res : Int32 × MI × ML) (h : f_X12_heir x1 x2 I L = some res) : E g 7 0 mX12_heir 0 [(0, .ref 149), (1, .int x1), (2, .int x2)] [] (I, L) (.inl (some (.int res.1))) (res.2.1, res.2.2) := by
  unfold f_X12_heir at h
  refine E_aload_n (M := mX12_heir) 1 rfl dX12_heir_0 rfl 0 rfl ?_
  refine E_iconst (M := mX12_heir) (v := 0) 2 rfl dX12_heir_1 (by decide) ?_
  replace h := Option.bind_eq_some_iff.mp h
  obtain ⟨I1, hI1, h⟩ := h
  refine E_pfI (M := mX12_heir) 5 rfl dX12_heir_2 shc_149 fl_X12_3 rfl hI1 ?_
  refine E_aload_n (M := mX12_heir) 6 rfl dX12_heir_5 rfl 0 rfl ?_
  refine E_aload_n (M := mX12_heir) 7 rfl dX12_heir_6 rfl 0 rfl ?_
  refine E_iload_n (M := mX12_heir) 8 rfl dX12_heir_7 rfl 1 rfl ?_
  replace h := Option.bind_eq_some_iff.mp h
  obtain ⟨v2, hv2, h⟩ := h
  refine E_cV1 (M := mX12_heir) (As := [.int x1]) 11 rfl dX12_heir_8 shc_149 ck_X12_301 cv_X12_noHeir rfl (by decide) (Nat.le_of_ble_eq_true rfl) (C_X12_noHeir (g := g) hv2) rfl ?_
  refine E_iconst (M := mX12_heir) (v := 1) 12 rfl dX12_heir_11 (by decide) ?_
  replace h := Option.bind_eq_some_iff.mp h
  obtain ⟨w3, hw3, h⟩ := h
  refine E_cV1 (M := mX12_heir) (As := [.int (bI v2), .int 1]) 15 rfl dX12_heir_12 shc_149 ck_X12_245 cv_X12_throwsIf rfl (by decide) (Nat.le_of_ble_eq_true rfl) (C_X12_throwsIf (g := g) hw3) rfl ?_
  refine E_if_neB (M := mX12_heir) 40 18 (by decide) rfl dX12_heir_15 (fun c4 => ?_) (fun c4 => ?_)
  · rw [if_pos c4] at h
    refine E_sub (M := mX12_heir) (lv' := []) [] rfl ?_
    exact S_X12_heir_40 w3.2.1 w3.2.2 _ h
  · rw [if_neg (by rw [c4]; decide)] at h
    refine E_aload_n (M := mX12_heir) 19 rfl dX12_heir_18 rfl 0 rfl ?_
    refine E_iload_n (M := mX12_heir) 20 rfl dX12_heir_19 rfl 2 rfl ?_
    refine E_iconst (M := mX12_heir) (v := 0) 21 rfl dX12_heir_20 (by decide) ?_
    refine E_iconst (M := mX12_heir) (v := 3) 22 rfl dX12_heir_21 (by decide) ?_
    replace h := Option.bind_eq_some_iff.mp h
    obtain ⟨v5, hv5, h⟩ := h
    refine E_cS1 (M := mX12_heir) (As := [.int x2, .int 0, .int 3]) 25 rfl dX12_heir_22 ck_X12_60 ss_X12_in rfl (by decide) (Nat.le_of_ble_eq_true rfl) (C_X12_in (g := g) hv5) rfl ?_
    refine E_if_neB (M := mX12_heir) 32 28 (by decide) rfl dX12_heir_25 (fun c6 => ?_) (fun c6 => ?_)
    · rw [if_pos c6] at h
      refine E_iconst (M := mX12_heir) (v := 0) 33 rfl dX12_heir_32 (by decide) ?_
      refine E_sub (M := mX12_heir) (lv' := [(0, .ref 149), (1, .int x1), (2, .int x2)]) [0, 1, 2] rfl ?_
      exact S_X12_heir_33 x1 x2 false w3.2.1 w3.2.2 _ h
    · rw [if_neg (by rw [c6]; decide)] at h
      refine E_iconst (M := mX12_heir) (v := 1) 29 rfl dX12_heir_28 (by decide) ?_
      refine E_goto (M := mX12_heir) 33 (by decide) dX12_heir_29 ?_
      refine E_sub (M := mX12_heir) (lv' := [(0, .ref 149), (1, .int x1), (2, .int x2)]) [0, 1, 2] rfl ?_
      exact S_X12_heir_33 x1 x2 true w3.2.1 w3.2.2 _ h
theorem C_X12_heir {g : Gx} {x1 : Int32} {x2 : Int32} {I : MI} {L : ML} {res : Int32 × MI × ML} (h : f_X12_heir x1 x2 I L = some res) : Ent g 7 0 mX12_heir [.ref 149, .int x1, .int x2] (I, L) (.inl (some (.int res.1))) (res.2.1, res.2.2) := Ent_of (by decide +kernel) (Nat.le_of_ble_eq_true rfl) (S_X12_heir x1 x2 I L _ h)
def f_X12_noise_51 (y0 : Int32) (I : MI) (L : ML) : Option (Int32 × MI × ML) := some (y0, I, L)
set_option maxRecDepth 100000 in
theorem S_X12_noise_51 {g : Gx} (y0 : Int32) (I : MI) (L : ML) (res : Int32 × MI × ML) (h : f_X12_noise_51 y0 I L = some res) : E g 3 0 mX12_noise 51 [] [.int y0] (I, L) (.inl (some (.int res.1))) (res.2.1, res.2.2) := by
  unfold f_X12_noise_51 at h
  cases h
  exact E_iret (M := mX12_noise) rfl dX12_noise_51
def f_X12_noise_41 (I : MI) (L : ML) : Option (Int32 × MI × ML) := f_X12_noise_51 0 I L
set_option maxRecDepth 100000 in
theorem S_X12_noise_41 {g : Gx} (I : MI) (L : ML) (res : Int32 × MI × ML) (h : f_X12_noise_41 I L = some res) : E g 3 0 mX12_noise 41 [] [] (I, L) (.inl (some (.int res.1))) (res.2.1, res.2.2) := by
  unfold f_X12_noise_41 at h
  refine E_iconst (M := mX12_noise) (v := 0) 42 rfl dX12_noise_41 (by decide) ?_
  refine E_goto (M := mX12_noise) 51 (by decide) dX12_noise_42 ?_
  refine E_sub (M := mX12_noise) (lv' := []) [] rfl ?_
  exact S_X12_noise_51 0 I L _ h
def f_X12_noise_34 (x1 : Int32) (x2 : Int32) (y1 : Bool) (I : MI) (L : ML) : Option (Int32 × MI × ML) := Option.bind (f_X12_throwsIf y1 2 I L) fun w1 => if w1.1 = true then (f_X12_noise_41 w1.2.1 w1.2.2) else (Option.bind (f_X12_of x1 x2 w1.2.1 w1.2.2) fun v3 => f_X12_noise_51 v3 w1.2.1 w1.2.2)
set_option maxRecDepth 100000 in
theorem S_X12_noise_34 {g : Gx} (x1 : Int32) (x2 : Int32) (y1 : Bool) (I : MI) (L : ML) (res : Int32 × MI × ML) (h : f_X12_noise_34 x1 x2 y1 I L = some res) : E g 3 0 mX12_noise 34 [(0, .ref 149), (1, .int x1), (2, .int x2)] [.int (bI y1), .ref 149] (I, L) (.inl (some (.int res.1))) (res.2.1, res.2.2) := by
  unfold f_X12_noise_34 at h
  refine E_iconst (M := mX12_noise) (v := 2) 35 rfl dX12_noise_34 (by decide) ?_
  replace h := Option.bind_eq_some_iff.mp h
  obtain ⟨w1, hw1, h⟩ := h
  refine E_cV1 (M := mX12_noise) (As := [.int (bI y1), .int 2]) 38 rfl dX12_noise_35 shc_149 ck_X12_245 cv_X12_throwsIf rfl (by decide) (Nat.le_of_ble_eq_true rfl) (C_X12_throwsIf (g := g) hw1) rfl ?_
  refine E_if_eqB (M := mX12_noise) 45 41 (by decide) rfl dX12_noise_38 (fun c2 => ?_) (fun c2 => ?_)
  · rw [if_neg (by rw [c2]; decide)] at h
    refine E_aload_n (M := mX12_noise) 46 rfl dX12_noise_45 rfl 0 rfl ?_
    refine E_iload_n (M := mX12_noise) 47 rfl dX12_noise_46 rfl 1 rfl ?_
    refine E_iload_n (M := mX12_noise) 48 rfl dX12_noise_47 rfl 2 rfl ?_
    replace h := Option.bind_eq_some_iff.mp h
    obtain ⟨v3, hv3, h⟩ := h
    refine E_cV1 (M := mX12_noise) (As := [.int x1, .int x2]) 51 rfl dX12_noise_48 shc_149 ck_X12_260 cv_X12_of rfl (by decide) (Nat.le_of_ble_eq_true rfl) (C_X12_of (g := g) hv3) rfl ?_
    refine E_sub (M := mX12_noise) (lv' := []) [] rfl ?_
    exact S_X12_noise_51 v3 w1.2.1 w1.2.2 _ h
  · rw [if_pos c2] at h
    refine E_sub (M := mX12_noise) (lv' := []) [] rfl ?_
    exact S_X12_noise_41 w1.2.1 w1.2.2 _ h
def f_X12_noise (x1 : Int32) (x2 : Int32) (I : MI) (L : ML) : Option (Int32 × MI × ML) := Option.bind (pfI I 149 0 0) fun I1 => Option.bind (f_X12_noNoise x1 I1 L) fun v2 => Option.bind (f_X12_throwsIf v2 1 I1 L) fun w3 => if w3.1 = true then (f_X12_noise_41 w3.2.1 w3.2.2) else (Option.bind (f_X12_in x2 0 8 w3.2.1 w3.2.2) fun v5 => if v5 = true then (f_X12_noise_34 x1 x2 false w3.2.1 w3.2.2) else (f_X12_noise_34 x1 x2 true w3.2.1 w3.2.2))
set_option maxRecDepth 100000 in
theorem S_X12_noise {g : Gx} (x1 : Int32) (x2 : Int32) (I : MI) (L : ML) (res : Int32 × MI × ML) (h : f_X12_noise x1 x2 I L = some res) : E g 3 0 mX12_noise 0 [(0, .ref 149), (1, .int x1), (2, .int x2)] [] (I, L) (.inl (some (.int res.1))) (res.2.1, res.2.2) := by
  unfold f_X12_noise at h
  refine E_aload_n (M := mX12_noise) 1 rfl dX12_noise_0 rfl 0 rfl ?_
  refine E_iconst (M := mX12_noise) (v := 0) 2 rfl dX12_noise_1 (by decide) ?_
  replace h := Option.bind_eq_some_iff.mp h
  obtain ⟨I1, hI1, h⟩ := h
  refine E_pfI (M := mX12_noise) 5 rfl dX12_noise_2 shc_149 fl_X12_3 rfl hI1 ?_
  refine E_aload_n (M := mX12_noise) 6 rfl dX12_noise_5 rfl 0 rfl ?_
  refine E_aload_n (M := mX12_noise) 7 rfl dX12_noise_6 rfl 0 rfl ?_
  refine E_iload_n (M := mX12_noise) 8 rfl dX12_noise_7 rfl 1 rfl ?_
  replace h := Option.bind_eq_some_iff.mp h
  obtain ⟨v2, hv2, h⟩ := h
  refine E_cV1 (M := mX12_noise) (As := [.int x1]) 11 rfl dX12_noise_8 shc_149 ck_X12_304 cv_X12_noNoise rfl (by decide) (Nat.le_of_ble_eq_true rfl) (C_X12_noNoise (g := g) hv2) rfl ?_
  refine E_iconst (M := mX12_noise) (v := 1) 12 rfl dX12_noise_11 (by decide) ?_
  replace h := Option.bind_eq_some_iff.mp h
  obtain ⟨w3, hw3, h⟩ := h
  refine E_cV1 (M := mX12_noise) (As := [.int (bI v2), .int 1]) 15 rfl dX12_noise_12 shc_149 ck_X12_245 cv_X12_throwsIf rfl (by decide) (Nat.le_of_ble_eq_true rfl) (C_X12_throwsIf (g := g) hw3) rfl ?_
  refine E_if_neB (M := mX12_noise) 41 18 (by decide) rfl dX12_noise_15 (fun c4 => ?_) (fun c4 => ?_)
  · rw [if_pos c4] at h
    refine E_sub (M := mX12_noise) (lv' := []) [] rfl ?_
    exact S_X12_noise_41 w3.2.1 w3.2.2 _ h
  · rw [if_neg (by rw [c4]; decide)] at h
    refine E_aload_n (M := mX12_noise) 19 rfl dX12_noise_18 rfl 0 rfl ?_
    refine E_iload_n (M := mX12_noise) 20 rfl dX12_noise_19 rfl 2 rfl ?_
    refine E_iconst (M := mX12_noise) (v := 0) 21 rfl dX12_noise_20 (by decide) ?_
    refine E_bipush (M := mX12_noise) (v := 8) 23 rfl dX12_noise_21 (by decide) ?_
    replace h := Option.bind_eq_some_iff.mp h
    obtain ⟨v5, hv5, h⟩ := h
    refine E_cS1 (M := mX12_noise) (As := [.int x2, .int 0, .int 8]) 26 rfl dX12_noise_23 ck_X12_60 ss_X12_in rfl (by decide) (Nat.le_of_ble_eq_true rfl) (C_X12_in (g := g) hv5) rfl ?_
    refine E_if_neB (M := mX12_noise) 33 29 (by decide) rfl dX12_noise_26 (fun c6 => ?_) (fun c6 => ?_)
    · rw [if_pos c6] at h
      refine E_iconst (M := mX12_noise) (v := 0) 34 rfl dX12_noise_33 (by decide) ?_
      refine E_sub (M := mX12_noise) (lv' := [(0, .ref 149), (1, .int x1), (2, .int x2)]) [0, 1, 2] rfl ?_
      exact S_X12_noise_34 x1 x2 false w3.2.1 w3.2.2 _ h
    · rw [if_neg (by rw [c6]; decide)] at h
      refine E_iconst (M := mX12_noise) (v := 1) 30 rfl dX12_noise_29 (by decide) ?_
      refine E_goto (M := mX12_noise) 34 (by decide) dX12_noise_30 ?_
      refine E_sub (M := mX12_noise) (lv' := [(0, .ref 149), (1, .int x1), (2, .int x2)]) [0, 1, 2] rfl ?_
      exact S_X12_noise_34 x1 x2 true w3.2.1 w3.2.2 _ h
theorem C_X12_noise {g : Gx} {x1 : Int32} {x2 : Int32} {I : MI} {L : ML} {res : Int32 × MI × ML} (h : f_X12_noise x1 x2 I L = some res) : Ent g 3 0 mX12_noise [.ref 149, .int x1, .int x2] (I, L) (.inl (some (.int res.1))) (res.2.1, res.2.2) := Ent_of (by decide +kernel) (Nat.le_of_ble_eq_true rfl) (S_X12_noise x1 x2 I L _ h)
def f_X12_cost_61 (y0 : Int32) (I : MI) (L : ML) : Option (Int32 × MI × ML) := some (y0, I, L)
set_option maxRecDepth 100000 in
theorem S_X12_cost_61 {g : Gx} (y0 : Int32) (I : MI) (L : ML) (res : Int32 × MI × ML) (h : f_X12_cost_61 y0 I L = some res) : E g 6 0 mX12_cost 61 [] [.int y0] (I, L) (.inl (some (.int res.1))) (res.2.1, res.2.2) := by
  unfold f_X12_cost_61 at h
  cases h
  exact E_iret (M := mX12_cost) rfl dX12_cost_61
def f_X12_cost_27 (x1 : Int32) (x2 : Int32) (y1 : Bool) (I : MI) (L : ML) : Option (Int32 × MI × ML) := Option.bind (f_X12_throwsIf y1 1 I L) fun w1 => if w1.1 = true then (some (0, w1.2.1, w1.2.2)) else (Option.bind (f_X12_spreads w1.2.1 w1.2.2) fun w3 => Option.bind (f_X12_costOf x1 x2 w3.1 w3.2) fun v4 => if v4 < 1000000 then (Option.bind (f_X12_costOf x1 x2 w3.1 w3.2) fun v6 => f_X12_cost_61 v6 w3.1 w3.2) else (f_X12_cost_61 ((-1)) w3.1 w3.2))
set_option maxRecDepth 100000 in
theorem S_X12_cost_27 {g : Gx} (x1 : Int32) (x2 : Int32) (y1 : Bool) (I : MI) (L : ML) (res : Int32 × MI × ML) (h : f_X12_cost_27 x1 x2 y1 I L = some res) : E g 6 0 mX12_cost 27 [(0, .ref 149), (1, .int x1), (2, .int x2)] [.int (bI y1), .ref 149] (I, L) (.inl (some (.int res.1))) (res.2.1, res.2.2) := by
  unfold f_X12_cost_27 at h
  refine E_iconst (M := mX12_cost) (v := 1) 28 rfl dX12_cost_27 (by decide) ?_
  replace h := Option.bind_eq_some_iff.mp h
  obtain ⟨w1, hw1, h⟩ := h
  refine E_cV1 (M := mX12_cost) (As := [.int (bI y1), .int 1]) 31 rfl dX12_cost_28 shc_149 ck_X12_245 cv_X12_throwsIf rfl (by decide) (Nat.le_of_ble_eq_true rfl) (C_X12_throwsIf (g := g) hw1) rfl ?_
  refine E_if_eqB (M := mX12_cost) 36 34 (by decide) rfl dX12_cost_31 (fun c2 => ?_) (fun c2 => ?_)
  · rw [if_neg (by rw [c2]; decide)] at h
    refine E_aload_n (M := mX12_cost) 37 rfl dX12_cost_36 rfl 0 rfl ?_
    replace h := Option.bind_eq_some_iff.mp h
    obtain ⟨w3, hw3, h⟩ := h
    refine E_cV0 (M := mX12_cost) (As := []) 40 rfl dX12_cost_37 shc_149 ck_X12_298 cv_X12_spreads rfl (by decide) (Nat.le_of_ble_eq_true rfl) (C_X12_spreads (g := g) hw3) rfl ?_
    refine E_aload_n (M := mX12_cost) 41 rfl dX12_cost_40 rfl 0 rfl ?_
    refine E_iload_n (M := mX12_cost) 42 rfl dX12_cost_41 rfl 1 rfl ?_
    refine E_iload_n (M := mX12_cost) 43 rfl dX12_cost_42 rfl 2 rfl ?_
    replace h := Option.bind_eq_some_iff.mp h
    obtain ⟨v4, hv4, h⟩ := h
    refine E_cV1 (M := mX12_cost) (As := [.int x1, .int x2]) 46 rfl dX12_cost_43 shc_149 ck_X12_252 cv_X12_costOf rfl (by decide) (Nat.le_of_ble_eq_true rfl) (C_X12_costOf (g := g) hv4) rfl ?_
    refine E_ldc (M := mX12_cost) 48 rfl dX12_cost_46 cst_X12_248 ?_
    refine E_icmp_lt (M := mX12_cost) 55 51 (by decide) rfl dX12_cost_48 (fun c5 => ?_) (fun c5 => ?_)
    · rw [if_pos c5] at h
      refine E_aload_n (M := mX12_cost) 56 rfl dX12_cost_55 rfl 0 rfl ?_
      refine E_iload_n (M := mX12_cost) 57 rfl dX12_cost_56 rfl 1 rfl ?_
      refine E_iload_n (M := mX12_cost) 58 rfl dX12_cost_57 rfl 2 rfl ?_
      replace h := Option.bind_eq_some_iff.mp h
      obtain ⟨v6, hv6, h⟩ := h
      refine E_cV1 (M := mX12_cost) (As := [.int x1, .int x2]) 61 rfl dX12_cost_58 shc_149 ck_X12_252 cv_X12_costOf rfl (by decide) (Nat.le_of_ble_eq_true rfl) (C_X12_costOf (g := g) hv6) rfl ?_
      refine E_sub (M := mX12_cost) (lv' := []) [] rfl ?_
      exact S_X12_cost_61 v6 w3.1 w3.2 _ h
    · rw [if_neg c5] at h
      refine E_iconst (M := mX12_cost) (v := (-1)) 52 rfl dX12_cost_51 (by decide) ?_
      refine E_goto (M := mX12_cost) 61 (by decide) dX12_cost_52 ?_
      refine E_sub (M := mX12_cost) (lv' := []) [] rfl ?_
      exact S_X12_cost_61 ((-1)) w3.1 w3.2 _ h
  · rw [if_pos c2] at h
    refine E_iconst (M := mX12_cost) (v := 0) 35 rfl dX12_cost_34 (by decide) ?_
    cases h
    exact E_iret (M := mX12_cost) rfl dX12_cost_35
def f_X12_cost_22 (x1 : Int32) (x2 : Int32) (I : MI) (L : ML) : Option (Int32 × MI × ML) := f_X12_cost_27 x1 x2 true I L
set_option maxRecDepth 100000 in
theorem S_X12_cost_22 {g : Gx} (x1 : Int32) (x2 : Int32) (I : MI) (L : ML) (res : Int32 × MI × ML) (h : f_X12_cost_22 x1 x2 I L = some res) : E g 6 0 mX12_cost 22 [(0, .ref 149), (1, .int x1), (2, .int x2)] [.ref 149] (I, L) (.inl (some (.int res.1))) (res.2.1, res.2.2) := by
  unfold f_X12_cost_22 at h
  refine E_iconst (M := mX12_cost) (v := 1) 23 rfl dX12_cost_22 (by decide) ?_
  refine E_goto (M := mX12_cost) 27 (by decide) dX12_cost_23 ?_
  refine E_sub (M := mX12_cost) (lv' := [(0, .ref 149), (1, .int x1), (2, .int x2)]) [0, 1, 2] rfl ?_
  exact S_X12_cost_27 x1 x2 true I L _ h
def f_X12_cost (x1 : Int32) (x2 : Int32) (I : MI) (L : ML) : Option (Int32 × MI × ML) := Option.bind (pfI I 149 0 0) fun I1 => Option.bind (f_X12_noRoom x1 I1 L) fun v2 => if v2 = true then (f_X12_cost_22 x1 x2 I1 L) else (Option.bind (f_X12_noRoom x2 I1 L) fun v4 => if v4 = true then (f_X12_cost_22 x1 x2 I1 L) else (f_X12_cost_27 x1 x2 false I1 L))
set_option maxRecDepth 100000 in
theorem S_X12_cost {g : Gx} (x1 : Int32) (x2 : Int32) (I : MI) (L : ML) (res : Int32 × MI × ML) (h : f_X12_cost x1 x2 I L = some res) : E g 6 0 mX12_cost 0 [(0, .ref 149), (1, .int x1), (2, .int x2)] [] (I, L) (.inl (some (.int res.1))) (res.2.1, res.2.2) := by
  unfold f_X12_cost at h
  refine E_aload_n (M := mX12_cost) 1 rfl dX12_cost_0 rfl 0 rfl ?_
  refine E_iconst (M := mX12_cost) (v := 0) 2 rfl dX12_cost_1 (by decide) ?_
  replace h := Option.bind_eq_some_iff.mp h
  obtain ⟨I1, hI1, h⟩ := h
  refine E_pfI (M := mX12_cost) 5 rfl dX12_cost_2 shc_149 fl_X12_3 rfl hI1 ?_
  refine E_aload_n (M := mX12_cost) 6 rfl dX12_cost_5 rfl 0 rfl ?_
  refine E_aload_n (M := mX12_cost) 7 rfl dX12_cost_6 rfl 0 rfl ?_
  refine E_iload_n (M := mX12_cost) 8 rfl dX12_cost_7 rfl 1 rfl ?_
  replace h := Option.bind_eq_some_iff.mp h
  obtain ⟨v2, hv2, h⟩ := h
  refine E_cV1 (M := mX12_cost) (As := [.int x1]) 11 rfl dX12_cost_8 shc_149 ck_X12_292 cv_X12_noRoom rfl (by decide) (Nat.le_of_ble_eq_true rfl) (C_X12_noRoom (g := g) hv2) rfl ?_
  refine E_if_neB (M := mX12_cost) 22 14 (by decide) rfl dX12_cost_11 (fun c3 => ?_) (fun c3 => ?_)
  · rw [if_pos c3] at h
    refine E_sub (M := mX12_cost) (lv' := [(0, .ref 149), (1, .int x1), (2, .int x2)]) [0, 1, 2] rfl ?_
    exact S_X12_cost_22 x1 x2 I1 L _ h
  · rw [if_neg (by rw [c3]; decide)] at h
    refine E_aload_n (M := mX12_cost) 15 rfl dX12_cost_14 rfl 0 rfl ?_
    refine E_iload_n (M := mX12_cost) 16 rfl dX12_cost_15 rfl 2 rfl ?_
    replace h := Option.bind_eq_some_iff.mp h
    obtain ⟨v4, hv4, h⟩ := h
    refine E_cV1 (M := mX12_cost) (As := [.int x2]) 19 rfl dX12_cost_16 shc_149 ck_X12_292 cv_X12_noRoom rfl (by decide) (Nat.le_of_ble_eq_true rfl) (C_X12_noRoom (g := g) hv4) rfl ?_
    refine E_if_eqB (M := mX12_cost) 26 22 (by decide) rfl dX12_cost_19 (fun c5 => ?_) (fun c5 => ?_)
    · rw [if_neg (by rw [c5]; decide)] at h
      refine E_iconst (M := mX12_cost) (v := 0) 27 rfl dX12_cost_26 (by decide) ?_
      refine E_sub (M := mX12_cost) (lv' := [(0, .ref 149), (1, .int x1), (2, .int x2)]) [0, 1, 2] rfl ?_
      exact S_X12_cost_27 x1 x2 false I1 L _ h
    · rw [if_pos c5] at h
      refine E_sub (M := mX12_cost) (lv' := [(0, .ref 149), (1, .int x1), (2, .int x2)]) [0, 1, 2] rfl ?_
      exact S_X12_cost_22 x1 x2 I1 L _ h
theorem C_X12_cost {g : Gx} {x1 : Int32} {x2 : Int32} {I : MI} {L : ML} {res : Int32 × MI × ML} (h : f_X12_cost x1 x2 I L = some res) : Ent g 6 0 mX12_cost [.ref 149, .int x1, .int x2] (I, L) (.inl (some (.int res.1))) (res.2.1, res.2.2) := Ent_of (by decide +kernel) (Nat.le_of_ble_eq_true rfl) (S_X12_cost x1 x2 I L _ h)
def f_X12_at_27 (x1 : Int32) (x2 : Int32) (y1 : Bool) (I : MI) (L : ML) : Option (Int32 × MI × ML) := Option.bind (f_X12_throwsIf y1 1 I L) fun w1 => if w1.1 = true then (some (0, w1.2.1, w1.2.2)) else (Option.bind (f_X12_spreads w1.2.1 w1.2.2) fun w3 => Option.bind (f_X12_atOf x1 x2 w3.1 w3.2) fun v4 => some (v4, w3.1, w3.2))
set_option maxRecDepth 100000 in
theorem S_X12_at_27 {g : Gx} (x1 : Int32) (x2 : Int32) (y1 : Bool) (I : MI) (L : ML) (res : Int32 × MI × ML) (h : f_X12_at_27 x1 x2 y1 I L = some res) : E g 6 0 mX12_at 27 [(0, .ref 149), (1, .int x1), (2, .int x2)] [.int (bI y1), .ref 149] (I, L) (.inl (some (.int res.1))) (res.2.1, res.2.2) := by
  unfold f_X12_at_27 at h
  refine E_iconst (M := mX12_at) (v := 1) 28 rfl dX12_at_27 (by decide) ?_
  replace h := Option.bind_eq_some_iff.mp h
  obtain ⟨w1, hw1, h⟩ := h
  refine E_cV1 (M := mX12_at) (As := [.int (bI y1), .int 1]) 31 rfl dX12_at_28 shc_149 ck_X12_245 cv_X12_throwsIf rfl (by decide) (Nat.le_of_ble_eq_true rfl) (C_X12_throwsIf (g := g) hw1) rfl ?_
  refine E_if_eqB (M := mX12_at) 36 34 (by decide) rfl dX12_at_31 (fun c2 => ?_) (fun c2 => ?_)
  · rw [if_neg (by rw [c2]; decide)] at h
    refine E_aload_n (M := mX12_at) 37 rfl dX12_at_36 rfl 0 rfl ?_
    replace h := Option.bind_eq_some_iff.mp h
    obtain ⟨w3, hw3, h⟩ := h
    refine E_cV0 (M := mX12_at) (As := []) 40 rfl dX12_at_37 shc_149 ck_X12_298 cv_X12_spreads rfl (by decide) (Nat.le_of_ble_eq_true rfl) (C_X12_spreads (g := g) hw3) rfl ?_
    refine E_aload_n (M := mX12_at) 41 rfl dX12_at_40 rfl 0 rfl ?_
    refine E_iload_n (M := mX12_at) 42 rfl dX12_at_41 rfl 1 rfl ?_
    refine E_iload_n (M := mX12_at) 43 rfl dX12_at_42 rfl 2 rfl ?_
    replace h := Option.bind_eq_some_iff.mp h
    obtain ⟨v4, hv4, h⟩ := h
    refine E_cV1 (M := mX12_at) (As := [.int x1, .int x2]) 46 rfl dX12_at_43 shc_149 ck_X12_269 cv_X12_atOf rfl (by decide) (Nat.le_of_ble_eq_true rfl) (C_X12_atOf (g := g) hv4) rfl ?_
    cases h
    exact E_iret (M := mX12_at) rfl dX12_at_46
  · rw [if_pos c2] at h
    refine E_iconst (M := mX12_at) (v := 0) 35 rfl dX12_at_34 (by decide) ?_
    cases h
    exact E_iret (M := mX12_at) rfl dX12_at_35
def f_X12_at_22 (x1 : Int32) (x2 : Int32) (I : MI) (L : ML) : Option (Int32 × MI × ML) := f_X12_at_27 x1 x2 true I L
set_option maxRecDepth 100000 in
theorem S_X12_at_22 {g : Gx} (x1 : Int32) (x2 : Int32) (I : MI) (L : ML) (res : Int32 × MI × ML) (h : f_X12_at_22 x1 x2 I L = some res) : E g 6 0 mX12_at 22 [(0, .ref 149), (1, .int x1), (2, .int x2)] [.ref 149] (I, L) (.inl (some (.int res.1))) (res.2.1, res.2.2) := by
  unfold f_X12_at_22 at h
  refine E_iconst (M := mX12_at) (v := 1) 23 rfl dX12_at_22 (by decide) ?_
  refine E_goto (M := mX12_at) 27 (by decide) dX12_at_23 ?_
  refine E_sub (M := mX12_at) (lv' := [(0, .ref 149), (1, .int x1), (2, .int x2)]) [0, 1, 2] rfl ?_
  exact S_X12_at_27 x1 x2 true I L _ h
def f_X12_at (x1 : Int32) (x2 : Int32) (I : MI) (L : ML) : Option (Int32 × MI × ML) := Option.bind (pfI I 149 0 0) fun I1 => Option.bind (f_X12_noNoise x1 I1 L) fun v2 => if v2 = true then (f_X12_at_22 x1 x2 I1 L) else (Option.bind (f_X12_noRoom x2 I1 L) fun v4 => if v4 = true then (f_X12_at_22 x1 x2 I1 L) else (f_X12_at_27 x1 x2 false I1 L))
set_option maxRecDepth 100000 in
theorem S_X12_at {g : Gx} (x1 : Int32) (x2 : Int32) (I : MI) (L : ML) (res : Int32 × MI × ML) (h : f_X12_at x1 x2 I L = some res) : E g 6 0 mX12_at 0 [(0, .ref 149), (1, .int x1), (2, .int x2)] [] (I, L) (.inl (some (.int res.1))) (res.2.1, res.2.2) := by
  unfold f_X12_at at h
  refine E_aload_n (M := mX12_at) 1 rfl dX12_at_0 rfl 0 rfl ?_
  refine E_iconst (M := mX12_at) (v := 0) 2 rfl dX12_at_1 (by decide) ?_
  replace h := Option.bind_eq_some_iff.mp h
  obtain ⟨I1, hI1, h⟩ := h
  refine E_pfI (M := mX12_at) 5 rfl dX12_at_2 shc_149 fl_X12_3 rfl hI1 ?_
  refine E_aload_n (M := mX12_at) 6 rfl dX12_at_5 rfl 0 rfl ?_
  refine E_aload_n (M := mX12_at) 7 rfl dX12_at_6 rfl 0 rfl ?_
  refine E_iload_n (M := mX12_at) 8 rfl dX12_at_7 rfl 1 rfl ?_
  replace h := Option.bind_eq_some_iff.mp h
  obtain ⟨v2, hv2, h⟩ := h
  refine E_cV1 (M := mX12_at) (As := [.int x1]) 11 rfl dX12_at_8 shc_149 ck_X12_304 cv_X12_noNoise rfl (by decide) (Nat.le_of_ble_eq_true rfl) (C_X12_noNoise (g := g) hv2) rfl ?_
  refine E_if_neB (M := mX12_at) 22 14 (by decide) rfl dX12_at_11 (fun c3 => ?_) (fun c3 => ?_)
  · rw [if_pos c3] at h
    refine E_sub (M := mX12_at) (lv' := [(0, .ref 149), (1, .int x1), (2, .int x2)]) [0, 1, 2] rfl ?_
    exact S_X12_at_22 x1 x2 I1 L _ h
  · rw [if_neg (by rw [c3]; decide)] at h
    refine E_aload_n (M := mX12_at) 15 rfl dX12_at_14 rfl 0 rfl ?_
    refine E_iload_n (M := mX12_at) 16 rfl dX12_at_15 rfl 2 rfl ?_
    replace h := Option.bind_eq_some_iff.mp h
    obtain ⟨v4, hv4, h⟩ := h
    refine E_cV1 (M := mX12_at) (As := [.int x2]) 19 rfl dX12_at_16 shc_149 ck_X12_292 cv_X12_noRoom rfl (by decide) (Nat.le_of_ble_eq_true rfl) (C_X12_noRoom (g := g) hv4) rfl ?_
    refine E_if_eqB (M := mX12_at) 26 22 (by decide) rfl dX12_at_19 (fun c5 => ?_) (fun c5 => ?_)
    · rw [if_neg (by rw [c5]; decide)] at h
      refine E_iconst (M := mX12_at) (v := 0) 27 rfl dX12_at_26 (by decide) ?_
      refine E_sub (M := mX12_at) (lv' := [(0, .ref 149), (1, .int x1), (2, .int x2)]) [0, 1, 2] rfl ?_
      exact S_X12_at_27 x1 x2 false I1 L _ h
    · rw [if_pos c5] at h
      refine E_sub (M := mX12_at) (lv' := [(0, .ref 149), (1, .int x1), (2, .int x2)]) [0, 1, 2] rfl ?_
      exact S_X12_at_22 x1 x2 I1 L _ h
theorem C_X12_at {g : Gx} {x1 : Int32} {x2 : Int32} {I : MI} {L : ML} {res : Int32 × MI × ML} (h : f_X12_at x1 x2 I L = some res) : Ent g 6 0 mX12_at [.ref 149, .int x1, .int x2] (I, L) (.inl (some (.int res.1))) (res.2.1, res.2.2) := Ent_of (by decide +kernel) (Nat.le_of_ble_eq_true rfl) (S_X12_at x1 x2 I L _ h)
def f_X12_title_27 (x1 : Int32) (x2 : Int32) (y1 : Bool) (I : MI) (L : ML) : Option (Int32 × MI × ML) := Option.bind (f_X12_throwsIf y1 1 I L) fun w1 => if w1.1 = true then (some (0, w1.2.1, w1.2.2)) else (Option.bind (f_X12_spreads w1.2.1 w1.2.2) fun w3 => Option.bind (f_X12_titleOf x1 x2 w3.1 w3.2) fun w4 => some (w4.1, w4.2.1, w4.2.2))
set_option maxRecDepth 100000 in
theorem S_X12_title_27 {g : Gx} (x1 : Int32) (x2 : Int32) (y1 : Bool) (I : MI) (L : ML) (res : Int32 × MI × ML) (h : f_X12_title_27 x1 x2 y1 I L = some res) : E g 10 0 mX12_title 27 [(0, .ref 149), (1, .int x1), (2, .int x2)] [.int (bI y1), .ref 149] (I, L) (.inl (some (.int res.1))) (res.2.1, res.2.2) := by
  unfold f_X12_title_27 at h
  refine E_iconst (M := mX12_title) (v := 1) 28 rfl dX12_title_27 (by decide) ?_
  replace h := Option.bind_eq_some_iff.mp h
  obtain ⟨w1, hw1, h⟩ := h
  refine E_cV1 (M := mX12_title) (As := [.int (bI y1), .int 1]) 31 rfl dX12_title_28 shc_149 ck_X12_245 cv_X12_throwsIf rfl (by decide) (Nat.le_of_ble_eq_true rfl) (C_X12_throwsIf (g := g) hw1) rfl ?_
  refine E_if_eqB (M := mX12_title) 36 34 (by decide) rfl dX12_title_31 (fun c2 => ?_) (fun c2 => ?_)
  · rw [if_neg (by rw [c2]; decide)] at h
    refine E_aload_n (M := mX12_title) 37 rfl dX12_title_36 rfl 0 rfl ?_
    replace h := Option.bind_eq_some_iff.mp h
    obtain ⟨w3, hw3, h⟩ := h
    refine E_cV0 (M := mX12_title) (As := []) 40 rfl dX12_title_37 shc_149 ck_X12_298 cv_X12_spreads rfl (by decide) (Nat.le_of_ble_eq_true rfl) (C_X12_spreads (g := g) hw3) rfl ?_
    refine E_aload_n (M := mX12_title) 41 rfl dX12_title_40 rfl 0 rfl ?_
    refine E_iload_n (M := mX12_title) 42 rfl dX12_title_41 rfl 1 rfl ?_
    refine E_iload_n (M := mX12_title) 43 rfl dX12_title_42 rfl 2 rfl ?_
    replace h := Option.bind_eq_some_iff.mp h
    obtain ⟨w4, hw4, h⟩ := h
    refine E_cV1 (M := mX12_title) (As := [.int x1, .int x2]) 46 rfl dX12_title_43 shc_149 ck_X12_282 cv_X12_titleOf rfl (by decide) (Nat.le_of_ble_eq_true rfl) (C_X12_titleOf (g := g) hw4) rfl ?_
    cases h
    exact E_iret (M := mX12_title) rfl dX12_title_46
  · rw [if_pos c2] at h
    refine E_iconst (M := mX12_title) (v := 0) 35 rfl dX12_title_34 (by decide) ?_
    cases h
    exact E_iret (M := mX12_title) rfl dX12_title_35
def f_X12_title_22 (x1 : Int32) (x2 : Int32) (I : MI) (L : ML) : Option (Int32 × MI × ML) := f_X12_title_27 x1 x2 true I L
set_option maxRecDepth 100000 in
theorem S_X12_title_22 {g : Gx} (x1 : Int32) (x2 : Int32) (I : MI) (L : ML) (res : Int32 × MI × ML) (h : f_X12_title_22 x1 x2 I L = some res) : E g 10 0 mX12_title 22 [(0, .ref 149), (1, .int x1), (2, .int x2)] [.ref 149] (I, L) (.inl (some (.int res.1))) (res.2.1, res.2.2) := by
  unfold f_X12_title_22 at h
  refine E_iconst (M := mX12_title) (v := 1) 23 rfl dX12_title_22 (by decide) ?_
  refine E_goto (M := mX12_title) 27 (by decide) dX12_title_23 ?_
  refine E_sub (M := mX12_title) (lv' := [(0, .ref 149), (1, .int x1), (2, .int x2)]) [0, 1, 2] rfl ?_
  exact S_X12_title_27 x1 x2 true I L _ h
def f_X12_title (x1 : Int32) (x2 : Int32) (I : MI) (L : ML) : Option (Int32 × MI × ML) := Option.bind (pfI I 149 0 0) fun I1 => Option.bind (f_X12_noHeir x1 I1 L) fun v2 => if v2 = true then (f_X12_title_22 x1 x2 I1 L) else (Option.bind (f_X12_noNoise x2 I1 L) fun v4 => if v4 = true then (f_X12_title_22 x1 x2 I1 L) else (f_X12_title_27 x1 x2 false I1 L))
set_option maxRecDepth 100000 in
theorem S_X12_title {g : Gx} (x1 : Int32) (x2 : Int32) (I : MI) (L : ML) (res : Int32 × MI × ML) (h : f_X12_title x1 x2 I L = some res) : E g 10 0 mX12_title 0 [(0, .ref 149), (1, .int x1), (2, .int x2)] [] (I, L) (.inl (some (.int res.1))) (res.2.1, res.2.2) := by
  unfold f_X12_title at h
  refine E_aload_n (M := mX12_title) 1 rfl dX12_title_0 rfl 0 rfl ?_
  refine E_iconst (M := mX12_title) (v := 0) 2 rfl dX12_title_1 (by decide) ?_
  replace h := Option.bind_eq_some_iff.mp h
  obtain ⟨I1, hI1, h⟩ := h
  refine E_pfI (M := mX12_title) 5 rfl dX12_title_2 shc_149 fl_X12_3 rfl hI1 ?_
  refine E_aload_n (M := mX12_title) 6 rfl dX12_title_5 rfl 0 rfl ?_
  refine E_aload_n (M := mX12_title) 7 rfl dX12_title_6 rfl 0 rfl ?_
  refine E_iload_n (M := mX12_title) 8 rfl dX12_title_7 rfl 1 rfl ?_
  replace h := Option.bind_eq_some_iff.mp h
  obtain ⟨v2, hv2, h⟩ := h
  refine E_cV1 (M := mX12_title) (As := [.int x1]) 11 rfl dX12_title_8 shc_149 ck_X12_301 cv_X12_noHeir rfl (by decide) (Nat.le_of_ble_eq_true rfl) (C_X12_noHeir (g := g) hv2) rfl ?_
  refine E_if_neB (M := mX12_title) 22 14 (by decide) rfl dX12_title_11 (fun c3 => ?_) (fun c3 => ?_)
  · rw [if_pos c3] at h
    refine E_sub (M := mX12_title) (lv' := [(0, .ref 149), (1, .int x1), (2, .int x2)]) [0, 1, 2] rfl ?_
    exact S_X12_title_22 x1 x2 I1 L _ h
  · rw [if_neg (by rw [c3]; decide)] at h
    refine E_aload_n (M := mX12_title) 15 rfl dX12_title_14 rfl 0 rfl ?_
    refine E_iload_n (M := mX12_title) 16 rfl dX12_title_15 rfl 2 rfl ?_
    replace h := Option.bind_eq_some_iff.mp h
    obtain ⟨v4, hv4, h⟩ := h
    refine E_cV1 (M := mX12_title) (As := [.int x2]) 19 rfl dX12_title_16 shc_149 ck_X12_304 cv_X12_noNoise rfl (by decide) (Nat.le_of_ble_eq_true rfl) (C_X12_noNoise (g := g) hv4) rfl ?_
    refine E_if_eqB (M := mX12_title) 26 22 (by decide) rfl dX12_title_19 (fun c5 => ?_) (fun c5 => ?_)
    · rw [if_neg (by rw [c5]; decide)] at h
      refine E_iconst (M := mX12_title) (v := 0) 27 rfl dX12_title_26 (by decide) ?_
      refine E_sub (M := mX12_title) (lv' := [(0, .ref 149), (1, .int x1), (2, .int x2)]) [0, 1, 2] rfl ?_
      exact S_X12_title_27 x1 x2 false I1 L _ h
    · rw [if_pos c5] at h
      refine E_sub (M := mX12_title) (lv' := [(0, .ref 149), (1, .int x1), (2, .int x2)]) [0, 1, 2] rfl ?_
      exact S_X12_title_22 x1 x2 I1 L _ h
theorem C_X12_title {g : Gx} {x1 : Int32} {x2 : Int32} {I : MI} {L : ML} {res : Int32 × MI × ML} (h : f_X12_title x1 x2 I L = some res) : Ent g 10 0 mX12_title [.ref 149, .int x1, .int x2] (I, L) (.inl (some (.int res.1))) (res.2.1, res.2.2) := Ent_of (by decide +kernel) (Nat.le_of_ble_eq_true rfl) (S_X12_title x1 x2 I L _ h)
