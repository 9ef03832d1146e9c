def f_X11_feed (x1 : Int32) (x2 : Int32) (x3 : Int32) (x4 : Int32) (x5 : Int32) (I : MI) (L : ML) : Option (Int32 × MI × ML) := if (I 1 1) ≤ 380 then (Option.bind (f_X8_put x1 I L) fun w2 => Option.bind (f_X8_put x2 w2.1 w2.2) fun w3 => Option.bind (f_X8_put x3 w3.1 w3.2) fun w4 => Option.bind (f_X8_put x4 w4.1 w4.2) fun w5 => Option.bind (f_X8_put x5 w5.1 w5.2) fun w6 => some (w6.1 1 1, w6.1, w6.2)) else (some ((-1), I, L))
set_option maxRecDepth 100000 in
theorem S_X11_feed {g : Gx} (x1 : Int32) (x2 : Int32) (x3 : Int32) (x4 : Int32) (x5 : Int32) (I : MI) (L : ML) (res : Int32 × MI × ML) (h : f_X11_feed x1 x2 x3 x4 x5 I L = some res) : E g 2 0 mX11_feed 0 [(0, .ref 0), (1, .int x1), (2, .int x2), (3, .int x3), (4, .int x4), (5, .int x5)] [] (I, L) (.inl (some (.int res.1))) (res.2.1, res.2.2) := by
  unfold f_X11_feed at h
  refine E_aload_n (M := mX11_feed) 1 rfl dX11_feed_0 rfl 0 rfl ?_
  refine E_gR (M := mX11_feed) 1 4 rfl dX11_feed_1 shc_0 fl_X11_10 rfl (by decide) (by decide) ?_
  refine E_gI (M := mX11_feed) 7 rfl dX11_feed_4 shc_1 fl_X11_54 rfl ?_
  refine E_sipush (M := mX11_feed) (v := 380) 10 rfl dX11_feed_7 (by decide) ?_
  refine E_icmp_le (M := mX11_feed) 15 13 (by decide) rfl dX11_feed_10 (fun c1 => ?_) (fun c1 => ?_)
  · rw [if_pos c1] at h
    refine E_aload_n (M := mX11_feed) 16 rfl dX11_feed_15 rfl 0 rfl ?_
    refine E_gR (M := mX11_feed) 1 19 rfl dX11_feed_16 shc_0 fl_X11_10 rfl (by decide) (by decide) ?_
    refine E_iload_n (M := mX11_feed) 20 rfl dX11_feed_19 rfl 1 rfl ?_
    replace h := Option.bind_eq_some_iff.mp h
    obtain ⟨w2, hw2, h⟩ := h
    refine E_cV0 (M := mX11_feed) (As := [.int x1]) 23 rfl dX11_feed_20 shc_1 ck_X11_58 cv_X8_put rfl (by decide) (Nat.le_of_ble_eq_true rfl) (C_X8_put (g := g) hw2) rfl ?_
    refine E_aload_n (M := mX11_feed) 24 rfl dX11_feed_23 rfl 0 rfl ?_
    refine E_gR (M := mX11_feed) 1 27 rfl dX11_feed_24 shc_0 fl_X11_10 rfl (by decide) (by decide) ?_
    refine E_iload_n (M := mX11_feed) 28 rfl dX11_feed_27 rfl 2 rfl ?_
    replace h := Option.bind_eq_some_iff.mp h
    obtain ⟨w3, hw3, h⟩ := h
    refine E_cV0 (M := mX11_feed) (As := [.int x2]) 31 rfl dX11_feed_28 shc_1 ck_X11_58 cv_X8_put rfl (by decide) (Nat.le_of_ble_eq_true rfl) (C_X8_put (g := g) hw3) rfl ?_
    refine E_aload_n (M := mX11_feed) 32 rfl dX11_feed_31 rfl 0 rfl ?_
    refine E_gR (M := mX11_feed) 1 35 rfl dX11_feed_32 shc_0 fl_X11_10 rfl (by decide) (by decide) ?_
    refine E_iload_n (M := mX11_feed) 36 rfl dX11_feed_35 rfl 3 rfl ?_
    replace h := Option.bind_eq_some_iff.mp h
    obtain ⟨w4, hw4, h⟩ := h
    refine E_cV0 (M := mX11_feed) (As := [.int x3]) 39 rfl dX11_feed_36 shc_1 ck_X11_58 cv_X8_put rfl (by decide) (Nat.le_of_ble_eq_true rfl) (C_X8_put (g := g) hw4) rfl ?_
    refine E_aload_n (M := mX11_feed) 40 rfl dX11_feed_39 rfl 0 rfl ?_
    refine E_gR (M := mX11_feed) 1 43 rfl dX11_feed_40 shc_0 fl_X11_10 rfl (by decide) (by decide) ?_
    refine E_iload (M := mX11_feed) 45 rfl dX11_feed_43 4 rfl ?_
    replace h := Option.bind_eq_some_iff.mp h
    obtain ⟨w5, hw5, h⟩ := h
    refine E_cV0 (M := mX11_feed) (As := [.int x4]) 48 rfl dX11_feed_45 shc_1 ck_X11_58 cv_X8_put rfl (by decide) (Nat.le_of_ble_eq_true rfl) (C_X8_put (g := g) hw5) rfl ?_
    refine E_aload_n (M := mX11_feed) 49 rfl dX11_feed_48 rfl 0 rfl ?_
    refine E_gR (M := mX11_feed) 1 52 rfl dX11_feed_49 shc_0 fl_X11_10 rfl (by decide) (by decide) ?_
    refine E_iload (M := mX11_feed) 54 rfl dX11_feed_52 5 rfl ?_
    replace h := Option.bind_eq_some_iff.mp h
    obtain ⟨w6, hw6, h⟩ := h
    refine E_cV0 (M := mX11_feed) (As := [.int x5]) 57 rfl dX11_feed_54 shc_1 ck_X11_58 cv_X8_put rfl (by decide) (Nat.le_of_ble_eq_true rfl) (C_X8_put (g := g) hw6) rfl ?_
    refine E_aload_n (M := mX11_feed) 58 rfl dX11_feed_57 rfl 0 rfl ?_
    refine E_gR (M := mX11_feed) 1 61 rfl dX11_feed_58 shc_0 fl_X11_10 rfl (by decide) (by decide) ?_
    refine E_gI (M := mX11_feed) 64 rfl dX11_feed_61 shc_1 fl_X11_54 rfl ?_
    cases h
    exact E_iret (M := mX11_feed) rfl dX11_feed_64
  · rw [if_neg c1] at h
    refine E_iconst (M := mX11_feed) (v := (-1)) 14 rfl dX11_feed_13 (by decide) ?_
    cases h
    exact E_iret (M := mX11_feed) rfl dX11_feed_14
theorem C_X11_feed {g : Gx} {x1 : Int32} {x2 : Int32} {x3 : Int32} {x4 : Int32} {x5 : Int32} {I : MI} {L : ML} {res : Int32 × MI × ML} (h : f_X11_feed x1 x2 x3 x4 x5 I L = some res) : Ent g 2 0 mX11_feed [.ref 0, .int x1, .int x2, .int x3, .int x4, .int x5] (I, L) (.inl (some (.int res.1))) (res.2.1, res.2.2) := Ent_of (by decide +kernel) (Nat.le_of_ble_eq_true rfl) (S_X11_feed x1 x2 x3 x4 x5 I L _ h)
def f_X11_end_15 (I : MI) (L : ML) : Option (Bool × MI × ML) := some (false, I, L)
set_option maxRecDepth 100000 in
theorem S_X11_end_15 {g : Gx} (I : MI) (L : ML) (res : Bool × MI × ML) (h : f_X11_end_15 I L = some res) : E g 1 0 mX11_end 15 [] [] (I, L) (.inl (some (.int (bI res.1)))) (res.2.1, res.2.2) := by
  unfold f_X11_end_15 at h
  refine E_iconst (M := mX11_end) (v := 0) 16 rfl dX11_end_15 (by decide) ?_
  cases h
  exact E_zret (M := mX11_end) (x := false) rfl dX11_end_16
def f_X11_end (x1 : Int32) (I : MI) (L : ML) : Option (Bool × MI × ML) := if x1 < 0 then (f_X11_end_15 I L) else (if x1 ≤ (I 1 1) then (Option.bind (pfI I 1 1 x1) fun I3 => some (true, I3, L)) else (f_X11_end_15 I L))
set_option maxRecDepth 100000 in
theorem S_X11_end {g : Gx} (x1 : Int32) (I : MI) (L : ML) (res : Bool × MI × ML) (h : f_X11_end x1 I L = some res) : E g 1 0 mX11_end 0 [(0, .ref 0), (1, .int x1)] [] (I, L) (.inl (some (.int (bI res.1)))) (res.2.1, res.2.2) := by
  unfold f_X11_end at h
  refine E_iload_n (M := mX11_end) 1 rfl dX11_end_0 rfl 1 rfl ?_
  refine E_if_lt (M := mX11_end) 15 4 (by decide) rfl dX11_end_1 (fun c1 => ?_) (fun c1 => ?_)
  · rw [if_pos c1] at h
    refine E_sub (M := mX11_end) (lv' := []) [] rfl ?_
    exact S_X11_end_15 I L _ h
  · rw [if_neg c1] at h
    refine E_iload_n (M := mX11_end) 5 rfl dX11_end_4 rfl 1 rfl ?_
    refine E_aload_n (M := mX11_end) 6 rfl dX11_end_5 rfl 0 rfl ?_
    refine E_gR (M := mX11_end) 1 9 rfl dX11_end_6 shc_0 fl_X11_10 rfl (by decide) (by decide) ?_
    refine E_gI (M := mX11_end) 12 rfl dX11_end_9 shc_1 fl_X11_54 rfl ?_
    refine E_icmp_le (M := mX11_end) 17 15 (by decide) rfl dX11_end_12 (fun c2 => ?_) (fun c2 => ?_)
    · rw [if_pos c2] at h
      refine E_aload_n (M := mX11_end) 18 rfl dX11_end_17 rfl 0 rfl ?_
      refine E_gR (M := mX11_end) 1 21 rfl dX11_end_18 shc_0 fl_X11_10 rfl (by decide) (by decide) ?_
      refine E_iload_n (M := mX11_end) 22 rfl dX11_end_21 rfl 1 rfl ?_
      replace h := Option.bind_eq_some_iff.mp h
      obtain ⟨I3, hI3, h⟩ := h
      refine E_pfI (M := mX11_end) 25 rfl dX11_end_22 shc_1 fl_X11_54 rfl hI3 ?_
      refine E_iconst (M := mX11_end) (v := 1) 26 rfl dX11_end_25 (by decide) ?_
      cases h
      exact E_zret (M := mX11_end) (x := true) rfl dX11_end_26
    · rw [if_neg c2] at h
      refine E_sub (M := mX11_end) (lv' := []) [] rfl ?_
      exact S_X11_end_15 I L _ h
theorem C_X11_end {g : Gx} {x1 : Int32} {I : MI} {L : ML} {res : Bool × MI × ML} (h : f_X11_end x1 I L = some res) : Ent g 1 0 mX11_end [.ref 0, .int x1] (I, L) (.inl (some (.int (bI res.1)))) (res.2.1, res.2.2) := Ent_of (by decide +kernel) (Nat.le_of_ble_eq_true rfl) (S_X11_end x1 I L _ h)
def f_X11_openText (I : MI) (L : ML) : Option (MI × ML) := Option.bind (f_X8_open I L) fun w1 => Option.bind (hsO (w1.1 0 5)) fun v2 => Option.bind (hsO (w1.1 0 4)) fun v3 => Option.bind (f_X3_copyFrom v2 v3 w1.1 w1.2) fun w4 => some (w4.1, w4.2)
set_option maxRecDepth 100000 in
theorem S_X11_openText {g : Gx} (I : MI) (L : ML) (res : MI × ML) (h : f_X11_openText I L = some res) : E g 7 0 mX11_openText 0 [(0, .ref 0)] [] (I, L) (.inl none) (res.1, res.2) := by
  unfold f_X11_openText at h
  refine E_aload_n (M := mX11_openText) 1 rfl dX11_openText_0 rfl 0 rfl ?_
  refine E_gR (M := mX11_openText) 1 4 rfl dX11_openText_1 shc_0 fl_X11_10 rfl (by decide) (by decide) ?_
  replace h := Option.bind_eq_some_iff.mp h
  obtain ⟨w1, hw1, h⟩ := h
  refine E_cV0 (M := mX11_openText) (As := []) 7 rfl dX11_openText_4 shc_1 ck_X11_101 cv_X8_open rfl (by decide) (Nat.le_of_ble_eq_true rfl) (C_X8_open (g := g) hw1) rfl ?_
  refine E_aload_n (M := mX11_openText) 8 rfl dX11_openText_7 rfl 0 rfl ?_
  replace h := Option.bind_eq_some_iff.mp h
  obtain ⟨v2, hv2, h⟩ := h
  refine E_hs (M := mX11_openText) 11 rfl dX11_openText_8 shc_0 fl_X11_44 rfl hv2 ?_
  refine E_aload_n (M := mX11_openText) 12 rfl dX11_openText_11 rfl 0 rfl ?_
  replace h := Option.bind_eq_some_iff.mp h
  obtain ⟨v3, hv3, h⟩ := h
  refine E_hs (M := mX11_openText) 15 rfl dX11_openText_12 shc_0 fl_X11_40 rfl hv3 ?_
  replace h := Option.bind_eq_some_iff.mp h
  obtain ⟨w4, hw4, h⟩ := h
  refine E_cV0 (M := mX11_openText) (As := [.ref v3]) 18 rfl dX11_openText_15 (sh_H (hsO_s hv2).1) ck_X11_104 cv_X3_copyFrom rfl (by decide) (Nat.le_of_ble_eq_true rfl) (C_X3_copyFrom (g := g) (hsO_s hv2).1 (hsO_s hv3).1 hw4) rfl ?_
  cases h
  exact E_vret (M := mX11_openText) rfl dX11_openText_18
theorem C_X11_openText {g : Gx} {I : MI} {L : ML} {res : MI × ML} (h : f_X11_openText I L = some res) : Ent g 7 0 mX11_openText [.ref 0] (I, L) (.inl none) (res.1, res.2) := Ent_of (by decide +kernel) (Nat.le_of_ble_eq_true rfl) (S_X11_openText I L _ h)
def f_X11_takeDraft (I : MI) (L : ML) : Option (MI × ML) := Option.bind (hsO (I 0 4)) fun v1 => Option.bind (hsO (I 0 5)) fun v2 => Option.bind (pfI I 0 4 (nI v2)) fun I3 => Option.bind (pfI I3 0 5 (nI v1)) fun I4 => Option.bind (f_X0_forget I4 L) fun w5 => some (w5.1, w5.2)
set_option maxRecDepth 100000 in
theorem S_X11_takeDraft {g : Gx} (I : MI) (L : ML) (res : MI × ML) (h : f_X11_takeDraft I L = some res) : E g 2 0 mX11_takeDraft 0 [(0, .ref 0)] [] (I, L) (.inl none) (res.1, res.2) := by
  unfold f_X11_takeDraft at h
  refine E_aload_n (M := mX11_takeDraft) 1 rfl dX11_takeDraft_0 rfl 0 rfl ?_
  replace h := Option.bind_eq_some_iff.mp h
  obtain ⟨v1, hv1, h⟩ := h
  refine E_hs (M := mX11_takeDraft) 4 rfl dX11_takeDraft_1 shc_0 fl_X11_40 rfl hv1 ?_
  refine E_astore_n (M := mX11_takeDraft) (lv' := [(1, .ref v1), (0, .ref 0)]) 5 rfl dX11_takeDraft_4 rfl (Nat.le_of_ble_eq_true rfl) rfl ?_
  refine E_aload_n (M := mX11_takeDraft) 6 rfl dX11_takeDraft_5 rfl 1 rfl ?_
  refine E_aload_n (M := mX11_takeDraft) 7 rfl dX11_takeDraft_6 rfl 1 rfl ?_
  replace h := Option.bind_eq_some_iff.mp h
  obtain ⟨v2, hv2, h⟩ := h
  refine E_hs (M := mX11_takeDraft) 10 rfl dX11_takeDraft_7 shc_0 fl_X11_44 rfl hv2 ?_
  replace h := Option.bind_eq_some_iff.mp h
  obtain ⟨I3, hI3, h⟩ := h
  refine E_pfD (M := mX11_takeDraft) 13 rfl dX11_takeDraft_10 shc_0 fl_X11_40 rfl (H_lt0 (hsO_s hv2).1) hI3 ?_
  refine E_aload_n (M := mX11_takeDraft) 14 rfl dX11_takeDraft_13 rfl 1 rfl ?_
  refine E_aload_n (M := mX11_takeDraft) 15 rfl dX11_takeDraft_14 rfl 0 rfl ?_
  replace h := Option.bind_eq_some_iff.mp h
  obtain ⟨I4, hI4, h⟩ := h
  refine E_pfD (M := mX11_takeDraft) 18 rfl dX11_takeDraft_15 shc_0 fl_X11_44 rfl (H_lt0 (hsO_s hv1).1) hI4 ?_
  refine E_aload_n (M := mX11_takeDraft) 19 rfl dX11_takeDraft_18 rfl 1 rfl ?_
  refine E_gR (M := mX11_takeDraft) 3 22 rfl dX11_takeDraft_19 shc_0 fl_X11_19 rfl (by decide) (by decide) ?_
  replace h := Option.bind_eq_some_iff.mp h
  obtain ⟨w5, hw5, h⟩ := h
  refine E_cV0 (M := mX11_takeDraft) (As := []) 25 rfl dX11_takeDraft_22 shc_3 ck_X11_108 cv_X0_forget rfl (by decide) (Nat.le_of_ble_eq_true rfl) (C_X0_forget (g := g) hw5) rfl ?_
  cases h
  exact E_vret (M := mX11_takeDraft) rfl dX11_takeDraft_25
theorem C_X11_takeDraft {g : Gx} {I : MI} {L : ML} {res : MI × ML} (h : f_X11_takeDraft I L = some res) : Ent g 2 0 mX11_takeDraft [.ref 0] (I, L) (.inl none) (res.1, res.2) := Ent_of (by decide +kernel) (Nat.le_of_ble_eq_true rfl) (S_X11_takeDraft I L _ h)
def f_X11_house (I : MI) (L : ML) : Option ((String ⊕ Int32) × MI × ML) := Option.bind (f_X11_openText I L) fun w1 => Option.bind (hsO (w1.1 0 5)) fun v2 => Option.bind (f_X4_read v2 w1.1 w1.2) fun w3 => xc w3 fun _ => Option.bind (hsO (w3.2.1 0 4)) fun v6 => if (w3.2.1 v6 11) < 10 then (Option.bind (hsO (w3.2.1 0 5)) fun v8 => Option.bind (pfI w3.2.1 v8 11 ((w3.2.1 v8 11) + 1)) fun I9 => Option.bind (hsO (I9 0 5)) fun v10 => Option.bind (f_X3_findWays v10 I9 w3.2.2) fun w11 => Option.bind (f_X11_takeDraft w11.1 w11.2) fun w12 => Option.bind (hsO (w12.1 0 4)) fun v13 => some (.inr (w12.1 v13 11), w12.1, w12.2)) else (some (.inl "java/lang/UnsupportedOperationException", w3.2.1, w3.2.2))
set_option maxRecDepth 100000 in
theorem S_X11_house {g : Gx} (I : MI) (L : ML) (res : (String ⊕ Int32) × MI × ML) (h : f_X11_house I L = some res) : E g 12 (bS res.1) mX11_house 0 [(0, .ref 0)] [] (I, L) (rI res.1) (res.2.1, res.2.2) := by
  unfold f_X11_house at h
  refine E_aload_n (M := mX11_house) 1 rfl dX11_house_0 rfl 0 rfl ?_
  replace h := Option.bind_eq_some_iff.mp h
  obtain ⟨w1, hw1, h⟩ := h
  refine E_cV0 (M := mX11_house) (As := []) 4 rfl dX11_house_1 shc_0 ck_X11_62 cv_X11_openText rfl (by decide) (Nat.le_of_ble_eq_true rfl) (C_X11_openText (g := g) hw1) rfl ?_
  refine E_aload_n (M := mX11_house) 5 rfl dX11_house_4 rfl 0 rfl ?_
  refine E_gR (M := mX11_house) 1 8 rfl dX11_house_5 shc_0 fl_X11_10 rfl (by decide) (by decide) ?_
  refine E_aload_n (M := mX11_house) 9 rfl dX11_house_8 rfl 0 rfl ?_
  replace h := Option.bind_eq_some_iff.mp h
  obtain ⟨v2, hv2, h⟩ := h
  refine E_hs (M := mX11_house) 12 rfl dX11_house_9 shc_0 fl_X11_44 rfl hv2 ?_
  replace h := Option.bind_eq_some_iff.mp h
  obtain ⟨w3, hw3, h⟩ := h
  replace h := xc_s h
  rcases h with ⟨ex4, hex4, rfl⟩ | ⟨v5, hv5, h⟩
  · have hc := (C_X4_read (g := g) (hsO_s hv2).1 hw3)
    rw [hex4] at hc
    exact E_callSX (M := mX11_house) (As := [.ref 1, .ref v2]) dX11_house_12 ck_X11_65 ss_X4_read rfl (by decide) (Nat.le_of_ble_eq_true rfl) hc rfl
  have hcv5 := (C_X4_read (g := g) (hsO_s hv2).1 hw3)
  rw [hv5] at hcv5
  refine E_cS0 (M := mX11_house) (As := [.ref 1, .ref v2]) 15 rfl dX11_house_12 ck_X11_65 ss_X4_read rfl (by decide) (Nat.le_of_ble_eq_true rfl) hcv5 rfl ?_
  refine E_aload_n (M := mX11_house) 16 rfl dX11_house_15 rfl 0 rfl ?_
  replace h := Option.bind_eq_some_iff.mp h
  obtain ⟨v6, hv6, h⟩ := h
  refine E_hs (M := mX11_house) 19 rfl dX11_house_16 shc_0 fl_X11_40 rfl hv6 ?_
  refine E_gI (M := mX11_house) 22 rfl dX11_house_19 (sh_H (hsO_s hv6).1) fl_X11_71 rfl ?_
  refine E_bipush (M := mX11_house) (v := 10) 24 rfl dX11_house_22 (by decide) ?_
  refine E_icmp_lt (M := mX11_house) 37 27 (by decide) rfl dX11_house_24 (fun c7 => ?_) (fun c7 => ?_)
  · rw [if_pos c7] at h
    refine E_aload_n (M := mX11_house) 38 rfl dX11_house_37 rfl 0 rfl ?_
    replace h := Option.bind_eq_some_iff.mp h
    obtain ⟨v8, hv8, h⟩ := h
    refine E_hs (M := mX11_house) 41 rfl dX11_house_38 shc_0 fl_X11_44 rfl hv8 ?_
    refine E_dup (M := mX11_house) 42 rfl dX11_house_41 rfl ?_
    refine E_gI (M := mX11_house) 45 rfl dX11_house_42 (sh_H (hsO_s hv8).1) fl_X11_71 rfl ?_
    refine E_iconst (M := mX11_house) (v := 1) 46 rfl dX11_house_45 (by decide) ?_
    refine E_iadd (M := mX11_house) 47 rfl dX11_house_46 ?_
    replace h := Option.bind_eq_some_iff.mp h
    obtain ⟨I9, hI9, h⟩ := h
    refine E_pfI (M := mX11_house) 50 rfl dX11_house_47 (sh_H (hsO_s hv8).1) fl_X11_71 rfl hI9 ?_
    refine E_aload_n (M := mX11_house) 51 rfl dX11_house_50 rfl 0 rfl ?_
    replace h := Option.bind_eq_some_iff.mp h
    obtain ⟨v10, hv10, h⟩ := h
    refine E_hs (M := mX11_house) 54 rfl dX11_house_51 shc_0 fl_X11_44 rfl hv10 ?_
    replace h := Option.bind_eq_some_iff.mp h
    obtain ⟨w11, hw11, h⟩ := h
    refine E_cV0 (M := mX11_house) (As := []) 57 rfl dX11_house_54 (sh_H (hsO_s hv10).1) ck_X11_81 cv_X3_findWays rfl (by decide) (Nat.le_of_ble_eq_true rfl) (C_X3_findWays (g := g) (hsO_s hv10).1 hw11) rfl ?_
    refine E_aload_n (M := mX11_house) 58 rfl dX11_house_57 rfl 0 rfl ?_
    replace h := Option.bind_eq_some_iff.mp h
    obtain ⟨w12, hw12, h⟩ := h
    refine E_cV0 (M := mX11_house) (As := []) 61 rfl dX11_house_58 shc_0 ck_X11_84 cv_X11_takeDraft rfl (by decide) (Nat.le_of_ble_eq_true rfl) (C_X11_takeDraft (g := g) hw12) rfl ?_
    refine E_aload_n (M := mX11_house) 62 rfl dX11_house_61 rfl 0 rfl ?_
    replace h := Option.bind_eq_some_iff.mp h
    obtain ⟨v13, hv13, h⟩ := h
    refine E_hs (M := mX11_house) 65 rfl dX11_house_62 shc_0 fl_X11_40 rfl hv13 ?_
    refine E_gI (M := mX11_house) 68 rfl dX11_house_65 (sh_H (hsO_s hv13).1) fl_X11_71 rfl ?_
    cases h
    exact E_iret (M := mX11_house) rfl dX11_house_68
  · rw [if_neg c7] at h
    cases h
    exact E_throw (M := mX11_house) (i := 16) tk_X11_78 rfl dX11_house_27 dX11_house_30 dX11_house_31 dX11_house_33 dX11_house_36 (by decide)
theorem C_X11_house {g : Gx} {I : MI} {L : ML} {res : (String ⊕ Int32) × MI × ML} (h : f_X11_house I L = some res) : Ent g 12 (bS res.1) mX11_house [.ref 0] (I, L) (rI res.1) (res.2.1, res.2.2) := Ent_of (by decide +kernel) (Nat.le_of_ble_eq_true rfl) (S_X11_house I L _ h)
def f_X11_will (I : MI) (L : ML) : Option ((String ⊕ Int32) × MI × ML) := Option.bind (f_X11_openText I L) fun w1 => Option.bind (hsO (w1.1 0 5)) fun v2 => Option.bind (f_X10_read v2 w1.1 w1.2) fun w3 => xc w3 fun _ => Option.bind (f_X11_takeDraft w3.2.1 w3.2.2) fun w6 => Option.bind (hsO (w6.1 0 4)) fun v7 => some (.inr (w6.1 (v7 + 5) 4), w6.1, w6.2)
set_option maxRecDepth 100000 in
theorem S_X11_will {g : Gx} (I : MI) (L : ML) (res : (String ⊕ Int32) × MI × ML) (h : f_X11_will I L = some res) : E g 51 (bS res.1) mX11_will 0 [(0, .ref 0)] [] (I, L) (rI res.1) (res.2.1, res.2.2) := by
  unfold f_X11_will at h
  refine E_aload_n (M := mX11_will) 1 rfl dX11_will_0 rfl 0 rfl ?_
  replace h := Option.bind_eq_some_iff.mp h
  obtain ⟨w1, hw1, h⟩ := h
  refine E_cV0 (M := mX11_will) (As := []) 4 rfl dX11_will_1 shc_0 ck_X11_62 cv_X11_openText rfl (by decide) (Nat.le_of_ble_eq_true rfl) (C_X11_openText (g := g) hw1) rfl ?_
  refine E_aload_n (M := mX11_will) 5 rfl dX11_will_4 rfl 0 rfl ?_
  refine E_gR (M := mX11_will) 1 8 rfl dX11_will_5 shc_0 fl_X11_10 rfl (by decide) (by decide) ?_
  refine E_aload_n (M := mX11_will) 9 rfl dX11_will_8 rfl 0 rfl ?_
  replace h := Option.bind_eq_some_iff.mp h
  obtain ⟨v2, hv2, h⟩ := h
  refine E_hs (M := mX11_will) 12 rfl dX11_will_9 shc_0 fl_X11_44 rfl hv2 ?_
  refine E_gR (M := mX11_will) (v2 + 5) 15 rfl dX11_will_12 (sh_H (hsO_s hv2).1) fl_X11_87 rfl (rt_H8 (hsO_s hv2).1) (H_lt (hsO_s hv2).1 5 (by decide)) ?_
  replace h := Option.bind_eq_some_iff.mp h
  obtain ⟨w3, hw3, h⟩ := h
  replace h := xc_s h
  rcases h with ⟨ex4, hex4, rfl⟩ | ⟨v5, hv5, h⟩
  · have hc := (C_X10_read (g := g) (hsO_s hv2).1 hw3)
    rw [hex4] at hc
    exact E_callSX (M := mX11_will) (As := [.ref 1, .ref (v2 + 5)]) dX11_will_15 ck_X11_91 ss_X10_read rfl (by decide) (Nat.le_of_ble_eq_true rfl) hc rfl
  have hcv5 := (C_X10_read (g := g) (hsO_s hv2).1 hw3)
  rw [hv5] at hcv5
  refine E_cS0 (M := mX11_will) (As := [.ref 1, .ref (v2 + 5)]) 18 rfl dX11_will_15 ck_X11_91 ss_X10_read rfl (by decide) (Nat.le_of_ble_eq_true rfl) hcv5 rfl ?_
  refine E_aload_n (M := mX11_will) 19 rfl dX11_will_18 rfl 0 rfl ?_
  replace h := Option.bind_eq_some_iff.mp h
  obtain ⟨w6, hw6, h⟩ := h
  refine E_cV0 (M := mX11_will) (As := []) 22 rfl dX11_will_19 shc_0 ck_X11_84 cv_X11_takeDraft rfl (by decide) (Nat.le_of_ble_eq_true rfl) (C_X11_takeDraft (g := g) hw6) rfl ?_
  refine E_aload_n (M := mX11_will) 23 rfl dX11_will_22 rfl 0 rfl ?_
  replace h := Option.bind_eq_some_iff.mp h
  obtain ⟨v7, hv7, h⟩ := h
  refine E_hs (M := mX11_will) 26 rfl dX11_will_23 shc_0 fl_X11_40 rfl hv7 ?_
  refine E_gR (M := mX11_will) (v7 + 5) 29 rfl dX11_will_26 (sh_H (hsO_s hv7).1) fl_X11_87 rfl (rt_H8 (hsO_s hv7).1) (H_lt (hsO_s hv7).1 5 (by decide)) ?_
  refine E_gI (M := mX11_will) 32 rfl dX11_will_29 (sh_H5 (hsO_s hv7).1) fl_X11_96 rfl ?_
  cases h
  exact E_iret (M := mX11_will) rfl dX11_will_32
theorem C_X11_will {g : Gx} {I : MI} {L : ML} {res : (String ⊕ Int32) × MI × ML} (h : f_X11_will I L = some res) : Ent g 51 (bS res.1) mX11_will [.ref 0] (I, L) (rI res.1) (res.2.1, res.2.2) := Ent_of (by decide +kernel) (Nat.le_of_ble_eq_true rfl) (S_X11_will I L _ h)
def f_X11_fault (I : MI) (L : ML) : Option (Int32) := some (I 1 7)
set_option maxRecDepth 100000 in
theorem S_X11_fault {g : Gx} (I : MI) (L : ML) (res : Int32) (h : f_X11_fault I L = some res) : E g 1 0 mX11_fault 0 [(0, .ref 0)] [] (I, L) (.inl (some (.int res))) (I, L) := by
  unfold f_X11_fault at h
  refine E_aload_n (M := mX11_fault) 1 rfl dX11_fault_0 rfl 0 rfl ?_
  refine E_gR (M := mX11_fault) 1 4 rfl dX11_fault_1 shc_0 fl_X11_10 rfl (by decide) (by decide) ?_
  refine E_gI (M := mX11_fault) 7 rfl dX11_fault_4 shc_1 fl_X11_111 rfl ?_
  cases h
  exact E_iret (M := mX11_fault) rfl dX11_fault_7
theorem C_X11_fault {g : Gx} {I : MI} {L : ML} {res : Int32} (h : f_X11_fault I L = some res) : Ent g 1 0 mX11_fault [.ref 0] (I, L) (.inl (some (.int res))) (I, L) := Ent_of (by decide +kernel) (Nat.le_of_ble_eq_true rfl) (S_X11_fault I L _ h)
def f_X11_needRoom (x1 : Int32) (I : MI) (L : ML) : Option ((String ⊕ Unit) × MI × ML) := Option.bind (hsO (I 0 4)) fun v1 => Option.bind (f_X3_hasRoom v1 x1 I L) fun v2 => if v2 = true then (some (.inr (), I, L)) else (some (.inl "java/lang/IndexOutOfBoundsException", I, L))
set_option maxRecDepth 100000 in
theorem S_X11_needRoom {g : Gx} (x1 : Int32) (I : MI) (L : ML) (res : (String ⊕ Unit) × MI × ML) (h : f_X11_needRoom x1 I L = some res) : E g 6 (bS res.1) mX11_needRoom 0 [(0, .ref 0), (1, .int x1)] [] (I, L) (rU res.1) (res.2.1, res.2.2) := by
  unfold f_X11_needRoom at h
  refine E_aload_n (M := mX11_needRoom) 1 rfl dX11_needRoom_0 rfl 0 rfl ?_
  replace h := Option.bind_eq_some_iff.mp h
  obtain ⟨v1, hv1, h⟩ := h
  refine E_hs (M := mX11_needRoom) 4 rfl dX11_needRoom_1 shc_0 fl_X11_40 rfl hv1 ?_
  refine E_iload_n (M := mX11_needRoom) 5 rfl dX11_needRoom_4 rfl 1 rfl ?_
  replace h := Option.bind_eq_some_iff.mp h
  obtain ⟨v2, hv2, h⟩ := h
  refine E_cV1 (M := mX11_needRoom) (As := [.int x1]) 8 rfl dX11_needRoom_5 (sh_H (hsO_s hv1).1) ck_X11_354 cv_X3_hasRoom rfl (by decide) (Nat.le_of_ble_eq_true rfl) (C_X3_hasRoom (g := g) (hsO_s hv1).1 hv2) rfl ?_
  refine E_if_neB (M := mX11_needRoom) 22 11 (by decide) rfl dX11_needRoom_8 (fun c3 => ?_) (fun c3 => ?_)
  · rw [if_pos c3] at h
    cases h
    exact E_vret (M := mX11_needRoom) rfl dX11_needRoom_22
  · rw [if_neg (by rw [c3]; decide)] at h
    cases h
    exact E_throwW (M := mX11_needRoom) (i := 32) tk_X11_403 rfl dX11_needRoom_11 dX11_needRoom_14 dX11_needRoom_15 dX11_needRoom_18 dX11_needRoom_21 (by decide)
theorem C_X11_needRoom {g : Gx} {x1 : Int32} {I : MI} {L : ML} {res : (String ⊕ Unit) × MI × ML} (h : f_X11_needRoom x1 I L = some res) : Ent g 6 (bS res.1) mX11_needRoom [.ref 0, .int x1] (I, L) (rU res.1) (res.2.1, res.2.2) := Ent_of (by decide +kernel) (Nat.le_of_ble_eq_true rfl) (S_X11_needRoom x1 I L _ h)
def f_X11_room (x1 : Int32) (x2 : Int32) (I : MI) (L : ML) : Option ((String ⊕ Int32) × MI × ML) := Option.bind (f_X11_needRoom x1 I L) fun w1 => xc w1 fun _ => if x2 = 0 then (Option.bind (hsO (w1.2.1 0 4)) fun v5 => Option.bind (ldI w1.2.1 (v5 + 1) 10 x1) fun v6 => some (.inr v6, w1.2.1, w1.2.2)) else if x2 = 1 then (Option.bind (hsO (w1.2.1 0 4)) fun v8 => Option.bind (f_X3_doorsOf v8 x1 w1.2.1 w1.2.2) fun v9 => some (.inr v9, w1.2.1, w1.2.2)) else if x2 = 2 then (Option.bind (hsO (w1.2.1 0 4)) fun v11 => Option.bind (f_X3_sittingIn v11 x1 w1.2.1 w1.2.2) fun v12 => some (.inr v12, w1.2.1, w1.2.2)) else if x2 = 3 then (Option.bind (hsO (w1.2.1 0 4)) fun v14 => Option.bind (f_X3_loudnessOf v14 x1 w1.2.1 w1.2.2) fun v15 => some (.inr v15, w1.2.1, w1.2.2)) else (some (.inl "java/util/NoSuchElementException", w1.2.1, w1.2.2))
set_option maxRecDepth 100000 in
theorem S_X11_room {g : Gx} (x1 : Int32) (x2 : Int32) (I : MI) (L : ML) (res : (String ⊕ Int32) × MI × ML) (h : f_X11_room x1 x2 I L = some res) : E g 8 (bS res.1) mX11_room 0 [(0, .ref 0), (1, .int x1), (2, .int x2)] [] (I, L) (rI res.1) (res.2.1, res.2.2) := by
  unfold f_X11_room at h
  refine E_aload_n (M := mX11_room) 1 rfl dX11_room_0 rfl 0 rfl ?_
  refine E_iload_n (M := mX11_room) 2 rfl dX11_room_1 rfl 1 rfl ?_
  replace h := Option.bind_eq_some_iff.mp h
  obtain ⟨w1, hw1, h⟩ := h
  replace h := xc_s h
  rcases h with ⟨ex2, hex2, rfl⟩ | ⟨v3, hv3, h⟩
  · have hc := (C_X11_needRoom (g := g) hw1)
    rw [hex2] at hc
    exact E_callVX (M := mX11_room) (As := [.int x1]) dX11_room_2 shc_0 ck_X11_114 cv_X11_needRoom rfl (by decide) (Nat.le_of_ble_eq_true rfl) hc rfl
  have hcv3 := (C_X11_needRoom (g := g) hw1)
  rw [hv3] at hcv3
  refine E_cV0 (M := mX11_room) (As := [.int x1]) 5 rfl dX11_room_2 shc_0 ck_X11_114 cv_X11_needRoom rfl (by decide) (Nat.le_of_ble_eq_true rfl) hcv3 rfl ?_
  refine E_iload_n (M := mX11_room) 6 rfl dX11_room_5 rfl 2 rfl ?_
  by_cases c4 : x2 = 0
  · rw [if_pos c4] at h
    refine E_tsIn (M := mX11_room) (off := 30) 0 c4 36 (by decide) (by decide) (by decide) rfl dX11_room_6 ?_
    refine E_aload_n (M := mX11_room) 37 rfl dX11_room_36 rfl 0 rfl ?_
    replace h := Option.bind_eq_some_iff.mp h
    obtain ⟨v5, hv5, h⟩ := h
    refine E_hs (M := mX11_room) 40 rfl dX11_room_37 shc_0 fl_X11_40 rfl hv5 ?_
    refine E_gR (M := mX11_room) (v5 + 1) 43 rfl dX11_room_40 (sh_H (hsO_s hv5).1) fl_X11_117 rfl (rt_H4 (hsO_s hv5).1) (H_lt (hsO_s hv5).1 1 (by decide)) ?_
    refine E_iload_n (M := mX11_room) 44 rfl dX11_room_43 rfl 1 rfl ?_
    replace h := Option.bind_eq_some_iff.mp h
    obtain ⟨v6, hv6, h⟩ := h
    refine E_ldI (M := mX11_room) 45 rfl dX11_room_44 (sh_H1 (hsO_s hv5).1) hv6 ?_
    cases h
    exact E_iret (M := mX11_room) rfl dX11_room_45
  rw [if_neg c4] at h
  by_cases c7 : x2 = 1
  · rw [if_pos c7] at h
    refine E_tsIn (M := mX11_room) (off := 40) 1 c7 46 (by decide) (by decide) (by decide) rfl dX11_room_6 ?_
    refine E_aload_n (M := mX11_room) 47 rfl dX11_room_46 rfl 0 rfl ?_
    replace h := Option.bind_eq_some_iff.mp h
    obtain ⟨v8, hv8, h⟩ := h
    refine E_hs (M := mX11_room) 50 rfl dX11_room_47 shc_0 fl_X11_40 rfl hv8 ?_
    refine E_iload_n (M := mX11_room) 51 rfl dX11_room_50 rfl 1 rfl ?_
    replace h := Option.bind_eq_some_iff.mp h
    obtain ⟨v9, hv9, h⟩ := h
    refine E_cV1 (M := mX11_room) (As := [.int x1]) 54 rfl dX11_room_51 (sh_H (hsO_s hv8).1) ck_X11_121 cv_X3_doorsOf rfl (by decide) (Nat.le_of_ble_eq_true rfl) (C_X3_doorsOf (g := g) (hsO_s hv8).1 hv9) rfl ?_
    cases h
    exact E_iret (M := mX11_room) rfl dX11_room_54
  rw [if_neg c7] at h
  by_cases c10 : x2 = 2
  · rw [if_pos c10] at h
    refine E_tsIn (M := mX11_room) (off := 49) 2 c10 55 (by decide) (by decide) (by decide) rfl dX11_room_6 ?_
    refine E_aload_n (M := mX11_room) 56 rfl dX11_room_55 rfl 0 rfl ?_
    replace h := Option.bind_eq_some_iff.mp h
    obtain ⟨v11, hv11, h⟩ := h
    refine E_hs (M := mX11_room) 59 rfl dX11_room_56 shc_0 fl_X11_40 rfl hv11 ?_
    refine E_iload_n (M := mX11_room) 60 rfl dX11_room_59 rfl 1 rfl ?_
    replace h := Option.bind_eq_some_iff.mp h
    obtain ⟨v12, hv12, h⟩ := h
    refine E_cV1 (M := mX11_room) (As := [.int x1]) 63 rfl dX11_room_60 (sh_H (hsO_s hv11).1) ck_X11_125 cv_X3_sittingIn rfl (by decide) (Nat.le_of_ble_eq_true rfl) (C_X3_sittingIn (g := g) (hsO_s hv11).1 hv12) rfl ?_
    cases h
    exact E_iret (M := mX11_room) rfl dX11_room_63
  rw [if_neg c10] at h
  by_cases c13 : x2 = 3
  · rw [if_pos c13] at h
    refine E_tsIn (M := mX11_room) (off := 58) 3 c13 64 (by decide) (by decide) (by decide) rfl dX11_room_6 ?_
    refine E_aload_n (M := mX11_room) 65 rfl dX11_room_64 rfl 0 rfl ?_
    replace h := Option.bind_eq_some_iff.mp h
    obtain ⟨v14, hv14, h⟩ := h
    refine E_hs (M := mX11_room) 68 rfl dX11_room_65 shc_0 fl_X11_40 rfl hv14 ?_
    refine E_iload_n (M := mX11_room) 69 rfl dX11_room_68 rfl 1 rfl ?_
    replace h := Option.bind_eq_some_iff.mp h
    obtain ⟨v15, hv15, h⟩ := h
    refine E_cV1 (M := mX11_room) (As := [.int x1]) 72 rfl dX11_room_69 (sh_H (hsO_s hv14).1) ck_X11_128 cv_X3_loudnessOf rfl (by decide) (Nat.le_of_ble_eq_true rfl) (C_X3_loudnessOf (g := g) (hsO_s hv14).1 hv15) rfl ?_
    cases h
    exact E_iret (M := mX11_room) rfl dX11_room_72
  rw [if_neg c13] at h
  refine E_tsOut (M := mX11_room) 4 (by decide) (fun i hi => match i, hi with | 0, _ => toI c4 (by decide) | 1, _ => toI c7 (by decide) | 2, _ => toI c10 (by decide) | 3, _ => toI c13 (by decide) | (n + 4), hi => absurd hi (by omega)) 73 (by decide) dX11_room_6 ?_
  cases h
  exact E_throwN (M := mX11_room) (i := 33) nk_X11_135 rfl dX11_room_73 dX11_room_76 dX11_room_77 dX11_room_79 dX11_room_82 (by decide)
theorem C_X11_room {g : Gx} {x1 : Int32} {x2 : Int32} {I : MI} {L : ML} {res : (String ⊕ Int32) × MI × ML} (h : f_X11_room x1 x2 I L = some res) : Ent g 8 (bS res.1) mX11_room [.ref 0, .int x1, .int x2] (I, L) (rI res.1) (res.2.1, res.2.2) := Ent_of (by decide +kernel) (Nat.le_of_ble_eq_true rfl) (S_X11_room x1 x2 I L _ h)
def f_X11_needHeir_15 (I : MI) (L : ML) : Option ((String ⊕ Unit) × MI × ML) := some (.inl "java/lang/IndexOutOfBoundsException", I, L)
set_option maxRecDepth 100000 in
theorem S_X11_needHeir_15 {g : Gx} (I : MI) (L : ML) (res : (String ⊕ Unit) × MI × ML) (h : f_X11_needHeir_15 I L = some res) : E g 6 (bS res.1) mX11_needHeir 15 [] [] (I, L) (rU res.1) (res.2.1, res.2.2) := by
  unfold f_X11_needHeir_15 at h
  cases h
  exact E_throwW (M := mX11_needHeir) (i := 34) tk_X11_403 rfl dX11_needHeir_15 dX11_needHeir_18 dX11_needHeir_19 dX11_needHeir_22 dX11_needHeir_25 (by decide)
def f_X11_needHeir (x1 : Int32) (I : MI) (L : ML) : Option ((String ⊕ Unit) × MI × ML) := if x1 < 0 then (f_X11_needHeir_15 I L) else (Option.bind (hsO (I 0 4)) fun v2 => if x1 < (I v2 2) then (some (.inr (), I, L)) else (f_X11_needHeir_15 I L))
set_option maxRecDepth 100000 in
theorem S_X11_needHeir {g : Gx} (x1 : Int32) (I : MI) (L : ML) (res : (String ⊕ Unit) × MI × ML) (h : f_X11_needHeir x1 I L = some res) : E g 6 (bS res.1) mX11_needHeir 0 [(0, .ref 0), (1, .int x1)] [] (I, L) (rU res.1) (res.2.1, res.2.2) := by
  unfold f_X11_needHeir at h
  refine E_iload_n (M := mX11_needHeir) 1 rfl dX11_needHeir_0 rfl 1 rfl ?_
  refine E_if_lt (M := mX11_needHeir) 15 4 (by decide) rfl dX11_needHeir_1 (fun c1 => ?_) (fun c1 => ?_)
  · rw [if_pos c1] at h
    refine E_sub (M := mX11_needHeir) (lv' := []) [] rfl ?_
    exact S_X11_needHeir_15 I L _ h
  · rw [if_neg c1] at h
    refine E_iload_n (M := mX11_needHeir) 5 rfl dX11_needHeir_4 rfl 1 rfl ?_
    refine E_aload_n (M := mX11_needHeir) 6 rfl dX11_needHeir_5 rfl 0 rfl ?_
    replace h := Option.bind_eq_some_iff.mp h
    obtain ⟨v2, hv2, h⟩ := h
    refine E_hs (M := mX11_needHeir) 9 rfl dX11_needHeir_6 shc_0 fl_X11_40 rfl hv2 ?_
    refine E_gI (M := mX11_needHeir) 12 rfl dX11_needHeir_9 (sh_H (hsO_s hv2).1) fl_X11_264 rfl ?_
    refine E_icmp_lt (M := mX11_needHeir) 26 15 (by decide) rfl dX11_needHeir_12 (fun c3 => ?_) (fun c3 => ?_)
    · rw [if_pos c3] at h
      cases h
      exact E_vret (M := mX11_needHeir) rfl dX11_needHeir_26
    · rw [if_neg c3] at h
      refine E_sub (M := mX11_needHeir) (lv' := []) [] rfl ?_
      exact S_X11_needHeir_15 I L _ h
theorem C_X11_needHeir {g : Gx} {x1 : Int32} {I : MI} {L : ML} {res : (String ⊕ Unit) × MI × ML} (h : f_X11_needHeir x1 I L = some res) : Ent g 6 (bS res.1) mX11_needHeir [.ref 0, .int x1] (I, L) (rU res.1) (res.2.1, res.2.2) := Ent_of (by decide +kernel) (Nat.le_of_ble_eq_true rfl) (S_X11_needHeir x1 I L _ h)
def f_X11_heir (x1 : Int32) (x2 : Int32) (I : MI) (L : ML) : Option ((String ⊕ Int32) × MI × ML) := Option.bind (f_X11_needHeir x1 I L) fun w1 => xc w1 fun _ => Option.bind (hsO (w1.2.1 0 4)) fun v4 => Option.bind (ldR (v4 + 27) 6 x1) fun v5 => if x2 = 0 then (some (.inr (w1.2.1 v5 0), w1.2.1, w1.2.2)) else if x2 = 1 then (some (.inr (w1.2.1 v5 1), w1.2.1, w1.2.2)) else if x2 = 2 then (some (.inr (w1.2.1 v5 2), w1.2.1, w1.2.2)) else if x2 = 3 then (Option.bind (hsO (w1.2.1 0 4)) fun v10 => Option.bind (f_X3_heardBy v10 v5 w1.2.1 w1.2.2) fun v11 => some (.inr v11, w1.2.1, w1.2.2)) else (some (.inl "java/util/NoSuchElementException", w1.2.1, w1.2.2))
set_option maxRecDepth 100000 in
theorem S_X11_heir {g : Gx} (x1 : Int32) (x2 : Int32) (I : MI) (L : ML) (res : (String ⊕ Int32) × MI × ML) (h : f_X11_heir x1 x2 I L = some res) : E g 8 (bS res.1) mX11_heir 0 [(0, .ref 0), (1, .int x1), (2, .int x2)] [] (I, L) (rI res.1) (res.2.1, res.2.2) := by
  unfold f_X11_heir at h
  refine E_aload_n (M := mX11_heir) 1 rfl dX11_heir_0 rfl 0 rfl ?_
  refine E_iload_n (M := mX11_heir) 2 rfl dX11_heir_1 rfl 1 rfl ?_
  replace h := Option.bind_eq_some_iff.mp h
  obtain ⟨w1, hw1, h⟩ := h
  replace h := xc_s h
  rcases h with ⟨ex2, hex2, rfl⟩ | ⟨v3, hv3, h⟩
  · have hc := (C_X11_needHeir (g := g) hw1)
    rw [hex2] at hc
    exact E_callVX (M := mX11_heir) (As := [.int x1]) dX11_heir_2 shc_0 ck_X11_136 cv_X11_needHeir rfl (by decide) (Nat.le_of_ble_eq_true rfl) hc rfl
  have hcv3 := (C_X11_needHeir (g := g) hw1)
  rw [hv3] at hcv3
  refine E_cV0 (M := mX11_heir) (As := [.int x1]) 5 rfl dX11_heir_2 shc_0 ck_X11_136 cv_X11_needHeir rfl (by decide) (Nat.le_of_ble_eq_true rfl) hcv3 rfl ?_
  refine E_aload_n (M := mX11_heir) 6 rfl dX11_heir_5 rfl 0 rfl ?_
  replace h := Option.bind_eq_some_iff.mp h
  obtain ⟨v4, hv4, h⟩ := h
  refine E_hs (M := mX11_heir) 9 rfl dX11_heir_6 shc_0 fl_X11_40 rfl hv4 ?_
  refine E_gR (M := mX11_heir) (v4 + 3) 12 rfl dX11_heir_9 (sh_H (hsO_s hv4).1) fl_X11_139 rfl (rt_H6 (hsO_s hv4).1) (H_lt (hsO_s hv4).1 3 (by decide)) ?_
  refine E_iload_n (M := mX11_heir) 13 rfl dX11_heir_12 rfl 1 rfl ?_
  replace h := Option.bind_eq_some_iff.mp h
  obtain ⟨v5, hv5, h⟩ := h
  refine E_ldE (M := mX11_heir) (hsO_s hv4).1 14 rfl dX11_heir_13 hv5 ?_
  refine E_astore_n (M := mX11_heir) (lv' := [(3, .ref v5), (0, .ref 0), (1, .int x1), (2, .int x2)]) 15 rfl dX11_heir_14 rfl (Nat.le_of_ble_eq_true rfl) rfl ?_
  refine E_iload_n (M := mX11_heir) 16 rfl dX11_heir_15 rfl 3 rfl ?_
  by_cases c6 : x2 = 0
  · rw [if_pos c6] at h
    refine E_tsIn (M := mX11_heir) (off := 32) 0 c6 48 (by decide) (by decide) (by decide) rfl dX11_heir_16 ?_
    refine E_aload_n (M := mX11_heir) 49 rfl dX11_heir_48 rfl 0 rfl ?_
    refine E_gI (M := mX11_heir) 52 rfl dX11_heir_49 (sh_E (isE_ld (hsO_s hv4).1 hv5)) fl_X11_143 rfl ?_
    cases h
    exact E_iret (M := mX11_heir) rfl dX11_heir_52
  rw [if_neg c6] at h
  by_cases c7 : x2 = 1
  · rw [if_pos c7] at h
    refine E_tsIn (M := mX11_heir) (off := 37) 1 c7 53 (by decide) (by decide) (by decide) rfl dX11_heir_16 ?_
    refine E_aload_n (M := mX11_heir) 54 rfl dX11_heir_53 rfl 0 rfl ?_
    refine E_gI (M := mX11_heir) 57 rfl dX11_heir_54 (sh_E (isE_ld (hsO_s hv4).1 hv5)) fl_X11_148 rfl ?_
    cases h
    exact E_iret (M := mX11_heir) rfl dX11_heir_57
  rw [if_neg c7] at h
  by_cases c8 : x2 = 2
  · rw [if_pos c8] at h
    refine E_tsIn (M := mX11_heir) (off := 42) 2 c8 58 (by decide) (by decide) (by decide) rfl dX11_heir_16 ?_
    refine E_aload_n (M := mX11_heir) 59 rfl dX11_heir_58 rfl 0 rfl ?_
    refine E_gI (M := mX11_heir) 62 rfl dX11_heir_59 (sh_E (isE_ld (hsO_s hv4).1 hv5)) fl_X11_151 rfl ?_
    cases h
    exact E_iret (M := mX11_heir) rfl dX11_heir_62
  rw [if_neg c8] at h
  by_cases c9 : x2 = 3
  · rw [if_pos c9] at h
    refine E_tsIn (M := mX11_heir) (off := 47) 3 c9 63 (by decide) (by decide) (by decide) rfl dX11_heir_16 ?_
    refine E_aload_n (M := mX11_heir) 64 rfl dX11_heir_63 rfl 1 rfl ?_
    replace h := Option.bind_eq_some_iff.mp h
    obtain ⟨v10, hv10, h⟩ := h
    refine E_hs (M := mX11_heir) 67 rfl dX11_heir_64 shc_0 fl_X11_40 rfl hv10 ?_
    refine E_aload_n (M := mX11_heir) 68 rfl dX11_heir_67 rfl 0 rfl ?_
    replace h := Option.bind_eq_some_iff.mp h
    obtain ⟨v11, hv11, h⟩ := h
    refine E_cV1 (M := mX11_heir) (As := [.ref v5]) 71 rfl dX11_heir_68 (sh_H (hsO_s hv10).1) ck_X11_154 cv_X3_heardBy rfl (by decide) (Nat.le_of_ble_eq_true rfl) (C_X3_heardBy (g := g) (hsO_s hv10).1 (isE_ld (hsO_s hv4).1 hv5) hv11) rfl ?_
    cases h
    exact E_iret (M := mX11_heir) rfl dX11_heir_71
  rw [if_neg c9] at h
  refine E_tsOut (M := mX11_heir) 4 (by decide) (fun i hi => match i, hi with | 0, _ => toI c6 (by decide) | 1, _ => toI c7 (by decide) | 2, _ => toI c8 (by decide) | 3, _ => toI c9 (by decide) | (n + 4), hi => absurd hi (by omega)) 72 (by decide) dX11_heir_16 ?_
  cases h
  exact E_throwN (M := mX11_heir) (i := 35) nk_X11_135 rfl dX11_heir_72 dX11_heir_75 dX11_heir_76 dX11_heir_78 dX11_heir_81 (by decide)
theorem C_X11_heir {g : Gx} {x1 : Int32} {x2 : Int32} {I : MI} {L : ML} {res : (String ⊕ Int32) × MI × ML} (h : f_X11_heir x1 x2 I L = some res) : Ent g 8 (bS res.1) mX11_heir [.ref 0, .int x1, .int x2] (I, L) (rI res.1) (res.2.1, res.2.2) := Ent_of (by decide +kernel) (Nat.le_of_ble_eq_true rfl) (S_X11_heir x1 x2 I L _ h)
def f_X11_needNoise_15 (I : MI) (L : ML) : Option ((String ⊕ Unit) × MI × ML) := some (.inl "java/lang/IndexOutOfBoundsException", I, L)
set_option maxRecDepth 100000 in
theorem S_X11_needNoise_15 {g : Gx} (I : MI) (L : ML) (res : (String ⊕ Unit) × MI × ML) (h : f_X11_needNoise_15 I L = some res) : E g 6 (bS res.1) mX11_needNoise 15 [] [] (I, L) (rU res.1) (res.2.1, res.2.2) := by
  unfold f_X11_needNoise_15 at h
  cases h
  exact E_throwW (M := mX11_needNoise) (i := 36) tk_X11_403 rfl dX11_needNoise_15 dX11_needNoise_18 dX11_needNoise_19 dX11_needNoise_22 dX11_needNoise_25 (by decide)
def f_X11_needNoise (x1 : Int32) (I : MI) (L : ML) : Option ((String ⊕ Unit) × MI × ML) := if x1 < 0 then (f_X11_needNoise_15 I L) else (Option.bind (hsO (I 0 4)) fun v2 => if x1 < (I v2 3) then (some (.inr (), I, L)) else (f_X11_needNoise_15 I L))
set_option maxRecDepth 100000 in
theorem S_X11_needNoise {g : Gx} (x1 : Int32) (I : MI) (L : ML) (res : (String ⊕ Unit) × MI × ML) (h : f_X11_needNoise x1 I L = some res) : E g 6 (bS res.1) mX11_needNoise 0 [(0, .ref 0), (1, .int x1)] [] (I, L) (rU res.1) (res.2.1, res.2.2) := by
  unfold f_X11_needNoise at h
  refine E_iload_n (M := mX11_needNoise) 1 rfl dX11_needNoise_0 rfl 1 rfl ?_
  refine E_if_lt (M := mX11_needNoise) 15 4 (by decide) rfl dX11_needNoise_1 (fun c1 => ?_) (fun c1 => ?_)
  · rw [if_pos c1] at h
    refine E_sub (M := mX11_needNoise) (lv' := []) [] rfl ?_
    exact S_X11_needNoise_15 I L _ h
  · rw [if_neg c1] at h
    refine E_iload_n (M := mX11_needNoise) 5 rfl dX11_needNoise_4 rfl 1 rfl ?_
    refine E_aload_n (M := mX11_needNoise) 6 rfl dX11_needNoise_5 rfl 0 rfl ?_
    replace h := Option.bind_eq_some_iff.mp h
    obtain ⟨v2, hv2, h⟩ := h
    refine E_hs (M := mX11_needNoise) 9 rfl dX11_needNoise_6 shc_0 fl_X11_40 rfl hv2 ?_
    refine E_gI (M := mX11_needNoise) 12 rfl dX11_needNoise_9 (sh_H (hsO_s hv2).1) fl_X11_245 rfl ?_
    refine E_icmp_lt (M := mX11_needNoise) 26 15 (by decide) rfl dX11_needNoise_12 (fun c3 => ?_) (fun c3 => ?_)
    · rw [if_pos c3] at h
      cases h
      exact E_vret (M := mX11_needNoise) rfl dX11_needNoise_26
    · rw [if_neg c3] at h
      refine E_sub (M := mX11_needNoise) (lv' := []) [] rfl ?_
      exact S_X11_needNoise_15 I L _ h
theorem C_X11_needNoise {g : Gx} {x1 : Int32} {I : MI} {L : ML} {res : (String ⊕ Unit) × MI × ML} (h : f_X11_needNoise x1 I L = some res) : Ent g 6 (bS res.1) mX11_needNoise [.ref 0, .int x1] (I, L) (rU res.1) (res.2.1, res.2.2) := Ent_of (by decide +kernel) (Nat.le_of_ble_eq_true rfl) (S_X11_needNoise x1 I L _ h)
def f_X11_noise (x1 : Int32) (x2 : Int32) (I : MI) (L : ML) : Option ((String ⊕ Int32) × MI × ML) := Option.bind (f_X11_needNoise x1 I L) fun w1 => xc w1 fun _ => Option.bind (hsO (w1.2.1 0 4)) fun v4 => Option.bind (ldR (v4 + 33) 12 x1) fun v5 => if x2 = 0 then (some (.inr (w1.2.1 v5 0), w1.2.1, w1.2.2)) else if x2 = 1 then (some (.inr (w1.2.1 v5 2), w1.2.1, w1.2.2)) else if x2 = 2 then (some (.inr (w1.2.1 v5 3), w1.2.1, w1.2.2)) else if x2 = 3 then (some (.inr (w1.2.1 v5 4), w1.2.1, w1.2.2)) else if x2 = 4 then (some (.inr (w1.2.1 v5 5), w1.2.1, w1.2.2)) else if x2 = 5 then (some (.inr (w1.2.1 v5 6), w1.2.1, w1.2.2)) else if x2 = 6 then (some (.inr (w1.2.1 v5 1), w1.2.1, w1.2.2)) else if x2 = 7 then (some (.inr (w1.2.1 v5 7), w1.2.1, w1.2.2)) else if x2 = 8 then (some (.inr (w1.2.1 v5 8), w1.2.1, w1.2.2)) else (some (.inl "java/util/NoSuchElementException", w1.2.1, w1.2.2))
set_option maxRecDepth 100000 in
theorem S_X11_noise {g : Gx} (x1 : Int32) (x2 : Int32) (I : MI) (L : ML) (res : (String ⊕ Int32) × MI × ML) (h : f_X11_noise x1 x2 I L = some res) : E g 7 (bS res.1) mX11_noise 0 [(0, .ref 0), (1, .int x1), (2, .int x2)] [] (I, L) (rI res.1) (res.2.1, res.2.2) := by
  unfold f_X11_noise at h
  refine E_aload_n (M := mX11_noise) 1 rfl dX11_noise_0 rfl 0 rfl ?_
  refine E_iload_n (M := mX11_noise) 2 rfl dX11_noise_1 rfl 1 rfl ?_
  replace h := Option.bind_eq_some_iff.mp h
  obtain ⟨w1, hw1, h⟩ := h
  replace h := xc_s h
  rcases h with ⟨ex2, hex2, rfl⟩ | ⟨v3, hv3, h⟩
  · have hc := (C_X11_needNoise (g := g) hw1)
    rw [hex2] at hc
    exact E_callVX (M := mX11_noise) (As := [.int x1]) dX11_noise_2 shc_0 ck_X11_160 cv_X11_needNoise rfl (by decide) (Nat.le_of_ble_eq_true rfl) hc rfl
  have hcv3 := (C_X11_needNoise (g := g) hw1)
  rw [hv3] at hcv3
  refine E_cV0 (M := mX11_noise) (As := [.int x1]) 5 rfl dX11_noise_2 shc_0 ck_X11_160 cv_X11_needNoise rfl (by decide) (Nat.le_of_ble_eq_true rfl) hcv3 rfl ?_
  refine E_aload_n (M := mX11_noise) 6 rfl dX11_noise_5 rfl 0 rfl ?_
  replace h := Option.bind_eq_some_iff.mp h
  obtain ⟨v4, hv4, h⟩ := h
  refine E_hs (M := mX11_noise) 9 rfl dX11_noise_6 shc_0 fl_X11_40 rfl hv4 ?_
  refine E_gR (M := mX11_noise) (v4 + 4) 12 rfl dX11_noise_9 (sh_H (hsO_s hv4).1) fl_X11_163 rfl (rt_H7 (hsO_s hv4).1) (H_lt (hsO_s hv4).1 4 (by decide)) ?_
  refine E_iload_n (M := mX11_noise) 13 rfl dX11_noise_12 rfl 1 rfl ?_
  replace h := Option.bind_eq_some_iff.mp h
  obtain ⟨v5, hv5, h⟩ := h
  refine E_ldN (M := mX11_noise) (hsO_s hv4).1 14 rfl dX11_noise_13 hv5 ?_
  refine E_astore_n (M := mX11_noise) (lv' := [(3, .ref v5), (0, .ref 0), (1, .int x1), (2, .int x2)]) 15 rfl dX11_noise_14 rfl (Nat.le_of_ble_eq_true rfl) rfl ?_
  refine E_iload_n (M := mX11_noise) 16 rfl dX11_noise_15 rfl 3 rfl ?_
  by_cases c6 : x2 = 0
  · rw [if_pos c6] at h
    refine E_tsIn (M := mX11_noise) (off := 52) 0 c6 68 (by decide) (by decide) (by decide) rfl dX11_noise_16 ?_
    refine E_aload_n (M := mX11_noise) 69 rfl dX11_noise_68 rfl 0 rfl ?_
    refine E_gI (M := mX11_noise) 72 rfl dX11_noise_69 (sh_N (isN_ld (hsO_s hv4).1 hv5)) fl_X11_167 rfl ?_
    cases h
    exact E_iret (M := mX11_noise) rfl dX11_noise_72
  rw [if_neg c6] at h
  by_cases c7 : x2 = 1
  · rw [if_pos c7] at h
    refine E_tsIn (M := mX11_noise) (off := 57) 1 c7 73 (by decide) (by decide) (by decide) rfl dX11_noise_16 ?_
    refine E_aload_n (M := mX11_noise) 74 rfl dX11_noise_73 rfl 0 rfl ?_
    refine E_gI (M := mX11_noise) 77 rfl dX11_noise_74 (sh_N (isN_ld (hsO_s hv4).1 hv5)) fl_X11_172 rfl ?_
    cases h
    exact E_iret (M := mX11_noise) rfl dX11_noise_77
  rw [if_neg c7] at h
  by_cases c8 : x2 = 2
  · rw [if_pos c8] at h
    refine E_tsIn (M := mX11_noise) (off := 62) 2 c8 78 (by decide) (by decide) (by decide) rfl dX11_noise_16 ?_
    refine E_aload_n (M := mX11_noise) 79 rfl dX11_noise_78 rfl 0 rfl ?_
    refine E_gI (M := mX11_noise) 82 rfl dX11_noise_79 (sh_N (isN_ld (hsO_s hv4).1 hv5)) fl_X11_173 rfl ?_
    cases h
    exact E_iret (M := mX11_noise) rfl dX11_noise_82
  rw [if_neg c8] at h
  by_cases c9 : x2 = 3
  · rw [if_pos c9] at h
    refine E_tsIn (M := mX11_noise) (off := 67) 3 c9 83 (by decide) (by decide) (by decide) rfl dX11_noise_16 ?_
    refine E_aload_n (M := mX11_noise) 84 rfl dX11_noise_83 rfl 0 rfl ?_
    refine E_gI (M := mX11_noise) 87 rfl dX11_noise_84 (sh_N (isN_ld (hsO_s hv4).1 hv5)) fl_X11_176 rfl ?_
    cases h
    exact E_iret (M := mX11_noise) rfl dX11_noise_87
  rw [if_neg c9] at h
  by_cases c10 : x2 = 4
  · rw [if_pos c10] at h
    refine E_tsIn (M := mX11_noise) (off := 72) 4 c10 88 (by decide) (by decide) (by decide) rfl dX11_noise_16 ?_
    refine E_aload_n (M := mX11_noise) 89 rfl dX11_noise_88 rfl 0 rfl ?_
    refine E_gI (M := mX11_noise) 92 rfl dX11_noise_89 (sh_N (isN_ld (hsO_s hv4).1 hv5)) fl_X11_179 rfl ?_
    cases h
    exact E_iret (M := mX11_noise) rfl dX11_noise_92
  rw [if_neg c10] at h
  by_cases c11 : x2 = 5
  · rw [if_pos c11] at h
    refine E_tsIn (M := mX11_noise) (off := 77) 5 c11 93 (by decide) (by decide) (by decide) rfl dX11_noise_16 ?_
    refine E_aload_n (M := mX11_noise) 94 rfl dX11_noise_93 rfl 0 rfl ?_
    refine E_gI (M := mX11_noise) 97 rfl dX11_noise_94 (sh_N (isN_ld (hsO_s hv4).1 hv5)) fl_X11_182 rfl ?_
    cases h
    exact E_iret (M := mX11_noise) rfl dX11_noise_97
  rw [if_neg c11] at h
  by_cases c12 : x2 = 6
  · rw [if_pos c12] at h
    refine E_tsIn (M := mX11_noise) (off := 82) 6 c12 98 (by decide) (by decide) (by decide) rfl dX11_noise_16 ?_
    refine E_aload_n (M := mX11_noise) 99 rfl dX11_noise_98 rfl 0 rfl ?_
    refine E_gI (M := mX11_noise) 102 rfl dX11_noise_99 (sh_N (isN_ld (hsO_s hv4).1 hv5)) fl_X11_185 rfl ?_
    cases h
    exact E_iret (M := mX11_noise) rfl dX11_noise_102
  rw [if_neg c12] at h
  by_cases c13 : x2 = 7
  · rw [if_pos c13] at h
    refine E_tsIn (M := mX11_noise) (off := 87) 7 c13 103 (by decide) (by decide) (by decide) rfl dX11_noise_16 ?_
    refine E_aload_n (M := mX11_noise) 104 rfl dX11_noise_103 rfl 0 rfl ?_
    refine E_gI (M := mX11_noise) 107 rfl dX11_noise_104 (sh_N (isN_ld (hsO_s hv4).1 hv5)) fl_X11_188 rfl ?_
    cases h
    exact E_iret (M := mX11_noise) rfl dX11_noise_107
  rw [if_neg c13] at h
  by_cases c14 : x2 = 8
  · rw [if_pos c14] at h
    refine E_tsIn (M := mX11_noise) (off := 92) 8 c14 108 (by decide) (by decide) (by decide) rfl dX11_noise_16 ?_
    refine E_aload_n (M := mX11_noise) 109 rfl dX11_noise_108 rfl 0 rfl ?_
    refine E_gI (M := mX11_noise) 112 rfl dX11_noise_109 (sh_N (isN_ld (hsO_s hv4).1 hv5)) fl_X11_191 rfl ?_
    cases h
    exact E_iret (M := mX11_noise) rfl dX11_noise_112
  rw [if_neg c14] at h
  refine E_tsOut (M := mX11_noise) 9 (by decide) (fun i hi => match i, hi with | 0, _ => toI c6 (by decide) | 1, _ => toI c7 (by decide) | 2, _ => toI c8 (by decide) | 3, _ => toI c9 (by decide) | 4, _ => toI c10 (by decide) | 5, _ => toI c11 (by decide) | 6, _ => toI c12 (by decide) | 7, _ => toI c13 (by decide) | 8, _ => toI c14 (by decide) | (n + 9), hi => absurd hi (by omega)) 113 (by decide) dX11_noise_16 ?_
  cases h
  exact E_throwN (M := mX11_noise) (i := 37) nk_X11_135 rfl dX11_noise_113 dX11_noise_116 dX11_noise_117 dX11_noise_119 dX11_noise_122 (by decide)
theorem C_X11_noise {g : Gx} {x1 : Int32} {x2 : Int32} {I : MI} {L : ML} {res : (String ⊕ Int32) × MI × ML} (h : f_X11_noise x1 x2 I L = some res) : Ent g 7 (bS res.1) mX11_noise [.ref 0, .int x1, .int x2] (I, L) (rI res.1) (res.2.1, res.2.2) := Ent_of (by decide +kernel) (Nat.le_of_ble_eq_true rfl) (S_X11_noise x1 x2 I L _ h)
def f_X11_cost_31 (y0 : Int32) (I : MI) (L : ML) : Option ((String ⊕ Int32) × MI × ML) := some (.inr y0, I, L)
set_option maxRecDepth 100000 in
theorem S_X11_cost_31 {g : Gx} (y0 : Int32) (I : MI) (L : ML) (res : (String ⊕ Int32) × MI × ML) (h : f_X11_cost_31 y0 I L = some res) : E g 7 (bS res.1) mX11_cost 31 [] [.int y0] (I, L) (rI res.1) (res.2.1, res.2.2) := by
  unfold f_X11_cost_31 at h
  cases h
  exact E_iret (M := mX11_cost) rfl dX11_cost_31
def f_X11_cost (x1 : Int32) (x2 : Int32) (I : MI) (L : ML) : Option ((String ⊕ Int32) × MI × ML) := Option.bind (f_X11_needRoom x1 I L) fun w1 => xc w1 fun _ => Option.bind (f_X11_needRoom x2 w1.2.1 w1.2.2) fun w4 => xc w4 fun _ => Option.bind (hsO (w4.2.1 0 4)) fun v7 => Option.bind (f_X3_way v7 x1 x2 w4.2.1 w4.2.2) fun v8 => if v8 < 100000 then (f_X11_cost_31 v8 w4.2.1 w4.2.2) else (f_X11_cost_31 ((-1)) w4.2.1 w4.2.2)
set_option maxRecDepth 100000 in
theorem S_X11_cost {g : Gx} (x1 : Int32) (x2 : Int32) (I : MI) (L : ML) (res : (String ⊕ Int32) × MI × ML) (h : f_X11_cost x1 x2 I L = some res) : E g 7 (bS res.1) mX11_cost 0 [(0, .ref 0), (1, .int x1), (2, .int x2)] [] (I, L) (rI res.1) (res.2.1, res.2.2) := by
  unfold f_X11_cost at h
  refine E_aload_n (M := mX11_cost) 1 rfl dX11_cost_0 rfl 0 rfl ?_
  refine E_iload_n (M := mX11_cost) 2 rfl dX11_cost_1 rfl 1 rfl ?_
  replace h := Option.bind_eq_some_iff.mp h
  obtain ⟨w1, hw1, h⟩ := h
  replace h := xc_s h
  rcases h with ⟨ex2, hex2, rfl⟩ | ⟨v3, hv3, h⟩
  · have hc := (C_X11_needRoom (g := g) hw1)
    rw [hex2] at hc
    exact E_callVX (M := mX11_cost) (As := [.int x1]) dX11_cost_2 shc_0 ck_X11_114 cv_X11_needRoom rfl (by decide) (Nat.le_of_ble_eq_true rfl) hc rfl
  have hcv3 := (C_X11_needRoom (g := g) hw1)
  rw [hv3] at hcv3
  refine E_cV0 (M := mX11_cost) (As := [.int x1]) 5 rfl dX11_cost_2 shc_0 ck_X11_114 cv_X11_needRoom rfl (by decide) (Nat.le_of_ble_eq_true rfl) hcv3 rfl ?_
  refine E_aload_n (M := mX11_cost) 6 rfl dX11_cost_5 rfl 0 rfl ?_
  refine E_iload_n (M := mX11_cost) 7 rfl dX11_cost_6 rfl 2 rfl ?_
  replace h := Option.bind_eq_some_iff.mp h
  obtain ⟨w4, hw4, h⟩ := h
  replace h := xc_s h
  rcases h with ⟨ex5, hex5, rfl⟩ | ⟨v6, hv6, h⟩
  · have hc := (C_X11_needRoom (g := g) hw4)
    rw [hex5] at hc
    exact E_callVX (M := mX11_cost) (As := [.int x2]) dX11_cost_7 shc_0 ck_X11_114 cv_X11_needRoom rfl (by decide) (Nat.le_of_ble_eq_true rfl) hc rfl
  have hcv6 := (C_X11_needRoom (g := g) hw4)
  rw [hv6] at hcv6
  refine E_cV0 (M := mX11_cost) (As := [.int x2]) 10 rfl dX11_cost_7 shc_0 ck_X11_114 cv_X11_needRoom rfl (by decide) (Nat.le_of_ble_eq_true rfl) hcv6 rfl ?_
  refine E_aload_n (M := mX11_cost) 11 rfl dX11_cost_10 rfl 0 rfl ?_
  replace h := Option.bind_eq_some_iff.mp h
  obtain ⟨v7, hv7, h⟩ := h
  refine E_hs (M := mX11_cost) 14 rfl dX11_cost_11 shc_0 fl_X11_40 rfl hv7 ?_
  refine E_iload_n (M := mX11_cost) 15 rfl dX11_cost_14 rfl 1 rfl ?_
  refine E_iload_n (M := mX11_cost) 16 rfl dX11_cost_15 rfl 2 rfl ?_
  replace h := Option.bind_eq_some_iff.mp h
  obtain ⟨v8, hv8, h⟩ := h
  refine E_cV1 (M := mX11_cost) (As := [.int x1, .int x2]) 19 rfl dX11_cost_16 (sh_H (hsO_s hv7).1) ck_X11_196 cv_X3_way rfl (by decide) (Nat.le_of_ble_eq_true rfl) (C_X3_way (g := g) (hsO_s hv7).1 hv8) rfl ?_
  refine E_istore_n (M := mX11_cost) (lv' := [(3, .int v8), (0, .ref 0), (1, .int x1), (2, .int x2)]) 20 rfl dX11_cost_19 rfl (Nat.le_of_ble_eq_true rfl) rfl ?_
  refine E_iload_n (M := mX11_cost) 21 rfl dX11_cost_20 rfl 0 rfl ?_
  refine E_ldc (M := mX11_cost) 23 rfl dX11_cost_21 cst_X11_200 ?_
  refine E_icmp_lt (M := mX11_cost) 30 26 (by decide) rfl dX11_cost_23 (fun c9 => ?_) (fun c9 => ?_)
  · rw [if_pos c9] at h
    refine E_iload_n (M := mX11_cost) 31 rfl dX11_cost_30 rfl 0 rfl ?_
    refine E_sub (M := mX11_cost) (lv' := []) [] rfl ?_
    exact S_X11_cost_31 v8 w4.2.1 w4.2.2 _ h
  · rw [if_neg c9] at h
    refine E_iconst (M := mX11_cost) (v := (-1)) 27 rfl dX11_cost_26 (by decide) ?_
    refine E_goto (M := mX11_cost) 31 (by decide) dX11_cost_27 ?_
    refine E_sub (M := mX11_cost) (lv' := []) [] rfl ?_
    exact S_X11_cost_31 ((-1)) w4.2.1 w4.2.2 _ h
theorem C_X11_cost {g : Gx} {x1 : Int32} {x2 : Int32} {I : MI} {L : ML} {res : (String ⊕ Int32) × MI × ML} (h : f_X11_cost x1 x2 I L = some res) : Ent g 7 (bS res.1) mX11_cost [.ref 0, .int x1, .int x2] (I, L) (rI res.1) (res.2.1, res.2.2) := Ent_of (by decide +kernel) (Nat.le_of_ble_eq_true rfl) (S_X11_cost x1 x2 I L _ h)
def f_X11_at (x1 : Int32) (x2 : Int32) (I : MI) (L : ML) : Option ((String ⊕ Int32) × MI × ML) := Option.bind (f_X11_needNoise x1 I L) fun w1 => xc w1 fun _ => Option.bind (f_X11_needRoom x2 w1.2.1 w1.2.2) fun w4 => xc w4 fun _ => Option.bind (hsO (w4.2.1 0 4)) fun v7 => Option.bind (hsO (w4.2.1 0 4)) fun v8 => Option.bind (ldR (v8 + 33) 12 x1) fun v9 => Option.bind (f_X3_loudAt v7 v9 x2 w4.2.1 w4.2.2) fun v10 => some (.inr v10, w4.2.1, w4.2.2)
set_option maxRecDepth 100000 in
theorem S_X11_at {g : Gx} (x1 : Int32) (x2 : Int32) (I : MI) (L : ML) (res : (String ⊕ Int32) × MI × ML) (h : f_X11_at x1 x2 I L = some res) : E g 7 (bS res.1) mX11_at 0 [(0, .ref 0), (1, .int x1), (2, .int x2)] [] (I, L) (rI res.1) (res.2.1, res.2.2) := by
  unfold f_X11_at at h
  refine E_aload_n (M := mX11_at) 1 rfl dX11_at_0 rfl 0 rfl ?_
  refine E_iload_n (M := mX11_at) 2 rfl dX11_at_1 rfl 1 rfl ?_
  replace h := Option.bind_eq_some_iff.mp h
  obtain ⟨w1, hw1, h⟩ := h
  replace h := xc_s h
  rcases h with ⟨ex2, hex2, rfl⟩ | ⟨v3, hv3, h⟩
  · have hc := (C_X11_needNoise (g := g) hw1)
    rw [hex2] at hc
    exact E_callVX (M := mX11_at) (As := [.int x1]) dX11_at_2 shc_0 ck_X11_160 cv_X11_needNoise rfl (by decide) (Nat.le_of_ble_eq_true rfl) hc rfl
  have hcv3 := (C_X11_needNoise (g := g) hw1)
  rw [hv3] at hcv3
  refine E_cV0 (M := mX11_at) (As := [.int x1]) 5 rfl dX11_at_2 shc_0 ck_X11_160 cv_X11_needNoise rfl (by decide) (Nat.le_of_ble_eq_true rfl) hcv3 rfl ?_
  refine E_aload_n (M := mX11_at) 6 rfl dX11_at_5 rfl 0 rfl ?_
  refine E_iload_n (M := mX11_at) 7 rfl dX11_at_6 rfl 2 rfl ?_
  replace h := Option.bind_eq_some_iff.mp h
  obtain ⟨w4, hw4, h⟩ := h
  replace h := xc_s h
  rcases h with ⟨ex5, hex5, rfl⟩ | ⟨v6, hv6, h⟩
  · have hc := (C_X11_needRoom (g := g) hw4)
    rw [hex5] at hc
    exact E_callVX (M := mX11_at) (As := [.int x2]) dX11_at_7 shc_0 ck_X11_114 cv_X11_needRoom rfl (by decide) (Nat.le_of_ble_eq_true rfl) hc rfl
  have hcv6 := (C_X11_needRoom (g := g) hw4)
  rw [hv6] at hcv6
  refine E_cV0 (M := mX11_at) (As := [.int x2]) 10 rfl dX11_at_7 shc_0 ck_X11_114 cv_X11_needRoom rfl (by decide) (Nat.le_of_ble_eq_true rfl) hcv6 rfl ?_
  refine E_aload_n (M := mX11_at) 11 rfl dX11_at_10 rfl 0 rfl ?_
  replace h := Option.bind_eq_some_iff.mp h
  obtain ⟨v7, hv7, h⟩ := h
  refine E_hs (M := mX11_at) 14 rfl dX11_at_11 shc_0 fl_X11_40 rfl hv7 ?_
  refine E_aload_n (M := mX11_at) 15 rfl dX11_at_14 rfl 0 rfl ?_
  replace h := Option.bind_eq_some_iff.mp h
  obtain ⟨v8, hv8, h⟩ := h
  refine E_hs (M := mX11_at) 18 rfl dX11_at_15 shc_0 fl_X11_40 rfl hv8 ?_
  refine E_gR (M := mX11_at) (v8 + 4) 21 rfl dX11_at_18 (sh_H (hsO_s hv8).1) fl_X11_163 rfl (rt_H7 (hsO_s hv8).1) (H_lt (hsO_s hv8).1 4 (by decide)) ?_
  refine E_iload_n (M := mX11_at) 22 rfl dX11_at_21 rfl 1 rfl ?_
  replace h := Option.bind_eq_some_iff.mp h
  obtain ⟨v9, hv9, h⟩ := h
  refine E_ldN (M := mX11_at) (hsO_s hv8).1 23 rfl dX11_at_22 hv9 ?_
  refine E_iload_n (M := mX11_at) 24 rfl dX11_at_23 rfl 2 rfl ?_
  replace h := Option.bind_eq_some_iff.mp h
  obtain ⟨v10, hv10, h⟩ := h
  refine E_cV1 (M := mX11_at) (As := [.ref v9, .int x2]) 27 rfl dX11_at_24 (sh_H (hsO_s hv7).1) ck_X11_201 cv_X3_loudAt rfl (by decide) (Nat.le_of_ble_eq_true rfl) (C_X3_loudAt (g := g) (hsO_s hv7).1 (isN_ld (hsO_s hv8).1 hv9) hv10) rfl ?_
  cases h
  exact E_iret (M := mX11_at) rfl dX11_at_27
theorem C_X11_at {g : Gx} {x1 : Int32} {x2 : Int32} {I : MI} {L : ML} {res : (String ⊕ Int32) × MI × ML} (h : f_X11_at x1 x2 I L = some res) : Ent g 7 (bS res.1) mX11_at [.ref 0, .int x1, .int x2] (I, L) (rI res.1) (res.2.1, res.2.2) := Ent_of (by decide +kernel) (Nat.le_of_ble_eq_true rfl) (S_X11_at x1 x2 I L _ h)
def f_X11_title (x1 : Int32) (x2 : Int32) (I : MI) (L : ML) : Option ((String ⊕ Int32) × MI × ML) := Option.bind (f_X11_needHeir x1 I L) fun w1 => xc w1 fun _ => Option.bind (f_X11_needNoise x2 w1.2.1 w1.2.2) fun w4 => xc w4 fun _ => Option.bind (hsO (w4.2.1 0 4)) fun v7 => Option.bind (f_X6_weigh v7 x2 w4.2.1 w4.2.2) fun w8 => Option.bind (ldI w8.1 9 6 x1) fun v9 => some (.inr v9, w8.1, w8.2)
set_option maxRecDepth 100000 in
theorem S_X11_title {g : Gx} (x1 : Int32) (x2 : Int32) (I : MI) (L : ML) (res : (String ⊕ Int32) × MI × ML) (h : f_X11_title x1 x2 I L = some res) : E g 8 (bS res.1) mX11_title 0 [(0, .ref 0), (1, .int x1), (2, .int x2)] [] (I, L) (rI res.1) (res.2.1, res.2.2) := by
  unfold f_X11_title at h
  refine E_aload_n (M := mX11_title) 1 rfl dX11_title_0 rfl 0 rfl ?_
  refine E_iload_n (M := mX11_title) 2 rfl dX11_title_1 rfl 1 rfl ?_
  replace h := Option.bind_eq_some_iff.mp h
  obtain ⟨w1, hw1, h⟩ := h
  replace h := xc_s h
  rcases h with ⟨ex2, hex2, rfl⟩ | ⟨v3, hv3, h⟩
  · have hc := (C_X11_needHeir (g := g) hw1)
    rw [hex2] at hc
    exact E_callVX (M := mX11_title) (As := [.int x1]) dX11_title_2 shc_0 ck_X11_136 cv_X11_needHeir rfl (by decide) (Nat.le_of_ble_eq_true rfl) hc rfl
  have hcv3 := (C_X11_needHeir (g := g) hw1)
  rw [hv3] at hcv3
  refine E_cV0 (M := mX11_title) (As := [.int x1]) 5 rfl dX11_title_2 shc_0 ck_X11_136 cv_X11_needHeir rfl (by decide) (Nat.le_of_ble_eq_true rfl) hcv3 rfl ?_
  refine E_aload_n (M := mX11_title) 6 rfl dX11_title_5 rfl 0 rfl ?_
  refine E_iload_n (M := mX11_title) 7 rfl dX11_title_6 rfl 2 rfl ?_
  replace h := Option.bind_eq_some_iff.mp h
  obtain ⟨w4, hw4, h⟩ := h
  replace h := xc_s h
  rcases h with ⟨ex5, hex5, rfl⟩ | ⟨v6, hv6, h⟩
  · have hc := (C_X11_needNoise (g := g) hw4)
    rw [hex5] at hc
    exact E_callVX (M := mX11_title) (As := [.int x2]) dX11_title_7 shc_0 ck_X11_160 cv_X11_needNoise rfl (by decide) (Nat.le_of_ble_eq_true rfl) hc rfl
  have hcv6 := (C_X11_needNoise (g := g) hw4)
  rw [hv6] at hcv6
  refine E_cV0 (M := mX11_title) (As := [.int x2]) 10 rfl dX11_title_7 shc_0 ck_X11_160 cv_X11_needNoise rfl (by decide) (Nat.le_of_ble_eq_true rfl) hcv6 rfl ?_
  refine E_aload_n (M := mX11_title) 11 rfl dX11_title_10 rfl 0 rfl ?_
  refine E_gR (M := mX11_title) 8 14 rfl dX11_title_11 shc_0 fl_X11_26 rfl (by decide) (by decide) ?_
  refine E_aload_n (M := mX11_title) 15 rfl dX11_title_14 rfl 0 rfl ?_
  replace h := Option.bind_eq_some_iff.mp h
  obtain ⟨v7, hv7, h⟩ := h
  refine E_hs (M := mX11_title) 18 rfl dX11_title_15 shc_0 fl_X11_40 rfl hv7 ?_
  refine E_iload_n (M := mX11_title) 19 rfl dX11_title_18 rfl 2 rfl ?_
  replace h := Option.bind_eq_some_iff.mp h
  obtain ⟨w8, hw8, h⟩ := h
  refine E_cV0 (M := mX11_title) (As := [.ref v7, .int x2]) 22 rfl dX11_title_19 shc_8 ck_X11_205 cv_X6_weigh rfl (by decide) (Nat.le_of_ble_eq_true rfl) (C_X6_weigh (g := g) (hsO_s hv7).1 hw8) rfl ?_
  refine E_aload_n (M := mX11_title) 23 rfl dX11_title_22 rfl 0 rfl ?_
  refine E_gR (M := mX11_title) 8 26 rfl dX11_title_23 shc_0 fl_X11_26 rfl (by decide) (by decide) ?_
  refine E_gR (M := mX11_title) 9 29 rfl dX11_title_26 shc_8 fl_X11_209 rfl (by decide) (by decide) ?_
  refine E_iload_n (M := mX11_title) 30 rfl dX11_title_29 rfl 1 rfl ?_
  replace h := Option.bind_eq_some_iff.mp h
  obtain ⟨v9, hv9, h⟩ := h
  refine E_ldI (M := mX11_title) 31 rfl dX11_title_30 shc_9 hv9 ?_
  cases h
  exact E_iret (M := mX11_title) rfl dX11_title_31
theorem C_X11_title {g : Gx} {x1 : Int32} {x2 : Int32} {I : MI} {L : ML} {res : (String ⊕ Int32) × MI × ML} (h : f_X11_title x1 x2 I L = some res) : Ent g 8 (bS res.1) mX11_title [.ref 0, .int x1, .int x2] (I, L) (rI res.1) (res.2.1, res.2.2) := Ent_of (by decide +kernel) (Nat.le_of_ble_eq_true rfl) (S_X11_title x1 x2 I L _ h)
def f_X11_need (x0 : Bool) (I : MI) (L : ML) : Option ((String ⊕ Unit) × MI × ML) := if x0 = true then (some (.inr (), I, L)) else (some (.inl "java/lang/IllegalArgumentException", I, L))
set_option maxRecDepth 100000 in
theorem S_X11_need {g : Gx} (x0 : Bool) (I : MI) (L : ML) (res : (String ⊕ Unit) × MI × ML) (h : f_X11_need x0 I L = some res) : E g 6 (bS res.1) mX11_need 0 [(0, .int (bI x0))] [] (I, L) (rU res.1) (res.2.1, res.2.2) := by
  unfold f_X11_need at h
  refine E_iload_n (M := mX11_need) 1 rfl dX11_need_0 rfl 0 rfl ?_
  refine E_if_neB (M := mX11_need) 15 4 (by decide) rfl dX11_need_1 (fun c1 => ?_) (fun c1 => ?_)
  · rw [if_pos c1] at h
    cases h
    exact E_vret (M := mX11_need) rfl dX11_need_15
  · rw [if_neg (by rw [c1]; decide)] at h
    cases h
    exact E_throwW (M := mX11_need) (i := 38) tk_X11_412 rfl dX11_need_4 dX11_need_7 dX11_need_8 dX11_need_11 dX11_need_14 (by decide)
theorem C_X11_need {g : Gx} {x0 : Bool} {I : MI} {L : ML} {res : (String ⊕ Unit) × MI × ML} (h : f_X11_need x0 I L = some res) : Ent g 6 (bS res.1) mX11_need [.int (bI x0)] (I, L) (rU res.1) (res.2.1, res.2.2) := Ent_of (by decide +kernel) (Nat.le_of_ble_eq_true rfl) (S_X11_need x0 I L _ h)
def f_X11_part_78 (y0 : Int64) (I : MI) (L : ML) : Option ((String ⊕ Int32) × MI × ML) := some (.inr y0.toInt32, I, L)
set_option maxRecDepth 100000 in
theorem S_X11_part_78 {g : Gx} (y0 : Int64) (I : MI) (L : ML) (res : (String ⊕ Int32) × MI × ML) (h : f_X11_part_78 y0 I L = some res) : E g 8 (bS res.1) mX11_part 78 [] [.long y0] (I, L) (rI res.1) (res.2.1, res.2.2) := by
  unfold f_X11_part_78 at h
  refine E_l2i (M := mX11_part) 79 rfl dX11_part_78 ?_
  cases h
  exact E_iret (M := mX11_part) rfl dX11_part_79
def f_X11_part_30 (x1 : Int32) (x2 : Int32) (x3 : Int32) (y0 : Bool) (I : MI) (L : ML) : Option ((String ⊕ Int32) × MI × ML) := Option.bind (f_X11_need y0 I L) fun w1 => xc w1 fun _ => Option.bind (hsO (w1.2.1 0 4)) fun v4 => Option.bind (f_X6_weigh v4 x2 w1.2.1 w1.2.2) fun w5 => Option.bind (f_X6_divide x3.toInt64 w5.1 w5.2) fun w6 => if x1 = ((-1)) then (f_X11_part_78 (w6.2 8 4) w6.1 w6.2) else (Option.bind (ldL w6.2 10 6 x1) fun v8 => f_X11_part_78 v8 w6.1 w6.2)
set_option maxRecDepth 100000 in
theorem S_X11_part_30 {g : Gx} (x1 : Int32) (x2 : Int32) (x3 : Int32) (y0 : Bool) (I : MI) (L : ML) (res : (String ⊕ Int32) × MI × ML) (h : f_X11_part_30 x1 x2 x3 y0 I L = some res) : E g 8 (bS res.1) mX11_part 30 [(0, .ref 0), (1, .int x1), (2, .int x2), (3, .int x3)] [.int (bI y0)] (I, L) (rI res.1) (res.2.1, res.2.2) := by
  unfold f_X11_part_30 at h
  replace h := Option.bind_eq_some_iff.mp h
  obtain ⟨w1, hw1, h⟩ := h
  replace h := xc_s h
  rcases h with ⟨ex2, hex2, rfl⟩ | ⟨v3, hv3, h⟩
  · have hc := (C_X11_need (g := g) hw1)
    rw [hex2] at hc
    exact E_callSX (M := mX11_part) (As := [.int (bI y0)]) dX11_part_30 ck_X11_213 ss_X11_need rfl (by decide) (Nat.le_of_ble_eq_true rfl) hc rfl
  have hcv3 := (C_X11_need (g := g) hw1)
  rw [hv3] at hcv3
  refine E_cS0 (M := mX11_part) (As := [.int (bI y0)]) 33 rfl dX11_part_30 ck_X11_213 ss_X11_need rfl (by decide) (Nat.le_of_ble_eq_true rfl) hcv3 rfl ?_
  refine E_aload_n (M := mX11_part) 34 rfl dX11_part_33 rfl 0 rfl ?_
  refine E_gR (M := mX11_part) 8 37 rfl dX11_part_34 shc_0 fl_X11_26 rfl (by decide) (by decide) ?_
  refine E_aload_n (M := mX11_part) 38 rfl dX11_part_37 rfl 0 rfl ?_
  replace h := Option.bind_eq_some_iff.mp h
  obtain ⟨v4, hv4, h⟩ := h
  refine E_hs (M := mX11_part) 41 rfl dX11_part_38 shc_0 fl_X11_40 rfl hv4 ?_
  refine E_iload_n (M := mX11_part) 42 rfl dX11_part_41 rfl 2 rfl ?_
  replace h := Option.bind_eq_some_iff.mp h
  obtain ⟨w5, hw5, h⟩ := h
  refine E_cV0 (M := mX11_part) (As := [.ref v4, .int x2]) 45 rfl dX11_part_42 shc_8 ck_X11_205 cv_X6_weigh rfl (by decide) (Nat.le_of_ble_eq_true rfl) (C_X6_weigh (g := g) (hsO_s hv4).1 hw5) rfl ?_
  refine E_aload_n (M := mX11_part) 46 rfl dX11_part_45 rfl 0 rfl ?_
  refine E_gR (M := mX11_part) 8 49 rfl dX11_part_46 shc_0 fl_X11_26 rfl (by decide) (by decide) ?_
  refine E_iload_n (M := mX11_part) 50 rfl dX11_part_49 rfl 3 rfl ?_
  refine E_i2l (M := mX11_part) 51 rfl dX11_part_50 ?_
  replace h := Option.bind_eq_some_iff.mp h
  obtain ⟨w6, hw6, h⟩ := h
  refine E_cV0 (M := mX11_part) (As := [.long x3.toInt64]) 54 rfl dX11_part_51 shc_8 ck_X11_217 cv_X6_divide rfl (by decide) (Nat.le_of_ble_eq_true rfl) (C_X6_divide (g := g) hw6) rfl ?_
  refine E_iload_n (M := mX11_part) 55 rfl dX11_part_54 rfl 1 rfl ?_
  refine E_iconst (M := mX11_part) (v := (-1)) 56 rfl dX11_part_55 (by decide) ?_
  refine E_icmp_ne (M := mX11_part) 69 59 (by decide) rfl dX11_part_56 (fun c7 => ?_) (fun c7 => ?_)
  · rw [if_neg c7] at h
    refine E_aload_n (M := mX11_part) 70 rfl dX11_part_69 rfl 0 rfl ?_
    refine E_gR (M := mX11_part) 8 73 rfl dX11_part_70 shc_0 fl_X11_26 rfl (by decide) (by decide) ?_
    refine E_gR (M := mX11_part) 10 76 rfl dX11_part_73 shc_8 fl_X11_225 rfl (by decide) (by decide) ?_
    refine E_iload_n (M := mX11_part) 77 rfl dX11_part_76 rfl 1 rfl ?_
    replace h := Option.bind_eq_some_iff.mp h
    obtain ⟨v8, hv8, h⟩ := h
    refine E_ldL (M := mX11_part) 78 rfl dX11_part_77 shc_10 hv8 ?_
    refine E_sub (M := mX11_part) (lv' := []) [] rfl ?_
    exact S_X11_part_78 v8 w6.1 w6.2 _ h
  · rw [if_pos c7] at h
    refine E_aload_n (M := mX11_part) 60 rfl dX11_part_59 rfl 0 rfl ?_
    refine E_gR (M := mX11_part) 8 63 rfl dX11_part_60 shc_0 fl_X11_26 rfl (by decide) (by decide) ?_
    refine E_gL (M := mX11_part) 66 rfl dX11_part_63 shc_8 fl_X11_221 rfl ?_
    refine E_goto (M := mX11_part) 78 (by decide) dX11_part_66 ?_
    refine E_sub (M := mX11_part) (lv' := []) [] rfl ?_
    exact S_X11_part_78 (w6.2 8 4) w6.1 w6.2 _ h
def f_X11_part_29 (x1 : Int32) (x2 : Int32) (x3 : Int32) (I : MI) (L : ML) : Option ((String ⊕ Int32) × MI × ML) := f_X11_part_30 x1 x2 x3 false I L
set_option maxRecDepth 100000 in
theorem S_X11_part_29 {g : Gx} (x1 : Int32) (x2 : Int32) (x3 : Int32) (I : MI) (L : ML) (res : (String ⊕ Int32) × MI × ML) (h : f_X11_part_29 x1 x2 x3 I L = some res) : E g 8 (bS res.1) mX11_part 29 [(0, .ref 0), (1, .int x1), (2, .int x2), (3, .int x3)] [] (I, L) (rI res.1) (res.2.1, res.2.2) := by
  unfold f_X11_part_29 at h
  refine E_iconst (M := mX11_part) (v := 0) 30 rfl dX11_part_29 (by decide) ?_
  refine E_sub (M := mX11_part) (lv' := [(0, .ref 0), (1, .int x1), (2, .int x2), (3, .int x3)]) [0, 1, 2, 3] rfl ?_
  exact S_X11_part_30 x1 x2 x3 false I L _ h
def f_X11_part_10 (x1 : Int32) (x2 : Int32) (x3 : Int32) (I : MI) (L : ML) : Option ((String ⊕ Int32) × MI × ML) := Option.bind (f_X11_needNoise x2 I L) fun w1 => xc w1 fun _ => if x3 < 0 then (f_X11_part_29 x1 x2 x3 w1.2.1 w1.2.2) else (if 99999 < x3 then (f_X11_part_29 x1 x2 x3 w1.2.1 w1.2.2) else (f_X11_part_30 x1 x2 x3 true w1.2.1 w1.2.2))
set_option maxRecDepth 100000 in
theorem S_X11_part_10 {g : Gx} (x1 : Int32) (x2 : Int32) (x3 : Int32) (I : MI) (L : ML) (res : (String ⊕ Int32) × MI × ML) (h : f_X11_part_10 x1 x2 x3 I L = some res) : E g 8 (bS res.1) mX11_part 10 [(0, .ref 0), (1, .int x1), (2, .int x2), (3, .int x3)] [] (I, L) (rI res.1) (res.2.1, res.2.2) := by
  unfold f_X11_part_10 at h
  refine E_aload_n (M := mX11_part) 11 rfl dX11_part_10 rfl 0 rfl ?_
  refine E_iload_n (M := mX11_part) 12 rfl dX11_part_11 rfl 2 rfl ?_
  replace h := Option.bind_eq_some_iff.mp h
  obtain ⟨w1, hw1, h⟩ := h
  replace h := xc_s h
  rcases h with ⟨ex2, hex2, rfl⟩ | ⟨v3, hv3, h⟩
  · have hc := (C_X11_needNoise (g := g) hw1)
    rw [hex2] at hc
    exact E_callVX (M := mX11_part) (As := [.int x2]) dX11_part_12 shc_0 ck_X11_160 cv_X11_needNoise rfl (by decide) (Nat.le_of_ble_eq_true rfl) hc rfl
  have hcv3 := (C_X11_needNoise (g := g) hw1)
  rw [hv3] at hcv3
  refine E_cV0 (M := mX11_part) (As := [.int x2]) 15 rfl dX11_part_12 shc_0 ck_X11_160 cv_X11_needNoise rfl (by decide) (Nat.le_of_ble_eq_true rfl) hcv3 rfl ?_
  refine E_iload_n (M := mX11_part) 16 rfl dX11_part_15 rfl 3 rfl ?_
  refine E_if_lt (M := mX11_part) 29 19 (by decide) rfl dX11_part_16 (fun c4 => ?_) (fun c4 => ?_)
  · rw [if_pos c4] at h
    refine E_sub (M := mX11_part) (lv' := [(0, .ref 0), (1, .int x1), (2, .int x2), (3, .int x3)]) [0, 1, 2, 3] rfl ?_
    exact S_X11_part_29 x1 x2 x3 w1.2.1 w1.2.2 _ h
  · rw [if_neg c4] at h
    refine E_iload_n (M := mX11_part) 20 rfl dX11_part_19 rfl 3 rfl ?_
    refine E_ldc (M := mX11_part) 22 rfl dX11_part_20 cst_X11_212 ?_
    refine E_icmp_gt (M := mX11_part) 29 25 (by decide) rfl dX11_part_22 (fun c5 => ?_) (fun c5 => ?_)
    · rw [if_pos c5] at h
      refine E_sub (M := mX11_part) (lv' := [(0, .ref 0), (1, .int x1), (2, .int x2), (3, .int x3)]) [0, 1, 2, 3] rfl ?_
      exact S_X11_part_29 x1 x2 x3 w1.2.1 w1.2.2 _ h
    · rw [if_neg c5] at h
      refine E_iconst (M := mX11_part) (v := 1) 26 rfl dX11_part_25 (by decide) ?_
      refine E_goto (M := mX11_part) 30 (by decide) dX11_part_26 ?_
      refine E_sub (M := mX11_part) (lv' := [(0, .ref 0), (1, .int x1), (2, .int x2), (3, .int x3)]) [0, 1, 2, 3] rfl ?_
      exact S_X11_part_30 x1 x2 x3 true w1.2.1 w1.2.2 _ h
def f_X11_part (x1 : Int32) (x2 : Int32) (x3 : Int32) (I : MI) (L : ML) : Option ((String ⊕ Int32) × MI × ML) := if x1 = ((-1)) then (f_X11_part_10 x1 x2 x3 I L) else (Option.bind (f_X11_needHeir x1 I L) fun w2 => xc w2 fun _ => f_X11_part_10 x1 x2 x3 w2.2.1 w2.2.2)
set_option maxRecDepth 100000 in
theorem S_X11_part {g : Gx} (x1 : Int32) (x2 : Int32) (x3 : Int32) (I : MI) (L : ML) (res : (String ⊕ Int32) × MI × ML) (h : f_X11_part x1 x2 x3 I L = some res) : E g 8 (bS res.1) mX11_part 0 [(0, .ref 0), (1, .int x1), (2, .int x2), (3, .int x3)] [] (I, L) (rI res.1) (res.2.1, res.2.2) := by
  unfold f_X11_part at h
  refine E_iload_n (M := mX11_part) 1 rfl dX11_part_0 rfl 1 rfl ?_
  refine E_iconst (M := mX11_part) (v := (-1)) 2 rfl dX11_part_1 (by decide) ?_
  refine E_icmp_eq (M := mX11_part) 10 5 (by decide) rfl dX11_part_2 (fun c1 => ?_) (fun c1 => ?_)
  · rw [if_pos c1] at h
    refine E_sub (M := mX11_part) (lv' := [(0, .ref 0), (1, .int x1), (2, .int x2), (3, .int x3)]) [0, 1, 2, 3] rfl ?_
    exact S_X11_part_10 x1 x2 x3 I L _ h
  · rw [if_neg c1] at h
    refine E_aload_n (M := mX11_part) 6 rfl dX11_part_5 rfl 0 rfl ?_
    refine E_iload_n (M := mX11_part) 7 rfl dX11_part_6 rfl 1 rfl ?_
    replace h := Option.bind_eq_some_iff.mp h
    obtain ⟨w2, hw2, h⟩ := h
    replace h := xc_s h
    rcases h with ⟨ex3, hex3, rfl⟩ | ⟨v4, hv4, h⟩
    · have hc := (C_X11_needHeir (g := g) hw2)
      rw [hex3] at hc
      exact E_callVX (M := mX11_part) (As := [.int x1]) dX11_part_7 shc_0 ck_X11_136 cv_X11_needHeir rfl (by decide) (Nat.le_of_ble_eq_true rfl) hc rfl
    have hcv4 := (C_X11_needHeir (g := g) hw2)
    rw [hv4] at hcv4
    refine E_cV0 (M := mX11_part) (As := [.int x1]) 10 rfl dX11_part_7 shc_0 ck_X11_136 cv_X11_needHeir rfl (by decide) (Nat.le_of_ble_eq_true rfl) hcv4 rfl ?_
    refine E_sub (M := mX11_part) (lv' := [(0, .ref 0), (1, .int x1), (2, .int x2), (3, .int x3)]) [0, 1, 2, 3] rfl ?_
    exact S_X11_part_10 x1 x2 x3 w2.2.1 w2.2.2 _ h
theorem C_X11_part {g : Gx} {x1 : Int32} {x2 : Int32} {x3 : Int32} {I : MI} {L : ML} {res : (String ⊕ Int32) × MI × ML} (h : f_X11_part x1 x2 x3 I L = some res) : Ent g 8 (bS res.1) mX11_part [.ref 0, .int x1, .int x2, .int x3] (I, L) (rI res.1) (res.2.1, res.2.2) := Ent_of (by decide +kernel) (Nat.le_of_ble_eq_true rfl) (S_X11_part x1 x2 x3 I L _ h)
def f_X11_letSound_161 (I : MI) (L : ML) : Option (MI × ML) := some (I, L)
set_option maxRecDepth 100000 in
theorem S_X11_letSound_161 {g : Gx} (I : MI) (L : ML) (res : MI × ML) (h : f_X11_letSound_161 I L = some res) : E g 8 0 mX11_letSound 161 [] [] (I, L) (.inl none) (res.1, res.2) := by
  unfold f_X11_letSound_161 at h
  cases h
  exact E_vret (M := mX11_letSound) rfl dX11_letSound_161
def f_X11_letSound_81 : Nat → Nat → Int32 → MI → ML → Option (MI × ML)
  | 0, _, _, _, _ => none
  | n + 1, x2, x3, I, L => Option.bind (hsO (I 0 4)) fun v1 => if (I v1 2) ≤ x3 then (Option.bind (hsO (I 0 4)) fun v3 => Option.bind (pfI I v3 15 ((I v3 15) + ((L 8 4).toInt32))) fun I4 => Option.bind (hsO (I4 0 4)) fun v5 => Option.bind (pfI I4 v5 16 ((I4 v5 16) + (I4 x2 5))) fun I6 => f_X11_letSound_161 I6 L) else (Option.bind (hsO (I 0 4)) fun v7 => Option.bind (ldR (v7 + 27) 6 x3) fun v8 => Option.bind (ldL L 10 6 x3) fun v9 => Option.bind (pfI I v8 2 ((I v8 2) + v9.toInt32)) fun I10 => f_X11_letSound_81 n x2 (x3 + 1) I10 L)
set_option maxRecDepth 100000 in
theorem S_X11_letSound_81 {g : Gx} : ∀ (n : Nat) (x2 : Nat) (x3 : Int32) (hx2 : isN x2) (I : MI) (L : ML) (res : MI × ML), f_X11_letSound_81 n x2 x3 I L = some res → E g 8 0 mX11_letSound 81 [(0, .ref 0), (2, .ref x2), (3, .int x3)] [] (I, L) (.inl none) (res.1, res.2) := by
  intro n
  induction n with
  | zero =>
    intros
    rename_i h
    cases h
  | succ n ih =>
    intro x2 x3 hx2 I L res h
    rw [f_X11_letSound_81] at h
    refine E_iload_n (M := mX11_letSound) 82 rfl dX11_letSound_81 rfl 2 rfl ?_
    refine E_aload_n (M := mX11_letSound) 83 rfl dX11_letSound_82 rfl 0 rfl ?_
    replace h := Option.bind_eq_some_iff.mp h
    obtain ⟨v1, hv1, h⟩ := h
    refine E_hs (M := mX11_letSound) 86 rfl dX11_letSound_83 shc_0 fl_X11_40 rfl hv1 ?_
    refine E_gI (M := mX11_letSound) 89 rfl dX11_letSound_86 (sh_H (hsO_s hv1).1) fl_X11_264 rfl ?_
    refine E_icmp_ge (M := mX11_letSound) 125 92 (by decide) rfl dX11_letSound_89 (fun c2 => ?_) (fun c2 => ?_)
    · rw [if_pos c2] at h
      refine E_aload_n (M := mX11_letSound) 126 rfl dX11_letSound_125 rfl 0 rfl ?_
      replace h := Option.bind_eq_some_iff.mp h
      obtain ⟨v3, hv3, h⟩ := h
      refine E_hs (M := mX11_letSound) 129 rfl dX11_letSound_126 shc_0 fl_X11_40 rfl hv3 ?_
      refine E_dup (M := mX11_letSound) 130 rfl dX11_letSound_129 rfl ?_
      refine E_gI (M := mX11_letSound) 133 rfl dX11_letSound_130 (sh_H (hsO_s hv3).1) fl_X11_267 rfl ?_
      refine E_aload_n (M := mX11_letSound) 134 rfl dX11_letSound_133 rfl 0 rfl ?_
      refine E_gR (M := mX11_letSound) 8 137 rfl dX11_letSound_134 shc_0 fl_X11_26 rfl (by decide) (by decide) ?_
      refine E_gL (M := mX11_letSound) 140 rfl dX11_letSound_137 shc_8 fl_X11_221 rfl ?_
      refine E_l2i (M := mX11_letSound) 141 rfl dX11_letSound_140 ?_
      refine E_iadd (M := mX11_letSound) 142 rfl dX11_letSound_141 ?_
      replace h := Option.bind_eq_some_iff.mp h
      obtain ⟨I4, hI4, h⟩ := h
      refine E_pfI (M := mX11_letSound) 145 rfl dX11_letSound_142 (sh_H (hsO_s hv3).1) fl_X11_267 rfl hI4 ?_
      refine E_aload_n (M := mX11_letSound) 146 rfl dX11_letSound_145 rfl 0 rfl ?_
      replace h := Option.bind_eq_some_iff.mp h
      obtain ⟨v5, hv5, h⟩ := h
      refine E_hs (M := mX11_letSound) 149 rfl dX11_letSound_146 shc_0 fl_X11_40 rfl hv5 ?_
      refine E_dup (M := mX11_letSound) 150 rfl dX11_letSound_149 rfl ?_
      refine E_gI (M := mX11_letSound) 153 rfl dX11_letSound_150 (sh_H (hsO_s hv5).1) fl_X11_270 rfl ?_
      refine E_aload_n (M := mX11_letSound) 154 rfl dX11_letSound_153 rfl 1 rfl ?_
      refine E_gI (M := mX11_letSound) 157 rfl dX11_letSound_154 (sh_N hx2) fl_X11_179 rfl ?_
      refine E_iadd (M := mX11_letSound) 158 rfl dX11_letSound_157 ?_
      replace h := Option.bind_eq_some_iff.mp h
      obtain ⟨I6, hI6, h⟩ := h
      refine E_pfI (M := mX11_letSound) 161 rfl dX11_letSound_158 (sh_H (hsO_s hv5).1) fl_X11_270 rfl hI6 ?_
      refine E_sub (M := mX11_letSound) (lv' := []) [] rfl ?_
      exact S_X11_letSound_161 I6 L _ h
    · rw [if_neg c2] at h
      refine E_aload_n (M := mX11_letSound) 93 rfl dX11_letSound_92 rfl 0 rfl ?_
      replace h := Option.bind_eq_some_iff.mp h
      obtain ⟨v7, hv7, h⟩ := h
      refine E_hs (M := mX11_letSound) 96 rfl dX11_letSound_93 shc_0 fl_X11_40 rfl hv7 ?_
      refine E_gR (M := mX11_letSound) (v7 + 3) 99 rfl dX11_letSound_96 (sh_H (hsO_s hv7).1) fl_X11_139 rfl (rt_H6 (hsO_s hv7).1) (H_lt (hsO_s hv7).1 3 (by decide)) ?_
      refine E_iload_n (M := mX11_letSound) 100 rfl dX11_letSound_99 rfl 2 rfl ?_
      replace h := Option.bind_eq_some_iff.mp h
      obtain ⟨v8, hv8, h⟩ := h
      refine E_ldE (M := mX11_letSound) (hsO_s hv7).1 101 rfl dX11_letSound_100 hv8 ?_
      refine E_dup (M := mX11_letSound) 102 rfl dX11_letSound_101 rfl ?_
      refine E_gI (M := mX11_letSound) 105 rfl dX11_letSound_102 (sh_E (isE_ld (hsO_s hv7).1 hv8)) fl_X11_151 rfl ?_
      refine E_aload_n (M := mX11_letSound) 106 rfl dX11_letSound_105 rfl 0 rfl ?_
      refine E_gR (M := mX11_letSound) 8 109 rfl dX11_letSound_106 shc_0 fl_X11_26 rfl (by decide) (by decide) ?_
      refine E_gR (M := mX11_letSound) 10 112 rfl dX11_letSound_109 shc_8 fl_X11_225 rfl (by decide) (by decide) ?_
      refine E_iload_n (M := mX11_letSound) 113 rfl dX11_letSound_112 rfl 2 rfl ?_
      replace h := Option.bind_eq_some_iff.mp h
      obtain ⟨v9, hv9, h⟩ := h
      refine E_ldL (M := mX11_letSound) 114 rfl dX11_letSound_113 shc_10 hv9 ?_
      refine E_l2i (M := mX11_letSound) 115 rfl dX11_letSound_114 ?_
      refine E_iadd (M := mX11_letSound) 116 rfl dX11_letSound_115 ?_
      replace h := Option.bind_eq_some_iff.mp h
      obtain ⟨I10, hI10, h⟩ := h
      refine E_pfI (M := mX11_letSound) 119 rfl dX11_letSound_116 (sh_E (isE_ld (hsO_s hv7).1 hv8)) fl_X11_151 rfl hI10 ?_
      refine E_iinc (M := mX11_letSound) (j := 2) (v := x3 + 1) (lv' := [(3, .int (x3 + 1)), (0, .ref 0), (2, .ref x2)]) 122 rfl dX11_letSound_119 rfl rfl (Nat.le_of_ble_eq_true rfl) rfl ?_
      refine E_goto (M := mX11_letSound) 81 (by decide) dX11_letSound_122 ?_
      refine E_sub (M := mX11_letSound) (lv' := [(0, .ref 0), (2, .ref x2), (3, .int (x3 + 1))]) [1, 2, 0] rfl ?_
      exact ih x2 (x3 + 1) hx2 I10 L _ h
def f_X11_letSound (x1 : Int32) (I : MI) (L : ML) : Option (MI × ML) := Option.bind (hsO (I 0 4)) fun v1 => Option.bind (ldR (v1 + 33) 12 x1) fun v2 => Option.bind (hsO (I 0 4)) fun v3 => Option.bind (pfI I v2 7 (I v3 12)) fun I4 => Option.bind (pfI I4 v2 8 ((I4 v2 8) + 1)) fun I5 => Option.bind (hsO (I5 0 4)) fun v6 => Option.bind (pfI I5 v6 17 ((I5 v6 17) + 1)) fun I7 => Option.bind (hsO (I7 0 4)) fun v8 => Option.bind (f_X3_isHeard v8 v2 I7 L) fun v9 => if v9 = true then (Option.bind (hsO (I7 0 4)) fun v11 => Option.bind (f_X6_weigh v11 x1 I7 L) fun w12 => Option.bind (f_X6_divide ((w12.1 v2 5).toInt64) w12.1 w12.2) fun w13 => f_X11_letSound_81 FU v2 0 w13.1 w13.2) else (f_X11_letSound_161 I7 L)
set_option maxRecDepth 100000 in
theorem S_X11_letSound {g : Gx} (x1 : Int32) (I : MI) (L : ML) (res : MI × ML) (h : f_X11_letSound x1 I L = some res) : E g 8 0 mX11_letSound 0 [(0, .ref 0), (1, .int x1)] [] (I, L) (.inl none) (res.1, res.2) := by
  unfold f_X11_letSound at h
  refine E_aload_n (M := mX11_letSound) 1 rfl dX11_letSound_0 rfl 0 rfl ?_
  replace h := Option.bind_eq_some_iff.mp h
  obtain ⟨v1, hv1, h⟩ := h
  refine E_hs (M := mX11_letSound) 4 rfl dX11_letSound_1 shc_0 fl_X11_40 rfl hv1 ?_
  refine E_gR (M := mX11_letSound) (v1 + 4) 7 rfl dX11_letSound_4 (sh_H (hsO_s hv1).1) fl_X11_163 rfl (rt_H7 (hsO_s hv1).1) (H_lt (hsO_s hv1).1 4 (by decide)) ?_
  refine E_iload_n (M := mX11_letSound) 8 rfl dX11_letSound_7 rfl 1 rfl ?_
  replace h := Option.bind_eq_some_iff.mp h
  obtain ⟨v2, hv2, h⟩ := h
  refine E_ldN (M := mX11_letSound) (hsO_s hv1).1 9 rfl dX11_letSound_8 hv2 ?_
  refine E_astore_n (M := mX11_letSound) (lv' := [(2, .ref v2), (0, .ref 0), (1, .int x1)]) 10 rfl dX11_letSound_9 rfl (Nat.le_of_ble_eq_true rfl) rfl ?_
  refine E_aload_n (M := mX11_letSound) 11 rfl dX11_letSound_10 rfl 0 rfl ?_
  refine E_aload_n (M := mX11_letSound) 12 rfl dX11_letSound_11 rfl 1 rfl ?_
  replace h := Option.bind_eq_some_iff.mp h
  obtain ⟨v3, hv3, h⟩ := h
  refine E_hs (M := mX11_letSound) 15 rfl dX11_letSound_12 shc_0 fl_X11_40 rfl hv3 ?_
  refine E_gI (M := mX11_letSound) 18 rfl dX11_letSound_15 (sh_H (hsO_s hv3).1) fl_X11_258 rfl ?_
  replace h := Option.bind_eq_some_iff.mp h
  obtain ⟨I4, hI4, h⟩ := h
  refine E_pfI (M := mX11_letSound) 21 rfl dX11_letSound_18 (sh_N (isN_ld (hsO_s hv1).1 hv2)) fl_X11_188 rfl hI4 ?_
  refine E_aload_n (M := mX11_letSound) 22 rfl dX11_letSound_21 rfl 0 rfl ?_
  refine E_dup (M := mX11_letSound) 23 rfl dX11_letSound_22 rfl ?_
  refine E_gI (M := mX11_letSound) 26 rfl dX11_letSound_23 (sh_N (isN_ld (hsO_s hv1).1 hv2)) fl_X11_191 rfl ?_
  refine E_iconst (M := mX11_letSound) (v := 1) 27 rfl dX11_letSound_26 (by decide) ?_
  refine E_iadd (M := mX11_letSound) 28 rfl dX11_letSound_27 ?_
  replace h := Option.bind_eq_some_iff.mp h
  obtain ⟨I5, hI5, h⟩ := h
  refine E_pfI (M := mX11_letSound) 31 rfl dX11_letSound_28 (sh_N (isN_ld (hsO_s hv1).1 hv2)) fl_X11_191 rfl hI5 ?_
  refine E_aload_n (M := mX11_letSound) 32 rfl dX11_letSound_31 rfl 1 rfl ?_
  replace h := Option.bind_eq_some_iff.mp h
  obtain ⟨v6, hv6, h⟩ := h
  refine E_hs (M := mX11_letSound) 35 rfl dX11_letSound_32 shc_0 fl_X11_40 rfl hv6 ?_
  refine E_dup (M := mX11_letSound) 36 rfl dX11_letSound_35 rfl ?_
  refine E_gI (M := mX11_letSound) 39 rfl dX11_letSound_36 (sh_H (hsO_s hv6).1) fl_X11_229 rfl ?_
  refine E_iconst (M := mX11_letSound) (v := 1) 40 rfl dX11_letSound_39 (by decide) ?_
  refine E_iadd (M := mX11_letSound) 41 rfl dX11_letSound_40 ?_
  replace h := Option.bind_eq_some_iff.mp h
  obtain ⟨I7, hI7, h⟩ := h
  refine E_pfI (M := mX11_letSound) 44 rfl dX11_letSound_41 (sh_H (hsO_s hv6).1) fl_X11_229 rfl hI7 ?_
  refine E_aload_n (M := mX11_letSound) 45 rfl dX11_letSound_44 rfl 1 rfl ?_
  replace h := Option.bind_eq_some_iff.mp h
  obtain ⟨v8, hv8, h⟩ := h
  refine E_hs (M := mX11_letSound) 48 rfl dX11_letSound_45 shc_0 fl_X11_40 rfl hv8 ?_
  refine E_aload_n (M := mX11_letSound) 49 rfl dX11_letSound_48 rfl 0 rfl ?_
  replace h := Option.bind_eq_some_iff.mp h
  obtain ⟨v9, hv9, h⟩ := h
  refine E_cV1 (M := mX11_letSound) (As := [.ref v2]) 52 rfl dX11_letSound_49 (sh_H (hsO_s hv8).1) ck_X11_261 cv_X3_isHeard rfl (by decide) (Nat.le_of_ble_eq_true rfl) (C_X3_isHeard (g := g) (hsO_s hv8).1 (isN_ld (hsO_s hv1).1 hv2) hv9) rfl ?_
  refine E_if_eqB (M := mX11_letSound) 161 55 (by decide) rfl dX11_letSound_52 (fun c10 => ?_) (fun c10 => ?_)
  · rw [if_neg (by rw [c10]; decide)] at h
    refine E_sub (M := mX11_letSound) (lv' := []) [] rfl ?_
    exact S_X11_letSound_161 I7 L _ h
  · rw [if_pos c10] at h
    refine E_aload_n (M := mX11_letSound) 56 rfl dX11_letSound_55 rfl 1 rfl ?_
    refine E_gR (M := mX11_letSound) 8 59 rfl dX11_letSound_56 shc_0 fl_X11_26 rfl (by decide) (by decide) ?_
    refine E_aload_n (M := mX11_letSound) 60 rfl dX11_letSound_59 rfl 1 rfl ?_
    replace h := Option.bind_eq_some_iff.mp h
    obtain ⟨v11, hv11, h⟩ := h
    refine E_hs (M := mX11_letSound) 63 rfl dX11_letSound_60 shc_0 fl_X11_40 rfl hv11 ?_
    refine E_iload_n (M := mX11_letSound) 64 rfl dX11_letSound_63 rfl 2 rfl ?_
    replace h := Option.bind_eq_some_iff.mp h
    obtain ⟨w12, hw12, h⟩ := h
    refine E_cV0 (M := mX11_letSound) (As := [.ref v11, .int x1]) 67 rfl dX11_letSound_64 shc_8 ck_X11_205 cv_X6_weigh rfl (by decide) (Nat.le_of_ble_eq_true rfl) (C_X6_weigh (g := g) (hsO_s hv11).1 hw12) rfl ?_
    refine E_aload_n (M := mX11_letSound) 68 rfl dX11_letSound_67 rfl 1 rfl ?_
    refine E_gR (M := mX11_letSound) 8 71 rfl dX11_letSound_68 shc_0 fl_X11_26 rfl (by decide) (by decide) ?_
    refine E_aload_n (M := mX11_letSound) 72 rfl dX11_letSound_71 rfl 0 rfl ?_
    refine E_gI (M := mX11_letSound) 75 rfl dX11_letSound_72 (sh_N (isN_ld (hsO_s hv1).1 hv2)) fl_X11_179 rfl ?_
    refine E_i2l (M := mX11_letSound) 76 rfl dX11_letSound_75 ?_
    replace h := Option.bind_eq_some_iff.mp h
    obtain ⟨w13, hw13, h⟩ := h
    refine E_cV0 (M := mX11_letSound) (As := [.long ((w12.1 v2 5).toInt64)]) 79 rfl dX11_letSound_76 shc_8 ck_X11_217 cv_X6_divide rfl (by decide) (Nat.le_of_ble_eq_true rfl) (C_X6_divide (g := g) hw13) rfl ?_
    refine E_iconst (M := mX11_letSound) (v := 0) 80 rfl dX11_letSound_79 (by decide) ?_
    refine E_istore_n (M := mX11_letSound) (lv' := [(3, .int 0), (2, .ref v2), (0, .ref 0), (1, .int x1)]) 81 rfl dX11_letSound_80 rfl (Nat.le_of_ble_eq_true rfl) rfl ?_
    refine E_sub (M := mX11_letSound) (lv' := [(0, .ref 0), (2, .ref v2), (3, .int 0)]) [2, 1, 0] rfl ?_
    exact S_X11_letSound_81 FU v2 0 (isN_ld (hsO_s hv1).1 hv2) w13.1 w13.2 _ h
theorem C_X11_letSound {g : Gx} {x1 : Int32} {I : MI} {L : ML} {res : MI × ML} (h : f_X11_letSound x1 I L = some res) : Ent g 8 0 mX11_letSound [.ref 0, .int x1] (I, L) (.inl none) (res.1, res.2) := Ent_of (by decide +kernel) (Nat.le_of_ble_eq_true rfl) (S_X11_letSound x1 I L _ h)
def f_X11_passHour_69 (k34 : Int32 → MI → ML → Option (MI × ML)) (x1 : Int32) (I : MI) (L : ML) : Option (MI × ML) := k34 (x1 + 1) I L
set_option maxRecDepth 100000 in
theorem S_X11_passHour_69 {g : Gx} {k34 : Int32 → MI → ML → Option (MI × ML)} (hk34 : ∀ (x1z : Int32) (I : MI) (L : ML) (res : MI × ML), k34 x1z I L = some res → E g 9 0 mX11_passHour 34 [(0, .ref 0), (1, .int x1z)] [] (I, L) (.inl none) (res.1, res.2)) (x1 : Int32) (I : MI) (L : ML) (res : MI × ML) (h : f_X11_passHour_69 k34 x1 I L = some res) : E g 9 0 mX11_passHour 69 [(0, .ref 0), (1, .int x1)] [] (I, L) (.inl none) (res.1, res.2) := by
  unfold f_X11_passHour_69 at h
  refine E_iinc (M := mX11_passHour) (j := 1) (v := x1 + 1) (lv' := [(1, .int (x1 + 1)), (0, .ref 0)]) 72 rfl dX11_passHour_69 rfl rfl (Nat.le_of_ble_eq_true rfl) rfl ?_
  refine E_goto (M := mX11_passHour) 34 (by decide) dX11_passHour_72 ?_
  refine E_sub (M := mX11_passHour) (lv' := [(0, .ref 0), (1, .int (x1 + 1))]) [1, 0] rfl ?_
  exact hk34 (x1 + 1) I L _ h
def f_X11_passHour_34 : Nat → Int32 → MI → ML → Option (MI × ML)
  | 0, _, _, _ => none
  | n + 1, x1, I, L => Option.bind (hsO (I 0 4)) fun v1 => if (I v1 3) ≤ x1 then (Option.bind (hsO (I 0 4)) fun v3 => Option.bind (f_X3_rememberSeats v3 I L) fun w4 => Option.bind (hsO (w4.1 0 4)) fun v5 => Option.bind (pfI w4.1 v5 12 ((w4.1 v5 12) + 1)) fun I6 => some (I6, w4.2)) else (Option.bind (hsO (I 0 4)) fun v7 => Option.bind (hsO (I 0 4)) fun v8 => Option.bind (ldR (v8 + 33) 12 x1) fun v9 => Option.bind (f_X3_soundsNow v7 v9 I L) fun w10 => if w10.1 = true then (Option.bind (f_X11_letSound x1 w10.2.1 w10.2.2) fun w12 => f_X11_passHour_69 (f_X11_passHour_34 n) x1 w12.1 w12.2) else (f_X11_passHour_69 (f_X11_passHour_34 n) x1 w10.2.1 w10.2.2))
set_option maxRecDepth 100000 in
theorem S_X11_passHour_34 {g : Gx} : ∀ (n : Nat) (x1 : Int32) (I : MI) (L : ML) (res : MI × ML), f_X11_passHour_34 n x1 I L = some res → E g 9 0 mX11_passHour 34 [(0, .ref 0), (1, .int x1)] [] (I, L) (.inl none) (res.1, res.2) := by
  intro n
  induction n with
  | zero =>
    intros
    rename_i h
    cases h
  | succ n ih =>
    intro x1 I L res h
    rw [f_X11_passHour_34] at h
    refine E_iload_n (M := mX11_passHour) 35 rfl dX11_passHour_34 rfl 1 rfl ?_
    refine E_aload_n (M := mX11_passHour) 36 rfl dX11_passHour_35 rfl 0 rfl ?_
    replace h := Option.bind_eq_some_iff.mp h
    obtain ⟨v1, hv1, h⟩ := h
    refine E_hs (M := mX11_passHour) 39 rfl dX11_passHour_36 shc_0 fl_X11_40 rfl hv1 ?_
    refine E_gI (M := mX11_passHour) 42 rfl dX11_passHour_39 (sh_H (hsO_s hv1).1) fl_X11_245 rfl ?_
    refine E_icmp_ge (M := mX11_passHour) 75 45 (by decide) rfl dX11_passHour_42 (fun c2 => ?_) (fun c2 => ?_)
    · rw [if_pos c2] at h
      refine E_aload_n (M := mX11_passHour) 76 rfl dX11_passHour_75 rfl 0 rfl ?_
      replace h := Option.bind_eq_some_iff.mp h
      obtain ⟨v3, hv3, h⟩ := h
      refine E_hs (M := mX11_passHour) 79 rfl dX11_passHour_76 shc_0 fl_X11_40 rfl hv3 ?_
      replace h := Option.bind_eq_some_iff.mp h
      obtain ⟨w4, hw4, h⟩ := h
      refine E_cV0 (M := mX11_passHour) (As := []) 82 rfl dX11_passHour_79 (sh_H (hsO_s hv3).1) ck_X11_255 cv_X3_rememberSeats rfl (by decide) (Nat.le_of_ble_eq_true rfl) (C_X3_rememberSeats (g := g) (hsO_s hv3).1 hw4) rfl ?_
      refine E_aload_n (M := mX11_passHour) 83 rfl dX11_passHour_82 rfl 0 rfl ?_
      replace h := Option.bind_eq_some_iff.mp h
      obtain ⟨v5, hv5, h⟩ := h
      refine E_hs (M := mX11_passHour) 86 rfl dX11_passHour_83 shc_0 fl_X11_40 rfl hv5 ?_
      refine E_dup (M := mX11_passHour) 87 rfl dX11_passHour_86 rfl ?_
      refine E_gI (M := mX11_passHour) 90 rfl dX11_passHour_87 (sh_H (hsO_s hv5).1) fl_X11_258 rfl ?_
      refine E_iconst (M := mX11_passHour) (v := 1) 91 rfl dX11_passHour_90 (by decide) ?_
      refine E_iadd (M := mX11_passHour) 92 rfl dX11_passHour_91 ?_
      replace h := Option.bind_eq_some_iff.mp h
      obtain ⟨I6, hI6, h⟩ := h
      refine E_pfI (M := mX11_passHour) 95 rfl dX11_passHour_92 (sh_H (hsO_s hv5).1) fl_X11_258 rfl hI6 ?_
      cases h
      exact E_vret (M := mX11_passHour) rfl dX11_passHour_95
    · rw [if_neg c2] at h
      refine E_aload_n (M := mX11_passHour) 46 rfl dX11_passHour_45 rfl 0 rfl ?_
      replace h := Option.bind_eq_some_iff.mp h
      obtain ⟨v7, hv7, h⟩ := h
      refine E_hs (M := mX11_passHour) 49 rfl dX11_passHour_46 shc_0 fl_X11_40 rfl hv7 ?_
      refine E_aload_n (M := mX11_passHour) 50 rfl dX11_passHour_49 rfl 0 rfl ?_
      replace h := Option.bind_eq_some_iff.mp h
      obtain ⟨v8, hv8, h⟩ := h
      refine E_hs (M := mX11_passHour) 53 rfl dX11_passHour_50 shc_0 fl_X11_40 rfl hv8 ?_
      refine E_gR (M := mX11_passHour) (v8 + 4) 56 rfl dX11_passHour_53 (sh_H (hsO_s hv8).1) fl_X11_163 rfl (rt_H7 (hsO_s hv8).1) (H_lt (hsO_s hv8).1 4 (by decide)) ?_
      refine E_iload_n (M := mX11_passHour) 57 rfl dX11_passHour_56 rfl 1 rfl ?_
      replace h := Option.bind_eq_some_iff.mp h
      obtain ⟨v9, hv9, h⟩ := h
      refine E_ldN (M := mX11_passHour) (hsO_s hv8).1 58 rfl dX11_passHour_57 hv9 ?_
      replace h := Option.bind_eq_some_iff.mp h
      obtain ⟨w10, hw10, h⟩ := h
      refine E_cV1 (M := mX11_passHour) (As := [.ref v9]) 61 rfl dX11_passHour_58 (sh_H (hsO_s hv7).1) ck_X11_248 cv_X3_soundsNow rfl (by decide) (Nat.le_of_ble_eq_true rfl) (C_X3_soundsNow (g := g) (hsO_s hv7).1 (isN_ld (hsO_s hv8).1 hv9) hw10) rfl ?_
      refine E_if_eqB (M := mX11_passHour) 69 64 (by decide) rfl dX11_passHour_61 (fun c11 => ?_) (fun c11 => ?_)
      · rw [if_neg (by rw [c11]; decide)] at h
        refine E_sub (M := mX11_passHour) (lv' := [(0, .ref 0), (1, .int x1)]) [0, 1] rfl ?_
        exact S_X11_passHour_69 ih x1 w10.2.1 w10.2.2 _ h
      · rw [if_pos c11] at h
        refine E_aload_n (M := mX11_passHour) 65 rfl dX11_passHour_64 rfl 0 rfl ?_
        refine E_iload_n (M := mX11_passHour) 66 rfl dX11_passHour_65 rfl 1 rfl ?_
        replace h := Option.bind_eq_some_iff.mp h
        obtain ⟨w12, hw12, h⟩ := h
        refine E_cV0 (M := mX11_passHour) (As := [.int x1]) 69 rfl dX11_passHour_66 shc_0 ck_X11_252 cv_X11_letSound rfl (by decide) (Nat.le_of_ble_eq_true rfl) (C_X11_letSound (g := g) hw12) rfl ?_
        refine E_sub (M := mX11_passHour) (lv' := [(0, .ref 0), (1, .int x1)]) [0, 1] rfl ?_
        exact S_X11_passHour_69 ih x1 w12.1 w12.2 _ h
def f_X11_passHour_29 (y0 : Nat) (y1 : Bool) (I : MI) (L : ML) : Option (MI × ML) := Option.bind (pfI I y0 14 (bI y1)) fun I1 => f_X11_passHour_34 FU 0 I1 L
set_option maxRecDepth 100000 in
theorem S_X11_passHour_29 {g : Gx} (y0 : Nat) (y1 : Bool) (hy0 : isH y0) (I : MI) (L : ML) (res : MI × ML) (h : f_X11_passHour_29 y0 y1 I L = some res) : E g 9 0 mX11_passHour 29 [(0, .ref 0)] [.int (bI y1), .ref y0] (I, L) (.inl none) (res.1, res.2) := by
  unfold f_X11_passHour_29 at h
  replace h := Option.bind_eq_some_iff.mp h
  obtain ⟨I1, hI1, h⟩ := h
  refine E_pfB (M := mX11_passHour) (x := y1) 32 rfl dX11_passHour_29 (sh_H hy0) fl_X11_242 rfl hI1 ?_
  refine E_iconst (M := mX11_passHour) (v := 0) 33 rfl dX11_passHour_32 (by decide) ?_
  refine E_istore_n (M := mX11_passHour) (lv' := [(1, .int 0), (0, .ref 0)]) 34 rfl dX11_passHour_33 rfl (Nat.le_of_ble_eq_true rfl) rfl ?_
  refine E_sub (M := mX11_passHour) (lv' := [(0, .ref 0), (1, .int 0)]) [1, 0] rfl ?_
  exact S_X11_passHour_34 FU 0 I1 L _ h
def f_X11_passHour (I : MI) (L : ML) : Option (MI × ML) := Option.bind (hsO (I 0 4)) fun v1 => Option.bind (hsO (I 0 4)) fun v2 => Option.bind (f_X3_draw v2 I L) fun w3 => Option.bind (hsO (w3.2.1 0 4)) fun v5 => if (w3.2.1 v5 13) ≤ (w3.1 - w3.1 / 100 * 100) then (f_X11_passHour_29 v1 false w3.2.1 w3.2.2) else (f_X11_passHour_29 v1 true w3.2.1 w3.2.2)
set_option maxRecDepth 100000 in
theorem S_X11_passHour {g : Gx} (I : MI) (L : ML) (res : MI × ML) (h : f_X11_passHour I L = some res) : E g 9 0 mX11_passHour 0 [(0, .ref 0)] [] (I, L) (.inl none) (res.1, res.2) := by
  unfold f_X11_passHour at h
  refine E_aload_n (M := mX11_passHour) 1 rfl dX11_passHour_0 rfl 0 rfl ?_
  replace h := Option.bind_eq_some_iff.mp h
  obtain ⟨v1, hv1, h⟩ := h
  refine E_hs (M := mX11_passHour) 4 rfl dX11_passHour_1 shc_0 fl_X11_40 rfl hv1 ?_
  refine E_aload_n (M := mX11_passHour) 5 rfl dX11_passHour_4 rfl 0 rfl ?_
  replace h := Option.bind_eq_some_iff.mp h
  obtain ⟨v2, hv2, h⟩ := h
  refine E_hs (M := mX11_passHour) 8 rfl dX11_passHour_5 shc_0 fl_X11_40 rfl hv2 ?_
  replace h := Option.bind_eq_some_iff.mp h
  obtain ⟨w3, hw3, h⟩ := h
  refine E_cV1 (M := mX11_passHour) (As := []) 11 rfl dX11_passHour_8 (sh_H (hsO_s hv2).1) ck_X11_235 cv_X3_draw rfl (by decide) (Nat.le_of_ble_eq_true rfl) (C_X3_draw (g := g) (hsO_s hv2).1 hw3) rfl ?_
  refine E_bipush (M := mX11_passHour) (v := 100) 13 rfl dX11_passHour_11 (by decide) ?_
  refine E_irem (M := mX11_passHour) 14 rfl dX11_passHour_13 (by decide) ?_
  refine E_aload_n (M := mX11_passHour) 15 rfl dX11_passHour_14 rfl 0 rfl ?_
  replace h := Option.bind_eq_some_iff.mp h
  obtain ⟨v5, hv5, h⟩ := h
  refine E_hs (M := mX11_passHour) 18 rfl dX11_passHour_15 shc_0 fl_X11_40 rfl hv5 ?_
  refine E_gI (M := mX11_passHour) 21 rfl dX11_passHour_18 (sh_H (hsO_s hv5).1) fl_X11_239 rfl ?_
  refine E_icmp_ge (M := mX11_passHour) 28 24 (by decide) rfl dX11_passHour_21 (fun c6 => ?_) (fun c6 => ?_)
  · rw [if_pos c6] at h
    refine E_iconst (M := mX11_passHour) (v := 0) 29 rfl dX11_passHour_28 (by decide) ?_
    refine E_sub (M := mX11_passHour) (lv' := [(0, .ref 0)]) [0] rfl ?_
    exact S_X11_passHour_29 v1 false (hsO_s hv1).1 w3.2.1 w3.2.2 _ h
  · rw [if_neg c6] at h
    refine E_iconst (M := mX11_passHour) (v := 1) 25 rfl dX11_passHour_24 (by decide) ?_
    refine E_goto (M := mX11_passHour) 29 (by decide) dX11_passHour_25 ?_
    refine E_sub (M := mX11_passHour) (lv' := [(0, .ref 0)]) [0] rfl ?_
    exact S_X11_passHour_29 v1 true (hsO_s hv1).1 w3.2.1 w3.2.2 _ h
theorem C_X11_passHour {g : Gx} {I : MI} {L : ML} {res : MI × ML} (h : f_X11_passHour I L = some res) : Ent g 9 0 mX11_passHour [.ref 0] (I, L) (.inl none) (res.1, res.2) := Ent_of (by decide +kernel) (Nat.le_of_ble_eq_true rfl) (S_X11_passHour I L _ h)
def f_X11_hours_37 : Nat → Int32 → Int32 → Int32 → MI → ML → Option ((String ⊕ Int32) × MI × ML)
  | 0, _, _, _, _, _ => none
  | n + 1, x1, x2, x3, I, L => if x1 ≤ x3 then (Option.bind (hsO (I 0 4)) fun v2 => some (.inr ((I v2 17) - x2), I, L)) else (Option.bind (f_X11_passHour I L) fun w3 => f_X11_hours_37 n x1 x2 (x3 + 1) w3.1 w3.2)
set_option maxRecDepth 100000 in
theorem S_X11_hours_37 {g : Gx} : ∀ (n : Nat) (x1 : Int32) (x2 : Int32) (x3 : Int32) (I : MI) (L : ML) (res : (String ⊕ Int32) × MI × ML), f_X11_hours_37 n x1 x2 x3 I L = some res → E g 10 (bS res.1) mX11_hours 37 [(0, .ref 0), (1, .int x1), (2, .int x2), (3, .int x3)] [] (I, L) (rI res.1) (res.2.1, res.2.2) := by
  intro n
  induction n with
  | zero =>
    intros
    rename_i h
    cases h
  | succ n ih =>
    intro x1 x2 x3 I L res h
    rw [f_X11_hours_37] at h
    refine E_iload_n (M := mX11_hours) 38 rfl dX11_hours_37 rfl 3 rfl ?_
    refine E_iload_n (M := mX11_hours) 39 rfl dX11_hours_38 rfl 1 rfl ?_
    refine E_icmp_ge (M := mX11_hours) 52 42 (by decide) rfl dX11_hours_39 (fun c1 => ?_) (fun c1 => ?_)
    · rw [if_pos c1] at h
      refine E_aload_n (M := mX11_hours) 53 rfl dX11_hours_52 rfl 0 rfl ?_
      replace h := Option.bind_eq_some_iff.mp h
      obtain ⟨v2, hv2, h⟩ := h
      refine E_hs (M := mX11_hours) 56 rfl dX11_hours_53 shc_0 fl_X11_40 rfl hv2 ?_
      refine E_gI (M := mX11_hours) 59 rfl dX11_hours_56 (sh_H (hsO_s hv2).1) fl_X11_229 rfl ?_
      refine E_iload_n (M := mX11_hours) 60 rfl dX11_hours_59 rfl 2 rfl ?_
      refine E_isub (M := mX11_hours) 61 rfl dX11_hours_60 ?_
      cases h
      exact E_iret (M := mX11_hours) rfl dX11_hours_61
    · rw [if_neg c1] at h
      refine E_aload_n (M := mX11_hours) 43 rfl dX11_hours_42 rfl 0 rfl ?_
      replace h := Option.bind_eq_some_iff.mp h
      obtain ⟨w3, hw3, h⟩ := h
      refine E_cV0 (M := mX11_hours) (As := []) 46 rfl dX11_hours_43 shc_0 ck_X11_232 cv_X11_passHour rfl (by decide) (Nat.le_of_ble_eq_true rfl) (C_X11_passHour (g := g) hw3) rfl ?_
      refine E_iinc (M := mX11_hours) (j := 3) (v := x3 + 1) (lv' := [(3, .int (x3 + 1)), (0, .ref 0), (1, .int x1), (2, .int x2)]) 49 rfl dX11_hours_46 rfl rfl (Nat.le_of_ble_eq_true rfl) rfl ?_
      refine E_goto (M := mX11_hours) 37 (by decide) dX11_hours_49 ?_
      refine E_sub (M := mX11_hours) (lv' := [(0, .ref 0), (1, .int x1), (2, .int x2), (3, .int (x3 + 1))]) [1, 2, 3, 0] rfl ?_
      exact ih x1 x2 (x3 + 1) w3.1 w3.2 _ h
def f_X11_hours_17 (x1 : Int32) (y0 : Bool) (I : MI) (L : ML) : Option ((String ⊕ Int32) × MI × ML) := Option.bind (f_X11_need y0 I L) fun w1 => xc w1 fun _ => Option.bind (f_X0_forget w1.2.1 w1.2.2) fun w4 => Option.bind (hsO (w4.1 0 4)) fun v5 => f_X11_hours_37 FU x1 (w4.1 v5 17) 0 w4.1 w4.2
set_option maxRecDepth 100000 in
theorem S_X11_hours_17 {g : Gx} (x1 : Int32) (y0 : Bool) (I : MI) (L : ML) (res : (String ⊕ Int32) × MI × ML) (h : f_X11_hours_17 x1 y0 I L = some res) : E g 10 (bS res.1) mX11_hours 17 [(0, .ref 0), (1, .int x1)] [.int (bI y0)] (I, L) (rI res.1) (res.2.1, res.2.2) := by
  unfold f_X11_hours_17 at h
  replace h := Option.bind_eq_some_iff.mp h
  obtain ⟨w1, hw1, h⟩ := h
  replace h := xc_s h
  rcases h with ⟨ex2, hex2, rfl⟩ | ⟨v3, hv3, h⟩
  · have hc := (C_X11_need (g := g) hw1)
    rw [hex2] at hc
    exact E_callSX (M := mX11_hours) (As := [.int (bI y0)]) dX11_hours_17 ck_X11_213 ss_X11_need rfl (by decide) (Nat.le_of_ble_eq_true rfl) hc rfl
  have hcv3 := (C_X11_need (g := g) hw1)
  rw [hv3] at hcv3
  refine E_cS0 (M := mX11_hours) (As := [.int (bI y0)]) 20 rfl dX11_hours_17 ck_X11_213 ss_X11_need rfl (by decide) (Nat.le_of_ble_eq_true rfl) hcv3 rfl ?_
  refine E_aload_n (M := mX11_hours) 21 rfl dX11_hours_20 rfl 0 rfl ?_
  refine E_gR (M := mX11_hours) 3 24 rfl dX11_hours_21 shc_0 fl_X11_19 rfl (by decide) (by decide) ?_
  replace h := Option.bind_eq_some_iff.mp h
  obtain ⟨w4, hw4, h⟩ := h
  refine E_cV0 (M := mX11_hours) (As := []) 27 rfl dX11_hours_24 shc_3 ck_X11_108 cv_X0_forget rfl (by decide) (Nat.le_of_ble_eq_true rfl) (C_X0_forget (g := g) hw4) rfl ?_
  refine E_aload_n (M := mX11_hours) 28 rfl dX11_hours_27 rfl 0 rfl ?_
  replace h := Option.bind_eq_some_iff.mp h
  obtain ⟨v5, hv5, h⟩ := h
  refine E_hs (M := mX11_hours) 31 rfl dX11_hours_28 shc_0 fl_X11_40 rfl hv5 ?_
  refine E_gI (M := mX11_hours) 34 rfl dX11_hours_31 (sh_H (hsO_s hv5).1) fl_X11_229 rfl ?_
  refine E_istore_n (M := mX11_hours) (lv' := [(2, .int (w4.1 v5 17)), (0, .ref 0), (1, .int x1)]) 35 rfl dX11_hours_34 rfl (Nat.le_of_ble_eq_true rfl) rfl ?_
  refine E_iconst (M := mX11_hours) (v := 0) 36 rfl dX11_hours_35 (by decide) ?_
  refine E_istore_n (M := mX11_hours) (lv' := [(3, .int 0), (2, .int (w4.1 v5 17)), (0, .ref 0), (1, .int x1)]) 37 rfl dX11_hours_36 rfl (Nat.le_of_ble_eq_true rfl) rfl ?_
  refine E_sub (M := mX11_hours) (lv' := [(0, .ref 0), (1, .int x1), (2, .int (w4.1 v5 17)), (3, .int 0)]) [2, 3, 1, 0] rfl ?_
  exact S_X11_hours_37 FU x1 (w4.1 v5 17) 0 w4.1 w4.2 _ h
def f_X11_hours_16 (x1 : Int32) (I : MI) (L : ML) : Option ((String ⊕ Int32) × MI × ML) := f_X11_hours_17 x1 false I L
set_option maxRecDepth 100000 in
theorem S_X11_hours_16 {g : Gx} (x1 : Int32) (I : MI) (L : ML) (res : (String ⊕ Int32) × MI × ML) (h : f_X11_hours_16 x1 I L = some res) : E g 10 (bS res.1) mX11_hours 16 [(0, .ref 0), (1, .int x1)] [] (I, L) (rI res.1) (res.2.1, res.2.2) := by
  unfold f_X11_hours_16 at h
  refine E_iconst (M := mX11_hours) (v := 0) 17 rfl dX11_hours_16 (by decide) ?_
  refine E_sub (M := mX11_hours) (lv' := [(0, .ref 0), (1, .int x1)]) [0, 1] rfl ?_
  exact S_X11_hours_17 x1 false I L _ h
def f_X11_hours (x1 : Int32) (I : MI) (L : ML) : Option ((String ⊕ Int32) × MI × ML) := if x1 < 1 then (f_X11_hours_16 x1 I L) else (if 240 < x1 then (f_X11_hours_16 x1 I L) else (f_X11_hours_17 x1 true I L))
set_option maxRecDepth 100000 in
theorem S_X11_hours {g : Gx} (x1 : Int32) (I : MI) (L : ML) (res : (String ⊕ Int32) × MI × ML) (h : f_X11_hours x1 I L = some res) : E g 10 (bS res.1) mX11_hours 0 [(0, .ref 0), (1, .int x1)] [] (I, L) (rI res.1) (res.2.1, res.2.2) := by
  unfold f_X11_hours at h
  refine E_iload_n (M := mX11_hours) 1 rfl dX11_hours_0 rfl 1 rfl ?_
  refine E_iconst (M := mX11_hours) (v := 1) 2 rfl dX11_hours_1 (by decide) ?_
  refine E_icmp_lt (M := mX11_hours) 16 5 (by decide) rfl dX11_hours_2 (fun c1 => ?_) (fun c1 => ?_)
  · rw [if_pos c1] at h
    refine E_sub (M := mX11_hours) (lv' := [(0, .ref 0), (1, .int x1)]) [0, 1] rfl ?_
    exact S_X11_hours_16 x1 I L _ h
  · rw [if_neg c1] at h
    refine E_iload_n (M := mX11_hours) 6 rfl dX11_hours_5 rfl 1 rfl ?_
    refine E_sipush (M := mX11_hours) (v := 240) 9 rfl dX11_hours_6 (by decide) ?_
    refine E_icmp_gt (M := mX11_hours) 16 12 (by decide) rfl dX11_hours_9 (fun c2 => ?_) (fun c2 => ?_)
    · rw [if_pos c2] at h
      refine E_sub (M := mX11_hours) (lv' := [(0, .ref 0), (1, .int x1)]) [0, 1] rfl ?_
      exact S_X11_hours_16 x1 I L _ h
    · rw [if_neg c2] at h
      refine E_iconst (M := mX11_hours) (v := 1) 13 rfl dX11_hours_12 (by decide) ?_
      refine E_goto (M := mX11_hours) 17 (by decide) dX11_hours_13 ?_
      refine E_sub (M := mX11_hours) (lv' := [(0, .ref 0), (1, .int x1)]) [0, 1] rfl ?_
      exact S_X11_hours_17 x1 true I L _ h
theorem C_X11_hours {g : Gx} {x1 : Int32} {I : MI} {L : ML} {res : (String ⊕ Int32) × MI × ML} (h : f_X11_hours x1 I L = some res) : Ent g 10 (bS res.1) mX11_hours [.ref 0, .int x1] (I, L) (rI res.1) (res.2.1, res.2.2) := Ent_of (by decide +kernel) (Nat.le_of_ble_eq_true rfl) (S_X11_hours x1 I L _ h)
def f_X11_go (x1 : Int32) (x2 : Int32) (I : MI) (L : ML) : Option ((String ⊕ Int32) × MI × ML) := Option.bind (f_X11_needHeir x1 I L) fun w1 => xc w1 fun _ => Option.bind (f_X11_needRoom x2 w1.2.1 w1.2.2) fun w4 => xc w4 fun _ => Option.bind (hsO (w4.2.1 0 4)) fun v7 => Option.bind (ldR (v7 + 27) 6 x1) fun v8 => Option.bind (hsO (w4.2.1 0 4)) fun v9 => Option.bind (f_X0_remember 0 x1 (w4.2.1 v8 0) (w4.2.1 v9 18) w4.2.1 w4.2.2) fun w10 => Option.bind (hsO (w10.1 0 4)) fun v11 => Option.bind (ldR (v11 + 27) 6 x1) fun v12 => Option.bind (pfI w10.1 v12 0 x2) fun I13 => some (.inr (w4.2.1 v8 0), I13, w10.2)
set_option maxRecDepth 100000 in
theorem S_X11_go {g : Gx} (x1 : Int32) (x2 : Int32) (I : MI) (L : ML) (res : (String ⊕ Int32) × MI × ML) (h : f_X11_go x1 x2 I L = some res) : E g 7 (bS res.1) mX11_go 0 [(0, .ref 0), (1, .int x1), (2, .int x2)] [] (I, L) (rI res.1) (res.2.1, res.2.2) := by
  unfold f_X11_go at h
  refine E_aload_n (M := mX11_go) 1 rfl dX11_go_0 rfl 0 rfl ?_
  refine E_iload_n (M := mX11_go) 2 rfl dX11_go_1 rfl 1 rfl ?_
  replace h := Option.bind_eq_some_iff.mp h
  obtain ⟨w1, hw1, h⟩ := h
  replace h := xc_s h
  rcases h with ⟨ex2, hex2, rfl⟩ | ⟨v3, hv3, h⟩
  · have hc := (C_X11_needHeir (g := g) hw1)
    rw [hex2] at hc
    exact E_callVX (M := mX11_go) (As := [.int x1]) dX11_go_2 shc_0 ck_X11_136 cv_X11_needHeir rfl (by decide) (Nat.le_of_ble_eq_true rfl) hc rfl
  have hcv3 := (C_X11_needHeir (g := g) hw1)
  rw [hv3] at hcv3
  refine E_cV0 (M := mX11_go) (As := [.int x1]) 5 rfl dX11_go_2 shc_0 ck_X11_136 cv_X11_needHeir rfl (by decide) (Nat.le_of_ble_eq_true rfl) hcv3 rfl ?_
  refine E_aload_n (M := mX11_go) 6 rfl dX11_go_5 rfl 0 rfl ?_
  refine E_iload_n (M := mX11_go) 7 rfl dX11_go_6 rfl 2 rfl ?_
  replace h := Option.bind_eq_some_iff.mp h
  obtain ⟨w4, hw4, h⟩ := h
  replace h := xc_s h
  rcases h with ⟨ex5, hex5, rfl⟩ | ⟨v6, hv6, h⟩
  · have hc := (C_X11_needRoom (g := g) hw4)
    rw [hex5] at hc
    exact E_callVX (M := mX11_go) (As := [.int x2]) dX11_go_7 shc_0 ck_X11_114 cv_X11_needRoom rfl (by decide) (Nat.le_of_ble_eq_true rfl) hc rfl
  have hcv6 := (C_X11_needRoom (g := g) hw4)
  rw [hv6] at hcv6
  refine E_cV0 (M := mX11_go) (As := [.int x2]) 10 rfl dX11_go_7 shc_0 ck_X11_114 cv_X11_needRoom rfl (by decide) (Nat.le_of_ble_eq_true rfl) hcv6 rfl ?_
  refine E_aload_n (M := mX11_go) 11 rfl dX11_go_10 rfl 0 rfl ?_
  replace h := Option.bind_eq_some_iff.mp h
  obtain ⟨v7, hv7, h⟩ := h
  refine E_hs (M := mX11_go) 14 rfl dX11_go_11 shc_0 fl_X11_40 rfl hv7 ?_
  refine E_gR (M := mX11_go) (v7 + 3) 17 rfl dX11_go_14 (sh_H (hsO_s hv7).1) fl_X11_139 rfl (rt_H6 (hsO_s hv7).1) (H_lt (hsO_s hv7).1 3 (by decide)) ?_
  refine E_iload_n (M := mX11_go) 18 rfl dX11_go_17 rfl 1 rfl ?_
  replace h := Option.bind_eq_some_iff.mp h
  obtain ⟨v8, hv8, h⟩ := h
  refine E_ldE (M := mX11_go) (hsO_s hv7).1 19 rfl dX11_go_18 hv8 ?_
  refine E_gI (M := mX11_go) 22 rfl dX11_go_19 (sh_E (isE_ld (hsO_s hv7).1 hv8)) fl_X11_143 rfl ?_
  refine E_istore_n (M := mX11_go) (lv' := [(3, .int (w4.2.1 v8 0)), (0, .ref 0), (1, .int x1), (2, .int x2)]) 23 rfl dX11_go_22 rfl (Nat.le_of_ble_eq_true rfl) rfl ?_
  refine E_aload_n (M := mX11_go) 24 rfl dX11_go_23 rfl 1 rfl ?_
  refine E_gR (M := mX11_go) 3 27 rfl dX11_go_24 shc_0 fl_X11_19 rfl (by decide) (by decide) ?_
  refine E_iconst (M := mX11_go) (v := 0) 28 rfl dX11_go_27 (by decide) ?_
  refine E_iload_n (M := mX11_go) 29 rfl dX11_go_28 rfl 2 rfl ?_
  refine E_iload_n (M := mX11_go) 30 rfl dX11_go_29 rfl 0 rfl ?_
  refine E_aload_n (M := mX11_go) 31 rfl dX11_go_30 rfl 1 rfl ?_
  replace h := Option.bind_eq_some_iff.mp h
  obtain ⟨v9, hv9, h⟩ := h
  refine E_hs (M := mX11_go) 34 rfl dX11_go_31 shc_0 fl_X11_40 rfl hv9 ?_
  refine E_gI (M := mX11_go) 37 rfl dX11_go_34 (sh_H (hsO_s hv9).1) fl_X11_273 rfl ?_
  replace h := Option.bind_eq_some_iff.mp h
  obtain ⟨w10, hw10, h⟩ := h
  refine E_cV0 (M := mX11_go) (As := [.int 0, .int x1, .int (w4.2.1 v8 0), .int (w4.2.1 v9 18)]) 40 rfl dX11_go_37 shc_3 ck_X11_276 cv_X0_remember rfl (by decide) (Nat.le_of_ble_eq_true rfl) (C_X0_remember (g := g) hw10) rfl ?_
  refine E_aload_n (M := mX11_go) 41 rfl dX11_go_40 rfl 1 rfl ?_
  replace h := Option.bind_eq_some_iff.mp h
  obtain ⟨v11, hv11, h⟩ := h
  refine E_hs (M := mX11_go) 44 rfl dX11_go_41 shc_0 fl_X11_40 rfl hv11 ?_
  refine E_gR (M := mX11_go) (v11 + 3) 47 rfl dX11_go_44 (sh_H (hsO_s hv11).1) fl_X11_139 rfl (rt_H6 (hsO_s hv11).1) (H_lt (hsO_s hv11).1 3 (by decide)) ?_
  refine E_iload_n (M := mX11_go) 48 rfl dX11_go_47 rfl 2 rfl ?_
  replace h := Option.bind_eq_some_iff.mp h
  obtain ⟨v12, hv12, h⟩ := h
  refine E_ldE (M := mX11_go) (hsO_s hv11).1 49 rfl dX11_go_48 hv12 ?_
  refine E_iload_n (M := mX11_go) 50 rfl dX11_go_49 rfl 3 rfl ?_
  replace h := Option.bind_eq_some_iff.mp h
  obtain ⟨I13, hI13, h⟩ := h
  refine E_pfI (M := mX11_go) 53 rfl dX11_go_50 (sh_E (isE_ld (hsO_s hv11).1 hv12)) fl_X11_143 rfl hI13 ?_
  refine E_iload_n (M := mX11_go) 54 rfl dX11_go_53 rfl 0 rfl ?_
  cases h
  exact E_iret (M := mX11_go) rfl dX11_go_54
theorem C_X11_go {g : Gx} {x1 : Int32} {x2 : Int32} {I : MI} {L : ML} {res : (String ⊕ Int32) × MI × ML} (h : f_X11_go x1 x2 I L = some res) : Ent g 7 (bS res.1) mX11_go [.ref 0, .int x1, .int x2] (I, L) (rI res.1) (res.2.1, res.2.2) := Ent_of (by decide +kernel) (Nat.le_of_ble_eq_true rfl) (S_X11_go x1 x2 I L _ h)
def f_X11_make_75 (y0 : Bool) (I : MI) (L : ML) : Option ((String ⊕ Bool) × MI × ML) := some (.inr y0, I, L)
set_option maxRecDepth 100000 in
theorem S_X11_make_75 {g : Gx} (y0 : Bool) (I : MI) (L : ML) (res : (String ⊕ Bool) × MI × ML) (h : f_X11_make_75 y0 I L = some res) : E g 7 (bS res.1) mX11_make 75 [] [.int (bI y0)] (I, L) (rB res.1) (res.2.1, res.2.2) := by
  unfold f_X11_make_75 at h
  cases h
  exact E_zret (M := mX11_make) (x := y0) rfl dX11_make_75
def f_X11_make_51 (x2 : Nat) (x3 : Bool) (y1 : Bool) (y2 : Int32) (y3 : Bool) (I : MI) (L : ML) : Option ((String ⊕ Bool) × MI × ML) := Option.bind (hsO (I 0 4)) fun v1 => Option.bind (f_X0_remember (bI y1) y2 (bI y3) (I v1 18) I L) fun w2 => Option.bind (pfI w2.1 x2 9 (bI true)) fun I3 => if x3 = true then (f_X11_make_75 false I3 w2.2) else (f_X11_make_75 true I3 w2.2)
set_option maxRecDepth 100000 in
theorem S_X11_make_51 {g : Gx} (x2 : Nat) (x3 : Bool) (y1 : Bool) (y2 : Int32) (y3 : Bool) (hx2 : isN x2) (I : MI) (L : ML) (res : (String ⊕ Bool) × MI × ML) (h : f_X11_make_51 x2 x3 y1 y2 y3 I L = some res) : E g 7 (bS res.1) mX11_make 51 [(0, .ref 0), (2, .ref x2), (3, .int (bI x3))] [.int (bI y3), .int y2, .int (bI y1), .ref 3] (I, L) (rB res.1) (res.2.1, res.2.2) := by
  unfold f_X11_make_51 at h
  refine E_aload_n (M := mX11_make) 52 rfl dX11_make_51 rfl 0 rfl ?_
  replace h := Option.bind_eq_some_iff.mp h
  obtain ⟨v1, hv1, h⟩ := h
  refine E_hs (M := mX11_make) 55 rfl dX11_make_52 shc_0 fl_X11_40 rfl hv1 ?_
  refine E_gI (M := mX11_make) 58 rfl dX11_make_55 (sh_H (hsO_s hv1).1) fl_X11_273 rfl ?_
  replace h := Option.bind_eq_some_iff.mp h
  obtain ⟨w2, hw2, h⟩ := h
  refine E_cV0 (M := mX11_make) (As := [.int (bI y1), .int y2, .int (bI y3), .int (I v1 18)]) 61 rfl dX11_make_58 shc_3 ck_X11_276 cv_X0_remember rfl (by decide) (Nat.le_of_ble_eq_true rfl) (C_X0_remember (g := g) hw2) rfl ?_
  refine E_aload_n (M := mX11_make) 62 rfl dX11_make_61 rfl 1 rfl ?_
  refine E_iconst (M := mX11_make) (v := 1) 63 rfl dX11_make_62 (by decide) ?_
  replace h := Option.bind_eq_some_iff.mp h
  obtain ⟨I3, hI3, h⟩ := h
  refine E_pfB (M := mX11_make) (x := true) 66 rfl dX11_make_63 (sh_N hx2) fl_X11_280 rfl hI3 ?_
  refine E_iload_n (M := mX11_make) 67 rfl dX11_make_66 rfl 2 rfl ?_
  refine E_if_neB (M := mX11_make) 74 70 (by decide) rfl dX11_make_67 (fun c4 => ?_) (fun c4 => ?_)
  · rw [if_pos c4] at h
    refine E_iconst (M := mX11_make) (v := 0) 75 rfl dX11_make_74 (by decide) ?_
    refine E_sub (M := mX11_make) (lv' := []) [] rfl ?_
    exact S_X11_make_75 false I3 w2.2 _ h
  · rw [if_neg (by rw [c4]; decide)] at h
    refine E_iconst (M := mX11_make) (v := 1) 71 rfl dX11_make_70 (by decide) ?_
    refine E_goto (M := mX11_make) 75 (by decide) dX11_make_71 ?_
    refine E_sub (M := mX11_make) (lv' := []) [] rfl ?_
    exact S_X11_make_75 true I3 w2.2 _ h
def f_X11_make_28 (x1 : Int32) (x2 : Nat) (y0 : Bool) (I : MI) (L : ML) : Option ((String ⊕ Bool) × MI × ML) := Option.bind (f_X11_need y0 I L) fun w1 => xc w1 fun _ => if (w1.2.1 x2 9 != 0) = true then (f_X11_make_51 x2 (w1.2.1 x2 9 != 0) true x1 true w1.2.1 w1.2.2) else (f_X11_make_51 x2 (w1.2.1 x2 9 != 0) true x1 false w1.2.1 w1.2.2)
set_option maxRecDepth 100000 in
theorem S_X11_make_28 {g : Gx} (x1 : Int32) (x2 : Nat) (y0 : Bool) (hx2 : isN x2) (I : MI) (L : ML) (res : (String ⊕ Bool) × MI × ML) (h : f_X11_make_28 x1 x2 y0 I L = some res) : E g 7 (bS res.1) mX11_make 28 [(0, .ref 0), (1, .int x1), (2, .ref x2)] [.int (bI y0)] (I, L) (rB res.1) (res.2.1, res.2.2) := by
  unfold f_X11_make_28 at h
  replace h := Option.bind_eq_some_iff.mp h
  obtain ⟨w1, hw1, h⟩ := h
  replace h := xc_s h
  rcases h with ⟨ex2, hex2, rfl⟩ | ⟨v3, hv3, h⟩
  · have hc := (C_X11_need (g := g) hw1)
    rw [hex2] at hc
    exact E_callSX (M := mX11_make) (As := [.int (bI y0)]) dX11_make_28 ck_X11_213 ss_X11_need rfl (by decide) (Nat.le_of_ble_eq_true rfl) hc rfl
  have hcv3 := (C_X11_need (g := g) hw1)
  rw [hv3] at hcv3
  refine E_cS0 (M := mX11_make) (As := [.int (bI y0)]) 31 rfl dX11_make_28 ck_X11_213 ss_X11_need rfl (by decide) (Nat.le_of_ble_eq_true rfl) hcv3 rfl ?_
  refine E_aload_n (M := mX11_make) 32 rfl dX11_make_31 rfl 2 rfl ?_
  refine E_gB (M := mX11_make) 35 rfl dX11_make_32 (sh_N hx2) fl_X11_280 rfl ?_
  refine E_istore_n (M := mX11_make) (lv' := [(3, .int (bI (w1.2.1 x2 9 != 0))), (0, .ref 0), (1, .int x1), (2, .ref x2)]) 36 rfl dX11_make_35 rfl (Nat.le_of_ble_eq_true rfl) rfl ?_
  refine E_aload_n (M := mX11_make) 37 rfl dX11_make_36 rfl 1 rfl ?_
  refine E_gR (M := mX11_make) 3 40 rfl dX11_make_37 shc_0 fl_X11_19 rfl (by decide) (by decide) ?_
  refine E_iconst (M := mX11_make) (v := 1) 41 rfl dX11_make_40 (by decide) ?_
  refine E_iload_n (M := mX11_make) 42 rfl dX11_make_41 rfl 2 rfl ?_
  refine E_iload_n (M := mX11_make) 43 rfl dX11_make_42 rfl 0 rfl ?_
  refine E_if_eqB (M := mX11_make) 50 46 (by decide) rfl dX11_make_43 (fun c4 => ?_) (fun c4 => ?_)
  · rw [if_neg (by rw [c4]; decide)] at h
    refine E_iconst (M := mX11_make) (v := 0) 51 rfl dX11_make_50 (by decide) ?_
    refine E_sub (M := mX11_make) (lv' := [(0, .ref 0), (2, .ref x2), (3, .int (bI (w1.2.1 x2 9 != 0)))]) [1, 3, 0] rfl ?_
    exact S_X11_make_51 x2 (w1.2.1 x2 9 != 0) true x1 false hx2 w1.2.1 w1.2.2 _ h
  · rw [if_pos c4] at h
    refine E_iconst (M := mX11_make) (v := 1) 47 rfl dX11_make_46 (by decide) ?_
    refine E_goto (M := mX11_make) 51 (by decide) dX11_make_47 ?_
    refine E_sub (M := mX11_make) (lv' := [(0, .ref 0), (2, .ref x2), (3, .int (bI (w1.2.1 x2 9 != 0)))]) [1, 3, 0] rfl ?_
    exact S_X11_make_51 x2 (w1.2.1 x2 9 != 0) true x1 true hx2 w1.2.1 w1.2.2 _ h
def f_X11_make (x1 : Int32) (I : MI) (L : ML) : Option ((String ⊕ Bool) × MI × ML) := Option.bind (f_X11_needNoise x1 I L) fun w1 => xc w1 fun _ => Option.bind (hsO (w1.2.1 0 4)) fun v4 => Option.bind (ldR (v4 + 33) 12 x1) fun v5 => if (w1.2.1 v5 0) = 3 then (f_X11_make_28 x1 v5 true w1.2.1 w1.2.2) else (f_X11_make_28 x1 v5 false w1.2.1 w1.2.2)
set_option maxRecDepth 100000 in
theorem S_X11_make {g : Gx} (x1 : Int32) (I : MI) (L : ML) (res : (String ⊕ Bool) × MI × ML) (h : f_X11_make x1 I L = some res) : E g 7 (bS res.1) mX11_make 0 [(0, .ref 0), (1, .int x1)] [] (I, L) (rB res.1) (res.2.1, res.2.2) := by
  unfold f_X11_make at h
  refine E_aload_n (M := mX11_make) 1 rfl dX11_make_0 rfl 0 rfl ?_
  refine E_iload_n (M := mX11_make) 2 rfl dX11_make_1 rfl 1 rfl ?_
  replace h := Option.bind_eq_some_iff.mp h
  obtain ⟨w1, hw1, h⟩ := h
  replace h := xc_s h
  rcases h with ⟨ex2, hex2, rfl⟩ | ⟨v3, hv3, h⟩
  · have hc := (C_X11_needNoise (g := g) hw1)
    rw [hex2] at hc
    exact E_callVX (M := mX11_make) (As := [.int x1]) dX11_make_2 shc_0 ck_X11_160 cv_X11_needNoise rfl (by decide) (Nat.le_of_ble_eq_true rfl) hc rfl
  have hcv3 := (C_X11_needNoise (g := g) hw1)
  rw [hv3] at hcv3
  refine E_cV0 (M := mX11_make) (As := [.int x1]) 5 rfl dX11_make_2 shc_0 ck_X11_160 cv_X11_needNoise rfl (by decide) (Nat.le_of_ble_eq_true rfl) hcv3 rfl ?_
  refine E_aload_n (M := mX11_make) 6 rfl dX11_make_5 rfl 0 rfl ?_
  replace h := Option.bind_eq_some_iff.mp h
  obtain ⟨v4, hv4, h⟩ := h
  refine E_hs (M := mX11_make) 9 rfl dX11_make_6 shc_0 fl_X11_40 rfl hv4 ?_
  refine E_gR (M := mX11_make) (v4 + 4) 12 rfl dX11_make_9 (sh_H (hsO_s hv4).1) fl_X11_163 rfl (rt_H7 (hsO_s hv4).1) (H_lt (hsO_s hv4).1 4 (by decide)) ?_
  refine E_iload_n (M := mX11_make) 13 rfl dX11_make_12 rfl 1 rfl ?_
  replace h := Option.bind_eq_some_iff.mp h
  obtain ⟨v5, hv5, h⟩ := h
  refine E_ldN (M := mX11_make) (hsO_s hv4).1 14 rfl dX11_make_13 hv5 ?_
  refine E_astore_n (M := mX11_make) (lv' := [(2, .ref v5), (0, .ref 0), (1, .int x1)]) 15 rfl dX11_make_14 rfl (Nat.le_of_ble_eq_true rfl) rfl ?_
  refine E_aload_n (M := mX11_make) 16 rfl dX11_make_15 rfl 0 rfl ?_
  refine E_gI (M := mX11_make) 19 rfl dX11_make_16 (sh_N (isN_ld (hsO_s hv4).1 hv5)) fl_X11_167 rfl ?_
  refine E_iconst (M := mX11_make) (v := 3) 20 rfl dX11_make_19 (by decide) ?_
  refine E_icmp_ne (M := mX11_make) 27 23 (by decide) rfl dX11_make_20 (fun c6 => ?_) (fun c6 => ?_)
  · rw [if_neg c6] at h
    refine E_iconst (M := mX11_make) (v := 0) 28 rfl dX11_make_27 (by decide) ?_
    refine E_sub (M := mX11_make) (lv' := [(0, .ref 0), (1, .int x1), (2, .ref v5)]) [1, 2, 0] rfl ?_
    exact S_X11_make_28 x1 v5 false (isN_ld (hsO_s hv4).1 hv5) w1.2.1 w1.2.2 _ h
  · rw [if_pos c6] at h
    refine E_iconst (M := mX11_make) (v := 1) 24 rfl dX11_make_23 (by decide) ?_
    refine E_goto (M := mX11_make) 28 (by decide) dX11_make_24 ?_
    refine E_sub (M := mX11_make) (lv' := [(0, .ref 0), (1, .int x1), (2, .ref v5)]) [1, 2, 0] rfl ?_
    exact S_X11_make_28 x1 v5 true (isN_ld (hsO_s hv4).1 hv5) w1.2.1 w1.2.2 _ h
theorem C_X11_make {g : Gx} {x1 : Int32} {I : MI} {L : ML} {res : (String ⊕ Bool) × MI × ML} (h : f_X11_make x1 I L = some res) : Ent g 7 (bS res.1) mX11_make [.ref 0, .int x1] (I, L) (rB res.1) (res.2.1, res.2.2) := Ent_of (by decide +kernel) (Nat.le_of_ble_eq_true rfl) (S_X11_make x1 I L _ h)
def f_X11_oil_21 (x1 : Int32) (x2 : Int32) (y0 : Bool) (I : MI) (L : ML) : Option ((String ⊕ Int32) × MI × ML) := Option.bind (f_X11_need y0 I L) fun w1 => xc w1 fun _ => Option.bind (hsO (w1.2.1 0 4)) fun v4 => Option.bind (ldR (v4 + 33) 12 x1) fun v5 => Option.bind (hsO (w1.2.1 0 4)) fun v6 => Option.bind (f_X0_remember 2 x1 (w1.2.1 v5 6) (w1.2.1 v6 18) w1.2.1 w1.2.2) fun w7 => Option.bind (pfI w7.1 v5 6 (if ((w7.1 v5 6) + x2) < 99 then ((w7.1 v5 6) + x2) else 99)) fun I8 => some (.inr (I8 v5 6), I8, w7.2)
set_option maxRecDepth 100000 in
theorem S_X11_oil_21 {g : Gx} (x1 : Int32) (x2 : Int32) (y0 : Bool) (I : MI) (L : ML) (res : (String ⊕ Int32) × MI × ML) (h : f_X11_oil_21 x1 x2 y0 I L = some res) : E g 7 (bS res.1) mX11_oil 21 [(0, .ref 0), (1, .int x1), (2, .int x2)] [.int (bI y0)] (I, L) (rI res.1) (res.2.1, res.2.2) := by
  unfold f_X11_oil_21 at h
  replace h := Option.bind_eq_some_iff.mp h
  obtain ⟨w1, hw1, h⟩ := h
  replace h := xc_s h
  rcases h with ⟨ex2, hex2, rfl⟩ | ⟨v3, hv3, h⟩
  · have hc := (C_X11_need (g := g) hw1)
    rw [hex2] at hc
    exact E_callSX (M := mX11_oil) (As := [.int (bI y0)]) dX11_oil_21 ck_X11_213 ss_X11_need rfl (by decide) (Nat.le_of_ble_eq_true rfl) hc rfl
  have hcv3 := (C_X11_need (g := g) hw1)
  rw [hv3] at hcv3
  refine E_cS0 (M := mX11_oil) (As := [.int (bI y0)]) 24 rfl dX11_oil_21 ck_X11_213 ss_X11_need rfl (by decide) (Nat.le_of_ble_eq_true rfl) hcv3 rfl ?_
  refine E_aload_n (M := mX11_oil) 25 rfl dX11_oil_24 rfl 0 rfl ?_
  replace h := Option.bind_eq_some_iff.mp h
  obtain ⟨v4, hv4, h⟩ := h
  refine E_hs (M := mX11_oil) 28 rfl dX11_oil_25 shc_0 fl_X11_40 rfl hv4 ?_
  refine E_gR (M := mX11_oil) (v4 + 4) 31 rfl dX11_oil_28 (sh_H (hsO_s hv4).1) fl_X11_163 rfl (rt_H7 (hsO_s hv4).1) (H_lt (hsO_s hv4).1 4 (by decide)) ?_
  refine E_iload_n (M := mX11_oil) 32 rfl dX11_oil_31 rfl 1 rfl ?_
  replace h := Option.bind_eq_some_iff.mp h
  obtain ⟨v5, hv5, h⟩ := h
  refine E_ldN (M := mX11_oil) (hsO_s hv4).1 33 rfl dX11_oil_32 hv5 ?_
  refine E_astore_n (M := mX11_oil) (lv' := [(3, .ref v5), (0, .ref 0), (1, .int x1), (2, .int x2)]) 34 rfl dX11_oil_33 rfl (Nat.le_of_ble_eq_true rfl) rfl ?_
  refine E_aload_n (M := mX11_oil) 35 rfl dX11_oil_34 rfl 1 rfl ?_
  refine E_gR (M := mX11_oil) 3 38 rfl dX11_oil_35 shc_0 fl_X11_19 rfl (by decide) (by decide) ?_
  refine E_iconst (M := mX11_oil) (v := 2) 39 rfl dX11_oil_38 (by decide) ?_
  refine E_iload_n (M := mX11_oil) 40 rfl dX11_oil_39 rfl 2 rfl ?_
  refine E_aload_n (M := mX11_oil) 41 rfl dX11_oil_40 rfl 0 rfl ?_
  refine E_gI (M := mX11_oil) 44 rfl dX11_oil_41 (sh_N (isN_ld (hsO_s hv4).1 hv5)) fl_X11_182 rfl ?_
  refine E_aload_n (M := mX11_oil) 45 rfl dX11_oil_44 rfl 1 rfl ?_
  replace h := Option.bind_eq_some_iff.mp h
  obtain ⟨v6, hv6, h⟩ := h
  refine E_hs (M := mX11_oil) 48 rfl dX11_oil_45 shc_0 fl_X11_40 rfl hv6 ?_
  refine E_gI (M := mX11_oil) 51 rfl dX11_oil_48 (sh_H (hsO_s hv6).1) fl_X11_273 rfl ?_
  replace h := Option.bind_eq_some_iff.mp h
  obtain ⟨w7, hw7, h⟩ := h
  refine E_cV0 (M := mX11_oil) (As := [.int 2, .int x1, .int (w1.2.1 v5 6), .int (w1.2.1 v6 18)]) 54 rfl dX11_oil_51 shc_3 ck_X11_276 cv_X0_remember rfl (by decide) (Nat.le_of_ble_eq_true rfl) (C_X0_remember (g := g) hw7) rfl ?_
  refine E_aload_n (M := mX11_oil) 55 rfl dX11_oil_54 rfl 0 rfl ?_
  refine E_bipush (M := mX11_oil) (v := 99) 57 rfl dX11_oil_55 (by decide) ?_
  refine E_aload_n (M := mX11_oil) 58 rfl dX11_oil_57 rfl 0 rfl ?_
  refine E_gI (M := mX11_oil) 61 rfl dX11_oil_58 (sh_N (isN_ld (hsO_s hv4).1 hv5)) fl_X11_182 rfl ?_
  refine E_iload_n (M := mX11_oil) 62 rfl dX11_oil_61 rfl 3 rfl ?_
  refine E_iadd (M := mX11_oil) 63 rfl dX11_oil_62 ?_
  refine E_min (M := mX11_oil) 66 rfl dX11_oil_63 jm_X11_283 (by decide) (Nat.le_of_ble_eq_true rfl) ?_
  replace h := Option.bind_eq_some_iff.mp h
  obtain ⟨I8, hI8, h⟩ := h
  refine E_pfI (M := mX11_oil) 69 rfl dX11_oil_66 (sh_N (isN_ld (hsO_s hv4).1 hv5)) fl_X11_182 rfl hI8 ?_
  refine E_aload_n (M := mX11_oil) 70 rfl dX11_oil_69 rfl 0 rfl ?_
  refine E_gI (M := mX11_oil) 73 rfl dX11_oil_70 (sh_N (isN_ld (hsO_s hv4).1 hv5)) fl_X11_182 rfl ?_
  cases h
  exact E_iret (M := mX11_oil) rfl dX11_oil_73
def f_X11_oil_20 (x1 : Int32) (x2 : Int32) (I : MI) (L : ML) : Option ((String ⊕ Int32) × MI × ML) := f_X11_oil_21 x1 x2 false I L
set_option maxRecDepth 100000 in
theorem S_X11_oil_20 {g : Gx} (x1 : Int32) (x2 : Int32) (I : MI) (L : ML) (res : (String ⊕ Int32) × MI × ML) (h : f_X11_oil_20 x1 x2 I L = some res) : E g 7 (bS res.1) mX11_oil 20 [(0, .ref 0), (1, .int x1), (2, .int x2)] [] (I, L) (rI res.1) (res.2.1, res.2.2) := by
  unfold f_X11_oil_20 at h
  refine E_iconst (M := mX11_oil) (v := 0) 21 rfl dX11_oil_20 (by decide) ?_
  refine E_sub (M := mX11_oil) (lv' := [(0, .ref 0), (1, .int x1), (2, .int x2)]) [0, 1, 2] rfl ?_
  exact S_X11_oil_21 x1 x2 false I L _ h
def f_X11_oil (x1 : Int32) (x2 : Int32) (I : MI) (L : ML) : Option ((String ⊕ Int32) × MI × ML) := Option.bind (f_X11_needNoise x1 I L) fun w1 => xc w1 fun _ => if x2 < 1 then (f_X11_oil_20 x1 x2 w1.2.1 w1.2.2) else (if 99 < x2 then (f_X11_oil_20 x1 x2 w1.2.1 w1.2.2) else (f_X11_oil_21 x1 x2 true w1.2.1 w1.2.2))
set_option maxRecDepth 100000 in
theorem S_X11_oil {g : Gx} (x1 : Int32) (x2 : Int32) (I : MI) (L : ML) (res : (String ⊕ Int32) × MI × ML) (h : f_X11_oil x1 x2 I L = some res) : E g 7 (bS res.1) mX11_oil 0 [(0, .ref 0), (1, .int x1), (2, .int x2)] [] (I, L) (rI res.1) (res.2.1, res.2.2) := by
  unfold f_X11_oil at h
  refine E_aload_n (M := mX11_oil) 1 rfl dX11_oil_0 rfl 0 rfl ?_
  refine E_iload_n (M := mX11_oil) 2 rfl dX11_oil_1 rfl 1 rfl ?_
  replace h := Option.bind_eq_some_iff.mp h
  obtain ⟨w1, hw1, h⟩ := h
  replace h := xc_s h
  rcases h with ⟨ex2, hex2, rfl⟩ | ⟨v3, hv3, h⟩
  · have hc := (C_X11_needNoise (g := g) hw1)
    rw [hex2] at hc
    exact E_callVX (M := mX11_oil) (As := [.int x1]) dX11_oil_2 shc_0 ck_X11_160 cv_X11_needNoise rfl (by decide) (Nat.le_of_ble_eq_true rfl) hc rfl
  have hcv3 := (C_X11_needNoise (g := g) hw1)
  rw [hv3] at hcv3
  refine E_cV0 (M := mX11_oil) (As := [.int x1]) 5 rfl dX11_oil_2 shc_0 ck_X11_160 cv_X11_needNoise rfl (by decide) (Nat.le_of_ble_eq_true rfl) hcv3 rfl ?_
  refine E_iload_n (M := mX11_oil) 6 rfl dX11_oil_5 rfl 2 rfl ?_
  refine E_iconst (M := mX11_oil) (v := 1) 7 rfl dX11_oil_6 (by decide) ?_
  refine E_icmp_lt (M := mX11_oil) 20 10 (by decide) rfl dX11_oil_7 (fun c4 => ?_) (fun c4 => ?_)
  · rw [if_pos c4] at h
    refine E_sub (M := mX11_oil) (lv' := [(0, .ref 0), (1, .int x1), (2, .int x2)]) [0, 1, 2] rfl ?_
    exact S_X11_oil_20 x1 x2 w1.2.1 w1.2.2 _ h
  · rw [if_neg c4] at h
    refine E_iload_n (M := mX11_oil) 11 rfl dX11_oil_10 rfl 2 rfl ?_
    refine E_bipush (M := mX11_oil) (v := 99) 13 rfl dX11_oil_11 (by decide) ?_
    refine E_icmp_gt (M := mX11_oil) 20 16 (by decide) rfl dX11_oil_13 (fun c5 => ?_) (fun c5 => ?_)
    · rw [if_pos c5] at h
      refine E_sub (M := mX11_oil) (lv' := [(0, .ref 0), (1, .int x1), (2, .int x2)]) [0, 1, 2] rfl ?_
      exact S_X11_oil_20 x1 x2 w1.2.1 w1.2.2 _ h
    · rw [if_neg c5] at h
      refine E_iconst (M := mX11_oil) (v := 1) 17 rfl dX11_oil_16 (by decide) ?_
      refine E_goto (M := mX11_oil) 21 (by decide) dX11_oil_17 ?_
      refine E_sub (M := mX11_oil) (lv' := [(0, .ref 0), (1, .int x1), (2, .int x2)]) [0, 1, 2] rfl ?_
      exact S_X11_oil_21 x1 x2 true w1.2.1 w1.2.2 _ h
theorem C_X11_oil {g : Gx} {x1 : Int32} {x2 : Int32} {I : MI} {L : ML} {res : (String ⊕ Int32) × MI × ML} (h : f_X11_oil x1 x2 I L = some res) : Ent g 7 (bS res.1) mX11_oil [.ref 0, .int x1, .int x2] (I, L) (rI res.1) (res.2.1, res.2.2) := Ent_of (by decide +kernel) (Nat.le_of_ble_eq_true rfl) (S_X11_oil x1 x2 I L _ h)
def f_X11_isCarpet_15 (y0 : Bool) (I : MI) (L : ML) : Option (Bool) := some y0
set_option maxRecDepth 100000 in
theorem S_X11_isCarpet_15 {g : Gx} (y0 : Bool) (I : MI) (L : ML) (res : Bool) (h : f_X11_isCarpet_15 y0 I L = some res) : E g 1 0 mX11_isCarpet 15 [] [.int (bI y0)] (I, L) (.inl (some (.int (bI res)))) (I, L) := by
  unfold f_X11_isCarpet_15 at h
  cases h
  exact E_zret (M := mX11_isCarpet) (x := y0) rfl dX11_isCarpet_15
def f_X11_isCarpet_14 (I : MI) (L : ML) : Option (Bool) := f_X11_isCarpet_15 false I L
set_option maxRecDepth 100000 in
theorem S_X11_isCarpet_14 {g : Gx} (I : MI) (L : ML) (res : Bool) (h : f_X11_isCarpet_14 I L = some res) : E g 1 0 mX11_isCarpet 14 [] [] (I, L) (.inl (some (.int (bI res)))) (I, L) := by
  unfold f_X11_isCarpet_14 at h
  refine E_iconst (M := mX11_isCarpet) (v := 0) 15 rfl dX11_isCarpet_14 (by decide) ?_
  refine E_sub (M := mX11_isCarpet) (lv' := []) [] rfl ?_
  exact S_X11_isCarpet_15 false I L _ h
def f_X11_isCarpet (x0 : Int32) (I : MI) (L : ML) : Option (Bool) := if x0 < 0 then (f_X11_isCarpet_14 I L) else (if 20 < x0 then (f_X11_isCarpet_14 I L) else (f_X11_isCarpet_15 true I L))
set_option maxRecDepth 100000 in
theorem S_X11_isCarpet {g : Gx} (x0 : Int32) (I : MI) (L : ML) (res : Bool) (h : f_X11_isCarpet x0 I L = some res) : E g 1 0 mX11_isCarpet 0 [(0, .int x0)] [] (I, L) (.inl (some (.int (bI res)))) (I, L) := by
  unfold f_X11_isCarpet at h
  refine E_iload_n (M := mX11_isCarpet) 1 rfl dX11_isCarpet_0 rfl 0 rfl ?_
  refine E_if_lt (M := mX11_isCarpet) 14 4 (by decide) rfl dX11_isCarpet_1 (fun c1 => ?_) (fun c1 => ?_)
  · rw [if_pos c1] at h
    refine E_sub (M := mX11_isCarpet) (lv' := []) [] rfl ?_
    exact S_X11_isCarpet_14 I L _ h
  · rw [if_neg c1] at h
    refine E_iload_n (M := mX11_isCarpet) 5 rfl dX11_isCarpet_4 rfl 0 rfl ?_
    refine E_bipush (M := mX11_isCarpet) (v := 20) 7 rfl dX11_isCarpet_5 (by decide) ?_
    refine E_icmp_gt (M := mX11_isCarpet) 14 10 (by decide) rfl dX11_isCarpet_7 (fun c2 => ?_) (fun c2 => ?_)
    · rw [if_pos c2] at h
      refine E_sub (M := mX11_isCarpet) (lv' := []) [] rfl ?_
      exact S_X11_isCarpet_14 I L _ h
    · rw [if_neg c2] at h
      refine E_iconst (M := mX11_isCarpet) (v := 1) 11 rfl dX11_isCarpet_10 (by decide) ?_
      refine E_goto (M := mX11_isCarpet) 15 (by decide) dX11_isCarpet_11 ?_
      refine E_sub (M := mX11_isCarpet) (lv' := []) [] rfl ?_
      exact S_X11_isCarpet_15 true I L _ h
theorem C_X11_isCarpet {g : Gx} {x0 : Int32} {I : MI} {L : ML} {res : Bool} (h : f_X11_isCarpet x0 I L = some res) : Ent g 1 0 mX11_isCarpet [.int x0] (I, L) (.inl (some (.int (bI res)))) (I, L) := Ent_of (by decide +kernel) (Nat.le_of_ble_eq_true rfl) (S_X11_isCarpet x0 I L _ h)
def f_X11_carpet (x1 : Int32) (x2 : Int32) (I : MI) (L : ML) : Option ((String ⊕ Int32) × MI × ML) := Option.bind (f_X11_needRoom x1 I L) fun w1 => xc w1 fun _ => Option.bind (f_X11_isCarpet x2 w1.2.1 w1.2.2) fun v4 => Option.bind (f_X11_need v4 w1.2.1 w1.2.2) fun w5 => xc w5 fun _ => Option.bind (hsO (w5.2.1 0 4)) fun v8 => Option.bind (ldI w5.2.1 (v8 + 1) 10 x1) fun v9 => Option.bind (hsO (w5.2.1 0 4)) fun v10 => Option.bind (f_X0_remember 3 x1 v9 (w5.2.1 v10 18) w5.2.1 w5.2.2) fun w11 => Option.bind (hsO (w11.1 0 4)) fun v12 => Option.bind (f_X3_lay v12 x1 x2 w11.1 w11.2) fun w13 => some (.inr v9, w13.1, w13.2)
set_option maxRecDepth 100000 in
theorem S_X11_carpet {g : Gx} (x1 : Int32) (x2 : Int32) (I : MI) (L : ML) (res : (String ⊕ Int32) × MI × ML) (h : f_X11_carpet x1 x2 I L = some res) : E g 7 (bS res.1) mX11_carpet 0 [(0, .ref 0), (1, .int x1), (2, .int x2)] [] (I, L) (rI res.1) (res.2.1, res.2.2) := by
  unfold f_X11_carpet at h
  refine E_aload_n (M := mX11_carpet) 1 rfl dX11_carpet_0 rfl 0 rfl ?_
  refine E_iload_n (M := mX11_carpet) 2 rfl dX11_carpet_1 rfl 1 rfl ?_
  replace h := Option.bind_eq_some_iff.mp h
  obtain ⟨w1, hw1, h⟩ := h
  replace h := xc_s h
  rcases h with ⟨ex2, hex2, rfl⟩ | ⟨v3, hv3, h⟩
  · have hc := (C_X11_needRoom (g := g) hw1)
    rw [hex2] at hc
    exact E_callVX (M := mX11_carpet) (As := [.int x1]) dX11_carpet_2 shc_0 ck_X11_114 cv_X11_needRoom rfl (by decide) (Nat.le_of_ble_eq_true rfl) hc rfl
  have hcv3 := (C_X11_needRoom (g := g) hw1)
  rw [hv3] at hcv3
  refine E_cV0 (M := mX11_carpet) (As := [.int x1]) 5 rfl dX11_carpet_2 shc_0 ck_X11_114 cv_X11_needRoom rfl (by decide) (Nat.le_of_ble_eq_true rfl) hcv3 rfl ?_
  refine E_iload_n (M := mX11_carpet) 6 rfl dX11_carpet_5 rfl 2 rfl ?_
  replace h := Option.bind_eq_some_iff.mp h
  obtain ⟨v4, hv4, h⟩ := h
  refine E_cS1 (M := mX11_carpet) (As := [.int x2]) 9 rfl dX11_carpet_6 ck_X11_288 ss_X11_isCarpet rfl (by decide) (Nat.le_of_ble_eq_true rfl) (C_X11_isCarpet (g := g) hv4) rfl ?_
  replace h := Option.bind_eq_some_iff.mp h
  obtain ⟨w5, hw5, h⟩ := h
  replace h := xc_s h
  rcases h with ⟨ex6, hex6, rfl⟩ | ⟨v7, hv7, h⟩
  · have hc := (C_X11_need (g := g) hw5)
    rw [hex6] at hc
    exact E_callSX (M := mX11_carpet) (As := [.int (bI v4)]) dX11_carpet_9 ck_X11_213 ss_X11_need rfl (by decide) (Nat.le_of_ble_eq_true rfl) hc rfl
  have hcv7 := (C_X11_need (g := g) hw5)
  rw [hv7] at hcv7
  refine E_cS0 (M := mX11_carpet) (As := [.int (bI v4)]) 12 rfl dX11_carpet_9 ck_X11_213 ss_X11_need rfl (by decide) (Nat.le_of_ble_eq_true rfl) hcv7 rfl ?_
  refine E_aload_n (M := mX11_carpet) 13 rfl dX11_carpet_12 rfl 0 rfl ?_
  replace h := Option.bind_eq_some_iff.mp h
  obtain ⟨v8, hv8, h⟩ := h
  refine E_hs (M := mX11_carpet) 16 rfl dX11_carpet_13 shc_0 fl_X11_40 rfl hv8 ?_
  refine E_gR (M := mX11_carpet) (v8 + 1) 19 rfl dX11_carpet_16 (sh_H (hsO_s hv8).1) fl_X11_117 rfl (rt_H4 (hsO_s hv8).1) (H_lt (hsO_s hv8).1 1 (by decide)) ?_
  refine E_iload_n (M := mX11_carpet) 20 rfl dX11_carpet_19 rfl 1 rfl ?_
  replace h := Option.bind_eq_some_iff.mp h
  obtain ⟨v9, hv9, h⟩ := h
  refine E_ldI (M := mX11_carpet) 21 rfl dX11_carpet_20 (sh_H1 (hsO_s hv8).1) hv9 ?_
  refine E_istore_n (M := mX11_carpet) (lv' := [(3, .int v9), (0, .ref 0), (1, .int x1), (2, .int x2)]) 22 rfl dX11_carpet_21 rfl (Nat.le_of_ble_eq_true rfl) rfl ?_
  refine E_aload_n (M := mX11_carpet) 23 rfl dX11_carpet_22 rfl 1 rfl ?_
  refine E_gR (M := mX11_carpet) 3 26 rfl dX11_carpet_23 shc_0 fl_X11_19 rfl (by decide) (by decide) ?_
  refine E_iconst (M := mX11_carpet) (v := 3) 27 rfl dX11_carpet_26 (by decide) ?_
  refine E_iload_n (M := mX11_carpet) 28 rfl dX11_carpet_27 rfl 2 rfl ?_
  refine E_iload_n (M := mX11_carpet) 29 rfl dX11_carpet_28 rfl 0 rfl ?_
  refine E_aload_n (M := mX11_carpet) 30 rfl dX11_carpet_29 rfl 1 rfl ?_
  replace h := Option.bind_eq_some_iff.mp h
  obtain ⟨v10, hv10, h⟩ := h
  refine E_hs (M := mX11_carpet) 33 rfl dX11_carpet_30 shc_0 fl_X11_40 rfl hv10 ?_
  refine E_gI (M := mX11_carpet) 36 rfl dX11_carpet_33 (sh_H (hsO_s hv10).1) fl_X11_273 rfl ?_
  replace h := Option.bind_eq_some_iff.mp h
  obtain ⟨w11, hw11, h⟩ := h
  refine E_cV0 (M := mX11_carpet) (As := [.int 3, .int x1, .int v9, .int (w5.2.1 v10 18)]) 39 rfl dX11_carpet_36 shc_3 ck_X11_276 cv_X0_remember rfl (by decide) (Nat.le_of_ble_eq_true rfl) (C_X0_remember (g := g) hw11) rfl ?_
  refine E_aload_n (M := mX11_carpet) 40 rfl dX11_carpet_39 rfl 1 rfl ?_
  replace h := Option.bind_eq_some_iff.mp h
  obtain ⟨v12, hv12, h⟩ := h
  refine E_hs (M := mX11_carpet) 43 rfl dX11_carpet_40 shc_0 fl_X11_40 rfl hv12 ?_
  refine E_iload_n (M := mX11_carpet) 44 rfl dX11_carpet_43 rfl 2 rfl ?_
  refine E_iload_n (M := mX11_carpet) 45 rfl dX11_carpet_44 rfl 3 rfl ?_
  replace h := Option.bind_eq_some_iff.mp h
  obtain ⟨w13, hw13, h⟩ := h
  refine E_cV0 (M := mX11_carpet) (As := [.int x1, .int x2]) 48 rfl dX11_carpet_45 (sh_H (hsO_s hv12).1) ck_X11_292 cv_X3_lay rfl (by decide) (Nat.le_of_ble_eq_true rfl) (C_X3_lay (g := g) (hsO_s hv12).1 hw13) rfl ?_
  refine E_iload_n (M := mX11_carpet) 49 rfl dX11_carpet_48 rfl 0 rfl ?_
  cases h
  exact E_iret (M := mX11_carpet) rfl dX11_carpet_49
theorem C_X11_carpet {g : Gx} {x1 : Int32} {x2 : Int32} {I : MI} {L : ML} {res : (String ⊕ Int32) × MI × ML} (h : f_X11_carpet x1 x2 I L = some res) : Ent g 7 (bS res.1) mX11_carpet [.ref 0, .int x1, .int x2] (I, L) (rI res.1) (res.2.1, res.2.2) := Ent_of (by decide +kernel) (Nat.le_of_ble_eq_true rfl) (S_X11_carpet x1 x2 I L _ h)
def f_X11_undo_137 (x1 : Int32) (I : MI) (L : ML) : Option (Bool × MI × ML) := Option.bind (hsO (I 0 4)) fun v1 => Option.bind (ldI I 7 12 x1) fun v2 => Option.bind (pfI I v1 18 v2) fun I3 => some (true, I3, L)
set_option maxRecDepth 100000 in
theorem S_X11_undo_137 {g : Gx} (x1 : Int32) (I : MI) (L : ML) (res : Bool × MI × ML) (h : f_X11_undo_137 x1 I L = some res) : E g 4 0 mX11_undo 137 [(0, .ref 0), (1, .int x1)] [] (I, L) (.inl (some (.int (bI res.1)))) (res.2.1, res.2.2) := by
  unfold f_X11_undo_137 at h
  refine E_aload_n (M := mX11_undo) 138 rfl dX11_undo_137 rfl 0 rfl ?_
  replace h := Option.bind_eq_some_iff.mp h
  obtain ⟨v1, hv1, h⟩ := h
  refine E_hs (M := mX11_undo) 141 rfl dX11_undo_138 shc_0 fl_X11_40 rfl hv1 ?_
  refine E_aload_n (M := mX11_undo) 142 rfl dX11_undo_141 rfl 0 rfl ?_
  refine E_gR (M := mX11_undo) 3 145 rfl dX11_undo_142 shc_0 fl_X11_19 rfl (by decide) (by decide) ?_
  refine E_gR (M := mX11_undo) 7 148 rfl dX11_undo_145 shc_3 fl_X11_308 rfl (by decide) (by decide) ?_
  refine E_iload_n (M := mX11_undo) 149 rfl dX11_undo_148 rfl 1 rfl ?_
  replace h := Option.bind_eq_some_iff.mp h
  obtain ⟨v2, hv2, h⟩ := h
  refine E_ldI (M := mX11_undo) 150 rfl dX11_undo_149 shc_7 hv2 ?_
  replace h := Option.bind_eq_some_iff.mp h
  obtain ⟨I3, hI3, h⟩ := h
  refine E_pfI (M := mX11_undo) 153 rfl dX11_undo_150 (sh_H (hsO_s hv1).1) fl_X11_273 rfl hI3 ?_
  refine E_iconst (M := mX11_undo) (v := 1) 154 rfl dX11_undo_153 (by decide) ?_
  cases h
  exact E_zret (M := mX11_undo) (x := true) rfl dX11_undo_154
def f_X11_undo_106 (x1 : Int32) (y0 : Nat) (y1 : Bool) (I : MI) (L : ML) : Option (Bool × MI × ML) := Option.bind (pfI I y0 9 (bI y1)) fun I1 => f_X11_undo_137 x1 I1 L
set_option maxRecDepth 100000 in
theorem S_X11_undo_106 {g : Gx} (x1 : Int32) (y0 : Nat) (y1 : Bool) (hy0 : isN y0) (I : MI) (L : ML) (res : Bool × MI × ML) (h : f_X11_undo_106 x1 y0 y1 I L = some res) : E g 4 0 mX11_undo 106 [(0, .ref 0), (1, .int x1)] [.int (bI y1), .ref y0] (I, L) (.inl (some (.int (bI res.1)))) (res.2.1, res.2.2) := by
  unfold f_X11_undo_106 at h
  replace h := Option.bind_eq_some_iff.mp h
  obtain ⟨I1, hI1, h⟩ := h
  refine E_pfB (M := mX11_undo) (x := y1) 109 rfl dX11_undo_106 (sh_N hy0) fl_X11_280 rfl hI1 ?_
  refine E_goto (M := mX11_undo) 137 (by decide) dX11_undo_109 ?_
  refine E_sub (M := mX11_undo) (lv' := [(0, .ref 0), (1, .int x1)]) [0, 1] rfl ?_
  exact S_X11_undo_137 x1 I1 L _ h
def f_X11_undo (I : MI) (L : ML) : Option (Bool × MI × ML) := Option.bind (f_X0_takeLatest I L) fun w1 => if w1.1 = ((-1)) then (some (false, w1.2.1, w1.2.2)) else (Option.bind (ldI w1.2.1 5 12 w1.1) fun v3 => Option.bind (ldI w1.2.1 6 12 w1.1) fun v4 => Option.bind (ldI w1.2.1 4 12 w1.1) fun v5 => if v5 = 0 then (Option.bind (hsO (w1.2.1 0 4)) fun v7 => Option.bind (ldR (v7 + 27) 6 v3) fun v8 => Option.bind (pfI w1.2.1 v8 0 v4) fun I9 => f_X11_undo_137 w1.1 I9 w1.2.2) else if v5 = 1 then (Option.bind (hsO (w1.2.1 0 4)) fun v11 => Option.bind (ldR (v11 + 33) 12 v3) fun v12 => if v4 = 0 then (f_X11_undo_106 w1.1 v12 false w1.2.1 w1.2.2) else (f_X11_undo_106 w1.1 v12 true w1.2.1 w1.2.2)) else if v5 = 2 then (Option.bind (hsO (w1.2.1 0 4)) fun v15 => Option.bind (ldR (v15 + 33) 12 v3) fun v16 => Option.bind (pfI w1.2.1 v16 6 v4) fun I17 => f_X11_undo_137 w1.1 I17 w1.2.2) else (Option.bind (hsO (w1.2.1 0 4)) fun v18 => Option.bind (f_X3_lay v18 v3 v4 w1.2.1 w1.2.2) fun w19 => f_X11_undo_137 w1.1 w19.1 w19.2))
set_option maxRecDepth 100000 in
theorem S_X11_undo {g : Gx} (I : MI) (L : ML) (res : Bool × MI × ML) (h : f_X11_undo I L = some res) : E g 4 0 mX11_undo 0 [(0, .ref 0)] [] (I, L) (.inl (some (.int (bI res.1)))) (res.2.1, res.2.2) := by
  unfold f_X11_undo at h
  refine E_aload_n (M := mX11_undo) 1 rfl dX11_undo_0 rfl 0 rfl ?_
  refine E_gR (M := mX11_undo) 3 4 rfl dX11_undo_1 shc_0 fl_X11_19 rfl (by decide) (by decide) ?_
  replace h := Option.bind_eq_some_iff.mp h
  obtain ⟨w1, hw1, h⟩ := h
  refine E_cV1 (M := mX11_undo) (As := []) 7 rfl dX11_undo_4 shc_3 ck_X11_296 cv_X0_takeLatest rfl (by decide) (Nat.le_of_ble_eq_true rfl) (C_X0_takeLatest (g := g) hw1) rfl ?_
  refine E_istore_n (M := mX11_undo) (lv' := [(1, .int w1.1), (0, .ref 0)]) 8 rfl dX11_undo_7 rfl (Nat.le_of_ble_eq_true rfl) rfl ?_
  refine E_iload_n (M := mX11_undo) 9 rfl dX11_undo_8 rfl 0 rfl ?_
  refine E_iconst (M := mX11_undo) (v := (-1)) 10 rfl dX11_undo_9 (by decide) ?_
  refine E_icmp_ne (M := mX11_undo) 15 13 (by decide) rfl dX11_undo_10 (fun c2 => ?_) (fun c2 => ?_)
  · rw [if_neg c2] at h
    refine E_aload_n (M := mX11_undo) 16 rfl dX11_undo_15 rfl 1 rfl ?_
    refine E_gR (M := mX11_undo) 3 19 rfl dX11_undo_16 shc_0 fl_X11_19 rfl (by decide) (by decide) ?_
    refine E_gR (M := mX11_undo) 5 22 rfl dX11_undo_19 shc_3 fl_X11_299 rfl (by decide) (by decide) ?_
    refine E_iload_n (M := mX11_undo) 23 rfl dX11_undo_22 rfl 0 rfl ?_
    replace h := Option.bind_eq_some_iff.mp h
    obtain ⟨v3, hv3, h⟩ := h
    refine E_ldI (M := mX11_undo) 24 rfl dX11_undo_23 shc_5 hv3 ?_
    refine E_istore_n (M := mX11_undo) (lv' := [(2, .int v3), (1, .int w1.1), (0, .ref 0)]) 25 rfl dX11_undo_24 rfl (Nat.le_of_ble_eq_true rfl) rfl ?_
    refine E_aload_n (M := mX11_undo) 26 rfl dX11_undo_25 rfl 2 rfl ?_
    refine E_gR (M := mX11_undo) 3 29 rfl dX11_undo_26 shc_0 fl_X11_19 rfl (by decide) (by decide) ?_
    refine E_gR (M := mX11_undo) 6 32 rfl dX11_undo_29 shc_3 fl_X11_302 rfl (by decide) (by decide) ?_
    refine E_iload_n (M := mX11_undo) 33 rfl dX11_undo_32 rfl 1 rfl ?_
    replace h := Option.bind_eq_some_iff.mp h
    obtain ⟨v4, hv4, h⟩ := h
    refine E_ldI (M := mX11_undo) 34 rfl dX11_undo_33 shc_6 hv4 ?_
    refine E_istore_n (M := mX11_undo) (lv' := [(3, .int v4), (2, .int v3), (1, .int w1.1), (0, .ref 0)]) 35 rfl dX11_undo_34 rfl (Nat.le_of_ble_eq_true rfl) rfl ?_
    refine E_aload_n (M := mX11_undo) 36 rfl dX11_undo_35 rfl 3 rfl ?_
    refine E_gR (M := mX11_undo) 3 39 rfl dX11_undo_36 shc_0 fl_X11_19 rfl (by decide) (by decide) ?_
    refine E_gR (M := mX11_undo) 4 42 rfl dX11_undo_39 shc_3 fl_X11_305 rfl (by decide) (by decide) ?_
    refine E_iload_n (M := mX11_undo) 43 rfl dX11_undo_42 rfl 2 rfl ?_
    replace h := Option.bind_eq_some_iff.mp h
    obtain ⟨v5, hv5, h⟩ := h
    refine E_ldI (M := mX11_undo) 44 rfl dX11_undo_43 shc_4 hv5 ?_
    by_cases c6 : v5 = 0
    · rw [if_pos c6] at h
      refine E_tsIn (M := mX11_undo) (off := 28) 0 c6 72 (by decide) (by decide) (by decide) rfl dX11_undo_44 ?_
      refine E_aload_n (M := mX11_undo) 73 rfl dX11_undo_72 rfl 3 rfl ?_
      replace h := Option.bind_eq_some_iff.mp h
      obtain ⟨v7, hv7, h⟩ := h
      refine E_hs (M := mX11_undo) 76 rfl dX11_undo_73 shc_0 fl_X11_40 rfl hv7 ?_
      refine E_gR (M := mX11_undo) (v7 + 3) 79 rfl dX11_undo_76 (sh_H (hsO_s hv7).1) fl_X11_139 rfl (rt_H6 (hsO_s hv7).1) (H_lt (hsO_s hv7).1 3 (by decide)) ?_
      refine E_iload_n (M := mX11_undo) 80 rfl dX11_undo_79 rfl 1 rfl ?_
      replace h := Option.bind_eq_some_iff.mp h
      obtain ⟨v8, hv8, h⟩ := h
      refine E_ldE (M := mX11_undo) (hsO_s hv7).1 81 rfl dX11_undo_80 hv8 ?_
      refine E_iload_n (M := mX11_undo) 82 rfl dX11_undo_81 rfl 0 rfl ?_
      replace h := Option.bind_eq_some_iff.mp h
      obtain ⟨I9, hI9, h⟩ := h
      refine E_pfI (M := mX11_undo) 85 rfl dX11_undo_82 (sh_E (isE_ld (hsO_s hv7).1 hv8)) fl_X11_143 rfl hI9 ?_
      refine E_goto (M := mX11_undo) 137 (by decide) dX11_undo_85 ?_
      refine E_sub (M := mX11_undo) (lv' := [(0, .ref 0), (1, .int w1.1)]) [3, 2] rfl ?_
      exact S_X11_undo_137 w1.1 I9 w1.2.2 _ h
    rw [if_neg c6] at h
    by_cases c10 : v5 = 1
    · rw [if_pos c10] at h
      refine E_tsIn (M := mX11_undo) (off := 44) 1 c10 88 (by decide) (by decide) (by decide) rfl dX11_undo_44 ?_
      refine E_aload_n (M := mX11_undo) 89 rfl dX11_undo_88 rfl 3 rfl ?_
      replace h := Option.bind_eq_some_iff.mp h
      obtain ⟨v11, hv11, h⟩ := h
      refine E_hs (M := mX11_undo) 92 rfl dX11_undo_89 shc_0 fl_X11_40 rfl hv11 ?_
      refine E_gR (M := mX11_undo) (v11 + 4) 95 rfl dX11_undo_92 (sh_H (hsO_s hv11).1) fl_X11_163 rfl (rt_H7 (hsO_s hv11).1) (H_lt (hsO_s hv11).1 4 (by decide)) ?_
      refine E_iload_n (M := mX11_undo) 96 rfl dX11_undo_95 rfl 1 rfl ?_
      replace h := Option.bind_eq_some_iff.mp h
      obtain ⟨v12, hv12, h⟩ := h
      refine E_ldN (M := mX11_undo) (hsO_s hv11).1 97 rfl dX11_undo_96 hv12 ?_
      refine E_iload_n (M := mX11_undo) 98 rfl dX11_undo_97 rfl 0 rfl ?_
      refine E_if_eq (M := mX11_undo) 105 101 (by decide) rfl dX11_undo_98 (fun c13 => ?_) (fun c13 => ?_)
      · rw [if_pos c13] at h
        refine E_iconst (M := mX11_undo) (v := 0) 106 rfl dX11_undo_105 (by decide) ?_
        refine E_sub (M := mX11_undo) (lv' := [(0, .ref 0), (1, .int w1.1)]) [3, 2] rfl ?_
        exact S_X11_undo_106 w1.1 v12 false (isN_ld (hsO_s hv11).1 hv12) w1.2.1 w1.2.2 _ h
      · rw [if_neg c13] at h
        refine E_iconst (M := mX11_undo) (v := 1) 102 rfl dX11_undo_101 (by decide) ?_
        refine E_goto (M := mX11_undo) 106 (by decide) dX11_undo_102 ?_
        refine E_sub (M := mX11_undo) (lv' := [(0, .ref 0), (1, .int w1.1)]) [3, 2] rfl ?_
        exact S_X11_undo_106 w1.1 v12 true (isN_ld (hsO_s hv11).1 hv12) w1.2.1 w1.2.2 _ h
    rw [if_neg c10] at h
    by_cases c14 : v5 = 2
    · rw [if_pos c14] at h
      refine E_tsIn (M := mX11_undo) (off := 68) 2 c14 112 (by decide) (by decide) (by decide) rfl dX11_undo_44 ?_
      refine E_aload_n (M := mX11_undo) 113 rfl dX11_undo_112 rfl 3 rfl ?_
      replace h := Option.bind_eq_some_iff.mp h
      obtain ⟨v15, hv15, h⟩ := h
      refine E_hs (M := mX11_undo) 116 rfl dX11_undo_113 shc_0 fl_X11_40 rfl hv15 ?_
      refine E_gR (M := mX11_undo) (v15 + 4) 119 rfl dX11_undo_116 (sh_H (hsO_s hv15).1) fl_X11_163 rfl (rt_H7 (hsO_s hv15).1) (H_lt (hsO_s hv15).1 4 (by decide)) ?_
      refine E_iload_n (M := mX11_undo) 120 rfl dX11_undo_119 rfl 1 rfl ?_
      replace h := Option.bind_eq_some_iff.mp h
      obtain ⟨v16, hv16, h⟩ := h
      refine E_ldN (M := mX11_undo) (hsO_s hv15).1 121 rfl dX11_undo_120 hv16 ?_
      refine E_iload_n (M := mX11_undo) 122 rfl dX11_undo_121 rfl 0 rfl ?_
      replace h := Option.bind_eq_some_iff.mp h
      obtain ⟨I17, hI17, h⟩ := h
      refine E_pfI (M := mX11_undo) 125 rfl dX11_undo_122 (sh_N (isN_ld (hsO_s hv15).1 hv16)) fl_X11_182 rfl hI17 ?_
      refine E_goto (M := mX11_undo) 137 (by decide) dX11_undo_125 ?_
      refine E_sub (M := mX11_undo) (lv' := [(0, .ref 0), (1, .int w1.1)]) [3, 2] rfl ?_
      exact S_X11_undo_137 w1.1 I17 w1.2.2 _ h
    rw [if_neg c14] at h
    refine E_tsOut (M := mX11_undo) 3 (by decide) (fun i hi => match i, hi with | 0, _ => toI c6 (by decide) | 1, _ => toI c10 (by decide) | 2, _ => toI c14 (by decide) | (n + 3), hi => absurd hi (by omega)) 128 (by decide) dX11_undo_44 ?_
    refine E_aload_n (M := mX11_undo) 129 rfl dX11_undo_128 rfl 3 rfl ?_
    replace h := Option.bind_eq_some_iff.mp h
    obtain ⟨v18, hv18, h⟩ := h
    refine E_hs (M := mX11_undo) 132 rfl dX11_undo_129 shc_0 fl_X11_40 rfl hv18 ?_
    refine E_iload_n (M := mX11_undo) 133 rfl dX11_undo_132 rfl 1 rfl ?_
    refine E_iload_n (M := mX11_undo) 134 rfl dX11_undo_133 rfl 0 rfl ?_
    replace h := Option.bind_eq_some_iff.mp h
    obtain ⟨w19, hw19, h⟩ := h
    refine E_cV0 (M := mX11_undo) (As := [.int v3, .int v4]) 137 rfl dX11_undo_134 (sh_H (hsO_s hv18).1) ck_X11_292 cv_X3_lay rfl (by decide) (Nat.le_of_ble_eq_true rfl) (C_X3_lay (g := g) (hsO_s hv18).1 hw19) rfl ?_
    refine E_sub (M := mX11_undo) (lv' := [(0, .ref 0), (1, .int w1.1)]) [3, 2] rfl ?_
    exact S_X11_undo_137 w1.1 w19.1 w19.2 _ h
  · rw [if_pos c2] at h
    refine E_iconst (M := mX11_undo) (v := 0) 14 rfl dX11_undo_13 (by decide) ?_
    cases h
    exact E_zret (M := mX11_undo) (x := false) rfl dX11_undo_14
theorem C_X11_undo {g : Gx} {I : MI} {L : ML} {res : Bool × MI × ML} (h : f_X11_undo I L = some res) : Ent g 4 0 mX11_undo [.ref 0] (I, L) (.inl (some (.int (bI res.1)))) (res.2.1, res.2.2) := Ent_of (by decide +kernel) (Nat.le_of_ble_eq_true rfl) (S_X11_undo I L _ h)
def f_X11_isPitch_15 (y0 : Bool) (I : MI) (L : ML) : Option (Bool) := some y0
set_option maxRecDepth 100000 in
theorem S_X11_isPitch_15 {g : Gx} (y0 : Bool) (I : MI) (L : ML) (res : Bool) (h : f_X11_isPitch_15 y0 I L = some res) : E g 1 0 mX11_isPitch 15 [] [.int (bI y0)] (I, L) (.inl (some (.int (bI res)))) (I, L) := by
  unfold f_X11_isPitch_15 at h
  cases h
  exact E_zret (M := mX11_isPitch) (x := y0) rfl dX11_isPitch_15
def f_X11_isPitch_14 (I : MI) (L : ML) : Option (Bool) := f_X11_isPitch_15 false I L
set_option maxRecDepth 100000 in
theorem S_X11_isPitch_14 {g : Gx} (I : MI) (L : ML) (res : Bool) (h : f_X11_isPitch_14 I L = some res) : E g 1 0 mX11_isPitch 14 [] [] (I, L) (.inl (some (.int (bI res)))) (I, L) := by
  unfold f_X11_isPitch_14 at h
  refine E_iconst (M := mX11_isPitch) (v := 0) 15 rfl dX11_isPitch_14 (by decide) ?_
  refine E_sub (M := mX11_isPitch) (lv' := []) [] rfl ?_
  exact S_X11_isPitch_15 false I L _ h
def f_X11_isPitch (x0 : Int32) (I : MI) (L : ML) : Option (Bool) := if x0 < 0 then (f_X11_isPitch_14 I L) else (if 99 < x0 then (f_X11_isPitch_14 I L) else (f_X11_isPitch_15 true I L))
set_option maxRecDepth 100000 in
theorem S_X11_isPitch {g : Gx} (x0 : Int32) (I : MI) (L : ML) (res : Bool) (h : f_X11_isPitch x0 I L = some res) : E g 1 0 mX11_isPitch 0 [(0, .int x0)] [] (I, L) (.inl (some (.int (bI res)))) (I, L) := by
  unfold f_X11_isPitch at h
  refine E_iload_n (M := mX11_isPitch) 1 rfl dX11_isPitch_0 rfl 0 rfl ?_
  refine E_if_lt (M := mX11_isPitch) 14 4 (by decide) rfl dX11_isPitch_1 (fun c1 => ?_) (fun c1 => ?_)
  · rw [if_pos c1] at h
    refine E_sub (M := mX11_isPitch) (lv' := []) [] rfl ?_
    exact S_X11_isPitch_14 I L _ h
  · rw [if_neg c1] at h
    refine E_iload_n (M := mX11_isPitch) 5 rfl dX11_isPitch_4 rfl 0 rfl ?_
    refine E_bipush (M := mX11_isPitch) (v := 99) 7 rfl dX11_isPitch_5 (by decide) ?_
    refine E_icmp_gt (M := mX11_isPitch) 14 10 (by decide) rfl dX11_isPitch_7 (fun c2 => ?_) (fun c2 => ?_)
    · rw [if_pos c2] at h
      refine E_sub (M := mX11_isPitch) (lv' := []) [] rfl ?_
      exact S_X11_isPitch_14 I L _ h
    · rw [if_neg c2] at h
      refine E_iconst (M := mX11_isPitch) (v := 1) 11 rfl dX11_isPitch_10 (by decide) ?_
      refine E_goto (M := mX11_isPitch) 15 (by decide) dX11_isPitch_11 ?_
      refine E_sub (M := mX11_isPitch) (lv' := []) [] rfl ?_
      exact S_X11_isPitch_15 true I L _ h
theorem C_X11_isPitch {g : Gx} {x0 : Int32} {I : MI} {L : ML} {res : Bool} (h : f_X11_isPitch x0 I L = some res) : Ent g 1 0 mX11_isPitch [.int x0] (I, L) (.inl (some (.int (bI res)))) (I, L) := Ent_of (by decide +kernel) (Nat.le_of_ble_eq_true rfl) (S_X11_isPitch x0 I L _ h)
def f_X11_odds_99 (y0 : Int32) (I : MI) (L : ML) : Option ((String ⊕ Int32) × MI × ML) := some (.inr y0, I, L)
set_option maxRecDepth 100000 in
theorem S_X11_odds_99 {g : Gx} (y0 : Int32) (I : MI) (L : ML) (res : (String ⊕ Int32) × MI × ML) (h : f_X11_odds_99 y0 I L = some res) : E g 8 (bS res.1) mX11_odds 99 [] [.int y0] (I, L) (rI res.1) (res.2.1, res.2.2) := by
  unfold f_X11_odds_99 at h
  cases h
  exact E_iret (M := mX11_odds) rfl dX11_odds_99
def f_X11_odds_23 : Nat → Int32 → Int32 → Int32 → Int32 → Int32 → MI → ML → Option ((String ⊕ Int32) × MI × ML)
  | 0, _, _, _, _, _, _, _ => none
  | n + 1, x1, x2, x3, x4, x5, I, L => Option.bind (hsO (I 0 4)) fun v1 => if (I v1 3) ≤ x5 then (if 0 < x4 then (Option.bind (hsO (I 0 4)) fun v4 => Option.bind (hsO (I 0 4)) fun v5 => Option.bind (ldR (v5 + 33) 12 x1) fun v6 => Option.bind (f_X3_weight v4 v6 x2 x3 I L) fun v7 => Option.bind (dvI (10000 * v7) x4) fun v8 => f_X11_odds_99 v8 I L) else (f_X11_odds_99 0 I L)) else (Option.bind (hsO (I 0 4)) fun v9 => Option.bind (hsO (I 0 4)) fun v10 => Option.bind (ldR (v10 + 33) 12 x5) fun v11 => Option.bind (f_X3_weight v9 v11 x2 x3 I L) fun v12 => f_X11_odds_23 n x1 x2 x3 (x4 + v12) (x5 + 1) I L)
set_option maxRecDepth 100000 in
theorem S_X11_odds_23 {g : Gx} : ∀ (n : Nat) (x1 : Int32) (x2 : Int32) (x3 : Int32) (x4 : Int32) (x5 : Int32) (I : MI) (L : ML) (res : (String ⊕ Int32) × MI × ML), f_X11_odds_23 n x1 x2 x3 x4 x5 I L = some res → E g 8 (bS res.1) mX11_odds 23 [(0, .ref 0), (1, .int x1), (2, .int x2), (3, .int x3), (4, .int x4), (5, .int x5)] [] (I, L) (rI res.1) (res.2.1, res.2.2) := by
  intro n
  induction n with
  | zero =>
    intros
    rename_i h
    cases h
  | succ n ih =>
    intro x1 x2 x3 x4 x5 I L res h
    rw [f_X11_odds_23] at h
    refine E_iload (M := mX11_odds) 25 rfl dX11_odds_23 5 rfl ?_
    refine E_aload_n (M := mX11_odds) 26 rfl dX11_odds_25 rfl 0 rfl ?_
    replace h := Option.bind_eq_some_iff.mp h
    obtain ⟨v1, hv1, h⟩ := h
    refine E_hs (M := mX11_odds) 29 rfl dX11_odds_26 shc_0 fl_X11_40 rfl hv1 ?_
    refine E_gI (M := mX11_odds) 32 rfl dX11_odds_29 (sh_H (hsO_s hv1).1) fl_X11_245 rfl ?_
    refine E_icmp_ge (M := mX11_odds) 65 35 (by decide) rfl dX11_odds_32 (fun c2 => ?_) (fun c2 => ?_)
    · rw [if_pos c2] at h
      refine E_iload (M := mX11_odds) 67 rfl dX11_odds_65 4 rfl ?_
      refine E_if_gt (M := mX11_odds) 74 70 (by decide) rfl dX11_odds_67 (fun c3 => ?_) (fun c3 => ?_)
      · rw [if_pos c3] at h
        refine E_sipush (M := mX11_odds) (v := 10000) 77 rfl dX11_odds_74 (by decide) ?_
        refine E_aload_n (M := mX11_odds) 78 rfl dX11_odds_77 rfl 0 rfl ?_
        replace h := Option.bind_eq_some_iff.mp h
        obtain ⟨v4, hv4, h⟩ := h
        refine E_hs (M := mX11_odds) 81 rfl dX11_odds_78 shc_0 fl_X11_40 rfl hv4 ?_
        refine E_aload_n (M := mX11_odds) 82 rfl dX11_odds_81 rfl 0 rfl ?_
        replace h := Option.bind_eq_some_iff.mp h
        obtain ⟨v5, hv5, h⟩ := h
        refine E_hs (M := mX11_odds) 85 rfl dX11_odds_82 shc_0 fl_X11_40 rfl hv5 ?_
        refine E_gR (M := mX11_odds) (v5 + 4) 88 rfl dX11_odds_85 (sh_H (hsO_s hv5).1) fl_X11_163 rfl (rt_H7 (hsO_s hv5).1) (H_lt (hsO_s hv5).1 4 (by decide)) ?_
        refine E_iload_n (M := mX11_odds) 89 rfl dX11_odds_88 rfl 1 rfl ?_
        replace h := Option.bind_eq_some_iff.mp h
        obtain ⟨v6, hv6, h⟩ := h
        refine E_ldN (M := mX11_odds) (hsO_s hv5).1 90 rfl dX11_odds_89 hv6 ?_
        refine E_iload_n (M := mX11_odds) 91 rfl dX11_odds_90 rfl 2 rfl ?_
        refine E_iload_n (M := mX11_odds) 92 rfl dX11_odds_91 rfl 3 rfl ?_
        replace h := Option.bind_eq_some_iff.mp h
        obtain ⟨v7, hv7, h⟩ := h
        refine E_cV1 (M := mX11_odds) (As := [.ref v6, .int x2, .int x3]) 95 rfl dX11_odds_92 (sh_H (hsO_s hv4).1) ck_X11_314 cv_X3_weight rfl (by decide) (Nat.le_of_ble_eq_true rfl) (C_X3_weight (g := g) (hsO_s hv4).1 (isN_ld (hsO_s hv5).1 hv6) hv7) rfl ?_
        refine E_imul (M := mX11_odds) 96 rfl dX11_odds_95 ?_
        refine E_iload (M := mX11_odds) 98 rfl dX11_odds_96 4 rfl ?_
        replace h := Option.bind_eq_some_iff.mp h
        obtain ⟨v8, hv8, h⟩ := h
        refine E_dvI (M := mX11_odds) 99 rfl dX11_odds_98 hv8 ?_
        refine E_sub (M := mX11_odds) (lv' := []) [] rfl ?_
        exact S_X11_odds_99 v8 I L _ h
      · rw [if_neg c3] at h
        refine E_iconst (M := mX11_odds) (v := 0) 71 rfl dX11_odds_70 (by decide) ?_
        refine E_goto (M := mX11_odds) 99 (by decide) dX11_odds_71 ?_
        refine E_sub (M := mX11_odds) (lv' := []) [] rfl ?_
        exact S_X11_odds_99 0 I L _ h
    · rw [if_neg c2] at h
      refine E_iload (M := mX11_odds) 37 rfl dX11_odds_35 4 rfl ?_
      refine E_aload_n (M := mX11_odds) 38 rfl dX11_odds_37 rfl 0 rfl ?_
      replace h := Option.bind_eq_some_iff.mp h
      obtain ⟨v9, hv9, h⟩ := h
      refine E_hs (M := mX11_odds) 41 rfl dX11_odds_38 shc_0 fl_X11_40 rfl hv9 ?_
      refine E_aload_n (M := mX11_odds) 42 rfl dX11_odds_41 rfl 0 rfl ?_
      replace h := Option.bind_eq_some_iff.mp h
      obtain ⟨v10, hv10, h⟩ := h
      refine E_hs (M := mX11_odds) 45 rfl dX11_odds_42 shc_0 fl_X11_40 rfl hv10 ?_
      refine E_gR (M := mX11_odds) (v10 + 4) 48 rfl dX11_odds_45 (sh_H (hsO_s hv10).1) fl_X11_163 rfl (rt_H7 (hsO_s hv10).1) (H_lt (hsO_s hv10).1 4 (by decide)) ?_
      refine E_iload (M := mX11_odds) 50 rfl dX11_odds_48 5 rfl ?_
      replace h := Option.bind_eq_some_iff.mp h
      obtain ⟨v11, hv11, h⟩ := h
      refine E_ldN (M := mX11_odds) (hsO_s hv10).1 51 rfl dX11_odds_50 hv11 ?_
      refine E_iload_n (M := mX11_odds) 52 rfl dX11_odds_51 rfl 2 rfl ?_
      refine E_iload_n (M := mX11_odds) 53 rfl dX11_odds_52 rfl 3 rfl ?_
      replace h := Option.bind_eq_some_iff.mp h
      obtain ⟨v12, hv12, h⟩ := h
      refine E_cV1 (M := mX11_odds) (As := [.ref v11, .int x2, .int x3]) 56 rfl dX11_odds_53 (sh_H (hsO_s hv9).1) ck_X11_314 cv_X3_weight rfl (by decide) (Nat.le_of_ble_eq_true rfl) (C_X3_weight (g := g) (hsO_s hv9).1 (isN_ld (hsO_s hv10).1 hv11) hv12) rfl ?_
      refine E_iadd (M := mX11_odds) 57 rfl dX11_odds_56 ?_
      refine E_istore (M := mX11_odds) (lv' := [(4, .int (x4 + v12)), (0, .ref 0), (1, .int x1), (2, .int x2), (3, .int x3), (5, .int x5)]) 59 rfl dX11_odds_57 (Nat.le_of_ble_eq_true rfl) rfl ?_
      refine E_iinc (M := mX11_odds) (j := 5) (v := x5 + 1) (lv' := [(5, .int (x5 + 1)), (4, .int (x4 + v12)), (0, .ref 0), (1, .int x1), (2, .int x2), (3, .int x3)]) 62 rfl dX11_odds_59 rfl rfl (Nat.le_of_ble_eq_true rfl) rfl ?_
      refine E_goto (M := mX11_odds) 23 (by decide) dX11_odds_62 ?_
      refine E_sub (M := mX11_odds) (lv' := [(0, .ref 0), (1, .int x1), (2, .int x2), (3, .int x3), (4, .int (x4 + v12)), (5, .int (x5 + 1))]) [2, 3, 4, 5, 1, 0] rfl ?_
      exact ih x1 x2 x3 (x4 + v12) (x5 + 1) I L _ h
def f_X11_odds (x1 : Int32) (x2 : Int32) (x3 : Int32) (I : MI) (L : ML) : Option ((String ⊕ Int32) × MI × ML) := Option.bind (f_X11_needNoise x1 I L) fun w1 => xc w1 fun _ => Option.bind (f_X11_needRoom x2 w1.2.1 w1.2.2) fun w4 => xc w4 fun _ => Option.bind (f_X11_isPitch x3 w4.2.1 w4.2.2) fun v7 => Option.bind (f_X11_need v7 w4.2.1 w4.2.2) fun w8 => xc w8 fun _ => f_X11_odds_23 FU x1 x2 x3 0 0 w8.2.1 w8.2.2
set_option maxRecDepth 100000 in
theorem S_X11_odds {g : Gx} (x1 : Int32) (x2 : Int32) (x3 : Int32) (I : MI) (L : ML) (res : (String ⊕ Int32) × MI × ML) (h : f_X11_odds x1 x2 x3 I L = some res) : E g 8 (bS res.1) mX11_odds 0 [(0, .ref 0), (1, .int x1), (2, .int x2), (3, .int x3)] [] (I, L) (rI res.1) (res.2.1, res.2.2) := by
  unfold f_X11_odds at h
  refine E_aload_n (M := mX11_odds) 1 rfl dX11_odds_0 rfl 0 rfl ?_
  refine E_iload_n (M := mX11_odds) 2 rfl dX11_odds_1 rfl 1 rfl ?_
  replace h := Option.bind_eq_some_iff.mp h
  obtain ⟨w1, hw1, h⟩ := h
  replace h := xc_s h
  rcases h with ⟨ex2, hex2, rfl⟩ | ⟨v3, hv3, h⟩
  · have hc := (C_X11_needNoise (g := g) hw1)
    rw [hex2] at hc
    exact E_callVX (M := mX11_odds) (As := [.int x1]) dX11_odds_2 shc_0 ck_X11_160 cv_X11_needNoise rfl (by decide) (Nat.le_of_ble_eq_true rfl) hc rfl
  have hcv3 := (C_X11_needNoise (g := g) hw1)
  rw [hv3] at hcv3
  refine E_cV0 (M := mX11_odds) (As := [.int x1]) 5 rfl dX11_odds_2 shc_0 ck_X11_160 cv_X11_needNoise rfl (by decide) (Nat.le_of_ble_eq_true rfl) hcv3 rfl ?_
  refine E_aload_n (M := mX11_odds) 6 rfl dX11_odds_5 rfl 0 rfl ?_
  refine E_iload_n (M := mX11_odds) 7 rfl dX11_odds_6 rfl 2 rfl ?_
  replace h := Option.bind_eq_some_iff.mp h
  obtain ⟨w4, hw4, h⟩ := h
  replace h := xc_s h
  rcases h with ⟨ex5, hex5, rfl⟩ | ⟨v6, hv6, h⟩
  · have hc := (C_X11_needRoom (g := g) hw4)
    rw [hex5] at hc
    exact E_callVX (M := mX11_odds) (As := [.int x2]) dX11_odds_7 shc_0 ck_X11_114 cv_X11_needRoom rfl (by decide) (Nat.le_of_ble_eq_true rfl) hc rfl
  have hcv6 := (C_X11_needRoom (g := g) hw4)
  rw [hv6] at hcv6
  refine E_cV0 (M := mX11_odds) (As := [.int x2]) 10 rfl dX11_odds_7 shc_0 ck_X11_114 cv_X11_needRoom rfl (by decide) (Nat.le_of_ble_eq_true rfl) hcv6 rfl ?_
  refine E_iload_n (M := mX11_odds) 11 rfl dX11_odds_10 rfl 3 rfl ?_
  replace h := Option.bind_eq_some_iff.mp h
  obtain ⟨v7, hv7, h⟩ := h
  refine E_cS1 (M := mX11_odds) (As := [.int x3]) 14 rfl dX11_odds_11 ck_X11_311 ss_X11_isPitch rfl (by decide) (Nat.le_of_ble_eq_true rfl) (C_X11_isPitch (g := g) hv7) rfl ?_
  replace h := Option.bind_eq_some_iff.mp h
  obtain ⟨w8, hw8, h⟩ := h
  replace h := xc_s h
  rcases h with ⟨ex9, hex9, rfl⟩ | ⟨v10, hv10, h⟩
  · have hc := (C_X11_need (g := g) hw8)
    rw [hex9] at hc
    exact E_callSX (M := mX11_odds) (As := [.int (bI v7)]) dX11_odds_14 ck_X11_213 ss_X11_need rfl (by decide) (Nat.le_of_ble_eq_true rfl) hc rfl
  have hcv10 := (C_X11_need (g := g) hw8)
  rw [hv10] at hcv10
  refine E_cS0 (M := mX11_odds) (As := [.int (bI v7)]) 17 rfl dX11_odds_14 ck_X11_213 ss_X11_need rfl (by decide) (Nat.le_of_ble_eq_true rfl) hcv10 rfl ?_
  refine E_iconst (M := mX11_odds) (v := 0) 18 rfl dX11_odds_17 (by decide) ?_
  refine E_istore (M := mX11_odds) (lv' := [(4, .int 0), (0, .ref 0), (1, .int x1), (2, .int x2), (3, .int x3)]) 20 rfl dX11_odds_18 (Nat.le_of_ble_eq_true rfl) rfl ?_
  refine E_iconst (M := mX11_odds) (v := 0) 21 rfl dX11_odds_20 (by decide) ?_
  refine E_istore (M := mX11_odds) (lv' := [(5, .int 0), (4, .int 0), (0, .ref 0), (1, .int x1), (2, .int x2), (3, .int x3)]) 23 rfl dX11_odds_21 (Nat.le_of_ble_eq_true rfl) rfl ?_
  refine E_sub (M := mX11_odds) (lv' := [(0, .ref 0), (1, .int x1), (2, .int x2), (3, .int x3), (4, .int 0), (5, .int 0)]) [2, 3, 4, 5, 1, 0] rfl ?_
  exact S_X11_odds_23 FU x1 x2 x3 0 0 w8.2.1 w8.2.2 _ h
theorem C_X11_odds {g : Gx} {x1 : Int32} {x2 : Int32} {x3 : Int32} {I : MI} {L : ML} {res : (String ⊕ Int32) × MI × ML} (h : f_X11_odds x1 x2 x3 I L = some res) : Ent g 8 (bS res.1) mX11_odds [.ref 0, .int x1, .int x2, .int x3] (I, L) (rI res.1) (res.2.1, res.2.2) := Ent_of (by decide +kernel) (Nat.le_of_ble_eq_true rfl) (S_X11_odds x1 x2 x3 I L _ h)
def f_X11_likeliest_67 (k20 : Int32 → Int32 → Int32 → Int32 → Int32 → MI → ML → Option ((String ⊕ Int32) × MI × ML)) (x1 : Int32) (x2 : Int32) (x3 : Int32) (x4 : Int32) (x5 : Int32) (I : MI) (L : ML) : Option ((String ⊕ Int32) × MI × ML) := k20 x1 x2 x3 x4 (x5 + 1) I L
set_option maxRecDepth 100000 in
theorem S_X11_likeliest_67 {g : Gx} {k20 : Int32 → Int32 → Int32 → Int32 → Int32 → MI → ML → Option ((String ⊕ Int32) × MI × ML)} (hk20 : ∀ (x1z : Int32) (x2z : Int32) (x3z : Int32) (x4z : Int32) (x5z : Int32) (I : MI) (L : ML) (res : (String ⊕ Int32) × MI × ML), k20 x1z x2z x3z x4z x5z I L = some res → E g 8 (bS res.1) mX11_likeliest 20 [(0, .ref 0), (1, .int x1z), (2, .int x2z), (3, .int x3z), (4, .int x4z), (5, .int x5z)] [] (I, L) (rI res.1) (res.2.1, res.2.2)) (x1 : Int32) (x2 : Int32) (x3 : Int32) (x4 : Int32) (x5 : Int32) (I : MI) (L : ML) (res : (String ⊕ Int32) × MI × ML) (h : f_X11_likeliest_67 k20 x1 x2 x3 x4 x5 I L = some res) : E g 8 (bS res.1) mX11_likeliest 67 [(0, .ref 0), (1, .int x1), (2, .int x2), (3, .int x3), (4, .int x4), (5, .int x5)] [] (I, L) (rI res.1) (res.2.1, res.2.2) := by
  unfold f_X11_likeliest_67 at h
  refine E_iinc (M := mX11_likeliest) (j := 5) (v := x5 + 1) (lv' := [(5, .int (x5 + 1)), (0, .ref 0), (1, .int x1), (2, .int x2), (3, .int x3), (4, .int x4)]) 70 rfl dX11_likeliest_67 rfl rfl (Nat.le_of_ble_eq_true rfl) rfl ?_
  refine E_goto (M := mX11_likeliest) 20 (by decide) dX11_likeliest_70 ?_
  refine E_sub (M := mX11_likeliest) (lv' := [(0, .ref 0), (1, .int x1), (2, .int x2), (3, .int x3), (4, .int x4), (5, .int (x5 + 1))]) [1, 2, 3, 4, 5, 0] rfl ?_
  exact hk20 x1 x2 x3 x4 (x5 + 1) I L _ h
def f_X11_likeliest_20 : Nat → Int32 → Int32 → Int32 → Int32 → Int32 → MI → ML → Option ((String ⊕ Int32) × MI × ML)
  | 0, _, _, _, _, _, _, _ => none
  | n + 1, x1, x2, x3, x4, x5, I, L => Option.bind (hsO (I 0 4)) fun v1 => if (I v1 3) ≤ x5 then (some (.inr x3, I, L)) else (Option.bind (hsO (I 0 4)) fun v3 => Option.bind (hsO (I 0 4)) fun v4 => Option.bind (ldR (v4 + 33) 12 x5) fun v5 => Option.bind (f_X3_weight v3 v5 x1 x2 I L) fun v6 => if v6 ≤ x4 then (f_X11_likeliest_67 (f_X11_likeliest_20 n) x1 x2 x3 x4 x5 I L) else (f_X11_likeliest_67 (f_X11_likeliest_20 n) x1 x2 x5 v6 x5 I L))
set_option maxRecDepth 100000 in
theorem S_X11_likeliest_20 {g : Gx} : ∀ (n : Nat) (x1 : Int32) (x2 : Int32) (x3 : Int32) (x4 : Int32) (x5 : Int32) (I : MI) (L : ML) (res : (String ⊕ Int32) × MI × ML), f_X11_likeliest_20 n x1 x2 x3 x4 x5 I L = some res → E g 8 (bS res.1) mX11_likeliest 20 [(0, .ref 0), (1, .int x1), (2, .int x2), (3, .int x3), (4, .int x4), (5, .int x5)] [] (I, L) (rI res.1) (res.2.1, res.2.2) := by
  intro n
  induction n with
  | zero =>
    intros
    rename_i h
    cases h
  | succ n ih =>
    intro x1 x2 x3 x4 x5 I L res h
    rw [f_X11_likeliest_20] at h
    refine E_iload (M := mX11_likeliest) 22 rfl dX11_likeliest_20 5 rfl ?_
    refine E_aload_n (M := mX11_likeliest) 23 rfl dX11_likeliest_22 rfl 0 rfl ?_
    replace h := Option.bind_eq_some_iff.mp h
    obtain ⟨v1, hv1, h⟩ := h
    refine E_hs (M := mX11_likeliest) 26 rfl dX11_likeliest_23 shc_0 fl_X11_40 rfl hv1 ?_
    refine E_gI (M := mX11_likeliest) 29 rfl dX11_likeliest_26 (sh_H (hsO_s hv1).1) fl_X11_245 rfl ?_
    refine E_icmp_ge (M := mX11_likeliest) 73 32 (by decide) rfl dX11_likeliest_29 (fun c2 => ?_) (fun c2 => ?_)
    · rw [if_pos c2] at h
      refine E_iload_n (M := mX11_likeliest) 74 rfl dX11_likeliest_73 rfl 3 rfl ?_
      cases h
      exact E_iret (M := mX11_likeliest) rfl dX11_likeliest_74
    · rw [if_neg c2] at h
      refine E_aload_n (M := mX11_likeliest) 33 rfl dX11_likeliest_32 rfl 0 rfl ?_
      replace h := Option.bind_eq_some_iff.mp h
      obtain ⟨v3, hv3, h⟩ := h
      refine E_hs (M := mX11_likeliest) 36 rfl dX11_likeliest_33 shc_0 fl_X11_40 rfl hv3 ?_
      refine E_aload_n (M := mX11_likeliest) 37 rfl dX11_likeliest_36 rfl 0 rfl ?_
      replace h := Option.bind_eq_some_iff.mp h
      obtain ⟨v4, hv4, h⟩ := h
      refine E_hs (M := mX11_likeliest) 40 rfl dX11_likeliest_37 shc_0 fl_X11_40 rfl hv4 ?_
      refine E_gR (M := mX11_likeliest) (v4 + 4) 43 rfl dX11_likeliest_40 (sh_H (hsO_s hv4).1) fl_X11_163 rfl (rt_H7 (hsO_s hv4).1) (H_lt (hsO_s hv4).1 4 (by decide)) ?_
      refine E_iload (M := mX11_likeliest) 45 rfl dX11_likeliest_43 5 rfl ?_
      replace h := Option.bind_eq_some_iff.mp h
      obtain ⟨v5, hv5, h⟩ := h
      refine E_ldN (M := mX11_likeliest) (hsO_s hv4).1 46 rfl dX11_likeliest_45 hv5 ?_
      refine E_iload_n (M := mX11_likeliest) 47 rfl dX11_likeliest_46 rfl 1 rfl ?_
      refine E_iload_n (M := mX11_likeliest) 48 rfl dX11_likeliest_47 rfl 2 rfl ?_
      replace h := Option.bind_eq_some_iff.mp h
      obtain ⟨v6, hv6, h⟩ := h
      refine E_cV1 (M := mX11_likeliest) (As := [.ref v5, .int x1, .int x2]) 51 rfl dX11_likeliest_48 (sh_H (hsO_s hv3).1) ck_X11_314 cv_X3_weight rfl (by decide) (Nat.le_of_ble_eq_true rfl) (C_X3_weight (g := g) (hsO_s hv3).1 (isN_ld (hsO_s hv4).1 hv5) hv6) rfl ?_
      refine E_istore (M := mX11_likeliest) (lv' := [(6, .int v6), (0, .ref 0), (1, .int x1), (2, .int x2), (3, .int x3), (4, .int x4), (5, .int x5)]) 53 rfl dX11_likeliest_51 (Nat.le_of_ble_eq_true rfl) rfl ?_
      refine E_iload (M := mX11_likeliest) 55 rfl dX11_likeliest_53 0 rfl ?_
      refine E_iload (M := mX11_likeliest) 57 rfl dX11_likeliest_55 5 rfl ?_
      refine E_icmp_le (M := mX11_likeliest) 67 60 (by decide) rfl dX11_likeliest_57 (fun c7 => ?_) (fun c7 => ?_)
      · rw [if_pos c7] at h
        refine E_sub (M := mX11_likeliest) (lv' := [(0, .ref 0), (1, .int x1), (2, .int x2), (3, .int x3), (4, .int x4), (5, .int x5)]) [1, 2, 3, 4, 5, 6] rfl ?_
        exact S_X11_likeliest_67 ih x1 x2 x3 x4 x5 I L _ h
      · rw [if_neg c7] at h
        refine E_iload (M := mX11_likeliest) 62 rfl dX11_likeliest_60 0 rfl ?_
        refine E_istore (M := mX11_likeliest) (lv' := [(4, .int v6), (6, .int v6), (0, .ref 0), (1, .int x1), (2, .int x2), (3, .int x3), (5, .int x5)]) 64 rfl dX11_likeliest_62 (Nat.le_of_ble_eq_true rfl) rfl ?_
        refine E_iload (M := mX11_likeliest) 66 rfl dX11_likeliest_64 6 rfl ?_
        refine E_istore_n (M := mX11_likeliest) (lv' := [(3, .int x5), (4, .int v6), (6, .int v6), (0, .ref 0), (1, .int x1), (2, .int x2), (5, .int x5)]) 67 rfl dX11_likeliest_66 rfl (Nat.le_of_ble_eq_true rfl) rfl ?_
        refine E_sub (M := mX11_likeliest) (lv' := [(0, .ref 0), (1, .int x1), (2, .int x2), (3, .int x5), (4, .int v6), (5, .int x5)]) [3, 4, 5, 0, 1, 6] rfl ?_
        exact S_X11_likeliest_67 ih x1 x2 x5 v6 x5 I L _ h
def f_X11_likeliest (x1 : Int32) (x2 : Int32) (I : MI) (L : ML) : Option ((String ⊕ Int32) × MI × ML) := Option.bind (f_X11_needRoom x1 I L) fun w1 => xc w1 fun _ => Option.bind (f_X11_isPitch x2 w1.2.1 w1.2.2) fun v4 => Option.bind (f_X11_need v4 w1.2.1 w1.2.2) fun w5 => xc w5 fun _ => f_X11_likeliest_20 FU x1 x2 ((-1)) 0 0 w5.2.1 w5.2.2
set_option maxRecDepth 100000 in
theorem S_X11_likeliest {g : Gx} (x1 : Int32) (x2 : Int32) (I : MI) (L : ML) (res : (String ⊕ Int32) × MI × ML) (h : f_X11_likeliest x1 x2 I L = some res) : E g 8 (bS res.1) mX11_likeliest 0 [(0, .ref 0), (1, .int x1), (2, .int x2)] [] (I, L) (rI res.1) (res.2.1, res.2.2) := by
  unfold f_X11_likeliest at h
  refine E_aload_n (M := mX11_likeliest) 1 rfl dX11_likeliest_0 rfl 0 rfl ?_
  refine E_iload_n (M := mX11_likeliest) 2 rfl dX11_likeliest_1 rfl 1 rfl ?_
  replace h := Option.bind_eq_some_iff.mp h
  obtain ⟨w1, hw1, h⟩ := h
  replace h := xc_s h
  rcases h with ⟨ex2, hex2, rfl⟩ | ⟨v3, hv3, h⟩
  · have hc := (C_X11_needRoom (g := g) hw1)
    rw [hex2] at hc
    exact E_callVX (M := mX11_likeliest) (As := [.int x1]) dX11_likeliest_2 shc_0 ck_X11_114 cv_X11_needRoom rfl (by decide) (Nat.le_of_ble_eq_true rfl) hc rfl
  have hcv3 := (C_X11_needRoom (g := g) hw1)
  rw [hv3] at hcv3
  refine E_cV0 (M := mX11_likeliest) (As := [.int x1]) 5 rfl dX11_likeliest_2 shc_0 ck_X11_114 cv_X11_needRoom rfl (by decide) (Nat.le_of_ble_eq_true rfl) hcv3 rfl ?_
  refine E_iload_n (M := mX11_likeliest) 6 rfl dX11_likeliest_5 rfl 2 rfl ?_
  replace h := Option.bind_eq_some_iff.mp h
  obtain ⟨v4, hv4, h⟩ := h
  refine E_cS1 (M := mX11_likeliest) (As := [.int x2]) 9 rfl dX11_likeliest_6 ck_X11_311 ss_X11_isPitch rfl (by decide) (Nat.le_of_ble_eq_true rfl) (C_X11_isPitch (g := g) hv4) rfl ?_
  replace h := Option.bind_eq_some_iff.mp h
  obtain ⟨w5, hw5, h⟩ := h
  replace h := xc_s h
  rcases h with ⟨ex6, hex6, rfl⟩ | ⟨v7, hv7, h⟩
  · have hc := (C_X11_need (g := g) hw5)
    rw [hex6] at hc
    exact E_callSX (M := mX11_likeliest) (As := [.int (bI v4)]) dX11_likeliest_9 ck_X11_213 ss_X11_need rfl (by decide) (Nat.le_of_ble_eq_true rfl) hc rfl
  have hcv7 := (C_X11_need (g := g) hw5)
  rw [hv7] at hcv7
  refine E_cS0 (M := mX11_likeliest) (As := [.int (bI v4)]) 12 rfl dX11_likeliest_9 ck_X11_213 ss_X11_need rfl (by decide) (Nat.le_of_ble_eq_true rfl) hcv7 rfl ?_
  refine E_iconst (M := mX11_likeliest) (v := (-1)) 13 rfl dX11_likeliest_12 (by decide) ?_
  refine E_istore_n (M := mX11_likeliest) (lv' := [(3, .int ((-1))), (0, .ref 0), (1, .int x1), (2, .int x2)]) 14 rfl dX11_likeliest_13 rfl (Nat.le_of_ble_eq_true rfl) rfl ?_
  refine E_iconst (M := mX11_likeliest) (v := 0) 15 rfl dX11_likeliest_14 (by decide) ?_
  refine E_istore (M := mX11_likeliest) (lv' := [(4, .int 0), (3, .int ((-1))), (0, .ref 0), (1, .int x1), (2, .int x2)]) 17 rfl dX11_likeliest_15 (Nat.le_of_ble_eq_true rfl) rfl ?_
  refine E_iconst (M := mX11_likeliest) (v := 0) 18 rfl dX11_likeliest_17 (by decide) ?_
  refine E_istore (M := mX11_likeliest) (lv' := [(5, .int 0), (4, .int 0), (3, .int ((-1))), (0, .ref 0), (1, .int x1), (2, .int x2)]) 20 rfl dX11_likeliest_18 (Nat.le_of_ble_eq_true rfl) rfl ?_
  refine E_sub (M := mX11_likeliest) (lv' := [(0, .ref 0), (1, .int x1), (2, .int x2), (3, .int ((-1))), (4, .int 0), (5, .int 0)]) [3, 4, 5, 2, 1, 0] rfl ?_
  exact S_X11_likeliest_20 FU x1 x2 ((-1)) 0 0 w5.2.1 w5.2.2 _ h
theorem C_X11_likeliest {g : Gx} {x1 : Int32} {x2 : Int32} {I : MI} {L : ML} {res : (String ⊕ Int32) × MI × ML} (h : f_X11_likeliest x1 x2 I L = some res) : Ent g 8 (bS res.1) mX11_likeliest [.ref 0, .int x1, .int x2] (I, L) (rI res.1) (res.2.1, res.2.2) := Ent_of (by decide +kernel) (Nat.le_of_ble_eq_true rfl) (S_X11_likeliest x1 x2 I L _ h)
def f_X11_areDays_17 (y0 : Bool) (I : MI) (L : ML) : Option (Bool) := some y0
set_option maxRecDepth 100000 in
theorem S_X11_areDays_17 {g : Gx} (y0 : Bool) (I : MI) (L : ML) (res : Bool) (h : f_X11_areDays_17 y0 I L = some res) : E g 1 0 mX11_areDays 17 [] [.int (bI y0)] (I, L) (.inl (some (.int (bI res)))) (I, L) := by
  unfold f_X11_areDays_17 at h
  cases h
  exact E_zret (M := mX11_areDays) (x := y0) rfl dX11_areDays_17
def f_X11_areDays_16 (I : MI) (L : ML) : Option (Bool) := f_X11_areDays_17 false I L
set_option maxRecDepth 100000 in
theorem S_X11_areDays_16 {g : Gx} (I : MI) (L : ML) (res : Bool) (h : f_X11_areDays_16 I L = some res) : E g 1 0 mX11_areDays 16 [] [] (I, L) (.inl (some (.int (bI res)))) (I, L) := by
  unfold f_X11_areDays_16 at h
  refine E_iconst (M := mX11_areDays) (v := 0) 17 rfl dX11_areDays_16 (by decide) ?_
  refine E_sub (M := mX11_areDays) (lv' := []) [] rfl ?_
  exact S_X11_areDays_17 false I L _ h
def f_X11_areDays (x0 : Int32) (I : MI) (L : ML) : Option (Bool) := if x0 < 1 then (f_X11_areDays_16 I L) else (if 200 < x0 then (f_X11_areDays_16 I L) else (f_X11_areDays_17 true I L))
set_option maxRecDepth 100000 in
theorem S_X11_areDays {g : Gx} (x0 : Int32) (I : MI) (L : ML) (res : Bool) (h : f_X11_areDays x0 I L = some res) : E g 1 0 mX11_areDays 0 [(0, .int x0)] [] (I, L) (.inl (some (.int (bI res)))) (I, L) := by
  unfold f_X11_areDays at h
  refine E_iload_n (M := mX11_areDays) 1 rfl dX11_areDays_0 rfl 0 rfl ?_
  refine E_iconst (M := mX11_areDays) (v := 1) 2 rfl dX11_areDays_1 (by decide) ?_
  refine E_icmp_lt (M := mX11_areDays) 16 5 (by decide) rfl dX11_areDays_2 (fun c1 => ?_) (fun c1 => ?_)
  · rw [if_pos c1] at h
    refine E_sub (M := mX11_areDays) (lv' := []) [] rfl ?_
    exact S_X11_areDays_16 I L _ h
  · rw [if_neg c1] at h
    refine E_iload_n (M := mX11_areDays) 6 rfl dX11_areDays_5 rfl 0 rfl ?_
    refine E_sipush (M := mX11_areDays) (v := 200) 9 rfl dX11_areDays_6 (by decide) ?_
    refine E_icmp_gt (M := mX11_areDays) 16 12 (by decide) rfl dX11_areDays_9 (fun c2 => ?_) (fun c2 => ?_)
    · rw [if_pos c2] at h
      refine E_sub (M := mX11_areDays) (lv' := []) [] rfl ?_
      exact S_X11_areDays_16 I L _ h
    · rw [if_neg c2] at h
      refine E_iconst (M := mX11_areDays) (v := 1) 13 rfl dX11_areDays_12 (by decide) ?_
      refine E_goto (M := mX11_areDays) 17 (by decide) dX11_areDays_13 ?_
      refine E_sub (M := mX11_areDays) (lv' := []) [] rfl ?_
      exact S_X11_areDays_17 true I L _ h
theorem C_X11_areDays {g : Gx} {x0 : Int32} {I : MI} {L : ML} {res : Bool} (h : f_X11_areDays x0 I L = some res) : Ent g 1 0 mX11_areDays [.int x0] (I, L) (.inl (some (.int (bI res)))) (I, L) := Ent_of (by decide +kernel) (Nat.le_of_ble_eq_true rfl) (S_X11_areDays x0 I L _ h)
def f_X11_due (x1 : Int32) (x2 : Int32) (I : MI) (L : ML) : Option ((String ⊕ Int64) × MI × ML) := Option.bind (f_X11_needNoise x1 I L) fun w1 => xc w1 fun _ => Option.bind (f_X11_areDays x2 w1.2.1 w1.2.2) fun v4 => Option.bind (f_X11_need v4 w1.2.1 w1.2.2) fun w5 => xc w5 fun _ => Option.bind (hsO (w5.2.1 0 4)) fun v8 => Option.bind (hsO (w5.2.1 0 4)) fun v9 => Option.bind (ldR (v9 + 33) 12 x1) fun v10 => Option.bind (f_X3_dueFor v8 v10 x2 w5.2.1 w5.2.2) fun v11 => some (.inr v11, w5.2.1, w5.2.2)
set_option maxRecDepth 100000 in
theorem S_X11_due {g : Gx} (x1 : Int32) (x2 : Int32) (I : MI) (L : ML) (res : (String ⊕ Int64) × MI × ML) (h : f_X11_due x1 x2 I L = some res) : E g 9 (bS res.1) mX11_due 0 [(0, .ref 0), (1, .int x1), (2, .int x2)] [] (I, L) (rJ res.1) (res.2.1, res.2.2) := by
  unfold f_X11_due at h
  refine E_aload_n (M := mX11_due) 1 rfl dX11_due_0 rfl 0 rfl ?_
  refine E_iload_n (M := mX11_due) 2 rfl dX11_due_1 rfl 1 rfl ?_
  replace h := Option.bind_eq_some_iff.mp h
  obtain ⟨w1, hw1, h⟩ := h
  replace h := xc_s h
  rcases h with ⟨ex2, hex2, rfl⟩ | ⟨v3, hv3, h⟩
  · have hc := (C_X11_needNoise (g := g) hw1)
    rw [hex2] at hc
    exact E_callVX (M := mX11_due) (As := [.int x1]) dX11_due_2 shc_0 ck_X11_160 cv_X11_needNoise rfl (by decide) (Nat.le_of_ble_eq_true rfl) hc rfl
  have hcv3 := (C_X11_needNoise (g := g) hw1)
  rw [hv3] at hcv3
  refine E_cV0 (M := mX11_due) (As := [.int x1]) 5 rfl dX11_due_2 shc_0 ck_X11_160 cv_X11_needNoise rfl (by decide) (Nat.le_of_ble_eq_true rfl) hcv3 rfl ?_
  refine E_iload_n (M := mX11_due) 6 rfl dX11_due_5 rfl 2 rfl ?_
  replace h := Option.bind_eq_some_iff.mp h
  obtain ⟨v4, hv4, h⟩ := h
  refine E_cS1 (M := mX11_due) (As := [.int x2]) 9 rfl dX11_due_6 ck_X11_318 ss_X11_areDays rfl (by decide) (Nat.le_of_ble_eq_true rfl) (C_X11_areDays (g := g) hv4) rfl ?_
  replace h := Option.bind_eq_some_iff.mp h
  obtain ⟨w5, hw5, h⟩ := h
  replace h := xc_s h
  rcases h with ⟨ex6, hex6, rfl⟩ | ⟨v7, hv7, h⟩
  · have hc := (C_X11_need (g := g) hw5)
    rw [hex6] at hc
    exact E_callSX (M := mX11_due) (As := [.int (bI v4)]) dX11_due_9 ck_X11_213 ss_X11_need rfl (by decide) (Nat.le_of_ble_eq_true rfl) hc rfl
  have hcv7 := (C_X11_need (g := g) hw5)
  rw [hv7] at hcv7
  refine E_cS0 (M := mX11_due) (As := [.int (bI v4)]) 12 rfl dX11_due_9 ck_X11_213 ss_X11_need rfl (by decide) (Nat.le_of_ble_eq_true rfl) hcv7 rfl ?_
  refine E_aload_n (M := mX11_due) 13 rfl dX11_due_12 rfl 0 rfl ?_
  replace h := Option.bind_eq_some_iff.mp h
  obtain ⟨v8, hv8, h⟩ := h
  refine E_hs (M := mX11_due) 16 rfl dX11_due_13 shc_0 fl_X11_40 rfl hv8 ?_
  refine E_aload_n (M := mX11_due) 17 rfl dX11_due_16 rfl 0 rfl ?_
  replace h := Option.bind_eq_some_iff.mp h
  obtain ⟨v9, hv9, h⟩ := h
  refine E_hs (M := mX11_due) 20 rfl dX11_due_17 shc_0 fl_X11_40 rfl hv9 ?_
  refine E_gR (M := mX11_due) (v9 + 4) 23 rfl dX11_due_20 (sh_H (hsO_s hv9).1) fl_X11_163 rfl (rt_H7 (hsO_s hv9).1) (H_lt (hsO_s hv9).1 4 (by decide)) ?_
  refine E_iload_n (M := mX11_due) 24 rfl dX11_due_23 rfl 1 rfl ?_
  replace h := Option.bind_eq_some_iff.mp h
  obtain ⟨v10, hv10, h⟩ := h
  refine E_ldN (M := mX11_due) (hsO_s hv9).1 25 rfl dX11_due_24 hv10 ?_
  refine E_iload_n (M := mX11_due) 26 rfl dX11_due_25 rfl 2 rfl ?_
  replace h := Option.bind_eq_some_iff.mp h
  obtain ⟨v11, hv11, h⟩ := h
  refine E_cV1 (M := mX11_due) (As := [.ref v10, .int x2]) 29 rfl dX11_due_26 (sh_H (hsO_s hv8).1) ck_X11_321 cv_X3_dueFor rfl (by decide) (Nat.le_of_ble_eq_true rfl) (C_X3_dueFor (g := g) (hsO_s hv8).1 (isN_ld (hsO_s hv9).1 hv10) hv11) rfl ?_
  cases h
  exact E_lret (M := mX11_due) rfl dX11_due_29
theorem C_X11_due {g : Gx} {x1 : Int32} {x2 : Int32} {I : MI} {L : ML} {res : (String ⊕ Int64) × MI × ML} (h : f_X11_due x1 x2 I L = some res) : Ent g 9 (bS res.1) mX11_due [.ref 0, .int x1, .int x2] (I, L) (rJ res.1) (res.2.1, res.2.2) := Ent_of (by decide +kernel) (Nat.le_of_ble_eq_true rfl) (S_X11_due x1 x2 I L _ h)
def f_X11_quiet_28 (x1 : Int32) (x2 : Int32) (x3 : Int32) (y0 : Bool) (I : MI) (L : ML) : Option ((String ⊕ Int32) × MI × ML) := Option.bind (f_X11_need y0 I L) fun w1 => xc w1 fun _ => Option.bind (hsO (w1.2.1 0 4)) fun v4 => Option.bind (f_X7_find v4 x1 x2 x3 w1.2.1 w1.2.2) fun w5 => some (.inr w5.1, w5.2.1, w5.2.2)
set_option maxRecDepth 100000 in
theorem S_X11_quiet_28 {g : Gx} (x1 : Int32) (x2 : Int32) (x3 : Int32) (y0 : Bool) (I : MI) (L : ML) (res : (String ⊕ Int32) × MI × ML) (h : f_X11_quiet_28 x1 x2 x3 y0 I L = some res) : E g 47 (bS res.1) mX11_quiet 28 [(0, .ref 0), (1, .int x1), (2, .int x2), (3, .int x3)] [.int (bI y0)] (I, L) (rI res.1) (res.2.1, res.2.2) := by
  unfold f_X11_quiet_28 at h
  replace h := Option.bind_eq_some_iff.mp h
  obtain ⟨w1, hw1, h⟩ := h
  replace h := xc_s h
  rcases h with ⟨ex2, hex2, rfl⟩ | ⟨v3, hv3, h⟩
  · have hc := (C_X11_need (g := g) hw1)
    rw [hex2] at hc
    exact E_callSX (M := mX11_quiet) (As := [.int (bI y0)]) dX11_quiet_28 ck_X11_213 ss_X11_need rfl (by decide) (Nat.le_of_ble_eq_true rfl) hc rfl
  have hcv3 := (C_X11_need (g := g) hw1)
  rw [hv3] at hcv3
  refine E_cS0 (M := mX11_quiet) (As := [.int (bI y0)]) 31 rfl dX11_quiet_28 ck_X11_213 ss_X11_need rfl (by decide) (Nat.le_of_ble_eq_true rfl) hcv3 rfl ?_
  refine E_aload_n (M := mX11_quiet) 32 rfl dX11_quiet_31 rfl 0 rfl ?_
  refine E_gR (M := mX11_quiet) 11 35 rfl dX11_quiet_32 shc_0 fl_X11_33 rfl (by decide) (by decide) ?_
  refine E_aload_n (M := mX11_quiet) 36 rfl dX11_quiet_35 rfl 0 rfl ?_
  replace h := Option.bind_eq_some_iff.mp h
  obtain ⟨v4, hv4, h⟩ := h
  refine E_hs (M := mX11_quiet) 39 rfl dX11_quiet_36 shc_0 fl_X11_40 rfl hv4 ?_
  refine E_iload_n (M := mX11_quiet) 40 rfl dX11_quiet_39 rfl 1 rfl ?_
  refine E_iload_n (M := mX11_quiet) 41 rfl dX11_quiet_40 rfl 2 rfl ?_
  refine E_iload_n (M := mX11_quiet) 42 rfl dX11_quiet_41 rfl 3 rfl ?_
  replace h := Option.bind_eq_some_iff.mp h
  obtain ⟨w5, hw5, h⟩ := h
  refine E_cV1 (M := mX11_quiet) (As := [.ref v4, .int x1, .int x2, .int x3]) 45 rfl dX11_quiet_42 shc_11 ck_X11_325 cv_X7_find rfl (by decide) (Nat.le_of_ble_eq_true rfl) (C_X7_find (g := g) (hsO_s hv4).1 hw5) rfl ?_
  cases h
  exact E_iret (M := mX11_quiet) rfl dX11_quiet_45
def f_X11_quiet_27 (x1 : Int32) (x2 : Int32) (x3 : Int32) (I : MI) (L : ML) : Option ((String ⊕ Int32) × MI × ML) := f_X11_quiet_28 x1 x2 x3 false I L
set_option maxRecDepth 100000 in
theorem S_X11_quiet_27 {g : Gx} (x1 : Int32) (x2 : Int32) (x3 : Int32) (I : MI) (L : ML) (res : (String ⊕ Int32) × MI × ML) (h : f_X11_quiet_27 x1 x2 x3 I L = some res) : E g 47 (bS res.1) mX11_quiet 27 [(0, .ref 0), (1, .int x1), (2, .int x2), (3, .int x3)] [] (I, L) (rI res.1) (res.2.1, res.2.2) := by
  unfold f_X11_quiet_27 at h
  refine E_iconst (M := mX11_quiet) (v := 0) 28 rfl dX11_quiet_27 (by decide) ?_
  refine E_sub (M := mX11_quiet) (lv' := [(0, .ref 0), (1, .int x1), (2, .int x2), (3, .int x3)]) [0, 1, 2, 3] rfl ?_
  exact S_X11_quiet_28 x1 x2 x3 false I L _ h
def f_X11_quiet (x1 : Int32) (x2 : Int32) (x3 : Int32) (I : MI) (L : ML) : Option ((String ⊕ Int32) × MI × ML) := Option.bind (f_X11_needRoom x1 I L) fun w1 => xc w1 fun _ => if x2 < 0 then (f_X11_quiet_27 x1 x2 x3 w1.2.1 w1.2.2) else (if 999 < x2 then (f_X11_quiet_27 x1 x2 x3 w1.2.1 w1.2.2) else (Option.bind (f_X11_areDays x3 w1.2.1 w1.2.2) fun v6 => if v6 = true then (f_X11_quiet_28 x1 x2 x3 true w1.2.1 w1.2.2) else (f_X11_quiet_27 x1 x2 x3 w1.2.1 w1.2.2)))
set_option maxRecDepth 100000 in
theorem S_X11_quiet {g : Gx} (x1 : Int32) (x2 : Int32) (x3 : Int32) (I : MI) (L : ML) (res : (String ⊕ Int32) × MI × ML) (h : f_X11_quiet x1 x2 x3 I L = some res) : E g 47 (bS res.1) mX11_quiet 0 [(0, .ref 0), (1, .int x1), (2, .int x2), (3, .int x3)] [] (I, L) (rI res.1) (res.2.1, res.2.2) := by
  unfold f_X11_quiet at h
  refine E_aload_n (M := mX11_quiet) 1 rfl dX11_quiet_0 rfl 0 rfl ?_
  refine E_iload_n (M := mX11_quiet) 2 rfl dX11_quiet_1 rfl 1 rfl ?_
  replace h := Option.bind_eq_some_iff.mp h
  obtain ⟨w1, hw1, h⟩ := h
  replace h := xc_s h
  rcases h with ⟨ex2, hex2, rfl⟩ | ⟨v3, hv3, h⟩
  · have hc := (C_X11_needRoom (g := g) hw1)
    rw [hex2] at hc
    exact E_callVX (M := mX11_quiet) (As := [.int x1]) dX11_quiet_2 shc_0 ck_X11_114 cv_X11_needRoom rfl (by decide) (Nat.le_of_ble_eq_true rfl) hc rfl
  have hcv3 := (C_X11_needRoom (g := g) hw1)
  rw [hv3] at hcv3
  refine E_cV0 (M := mX11_quiet) (As := [.int x1]) 5 rfl dX11_quiet_2 shc_0 ck_X11_114 cv_X11_needRoom rfl (by decide) (Nat.le_of_ble_eq_true rfl) hcv3 rfl ?_
  refine E_iload_n (M := mX11_quiet) 6 rfl dX11_quiet_5 rfl 2 rfl ?_
  refine E_if_lt (M := mX11_quiet) 27 9 (by decide) rfl dX11_quiet_6 (fun c4 => ?_) (fun c4 => ?_)
  · rw [if_pos c4] at h
    refine E_sub (M := mX11_quiet) (lv' := [(0, .ref 0), (1, .int x1), (2, .int x2), (3, .int x3)]) [0, 1, 2, 3] rfl ?_
    exact S_X11_quiet_27 x1 x2 x3 w1.2.1 w1.2.2 _ h
  · rw [if_neg c4] at h
    refine E_iload_n (M := mX11_quiet) 10 rfl dX11_quiet_9 rfl 2 rfl ?_
    refine E_sipush (M := mX11_quiet) (v := 999) 13 rfl dX11_quiet_10 (by decide) ?_
    refine E_icmp_gt (M := mX11_quiet) 27 16 (by decide) rfl dX11_quiet_13 (fun c5 => ?_) (fun c5 => ?_)
    · rw [if_pos c5] at h
      refine E_sub (M := mX11_quiet) (lv' := [(0, .ref 0), (1, .int x1), (2, .int x2), (3, .int x3)]) [0, 1, 2, 3] rfl ?_
      exact S_X11_quiet_27 x1 x2 x3 w1.2.1 w1.2.2 _ h
    · rw [if_neg c5] at h
      refine E_iload_n (M := mX11_quiet) 17 rfl dX11_quiet_16 rfl 3 rfl ?_
      replace h := Option.bind_eq_some_iff.mp h
      obtain ⟨v6, hv6, h⟩ := h
      refine E_cS1 (M := mX11_quiet) (As := [.int x3]) 20 rfl dX11_quiet_17 ck_X11_318 ss_X11_areDays rfl (by decide) (Nat.le_of_ble_eq_true rfl) (C_X11_areDays (g := g) hv6) rfl ?_
      refine E_if_eqB (M := mX11_quiet) 27 23 (by decide) rfl dX11_quiet_20 (fun c7 => ?_) (fun c7 => ?_)
      · rw [if_neg (by rw [c7]; decide)] at h
        refine E_sub (M := mX11_quiet) (lv' := [(0, .ref 0), (1, .int x1), (2, .int x2), (3, .int x3)]) [0, 1, 2, 3] rfl ?_
        exact S_X11_quiet_27 x1 x2 x3 w1.2.1 w1.2.2 _ h
      · rw [if_pos c7] at h
        refine E_iconst (M := mX11_quiet) (v := 1) 24 rfl dX11_quiet_23 (by decide) ?_
        refine E_goto (M := mX11_quiet) 28 (by decide) dX11_quiet_24 ?_
        refine E_sub (M := mX11_quiet) (lv' := [(0, .ref 0), (1, .int x1), (2, .int x2), (3, .int x3)]) [0, 1, 2, 3] rfl ?_
        exact S_X11_quiet_28 x1 x2 x3 true w1.2.1 w1.2.2 _ h
theorem C_X11_quiet {g : Gx} {x1 : Int32} {x2 : Int32} {x3 : Int32} {I : MI} {L : ML} {res : (String ⊕ Int32) × MI × ML} (h : f_X11_quiet x1 x2 x3 I L = some res) : Ent g 47 (bS res.1) mX11_quiet [.ref 0, .int x1, .int x2, .int x3] (I, L) (rI res.1) (res.2.1, res.2.2) := Ent_of (by decide +kernel) (Nat.le_of_ble_eq_true rfl) (S_X11_quiet x1 x2 x3 I L _ h)
def f_X11_suspects_93 (k40 : Nat → Int32 → Int32 → MI → ML → Option ((String ⊕ Int32) × MI × ML)) (x2 : Nat) (x3 : Int32) (x4 : Int32) (I : MI) (L : ML) : Option ((String ⊕ Int32) × MI × ML) := k40 x2 x3 (x4 + 1) I L
set_option maxRecDepth 100000 in
theorem S_X11_suspects_93 {g : Gx} {k40 : Nat → Int32 → Int32 → MI → ML → Option ((String ⊕ Int32) × MI × ML)} (hk40 : ∀ (x2z : Nat) (x3z : Int32) (x4z : Int32) (hx2z : isN x2z) (I : MI) (L : ML) (res : (String ⊕ Int32) × MI × ML), k40 x2z x3z x4z I L = some res → E g 7 (bS res.1) mX11_suspects 40 [(0, .ref 0), (2, .ref x2z), (3, .int x3z), (4, .int x4z)] [] (I, L) (rI res.1) (res.2.1, res.2.2)) (x2 : Nat) (x3 : Int32) (x4 : Int32) (hx2 : isN x2) (I : MI) (L : ML) (res : (String ⊕ Int32) × MI × ML) (h : f_X11_suspects_93 k40 x2 x3 x4 I L = some res) : E g 7 (bS res.1) mX11_suspects 93 [(0, .ref 0), (2, .ref x2), (3, .int x3), (4, .int x4)] [] (I, L) (rI res.1) (res.2.1, res.2.2) := by
  unfold f_X11_suspects_93 at h
  refine E_iinc (M := mX11_suspects) (j := 3) (v := x4 + 1) (lv' := [(4, .int (x4 + 1)), (0, .ref 0), (2, .ref x2), (3, .int x3)]) 96 rfl dX11_suspects_93 rfl rfl (Nat.le_of_ble_eq_true rfl) rfl ?_
  refine E_goto (M := mX11_suspects) 40 (by decide) dX11_suspects_96 ?_
  refine E_sub (M := mX11_suspects) (lv' := [(0, .ref 0), (2, .ref x2), (3, .int x3), (4, .int (x4 + 1))]) [1, 2, 3, 0] rfl ?_
  exact hk40 x2 x3 (x4 + 1) hx2 I L _ h
def f_X11_suspects_77 (k40 : Nat → Int32 → Int32 → MI → ML → Option ((String ⊕ Int32) × MI × ML)) (x2 : Nat) (x3 : Int32) (x4 : Int32) (I : MI) (L : ML) : Option ((String ⊕ Int32) × MI × ML) := Option.bind (hsO (I 0 4)) fun v1 => Option.bind (f_X3_satSince v1 (I x2 7) x4 I L) fun v2 => f_X11_suspects_93 k40 x2 (x3 ||| v2) x4 I L
set_option maxRecDepth 100000 in
theorem S_X11_suspects_77 {g : Gx} {k40 : Nat → Int32 → Int32 → MI → ML → Option ((String ⊕ Int32) × MI × ML)} (hk40 : ∀ (x2z : Nat) (x3z : Int32) (x4z : Int32) (hx2z : isN x2z) (I : MI) (L : ML) (res : (String ⊕ Int32) × MI × ML), k40 x2z x3z x4z I L = some res → E g 7 (bS res.1) mX11_suspects 40 [(0, .ref 0), (2, .ref x2z), (3, .int x3z), (4, .int x4z)] [] (I, L) (rI res.1) (res.2.1, res.2.2)) (x2 : Nat) (x3 : Int32) (x4 : Int32) (hx2 : isN x2) (I : MI) (L : ML) (res : (String ⊕ Int32) × MI × ML) (h : f_X11_suspects_77 k40 x2 x3 x4 I L = some res) : E g 7 (bS res.1) mX11_suspects 77 [(0, .ref 0), (2, .ref x2), (3, .int x3), (4, .int x4)] [] (I, L) (rI res.1) (res.2.1, res.2.2) := by
  unfold f_X11_suspects_77 at h
  refine E_iload_n (M := mX11_suspects) 78 rfl dX11_suspects_77 rfl 2 rfl ?_
  refine E_aload_n (M := mX11_suspects) 79 rfl dX11_suspects_78 rfl 0 rfl ?_
  replace h := Option.bind_eq_some_iff.mp h
  obtain ⟨v1, hv1, h⟩ := h
  refine E_hs (M := mX11_suspects) 82 rfl dX11_suspects_79 shc_0 fl_X11_40 rfl hv1 ?_
  refine E_aload_n (M := mX11_suspects) 83 rfl dX11_suspects_82 rfl 1 rfl ?_
  refine E_gI (M := mX11_suspects) 86 rfl dX11_suspects_83 (sh_N hx2) fl_X11_188 rfl ?_
  refine E_iload (M := mX11_suspects) 88 rfl dX11_suspects_86 3 rfl ?_
  replace h := Option.bind_eq_some_iff.mp h
  obtain ⟨v2, hv2, h⟩ := h
  refine E_cV1 (M := mX11_suspects) (As := [.int (I x2 7), .int x4]) 91 rfl dX11_suspects_88 (sh_H (hsO_s hv1).1) ck_X11_336 cv_X3_satSince rfl (by decide) (Nat.le_of_ble_eq_true rfl) (C_X3_satSince (g := g) (hsO_s hv1).1 hv2) rfl ?_
  refine E_ior (M := mX11_suspects) 92 rfl dX11_suspects_91 ?_
  refine E_istore_n (M := mX11_suspects) (lv' := [(3, .int (x3 ||| v2)), (0, .ref 0), (2, .ref x2), (4, .int x4)]) 93 rfl dX11_suspects_92 rfl (Nat.le_of_ble_eq_true rfl) rfl ?_
  refine E_sub (M := mX11_suspects) (lv' := [(0, .ref 0), (2, .ref x2), (3, .int (x3 ||| v2)), (4, .int x4)]) [1, 2, 0, 3] rfl ?_
  exact S_X11_suspects_93 hk40 x2 (x3 ||| v2) x4 hx2 I L _ h
def f_X11_suspects_40 : Nat → Nat → Int32 → Int32 → MI → ML → Option ((String ⊕ Int32) × MI × ML)
  | 0, _, _, _, _, _ => none
  | n + 1, x2, x3, x4, I, L => Option.bind (hsO (I 0 4)) fun v1 => if (I v1 0) ≤ x4 then (some (.inr x3, I, L)) else (if x4 = (I x2 2) then (f_X11_suspects_77 (f_X11_suspects_40 n) x2 x3 x4 I L) else (Option.bind (hsO (I 0 4)) fun v4 => Option.bind (f_X3_hasDoor v4 x4 (I x2 2) I L) fun v5 => if v5 = true then (f_X11_suspects_77 (f_X11_suspects_40 n) x2 x3 x4 I L) else (f_X11_suspects_93 (f_X11_suspects_40 n) x2 x3 x4 I L)))
set_option maxRecDepth 100000 in
theorem S_X11_suspects_40 {g : Gx} : ∀ (n : Nat) (x2 : Nat) (x3 : Int32) (x4 : Int32) (hx2 : isN x2) (I : MI) (L : ML) (res : (String ⊕ Int32) × MI × ML), f_X11_suspects_40 n x2 x3 x4 I L = some res → E g 7 (bS res.1) mX11_suspects 40 [(0, .ref 0), (2, .ref x2), (3, .int x3), (4, .int x4)] [] (I, L) (rI res.1) (res.2.1, res.2.2) := by
  intro n
  induction n with
  | zero =>
    intros
    rename_i h
    cases h
  | succ n ih =>
    intro x2 x3 x4 hx2 I L res h
    rw [f_X11_suspects_40] at h
    refine E_iload (M := mX11_suspects) 42 rfl dX11_suspects_40 3 rfl ?_
    refine E_aload_n (M := mX11_suspects) 43 rfl dX11_suspects_42 rfl 0 rfl ?_
    replace h := Option.bind_eq_some_iff.mp h
    obtain ⟨v1, hv1, h⟩ := h
    refine E_hs (M := mX11_suspects) 46 rfl dX11_suspects_43 shc_0 fl_X11_40 rfl hv1 ?_
    refine E_gI (M := mX11_suspects) 49 rfl dX11_suspects_46 (sh_H (hsO_s hv1).1) fl_X11_329 rfl ?_
    refine E_icmp_ge (M := mX11_suspects) 99 52 (by decide) rfl dX11_suspects_49 (fun c2 => ?_) (fun c2 => ?_)
    · rw [if_pos c2] at h
      refine E_iload_n (M := mX11_suspects) 100 rfl dX11_suspects_99 rfl 2 rfl ?_
      cases h
      exact E_iret (M := mX11_suspects) rfl dX11_suspects_100
    · rw [if_neg c2] at h
      refine E_iload (M := mX11_suspects) 54 rfl dX11_suspects_52 3 rfl ?_
      refine E_aload_n (M := mX11_suspects) 55 rfl dX11_suspects_54 rfl 1 rfl ?_
      refine E_gI (M := mX11_suspects) 58 rfl dX11_suspects_55 (sh_N hx2) fl_X11_172 rfl ?_
      refine E_icmp_eq (M := mX11_suspects) 77 61 (by decide) rfl dX11_suspects_58 (fun c3 => ?_) (fun c3 => ?_)
      · rw [if_pos c3] at h
        refine E_sub (M := mX11_suspects) (lv' := [(0, .ref 0), (2, .ref x2), (3, .int x3), (4, .int x4)]) [0, 1, 2, 3] rfl ?_
        exact S_X11_suspects_77 ih x2 x3 x4 hx2 I L _ h
      · rw [if_neg c3] at h
        refine E_aload_n (M := mX11_suspects) 62 rfl dX11_suspects_61 rfl 0 rfl ?_
        replace h := Option.bind_eq_some_iff.mp h
        obtain ⟨v4, hv4, h⟩ := h
        refine E_hs (M := mX11_suspects) 65 rfl dX11_suspects_62 shc_0 fl_X11_40 rfl hv4 ?_
        refine E_iload (M := mX11_suspects) 67 rfl dX11_suspects_65 3 rfl ?_
        refine E_aload_n (M := mX11_suspects) 68 rfl dX11_suspects_67 rfl 1 rfl ?_
        refine E_gI (M := mX11_suspects) 71 rfl dX11_suspects_68 (sh_N hx2) fl_X11_172 rfl ?_
        replace h := Option.bind_eq_some_iff.mp h
        obtain ⟨v5, hv5, h⟩ := h
        refine E_cV1 (M := mX11_suspects) (As := [.int x4, .int (I x2 2)]) 74 rfl dX11_suspects_71 (sh_H (hsO_s hv4).1) ck_X11_332 cv_X3_hasDoor rfl (by decide) (Nat.le_of_ble_eq_true rfl) (C_X3_hasDoor (g := g) (hsO_s hv4).1 hv5) rfl ?_
        refine E_if_eqB (M := mX11_suspects) 93 77 (by decide) rfl dX11_suspects_74 (fun c6 => ?_) (fun c6 => ?_)
        · rw [if_neg (by rw [c6]; decide)] at h
          refine E_sub (M := mX11_suspects) (lv' := [(0, .ref 0), (2, .ref x2), (3, .int x3), (4, .int x4)]) [0, 1, 2, 3] rfl ?_
          exact S_X11_suspects_93 ih x2 x3 x4 hx2 I L _ h
        · rw [if_pos c6] at h
          refine E_sub (M := mX11_suspects) (lv' := [(0, .ref 0), (2, .ref x2), (3, .int x3), (4, .int x4)]) [0, 1, 2, 3] rfl ?_
          exact S_X11_suspects_77 ih x2 x3 x4 hx2 I L _ h
def f_X11_suspects (x1 : Int32) (I : MI) (L : ML) : Option ((String ⊕ Int32) × MI × ML) := Option.bind (f_X11_needNoise x1 I L) fun w1 => xc w1 fun _ => Option.bind (hsO (w1.2.1 0 4)) fun v4 => Option.bind (ldR (v4 + 33) 12 x1) fun v5 => if (w1.2.1 v5 7) = ((-1)) then (Option.bind (hsO (w1.2.1 0 4)) fun v7 => some (.inr ((1 <<< ((w1.2.1 v7 2) &&& 31)) - 1), w1.2.1, w1.2.2)) else (f_X11_suspects_40 FU v5 0 0 w1.2.1 w1.2.2)
set_option maxRecDepth 100000 in
theorem S_X11_suspects {g : Gx} (x1 : Int32) (I : MI) (L : ML) (res : (String ⊕ Int32) × MI × ML) (h : f_X11_suspects x1 I L = some res) : E g 7 (bS res.1) mX11_suspects 0 [(0, .ref 0), (1, .int x1)] [] (I, L) (rI res.1) (res.2.1, res.2.2) := by
  unfold f_X11_suspects at h
  refine E_aload_n (M := mX11_suspects) 1 rfl dX11_suspects_0 rfl 0 rfl ?_
  refine E_iload_n (M := mX11_suspects) 2 rfl dX11_suspects_1 rfl 1 rfl ?_
  replace h := Option.bind_eq_some_iff.mp h
  obtain ⟨w1, hw1, h⟩ := h
  replace h := xc_s h
  rcases h with ⟨ex2, hex2, rfl⟩ | ⟨v3, hv3, h⟩
  · have hc := (C_X11_needNoise (g := g) hw1)
    rw [hex2] at hc
    exact E_callVX (M := mX11_suspects) (As := [.int x1]) dX11_suspects_2 shc_0 ck_X11_160 cv_X11_needNoise rfl (by decide) (Nat.le_of_ble_eq_true rfl) hc rfl
  have hcv3 := (C_X11_needNoise (g := g) hw1)
  rw [hv3] at hcv3
  refine E_cV0 (M := mX11_suspects) (As := [.int x1]) 5 rfl dX11_suspects_2 shc_0 ck_X11_160 cv_X11_needNoise rfl (by decide) (Nat.le_of_ble_eq_true rfl) hcv3 rfl ?_
  refine E_aload_n (M := mX11_suspects) 6 rfl dX11_suspects_5 rfl 0 rfl ?_
  replace h := Option.bind_eq_some_iff.mp h
  obtain ⟨v4, hv4, h⟩ := h
  refine E_hs (M := mX11_suspects) 9 rfl dX11_suspects_6 shc_0 fl_X11_40 rfl hv4 ?_
  refine E_gR (M := mX11_suspects) (v4 + 4) 12 rfl dX11_suspects_9 (sh_H (hsO_s hv4).1) fl_X11_163 rfl (rt_H7 (hsO_s hv4).1) (H_lt (hsO_s hv4).1 4 (by decide)) ?_
  refine E_iload_n (M := mX11_suspects) 13 rfl dX11_suspects_12 rfl 1 rfl ?_
  replace h := Option.bind_eq_some_iff.mp h
  obtain ⟨v5, hv5, h⟩ := h
  refine E_ldN (M := mX11_suspects) (hsO_s hv4).1 14 rfl dX11_suspects_13 hv5 ?_
  refine E_astore_n (M := mX11_suspects) (lv' := [(2, .ref v5), (0, .ref 0), (1, .int x1)]) 15 rfl dX11_suspects_14 rfl (Nat.le_of_ble_eq_true rfl) rfl ?_
  refine E_aload_n (M := mX11_suspects) 16 rfl dX11_suspects_15 rfl 0 rfl ?_
  refine E_gI (M := mX11_suspects) 19 rfl dX11_suspects_16 (sh_N (isN_ld (hsO_s hv4).1 hv5)) fl_X11_188 rfl ?_
  refine E_iconst (M := mX11_suspects) (v := (-1)) 20 rfl dX11_suspects_19 (by decide) ?_
  refine E_icmp_ne (M := mX11_suspects) 35 23 (by decide) rfl dX11_suspects_20 (fun c6 => ?_) (fun c6 => ?_)
  · rw [if_neg c6] at h
    refine E_iconst (M := mX11_suspects) (v := 0) 36 rfl dX11_suspects_35 (by decide) ?_
    refine E_istore_n (M := mX11_suspects) (lv' := [(3, .int 0), (2, .ref v5), (0, .ref 0), (1, .int x1)]) 37 rfl dX11_suspects_36 rfl (Nat.le_of_ble_eq_true rfl) rfl ?_
    refine E_iconst (M := mX11_suspects) (v := 0) 38 rfl dX11_suspects_37 (by decide) ?_
    refine E_istore (M := mX11_suspects) (lv' := [(4, .int 0), (3, .int 0), (2, .ref v5), (0, .ref 0), (1, .int x1)]) 40 rfl dX11_suspects_38 (Nat.le_of_ble_eq_true rfl) rfl ?_
    refine E_sub (M := mX11_suspects) (lv' := [(0, .ref 0), (2, .ref v5), (3, .int 0), (4, .int 0)]) [3, 2, 1, 0] rfl ?_
    exact S_X11_suspects_40 FU v5 0 0 (isN_ld (hsO_s hv4).1 hv5) w1.2.1 w1.2.2 _ h
  · rw [if_pos c6] at h
    refine E_iconst (M := mX11_suspects) (v := 1) 24 rfl dX11_suspects_23 (by decide) ?_
    refine E_aload_n (M := mX11_suspects) 25 rfl dX11_suspects_24 rfl 1 rfl ?_
    replace h := Option.bind_eq_some_iff.mp h
    obtain ⟨v7, hv7, h⟩ := h
    refine E_hs (M := mX11_suspects) 28 rfl dX11_suspects_25 shc_0 fl_X11_40 rfl hv7 ?_
    refine E_gI (M := mX11_suspects) 31 rfl dX11_suspects_28 (sh_H (hsO_s hv7).1) fl_X11_264 rfl ?_
    refine E_ishl (M := mX11_suspects) 32 rfl dX11_suspects_31 ?_
    refine E_iconst (M := mX11_suspects) (v := 1) 33 rfl dX11_suspects_32 (by decide) ?_
    refine E_isub (M := mX11_suspects) 34 rfl dX11_suspects_33 ?_
    cases h
    exact E_iret (M := mX11_suspects) rfl dX11_suspects_34
theorem C_X11_suspects {g : Gx} {x1 : Int32} {I : MI} {L : ML} {res : (String ⊕ Int32) × MI × ML} (h : f_X11_suspects x1 I L = some res) : Ent g 7 (bS res.1) mX11_suspects [.ref 0, .int x1] (I, L) (rI res.1) (res.2.1, res.2.2) := Ent_of (by decide +kernel) (Nat.le_of_ble_eq_true rfl) (S_X11_suspects x1 I L _ h)
def f_X11_isGhost_62 (I : MI) (L : ML) : Option (Bool) := some false
set_option maxRecDepth 100000 in
theorem S_X11_isGhost_62 {g : Gx} (I : MI) (L : ML) (res : Bool) (h : f_X11_isGhost_62 I L = some res) : E g 6 0 mX11_isGhost 62 [] [] (I, L) (.inl (some (.int (bI res)))) (I, L) := by
  unfold f_X11_isGhost_62 at h
  refine E_iconst (M := mX11_isGhost) (v := 0) 63 rfl dX11_isGhost_62 (by decide) ?_
  cases h
  exact E_zret (M := mX11_isGhost) (x := false) rfl dX11_isGhost_63
def f_X11_isGhost_3 : Nat → Int32 → Int32 → Int32 → Int32 → MI → ML → Option (Bool)
  | 0, _, _, _, _, _, _ => none
  | n + 1, x1, x2, x3, x4, I, L => if x1 ≤ (x4 + 1) then (some true) else (Option.bind (f_X8_byteAt x4 I L) fun v2 => Option.bind (hsO (I 0 4)) fun v3 => Option.bind (f_X3_hasRoom v3 (v2 - 97) I L) fun v4 => if v4 = true then (Option.bind (hsO (I 0 4)) fun v6 => Option.bind (f_X3_reach v6 x2 x3 (v2 - 97) I L) fun v7 => Option.bind (f_X8_byteAt (x4 + 1) I L) fun v8 => if v7 = v8 then (f_X11_isGhost_3 n x1 x2 x3 (x4 + 2) I L) else (f_X11_isGhost_62 I L)) else (f_X11_isGhost_62 I L))
set_option maxRecDepth 100000 in
theorem S_X11_isGhost_3 {g : Gx} : ∀ (n : Nat) (x1 : Int32) (x2 : Int32) (x3 : Int32) (x4 : Int32) (I : MI) (L : ML) (res : Bool), f_X11_isGhost_3 n x1 x2 x3 x4 I L = some res → E g 6 0 mX11_isGhost 3 [(0, .ref 0), (1, .int x1), (2, .int x2), (3, .int x3), (4, .int x4)] [] (I, L) (.inl (some (.int (bI res)))) (I, L) := by
  intro n
  induction n with
  | zero =>
    intros
    rename_i h
    cases h
  | succ n ih =>
    intro x1 x2 x3 x4 I L res h
    rw [f_X11_isGhost_3] at h
    refine E_iload (M := mX11_isGhost) 5 rfl dX11_isGhost_3 4 rfl ?_
    refine E_iconst (M := mX11_isGhost) (v := 1) 6 rfl dX11_isGhost_5 (by decide) ?_
    refine E_iadd (M := mX11_isGhost) 7 rfl dX11_isGhost_6 ?_
    refine E_iload_n (M := mX11_isGhost) 8 rfl dX11_isGhost_7 rfl 1 rfl ?_
    refine E_icmp_ge (M := mX11_isGhost) 70 11 (by decide) rfl dX11_isGhost_8 (fun c1 => ?_) (fun c1 => ?_)
    · rw [if_pos c1] at h
      refine E_iconst (M := mX11_isGhost) (v := 1) 71 rfl dX11_isGhost_70 (by decide) ?_
      cases h
      exact E_zret (M := mX11_isGhost) (x := true) rfl dX11_isGhost_71
    · rw [if_neg c1] at h
      refine E_aload_n (M := mX11_isGhost) 12 rfl dX11_isGhost_11 rfl 0 rfl ?_
      refine E_gR (M := mX11_isGhost) 1 15 rfl dX11_isGhost_12 shc_0 fl_X11_10 rfl (by decide) (by decide) ?_
      refine E_iload (M := mX11_isGhost) 17 rfl dX11_isGhost_15 4 rfl ?_
      replace h := Option.bind_eq_some_iff.mp h
      obtain ⟨v2, hv2, h⟩ := h
      refine E_cV1 (M := mX11_isGhost) (As := [.int x4]) 20 rfl dX11_isGhost_17 shc_1 ck_X11_351 cv_X8_byteAt rfl (by decide) (Nat.le_of_ble_eq_true rfl) (C_X8_byteAt (g := g) hv2) rfl ?_
      refine E_bipush (M := mX11_isGhost) (v := 97) 22 rfl dX11_isGhost_20 (by decide) ?_
      refine E_isub (M := mX11_isGhost) 23 rfl dX11_isGhost_22 ?_
      refine E_istore (M := mX11_isGhost) (lv' := [(5, .int (v2 - 97)), (0, .ref 0), (1, .int x1), (2, .int x2), (3, .int x3), (4, .int x4)]) 25 rfl dX11_isGhost_23 (Nat.le_of_ble_eq_true rfl) rfl ?_
      refine E_aload_n (M := mX11_isGhost) 26 rfl dX11_isGhost_25 rfl 1 rfl ?_
      replace h := Option.bind_eq_some_iff.mp h
      obtain ⟨v3, hv3, h⟩ := h
      refine E_hs (M := mX11_isGhost) 29 rfl dX11_isGhost_26 shc_0 fl_X11_40 rfl hv3 ?_
      refine E_iload (M := mX11_isGhost) 31 rfl dX11_isGhost_29 0 rfl ?_
      replace h := Option.bind_eq_some_iff.mp h
      obtain ⟨v4, hv4, h⟩ := h
      refine E_cV1 (M := mX11_isGhost) (As := [.int (v2 - 97)]) 34 rfl dX11_isGhost_31 (sh_H (hsO_s hv3).1) ck_X11_354 cv_X3_hasRoom rfl (by decide) (Nat.le_of_ble_eq_true rfl) (C_X3_hasRoom (g := g) (hsO_s hv3).1 hv4) rfl ?_
      refine E_if_eqB (M := mX11_isGhost) 62 37 (by decide) rfl dX11_isGhost_34 (fun c5 => ?_) (fun c5 => ?_)
      · rw [if_neg (by rw [c5]; decide)] at h
        refine E_sub (M := mX11_isGhost) (lv' := []) [] rfl ?_
        exact S_X11_isGhost_62 I L _ h
      · rw [if_pos c5] at h
        refine E_aload_n (M := mX11_isGhost) 38 rfl dX11_isGhost_37 rfl 1 rfl ?_
        replace h := Option.bind_eq_some_iff.mp h
        obtain ⟨v6, hv6, h⟩ := h
        refine E_hs (M := mX11_isGhost) 41 rfl dX11_isGhost_38 shc_0 fl_X11_40 rfl hv6 ?_
        refine E_iload_n (M := mX11_isGhost) 42 rfl dX11_isGhost_41 rfl 3 rfl ?_
        refine E_iload_n (M := mX11_isGhost) 43 rfl dX11_isGhost_42 rfl 4 rfl ?_
        refine E_iload (M := mX11_isGhost) 45 rfl dX11_isGhost_43 0 rfl ?_
        replace h := Option.bind_eq_some_iff.mp h
        obtain ⟨v7, hv7, h⟩ := h
        refine E_cV1 (M := mX11_isGhost) (As := [.int x2, .int x3, .int (v2 - 97)]) 48 rfl dX11_isGhost_45 (sh_H (hsO_s hv6).1) ck_X11_357 cv_X3_reach rfl (by decide) (Nat.le_of_ble_eq_true rfl) (C_X3_reach (g := g) (hsO_s hv6).1 hv7) rfl ?_
        refine E_aload_n (M := mX11_isGhost) 49 rfl dX11_isGhost_48 rfl 1 rfl ?_
        refine E_gR (M := mX11_isGhost) 1 52 rfl dX11_isGhost_49 shc_0 fl_X11_10 rfl (by decide) (by decide) ?_
        refine E_iload (M := mX11_isGhost) 54 rfl dX11_isGhost_52 5 rfl ?_
        refine E_iconst (M := mX11_isGhost) (v := 1) 55 rfl dX11_isGhost_54 (by decide) ?_
        refine E_iadd (M := mX11_isGhost) 56 rfl dX11_isGhost_55 ?_
        replace h := Option.bind_eq_some_iff.mp h
        obtain ⟨v8, hv8, h⟩ := h
        refine E_cV1 (M := mX11_isGhost) (As := [.int (x4 + 1)]) 59 rfl dX11_isGhost_56 shc_1 ck_X11_351 cv_X8_byteAt rfl (by decide) (Nat.le_of_ble_eq_true rfl) (C_X8_byteAt (g := g) hv8) rfl ?_
        refine E_icmp_eq (M := mX11_isGhost) 64 62 (by decide) rfl dX11_isGhost_59 (fun c9 => ?_) (fun c9 => ?_)
        · rw [if_pos c9] at h
          refine E_iinc (M := mX11_isGhost) (j := 5) (v := x4 + 2) (lv' := [(4, .int (x4 + 2)), (5, .int (v2 - 97)), (0, .ref 0), (1, .int x1), (2, .int x2), (3, .int x3)]) 67 rfl dX11_isGhost_64 rfl rfl (Nat.le_of_ble_eq_true rfl) rfl ?_
          refine E_goto (M := mX11_isGhost) 3 (by decide) dX11_isGhost_67 ?_
          refine E_sub (M := mX11_isGhost) (lv' := [(0, .ref 0), (1, .int x1), (2, .int x2), (3, .int x3), (4, .int (x4 + 2))]) [2, 3, 4, 5, 0] rfl ?_
          exact ih x1 x2 x3 (x4 + 2) I L _ h
        · rw [if_neg c9] at h
          refine E_sub (M := mX11_isGhost) (lv' := []) [] rfl ?_
          exact S_X11_isGhost_62 I L _ h
def f_X11_isGhost (x1 : Int32) (x2 : Int32) (x3 : Int32) (I : MI) (L : ML) : Option (Bool) := f_X11_isGhost_3 FU x1 x2 x3 0 I L
set_option maxRecDepth 100000 in
theorem S_X11_isGhost {g : Gx} (x1 : Int32) (x2 : Int32) (x3 : Int32) (I : MI) (L : ML) (res : Bool) (h : f_X11_isGhost x1 x2 x3 I L = some res) : E g 6 0 mX11_isGhost 0 [(0, .ref 0), (1, .int x1), (2, .int x2), (3, .int x3)] [] (I, L) (.inl (some (.int (bI res)))) (I, L) := by
  unfold f_X11_isGhost at h
  refine E_iconst (M := mX11_isGhost) (v := 0) 1 rfl dX11_isGhost_0 (by decide) ?_
  refine E_istore (M := mX11_isGhost) (lv' := [(4, .int 0), (0, .ref 0), (1, .int x1), (2, .int x2), (3, .int x3)]) 3 rfl dX11_isGhost_1 (Nat.le_of_ble_eq_true rfl) rfl ?_
  refine E_sub (M := mX11_isGhost) (lv' := [(0, .ref 0), (1, .int x1), (2, .int x2), (3, .int x3), (4, .int 0)]) [1, 2, 3, 4, 0] rfl ?_
  exact S_X11_isGhost_3 FU x1 x2 x3 0 I L _ h
theorem C_X11_isGhost {g : Gx} {x1 : Int32} {x2 : Int32} {x3 : Int32} {I : MI} {L : ML} {res : Bool} (h : f_X11_isGhost x1 x2 x3 I L = some res) : Ent g 6 0 mX11_isGhost [.ref 0, .int x1, .int x2, .int x3] (I, L) (.inl (some (.int (bI res)))) (I, L) := Ent_of (by decide +kernel) (Nat.le_of_ble_eq_true rfl) (S_X11_isGhost x1 x2 x3 I L _ h)
def f_X11_tellsGhost_66 (I : MI) (L : ML) : Option (Bool) := some false
set_option maxRecDepth 100000 in
theorem S_X11_tellsGhost_66 {g : Gx} (I : MI) (L : ML) (res : Bool) (h : f_X11_tellsGhost_66 I L = some res) : E g 2 0 mX11_tellsGhost 66 [] [] (I, L) (.inl (some (.int (bI res)))) (I, L) := by
  unfold f_X11_tellsGhost_66 at h
  refine E_iconst (M := mX11_tellsGhost) (v := 0) 67 rfl dX11_tellsGhost_66 (by decide) ?_
  cases h
  exact E_zret (M := mX11_tellsGhost) (x := false) rfl dX11_tellsGhost_67
def f_X11_tellsGhost_21 : Nat → Int32 → Int32 → MI → ML → Option (Bool)
  | 0, _, _, _, _ => none
  | n + 1, x1, x2, I, L => if x1 ≤ (x2 + 1) then (some true) else (Option.bind (f_X8_byteAt x2 I L) fun v2 => Option.bind (hsO (I 0 4)) fun v3 => Option.bind (f_X3_hasRoom v3 (v2 - 97) I L) fun v4 => if v4 = true then (Option.bind (f_X8_byteAt (x2 + 1) I L) fun v6 => if v6 ≤ 99 then (f_X11_tellsGhost_21 n x1 (x2 + 2) I L) else (f_X11_tellsGhost_66 I L)) else (f_X11_tellsGhost_66 I L))
set_option maxRecDepth 100000 in
theorem S_X11_tellsGhost_21 {g : Gx} : ∀ (n : Nat) (x1 : Int32) (x2 : Int32) (I : MI) (L : ML) (res : Bool), f_X11_tellsGhost_21 n x1 x2 I L = some res → E g 2 0 mX11_tellsGhost 21 [(0, .ref 0), (1, .int x1), (2, .int x2)] [] (I, L) (.inl (some (.int (bI res)))) (I, L) := by
  intro n
  induction n with
  | zero =>
    intros
    rename_i h
    cases h
  | succ n ih =>
    intro x1 x2 I L res h
    rw [f_X11_tellsGhost_21] at h
    refine E_iload_n (M := mX11_tellsGhost) 22 rfl dX11_tellsGhost_21 rfl 2 rfl ?_
    refine E_iconst (M := mX11_tellsGhost) (v := 1) 23 rfl dX11_tellsGhost_22 (by decide) ?_
    refine E_iadd (M := mX11_tellsGhost) 24 rfl dX11_tellsGhost_23 ?_
    refine E_iload_n (M := mX11_tellsGhost) 25 rfl dX11_tellsGhost_24 rfl 1 rfl ?_
    refine E_icmp_ge (M := mX11_tellsGhost) 74 28 (by decide) rfl dX11_tellsGhost_25 (fun c1 => ?_) (fun c1 => ?_)
    · rw [if_pos c1] at h
      refine E_iconst (M := mX11_tellsGhost) (v := 1) 75 rfl dX11_tellsGhost_74 (by decide) ?_
      cases h
      exact E_zret (M := mX11_tellsGhost) (x := true) rfl dX11_tellsGhost_75
    · rw [if_neg c1] at h
      refine E_aload_n (M := mX11_tellsGhost) 29 rfl dX11_tellsGhost_28 rfl 0 rfl ?_
      refine E_gR (M := mX11_tellsGhost) 1 32 rfl dX11_tellsGhost_29 shc_0 fl_X11_10 rfl (by decide) (by decide) ?_
      refine E_iload_n (M := mX11_tellsGhost) 33 rfl dX11_tellsGhost_32 rfl 2 rfl ?_
      replace h := Option.bind_eq_some_iff.mp h
      obtain ⟨v2, hv2, h⟩ := h
      refine E_cV1 (M := mX11_tellsGhost) (As := [.int x2]) 36 rfl dX11_tellsGhost_33 shc_1 ck_X11_351 cv_X8_byteAt rfl (by decide) (Nat.le_of_ble_eq_true rfl) (C_X8_byteAt (g := g) hv2) rfl ?_
      refine E_bipush (M := mX11_tellsGhost) (v := 97) 38 rfl dX11_tellsGhost_36 (by decide) ?_
      refine E_isub (M := mX11_tellsGhost) 39 rfl dX11_tellsGhost_38 ?_
      refine E_istore_n (M := mX11_tellsGhost) (lv' := [(3, .int (v2 - 97)), (0, .ref 0), (1, .int x1), (2, .int x2)]) 40 rfl dX11_tellsGhost_39 rfl (Nat.le_of_ble_eq_true rfl) rfl ?_
      refine E_aload_n (M := mX11_tellsGhost) 41 rfl dX11_tellsGhost_40 rfl 1 rfl ?_
      replace h := Option.bind_eq_some_iff.mp h
      obtain ⟨v3, hv3, h⟩ := h
      refine E_hs (M := mX11_tellsGhost) 44 rfl dX11_tellsGhost_41 shc_0 fl_X11_40 rfl hv3 ?_
      refine E_iload_n (M := mX11_tellsGhost) 45 rfl dX11_tellsGhost_44 rfl 0 rfl ?_
      replace h := Option.bind_eq_some_iff.mp h
      obtain ⟨v4, hv4, h⟩ := h
      refine E_cV1 (M := mX11_tellsGhost) (As := [.int (v2 - 97)]) 48 rfl dX11_tellsGhost_45 (sh_H (hsO_s hv3).1) ck_X11_354 cv_X3_hasRoom rfl (by decide) (Nat.le_of_ble_eq_true rfl) (C_X3_hasRoom (g := g) (hsO_s hv3).1 hv4) rfl ?_
      refine E_if_eqB (M := mX11_tellsGhost) 66 51 (by decide) rfl dX11_tellsGhost_48 (fun c5 => ?_) (fun c5 => ?_)
      · rw [if_neg (by rw [c5]; decide)] at h
        refine E_sub (M := mX11_tellsGhost) (lv' := []) [] rfl ?_
        exact S_X11_tellsGhost_66 I L _ h
      · rw [if_pos c5] at h
        refine E_aload_n (M := mX11_tellsGhost) 52 rfl dX11_tellsGhost_51 rfl 1 rfl ?_
        refine E_gR (M := mX11_tellsGhost) 1 55 rfl dX11_tellsGhost_52 shc_0 fl_X11_10 rfl (by decide) (by decide) ?_
        refine E_iload_n (M := mX11_tellsGhost) 56 rfl dX11_tellsGhost_55 rfl 3 rfl ?_
        refine E_iconst (M := mX11_tellsGhost) (v := 1) 57 rfl dX11_tellsGhost_56 (by decide) ?_
        refine E_iadd (M := mX11_tellsGhost) 58 rfl dX11_tellsGhost_57 ?_
        replace h := Option.bind_eq_some_iff.mp h
        obtain ⟨v6, hv6, h⟩ := h
        refine E_cV1 (M := mX11_tellsGhost) (As := [.int (x2 + 1)]) 61 rfl dX11_tellsGhost_58 shc_1 ck_X11_351 cv_X8_byteAt rfl (by decide) (Nat.le_of_ble_eq_true rfl) (C_X8_byteAt (g := g) hv6) rfl ?_
        refine E_bipush (M := mX11_tellsGhost) (v := 99) 63 rfl dX11_tellsGhost_61 (by decide) ?_
        refine E_icmp_le (M := mX11_tellsGhost) 68 66 (by decide) rfl dX11_tellsGhost_63 (fun c7 => ?_) (fun c7 => ?_)
        · rw [if_pos c7] at h
          refine E_iinc (M := mX11_tellsGhost) (j := 3) (v := x2 + 2) (lv' := [(2, .int (x2 + 2)), (3, .int (v2 - 97)), (0, .ref 0), (1, .int x1)]) 71 rfl dX11_tellsGhost_68 rfl rfl (Nat.le_of_ble_eq_true rfl) rfl ?_
          refine E_goto (M := mX11_tellsGhost) 21 (by decide) dX11_tellsGhost_71 ?_
          refine E_sub (M := mX11_tellsGhost) (lv' := [(0, .ref 0), (1, .int x1), (2, .int (x2 + 2))]) [2, 3, 0] rfl ?_
          exact ih x1 (x2 + 2) I L _ h
        · rw [if_neg c7] at h
          refine E_sub (M := mX11_tellsGhost) (lv' := []) [] rfl ?_
          exact S_X11_tellsGhost_66 I L _ h
def f_X11_tellsGhost_17 (I : MI) (L : ML) : Option (Bool) := some false
set_option maxRecDepth 100000 in
theorem S_X11_tellsGhost_17 {g : Gx} (I : MI) (L : ML) (res : Bool) (h : f_X11_tellsGhost_17 I L = some res) : E g 2 0 mX11_tellsGhost 17 [] [] (I, L) (.inl (some (.int (bI res)))) (I, L) := by
  unfold f_X11_tellsGhost_17 at h
  refine E_iconst (M := mX11_tellsGhost) (v := 0) 18 rfl dX11_tellsGhost_17 (by decide) ?_
  cases h
  exact E_zret (M := mX11_tellsGhost) (x := false) rfl dX11_tellsGhost_18
def f_X11_tellsGhost (x1 : Int32) (I : MI) (L : ML) : Option (Bool) := if x1 < 2 then (f_X11_tellsGhost_17 I L) else (if 12 < x1 then (f_X11_tellsGhost_17 I L) else (if (x1 - x1 / 2 * 2) = 0 then (f_X11_tellsGhost_21 FU x1 0 I L) else (f_X11_tellsGhost_17 I L)))
set_option maxRecDepth 100000 in
theorem S_X11_tellsGhost {g : Gx} (x1 : Int32) (I : MI) (L : ML) (res : Bool) (h : f_X11_tellsGhost x1 I L = some res) : E g 2 0 mX11_tellsGhost 0 [(0, .ref 0), (1, .int x1)] [] (I, L) (.inl (some (.int (bI res)))) (I, L) := by
  unfold f_X11_tellsGhost at h
  refine E_iload_n (M := mX11_tellsGhost) 1 rfl dX11_tellsGhost_0 rfl 1 rfl ?_
  refine E_iconst (M := mX11_tellsGhost) (v := 2) 2 rfl dX11_tellsGhost_1 (by decide) ?_
  refine E_icmp_lt (M := mX11_tellsGhost) 17 5 (by decide) rfl dX11_tellsGhost_2 (fun c1 => ?_) (fun c1 => ?_)
  · rw [if_pos c1] at h
    refine E_sub (M := mX11_tellsGhost) (lv' := []) [] rfl ?_
    exact S_X11_tellsGhost_17 I L _ h
  · rw [if_neg c1] at h
    refine E_iload_n (M := mX11_tellsGhost) 6 rfl dX11_tellsGhost_5 rfl 1 rfl ?_
    refine E_bipush (M := mX11_tellsGhost) (v := 12) 8 rfl dX11_tellsGhost_6 (by decide) ?_
    refine E_icmp_gt (M := mX11_tellsGhost) 17 11 (by decide) rfl dX11_tellsGhost_8 (fun c2 => ?_) (fun c2 => ?_)
    · rw [if_pos c2] at h
      refine E_sub (M := mX11_tellsGhost) (lv' := []) [] rfl ?_
      exact S_X11_tellsGhost_17 I L _ h
    · rw [if_neg c2] at h
      refine E_iload_n (M := mX11_tellsGhost) 12 rfl dX11_tellsGhost_11 rfl 1 rfl ?_
      refine E_iconst (M := mX11_tellsGhost) (v := 2) 13 rfl dX11_tellsGhost_12 (by decide) ?_
      refine E_irem (M := mX11_tellsGhost) 14 rfl dX11_tellsGhost_13 (by decide) ?_
      refine E_if_eq (M := mX11_tellsGhost) 19 17 (by decide) rfl dX11_tellsGhost_14 (fun c4 => ?_) (fun c4 => ?_)
      · rw [if_pos c4] at h
        refine E_iconst (M := mX11_tellsGhost) (v := 0) 20 rfl dX11_tellsGhost_19 (by decide) ?_
        refine E_istore_n (M := mX11_tellsGhost) (lv' := [(2, .int 0), (0, .ref 0), (1, .int x1)]) 21 rfl dX11_tellsGhost_20 rfl (Nat.le_of_ble_eq_true rfl) rfl ?_
        refine E_sub (M := mX11_tellsGhost) (lv' := [(0, .ref 0), (1, .int x1), (2, .int 0)]) [1, 2, 0] rfl ?_
        exact S_X11_tellsGhost_21 FU x1 0 I L _ h
      · rw [if_neg c4] at h
        refine E_sub (M := mX11_tellsGhost) (lv' := []) [] rfl ?_
        exact S_X11_tellsGhost_17 I L _ h
theorem C_X11_tellsGhost {g : Gx} {x1 : Int32} {I : MI} {L : ML} {res : Bool} (h : f_X11_tellsGhost x1 I L = some res) : Ent g 2 0 mX11_tellsGhost [.ref 0, .int x1] (I, L) (.inl (some (.int (bI res)))) (I, L) := Ent_of (by decide +kernel) (Nat.le_of_ble_eq_true rfl) (S_X11_tellsGhost x1 I L _ h)
def f_X11_ghost_142 (y0 : Int32) (I : MI) (L : ML) : Option ((String ⊕ Int32) × MI × ML) := some (.inr y0, I, L)
set_option maxRecDepth 100000 in
theorem S_X11_ghost_142 {g : Gx} (y0 : Int32) (I : MI) (L : ML) (res : (String ⊕ Int32) × MI × ML) (h : f_X11_ghost_142 y0 I L = some res) : E g 7 (bS res.1) mX11_ghost 142 [] [.int y0] (I, L) (rI res.1) (res.2.1, res.2.2) := by
  unfold f_X11_ghost_142 at h
  cases h
  exact E_iret (M := mX11_ghost) rfl dX11_ghost_142
def f_X11_ghost_110 (k62 : Int32 → Int32 → Int32 → Int32 → Int32 → Int32 → Int32 → MI → ML → Option ((String ⊕ Int32) × MI × ML)) (x1 : Int32) (x2 : Int32) (x3 : Int32) (x4 : Int32) (x5 : Int32) (x6 : Int32) (x7 : Int32) (I : MI) (L : ML) : Option ((String ⊕ Int32) × MI × ML) := k62 x1 x2 x3 x4 x5 x6 (x7 + 1) I L
set_option maxRecDepth 100000 in
theorem S_X11_ghost_110 {g : Gx} {k62 : Int32 → Int32 → Int32 → Int32 → Int32 → Int32 → Int32 → MI → ML → Option ((String ⊕ Int32) × MI × ML)} (hk62 : ∀ (x1z : Int32) (x2z : Int32) (x3z : Int32) (x4z : Int32) (x5z : Int32) (x6z : Int32) (x7z : Int32) (I : MI) (L : ML) (res : (String ⊕ Int32) × MI × ML), k62 x1z x2z x3z x4z x5z x6z x7z I L = some res → E g 7 (bS res.1) mX11_ghost 62 [(0, .ref 0), (1, .int x1z), (2, .int x2z), (3, .int x3z), (4, .int x4z), (5, .int x5z), (6, .int x6z), (7, .int x7z)] [] (I, L) (rI res.1) (res.2.1, res.2.2)) (x1 : Int32) (x2 : Int32) (x3 : Int32) (x4 : Int32) (x5 : Int32) (x6 : Int32) (x7 : Int32) (I : MI) (L : ML) (res : (String ⊕ Int32) × MI × ML) (h : f_X11_ghost_110 k62 x1 x2 x3 x4 x5 x6 x7 I L = some res) : E g 7 (bS res.1) mX11_ghost 110 [(0, .ref 0), (1, .int x1), (2, .int x2), (3, .int x3), (4, .int x4), (5, .int x5), (6, .int x6), (7, .int x7)] [] (I, L) (rI res.1) (res.2.1, res.2.2) := by
  unfold f_X11_ghost_110 at h
  refine E_iinc (M := mX11_ghost) (j := 7) (v := x7 + 1) (lv' := [(7, .int (x7 + 1)), (0, .ref 0), (1, .int x1), (2, .int x2), (3, .int x3), (4, .int x4), (5, .int x5), (6, .int x6)]) 113 rfl dX11_ghost_110 rfl rfl (Nat.le_of_ble_eq_true rfl) rfl ?_
  refine E_goto (M := mX11_ghost) 62 (by decide) dX11_ghost_113 ?_
  refine E_sub (M := mX11_ghost) (lv' := [(0, .ref 0), (1, .int x1), (2, .int x2), (3, .int x3), (4, .int x4), (5, .int x5), (6, .int x6), (7, .int (x7 + 1))]) [1, 2, 3, 4, 5, 6, 7, 0] rfl ?_
  exact hk62 x1 x2 x3 x4 x5 x6 (x7 + 1) I L _ h
def f_X11_ghost_105 (k62 : Int32 → Int32 → Int32 → Int32 → Int32 → Int32 → Int32 → MI → ML → Option ((String ⊕ Int32) × MI × ML)) (x1 : Int32) (x2 : Int32) (x3 : Int32) (x4 : Int32) (x6 : Int32) (x7 : Int32) (y0 : Int32) (I : MI) (L : ML) : Option ((String ⊕ Int32) × MI × ML) := f_X11_ghost_110 k62 x1 x2 (x3 + 1) x4 y0 x6 x7 I L
set_option maxRecDepth 100000 in
theorem S_X11_ghost_105 {g : Gx} {k62 : Int32 → Int32 → Int32 → Int32 → Int32 → Int32 → Int32 → MI → ML → Option ((String ⊕ Int32) × MI × ML)} (hk62 : ∀ (x1z : Int32) (x2z : Int32) (x3z : Int32) (x4z : Int32) (x5z : Int32) (x6z : Int32) (x7z : Int32) (I : MI) (L : ML) (res : (String ⊕ Int32) × MI × ML), k62 x1z x2z x3z x4z x5z x6z x7z I L = some res → E g 7 (bS res.1) mX11_ghost 62 [(0, .ref 0), (1, .int x1z), (2, .int x2z), (3, .int x3z), (4, .int x4z), (5, .int x5z), (6, .int x6z), (7, .int x7z)] [] (I, L) (rI res.1) (res.2.1, res.2.2)) (x1 : Int32) (x2 : Int32) (x3 : Int32) (x4 : Int32) (x6 : Int32) (x7 : Int32) (y0 : Int32) (I : MI) (L : ML) (res : (String ⊕ Int32) × MI × ML) (h : f_X11_ghost_105 k62 x1 x2 x3 x4 x6 x7 y0 I L = some res) : E g 7 (bS res.1) mX11_ghost 105 [(0, .ref 0), (1, .int x1), (2, .int x2), (3, .int x3), (4, .int x4), (6, .int x6), (7, .int x7)] [.int y0] (I, L) (rI res.1) (res.2.1, res.2.2) := by
  unfold f_X11_ghost_105 at h
  refine E_istore (M := mX11_ghost) (lv' := [(5, .int y0), (0, .ref 0), (1, .int x1), (2, .int x2), (3, .int x3), (4, .int x4), (6, .int x6), (7, .int x7)]) 107 rfl dX11_ghost_105 (Nat.le_of_ble_eq_true rfl) rfl ?_
  refine E_iinc (M := mX11_ghost) (j := 4) (v := x3 + 1) (lv' := [(3, .int (x3 + 1)), (5, .int y0), (0, .ref 0), (1, .int x1), (2, .int x2), (4, .int x4), (6, .int x6), (7, .int x7)]) 110 rfl dX11_ghost_107 rfl rfl (Nat.le_of_ble_eq_true rfl) rfl ?_
  refine E_sub (M := mX11_ghost) (lv' := [(0, .ref 0), (1, .int x1), (2, .int x2), (3, .int (x3 + 1)), (4, .int x4), (5, .int y0), (6, .int x6), (7, .int x7)]) [2, 3, 4, 0, 5, 1, 6, 7] rfl ?_
  exact S_X11_ghost_110 hk62 x1 x2 (x3 + 1) x4 y0 x6 x7 I L _ h
def f_X11_ghost_92 (k62 : Int32 → Int32 → Int32 → Int32 → Int32 → Int32 → Int32 → MI → ML → Option ((String ⊕ Int32) × MI × ML)) (x1 : Int32) (x2 : Int32) (x3 : Int32) (x5 : Int32) (x6 : Int32) (x7 : Int32) (y0 : Int32) (I : MI) (L : ML) : Option ((String ⊕ Int32) × MI × ML) := if x3 = 0 then (f_X11_ghost_105 k62 x1 x2 x3 y0 x6 x7 x7 I L) else (f_X11_ghost_105 k62 x1 x2 x3 y0 x6 x7 x5 I L)
set_option maxRecDepth 100000 in
theorem S_X11_ghost_92 {g : Gx} {k62 : Int32 → Int32 → Int32 → Int32 → Int32 → Int32 → Int32 → MI → ML → Option ((String ⊕ Int32) × MI × ML)} (hk62 : ∀ (x1z : Int32) (x2z : Int32) (x3z : Int32) (x4z : Int32) (x5z : Int32) (x6z : Int32) (x7z : Int32) (I : MI) (L : ML) (res : (String ⊕ Int32) × MI × ML), k62 x1z x2z x3z x4z x5z x6z x7z I L = some res → E g 7 (bS res.1) mX11_ghost 62 [(0, .ref 0), (1, .int x1z), (2, .int x2z), (3, .int x3z), (4, .int x4z), (5, .int x5z), (6, .int x6z), (7, .int x7z)] [] (I, L) (rI res.1) (res.2.1, res.2.2)) (x1 : Int32) (x2 : Int32) (x3 : Int32) (x5 : Int32) (x6 : Int32) (x7 : Int32) (y0 : Int32) (I : MI) (L : ML) (res : (String ⊕ Int32) × MI × ML) (h : f_X11_ghost_92 k62 x1 x2 x3 x5 x6 x7 y0 I L = some res) : E g 7 (bS res.1) mX11_ghost 92 [(0, .ref 0), (1, .int x1), (2, .int x2), (3, .int x3), (5, .int x5), (6, .int x6), (7, .int x7)] [.int y0] (I, L) (rI res.1) (res.2.1, res.2.2) := by
  unfold f_X11_ghost_92 at h
  refine E_istore (M := mX11_ghost) (lv' := [(4, .int y0), (0, .ref 0), (1, .int x1), (2, .int x2), (3, .int x3), (5, .int x5), (6, .int x6), (7, .int x7)]) 94 rfl dX11_ghost_92 (Nat.le_of_ble_eq_true rfl) rfl ?_
  refine E_iload_n (M := mX11_ghost) 95 rfl dX11_ghost_94 rfl 4 rfl ?_
  refine E_if_ne (M := mX11_ghost) 103 98 (by decide) rfl dX11_ghost_95 (fun c1 => ?_) (fun c1 => ?_)
  · rw [if_neg c1] at h
    refine E_iload (M := mX11_ghost) 105 rfl dX11_ghost_103 5 rfl ?_
    refine E_sub (M := mX11_ghost) (lv' := [(0, .ref 0), (1, .int x1), (2, .int x2), (3, .int x3), (4, .int y0), (6, .int x6), (7, .int x7)]) [1, 2, 3, 4, 0, 6, 7] rfl ?_
    exact S_X11_ghost_105 hk62 x1 x2 x3 y0 x6 x7 x5 I L _ h
  · rw [if_pos c1] at h
    refine E_iload (M := mX11_ghost) 100 rfl dX11_ghost_98 7 rfl ?_
    refine E_goto (M := mX11_ghost) 105 (by decide) dX11_ghost_100 ?_
    refine E_sub (M := mX11_ghost) (lv' := [(0, .ref 0), (1, .int x1), (2, .int x2), (3, .int x3), (4, .int y0), (6, .int x6), (7, .int x7)]) [1, 2, 3, 4, 0, 6, 7] rfl ?_
    exact S_X11_ghost_105 hk62 x1 x2 x3 y0 x6 x7 x7 I L _ h
def f_X11_ghost_62 (k47 : Int32 → Int32 → Int32 → Int32 → Int32 → Int32 → MI → ML → Option ((String ⊕ Int32) × MI × ML)) : Nat → Int32 → Int32 → Int32 → Int32 → Int32 → Int32 → Int32 → MI → ML → Option ((String ⊕ Int32) × MI × ML)
  | 0, _, _, _, _, _, _, _, _, _ => none
  | n + 1, x1, x2, x3, x4, x5, x6, x7, I, L => if 99 < x7 then (k47 x1 x2 x3 x4 x5 (x6 + 1) I L) else (Option.bind (f_X11_isGhost x2 x6 x7 I L) fun v2 => if v2 = true then (if x3 = 0 then (f_X11_ghost_92 (f_X11_ghost_62 k47 n) x1 x2 x3 x5 x6 x7 x6 I L) else (f_X11_ghost_92 (f_X11_ghost_62 k47 n) x1 x2 x3 x5 x6 x7 x4 I L)) else (f_X11_ghost_110 (f_X11_ghost_62 k47 n) x1 x2 x3 x4 x5 x6 x7 I L))
set_option maxRecDepth 100000 in
theorem S_X11_ghost_62 {g : Gx} {k47 : Int32 → Int32 → Int32 → Int32 → Int32 → Int32 → MI → ML → Option ((String ⊕ Int32) × MI × ML)} (hk47 : ∀ (x1z : Int32) (x2z : Int32) (x3z : Int32) (x4z : Int32) (x5z : Int32) (x6z : Int32) (I : MI) (L : ML) (res : (String ⊕ Int32) × MI × ML), k47 x1z x2z x3z x4z x5z x6z I L = some res → E g 7 (bS res.1) mX11_ghost 47 [(0, .ref 0), (1, .int x1z), (2, .int x2z), (3, .int x3z), (4, .int x4z), (5, .int x5z), (6, .int x6z)] [] (I, L) (rI res.1) (res.2.1, res.2.2)) : ∀ (n : Nat) (x1 : Int32) (x2 : Int32) (x3 : Int32) (x4 : Int32) (x5 : Int32) (x6 : Int32) (x7 : Int32) (I : MI) (L : ML) (res : (String ⊕ Int32) × MI × ML), f_X11_ghost_62 k47 n x1 x2 x3 x4 x5 x6 x7 I L = some res → E g 7 (bS res.1) mX11_ghost 62 [(0, .ref 0), (1, .int x1), (2, .int x2), (3, .int x3), (4, .int x4), (5, .int x5), (6, .int x6), (7, .int x7)] [] (I, L) (rI res.1) (res.2.1, res.2.2) := by
  intro n
  induction n with
  | zero =>
    intros
    rename_i h
    cases h
  | succ n ih =>
    intro x1 x2 x3 x4 x5 x6 x7 I L res h
    rw [f_X11_ghost_62] at h
    refine E_iload (M := mX11_ghost) 64 rfl dX11_ghost_62 7 rfl ?_
    refine E_bipush (M := mX11_ghost) (v := 99) 66 rfl dX11_ghost_64 (by decide) ?_
    refine E_icmp_gt (M := mX11_ghost) 116 69 (by decide) rfl dX11_ghost_66 (fun c1 => ?_) (fun c1 => ?_)
    · rw [if_pos c1] at h
      refine E_iinc (M := mX11_ghost) (j := 6) (v := x6 + 1) (lv' := [(6, .int (x6 + 1)), (0, .ref 0), (1, .int x1), (2, .int x2), (3, .int x3), (4, .int x4), (5, .int x5), (7, .int x7)]) 119 rfl dX11_ghost_116 rfl rfl (Nat.le_of_ble_eq_true rfl) rfl ?_
      refine E_goto (M := mX11_ghost) 47 (by decide) dX11_ghost_119 ?_
      refine E_sub (M := mX11_ghost) (lv' := [(0, .ref 0), (1, .int x1), (2, .int x2), (3, .int x3), (4, .int x4), (5, .int x5), (6, .int (x6 + 1))]) [1, 2, 3, 4, 5, 6, 0] rfl ?_
      exact hk47 x1 x2 x3 x4 x5 (x6 + 1) I L _ h
    · rw [if_neg c1] at h
      refine E_aload_n (M := mX11_ghost) 70 rfl dX11_ghost_69 rfl 0 rfl ?_
      refine E_iload_n (M := mX11_ghost) 71 rfl dX11_ghost_70 rfl 2 rfl ?_
      refine E_iload (M := mX11_ghost) 73 rfl dX11_ghost_71 6 rfl ?_
      refine E_iload (M := mX11_ghost) 75 rfl dX11_ghost_73 7 rfl ?_
      replace h := Option.bind_eq_some_iff.mp h
      obtain ⟨v2, hv2, h⟩ := h
      refine E_cV1 (M := mX11_ghost) (As := [.int x2, .int x6, .int x7]) 78 rfl dX11_ghost_75 shc_0 ck_X11_347 cv_X11_isGhost rfl (by decide) (Nat.le_of_ble_eq_true rfl) (C_X11_isGhost (g := g) hv2) rfl ?_
      refine E_if_eqB (M := mX11_ghost) 110 81 (by decide) rfl dX11_ghost_78 (fun c3 => ?_) (fun c3 => ?_)
      · rw [if_neg (by rw [c3]; decide)] at h
        refine E_sub (M := mX11_ghost) (lv' := [(0, .ref 0), (1, .int x1), (2, .int x2), (3, .int x3), (4, .int x4), (5, .int x5), (6, .int x6), (7, .int x7)]) [0, 1, 2, 3, 4, 5, 6, 7] rfl ?_
        exact S_X11_ghost_110 ih x1 x2 x3 x4 x5 x6 x7 I L _ h
      · rw [if_pos c3] at h
        refine E_iload_n (M := mX11_ghost) 82 rfl dX11_ghost_81 rfl 3 rfl ?_
        refine E_if_ne (M := mX11_ghost) 90 85 (by decide) rfl dX11_ghost_82 (fun c4 => ?_) (fun c4 => ?_)
        · rw [if_neg c4] at h
          refine E_iload (M := mX11_ghost) 92 rfl dX11_ghost_90 4 rfl ?_
          refine E_sub (M := mX11_ghost) (lv' := [(0, .ref 0), (1, .int x1), (2, .int x2), (3, .int x3), (5, .int x5), (6, .int x6), (7, .int x7)]) [0, 1, 2, 3, 5, 6, 7] rfl ?_
          exact S_X11_ghost_92 ih x1 x2 x3 x5 x6 x7 x4 I L _ h
        · rw [if_pos c4] at h
          refine E_iload (M := mX11_ghost) 87 rfl dX11_ghost_85 6 rfl ?_
          refine E_goto (M := mX11_ghost) 92 (by decide) dX11_ghost_87 ?_
          refine E_sub (M := mX11_ghost) (lv' := [(0, .ref 0), (1, .int x1), (2, .int x2), (3, .int x3), (5, .int x5), (6, .int x6), (7, .int x7)]) [0, 1, 2, 3, 5, 6, 7] rfl ?_
          exact S_X11_ghost_92 ih x1 x2 x3 x5 x6 x7 x6 I L _ h
def f_X11_ghost_47 : Nat → Int32 → Int32 → Int32 → Int32 → Int32 → Int32 → MI → ML → Option ((String ⊕ Int32) × MI × ML)
  | 0, _, _, _, _, _, _, _, _ => none
  | n + 1, x1, x2, x3, x4, x5, x6, I, L => Option.bind (hsO (I 0 4)) fun v1 => if (I v1 0) ≤ x6 then (if x1 = 0 then (f_X11_ghost_142 x3 I L) else (if x1 = 1 then (f_X11_ghost_142 x4 I L) else (f_X11_ghost_142 x5 I L))) else (f_X11_ghost_62 (f_X11_ghost_47 n) FU x1 x2 x3 x4 x5 x6 1 I L)
set_option maxRecDepth 100000 in
theorem S_X11_ghost_47 {g : Gx} : ∀ (n : Nat) (x1 : Int32) (x2 : Int32) (x3 : Int32) (x4 : Int32) (x5 : Int32) (x6 : Int32) (I : MI) (L : ML) (res : (String ⊕ Int32) × MI × ML), f_X11_ghost_47 n x1 x2 x3 x4 x5 x6 I L = some res → E g 7 (bS res.1) mX11_ghost 47 [(0, .ref 0), (1, .int x1), (2, .int x2), (3, .int x3), (4, .int x4), (5, .int x5), (6, .int x6)] [] (I, L) (rI res.1) (res.2.1, res.2.2) := by
  intro n
  induction n with
  | zero =>
    intros
    rename_i h
    cases h
  | succ n ih =>
    intro x1 x2 x3 x4 x5 x6 I L res h
    rw [f_X11_ghost_47] at h
    refine E_iload (M := mX11_ghost) 49 rfl dX11_ghost_47 6 rfl ?_
    refine E_aload_n (M := mX11_ghost) 50 rfl dX11_ghost_49 rfl 0 rfl ?_
    replace h := Option.bind_eq_some_iff.mp h
    obtain ⟨v1, hv1, h⟩ := h
    refine E_hs (M := mX11_ghost) 53 rfl dX11_ghost_50 shc_0 fl_X11_40 rfl hv1 ?_
    refine E_gI (M := mX11_ghost) 56 rfl dX11_ghost_53 (sh_H (hsO_s hv1).1) fl_X11_329 rfl ?_
    refine E_icmp_ge (M := mX11_ghost) 122 59 (by decide) rfl dX11_ghost_56 (fun c2 => ?_) (fun c2 => ?_)
    · rw [if_pos c2] at h
      refine E_iload_n (M := mX11_ghost) 123 rfl dX11_ghost_122 rfl 1 rfl ?_
      refine E_if_ne (M := mX11_ghost) 130 126 (by decide) rfl dX11_ghost_123 (fun c3 => ?_) (fun c3 => ?_)
      · rw [if_neg c3] at h
        refine E_iload_n (M := mX11_ghost) 131 rfl dX11_ghost_130 rfl 1 rfl ?_
        refine E_iconst (M := mX11_ghost) (v := 1) 132 rfl dX11_ghost_131 (by decide) ?_
        refine E_icmp_ne (M := mX11_ghost) 140 135 (by decide) rfl dX11_ghost_132 (fun c4 => ?_) (fun c4 => ?_)
        · rw [if_neg c4] at h
          refine E_iload (M := mX11_ghost) 142 rfl dX11_ghost_140 5 rfl ?_
          refine E_sub (M := mX11_ghost) (lv' := []) [] rfl ?_
          exact S_X11_ghost_142 x5 I L _ h
        · rw [if_pos c4] at h
          refine E_iload (M := mX11_ghost) 137 rfl dX11_ghost_135 4 rfl ?_
          refine E_goto (M := mX11_ghost) 142 (by decide) dX11_ghost_137 ?_
          refine E_sub (M := mX11_ghost) (lv' := []) [] rfl ?_
          exact S_X11_ghost_142 x4 I L _ h
      · rw [if_pos c3] at h
        refine E_iload_n (M := mX11_ghost) 127 rfl dX11_ghost_126 rfl 3 rfl ?_
        refine E_goto (M := mX11_ghost) 142 (by decide) dX11_ghost_127 ?_
        refine E_sub (M := mX11_ghost) (lv' := []) [] rfl ?_
        exact S_X11_ghost_142 x3 I L _ h
    · rw [if_neg c2] at h
      refine E_iconst (M := mX11_ghost) (v := 1) 60 rfl dX11_ghost_59 (by decide) ?_
      refine E_istore (M := mX11_ghost) (lv' := [(7, .int 1), (0, .ref 0), (1, .int x1), (2, .int x2), (3, .int x3), (4, .int x4), (5, .int x5), (6, .int x6)]) 62 rfl dX11_ghost_60 (Nat.le_of_ble_eq_true rfl) rfl ?_
      refine E_sub (M := mX11_ghost) (lv' := [(0, .ref 0), (1, .int x1), (2, .int x2), (3, .int x3), (4, .int x4), (5, .int x5), (6, .int x6), (7, .int 1)]) [1, 2, 3, 4, 5, 6, 7, 0] rfl ?_
      exact S_X11_ghost_62 ih FU x1 x2 x3 x4 x5 x6 1 I L _ h
def f_X11_ghost_17 (I : MI) (L : ML) : Option ((String ⊕ Int32) × MI × ML) := some (.inl "java/util/NoSuchElementException", I, L)
set_option maxRecDepth 100000 in
theorem S_X11_ghost_17 {g : Gx} (I : MI) (L : ML) (res : (String ⊕ Int32) × MI × ML) (h : f_X11_ghost_17 I L = some res) : E g 7 (bS res.1) mX11_ghost 17 [] [] (I, L) (rI res.1) (res.2.1, res.2.2) := by
  unfold f_X11_ghost_17 at h
  cases h
  exact E_throwNW (M := mX11_ghost) (i := 39) nk_X11_135 rfl dX11_ghost_17 dX11_ghost_20 dX11_ghost_21 dX11_ghost_24 dX11_ghost_27 (by decide)
def f_X11_ghost (x1 : Int32) (I : MI) (L : ML) : Option ((String ⊕ Int32) × MI × ML) := Option.bind (f_X8_useUp I L) fun w1 => if x1 < 0 then (f_X11_ghost_17 w1.2.1 w1.2.2) else (if x1 ≤ 2 then (Option.bind (f_X11_tellsGhost w1.1 w1.2.1 w1.2.2) fun v4 => Option.bind (f_X11_need v4 w1.2.1 w1.2.2) fun w5 => xc w5 fun _ => f_X11_ghost_47 FU x1 w1.1 0 ((-1)) ((-1)) 0 w5.2.1 w5.2.2) else (f_X11_ghost_17 w1.2.1 w1.2.2))
set_option maxRecDepth 100000 in
theorem S_X11_ghost {g : Gx} (x1 : Int32) (I : MI) (L : ML) (res : (String ⊕ Int32) × MI × ML) (h : f_X11_ghost x1 I L = some res) : E g 7 (bS res.1) mX11_ghost 0 [(0, .ref 0), (1, .int x1)] [] (I, L) (rI res.1) (res.2.1, res.2.2) := by
  unfold f_X11_ghost at h
  refine E_aload_n (M := mX11_ghost) 1 rfl dX11_ghost_0 rfl 0 rfl ?_
  refine E_gR (M := mX11_ghost) 1 4 rfl dX11_ghost_1 shc_0 fl_X11_10 rfl (by decide) (by decide) ?_
  replace h := Option.bind_eq_some_iff.mp h
  obtain ⟨w1, hw1, h⟩ := h
  refine E_cV1 (M := mX11_ghost) (As := []) 7 rfl dX11_ghost_4 shc_1 ck_X11_339 cv_X8_useUp rfl (by decide) (Nat.le_of_ble_eq_true rfl) (C_X8_useUp (g := g) hw1) rfl ?_
  refine E_istore_n (M := mX11_ghost) (lv' := [(2, .int w1.1), (0, .ref 0), (1, .int x1)]) 8 rfl dX11_ghost_7 rfl (Nat.le_of_ble_eq_true rfl) rfl ?_
  refine E_iload_n (M := mX11_ghost) 9 rfl dX11_ghost_8 rfl 2 rfl ?_
  refine E_if_lt (M := mX11_ghost) 17 12 (by decide) rfl dX11_ghost_9 (fun c2 => ?_) (fun c2 => ?_)
  · rw [if_pos c2] at h
    refine E_sub (M := mX11_ghost) (lv' := []) [] rfl ?_
    exact S_X11_ghost_17 w1.2.1 w1.2.2 _ h
  · rw [if_neg c2] at h
    refine E_iload_n (M := mX11_ghost) 13 rfl dX11_ghost_12 rfl 2 rfl ?_
    refine E_iconst (M := mX11_ghost) (v := 2) 14 rfl dX11_ghost_13 (by decide) ?_
    refine E_icmp_le (M := mX11_ghost) 28 17 (by decide) rfl dX11_ghost_14 (fun c3 => ?_) (fun c3 => ?_)
    · rw [if_pos c3] at h
      refine E_aload_n (M := mX11_ghost) 29 rfl dX11_ghost_28 rfl 1 rfl ?_
      refine E_iload_n (M := mX11_ghost) 30 rfl dX11_ghost_29 rfl 0 rfl ?_
      replace h := Option.bind_eq_some_iff.mp h
      obtain ⟨v4, hv4, h⟩ := h
      refine E_cV1 (M := mX11_ghost) (As := [.int w1.1]) 33 rfl dX11_ghost_30 shc_0 ck_X11_344 cv_X11_tellsGhost rfl (by decide) (Nat.le_of_ble_eq_true rfl) (C_X11_tellsGhost (g := g) hv4) rfl ?_
      replace h := Option.bind_eq_some_iff.mp h
      obtain ⟨w5, hw5, h⟩ := h
      replace h := xc_s h
      rcases h with ⟨ex6, hex6, rfl⟩ | ⟨v7, hv7, h⟩
      · have hc := (C_X11_need (g := g) hw5)
        rw [hex6] at hc
        exact E_callSX (M := mX11_ghost) (As := [.int (bI v4)]) dX11_ghost_33 ck_X11_213 ss_X11_need rfl (by decide) (Nat.le_of_ble_eq_true rfl) hc rfl
      have hcv7 := (C_X11_need (g := g) hw5)
      rw [hv7] at hcv7
      refine E_cS0 (M := mX11_ghost) (As := [.int (bI v4)]) 36 rfl dX11_ghost_33 ck_X11_213 ss_X11_need rfl (by decide) (Nat.le_of_ble_eq_true rfl) hcv7 rfl ?_
      refine E_iconst (M := mX11_ghost) (v := 0) 37 rfl dX11_ghost_36 (by decide) ?_
      refine E_istore_n (M := mX11_ghost) (lv' := [(3, .int 0), (2, .int w1.1), (0, .ref 0), (1, .int x1)]) 38 rfl dX11_ghost_37 rfl (Nat.le_of_ble_eq_true rfl) rfl ?_
      refine E_iconst (M := mX11_ghost) (v := (-1)) 39 rfl dX11_ghost_38 (by decide) ?_
      refine E_istore (M := mX11_ghost) (lv' := [(4, .int ((-1))), (3, .int 0), (2, .int w1.1), (0, .ref 0), (1, .int x1)]) 41 rfl dX11_ghost_39 (Nat.le_of_ble_eq_true rfl) rfl ?_
      refine E_iconst (M := mX11_ghost) (v := (-1)) 42 rfl dX11_ghost_41 (by decide) ?_
      refine E_istore (M := mX11_ghost) (lv' := [(5, .int ((-1))), (4, .int ((-1))), (3, .int 0), (2, .int w1.1), (0, .ref 0), (1, .int x1)]) 44 rfl dX11_ghost_42 (Nat.le_of_ble_eq_true rfl) rfl ?_
      refine E_iconst (M := mX11_ghost) (v := 0) 45 rfl dX11_ghost_44 (by decide) ?_
      refine E_istore (M := mX11_ghost) (lv' := [(6, .int 0), (5, .int ((-1))), (4, .int ((-1))), (3, .int 0), (2, .int w1.1), (0, .ref 0), (1, .int x1)]) 47 rfl dX11_ghost_45 (Nat.le_of_ble_eq_true rfl) rfl ?_
      refine E_sub (M := mX11_ghost) (lv' := [(0, .ref 0), (1, .int x1), (2, .int w1.1), (3, .int 0), (4, .int ((-1))), (5, .int ((-1))), (6, .int 0)]) [5, 6, 4, 3, 2, 1, 0] rfl ?_
      exact S_X11_ghost_47 FU x1 w1.1 0 ((-1)) ((-1)) 0 w5.2.1 w5.2.2 _ h
    · rw [if_neg c3] at h
      refine E_sub (M := mX11_ghost) (lv' := []) [] rfl ?_
      exact S_X11_ghost_17 w1.2.1 w1.2.2 _ h
theorem C_X11_ghost {g : Gx} {x1 : Int32} {I : MI} {L : ML} {res : (String ⊕ Int32) × MI × ML} (h : f_X11_ghost x1 I L = some res) : Ent g 7 (bS res.1) mX11_ghost [.ref 0, .int x1] (I, L) (rI res.1) (res.2.1, res.2.2) := Ent_of (by decide +kernel) (Nat.le_of_ble_eq_true rfl) (S_X11_ghost x1 I L _ h)
def f_X11_breach (x1 : Int32) (x2 : Int32) (I : MI) (L : ML) : Option ((String ⊕ Int64) × MI × ML) := Option.bind (f_X11_needRoom x1 I L) fun w1 => xc w1 fun _ => Option.bind (f_X11_isCarpet x2 w1.2.1 w1.2.2) fun v4 => Option.bind (f_X11_need v4 w1.2.1 w1.2.2) fun w5 => xc w5 fun _ => Option.bind (hsO (w5.2.1 0 5)) fun v8 => Option.bind (hsO (w5.2.1 0 4)) fun v9 => Option.bind (f_X3_copyFrom v8 v9 w5.2.1 w5.2.2) fun w10 => Option.bind (hsO (w10.1 0 5)) fun v11 => Option.bind (f_X3_lay v11 x1 x2 w10.1 w10.2) fun w12 => Option.bind (hsO (w12.1 0 4)) fun v13 => Option.bind (f_X3_dueOfAll v13 10 w12.1 w12.2) fun v14 => Option.bind (hsO (w12.1 0 5)) fun v15 => Option.bind (f_X3_dueOfAll v15 10 w12.1 w12.2) fun v16 => some (.inr (v14 - v16), w12.1, w12.2)
set_option maxRecDepth 100000 in
theorem S_X11_breach {g : Gx} (x1 : Int32) (x2 : Int32) (I : MI) (L : ML) (res : (String ⊕ Int64) × MI × ML) (h : f_X11_breach x1 x2 I L = some res) : E g 10 (bS res.1) mX11_breach 0 [(0, .ref 0), (1, .int x1), (2, .int x2)] [] (I, L) (rJ res.1) (res.2.1, res.2.2) := by
  unfold f_X11_breach at h
  refine E_aload_n (M := mX11_breach) 1 rfl dX11_breach_0 rfl 0 rfl ?_
  refine E_iload_n (M := mX11_breach) 2 rfl dX11_breach_1 rfl 1 rfl ?_
  replace h := Option.bind_eq_some_iff.mp h
  obtain ⟨w1, hw1, h⟩ := h
  replace h := xc_s h
  rcases h with ⟨ex2, hex2, rfl⟩ | ⟨v3, hv3, h⟩
  · have hc := (C_X11_needRoom (g := g) hw1)
    rw [hex2] at hc
    exact E_callVX (M := mX11_breach) (As := [.int x1]) dX11_breach_2 shc_0 ck_X11_114 cv_X11_needRoom rfl (by decide) (Nat.le_of_ble_eq_true rfl) hc rfl
  have hcv3 := (C_X11_needRoom (g := g) hw1)
  rw [hv3] at hcv3
  refine E_cV0 (M := mX11_breach) (As := [.int x1]) 5 rfl dX11_breach_2 shc_0 ck_X11_114 cv_X11_needRoom rfl (by decide) (Nat.le_of_ble_eq_true rfl) hcv3 rfl ?_
  refine E_iload_n (M := mX11_breach) 6 rfl dX11_breach_5 rfl 2 rfl ?_
  replace h := Option.bind_eq_some_iff.mp h
  obtain ⟨v4, hv4, h⟩ := h
  refine E_cS1 (M := mX11_breach) (As := [.int x2]) 9 rfl dX11_breach_6 ck_X11_288 ss_X11_isCarpet rfl (by decide) (Nat.le_of_ble_eq_true rfl) (C_X11_isCarpet (g := g) hv4) rfl ?_
  replace h := Option.bind_eq_some_iff.mp h
  obtain ⟨w5, hw5, h⟩ := h
  replace h := xc_s h
  rcases h with ⟨ex6, hex6, rfl⟩ | ⟨v7, hv7, h⟩
  · have hc := (C_X11_need (g := g) hw5)
    rw [hex6] at hc
    exact E_callSX (M := mX11_breach) (As := [.int (bI v4)]) dX11_breach_9 ck_X11_213 ss_X11_need rfl (by decide) (Nat.le_of_ble_eq_true rfl) hc rfl
  have hcv7 := (C_X11_need (g := g) hw5)
  rw [hv7] at hcv7
  refine E_cS0 (M := mX11_breach) (As := [.int (bI v4)]) 12 rfl dX11_breach_9 ck_X11_213 ss_X11_need rfl (by decide) (Nat.le_of_ble_eq_true rfl) hcv7 rfl ?_
  refine E_aload_n (M := mX11_breach) 13 rfl dX11_breach_12 rfl 0 rfl ?_
  replace h := Option.bind_eq_some_iff.mp h
  obtain ⟨v8, hv8, h⟩ := h
  refine E_hs (M := mX11_breach) 16 rfl dX11_breach_13 shc_0 fl_X11_44 rfl hv8 ?_
  refine E_aload_n (M := mX11_breach) 17 rfl dX11_breach_16 rfl 0 rfl ?_
  replace h := Option.bind_eq_some_iff.mp h
  obtain ⟨v9, hv9, h⟩ := h
  refine E_hs (M := mX11_breach) 20 rfl dX11_breach_17 shc_0 fl_X11_40 rfl hv9 ?_
  replace h := Option.bind_eq_some_iff.mp h
  obtain ⟨w10, hw10, h⟩ := h
  refine E_cV0 (M := mX11_breach) (As := [.ref v9]) 23 rfl dX11_breach_20 (sh_H (hsO_s hv8).1) ck_X11_104 cv_X3_copyFrom rfl (by decide) (Nat.le_of_ble_eq_true rfl) (C_X3_copyFrom (g := g) (hsO_s hv8).1 (hsO_s hv9).1 hw10) rfl ?_
  refine E_aload_n (M := mX11_breach) 24 rfl dX11_breach_23 rfl 0 rfl ?_
  replace h := Option.bind_eq_some_iff.mp h
  obtain ⟨v11, hv11, h⟩ := h
  refine E_hs (M := mX11_breach) 27 rfl dX11_breach_24 shc_0 fl_X11_44 rfl hv11 ?_
  refine E_iload_n (M := mX11_breach) 28 rfl dX11_breach_27 rfl 1 rfl ?_
  refine E_iload_n (M := mX11_breach) 29 rfl dX11_breach_28 rfl 2 rfl ?_
  replace h := Option.bind_eq_some_iff.mp h
  obtain ⟨w12, hw12, h⟩ := h
  refine E_cV0 (M := mX11_breach) (As := [.int x1, .int x2]) 32 rfl dX11_breach_29 (sh_H (hsO_s hv11).1) ck_X11_292 cv_X3_lay rfl (by decide) (Nat.le_of_ble_eq_true rfl) (C_X3_lay (g := g) (hsO_s hv11).1 hw12) rfl ?_
  refine E_aload_n (M := mX11_breach) 33 rfl dX11_breach_32 rfl 0 rfl ?_
  replace h := Option.bind_eq_some_iff.mp h
  obtain ⟨v13, hv13, h⟩ := h
  refine E_hs (M := mX11_breach) 36 rfl dX11_breach_33 shc_0 fl_X11_40 rfl hv13 ?_
  refine E_bipush (M := mX11_breach) (v := 10) 38 rfl dX11_breach_36 (by decide) ?_
  replace h := Option.bind_eq_some_iff.mp h
  obtain ⟨v14, hv14, h⟩ := h
  refine E_cV1 (M := mX11_breach) (As := [.int 10]) 41 rfl dX11_breach_38 (sh_H (hsO_s hv13).1) ck_X11_361 cv_X3_dueOfAll rfl (by decide) (Nat.le_of_ble_eq_true rfl) (C_X3_dueOfAll (g := g) (hsO_s hv13).1 hv14) rfl ?_
  refine E_aload_n (M := mX11_breach) 42 rfl dX11_breach_41 rfl 0 rfl ?_
  replace h := Option.bind_eq_some_iff.mp h
  obtain ⟨v15, hv15, h⟩ := h
  refine E_hs (M := mX11_breach) 45 rfl dX11_breach_42 shc_0 fl_X11_44 rfl hv15 ?_
  refine E_bipush (M := mX11_breach) (v := 10) 47 rfl dX11_breach_45 (by decide) ?_
  replace h := Option.bind_eq_some_iff.mp h
  obtain ⟨v16, hv16, h⟩ := h
  refine E_cV1 (M := mX11_breach) (As := [.int 10]) 50 rfl dX11_breach_47 (sh_H (hsO_s hv15).1) ck_X11_361 cv_X3_dueOfAll rfl (by decide) (Nat.le_of_ble_eq_true rfl) (C_X3_dueOfAll (g := g) (hsO_s hv15).1 hv16) rfl ?_
  refine E_lsub (M := mX11_breach) 51 rfl dX11_breach_50 ?_
  cases h
  exact E_lret (M := mX11_breach) rfl dX11_breach_51
theorem C_X11_breach {g : Gx} {x1 : Int32} {x2 : Int32} {I : MI} {L : ML} {res : (String ⊕ Int64) × MI × ML} (h : f_X11_breach x1 x2 I L = some res) : Ent g 10 (bS res.1) mX11_breach [.ref 0, .int x1, .int x2] (I, L) (rJ res.1) (res.2.1, res.2.2) := Ent_of (by decide +kernel) (Nat.le_of_ble_eq_true rfl) (S_X11_breach x1 x2 I L _ h)
def f_X11_silence_152 (y0 : Int64) (I : MI) (L : ML) : Option ((String ⊕ Int64) × MI × ML) := some (.inr y0, I, L)
set_option maxRecDepth 100000 in
theorem S_X11_silence_152 {g : Gx} (y0 : Int64) (I : MI) (L : ML) (res : (String ⊕ Int64) × MI × ML) (h : f_X11_silence_152 y0 I L = some res) : E g 9 (bS res.1) mX11_silence 152 [] [.long y0] (I, L) (rJ res.1) (res.2.1, res.2.2) := by
  unfold f_X11_silence_152 at h
  cases h
  exact E_lret (M := mX11_silence) rfl dX11_silence_152
def f_X11_silence_121 (k41 : Int32 → Int32 → Int32 → Bool → Int64 → Int64 → Int32 → MI → ML → Option ((String ⊕ Int64) × MI × ML)) (x1 : Int32) (x2 : Int32) (x3 : Int32) (x4 : Bool) (x5 : Int64) (x7 : Int64) (x9 : Int32) (I : MI) (L : ML) : Option ((String ⊕ Int64) × MI × ML) := k41 x1 x2 x3 x4 x5 x7 (x9 + 1) I L
set_option maxRecDepth 100000 in
theorem S_X11_silence_121 {g : Gx} {k41 : Int32 → Int32 → Int32 → Bool → Int64 → Int64 → Int32 → MI → ML → Option ((String ⊕ Int64) × MI × ML)} (hk41 : ∀ (x1z : Int32) (x2z : Int32) (x3z : Int32) (x4z : Bool) (x5z : Int64) (x7z : Int64) (x9z : Int32) (I : MI) (L : ML) (res : (String ⊕ Int64) × MI × ML), k41 x1z x2z x3z x4z x5z x7z x9z I L = some res → E g 9 (bS res.1) mX11_silence 41 [(0, .ref 0), (1, .int x1z), (2, .int x2z), (3, .int x3z), (4, .int (bI x4z)), (5, .long x5z), (7, .long x7z), (9, .int x9z)] [] (I, L) (rJ res.1) (res.2.1, res.2.2)) (x1 : Int32) (x2 : Int32) (x3 : Int32) (x4 : Bool) (x5 : Int64) (x7 : Int64) (x9 : Int32) (I : MI) (L : ML) (res : (String ⊕ Int64) × MI × ML) (h : f_X11_silence_121 k41 x1 x2 x3 x4 x5 x7 x9 I L = some res) : E g 9 (bS res.1) mX11_silence 121 [(0, .ref 0), (1, .int x1), (2, .int x2), (3, .int x3), (4, .int (bI x4)), (5, .long x5), (7, .long x7), (9, .int x9)] [] (I, L) (rJ res.1) (res.2.1, res.2.2) := by
  unfold f_X11_silence_121 at h
  refine E_iinc (M := mX11_silence) (j := 7) (v := x9 + 1) (lv' := [(9, .int (x9 + 1)), (0, .ref 0), (1, .int x1), (2, .int x2), (3, .int x3), (4, .int (bI x4)), (5, .long x5), (7, .long x7)]) 124 rfl dX11_silence_121 rfl rfl (Nat.le_of_ble_eq_true rfl) rfl ?_
  refine E_goto (M := mX11_silence) 41 (by decide) dX11_silence_124 ?_
  refine E_sub (M := mX11_silence) (lv' := [(0, .ref 0), (1, .int x1), (2, .int x2), (3, .int x3), (4, .int (bI x4)), (5, .long x5), (7, .long x7), (9, .int (x9 + 1))]) [1, 2, 3, 4, 5, 6, 7, 0] rfl ?_
  exact hk41 x1 x2 x3 x4 x5 x7 (x9 + 1) I L _ h
def f_X11_silence_41 : Nat → Int32 → Int32 → Int32 → Bool → Int64 → Int64 → Int32 → MI → ML → Option ((String ⊕ Int64) × MI × ML)
  | 0, _, _, _, _, _, _, _, _, _ => none
  | n + 1, x1, x2, x3, x4, x5, x7, x9, I, L => Option.bind (hsO (I 0 4)) fun v1 => if (I v1 3) ≤ x9 then (if x5 ≤ 9999 then (if x4 = true then (f_X11_silence_152 x7 I L) else (f_X11_silence_152 x5 I L)) else (some (.inr ((-1)), I, L))) else (Option.bind (hsO (I 0 4)) fun v5 => Option.bind (ldR (v5 + 33) 12 x9) fun v6 => Option.bind (hsO (I 0 4)) fun v7 => Option.bind (f_X3_loudAt v7 v6 x1 I L) fun v8 => if v8 ≤ 0 then (f_X11_silence_121 (f_X11_silence_41 n) x1 x2 x3 x4 x5 x7 x9 I L) else (Option.bind (hsO (I 0 4)) fun v10 => Option.bind (f_X3_dueFor v10 v6 x2 I L) fun v11 => Option.bind (dvL ((v11 + x3.toInt64) - 1) x3.toInt64) fun v12 => f_X11_silence_121 (f_X11_silence_41 n) x1 x2 x3 x4 (if (if v12 < 1 then 1 else v12) < x5 then x5 else (if v12 < 1 then 1 else v12)) (x7 + ((if v12 < 1 then 1 else v12) * x3.toInt64)) x9 I L))
set_option maxRecDepth 100000 in
theorem S_X11_silence_41 {g : Gx} : ∀ (n : Nat) (x1 : Int32) (x2 : Int32) (x3 : Int32) (x4 : Bool) (x5 : Int64) (x7 : Int64) (x9 : Int32) (I : MI) (L : ML) (res : (String ⊕ Int64) × MI × ML), f_X11_silence_41 n x1 x2 x3 x4 x5 x7 x9 I L = some res → E g 9 (bS res.1) mX11_silence 41 [(0, .ref 0), (1, .int x1), (2, .int x2), (3, .int x3), (4, .int (bI x4)), (5, .long x5), (7, .long x7), (9, .int x9)] [] (I, L) (rJ res.1) (res.2.1, res.2.2) := by
  intro n
  induction n with
  | zero =>
    intros
    rename_i h
    cases h
  | succ n ih =>
    intro x1 x2 x3 x4 x5 x7 x9 I L res h
    rw [f_X11_silence_41] at h
    refine E_iload (M := mX11_silence) 43 rfl dX11_silence_41 7 rfl ?_
    refine E_aload_n (M := mX11_silence) 44 rfl dX11_silence_43 rfl 0 rfl ?_
    replace h := Option.bind_eq_some_iff.mp h
    obtain ⟨v1, hv1, h⟩ := h
    refine E_hs (M := mX11_silence) 47 rfl dX11_silence_44 shc_0 fl_X11_40 rfl hv1 ?_
    refine E_gI (M := mX11_silence) 50 rfl dX11_silence_47 (sh_H (hsO_s hv1).1) fl_X11_245 rfl ?_
    refine E_icmp_ge (M := mX11_silence) 127 53 (by decide) rfl dX11_silence_50 (fun c2 => ?_) (fun c2 => ?_)
    · rw [if_pos c2] at h
      refine E_lload (M := mX11_silence) 129 rfl dX11_silence_127 5 rfl ?_
      refine E_ldc2 (M := mX11_silence) 132 rfl dX11_silence_129 csl_X11_369 ?_
      refine E_lc_le (M := mX11_silence) 140 133 136 (by decide) rfl rfl dX11_silence_132 dX11_silence_133 (fun c3 => ?_) (fun c3 => ?_)
      · rw [if_pos c3] at h
        refine E_iload (M := mX11_silence) 142 rfl dX11_silence_140 4 rfl ?_
        refine E_if_eqB (M := mX11_silence) 150 145 (by decide) rfl dX11_silence_142 (fun c4 => ?_) (fun c4 => ?_)
        · rw [if_neg (by rw [c4]; decide)] at h
          refine E_lload (M := mX11_silence) 152 rfl dX11_silence_150 5 rfl ?_
          refine E_sub (M := mX11_silence) (lv' := []) [] rfl ?_
          exact S_X11_silence_152 x5 I L _ h
        · rw [if_pos c4] at h
          refine E_lload (M := mX11_silence) 147 rfl dX11_silence_145 6 rfl ?_
          refine E_goto (M := mX11_silence) 152 (by decide) dX11_silence_147 ?_
          refine E_sub (M := mX11_silence) (lv' := []) [] rfl ?_
          exact S_X11_silence_152 x7 I L _ h
      · rw [if_neg c3] at h
        refine E_ldc2 (M := mX11_silence) 139 rfl dX11_silence_136 csl_X11_371 ?_
        cases h
        exact E_lret (M := mX11_silence) rfl dX11_silence_139
    · rw [if_neg c2] at h
      refine E_aload_n (M := mX11_silence) 54 rfl dX11_silence_53 rfl 0 rfl ?_
      replace h := Option.bind_eq_some_iff.mp h
      obtain ⟨v5, hv5, h⟩ := h
      refine E_hs (M := mX11_silence) 57 rfl dX11_silence_54 shc_0 fl_X11_40 rfl hv5 ?_
      refine E_gR (M := mX11_silence) (v5 + 4) 60 rfl dX11_silence_57 (sh_H (hsO_s hv5).1) fl_X11_163 rfl (rt_H7 (hsO_s hv5).1) (H_lt (hsO_s hv5).1 4 (by decide)) ?_
      refine E_iload (M := mX11_silence) 62 rfl dX11_silence_60 7 rfl ?_
      replace h := Option.bind_eq_some_iff.mp h
      obtain ⟨v6, hv6, h⟩ := h
      refine E_ldN (M := mX11_silence) (hsO_s hv5).1 63 rfl dX11_silence_62 hv6 ?_
      refine E_astore (M := mX11_silence) (lv' := [(10, .ref v6), (0, .ref 0), (1, .int x1), (2, .int x2), (3, .int x3), (4, .int (bI x4)), (5, .long x5), (7, .long x7), (9, .int x9)]) 65 rfl dX11_silence_63 (Nat.le_of_ble_eq_true rfl) rfl ?_
      refine E_aload_n (M := mX11_silence) 66 rfl dX11_silence_65 rfl 1 rfl ?_
      replace h := Option.bind_eq_some_iff.mp h
      obtain ⟨v7, hv7, h⟩ := h
      refine E_hs (M := mX11_silence) 69 rfl dX11_silence_66 shc_0 fl_X11_40 rfl hv7 ?_
      refine E_aload (M := mX11_silence) 71 rfl dX11_silence_69 0 rfl ?_
      refine E_iload_n (M := mX11_silence) 72 rfl dX11_silence_71 rfl 2 rfl ?_
      replace h := Option.bind_eq_some_iff.mp h
      obtain ⟨v8, hv8, h⟩ := h
      refine E_cV1 (M := mX11_silence) (As := [.ref v6, .int x1]) 75 rfl dX11_silence_72 (sh_H (hsO_s hv7).1) ck_X11_201 cv_X3_loudAt rfl (by decide) (Nat.le_of_ble_eq_true rfl) (C_X3_loudAt (g := g) (hsO_s hv7).1 (isN_ld (hsO_s hv5).1 hv6) hv8) rfl ?_
      refine E_if_le (M := mX11_silence) 121 78 (by decide) rfl dX11_silence_75 (fun c9 => ?_) (fun c9 => ?_)
      · rw [if_pos c9] at h
        refine E_sub (M := mX11_silence) (lv' := [(0, .ref 0), (1, .int x1), (2, .int x2), (3, .int x3), (4, .int (bI x4)), (5, .long x5), (7, .long x7), (9, .int x9)]) [1, 2, 3, 4, 5, 6, 7, 8] rfl ?_
        exact S_X11_silence_121 ih x1 x2 x3 x4 x5 x7 x9 I L _ h
      · rw [if_neg c9] at h
        refine E_lconst (M := mX11_silence) (v := 1) 79 rfl dX11_silence_78 (by decide) ?_
        refine E_aload_n (M := mX11_silence) 80 rfl dX11_silence_79 rfl 1 rfl ?_
        replace h := Option.bind_eq_some_iff.mp h
        obtain ⟨v10, hv10, h⟩ := h
        refine E_hs (M := mX11_silence) 83 rfl dX11_silence_80 shc_0 fl_X11_40 rfl hv10 ?_
        refine E_aload (M := mX11_silence) 85 rfl dX11_silence_83 0 rfl ?_
        refine E_iload_n (M := mX11_silence) 86 rfl dX11_silence_85 rfl 3 rfl ?_
        replace h := Option.bind_eq_some_iff.mp h
        obtain ⟨v11, hv11, h⟩ := h
        refine E_cV1 (M := mX11_silence) (As := [.ref v6, .int x2]) 89 rfl dX11_silence_86 (sh_H (hsO_s hv10).1) ck_X11_321 cv_X3_dueFor rfl (by decide) (Nat.le_of_ble_eq_true rfl) (C_X3_dueFor (g := g) (hsO_s hv10).1 (isN_ld (hsO_s hv5).1 hv6) hv11) rfl ?_
        refine E_iload_n (M := mX11_silence) 90 rfl dX11_silence_89 rfl 4 rfl ?_
        refine E_i2l (M := mX11_silence) 91 rfl dX11_silence_90 ?_
        refine E_ladd (M := mX11_silence) 92 rfl dX11_silence_91 ?_
        refine E_lconst (M := mX11_silence) (v := 1) 93 rfl dX11_silence_92 (by decide) ?_
        refine E_lsub (M := mX11_silence) 94 rfl dX11_silence_93 ?_
        refine E_iload_n (M := mX11_silence) 95 rfl dX11_silence_94 rfl 4 rfl ?_
        refine E_i2l (M := mX11_silence) 96 rfl dX11_silence_95 ?_
        replace h := Option.bind_eq_some_iff.mp h
        obtain ⟨v12, hv12, h⟩ := h
        refine E_dvL (M := mX11_silence) 97 rfl dX11_silence_96 hv12 ?_
        refine E_maxl (M := mX11_silence) 100 rfl dX11_silence_97 jm_X11_365 (by decide) (Nat.le_of_ble_eq_true rfl) ?_
        refine E_lstore (M := mX11_silence) (lv' := [(11, .long (if v12 < 1 then 1 else v12)), (10, .ref v6), (0, .ref 0), (1, .int x1), (2, .int x2), (3, .int x3), (4, .int (bI x4)), (5, .long x5), (7, .long x7), (9, .int x9)]) 102 rfl dX11_silence_100 (Nat.le_of_ble_eq_true rfl) rfl ?_
        refine E_lload (M := mX11_silence) 104 rfl dX11_silence_102 7 rfl ?_
        refine E_lload (M := mX11_silence) 106 rfl dX11_silence_104 0 rfl ?_
        refine E_maxl (M := mX11_silence) 109 rfl dX11_silence_106 jm_X11_365 (by decide) (Nat.le_of_ble_eq_true rfl) ?_
        refine E_lstore (M := mX11_silence) (lv' := [(5, .long (if (if v12 < 1 then 1 else v12) < x5 then x5 else (if v12 < 1 then 1 else v12))), (11, .long (if v12 < 1 then 1 else v12)), (10, .ref v6), (0, .ref 0), (1, .int x1), (2, .int x2), (3, .int x3), (4, .int (bI x4)), (7, .long x7), (9, .int x9)]) 111 rfl dX11_silence_109 (Nat.le_of_ble_eq_true rfl) rfl ?_
        refine E_lload (M := mX11_silence) 113 rfl dX11_silence_111 8 rfl ?_
        refine E_lload (M := mX11_silence) 115 rfl dX11_silence_113 1 rfl ?_
        refine E_iload_n (M := mX11_silence) 116 rfl dX11_silence_115 rfl 6 rfl ?_
        refine E_i2l (M := mX11_silence) 117 rfl dX11_silence_116 ?_
        refine E_lmul (M := mX11_silence) 118 rfl dX11_silence_117 ?_
        refine E_ladd (M := mX11_silence) 119 rfl dX11_silence_118 ?_
        refine E_lstore (M := mX11_silence) (lv' := [(7, .long (x7 + ((if v12 < 1 then 1 else v12) * x3.toInt64))), (5, .long (if (if v12 < 1 then 1 else v12) < x5 then x5 else (if v12 < 1 then 1 else v12))), (11, .long (if v12 < 1 then 1 else v12)), (10, .ref v6), (0, .ref 0), (1, .int x1), (2, .int x2), (3, .int x3), (4, .int (bI x4)), (9, .int x9)]) 121 rfl dX11_silence_119 (Nat.le_of_ble_eq_true rfl) rfl ?_
        refine E_sub (M := mX11_silence) (lv' := [(0, .ref 0), (1, .int x1), (2, .int x2), (3, .int x3), (4, .int (bI x4)), (5, .long (if (if v12 < 1 then 1 else v12) < x5 then x5 else (if v12 < 1 then 1 else v12))), (7, .long (x7 + ((if v12 < 1 then 1 else v12) * x3.toInt64))), (9, .int x9)]) [4, 5, 6, 7, 8, 1, 0, 9] rfl ?_
        exact S_X11_silence_121 ih x1 x2 x3 x4 (if (if v12 < 1 then 1 else v12) < x5 then x5 else (if v12 < 1 then 1 else v12)) (x7 + ((if v12 < 1 then 1 else v12) * x3.toInt64)) x9 I L _ h
def f_X11_silence_29 (x1 : Int32) (x2 : Int32) (x3 : Int32) (x4 : Bool) (y0 : Bool) (I : MI) (L : ML) : Option ((String ⊕ Int64) × MI × ML) := Option.bind (f_X11_need y0 I L) fun w1 => xc w1 fun _ => f_X11_silence_41 FU x1 x2 x3 x4 0 0 0 w1.2.1 w1.2.2
set_option maxRecDepth 100000 in
theorem S_X11_silence_29 {g : Gx} (x1 : Int32) (x2 : Int32) (x3 : Int32) (x4 : Bool) (y0 : Bool) (I : MI) (L : ML) (res : (String ⊕ Int64) × MI × ML) (h : f_X11_silence_29 x1 x2 x3 x4 y0 I L = some res) : E g 9 (bS res.1) mX11_silence 29 [(0, .ref 0), (1, .int x1), (2, .int x2), (3, .int x3), (4, .int (bI x4))] [.int (bI y0)] (I, L) (rJ res.1) (res.2.1, res.2.2) := by
  unfold f_X11_silence_29 at h
  replace h := Option.bind_eq_some_iff.mp h
  obtain ⟨w1, hw1, h⟩ := h
  replace h := xc_s h
  rcases h with ⟨ex2, hex2, rfl⟩ | ⟨v3, hv3, h⟩
  · have hc := (C_X11_need (g := g) hw1)
    rw [hex2] at hc
    exact E_callSX (M := mX11_silence) (As := [.int (bI y0)]) dX11_silence_29 ck_X11_213 ss_X11_need rfl (by decide) (Nat.le_of_ble_eq_true rfl) hc rfl
  have hcv3 := (C_X11_need (g := g) hw1)
  rw [hv3] at hcv3
  refine E_cS0 (M := mX11_silence) (As := [.int (bI y0)]) 32 rfl dX11_silence_29 ck_X11_213 ss_X11_need rfl (by decide) (Nat.le_of_ble_eq_true rfl) hcv3 rfl ?_
  refine E_lconst (M := mX11_silence) (v := 0) 33 rfl dX11_silence_32 (by decide) ?_
  refine E_lstore (M := mX11_silence) (lv' := [(5, .long 0), (0, .ref 0), (1, .int x1), (2, .int x2), (3, .int x3), (4, .int (bI x4))]) 35 rfl dX11_silence_33 (Nat.le_of_ble_eq_true rfl) rfl ?_
  refine E_lconst (M := mX11_silence) (v := 0) 36 rfl dX11_silence_35 (by decide) ?_
  refine E_lstore (M := mX11_silence) (lv' := [(7, .long 0), (5, .long 0), (0, .ref 0), (1, .int x1), (2, .int x2), (3, .int x3), (4, .int (bI x4))]) 38 rfl dX11_silence_36 (Nat.le_of_ble_eq_true rfl) rfl ?_
  refine E_iconst (M := mX11_silence) (v := 0) 39 rfl dX11_silence_38 (by decide) ?_
  refine E_istore (M := mX11_silence) (lv' := [(9, .int 0), (7, .long 0), (5, .long 0), (0, .ref 0), (1, .int x1), (2, .int x2), (3, .int x3), (4, .int (bI x4))]) 41 rfl dX11_silence_39 (Nat.le_of_ble_eq_true rfl) rfl ?_
  refine E_sub (M := mX11_silence) (lv' := [(0, .ref 0), (1, .int x1), (2, .int x2), (3, .int x3), (4, .int (bI x4)), (5, .long 0), (7, .long 0), (9, .int 0)]) [3, 4, 5, 6, 7, 2, 1, 0] rfl ?_
  exact S_X11_silence_41 FU x1 x2 x3 x4 0 0 0 w1.2.1 w1.2.2 _ h
def f_X11_silence_28 (x1 : Int32) (x2 : Int32) (x3 : Int32) (x4 : Bool) (I : MI) (L : ML) : Option ((String ⊕ Int64) × MI × ML) := f_X11_silence_29 x1 x2 x3 x4 false I L
set_option maxRecDepth 100000 in
theorem S_X11_silence_28 {g : Gx} (x1 : Int32) (x2 : Int32) (x3 : Int32) (x4 : Bool) (I : MI) (L : ML) (res : (String ⊕ Int64) × MI × ML) (h : f_X11_silence_28 x1 x2 x3 x4 I L = some res) : E g 9 (bS res.1) mX11_silence 28 [(0, .ref 0), (1, .int x1), (2, .int x2), (3, .int x3), (4, .int (bI x4))] [] (I, L) (rJ res.1) (res.2.1, res.2.2) := by
  unfold f_X11_silence_28 at h
  refine E_iconst (M := mX11_silence) (v := 0) 29 rfl dX11_silence_28 (by decide) ?_
  refine E_sub (M := mX11_silence) (lv' := [(0, .ref 0), (1, .int x1), (2, .int x2), (3, .int x3), (4, .int (bI x4))]) [0, 1, 2, 3, 4] rfl ?_
  exact S_X11_silence_29 x1 x2 x3 x4 false I L _ h
def f_X11_silence (x1 : Int32) (x2 : Int32) (x3 : Int32) (x4 : Bool) (I : MI) (L : ML) : Option ((String ⊕ Int64) × MI × ML) := Option.bind (f_X11_needRoom x1 I L) fun w1 => xc w1 fun _ => Option.bind (f_X11_areDays x2 w1.2.1 w1.2.2) fun v4 => if v4 = true then (if x3 < 1 then (f_X11_silence_28 x1 x2 x3 x4 w1.2.1 w1.2.2) else (if 999 < x3 then (f_X11_silence_28 x1 x2 x3 x4 w1.2.1 w1.2.2) else (f_X11_silence_29 x1 x2 x3 x4 true w1.2.1 w1.2.2))) else (f_X11_silence_28 x1 x2 x3 x4 w1.2.1 w1.2.2)
set_option maxRecDepth 100000 in
theorem S_X11_silence {g : Gx} (x1 : Int32) (x2 : Int32) (x3 : Int32) (x4 : Bool) (I : MI) (L : ML) (res : (String ⊕ Int64) × MI × ML) (h : f_X11_silence x1 x2 x3 x4 I L = some res) : E g 9 (bS res.1) mX11_silence 0 [(0, .ref 0), (1, .int x1), (2, .int x2), (3, .int x3), (4, .int (bI x4))] [] (I, L) (rJ res.1) (res.2.1, res.2.2) := by
  unfold f_X11_silence at h
  refine E_aload_n (M := mX11_silence) 1 rfl dX11_silence_0 rfl 0 rfl ?_
  refine E_iload_n (M := mX11_silence) 2 rfl dX11_silence_1 rfl 1 rfl ?_
  replace h := Option.bind_eq_some_iff.mp h
  obtain ⟨w1, hw1, h⟩ := h
  replace h := xc_s h
  rcases h with ⟨ex2, hex2, rfl⟩ | ⟨v3, hv3, h⟩
  · have hc := (C_X11_needRoom (g := g) hw1)
    rw [hex2] at hc
    exact E_callVX (M := mX11_silence) (As := [.int x1]) dX11_silence_2 shc_0 ck_X11_114 cv_X11_needRoom rfl (by decide) (Nat.le_of_ble_eq_true rfl) hc rfl
  have hcv3 := (C_X11_needRoom (g := g) hw1)
  rw [hv3] at hcv3
  refine E_cV0 (M := mX11_silence) (As := [.int x1]) 5 rfl dX11_silence_2 shc_0 ck_X11_114 cv_X11_needRoom rfl (by decide) (Nat.le_of_ble_eq_true rfl) hcv3 rfl ?_
  refine E_iload_n (M := mX11_silence) 6 rfl dX11_silence_5 rfl 2 rfl ?_
  replace h := Option.bind_eq_some_iff.mp h
  obtain ⟨v4, hv4, h⟩ := h
  refine E_cS1 (M := mX11_silence) (As := [.int x2]) 9 rfl dX11_silence_6 ck_X11_318 ss_X11_areDays rfl (by decide) (Nat.le_of_ble_eq_true rfl) (C_X11_areDays (g := g) hv4) rfl ?_
  refine E_if_eqB (M := mX11_silence) 28 12 (by decide) rfl dX11_silence_9 (fun c5 => ?_) (fun c5 => ?_)
  · rw [if_neg (by rw [c5]; decide)] at h
    refine E_sub (M := mX11_silence) (lv' := [(0, .ref 0), (1, .int x1), (2, .int x2), (3, .int x3), (4, .int (bI x4))]) [0, 1, 2, 3, 4] rfl ?_
    exact S_X11_silence_28 x1 x2 x3 x4 w1.2.1 w1.2.2 _ h
  · rw [if_pos c5] at h
    refine E_iload_n (M := mX11_silence) 13 rfl dX11_silence_12 rfl 3 rfl ?_
    refine E_iconst (M := mX11_silence) (v := 1) 14 rfl dX11_silence_13 (by decide) ?_
    refine E_icmp_lt (M := mX11_silence) 28 17 (by decide) rfl dX11_silence_14 (fun c6 => ?_) (fun c6 => ?_)
    · rw [if_pos c6] at h
      refine E_sub (M := mX11_silence) (lv' := [(0, .ref 0), (1, .int x1), (2, .int x2), (3, .int x3), (4, .int (bI x4))]) [0, 1, 2, 3, 4] rfl ?_
      exact S_X11_silence_28 x1 x2 x3 x4 w1.2.1 w1.2.2 _ h
    · rw [if_neg c6] at h
      refine E_iload_n (M := mX11_silence) 18 rfl dX11_silence_17 rfl 3 rfl ?_
      refine E_sipush (M := mX11_silence) (v := 999) 21 rfl dX11_silence_18 (by decide) ?_
      refine E_icmp_gt (M := mX11_silence) 28 24 (by decide) rfl dX11_silence_21 (fun c7 => ?_) (fun c7 => ?_)
      · rw [if_pos c7] at h
        refine E_sub (M := mX11_silence) (lv' := [(0, .ref 0), (1, .int x1), (2, .int x2), (3, .int x3), (4, .int (bI x4))]) [0, 1, 2, 3, 4] rfl ?_
        exact S_X11_silence_28 x1 x2 x3 x4 w1.2.1 w1.2.2 _ h
      · rw [if_neg c7] at h
        refine E_iconst (M := mX11_silence) (v := 1) 25 rfl dX11_silence_24 (by decide) ?_
        refine E_goto (M := mX11_silence) 29 (by decide) dX11_silence_25 ?_
        refine E_sub (M := mX11_silence) (lv' := [(0, .ref 0), (1, .int x1), (2, .int x2), (3, .int x3), (4, .int (bI x4))]) [0, 1, 2, 3, 4] rfl ?_
        exact S_X11_silence_29 x1 x2 x3 x4 true w1.2.1 w1.2.2 _ h
theorem C_X11_silence {g : Gx} {x1 : Int32} {x2 : Int32} {x3 : Int32} {x4 : Bool} {I : MI} {L : ML} {res : (String ⊕ Int64) × MI × ML} (h : f_X11_silence x1 x2 x3 x4 I L = some res) : Ent g 9 (bS res.1) mX11_silence [.ref 0, .int x1, .int x2, .int x3, .int (bI x4)] (I, L) (rJ res.1) (res.2.1, res.2.2) := Ent_of (by decide +kernel) (Nat.le_of_ble_eq_true rfl) (S_X11_silence x1 x2 x3 x4 I L _ h)
def f_X11_ears_99 (y0 : Int32) (I : MI) (L : ML) : Option ((String ⊕ Int32) × MI × ML) := some (.inr y0, I, L)
set_option maxRecDepth 100000 in
theorem S_X11_ears_99 {g : Gx} (y0 : Int32) (I : MI) (L : ML) (res : (String ⊕ Int32) × MI × ML) (h : f_X11_ears_99 y0 I L = some res) : E g 7 (bS res.1) mX11_ears 99 [] [.int y0] (I, L) (rI res.1) (res.2.1, res.2.2) := by
  unfold f_X11_ears_99 at h
  cases h
  exact E_iret (M := mX11_ears) rfl dX11_ears_99
def f_X11_ears_26 : Nat → Int32 → Nat → Int32 → Int32 → MI → ML → Option ((String ⊕ Int32) × MI × ML)
  | 0, _, _, _, _, _, _ => none
  | n + 1, x1, x3, x4, x5, I, L => Option.bind (hsO (I 0 4)) fun v1 => if (I v1 2) ≤ x5 then (if 0 < x4 then (Option.bind (hsO (I 0 4)) fun v4 => Option.bind (hsO (I 0 4)) fun v5 => Option.bind (ldR (v5 + 27) 6 x1) fun v6 => Option.bind (f_X3_heardLoudness v4 v6 x3 I L) fun v7 => Option.bind (dvI (100 * v7) x4) fun v8 => f_X11_ears_99 v8 I L) else (f_X11_ears_99 0 I L)) else (Option.bind (hsO (I 0 4)) fun v9 => Option.bind (hsO (I 0 4)) fun v10 => Option.bind (ldR (v10 + 27) 6 x5) fun v11 => Option.bind (f_X3_heardLoudness v9 v11 x3 I L) fun v12 => f_X11_ears_26 n x1 x3 (x4 + v12) (x5 + 1) I L)
set_option maxRecDepth 100000 in
theorem S_X11_ears_26 {g : Gx} : ∀ (n : Nat) (x1 : Int32) (x3 : Nat) (x4 : Int32) (x5 : Int32) (hx3 : isN x3) (I : MI) (L : ML) (res : (String ⊕ Int32) × MI × ML), f_X11_ears_26 n x1 x3 x4 x5 I L = some res → E g 7 (bS res.1) mX11_ears 26 [(0, .ref 0), (1, .int x1), (3, .ref x3), (4, .int x4), (5, .int x5)] [] (I, L) (rI res.1) (res.2.1, res.2.2) := by
  intro n
  induction n with
  | zero =>
    intros
    rename_i h
    cases h
  | succ n ih =>
    intro x1 x3 x4 x5 hx3 I L res h
    rw [f_X11_ears_26] at h
    refine E_iload (M := mX11_ears) 28 rfl dX11_ears_26 4 rfl ?_
    refine E_aload_n (M := mX11_ears) 29 rfl dX11_ears_28 rfl 0 rfl ?_
    replace h := Option.bind_eq_some_iff.mp h
    obtain ⟨v1, hv1, h⟩ := h
    refine E_hs (M := mX11_ears) 32 rfl dX11_ears_29 shc_0 fl_X11_40 rfl hv1 ?_
    refine E_gI (M := mX11_ears) 35 rfl dX11_ears_32 (sh_H (hsO_s hv1).1) fl_X11_264 rfl ?_
    refine E_icmp_ge (M := mX11_ears) 67 38 (by decide) rfl dX11_ears_35 (fun c2 => ?_) (fun c2 => ?_)
    · rw [if_pos c2] at h
      refine E_iload (M := mX11_ears) 69 rfl dX11_ears_67 3 rfl ?_
      refine E_if_gt (M := mX11_ears) 76 72 (by decide) rfl dX11_ears_69 (fun c3 => ?_) (fun c3 => ?_)
      · rw [if_pos c3] at h
        refine E_bipush (M := mX11_ears) (v := 100) 78 rfl dX11_ears_76 (by decide) ?_
        refine E_aload_n (M := mX11_ears) 79 rfl dX11_ears_78 rfl 0 rfl ?_
        replace h := Option.bind_eq_some_iff.mp h
        obtain ⟨v4, hv4, h⟩ := h
        refine E_hs (M := mX11_ears) 82 rfl dX11_ears_79 shc_0 fl_X11_40 rfl hv4 ?_
        refine E_aload_n (M := mX11_ears) 83 rfl dX11_ears_82 rfl 0 rfl ?_
        replace h := Option.bind_eq_some_iff.mp h
        obtain ⟨v5, hv5, h⟩ := h
        refine E_hs (M := mX11_ears) 86 rfl dX11_ears_83 shc_0 fl_X11_40 rfl hv5 ?_
        refine E_gR (M := mX11_ears) (v5 + 3) 89 rfl dX11_ears_86 (sh_H (hsO_s hv5).1) fl_X11_139 rfl (rt_H6 (hsO_s hv5).1) (H_lt (hsO_s hv5).1 3 (by decide)) ?_
        refine E_iload_n (M := mX11_ears) 90 rfl dX11_ears_89 rfl 1 rfl ?_
        replace h := Option.bind_eq_some_iff.mp h
        obtain ⟨v6, hv6, h⟩ := h
        refine E_ldE (M := mX11_ears) (hsO_s hv5).1 91 rfl dX11_ears_90 hv6 ?_
        refine E_aload_n (M := mX11_ears) 92 rfl dX11_ears_91 rfl 2 rfl ?_
        replace h := Option.bind_eq_some_iff.mp h
        obtain ⟨v7, hv7, h⟩ := h
        refine E_cV1 (M := mX11_ears) (As := [.ref v6, .ref x3]) 95 rfl dX11_ears_92 (sh_H (hsO_s hv4).1) ck_X11_373 cv_X3_heardLoudness rfl (by decide) (Nat.le_of_ble_eq_true rfl) (C_X3_heardLoudness (g := g) (hsO_s hv4).1 (isE_ld (hsO_s hv5).1 hv6) hx3 hv7) rfl ?_
        refine E_imul (M := mX11_ears) 96 rfl dX11_ears_95 ?_
        refine E_iload (M := mX11_ears) 98 rfl dX11_ears_96 3 rfl ?_
        replace h := Option.bind_eq_some_iff.mp h
        obtain ⟨v8, hv8, h⟩ := h
        refine E_dvI (M := mX11_ears) 99 rfl dX11_ears_98 hv8 ?_
        refine E_sub (M := mX11_ears) (lv' := []) [] rfl ?_
        exact S_X11_ears_99 v8 I L _ h
      · rw [if_neg c3] at h
        refine E_iconst (M := mX11_ears) (v := 0) 73 rfl dX11_ears_72 (by decide) ?_
        refine E_goto (M := mX11_ears) 99 (by decide) dX11_ears_73 ?_
        refine E_sub (M := mX11_ears) (lv' := []) [] rfl ?_
        exact S_X11_ears_99 0 I L _ h
    · rw [if_neg c2] at h
      refine E_iload (M := mX11_ears) 40 rfl dX11_ears_38 3 rfl ?_
      refine E_aload_n (M := mX11_ears) 41 rfl dX11_ears_40 rfl 0 rfl ?_
      replace h := Option.bind_eq_some_iff.mp h
      obtain ⟨v9, hv9, h⟩ := h
      refine E_hs (M := mX11_ears) 44 rfl dX11_ears_41 shc_0 fl_X11_40 rfl hv9 ?_
      refine E_aload_n (M := mX11_ears) 45 rfl dX11_ears_44 rfl 0 rfl ?_
      replace h := Option.bind_eq_some_iff.mp h
      obtain ⟨v10, hv10, h⟩ := h
      refine E_hs (M := mX11_ears) 48 rfl dX11_ears_45 shc_0 fl_X11_40 rfl hv10 ?_
      refine E_gR (M := mX11_ears) (v10 + 3) 51 rfl dX11_ears_48 (sh_H (hsO_s hv10).1) fl_X11_139 rfl (rt_H6 (hsO_s hv10).1) (H_lt (hsO_s hv10).1 3 (by decide)) ?_
      refine E_iload (M := mX11_ears) 53 rfl dX11_ears_51 4 rfl ?_
      replace h := Option.bind_eq_some_iff.mp h
      obtain ⟨v11, hv11, h⟩ := h
      refine E_ldE (M := mX11_ears) (hsO_s hv10).1 54 rfl dX11_ears_53 hv11 ?_
      refine E_aload_n (M := mX11_ears) 55 rfl dX11_ears_54 rfl 2 rfl ?_
      replace h := Option.bind_eq_some_iff.mp h
      obtain ⟨v12, hv12, h⟩ := h
      refine E_cV1 (M := mX11_ears) (As := [.ref v11, .ref x3]) 58 rfl dX11_ears_55 (sh_H (hsO_s hv9).1) ck_X11_373 cv_X3_heardLoudness rfl (by decide) (Nat.le_of_ble_eq_true rfl) (C_X3_heardLoudness (g := g) (hsO_s hv9).1 (isE_ld (hsO_s hv10).1 hv11) hx3 hv12) rfl ?_
      refine E_iadd (M := mX11_ears) 59 rfl dX11_ears_58 ?_
      refine E_istore (M := mX11_ears) (lv' := [(4, .int (x4 + v12)), (0, .ref 0), (1, .int x1), (3, .ref x3), (5, .int x5)]) 61 rfl dX11_ears_59 (Nat.le_of_ble_eq_true rfl) rfl ?_
      refine E_iinc (M := mX11_ears) (j := 4) (v := x5 + 1) (lv' := [(5, .int (x5 + 1)), (4, .int (x4 + v12)), (0, .ref 0), (1, .int x1), (3, .ref x3)]) 64 rfl dX11_ears_61 rfl rfl (Nat.le_of_ble_eq_true rfl) rfl ?_
      refine E_goto (M := mX11_ears) 26 (by decide) dX11_ears_64 ?_
      refine E_sub (M := mX11_ears) (lv' := [(0, .ref 0), (1, .int x1), (3, .ref x3), (4, .int (x4 + v12)), (5, .int (x5 + 1))]) [2, 3, 4, 1, 0] rfl ?_
      exact ih x1 x3 (x4 + v12) (x5 + 1) hx3 I L _ h
def f_X11_ears (x1 : Int32) (x2 : Int32) (I : MI) (L : ML) : Option ((String ⊕ Int32) × MI × ML) := Option.bind (f_X11_needHeir x1 I L) fun w1 => xc w1 fun _ => Option.bind (f_X11_needNoise x2 w1.2.1 w1.2.2) fun w4 => xc w4 fun _ => Option.bind (hsO (w4.2.1 0 4)) fun v7 => Option.bind (ldR (v7 + 33) 12 x2) fun v8 => f_X11_ears_26 FU x1 v8 0 0 w4.2.1 w4.2.2
set_option maxRecDepth 100000 in
theorem S_X11_ears {g : Gx} (x1 : Int32) (x2 : Int32) (I : MI) (L : ML) (res : (String ⊕ Int32) × MI × ML) (h : f_X11_ears x1 x2 I L = some res) : E g 7 (bS res.1) mX11_ears 0 [(0, .ref 0), (1, .int x1), (2, .int x2)] [] (I, L) (rI res.1) (res.2.1, res.2.2) := by
  unfold f_X11_ears at h
  refine E_aload_n (M := mX11_ears) 1 rfl dX11_ears_0 rfl 0 rfl ?_
  refine E_iload_n (M := mX11_ears) 2 rfl dX11_ears_1 rfl 1 rfl ?_
  replace h := Option.bind_eq_some_iff.mp h
  obtain ⟨w1, hw1, h⟩ := h
  replace h := xc_s h
  rcases h with ⟨ex2, hex2, rfl⟩ | ⟨v3, hv3, h⟩
  · have hc := (C_X11_needHeir (g := g) hw1)
    rw [hex2] at hc
    exact E_callVX (M := mX11_ears) (As := [.int x1]) dX11_ears_2 shc_0 ck_X11_136 cv_X11_needHeir rfl (by decide) (Nat.le_of_ble_eq_true rfl) hc rfl
  have hcv3 := (C_X11_needHeir (g := g) hw1)
  rw [hv3] at hcv3
  refine E_cV0 (M := mX11_ears) (As := [.int x1]) 5 rfl dX11_ears_2 shc_0 ck_X11_136 cv_X11_needHeir rfl (by decide) (Nat.le_of_ble_eq_true rfl) hcv3 rfl ?_
  refine E_aload_n (M := mX11_ears) 6 rfl dX11_ears_5 rfl 0 rfl ?_
  refine E_iload_n (M := mX11_ears) 7 rfl dX11_ears_6 rfl 2 rfl ?_
  replace h := Option.bind_eq_some_iff.mp h
  obtain ⟨w4, hw4, h⟩ := h
  replace h := xc_s h
  rcases h with ⟨ex5, hex5, rfl⟩ | ⟨v6, hv6, h⟩
  · have hc := (C_X11_needNoise (g := g) hw4)
    rw [hex5] at hc
    exact E_callVX (M := mX11_ears) (As := [.int x2]) dX11_ears_7 shc_0 ck_X11_160 cv_X11_needNoise rfl (by decide) (Nat.le_of_ble_eq_true rfl) hc rfl
  have hcv6 := (C_X11_needNoise (g := g) hw4)
  rw [hv6] at hcv6
  refine E_cV0 (M := mX11_ears) (As := [.int x2]) 10 rfl dX11_ears_7 shc_0 ck_X11_160 cv_X11_needNoise rfl (by decide) (Nat.le_of_ble_eq_true rfl) hcv6 rfl ?_
  refine E_aload_n (M := mX11_ears) 11 rfl dX11_ears_10 rfl 0 rfl ?_
  replace h := Option.bind_eq_some_iff.mp h
  obtain ⟨v7, hv7, h⟩ := h
  refine E_hs (M := mX11_ears) 14 rfl dX11_ears_11 shc_0 fl_X11_40 rfl hv7 ?_
  refine E_gR (M := mX11_ears) (v7 + 4) 17 rfl dX11_ears_14 (sh_H (hsO_s hv7).1) fl_X11_163 rfl (rt_H7 (hsO_s hv7).1) (H_lt (hsO_s hv7).1 4 (by decide)) ?_
  refine E_iload_n (M := mX11_ears) 18 rfl dX11_ears_17 rfl 2 rfl ?_
  replace h := Option.bind_eq_some_iff.mp h
  obtain ⟨v8, hv8, h⟩ := h
  refine E_ldN (M := mX11_ears) (hsO_s hv7).1 19 rfl dX11_ears_18 hv8 ?_
  refine E_astore_n (M := mX11_ears) (lv' := [(3, .ref v8), (0, .ref 0), (1, .int x1), (2, .int x2)]) 20 rfl dX11_ears_19 rfl (Nat.le_of_ble_eq_true rfl) rfl ?_
  refine E_iconst (M := mX11_ears) (v := 0) 21 rfl dX11_ears_20 (by decide) ?_
  refine E_istore (M := mX11_ears) (lv' := [(4, .int 0), (3, .ref v8), (0, .ref 0), (1, .int x1), (2, .int x2)]) 23 rfl dX11_ears_21 (Nat.le_of_ble_eq_true rfl) rfl ?_
  refine E_iconst (M := mX11_ears) (v := 0) 24 rfl dX11_ears_23 (by decide) ?_
  refine E_istore (M := mX11_ears) (lv' := [(5, .int 0), (4, .int 0), (3, .ref v8), (0, .ref 0), (1, .int x1), (2, .int x2)]) 26 rfl dX11_ears_24 (Nat.le_of_ble_eq_true rfl) rfl ?_
  refine E_sub (M := mX11_ears) (lv' := [(0, .ref 0), (1, .int x1), (3, .ref v8), (4, .int 0), (5, .int 0)]) [3, 4, 2, 1, 0] rfl ?_
  exact S_X11_ears_26 FU x1 v8 0 0 (isN_ld (hsO_s hv7).1 hv8) w4.2.1 w4.2.2 _ h
theorem C_X11_ears {g : Gx} {x1 : Int32} {x2 : Int32} {I : MI} {L : ML} {res : (String ⊕ Int32) × MI × ML} (h : f_X11_ears x1 x2 I L = some res) : Ent g 7 (bS res.1) mX11_ears [.ref 0, .int x1, .int x2] (I, L) (rI res.1) (res.2.1, res.2.2) := Ent_of (by decide +kernel) (Nat.le_of_ble_eq_true rfl) (S_X11_ears x1 x2 I L _ h)
def f_X11_gainIn_117 (k5 : Int32 → Int32 → Int64 → Int32 → MI → ML → Option (Int64 × MI × ML)) (x1 : Int32) (x2 : Int32) (x3 : Int64) (x5 : Int32) (I : MI) (L : ML) : Option (Int64 × MI × ML) := k5 x1 x2 x3 (x5 + 1) I L
set_option maxRecDepth 100000 in
theorem S_X11_gainIn_117 {g : Gx} {k5 : Int32 → Int32 → Int64 → Int32 → MI → ML → Option (Int64 × MI × ML)} (hk5 : ∀ (x1z : Int32) (x2z : Int32) (x3z : Int64) (x5z : Int32) (I : MI) (L : ML) (res : Int64 × MI × ML), k5 x1z x2z x3z x5z I L = some res → E g 8 0 mX11_gainIn 5 [(0, .ref 0), (1, .int x1z), (2, .int x2z), (3, .long x3z), (5, .int x5z)] [] (I, L) (.inl (some (.long res.1))) (res.2.1, res.2.2)) (x1 : Int32) (x2 : Int32) (x3 : Int64) (x5 : Int32) (I : MI) (L : ML) (res : Int64 × MI × ML) (h : f_X11_gainIn_117 k5 x1 x2 x3 x5 I L = some res) : E g 8 0 mX11_gainIn 117 [(0, .ref 0), (1, .int x1), (2, .int x2), (3, .long x3), (5, .int x5)] [] (I, L) (.inl (some (.long res.1))) (res.2.1, res.2.2) := by
  unfold f_X11_gainIn_117 at h
  refine E_iinc (M := mX11_gainIn) (j := 4) (v := x5 + 1) (lv' := [(5, .int (x5 + 1)), (0, .ref 0), (1, .int x1), (2, .int x2), (3, .long x3)]) 120 rfl dX11_gainIn_117 rfl rfl (Nat.le_of_ble_eq_true rfl) rfl ?_
  refine E_goto (M := mX11_gainIn) 5 (by decide) dX11_gainIn_120 ?_
  refine E_sub (M := mX11_gainIn) (lv' := [(0, .ref 0), (1, .int x1), (2, .int x2), (3, .long x3), (5, .int (x5 + 1))]) [1, 2, 3, 4, 0] rfl ?_
  exact hk5 x1 x2 x3 (x5 + 1) I L _ h
def f_X11_gainIn_5 : Nat → Int32 → Int32 → Int64 → Int32 → MI → ML → Option (Int64 × MI × ML)
  | 0, _, _, _, _, _, _ => none
  | n + 1, x1, x2, x3, x5, I, L => Option.bind (hsO (I 0 4)) fun v1 => if (I v1 3) ≤ x5 then (some (x3, I, L)) else (Option.bind (hsO (I 0 4)) fun v3 => Option.bind (ldR (v3 + 33) 12 x5) fun v4 => Option.bind (hsO (I 0 4)) fun v5 => Option.bind (f_X3_loudAt v5 v4 x2 I L) fun v6 => Option.bind (hsO (I 0 4)) fun v7 => Option.bind (ldR (v7 + 27) 6 x1) fun v8 => if v6 < (I v8 1) then (f_X11_gainIn_117 (f_X11_gainIn_5 n) x1 x2 x3 x5 I L) else (Option.bind (hsO (I 0 4)) fun v10 => Option.bind (f_X6_weigh v10 x5 I L) fun w11 => if (w11.1 8 2) ≤ 0 then (f_X11_gainIn_117 (f_X11_gainIn_5 n) x1 x2 x3 x5 w11.1 w11.2) else (Option.bind (hsO (w11.1 0 4)) fun v13 => Option.bind (f_X3_winter v13 v4 1 w11.1 w11.2) fun v14 => Option.bind (ldI w11.1 9 6 x1) fun v15 => Option.bind (dvL ((v14 * ((w11.1 v4 5).toInt64)) * v15.toInt64) ((w11.1 8 2).toInt64)) fun v16 => f_X11_gainIn_117 (f_X11_gainIn_5 n) x1 x2 (x3 + v16) x5 w11.1 w11.2)))
set_option maxRecDepth 100000 in
theorem S_X11_gainIn_5 {g : Gx} : ∀ (n : Nat) (x1 : Int32) (x2 : Int32) (x3 : Int64) (x5 : Int32) (I : MI) (L : ML) (res : Int64 × MI × ML), f_X11_gainIn_5 n x1 x2 x3 x5 I L = some res → E g 8 0 mX11_gainIn 5 [(0, .ref 0), (1, .int x1), (2, .int x2), (3, .long x3), (5, .int x5)] [] (I, L) (.inl (some (.long res.1))) (res.2.1, res.2.2) := by
  intro n
  induction n with
  | zero =>
    intros
    rename_i h
    cases h
  | succ n ih =>
    intro x1 x2 x3 x5 I L res h
    rw [f_X11_gainIn_5] at h
    refine E_iload (M := mX11_gainIn) 7 rfl dX11_gainIn_5 4 rfl ?_
    refine E_aload_n (M := mX11_gainIn) 8 rfl dX11_gainIn_7 rfl 0 rfl ?_
    replace h := Option.bind_eq_some_iff.mp h
    obtain ⟨v1, hv1, h⟩ := h
    refine E_hs (M := mX11_gainIn) 11 rfl dX11_gainIn_8 shc_0 fl_X11_40 rfl hv1 ?_
    refine E_gI (M := mX11_gainIn) 14 rfl dX11_gainIn_11 (sh_H (hsO_s hv1).1) fl_X11_245 rfl ?_
    refine E_icmp_ge (M := mX11_gainIn) 123 17 (by decide) rfl dX11_gainIn_14 (fun c2 => ?_) (fun c2 => ?_)
    · rw [if_pos c2] at h
      refine E_lload_n (M := mX11_gainIn) 124 rfl dX11_gainIn_123 rfl 3 rfl ?_
      cases h
      exact E_lret (M := mX11_gainIn) rfl dX11_gainIn_124
    · rw [if_neg c2] at h
      refine E_aload_n (M := mX11_gainIn) 18 rfl dX11_gainIn_17 rfl 0 rfl ?_
      replace h := Option.bind_eq_some_iff.mp h
      obtain ⟨v3, hv3, h⟩ := h
      refine E_hs (M := mX11_gainIn) 21 rfl dX11_gainIn_18 shc_0 fl_X11_40 rfl hv3 ?_
      refine E_gR (M := mX11_gainIn) (v3 + 4) 24 rfl dX11_gainIn_21 (sh_H (hsO_s hv3).1) fl_X11_163 rfl (rt_H7 (hsO_s hv3).1) (H_lt (hsO_s hv3).1 4 (by decide)) ?_
      refine E_iload (M := mX11_gainIn) 26 rfl dX11_gainIn_24 4 rfl ?_
      replace h := Option.bind_eq_some_iff.mp h
      obtain ⟨v4, hv4, h⟩ := h
      refine E_ldN (M := mX11_gainIn) (hsO_s hv3).1 27 rfl dX11_gainIn_26 hv4 ?_
      refine E_astore (M := mX11_gainIn) (lv' := [(6, .ref v4), (0, .ref 0), (1, .int x1), (2, .int x2), (3, .long x3), (5, .int x5)]) 29 rfl dX11_gainIn_27 (Nat.le_of_ble_eq_true rfl) rfl ?_
      refine E_aload_n (M := mX11_gainIn) 30 rfl dX11_gainIn_29 rfl 1 rfl ?_
      replace h := Option.bind_eq_some_iff.mp h
      obtain ⟨v5, hv5, h⟩ := h
      refine E_hs (M := mX11_gainIn) 33 rfl dX11_gainIn_30 shc_0 fl_X11_40 rfl hv5 ?_
      refine E_aload (M := mX11_gainIn) 35 rfl dX11_gainIn_33 0 rfl ?_
      refine E_iload_n (M := mX11_gainIn) 36 rfl dX11_gainIn_35 rfl 3 rfl ?_
      replace h := Option.bind_eq_some_iff.mp h
      obtain ⟨v6, hv6, h⟩ := h
      refine E_cV1 (M := mX11_gainIn) (As := [.ref v4, .int x2]) 39 rfl dX11_gainIn_36 (sh_H (hsO_s hv5).1) ck_X11_201 cv_X3_loudAt rfl (by decide) (Nat.le_of_ble_eq_true rfl) (C_X3_loudAt (g := g) (hsO_s hv5).1 (isN_ld (hsO_s hv3).1 hv4) hv6) rfl ?_
      refine E_aload_n (M := mX11_gainIn) 40 rfl dX11_gainIn_39 rfl 1 rfl ?_
      replace h := Option.bind_eq_some_iff.mp h
      obtain ⟨v7, hv7, h⟩ := h
      refine E_hs (M := mX11_gainIn) 43 rfl dX11_gainIn_40 shc_0 fl_X11_40 rfl hv7 ?_
      refine E_gR (M := mX11_gainIn) (v7 + 3) 46 rfl dX11_gainIn_43 (sh_H (hsO_s hv7).1) fl_X11_139 rfl (rt_H6 (hsO_s hv7).1) (H_lt (hsO_s hv7).1 3 (by decide)) ?_
      refine E_iload_n (M := mX11_gainIn) 47 rfl dX11_gainIn_46 rfl 2 rfl ?_
      replace h := Option.bind_eq_some_iff.mp h
      obtain ⟨v8, hv8, h⟩ := h
      refine E_ldE (M := mX11_gainIn) (hsO_s hv7).1 48 rfl dX11_gainIn_47 hv8 ?_
      refine E_gI (M := mX11_gainIn) 51 rfl dX11_gainIn_48 (sh_E (isE_ld (hsO_s hv7).1 hv8)) fl_X11_148 rfl ?_
      refine E_icmp_lt (M := mX11_gainIn) 117 54 (by decide) rfl dX11_gainIn_51 (fun c9 => ?_) (fun c9 => ?_)
      · rw [if_pos c9] at h
        refine E_sub (M := mX11_gainIn) (lv' := [(0, .ref 0), (1, .int x1), (2, .int x2), (3, .long x3), (5, .int x5)]) [1, 2, 3, 4, 5] rfl ?_
        exact S_X11_gainIn_117 ih x1 x2 x3 x5 I L _ h
      · rw [if_neg c9] at h
        refine E_aload_n (M := mX11_gainIn) 55 rfl dX11_gainIn_54 rfl 1 rfl ?_
        refine E_gR (M := mX11_gainIn) 8 58 rfl dX11_gainIn_55 shc_0 fl_X11_26 rfl (by decide) (by decide) ?_
        refine E_aload_n (M := mX11_gainIn) 59 rfl dX11_gainIn_58 rfl 1 rfl ?_
        replace h := Option.bind_eq_some_iff.mp h
        obtain ⟨v10, hv10, h⟩ := h
        refine E_hs (M := mX11_gainIn) 62 rfl dX11_gainIn_59 shc_0 fl_X11_40 rfl hv10 ?_
        refine E_iload (M := mX11_gainIn) 64 rfl dX11_gainIn_62 5 rfl ?_
        replace h := Option.bind_eq_some_iff.mp h
        obtain ⟨w11, hw11, h⟩ := h
        refine E_cV0 (M := mX11_gainIn) (As := [.ref v10, .int x5]) 67 rfl dX11_gainIn_64 shc_8 ck_X11_205 cv_X6_weigh rfl (by decide) (Nat.le_of_ble_eq_true rfl) (C_X6_weigh (g := g) (hsO_s hv10).1 hw11) rfl ?_
        refine E_aload_n (M := mX11_gainIn) 68 rfl dX11_gainIn_67 rfl 1 rfl ?_
        refine E_gR (M := mX11_gainIn) 8 71 rfl dX11_gainIn_68 shc_0 fl_X11_26 rfl (by decide) (by decide) ?_
        refine E_gI (M := mX11_gainIn) 74 rfl dX11_gainIn_71 shc_8 fl_X11_381 rfl ?_
        refine E_if_le (M := mX11_gainIn) 117 77 (by decide) rfl dX11_gainIn_74 (fun c12 => ?_) (fun c12 => ?_)
        · rw [if_pos c12] at h
          refine E_sub (M := mX11_gainIn) (lv' := [(0, .ref 0), (1, .int x1), (2, .int x2), (3, .long x3), (5, .int x5)]) [1, 2, 3, 4, 5] rfl ?_
          exact S_X11_gainIn_117 ih x1 x2 x3 x5 w11.1 w11.2 _ h
        · rw [if_neg c12] at h
          refine E_lload_n (M := mX11_gainIn) 78 rfl dX11_gainIn_77 rfl 4 rfl ?_
          refine E_aload_n (M := mX11_gainIn) 79 rfl dX11_gainIn_78 rfl 1 rfl ?_
          replace h := Option.bind_eq_some_iff.mp h
          obtain ⟨v13, hv13, h⟩ := h
          refine E_hs (M := mX11_gainIn) 82 rfl dX11_gainIn_79 shc_0 fl_X11_40 rfl hv13 ?_
          refine E_aload (M := mX11_gainIn) 84 rfl dX11_gainIn_82 0 rfl ?_
          refine E_iconst (M := mX11_gainIn) (v := 1) 85 rfl dX11_gainIn_84 (by decide) ?_
          replace h := Option.bind_eq_some_iff.mp h
          obtain ⟨v14, hv14, h⟩ := h
          refine E_cV1 (M := mX11_gainIn) (As := [.ref v4, .int 1]) 88 rfl dX11_gainIn_85 (sh_H (hsO_s hv13).1) ck_X11_384 cv_X3_winter rfl (by decide) (Nat.le_of_ble_eq_true rfl) (C_X3_winter (g := g) (hsO_s hv13).1 (isN_ld (hsO_s hv3).1 hv4) hv14) rfl ?_
          refine E_aload (M := mX11_gainIn) 90 rfl dX11_gainIn_88 0 rfl ?_
          refine E_gI (M := mX11_gainIn) 93 rfl dX11_gainIn_90 (sh_N (isN_ld (hsO_s hv3).1 hv4)) fl_X11_179 rfl ?_
          refine E_i2l (M := mX11_gainIn) 94 rfl dX11_gainIn_93 ?_
          refine E_lmul (M := mX11_gainIn) 95 rfl dX11_gainIn_94 ?_
          refine E_aload_n (M := mX11_gainIn) 96 rfl dX11_gainIn_95 rfl 1 rfl ?_
          refine E_gR (M := mX11_gainIn) 8 99 rfl dX11_gainIn_96 shc_0 fl_X11_26 rfl (by decide) (by decide) ?_
          refine E_gR (M := mX11_gainIn) 9 102 rfl dX11_gainIn_99 shc_8 fl_X11_209 rfl (by decide) (by decide) ?_
          refine E_iload_n (M := mX11_gainIn) 103 rfl dX11_gainIn_102 rfl 2 rfl ?_
          replace h := Option.bind_eq_some_iff.mp h
          obtain ⟨v15, hv15, h⟩ := h
          refine E_ldI (M := mX11_gainIn) 104 rfl dX11_gainIn_103 shc_9 hv15 ?_
          refine E_i2l (M := mX11_gainIn) 105 rfl dX11_gainIn_104 ?_
          refine E_lmul (M := mX11_gainIn) 106 rfl dX11_gainIn_105 ?_
          refine E_aload_n (M := mX11_gainIn) 107 rfl dX11_gainIn_106 rfl 1 rfl ?_
          refine E_gR (M := mX11_gainIn) 8 110 rfl dX11_gainIn_107 shc_0 fl_X11_26 rfl (by decide) (by decide) ?_
          refine E_gI (M := mX11_gainIn) 113 rfl dX11_gainIn_110 shc_8 fl_X11_381 rfl ?_
          refine E_i2l (M := mX11_gainIn) 114 rfl dX11_gainIn_113 ?_
          replace h := Option.bind_eq_some_iff.mp h
          obtain ⟨v16, hv16, h⟩ := h
          refine E_dvL (M := mX11_gainIn) 115 rfl dX11_gainIn_114 hv16 ?_
          refine E_ladd (M := mX11_gainIn) 116 rfl dX11_gainIn_115 ?_
          refine E_lstore_n (M := mX11_gainIn) (lv' := [(3, .long (x3 + v16)), (6, .ref v4), (0, .ref 0), (1, .int x1), (2, .int x2), (5, .int x5)]) 117 rfl dX11_gainIn_116 rfl (Nat.le_of_ble_eq_true rfl) rfl ?_
          refine E_sub (M := mX11_gainIn) (lv' := [(0, .ref 0), (1, .int x1), (2, .int x2), (3, .long (x3 + v16)), (5, .int x5)]) [2, 3, 4, 0, 5] rfl ?_
          exact S_X11_gainIn_117 ih x1 x2 (x3 + v16) x5 w11.1 w11.2 _ h
def f_X11_gainIn (x1 : Int32) (x2 : Int32) (I : MI) (L : ML) : Option (Int64 × MI × ML) := f_X11_gainIn_5 FU x1 x2 0 0 I L
set_option maxRecDepth 100000 in
theorem S_X11_gainIn {g : Gx} (x1 : Int32) (x2 : Int32) (I : MI) (L : ML) (res : Int64 × MI × ML) (h : f_X11_gainIn x1 x2 I L = some res) : E g 8 0 mX11_gainIn 0 [(0, .ref 0), (1, .int x1), (2, .int x2)] [] (I, L) (.inl (some (.long res.1))) (res.2.1, res.2.2) := by
  unfold f_X11_gainIn at h
  refine E_lconst (M := mX11_gainIn) (v := 0) 1 rfl dX11_gainIn_0 (by decide) ?_
  refine E_lstore_n (M := mX11_gainIn) (lv' := [(3, .long 0), (0, .ref 0), (1, .int x1), (2, .int x2)]) 2 rfl dX11_gainIn_1 rfl (Nat.le_of_ble_eq_true rfl) rfl ?_
  refine E_iconst (M := mX11_gainIn) (v := 0) 3 rfl dX11_gainIn_2 (by decide) ?_
  refine E_istore (M := mX11_gainIn) (lv' := [(5, .int 0), (3, .long 0), (0, .ref 0), (1, .int x1), (2, .int x2)]) 5 rfl dX11_gainIn_3 (Nat.le_of_ble_eq_true rfl) rfl ?_
  refine E_sub (M := mX11_gainIn) (lv' := [(0, .ref 0), (1, .int x1), (2, .int x2), (3, .long 0), (5, .int 0)]) [2, 3, 4, 1, 0] rfl ?_
  exact S_X11_gainIn_5 FU x1 x2 0 0 I L _ h
theorem C_X11_gainIn {g : Gx} {x1 : Int32} {x2 : Int32} {I : MI} {L : ML} {res : Int64 × MI × ML} (h : f_X11_gainIn x1 x2 I L = some res) : Ent g 8 0 mX11_gainIn [.ref 0, .int x1, .int x2] (I, L) (.inl (some (.long res.1))) (res.2.1, res.2.2) := Ent_of (by decide +kernel) (Nat.le_of_ble_eq_true rfl) (S_X11_gainIn x1 x2 I L _ h)
def f_X11_seat_48 (k14 : Int32 → Int32 → Int64 → Int32 → MI → ML → Option ((String ⊕ Int32) × MI × ML)) (x1 : Int32) (x2 : Int32) (x3 : Int64) (x5 : Int32) (I : MI) (L : ML) : Option ((String ⊕ Int32) × MI × ML) := k14 x1 x2 x3 (x5 + 1) I L
set_option maxRecDepth 100000 in
theorem S_X11_seat_48 {g : Gx} {k14 : Int32 → Int32 → Int64 → Int32 → MI → ML → Option ((String ⊕ Int32) × MI × ML)} (hk14 : ∀ (x1z : Int32) (x2z : Int32) (x3z : Int64) (x5z : Int32) (I : MI) (L : ML) (res : (String ⊕ Int32) × MI × ML), k14 x1z x2z x3z x5z I L = some res → E g 9 (bS res.1) mX11_seat 14 [(0, .ref 0), (1, .int x1z), (2, .int x2z), (3, .long x3z), (5, .int x5z)] [] (I, L) (rI res.1) (res.2.1, res.2.2)) (x1 : Int32) (x2 : Int32) (x3 : Int64) (x5 : Int32) (I : MI) (L : ML) (res : (String ⊕ Int32) × MI × ML) (h : f_X11_seat_48 k14 x1 x2 x3 x5 I L = some res) : E g 9 (bS res.1) mX11_seat 48 [(0, .ref 0), (1, .int x1), (2, .int x2), (3, .long x3), (5, .int x5)] [] (I, L) (rI res.1) (res.2.1, res.2.2) := by
  unfold f_X11_seat_48 at h
  refine E_iinc (M := mX11_seat) (j := 4) (v := x5 + 1) (lv' := [(5, .int (x5 + 1)), (0, .ref 0), (1, .int x1), (2, .int x2), (3, .long x3)]) 51 rfl dX11_seat_48 rfl rfl (Nat.le_of_ble_eq_true rfl) rfl ?_
  refine E_goto (M := mX11_seat) 14 (by decide) dX11_seat_51 ?_
  refine E_sub (M := mX11_seat) (lv' := [(0, .ref 0), (1, .int x1), (2, .int x2), (3, .long x3), (5, .int (x5 + 1))]) [1, 2, 3, 4, 0] rfl ?_
  exact hk14 x1 x2 x3 (x5 + 1) I L _ h
def f_X11_seat_14 : Nat → Int32 → Int32 → Int64 → Int32 → MI → ML → Option ((String ⊕ Int32) × MI × ML)
  | 0, _, _, _, _, _, _ => none
  | n + 1, x1, x2, x3, x5, I, L => Option.bind (hsO (I 0 4)) fun v1 => if (I v1 0) ≤ x5 then (some (.inr x2, I, L)) else (Option.bind (f_X11_gainIn x1 x5 I L) fun w3 => if w3.1 ≤ x3 then (f_X11_seat_48 (f_X11_seat_14 n) x1 x2 x3 x5 w3.2.1 w3.2.2) else (f_X11_seat_48 (f_X11_seat_14 n) x1 x5 w3.1 x5 w3.2.1 w3.2.2))
set_option maxRecDepth 100000 in
theorem S_X11_seat_14 {g : Gx} : ∀ (n : Nat) (x1 : Int32) (x2 : Int32) (x3 : Int64) (x5 : Int32) (I : MI) (L : ML) (res : (String ⊕ Int32) × MI × ML), f_X11_seat_14 n x1 x2 x3 x5 I L = some res → E g 9 (bS res.1) mX11_seat 14 [(0, .ref 0), (1, .int x1), (2, .int x2), (3, .long x3), (5, .int x5)] [] (I, L) (rI res.1) (res.2.1, res.2.2) := by
  intro n
  induction n with
  | zero =>
    intros
    rename_i h
    cases h
  | succ n ih =>
    intro x1 x2 x3 x5 I L res h
    rw [f_X11_seat_14] at h
    refine E_iload (M := mX11_seat) 16 rfl dX11_seat_14 4 rfl ?_
    refine E_aload_n (M := mX11_seat) 17 rfl dX11_seat_16 rfl 0 rfl ?_
    replace h := Option.bind_eq_some_iff.mp h
    obtain ⟨v1, hv1, h⟩ := h
    refine E_hs (M := mX11_seat) 20 rfl dX11_seat_17 shc_0 fl_X11_40 rfl hv1 ?_
    refine E_gI (M := mX11_seat) 23 rfl dX11_seat_20 (sh_H (hsO_s hv1).1) fl_X11_329 rfl ?_
    refine E_icmp_ge (M := mX11_seat) 54 26 (by decide) rfl dX11_seat_23 (fun c2 => ?_) (fun c2 => ?_)
    · rw [if_pos c2] at h
      refine E_iload_n (M := mX11_seat) 55 rfl dX11_seat_54 rfl 2 rfl ?_
      cases h
      exact E_iret (M := mX11_seat) rfl dX11_seat_55
    · rw [if_neg c2] at h
      refine E_aload_n (M := mX11_seat) 27 rfl dX11_seat_26 rfl 0 rfl ?_
      refine E_iload_n (M := mX11_seat) 28 rfl dX11_seat_27 rfl 1 rfl ?_
      refine E_iload (M := mX11_seat) 30 rfl dX11_seat_28 4 rfl ?_
      replace h := Option.bind_eq_some_iff.mp h
      obtain ⟨w3, hw3, h⟩ := h
      refine E_cV1 (M := mX11_seat) (As := [.int x1, .int x5]) 33 rfl dX11_seat_30 shc_0 ck_X11_377 cv_X11_gainIn rfl (by decide) (Nat.le_of_ble_eq_true rfl) (C_X11_gainIn (g := g) hw3) rfl ?_
      refine E_lstore (M := mX11_seat) (lv' := [(6, .long w3.1), (0, .ref 0), (1, .int x1), (2, .int x2), (3, .long x3), (5, .int x5)]) 35 rfl dX11_seat_33 (Nat.le_of_ble_eq_true rfl) rfl ?_
      refine E_lload (M := mX11_seat) 37 rfl dX11_seat_35 0 rfl ?_
      refine E_lload_n (M := mX11_seat) 38 rfl dX11_seat_37 rfl 4 rfl ?_
      refine E_lc_le (M := mX11_seat) 48 39 42 (by decide) rfl rfl dX11_seat_38 dX11_seat_39 (fun c4 => ?_) (fun c4 => ?_)
      · rw [if_pos c4] at h
        refine E_sub (M := mX11_seat) (lv' := [(0, .ref 0), (1, .int x1), (2, .int x2), (3, .long x3), (5, .int x5)]) [1, 2, 3, 4, 5] rfl ?_
        exact S_X11_seat_48 ih x1 x2 x3 x5 w3.2.1 w3.2.2 _ h
      · rw [if_neg c4] at h
        refine E_lload (M := mX11_seat) 44 rfl dX11_seat_42 0 rfl ?_
        refine E_lstore_n (M := mX11_seat) (lv' := [(3, .long w3.1), (6, .long w3.1), (0, .ref 0), (1, .int x1), (2, .int x2), (5, .int x5)]) 45 rfl dX11_seat_44 rfl (Nat.le_of_ble_eq_true rfl) rfl ?_
        refine E_iload (M := mX11_seat) 47 rfl dX11_seat_45 5 rfl ?_
        refine E_istore_n (M := mX11_seat) (lv' := [(2, .int x5), (3, .long w3.1), (6, .long w3.1), (0, .ref 0), (1, .int x1), (5, .int x5)]) 48 rfl dX11_seat_47 rfl (Nat.le_of_ble_eq_true rfl) rfl ?_
        refine E_sub (M := mX11_seat) (lv' := [(0, .ref 0), (1, .int x1), (2, .int x5), (3, .long w3.1), (5, .int x5)]) [3, 4, 0, 1, 5] rfl ?_
        exact S_X11_seat_48 ih x1 x5 w3.1 x5 w3.2.1 w3.2.2 _ h
def f_X11_seat (x1 : Int32) (I : MI) (L : ML) : Option ((String ⊕ Int32) × MI × ML) := Option.bind (f_X11_needHeir x1 I L) fun w1 => xc w1 fun _ => f_X11_seat_14 FU x1 ((-1)) ((-1)) 0 w1.2.1 w1.2.2
set_option maxRecDepth 100000 in
theorem S_X11_seat {g : Gx} (x1 : Int32) (I : MI) (L : ML) (res : (String ⊕ Int32) × MI × ML) (h : f_X11_seat x1 I L = some res) : E g 9 (bS res.1) mX11_seat 0 [(0, .ref 0), (1, .int x1)] [] (I, L) (rI res.1) (res.2.1, res.2.2) := by
  unfold f_X11_seat at h
  refine E_aload_n (M := mX11_seat) 1 rfl dX11_seat_0 rfl 0 rfl ?_
  refine E_iload_n (M := mX11_seat) 2 rfl dX11_seat_1 rfl 1 rfl ?_
  replace h := Option.bind_eq_some_iff.mp h
  obtain ⟨w1, hw1, h⟩ := h
  replace h := xc_s h
  rcases h with ⟨ex2, hex2, rfl⟩ | ⟨v3, hv3, h⟩
  · have hc := (C_X11_needHeir (g := g) hw1)
    rw [hex2] at hc
    exact E_callVX (M := mX11_seat) (As := [.int x1]) dX11_seat_2 shc_0 ck_X11_136 cv_X11_needHeir rfl (by decide) (Nat.le_of_ble_eq_true rfl) hc rfl
  have hcv3 := (C_X11_needHeir (g := g) hw1)
  rw [hv3] at hcv3
  refine E_cV0 (M := mX11_seat) (As := [.int x1]) 5 rfl dX11_seat_2 shc_0 ck_X11_136 cv_X11_needHeir rfl (by decide) (Nat.le_of_ble_eq_true rfl) hcv3 rfl ?_
  refine E_iconst (M := mX11_seat) (v := (-1)) 6 rfl dX11_seat_5 (by decide) ?_
  refine E_istore_n (M := mX11_seat) (lv' := [(2, .int ((-1))), (0, .ref 0), (1, .int x1)]) 7 rfl dX11_seat_6 rfl (Nat.le_of_ble_eq_true rfl) rfl ?_
  refine E_ldc2 (M := mX11_seat) 10 rfl dX11_seat_7 csl_X11_371 ?_
  refine E_lstore_n (M := mX11_seat) (lv' := [(3, .long ((-1))), (2, .int ((-1))), (0, .ref 0), (1, .int x1)]) 11 rfl dX11_seat_10 rfl (Nat.le_of_ble_eq_true rfl) rfl ?_
  refine E_iconst (M := mX11_seat) (v := 0) 12 rfl dX11_seat_11 (by decide) ?_
  refine E_istore (M := mX11_seat) (lv' := [(5, .int 0), (3, .long ((-1))), (2, .int ((-1))), (0, .ref 0), (1, .int x1)]) 14 rfl dX11_seat_12 (Nat.le_of_ble_eq_true rfl) rfl ?_
  refine E_sub (M := mX11_seat) (lv' := [(0, .ref 0), (1, .int x1), (2, .int ((-1))), (3, .long ((-1))), (5, .int 0)]) [3, 4, 2, 1, 0] rfl ?_
  exact S_X11_seat_14 FU x1 ((-1)) ((-1)) 0 w1.2.1 w1.2.2 _ h
theorem C_X11_seat {g : Gx} {x1 : Int32} {I : MI} {L : ML} {res : (String ⊕ Int32) × MI × ML} (h : f_X11_seat x1 I L = some res) : Ent g 9 (bS res.1) mX11_seat [.ref 0, .int x1] (I, L) (rI res.1) (res.2.1, res.2.2) := Ent_of (by decide +kernel) (Nat.le_of_ble_eq_true rfl) (S_X11_seat x1 I L _ h)
def f_X11_worthFor_5 : Nat → Int32 → Int64 → Int32 → MI → ML → Option (Int64 × MI × ML)
  | 0, _, _, _, _, _ => none
  | n + 1, x1, x2, x4, I, L => Option.bind (hsO (I 0 4)) fun v1 => if (I v1 3) ≤ x4 then (some (x2, I, L)) else (Option.bind (hsO (I 0 4)) fun v3 => Option.bind (f_X6_weigh v3 x4 I L) fun w4 => Option.bind (hsO (w4.1 0 4)) fun v5 => Option.bind (hsO (w4.1 0 4)) fun v6 => Option.bind (ldR (v6 + 33) 12 x4) fun v7 => Option.bind (f_X3_dueFor v5 v7 100 w4.1 w4.2) fun v8 => Option.bind (f_X6_divide v8 w4.1 w4.2) fun w9 => Option.bind (ldL w9.2 10 6 x1) fun v10 => f_X11_worthFor_5 n x1 (x2 + v10) (x4 + 1) w9.1 w9.2)
set_option maxRecDepth 100000 in
theorem S_X11_worthFor_5 {g : Gx} : ∀ (n : Nat) (x1 : Int32) (x2 : Int64) (x4 : Int32) (I : MI) (L : ML) (res : Int64 × MI × ML), f_X11_worthFor_5 n x1 x2 x4 I L = some res → E g 9 0 mX11_worthFor 5 [(0, .ref 0), (1, .int x1), (2, .long x2), (4, .int x4)] [] (I, L) (.inl (some (.long res.1))) (res.2.1, res.2.2) := by
  intro n
  induction n with
  | zero =>
    intros
    rename_i h
    cases h
  | succ n ih =>
    intro x1 x2 x4 I L res h
    rw [f_X11_worthFor_5] at h
    refine E_iload (M := mX11_worthFor) 7 rfl dX11_worthFor_5 3 rfl ?_
    refine E_aload_n (M := mX11_worthFor) 8 rfl dX11_worthFor_7 rfl 0 rfl ?_
    replace h := Option.bind_eq_some_iff.mp h
    obtain ⟨v1, hv1, h⟩ := h
    refine E_hs (M := mX11_worthFor) 11 rfl dX11_worthFor_8 shc_0 fl_X11_40 rfl hv1 ?_
    refine E_gI (M := mX11_worthFor) 14 rfl dX11_worthFor_11 (sh_H (hsO_s hv1).1) fl_X11_245 rfl ?_
    refine E_icmp_ge (M := mX11_worthFor) 74 17 (by decide) rfl dX11_worthFor_14 (fun c2 => ?_) (fun c2 => ?_)
    · rw [if_pos c2] at h
      refine E_lload_n (M := mX11_worthFor) 75 rfl dX11_worthFor_74 rfl 2 rfl ?_
      cases h
      exact E_lret (M := mX11_worthFor) rfl dX11_worthFor_75
    · rw [if_neg c2] at h
      refine E_aload_n (M := mX11_worthFor) 18 rfl dX11_worthFor_17 rfl 0 rfl ?_
      refine E_gR (M := mX11_worthFor) 8 21 rfl dX11_worthFor_18 shc_0 fl_X11_26 rfl (by decide) (by decide) ?_
      refine E_aload_n (M := mX11_worthFor) 22 rfl dX11_worthFor_21 rfl 0 rfl ?_
      replace h := Option.bind_eq_some_iff.mp h
      obtain ⟨v3, hv3, h⟩ := h
      refine E_hs (M := mX11_worthFor) 25 rfl dX11_worthFor_22 shc_0 fl_X11_40 rfl hv3 ?_
      refine E_iload (M := mX11_worthFor) 27 rfl dX11_worthFor_25 3 rfl ?_
      replace h := Option.bind_eq_some_iff.mp h
      obtain ⟨w4, hw4, h⟩ := h
      refine E_cV0 (M := mX11_worthFor) (As := [.ref v3, .int x4]) 30 rfl dX11_worthFor_27 shc_8 ck_X11_205 cv_X6_weigh rfl (by decide) (Nat.le_of_ble_eq_true rfl) (C_X6_weigh (g := g) (hsO_s hv3).1 hw4) rfl ?_
      refine E_aload_n (M := mX11_worthFor) 31 rfl dX11_worthFor_30 rfl 0 rfl ?_
      refine E_gR (M := mX11_worthFor) 8 34 rfl dX11_worthFor_31 shc_0 fl_X11_26 rfl (by decide) (by decide) ?_
      refine E_aload_n (M := mX11_worthFor) 35 rfl dX11_worthFor_34 rfl 0 rfl ?_
      replace h := Option.bind_eq_some_iff.mp h
      obtain ⟨v5, hv5, h⟩ := h
      refine E_hs (M := mX11_worthFor) 38 rfl dX11_worthFor_35 shc_0 fl_X11_40 rfl hv5 ?_
      refine E_aload_n (M := mX11_worthFor) 39 rfl dX11_worthFor_38 rfl 0 rfl ?_
      replace h := Option.bind_eq_some_iff.mp h
      obtain ⟨v6, hv6, h⟩ := h
      refine E_hs (M := mX11_worthFor) 42 rfl dX11_worthFor_39 shc_0 fl_X11_40 rfl hv6 ?_
      refine E_gR (M := mX11_worthFor) (v6 + 4) 45 rfl dX11_worthFor_42 (sh_H (hsO_s hv6).1) fl_X11_163 rfl (rt_H7 (hsO_s hv6).1) (H_lt (hsO_s hv6).1 4 (by decide)) ?_
      refine E_iload (M := mX11_worthFor) 47 rfl dX11_worthFor_45 3 rfl ?_
      replace h := Option.bind_eq_some_iff.mp h
      obtain ⟨v7, hv7, h⟩ := h
      refine E_ldN (M := mX11_worthFor) (hsO_s hv6).1 48 rfl dX11_worthFor_47 hv7 ?_
      refine E_bipush (M := mX11_worthFor) (v := 100) 50 rfl dX11_worthFor_48 (by decide) ?_
      replace h := Option.bind_eq_some_iff.mp h
      obtain ⟨v8, hv8, h⟩ := h
      refine E_cV1 (M := mX11_worthFor) (As := [.ref v7, .int 100]) 53 rfl dX11_worthFor_50 (sh_H (hsO_s hv5).1) ck_X11_321 cv_X3_dueFor rfl (by decide) (Nat.le_of_ble_eq_true rfl) (C_X3_dueFor (g := g) (hsO_s hv5).1 (isN_ld (hsO_s hv6).1 hv7) hv8) rfl ?_
      replace h := Option.bind_eq_some_iff.mp h
      obtain ⟨w9, hw9, h⟩ := h
      refine E_cV0 (M := mX11_worthFor) (As := [.long v8]) 56 rfl dX11_worthFor_53 shc_8 ck_X11_217 cv_X6_divide rfl (by decide) (Nat.le_of_ble_eq_true rfl) (C_X6_divide (g := g) hw9) rfl ?_
      refine E_lload_n (M := mX11_worthFor) 57 rfl dX11_worthFor_56 rfl 2 rfl ?_
      refine E_aload_n (M := mX11_worthFor) 58 rfl dX11_worthFor_57 rfl 0 rfl ?_
      refine E_gR (M := mX11_worthFor) 8 61 rfl dX11_worthFor_58 shc_0 fl_X11_26 rfl (by decide) (by decide) ?_
      refine E_gR (M := mX11_worthFor) 10 64 rfl dX11_worthFor_61 shc_8 fl_X11_225 rfl (by decide) (by decide) ?_
      refine E_iload_n (M := mX11_worthFor) 65 rfl dX11_worthFor_64 rfl 1 rfl ?_
      replace h := Option.bind_eq_some_iff.mp h
      obtain ⟨v10, hv10, h⟩ := h
      refine E_ldL (M := mX11_worthFor) 66 rfl dX11_worthFor_65 shc_10 hv10 ?_
      refine E_ladd (M := mX11_worthFor) 67 rfl dX11_worthFor_66 ?_
      refine E_lstore_n (M := mX11_worthFor) (lv' := [(2, .long (x2 + v10)), (0, .ref 0), (1, .int x1), (4, .int x4)]) 68 rfl dX11_worthFor_67 rfl (Nat.le_of_ble_eq_true rfl) rfl ?_
      refine E_iinc (M := mX11_worthFor) (j := 3) (v := x4 + 1) (lv' := [(4, .int (x4 + 1)), (2, .long (x2 + v10)), (0, .ref 0), (1, .int x1)]) 71 rfl dX11_worthFor_68 rfl rfl (Nat.le_of_ble_eq_true rfl) rfl ?_
      refine E_goto (M := mX11_worthFor) 5 (by decide) dX11_worthFor_71 ?_
      refine E_sub (M := mX11_worthFor) (lv' := [(0, .ref 0), (1, .int x1), (2, .long (x2 + v10)), (4, .int (x4 + 1))]) [2, 3, 1, 0] rfl ?_
      exact ih x1 (x2 + v10) (x4 + 1) w9.1 w9.2 _ h
def f_X11_worthFor (x1 : Int32) (I : MI) (L : ML) : Option (Int64 × MI × ML) := f_X11_worthFor_5 FU x1 0 0 I L
set_option maxRecDepth 100000 in
theorem S_X11_worthFor {g : Gx} (x1 : Int32) (I : MI) (L : ML) (res : Int64 × MI × ML) (h : f_X11_worthFor x1 I L = some res) : E g 9 0 mX11_worthFor 0 [(0, .ref 0), (1, .int x1)] [] (I, L) (.inl (some (.long res.1))) (res.2.1, res.2.2) := by
  unfold f_X11_worthFor at h
  refine E_lconst (M := mX11_worthFor) (v := 0) 1 rfl dX11_worthFor_0 (by decide) ?_
  refine E_lstore_n (M := mX11_worthFor) (lv' := [(2, .long 0), (0, .ref 0), (1, .int x1)]) 2 rfl dX11_worthFor_1 rfl (Nat.le_of_ble_eq_true rfl) rfl ?_
  refine E_iconst (M := mX11_worthFor) (v := 0) 3 rfl dX11_worthFor_2 (by decide) ?_
  refine E_istore (M := mX11_worthFor) (lv' := [(4, .int 0), (2, .long 0), (0, .ref 0), (1, .int x1)]) 5 rfl dX11_worthFor_3 (Nat.le_of_ble_eq_true rfl) rfl ?_
  refine E_sub (M := mX11_worthFor) (lv' := [(0, .ref 0), (1, .int x1), (2, .long 0), (4, .int 0)]) [2, 3, 1, 0] rfl ?_
  exact S_X11_worthFor_5 FU x1 0 0 I L _ h
theorem C_X11_worthFor {g : Gx} {x1 : Int32} {I : MI} {L : ML} {res : Int64 × MI × ML} (h : f_X11_worthFor x1 I L = some res) : Ent g 9 0 mX11_worthFor [.ref 0, .int x1] (I, L) (.inl (some (.long res.1))) (res.2.1, res.2.2) := Ent_of (by decide +kernel) (Nat.le_of_ble_eq_true rfl) (S_X11_worthFor x1 I L _ h)
def f_X11_value (x1 : Int32) (I : MI) (L : ML) : Option ((String ⊕ Int64) × MI × ML) := Option.bind (f_X11_needHeir x1 I L) fun w1 => xc w1 fun _ => Option.bind (f_X11_worthFor x1 w1.2.1 w1.2.2) fun w4 => some (.inr w4.1, w4.2.1, w4.2.2)
set_option maxRecDepth 100000 in
theorem S_X11_value {g : Gx} (x1 : Int32) (I : MI) (L : ML) (res : (String ⊕ Int64) × MI × ML) (h : f_X11_value x1 I L = some res) : E g 10 (bS res.1) mX11_value 0 [(0, .ref 0), (1, .int x1)] [] (I, L) (rJ res.1) (res.2.1, res.2.2) := by
  unfold f_X11_value at h
  refine E_aload_n (M := mX11_value) 1 rfl dX11_value_0 rfl 0 rfl ?_
  refine E_iload_n (M := mX11_value) 2 rfl dX11_value_1 rfl 1 rfl ?_
  replace h := Option.bind_eq_some_iff.mp h
  obtain ⟨w1, hw1, h⟩ := h
  replace h := xc_s h
  rcases h with ⟨ex2, hex2, rfl⟩ | ⟨v3, hv3, h⟩
  · have hc := (C_X11_needHeir (g := g) hw1)
    rw [hex2] at hc
    exact E_callVX (M := mX11_value) (As := [.int x1]) dX11_value_2 shc_0 ck_X11_136 cv_X11_needHeir rfl (by decide) (Nat.le_of_ble_eq_true rfl) hc rfl
  have hcv3 := (C_X11_needHeir (g := g) hw1)
  rw [hv3] at hcv3
  refine E_cV0 (M := mX11_value) (As := [.int x1]) 5 rfl dX11_value_2 shc_0 ck_X11_136 cv_X11_needHeir rfl (by decide) (Nat.le_of_ble_eq_true rfl) hcv3 rfl ?_
  refine E_aload_n (M := mX11_value) 6 rfl dX11_value_5 rfl 0 rfl ?_
  refine E_iload_n (M := mX11_value) 7 rfl dX11_value_6 rfl 1 rfl ?_
  replace h := Option.bind_eq_some_iff.mp h
  obtain ⟨w4, hw4, h⟩ := h
  refine E_cV1 (M := mX11_value) (As := [.int x1]) 10 rfl dX11_value_7 shc_0 ck_X11_387 cv_X11_worthFor rfl (by decide) (Nat.le_of_ble_eq_true rfl) (C_X11_worthFor (g := g) hw4) rfl ?_
  cases h
  exact E_lret (M := mX11_value) rfl dX11_value_10
theorem C_X11_value {g : Gx} {x1 : Int32} {I : MI} {L : ML} {res : (String ⊕ Int64) × MI × ML} (h : f_X11_value x1 I L = some res) : Ent g 10 (bS res.1) mX11_value [.ref 0, .int x1] (I, L) (rJ res.1) (res.2.1, res.2.2) := Ent_of (by decide +kernel) (Nat.le_of_ble_eq_true rfl) (S_X11_value x1 I L _ h)
def f_X11_sale_76 (y0 : Int64) (I : MI) (L : ML) : Option (Int64 × MI × ML) := some (y0, I, L)
set_option maxRecDepth 100000 in
theorem S_X11_sale_76 {g : Gx} (y0 : Int64) (I : MI) (L : ML) (res : Int64 × MI × ML) (h : f_X11_sale_76 y0 I L = some res) : E g 10 0 mX11_sale 76 [] [.long y0] (I, L) (.inl (some (.long res.1))) (res.2.1, res.2.2) := by
  unfold f_X11_sale_76 at h
  cases h
  exact E_lret (M := mX11_sale) rfl dX11_sale_76
def f_X11_sale_74 (x2 : Int32) (I : MI) (L : ML) : Option (Int64 × MI × ML) := f_X11_sale_76 x2.toInt64 I L
set_option maxRecDepth 100000 in
theorem S_X11_sale_74 {g : Gx} (x2 : Int32) (I : MI) (L : ML) (res : Int64 × MI × ML) (h : f_X11_sale_74 x2 I L = some res) : E g 10 0 mX11_sale 74 [(2, .int x2)] [] (I, L) (.inl (some (.long res.1))) (res.2.1, res.2.2) := by
  unfold f_X11_sale_74 at h
  refine E_iload_n (M := mX11_sale) 75 rfl dX11_sale_74 rfl 0 rfl ?_
  refine E_i2l (M := mX11_sale) 76 rfl dX11_sale_75 ?_
  refine E_sub (M := mX11_sale) (lv' := []) [] rfl ?_
  exact S_X11_sale_76 x2.toInt64 I L _ h
def f_X11_sale_52 (k12 : Bool → Int32 → Int64 → Int64 → Int32 → MI → ML → Option (Int64 × MI × ML)) (x1 : Bool) (x2 : Int32) (x3 : Int64) (x5 : Int64) (x7 : Int32) (I : MI) (L : ML) : Option (Int64 × MI × ML) := k12 x1 x2 x3 x5 (x7 + 1) I L
set_option maxRecDepth 100000 in
theorem S_X11_sale_52 {g : Gx} {k12 : Bool → Int32 → Int64 → Int64 → Int32 → MI → ML → Option (Int64 × MI × ML)} (hk12 : ∀ (x1z : Bool) (x2z : Int32) (x3z : Int64) (x5z : Int64) (x7z : Int32) (I : MI) (L : ML) (res : Int64 × MI × ML), k12 x1z x2z x3z x5z x7z I L = some res → E g 10 0 mX11_sale 12 [(0, .ref 0), (1, .int (bI x1z)), (2, .int x2z), (3, .long x3z), (5, .long x5z), (7, .int x7z)] [] (I, L) (.inl (some (.long res.1))) (res.2.1, res.2.2)) (x1 : Bool) (x2 : Int32) (x3 : Int64) (x5 : Int64) (x7 : Int32) (I : MI) (L : ML) (res : Int64 × MI × ML) (h : f_X11_sale_52 k12 x1 x2 x3 x5 x7 I L = some res) : E g 10 0 mX11_sale 52 [(0, .ref 0), (1, .int (bI x1)), (2, .int x2), (3, .long x3), (5, .long x5), (7, .int x7)] [] (I, L) (.inl (some (.long res.1))) (res.2.1, res.2.2) := by
  unfold f_X11_sale_52 at h
  refine E_iinc (M := mX11_sale) (j := 5) (v := x7 + 1) (lv' := [(7, .int (x7 + 1)), (0, .ref 0), (1, .int (bI x1)), (2, .int x2), (3, .long x3), (5, .long x5)]) 55 rfl dX11_sale_52 rfl rfl (Nat.le_of_ble_eq_true rfl) rfl ?_
  refine E_goto (M := mX11_sale) 12 (by decide) dX11_sale_55 ?_
  refine E_sub (M := mX11_sale) (lv' := [(0, .ref 0), (1, .int (bI x1)), (2, .int x2), (3, .long x3), (5, .long x5), (7, .int (x7 + 1))]) [1, 2, 3, 4, 5, 0] rfl ?_
  exact hk12 x1 x2 x3 x5 (x7 + 1) I L _ h
def f_X11_sale_12 : Nat → Bool → Int32 → Int64 → Int64 → Int32 → MI → ML → Option (Int64 × MI × ML)
  | 0, _, _, _, _, _, _, _ => none
  | n + 1, x1, x2, x3, x5, x7, I, L => Option.bind (hsO (I 0 4)) fun v1 => if (I v1 2) ≤ x7 then (if x1 = true then (if x2 = ((-1)) then (f_X11_sale_74 x2 I L) else (f_X11_sale_76 (x5 - x3) I L)) else (f_X11_sale_74 x2 I L)) else (Option.bind (f_X11_worthFor x7 I L) fun w5 => if w5.1 ≤ x3 then (f_X11_sale_52 (f_X11_sale_12 n) x1 x2 x3 (x5 + w5.1) x7 w5.2.1 w5.2.2) else (f_X11_sale_52 (f_X11_sale_12 n) x1 x7 w5.1 (x5 + w5.1) x7 w5.2.1 w5.2.2))
set_option maxRecDepth 100000 in
theorem S_X11_sale_12 {g : Gx} : ∀ (n : Nat) (x1 : Bool) (x2 : Int32) (x3 : Int64) (x5 : Int64) (x7 : Int32) (I : MI) (L : ML) (res : Int64 × MI × ML), f_X11_sale_12 n x1 x2 x3 x5 x7 I L = some res → E g 10 0 mX11_sale 12 [(0, .ref 0), (1, .int (bI x1)), (2, .int x2), (3, .long x3), (5, .long x5), (7, .int x7)] [] (I, L) (.inl (some (.long res.1))) (res.2.1, res.2.2) := by
  intro n
  induction n with
  | zero =>
    intros
    rename_i h
    cases h
  | succ n ih =>
    intro x1 x2 x3 x5 x7 I L res h
    rw [f_X11_sale_12] at h
    refine E_iload (M := mX11_sale) 14 rfl dX11_sale_12 5 rfl ?_
    refine E_aload_n (M := mX11_sale) 15 rfl dX11_sale_14 rfl 0 rfl ?_
    replace h := Option.bind_eq_some_iff.mp h
    obtain ⟨v1, hv1, h⟩ := h
    refine E_hs (M := mX11_sale) 18 rfl dX11_sale_15 shc_0 fl_X11_40 rfl hv1 ?_
    refine E_gI (M := mX11_sale) 21 rfl dX11_sale_18 (sh_H (hsO_s hv1).1) fl_X11_264 rfl ?_
    refine E_icmp_ge (M := mX11_sale) 58 24 (by decide) rfl dX11_sale_21 (fun c2 => ?_) (fun c2 => ?_)
    · rw [if_pos c2] at h
      refine E_iload_n (M := mX11_sale) 59 rfl dX11_sale_58 rfl 1 rfl ?_
      refine E_if_eqB (M := mX11_sale) 74 62 (by decide) rfl dX11_sale_59 (fun c3 => ?_) (fun c3 => ?_)
      · rw [if_neg (by rw [c3]; decide)] at h
        refine E_sub (M := mX11_sale) (lv' := [(2, .int x2)]) [2] rfl ?_
        exact S_X11_sale_74 x2 I L _ h
      · rw [if_pos c3] at h
        refine E_iload_n (M := mX11_sale) 63 rfl dX11_sale_62 rfl 2 rfl ?_
        refine E_iconst (M := mX11_sale) (v := (-1)) 64 rfl dX11_sale_63 (by decide) ?_
        refine E_icmp_eq (M := mX11_sale) 74 67 (by decide) rfl dX11_sale_64 (fun c4 => ?_) (fun c4 => ?_)
        · rw [if_pos c4] at h
          refine E_sub (M := mX11_sale) (lv' := [(2, .int x2)]) [2] rfl ?_
          exact S_X11_sale_74 x2 I L _ h
        · rw [if_neg c4] at h
          refine E_lload (M := mX11_sale) 69 rfl dX11_sale_67 4 rfl ?_
          refine E_lload_n (M := mX11_sale) 70 rfl dX11_sale_69 rfl 3 rfl ?_
          refine E_lsub (M := mX11_sale) 71 rfl dX11_sale_70 ?_
          refine E_goto (M := mX11_sale) 76 (by decide) dX11_sale_71 ?_
          refine E_sub (M := mX11_sale) (lv' := []) [] rfl ?_
          exact S_X11_sale_76 (x5 - x3) I L _ h
    · rw [if_neg c2] at h
      refine E_aload_n (M := mX11_sale) 25 rfl dX11_sale_24 rfl 0 rfl ?_
      refine E_iload (M := mX11_sale) 27 rfl dX11_sale_25 5 rfl ?_
      replace h := Option.bind_eq_some_iff.mp h
      obtain ⟨w5, hw5, h⟩ := h
      refine E_cV1 (M := mX11_sale) (As := [.int x7]) 30 rfl dX11_sale_27 shc_0 ck_X11_387 cv_X11_worthFor rfl (by decide) (Nat.le_of_ble_eq_true rfl) (C_X11_worthFor (g := g) hw5) rfl ?_
      refine E_lstore (M := mX11_sale) (lv' := [(8, .long w5.1), (0, .ref 0), (1, .int (bI x1)), (2, .int x2), (3, .long x3), (5, .long x5), (7, .int x7)]) 32 rfl dX11_sale_30 (Nat.le_of_ble_eq_true rfl) rfl ?_
      refine E_lload (M := mX11_sale) 34 rfl dX11_sale_32 5 rfl ?_
      refine E_lload (M := mX11_sale) 36 rfl dX11_sale_34 0 rfl ?_
      refine E_ladd (M := mX11_sale) 37 rfl dX11_sale_36 ?_
      refine E_lstore (M := mX11_sale) (lv' := [(5, .long (x5 + w5.1)), (8, .long w5.1), (0, .ref 0), (1, .int (bI x1)), (2, .int x2), (3, .long x3), (7, .int x7)]) 39 rfl dX11_sale_37 (Nat.le_of_ble_eq_true rfl) rfl ?_
      refine E_lload (M := mX11_sale) 41 rfl dX11_sale_39 1 rfl ?_
      refine E_lload_n (M := mX11_sale) 42 rfl dX11_sale_41 rfl 5 rfl ?_
      refine E_lc_le (M := mX11_sale) 52 43 46 (by decide) rfl rfl dX11_sale_42 dX11_sale_43 (fun c6 => ?_) (fun c6 => ?_)
      · rw [if_pos c6] at h
        refine E_sub (M := mX11_sale) (lv' := [(0, .ref 0), (1, .int (bI x1)), (2, .int x2), (3, .long x3), (5, .long (x5 + w5.1)), (7, .int x7)]) [2, 3, 4, 5, 0, 6] rfl ?_
        exact S_X11_sale_52 ih x1 x2 x3 (x5 + w5.1) x7 w5.2.1 w5.2.2 _ h
      · rw [if_neg c6] at h
        refine E_lload (M := mX11_sale) 48 rfl dX11_sale_46 1 rfl ?_
        refine E_lstore_n (M := mX11_sale) (lv' := [(3, .long w5.1), (5, .long (x5 + w5.1)), (8, .long w5.1), (0, .ref 0), (1, .int (bI x1)), (2, .int x2), (7, .int x7)]) 49 rfl dX11_sale_48 rfl (Nat.le_of_ble_eq_true rfl) rfl ?_
        refine E_iload (M := mX11_sale) 51 rfl dX11_sale_49 6 rfl ?_
        refine E_istore_n (M := mX11_sale) (lv' := [(2, .int x7), (3, .long w5.1), (5, .long (x5 + w5.1)), (8, .long w5.1), (0, .ref 0), (1, .int (bI x1)), (7, .int x7)]) 52 rfl dX11_sale_51 rfl (Nat.le_of_ble_eq_true rfl) rfl ?_
        refine E_sub (M := mX11_sale) (lv' := [(0, .ref 0), (1, .int (bI x1)), (2, .int x7), (3, .long w5.1), (5, .long (x5 + w5.1)), (7, .int x7)]) [4, 5, 0, 1, 2, 6] rfl ?_
        exact S_X11_sale_52 ih x1 x7 w5.1 (x5 + w5.1) x7 w5.2.1 w5.2.2 _ h
def f_X11_sale (x1 : Bool) (I : MI) (L : ML) : Option (Int64 × MI × ML) := f_X11_sale_12 FU x1 ((-1)) ((-1)) 0 0 I L
set_option maxRecDepth 100000 in
theorem S_X11_sale {g : Gx} (x1 : Bool) (I : MI) (L : ML) (res : Int64 × MI × ML) (h : f_X11_sale x1 I L = some res) : E g 10 0 mX11_sale 0 [(0, .ref 0), (1, .int (bI x1))] [] (I, L) (.inl (some (.long res.1))) (res.2.1, res.2.2) := by
  unfold f_X11_sale at h
  refine E_iconst (M := mX11_sale) (v := (-1)) 1 rfl dX11_sale_0 (by decide) ?_
  refine E_istore_n (M := mX11_sale) (lv' := [(2, .int ((-1))), (0, .ref 0), (1, .int (bI x1))]) 2 rfl dX11_sale_1 rfl (Nat.le_of_ble_eq_true rfl) rfl ?_
  refine E_ldc2 (M := mX11_sale) 5 rfl dX11_sale_2 csl_X11_371 ?_
  refine E_lstore_n (M := mX11_sale) (lv' := [(3, .long ((-1))), (2, .int ((-1))), (0, .ref 0), (1, .int (bI x1))]) 6 rfl dX11_sale_5 rfl (Nat.le_of_ble_eq_true rfl) rfl ?_
  refine E_lconst (M := mX11_sale) (v := 0) 7 rfl dX11_sale_6 (by decide) ?_
  refine E_lstore (M := mX11_sale) (lv' := [(5, .long 0), (3, .long ((-1))), (2, .int ((-1))), (0, .ref 0), (1, .int (bI x1))]) 9 rfl dX11_sale_7 (Nat.le_of_ble_eq_true rfl) rfl ?_
  refine E_iconst (M := mX11_sale) (v := 0) 10 rfl dX11_sale_9 (by decide) ?_
  refine E_istore (M := mX11_sale) (lv' := [(7, .int 0), (5, .long 0), (3, .long ((-1))), (2, .int ((-1))), (0, .ref 0), (1, .int (bI x1))]) 12 rfl dX11_sale_10 (Nat.le_of_ble_eq_true rfl) rfl ?_
  refine E_sub (M := mX11_sale) (lv' := [(0, .ref 0), (1, .int (bI x1)), (2, .int ((-1))), (3, .long ((-1))), (5, .long 0), (7, .int 0)]) [4, 5, 3, 2, 1, 0] rfl ?_
  exact S_X11_sale_12 FU x1 ((-1)) ((-1)) 0 0 I L _ h
theorem C_X11_sale {g : Gx} {x1 : Bool} {I : MI} {L : ML} {res : Int64 × MI × ML} (h : f_X11_sale x1 I L = some res) : Ent g 10 0 mX11_sale [.ref 0, .int (bI x1)] (I, L) (.inl (some (.long res.1))) (res.2.1, res.2.2) := Ent_of (by decide +kernel) (Nat.le_of_ble_eq_true rfl) (S_X11_sale x1 I L _ h)
def f_X11_seed (x1 : Int32) (I : MI) (L : ML) : Option (Int32 × MI × ML) := Option.bind (hsO (I 0 4)) fun v1 => Option.bind (hsO (I 0 4)) fun v2 => Option.bind (pfI I v2 18 x1) fun I3 => some (I v1 18, I3, L)
set_option maxRecDepth 100000 in
theorem S_X11_seed {g : Gx} (x1 : Int32) (I : MI) (L : ML) (res : Int32 × MI × ML) (h : f_X11_seed x1 I L = some res) : E g 1 0 mX11_seed 0 [(0, .ref 0), (1, .int x1)] [] (I, L) (.inl (some (.int res.1))) (res.2.1, res.2.2) := by
  unfold f_X11_seed at h
  refine E_aload_n (M := mX11_seed) 1 rfl dX11_seed_0 rfl 0 rfl ?_
  replace h := Option.bind_eq_some_iff.mp h
  obtain ⟨v1, hv1, h⟩ := h
  refine E_hs (M := mX11_seed) 4 rfl dX11_seed_1 shc_0 fl_X11_40 rfl hv1 ?_
  refine E_gI (M := mX11_seed) 7 rfl dX11_seed_4 (sh_H (hsO_s hv1).1) fl_X11_273 rfl ?_
  refine E_istore_n (M := mX11_seed) (lv' := [(2, .int (I v1 18)), (0, .ref 0), (1, .int x1)]) 8 rfl dX11_seed_7 rfl (Nat.le_of_ble_eq_true rfl) rfl ?_
  refine E_aload_n (M := mX11_seed) 9 rfl dX11_seed_8 rfl 1 rfl ?_
  replace h := Option.bind_eq_some_iff.mp h
  obtain ⟨v2, hv2, h⟩ := h
  refine E_hs (M := mX11_seed) 12 rfl dX11_seed_9 shc_0 fl_X11_40 rfl hv2 ?_
  refine E_iload_n (M := mX11_seed) 13 rfl dX11_seed_12 rfl 2 rfl ?_
  replace h := Option.bind_eq_some_iff.mp h
  obtain ⟨I3, hI3, h⟩ := h
  refine E_pfI (M := mX11_seed) 16 rfl dX11_seed_13 (sh_H (hsO_s hv2).1) fl_X11_273 rfl hI3 ?_
  refine E_iload_n (M := mX11_seed) 17 rfl dX11_seed_16 rfl 0 rfl ?_
  cases h
  exact E_iret (M := mX11_seed) rfl dX11_seed_17
theorem C_X11_seed {g : Gx} {x1 : Int32} {I : MI} {L : ML} {res : Int32 × MI × ML} (h : f_X11_seed x1 I L = some res) : Ent g 1 0 mX11_seed [.ref 0, .int x1] (I, L) (.inl (some (.int res.1))) (res.2.1, res.2.2) := Ent_of (by decide +kernel) (Nat.le_of_ble_eq_true rfl) (S_X11_seed x1 I L _ h)
def f_X11_image (I : MI) (L : ML) : Option (MI × ML) := Option.bind (hsO (I 0 4)) fun v1 => Option.bind (f_X3_copyFrom 104 v1 I L) fun w2 => Option.bind (pfI w2.1 0 7 (bI true)) fun I3 => some (I3, w2.2)
set_option maxRecDepth 100000 in
theorem S_X11_image {g : Gx} (I : MI) (L : ML) (res : MI × ML) (h : f_X11_image I L = some res) : E g 7 0 mX11_image 0 [(0, .ref 0)] [] (I, L) (.inl none) (res.1, res.2) := by
  unfold f_X11_image at h
  refine E_aload_n (M := mX11_image) 1 rfl dX11_image_0 rfl 0 rfl ?_
  refine E_gR (M := mX11_image) 104 4 rfl dX11_image_1 shc_0 fl_X11_47 rfl (by decide) (by decide) ?_
  refine E_aload_n (M := mX11_image) 5 rfl dX11_image_4 rfl 0 rfl ?_
  replace h := Option.bind_eq_some_iff.mp h
  obtain ⟨v1, hv1, h⟩ := h
  refine E_hs (M := mX11_image) 8 rfl dX11_image_5 shc_0 fl_X11_40 rfl hv1 ?_
  replace h := Option.bind_eq_some_iff.mp h
  obtain ⟨w2, hw2, h⟩ := h
  refine E_cV0 (M := mX11_image) (As := [.ref v1]) 11 rfl dX11_image_8 (sh_H isH_kept) ck_X11_104 cv_X3_copyFrom rfl (by decide) (Nat.le_of_ble_eq_true rfl) (C_X3_copyFrom (g := g) isH_kept (hsO_s hv1).1 hw2) rfl ?_
  refine E_aload_n (M := mX11_image) 12 rfl dX11_image_11 rfl 0 rfl ?_
  refine E_iconst (M := mX11_image) (v := 1) 13 rfl dX11_image_12 (by decide) ?_
  replace h := Option.bind_eq_some_iff.mp h
  obtain ⟨I3, hI3, h⟩ := h
  refine E_pfB (M := mX11_image) (x := true) 16 rfl dX11_image_13 shc_0 fl_X11_50 rfl hI3 ?_
  cases h
  exact E_vret (M := mX11_image) rfl dX11_image_16
theorem C_X11_image {g : Gx} {I : MI} {L : ML} {res : MI × ML} (h : f_X11_image I L = some res) : Ent g 7 0 mX11_image [.ref 0] (I, L) (.inl none) (res.1, res.2) := Ent_of (by decide +kernel) (Nat.le_of_ble_eq_true rfl) (S_X11_image I L _ h)
def f_X11_back (I : MI) (L : ML) : Option (Bool × MI × ML) := if (I 0 7 != 0) = true then (Option.bind (hsO (I 0 4)) fun v2 => Option.bind (f_X3_copyFrom v2 104 I L) fun w3 => Option.bind (f_X0_forget w3.1 w3.2) fun w4 => some (true, w4.1, w4.2)) else (some (false, I, L))
set_option maxRecDepth 100000 in
theorem S_X11_back {g : Gx} (I : MI) (L : ML) (res : Bool × MI × ML) (h : f_X11_back I L = some res) : E g 7 0 mX11_back 0 [(0, .ref 0)] [] (I, L) (.inl (some (.int (bI res.1)))) (res.2.1, res.2.2) := by
  unfold f_X11_back at h
  refine E_aload_n (M := mX11_back) 1 rfl dX11_back_0 rfl 0 rfl ?_
  refine E_gB (M := mX11_back) 4 rfl dX11_back_1 shc_0 fl_X11_50 rfl ?_
  refine E_if_neB (M := mX11_back) 9 7 (by decide) rfl dX11_back_4 (fun c1 => ?_) (fun c1 => ?_)
  · rw [if_pos c1] at h
    refine E_aload_n (M := mX11_back) 10 rfl dX11_back_9 rfl 0 rfl ?_
    replace h := Option.bind_eq_some_iff.mp h
    obtain ⟨v2, hv2, h⟩ := h
    refine E_hs (M := mX11_back) 13 rfl dX11_back_10 shc_0 fl_X11_40 rfl hv2 ?_
    refine E_aload_n (M := mX11_back) 14 rfl dX11_back_13 rfl 0 rfl ?_
    refine E_gR (M := mX11_back) 104 17 rfl dX11_back_14 shc_0 fl_X11_47 rfl (by decide) (by decide) ?_
    replace h := Option.bind_eq_some_iff.mp h
    obtain ⟨w3, hw3, h⟩ := h
    refine E_cV0 (M := mX11_back) (As := [.ref 104]) 20 rfl dX11_back_17 (sh_H (hsO_s hv2).1) ck_X11_104 cv_X3_copyFrom rfl (by decide) (Nat.le_of_ble_eq_true rfl) (C_X3_copyFrom (g := g) (hsO_s hv2).1 isH_kept hw3) rfl ?_
    refine E_aload_n (M := mX11_back) 21 rfl dX11_back_20 rfl 0 rfl ?_
    refine E_gR (M := mX11_back) 3 24 rfl dX11_back_21 shc_0 fl_X11_19 rfl (by decide) (by decide) ?_
    replace h := Option.bind_eq_some_iff.mp h
    obtain ⟨w4, hw4, h⟩ := h
    refine E_cV0 (M := mX11_back) (As := []) 27 rfl dX11_back_24 shc_3 ck_X11_108 cv_X0_forget rfl (by decide) (Nat.le_of_ble_eq_true rfl) (C_X0_forget (g := g) hw4) rfl ?_
    refine E_iconst (M := mX11_back) (v := 1) 28 rfl dX11_back_27 (by decide) ?_
    cases h
    exact E_zret (M := mX11_back) (x := true) rfl dX11_back_28
  · rw [if_neg (by rw [c1]; decide)] at h
    refine E_iconst (M := mX11_back) (v := 0) 8 rfl dX11_back_7 (by decide) ?_
    cases h
    exact E_zret (M := mX11_back) (x := false) rfl dX11_back_8
theorem C_X11_back {g : Gx} {I : MI} {L : ML} {res : Bool × MI × ML} (h : f_X11_back I L = some res) : Ent g 7 0 mX11_back [.ref 0] (I, L) (.inl (some (.int (bI res.1)))) (res.2.1, res.2.2) := Ent_of (by decide +kernel) (Nat.le_of_ble_eq_true rfl) (S_X11_back I L _ h)
def f_X11_count_165 (y0 : Bool) (I : MI) (L : ML) : Option (Int32) := some (bI y0)
set_option maxRecDepth 100000 in
theorem S_X11_count_165 {g : Gx} (y0 : Bool) (I : MI) (L : ML) (res : Int32) (h : f_X11_count_165 y0 I L = some res) : E g 2 0 mX11_count 165 [] [.int (bI y0)] (I, L) (.inl (some (.int res))) (I, L) := by
  unfold f_X11_count_165 at h
  cases h
  exact E_iret (M := mX11_count) rfl dX11_count_165
def f_X11_count (x1 : Int32) (I : MI) (L : ML) : Option (Int32) := if x1 = 0 then (Option.bind (hsO (I 0 4)) fun v2 => some (I v2 0)) else if x1 = 1 then (Option.bind (hsO (I 0 4)) fun v4 => some (I v4 1)) else if x1 = 2 then (Option.bind (hsO (I 0 4)) fun v6 => some (I v6 2)) else if x1 = 3 then (Option.bind (hsO (I 0 4)) fun v8 => some (I v8 3)) else if x1 = 4 then (Option.bind (hsO (I 0 4)) fun v10 => some (I v10 11)) else if x1 = 5 then (Option.bind (hsO (I 0 4)) fun v12 => some (I (v12 + 5) 4)) else if x1 = 6 then (Option.bind (hsO (I 0 4)) fun v14 => some ((I v14 12) / 24)) else if x1 = 7 then (Option.bind (hsO (I 0 4)) fun v17 => Option.bind (f_X3_hourOfDay v17 I L) fun v18 => some v18) else if x1 = 8 then (Option.bind (hsO (I 0 4)) fun v20 => some (I v20 13)) else if x1 = 9 then (Option.bind (hsO (I 0 4)) fun v22 => if (I v22 14 != 0) = true then (f_X11_count_165 true I L) else (f_X11_count_165 false I L)) else if x1 = 10 then (Option.bind (hsO (I 0 4)) fun v25 => some (I v25 15)) else if x1 = 11 then (Option.bind (hsO (I 0 4)) fun v27 => some (I v27 16)) else if x1 = 12 then (Option.bind (hsO (I 0 4)) fun v29 => some (I v29 17)) else if x1 = 13 then (some (I 3 4)) else (some ((-1)))
set_option maxRecDepth 100000 in
theorem S_X11_count {g : Gx} (x1 : Int32) (I : MI) (L : ML) (res : Int32) (h : f_X11_count x1 I L = some res) : E g 2 0 mX11_count 0 [(0, .ref 0), (1, .int x1)] [] (I, L) (.inl (some (.int res))) (I, L) := by
  unfold f_X11_count at h
  refine E_iload_n (M := mX11_count) 1 rfl dX11_count_0 rfl 1 rfl ?_
  by_cases c1 : x1 = 0
  · rw [if_pos c1] at h
    refine E_tsIn (M := mX11_count) (off := 71) 0 c1 72 (by decide) (by decide) (by decide) rfl dX11_count_1 ?_
    refine E_aload_n (M := mX11_count) 73 rfl dX11_count_72 rfl 0 rfl ?_
    replace h := Option.bind_eq_some_iff.mp h
    obtain ⟨v2, hv2, h⟩ := h
    refine E_hs (M := mX11_count) 76 rfl dX11_count_73 shc_0 fl_X11_40 rfl hv2 ?_
    refine E_gI (M := mX11_count) 79 rfl dX11_count_76 (sh_H (hsO_s hv2).1) fl_X11_329 rfl ?_
    cases h
    exact E_iret (M := mX11_count) rfl dX11_count_79
  rw [if_neg c1] at h
  by_cases c3 : x1 = 1
  · rw [if_pos c3] at h
    refine E_tsIn (M := mX11_count) (off := 79) 1 c3 80 (by decide) (by decide) (by decide) rfl dX11_count_1 ?_
    refine E_aload_n (M := mX11_count) 81 rfl dX11_count_80 rfl 0 rfl ?_
    replace h := Option.bind_eq_some_iff.mp h
    obtain ⟨v4, hv4, h⟩ := h
    refine E_hs (M := mX11_count) 84 rfl dX11_count_81 shc_0 fl_X11_40 rfl hv4 ?_
    refine E_gI (M := mX11_count) 87 rfl dX11_count_84 (sh_H (hsO_s hv4).1) fl_X11_390 rfl ?_
    cases h
    exact E_iret (M := mX11_count) rfl dX11_count_87
  rw [if_neg c3] at h
  by_cases c5 : x1 = 2
  · rw [if_pos c5] at h
    refine E_tsIn (M := mX11_count) (off := 87) 2 c5 88 (by decide) (by decide) (by decide) rfl dX11_count_1 ?_
    refine E_aload_n (M := mX11_count) 89 rfl dX11_count_88 rfl 0 rfl ?_
    replace h := Option.bind_eq_some_iff.mp h
    obtain ⟨v6, hv6, h⟩ := h
    refine E_hs (M := mX11_count) 92 rfl dX11_count_89 shc_0 fl_X11_40 rfl hv6 ?_
    refine E_gI (M := mX11_count) 95 rfl dX11_count_92 (sh_H (hsO_s hv6).1) fl_X11_264 rfl ?_
    cases h
    exact E_iret (M := mX11_count) rfl dX11_count_95
  rw [if_neg c5] at h
  by_cases c7 : x1 = 3
  · rw [if_pos c7] at h
    refine E_tsIn (M := mX11_count) (off := 95) 3 c7 96 (by decide) (by decide) (by decide) rfl dX11_count_1 ?_
    refine E_aload_n (M := mX11_count) 97 rfl dX11_count_96 rfl 0 rfl ?_
    replace h := Option.bind_eq_some_iff.mp h
    obtain ⟨v8, hv8, h⟩ := h
    refine E_hs (M := mX11_count) 100 rfl dX11_count_97 shc_0 fl_X11_40 rfl hv8 ?_
    refine E_gI (M := mX11_count) 103 rfl dX11_count_100 (sh_H (hsO_s hv8).1) fl_X11_245 rfl ?_
    cases h
    exact E_iret (M := mX11_count) rfl dX11_count_103
  rw [if_neg c7] at h
  by_cases c9 : x1 = 4
  · rw [if_pos c9] at h
    refine E_tsIn (M := mX11_count) (off := 103) 4 c9 104 (by decide) (by decide) (by decide) rfl dX11_count_1 ?_
    refine E_aload_n (M := mX11_count) 105 rfl dX11_count_104 rfl 0 rfl ?_
    replace h := Option.bind_eq_some_iff.mp h
    obtain ⟨v10, hv10, h⟩ := h
    refine E_hs (M := mX11_count) 108 rfl dX11_count_105 shc_0 fl_X11_40 rfl hv10 ?_
    refine E_gI (M := mX11_count) 111 rfl dX11_count_108 (sh_H (hsO_s hv10).1) fl_X11_71 rfl ?_
    cases h
    exact E_iret (M := mX11_count) rfl dX11_count_111
  rw [if_neg c9] at h
  by_cases c11 : x1 = 5
  · rw [if_pos c11] at h
    refine E_tsIn (M := mX11_count) (off := 111) 5 c11 112 (by decide) (by decide) (by decide) rfl dX11_count_1 ?_
    refine E_aload_n (M := mX11_count) 113 rfl dX11_count_112 rfl 0 rfl ?_
    replace h := Option.bind_eq_some_iff.mp h
    obtain ⟨v12, hv12, h⟩ := h
    refine E_hs (M := mX11_count) 116 rfl dX11_count_113 shc_0 fl_X11_40 rfl hv12 ?_
    refine E_gR (M := mX11_count) (v12 + 5) 119 rfl dX11_count_116 (sh_H (hsO_s hv12).1) fl_X11_87 rfl (rt_H8 (hsO_s hv12).1) (H_lt (hsO_s hv12).1 5 (by decide)) ?_
    refine E_gI (M := mX11_count) 122 rfl dX11_count_119 (sh_H5 (hsO_s hv12).1) fl_X11_96 rfl ?_
    cases h
    exact E_iret (M := mX11_count) rfl dX11_count_122
  rw [if_neg c11] at h
  by_cases c13 : x1 = 6
  · rw [if_pos c13] at h
    refine E_tsIn (M := mX11_count) (off := 122) 6 c13 123 (by decide) (by decide) (by decide) rfl dX11_count_1 ?_
    refine E_aload_n (M := mX11_count) 124 rfl dX11_count_123 rfl 0 rfl ?_
    replace h := Option.bind_eq_some_iff.mp h
    obtain ⟨v14, hv14, h⟩ := h
    refine E_hs (M := mX11_count) 127 rfl dX11_count_124 shc_0 fl_X11_40 rfl hv14 ?_
    refine E_gI (M := mX11_count) 130 rfl dX11_count_127 (sh_H (hsO_s hv14).1) fl_X11_258 rfl ?_
    refine E_bipush (M := mX11_count) (v := 24) 132 rfl dX11_count_130 (by decide) ?_
    refine E_idiv (M := mX11_count) 133 rfl dX11_count_132 (by decide) ?_
    cases h
    exact E_iret (M := mX11_count) rfl dX11_count_133
  rw [if_neg c13] at h
  by_cases c16 : x1 = 7
  · rw [if_pos c16] at h
    refine E_tsIn (M := mX11_count) (off := 133) 7 c16 134 (by decide) (by decide) (by decide) rfl dX11_count_1 ?_
    refine E_aload_n (M := mX11_count) 135 rfl dX11_count_134 rfl 0 rfl ?_
    replace h := Option.bind_eq_some_iff.mp h
    obtain ⟨v17, hv17, h⟩ := h
    refine E_hs (M := mX11_count) 138 rfl dX11_count_135 shc_0 fl_X11_40 rfl hv17 ?_
    replace h := Option.bind_eq_some_iff.mp h
    obtain ⟨v18, hv18, h⟩ := h
    refine E_cV1 (M := mX11_count) (As := []) 141 rfl dX11_count_138 (sh_H (hsO_s hv17).1) ck_X11_393 cv_X3_hourOfDay rfl (by decide) (Nat.le_of_ble_eq_true rfl) (C_X3_hourOfDay (g := g) (hsO_s hv17).1 hv18) rfl ?_
    cases h
    exact E_iret (M := mX11_count) rfl dX11_count_141
  rw [if_neg c16] at h
  by_cases c19 : x1 = 8
  · rw [if_pos c19] at h
    refine E_tsIn (M := mX11_count) (off := 141) 8 c19 142 (by decide) (by decide) (by decide) rfl dX11_count_1 ?_
    refine E_aload_n (M := mX11_count) 143 rfl dX11_count_142 rfl 0 rfl ?_
    replace h := Option.bind_eq_some_iff.mp h
    obtain ⟨v20, hv20, h⟩ := h
    refine E_hs (M := mX11_count) 146 rfl dX11_count_143 shc_0 fl_X11_40 rfl hv20 ?_
    refine E_gI (M := mX11_count) 149 rfl dX11_count_146 (sh_H (hsO_s hv20).1) fl_X11_239 rfl ?_
    cases h
    exact E_iret (M := mX11_count) rfl dX11_count_149
  rw [if_neg c19] at h
  by_cases c21 : x1 = 9
  · rw [if_pos c21] at h
    refine E_tsIn (M := mX11_count) (off := 149) 9 c21 150 (by decide) (by decide) (by decide) rfl dX11_count_1 ?_
    refine E_aload_n (M := mX11_count) 151 rfl dX11_count_150 rfl 0 rfl ?_
    replace h := Option.bind_eq_some_iff.mp h
    obtain ⟨v22, hv22, h⟩ := h
    refine E_hs (M := mX11_count) 154 rfl dX11_count_151 shc_0 fl_X11_40 rfl hv22 ?_
    refine E_gB (M := mX11_count) 157 rfl dX11_count_154 (sh_H (hsO_s hv22).1) fl_X11_242 rfl ?_
    refine E_if_eqB (M := mX11_count) 164 160 (by decide) rfl dX11_count_157 (fun c23 => ?_) (fun c23 => ?_)
    · rw [if_neg (by rw [c23]; decide)] at h
      refine E_iconst (M := mX11_count) (v := 0) 165 rfl dX11_count_164 (by decide) ?_
      refine E_sub (M := mX11_count) (lv' := []) [] rfl ?_
      exact S_X11_count_165 false I L _ h
    · rw [if_pos c23] at h
      refine E_iconst (M := mX11_count) (v := 1) 161 rfl dX11_count_160 (by decide) ?_
      refine E_goto (M := mX11_count) 165 (by decide) dX11_count_161 ?_
      refine E_sub (M := mX11_count) (lv' := []) [] rfl ?_
      exact S_X11_count_165 true I L _ h
  rw [if_neg c21] at h
  by_cases c24 : x1 = 10
  · rw [if_pos c24] at h
    refine E_tsIn (M := mX11_count) (off := 165) 10 c24 166 (by decide) (by decide) (by decide) rfl dX11_count_1 ?_
    refine E_aload_n (M := mX11_count) 167 rfl dX11_count_166 rfl 0 rfl ?_
    replace h := Option.bind_eq_some_iff.mp h
    obtain ⟨v25, hv25, h⟩ := h
    refine E_hs (M := mX11_count) 170 rfl dX11_count_167 shc_0 fl_X11_40 rfl hv25 ?_
    refine E_gI (M := mX11_count) 173 rfl dX11_count_170 (sh_H (hsO_s hv25).1) fl_X11_267 rfl ?_
    cases h
    exact E_iret (M := mX11_count) rfl dX11_count_173
  rw [if_neg c24] at h
  by_cases c26 : x1 = 11
  · rw [if_pos c26] at h
    refine E_tsIn (M := mX11_count) (off := 173) 11 c26 174 (by decide) (by decide) (by decide) rfl dX11_count_1 ?_
    refine E_aload_n (M := mX11_count) 175 rfl dX11_count_174 rfl 0 rfl ?_
    replace h := Option.bind_eq_some_iff.mp h
    obtain ⟨v27, hv27, h⟩ := h
    refine E_hs (M := mX11_count) 178 rfl dX11_count_175 shc_0 fl_X11_40 rfl hv27 ?_
    refine E_gI (M := mX11_count) 181 rfl dX11_count_178 (sh_H (hsO_s hv27).1) fl_X11_270 rfl ?_
    cases h
    exact E_iret (M := mX11_count) rfl dX11_count_181
  rw [if_neg c26] at h
  by_cases c28 : x1 = 12
  · rw [if_pos c28] at h
    refine E_tsIn (M := mX11_count) (off := 181) 12 c28 182 (by decide) (by decide) (by decide) rfl dX11_count_1 ?_
    refine E_aload_n (M := mX11_count) 183 rfl dX11_count_182 rfl 0 rfl ?_
    replace h := Option.bind_eq_some_iff.mp h
    obtain ⟨v29, hv29, h⟩ := h
    refine E_hs (M := mX11_count) 186 rfl dX11_count_183 shc_0 fl_X11_40 rfl hv29 ?_
    refine E_gI (M := mX11_count) 189 rfl dX11_count_186 (sh_H (hsO_s hv29).1) fl_X11_229 rfl ?_
    cases h
    exact E_iret (M := mX11_count) rfl dX11_count_189
  rw [if_neg c28] at h
  by_cases c30 : x1 = 13
  · rw [if_pos c30] at h
    refine E_tsIn (M := mX11_count) (off := 189) 13 c30 190 (by decide) (by decide) (by decide) rfl dX11_count_1 ?_
    refine E_aload_n (M := mX11_count) 191 rfl dX11_count_190 rfl 0 rfl ?_
    refine E_gR (M := mX11_count) 3 194 rfl dX11_count_191 shc_0 fl_X11_19 rfl (by decide) (by decide) ?_
    refine E_gI (M := mX11_count) 197 rfl dX11_count_194 shc_3 fl_X11_396 rfl ?_
    cases h
    exact E_iret (M := mX11_count) rfl dX11_count_197
  rw [if_neg c30] at h
  refine E_tsOut (M := mX11_count) 14 (by decide) (fun i hi => match i, hi with | 0, _ => toI c1 (by decide) | 1, _ => toI c3 (by decide) | 2, _ => toI c5 (by decide) | 3, _ => toI c7 (by decide) | 4, _ => toI c9 (by decide) | 5, _ => toI c11 (by decide) | 6, _ => toI c13 (by decide) | 7, _ => toI c16 (by decide) | 8, _ => toI c19 (by decide) | 9, _ => toI c21 (by decide) | 10, _ => toI c24 (by decide) | 11, _ => toI c26 (by decide) | 12, _ => toI c28 (by decide) | 13, _ => toI c30 (by decide) | (n + 14), hi => absurd hi (by omega)) 198 (by decide) dX11_count_1 ?_
  refine E_iconst (M := mX11_count) (v := (-1)) 199 rfl dX11_count_198 (by decide) ?_
  cases h
  exact E_iret (M := mX11_count) rfl dX11_count_199
theorem C_X11_count {g : Gx} {x1 : Int32} {I : MI} {L : ML} {res : Int32} (h : f_X11_count x1 I L = some res) : Ent g 2 0 mX11_count [.ref 0, .int x1] (I, L) (.inl (some (.int res))) (I, L) := Ent_of (by decide +kernel) (Nat.le_of_ble_eq_true rfl) (S_X11_count x1 I L _ h)
