def f_J6_compare_7cf53_19 (y0 : Int32) (I : MI) (L : ML) : Option (Int32) := some y0
set_option maxRecDepth 100000 in
theorem S_J6_compare_7cf53_19 {g : Gx} (y0 : Int32) (I : MI) (L : ML) (res : Int32) (h : f_J6_compare_7cf53_19 y0 I L = some res) : E g 1 0 mJ6_compare_7cf53 19 [] [.int y0] (I, L) (.inl (some (.int res))) (I, L) := by
  unfold f_J6_compare_7cf53_19 at h
  cases h
  exact E_iret (M := mJ6_compare_7cf53) rfl dJ6_compare_7cf53_19
def f_J6_compare_7cf53 (x0 : Int32) (x1 : Int32) (I : MI) (L : ML) : Option (Int32) := if x1 ≤ x0 then (if x0 = x1 then (f_J6_compare_7cf53_19 0 I L) else (f_J6_compare_7cf53_19 1 I L)) else (f_J6_compare_7cf53_19 ((-1)) I L)
set_option maxRecDepth 100000 in
theorem S_J6_compare_7cf53 {g : Gx} (x0 : Int32) (x1 : Int32) (I : MI) (L : ML) (res : Int32) (h : f_J6_compare_7cf53 x0 x1 I L = some res) : E g 1 0 mJ6_compare_7cf53 0 [(0, .int x0), (1, .int x1)] [] (I, L) (.inl (some (.int res))) (I, L) := by
  unfold f_J6_compare_7cf53 at h
  refine E_iload_n (M := mJ6_compare_7cf53) 1 rfl dJ6_compare_7cf53_0 rfl 0 rfl ?_
  refine E_iload_n (M := mJ6_compare_7cf53) 2 rfl dJ6_compare_7cf53_1 rfl 1 rfl ?_
  refine E_icmp_ge (M := mJ6_compare_7cf53) 9 5 (by decide) rfl dJ6_compare_7cf53_2 (fun c1 => ?_) (fun c1 => ?_)
  · rw [if_pos c1] at h
    refine E_iload_n (M := mJ6_compare_7cf53) 10 rfl dJ6_compare_7cf53_9 rfl 0 rfl ?_
    refine E_iload_n (M := mJ6_compare_7cf53) 11 rfl dJ6_compare_7cf53_10 rfl 1 rfl ?_
    refine E_icmp_ne (M := mJ6_compare_7cf53) 18 14 (by decide) rfl dJ6_compare_7cf53_11 (fun c2 => ?_) (fun c2 => ?_)
    · rw [if_neg c2] at h
      refine E_iconst (M := mJ6_compare_7cf53) (v := 1) 19 rfl dJ6_compare_7cf53_18 (by decide) ?_
      refine E_sub (M := mJ6_compare_7cf53) (lv' := []) [] rfl ?_
      exact S_J6_compare_7cf53_19 1 I L _ h
    · rw [if_pos c2] at h
      refine E_iconst (M := mJ6_compare_7cf53) (v := 0) 15 rfl dJ6_compare_7cf53_14 (by decide) ?_
      refine E_goto (M := mJ6_compare_7cf53) 19 (by decide) dJ6_compare_7cf53_15 ?_
      refine E_sub (M := mJ6_compare_7cf53) (lv' := []) [] rfl ?_
      exact S_J6_compare_7cf53_19 0 I L _ h
  · rw [if_neg c1] at h
    refine E_iconst (M := mJ6_compare_7cf53) (v := (-1)) 6 rfl dJ6_compare_7cf53_5 (by decide) ?_
    refine E_goto (M := mJ6_compare_7cf53) 19 (by decide) dJ6_compare_7cf53_6 ?_
    refine E_sub (M := mJ6_compare_7cf53) (lv' := []) [] rfl ?_
    exact S_J6_compare_7cf53_19 ((-1)) I L _ h
theorem C_J6_compare_7cf53 {g : Gx} {x0 : Int32} {x1 : Int32} {I : MI} {L : ML} {res : Int32} (h : f_J6_compare_7cf53 x0 x1 I L = some res) : Ent g 1 0 mJ6_compare_7cf53 [.int x0, .int x1] (I, L) (.inl (some (.int res))) (I, L) := Ent_of (by decide +kernel) (Nat.le_of_ble_eq_true rfl) (S_J6_compare_7cf53 x0 x1 I L _ h)
def f_J6_bitCount_0f7a4 (x0 : Int32) (I : MI) (L : ML) : Option (Int32) := some ((((((((x0 - (((x0.toUInt32 >>> ((1 : Int32).toUInt32 &&& Int32.toUInt32 31)).toInt32) &&& 1431655765)) &&& 858993459) + ((((x0 - (((x0.toUInt32 >>> ((1 : Int32).toUInt32 &&& Int32.toUInt32 31)).toInt32) &&& 1431655765)).toUInt32 >>> ((2 : Int32).toUInt32 &&& Int32.toUInt32 31)).toInt32) &&& 858993459)) + (((((x0 - (((x0.toUInt32 >>> ((1 : Int32).toUInt32 &&& Int32.toUInt32 31)).toInt32) &&& 1431655765)) &&& 858993459) + ((((x0 - (((x0.toUInt32 >>> ((1 : Int32).toUInt32 &&& Int32.toUInt32 31)).toInt32) &&& 1431655765)).toUInt32 >>> ((2 : Int32).toUInt32 &&& Int32.toUInt32 31)).toInt32) &&& 858993459)).toUInt32 >>> ((4 : Int32).toUInt32 &&& Int32.toUInt32 31)).toInt32)) &&& 252645135) + (((((((x0 - (((x0.toUInt32 >>> ((1 : Int32).toUInt32 &&& Int32.toUInt32 31)).toInt32) &&& 1431655765)) &&& 858993459) + ((((x0 - (((x0.toUInt32 >>> ((1 : Int32).toUInt32 &&& Int32.toUInt32 31)).toInt32) &&& 1431655765)).toUInt32 >>> ((2 : Int32).toUInt32 &&& Int32.toUInt32 31)).toInt32) &&& 858993459)) + (((((x0 - (((x0.toUInt32 >>> ((1 : Int32).toUInt32 &&& Int32.toUInt32 31)).toInt32) &&& 1431655765)) &&& 858993459) + ((((x0 - (((x0.toUInt32 >>> ((1 : Int32).toUInt32 &&& Int32.toUInt32 31)).toInt32) &&& 1431655765)).toUInt32 >>> ((2 : Int32).toUInt32 &&& Int32.toUInt32 31)).toInt32) &&& 858993459)).toUInt32 >>> ((4 : Int32).toUInt32 &&& Int32.toUInt32 31)).toInt32)) &&& 252645135).toUInt32 >>> ((8 : Int32).toUInt32 &&& Int32.toUInt32 31)).toInt32)) + ((((((((x0 - (((x0.toUInt32 >>> ((1 : Int32).toUInt32 &&& Int32.toUInt32 31)).toInt32) &&& 1431655765)) &&& 858993459) + ((((x0 - (((x0.toUInt32 >>> ((1 : Int32).toUInt32 &&& Int32.toUInt32 31)).toInt32) &&& 1431655765)).toUInt32 >>> ((2 : Int32).toUInt32 &&& Int32.toUInt32 31)).toInt32) &&& 858993459)) + (((((x0 - (((x0.toUInt32 >>> ((1 : Int32).toUInt32 &&& Int32.toUInt32 31)).toInt32) &&& 1431655765)) &&& 858993459) + ((((x0 - (((x0.toUInt32 >>> ((1 : Int32).toUInt32 &&& Int32.toUInt32 31)).toInt32) &&& 1431655765)).toUInt32 >>> ((2 : Int32).toUInt32 &&& Int32.toUInt32 31)).toInt32) &&& 858993459)).toUInt32 >>> ((4 : Int32).toUInt32 &&& Int32.toUInt32 31)).toInt32)) &&& 252645135) + (((((((x0 - (((x0.toUInt32 >>> ((1 : Int32).toUInt32 &&& Int32.toUInt32 31)).toInt32) &&& 1431655765)) &&& 858993459) + ((((x0 - (((x0.toUInt32 >>> ((1 : Int32).toUInt32 &&& Int32.toUInt32 31)).toInt32) &&& 1431655765)).toUInt32 >>> ((2 : Int32).toUInt32 &&& Int32.toUInt32 31)).toInt32) &&& 858993459)) + (((((x0 - (((x0.toUInt32 >>> ((1 : Int32).toUInt32 &&& Int32.toUInt32 31)).toInt32) &&& 1431655765)) &&& 858993459) + ((((x0 - (((x0.toUInt32 >>> ((1 : Int32).toUInt32 &&& Int32.toUInt32 31)).toInt32) &&& 1431655765)).toUInt32 >>> ((2 : Int32).toUInt32 &&& Int32.toUInt32 31)).toInt32) &&& 858993459)).toUInt32 >>> ((4 : Int32).toUInt32 &&& Int32.toUInt32 31)).toInt32)) &&& 252645135).toUInt32 >>> ((8 : Int32).toUInt32 &&& Int32.toUInt32 31)).toInt32)).toUInt32 >>> ((16 : Int32).toUInt32 &&& Int32.toUInt32 31)).toInt32)) &&& 63)
set_option maxRecDepth 100000 in
theorem S_J6_bitCount_0f7a4 {g : Gx} (x0 : Int32) (I : MI) (L : ML) (res : Int32) (h : f_J6_bitCount_0f7a4 x0 I L = some res) : E g 1 0 mJ6_bitCount_0f7a4 0 [(0, .int x0)] [] (I, L) (.inl (some (.int res))) (I, L) := by
  unfold f_J6_bitCount_0f7a4 at h
  refine E_iload_n (M := mJ6_bitCount_0f7a4) 1 rfl dJ6_bitCount_0f7a4_0 rfl 0 rfl ?_
  refine E_iload_n (M := mJ6_bitCount_0f7a4) 2 rfl dJ6_bitCount_0f7a4_1 rfl 0 rfl ?_
  refine E_iconst (M := mJ6_bitCount_0f7a4) (v := 1) 3 rfl dJ6_bitCount_0f7a4_2 (by decide) ?_
  refine E_iushr (M := mJ6_bitCount_0f7a4) 4 rfl dJ6_bitCount_0f7a4_3 ?_
  refine E_ldcw (M := mJ6_bitCount_0f7a4) 7 rfl dJ6_bitCount_0f7a4_4 cst_J6_265 ?_
  refine E_iand (M := mJ6_bitCount_0f7a4) 8 rfl dJ6_bitCount_0f7a4_7 ?_
  refine E_isub (M := mJ6_bitCount_0f7a4) 9 rfl dJ6_bitCount_0f7a4_8 ?_
  refine E_istore_n (M := mJ6_bitCount_0f7a4) (lv' := [(0, .int (x0 - (((x0.toUInt32 >>> ((1 : Int32).toUInt32 &&& Int32.toUInt32 31)).toInt32) &&& 1431655765)))]) 10 rfl dJ6_bitCount_0f7a4_9 rfl (Nat.le_of_ble_eq_true rfl) rfl ?_
  refine E_iload_n (M := mJ6_bitCount_0f7a4) 11 rfl dJ6_bitCount_0f7a4_10 rfl 0 rfl ?_
  refine E_ldcw (M := mJ6_bitCount_0f7a4) 14 rfl dJ6_bitCount_0f7a4_11 cst_J6_266 ?_
  refine E_iand (M := mJ6_bitCount_0f7a4) 15 rfl dJ6_bitCount_0f7a4_14 ?_
  refine E_iload_n (M := mJ6_bitCount_0f7a4) 16 rfl dJ6_bitCount_0f7a4_15 rfl 0 rfl ?_
  refine E_iconst (M := mJ6_bitCount_0f7a4) (v := 2) 17 rfl dJ6_bitCount_0f7a4_16 (by decide) ?_
  refine E_iushr (M := mJ6_bitCount_0f7a4) 18 rfl dJ6_bitCount_0f7a4_17 ?_
  refine E_ldcw (M := mJ6_bitCount_0f7a4) 21 rfl dJ6_bitCount_0f7a4_18 cst_J6_266 ?_
  refine E_iand (M := mJ6_bitCount_0f7a4) 22 rfl dJ6_bitCount_0f7a4_21 ?_
  refine E_iadd (M := mJ6_bitCount_0f7a4) 23 rfl dJ6_bitCount_0f7a4_22 ?_
  refine E_istore_n (M := mJ6_bitCount_0f7a4) (lv' := [(0, .int (((x0 - (((x0.toUInt32 >>> ((1 : Int32).toUInt32 &&& Int32.toUInt32 31)).toInt32) &&& 1431655765)) &&& 858993459) + ((((x0 - (((x0.toUInt32 >>> ((1 : Int32).toUInt32 &&& Int32.toUInt32 31)).toInt32) &&& 1431655765)).toUInt32 >>> ((2 : Int32).toUInt32 &&& Int32.toUInt32 31)).toInt32) &&& 858993459)))]) 24 rfl dJ6_bitCount_0f7a4_23 rfl (Nat.le_of_ble_eq_true rfl) rfl ?_
  refine E_iload_n (M := mJ6_bitCount_0f7a4) 25 rfl dJ6_bitCount_0f7a4_24 rfl 0 rfl ?_
  refine E_iload_n (M := mJ6_bitCount_0f7a4) 26 rfl dJ6_bitCount_0f7a4_25 rfl 0 rfl ?_
  refine E_iconst (M := mJ6_bitCount_0f7a4) (v := 4) 27 rfl dJ6_bitCount_0f7a4_26 (by decide) ?_
  refine E_iushr (M := mJ6_bitCount_0f7a4) 28 rfl dJ6_bitCount_0f7a4_27 ?_
  refine E_iadd (M := mJ6_bitCount_0f7a4) 29 rfl dJ6_bitCount_0f7a4_28 ?_
  refine E_ldcw (M := mJ6_bitCount_0f7a4) 32 rfl dJ6_bitCount_0f7a4_29 cst_J6_267 ?_
  refine E_iand (M := mJ6_bitCount_0f7a4) 33 rfl dJ6_bitCount_0f7a4_32 ?_
  refine E_istore_n (M := mJ6_bitCount_0f7a4) (lv' := [(0, .int (((((x0 - (((x0.toUInt32 >>> ((1 : Int32).toUInt32 &&& Int32.toUInt32 31)).toInt32) &&& 1431655765)) &&& 858993459) + ((((x0 - (((x0.toUInt32 >>> ((1 : Int32).toUInt32 &&& Int32.toUInt32 31)).toInt32) &&& 1431655765)).toUInt32 >>> ((2 : Int32).toUInt32 &&& Int32.toUInt32 31)).toInt32) &&& 858993459)) + (((((x0 - (((x0.toUInt32 >>> ((1 : Int32).toUInt32 &&& Int32.toUInt32 31)).toInt32) &&& 1431655765)) &&& 858993459) + ((((x0 - (((x0.toUInt32 >>> ((1 : Int32).toUInt32 &&& Int32.toUInt32 31)).toInt32) &&& 1431655765)).toUInt32 >>> ((2 : Int32).toUInt32 &&& Int32.toUInt32 31)).toInt32) &&& 858993459)).toUInt32 >>> ((4 : Int32).toUInt32 &&& Int32.toUInt32 31)).toInt32)) &&& 252645135))]) 34 rfl dJ6_bitCount_0f7a4_33 rfl (Nat.le_of_ble_eq_true rfl) rfl ?_
  refine E_iload_n (M := mJ6_bitCount_0f7a4) 35 rfl dJ6_bitCount_0f7a4_34 rfl 0 rfl ?_
  refine E_iload_n (M := mJ6_bitCount_0f7a4) 36 rfl dJ6_bitCount_0f7a4_35 rfl 0 rfl ?_
  refine E_bipush (M := mJ6_bitCount_0f7a4) (v := 8) 38 rfl dJ6_bitCount_0f7a4_36 (by decide) ?_
  refine E_iushr (M := mJ6_bitCount_0f7a4) 39 rfl dJ6_bitCount_0f7a4_38 ?_
  refine E_iadd (M := mJ6_bitCount_0f7a4) 40 rfl dJ6_bitCount_0f7a4_39 ?_
  refine E_istore_n (M := mJ6_bitCount_0f7a4) (lv' := [(0, .int ((((((x0 - (((x0.toUInt32 >>> ((1 : Int32).toUInt32 &&& Int32.toUInt32 31)).toInt32) &&& 1431655765)) &&& 858993459) + ((((x0 - (((x0.toUInt32 >>> ((1 : Int32).toUInt32 &&& Int32.toUInt32 31)).toInt32) &&& 1431655765)).toUInt32 >>> ((2 : Int32).toUInt32 &&& Int32.toUInt32 31)).toInt32) &&& 858993459)) + (((((x0 - (((x0.toUInt32 >>> ((1 : Int32).toUInt32 &&& Int32.toUInt32 31)).toInt32) &&& 1431655765)) &&& 858993459) + ((((x0 - (((x0.toUInt32 >>> ((1 : Int32).toUInt32 &&& Int32.toUInt32 31)).toInt32) &&& 1431655765)).toUInt32 >>> ((2 : Int32).toUInt32 &&& Int32.toUInt32 31)).toInt32) &&& 858993459)).toUInt32 >>> ((4 : Int32).toUInt32 &&& Int32.toUInt32 31)).toInt32)) &&& 252645135) + (((((((x0 - (((x0.toUInt32 >>> ((1 : Int32).toUInt32 &&& Int32.toUInt32 31)).toInt32) &&& 1431655765)) &&& 858993459) + ((((x0 - (((x0.toUInt32 >>> ((1 : Int32).toUInt32 &&& Int32.toUInt32 31)).toInt32) &&& 1431655765)).toUInt32 >>> ((2 : Int32).toUInt32 &&& Int32.toUInt32 31)).toInt32) &&& 858993459)) + (((((x0 - (((x0.toUInt32 >>> ((1 : Int32).toUInt32 &&& Int32.toUInt32 31)).toInt32) &&& 1431655765)) &&& 858993459) + ((((x0 - (((x0.toUInt32 >>> ((1 : Int32).toUInt32 &&& Int32.toUInt32 31)).toInt32) &&& 1431655765)).toUInt32 >>> ((2 : Int32).toUInt32 &&& Int32.toUInt32 31)).toInt32) &&& 858993459)).toUInt32 >>> ((4 : Int32).toUInt32 &&& Int32.toUInt32 31)).toInt32)) &&& 252645135).toUInt32 >>> ((8 : Int32).toUInt32 &&& Int32.toUInt32 31)).toInt32)))]) 41 rfl dJ6_bitCount_0f7a4_40 rfl (Nat.le_of_ble_eq_true rfl) rfl ?_
  refine E_iload_n (M := mJ6_bitCount_0f7a4) 42 rfl dJ6_bitCount_0f7a4_41 rfl 0 rfl ?_
  refine E_iload_n (M := mJ6_bitCount_0f7a4) 43 rfl dJ6_bitCount_0f7a4_42 rfl 0 rfl ?_
  refine E_bipush (M := mJ6_bitCount_0f7a4) (v := 16) 45 rfl dJ6_bitCount_0f7a4_43 (by decide) ?_
  refine E_iushr (M := mJ6_bitCount_0f7a4) 46 rfl dJ6_bitCount_0f7a4_45 ?_
  refine E_iadd (M := mJ6_bitCount_0f7a4) 47 rfl dJ6_bitCount_0f7a4_46 ?_
  refine E_istore_n (M := mJ6_bitCount_0f7a4) (lv' := [(0, .int (((((((x0 - (((x0.toUInt32 >>> ((1 : Int32).toUInt32 &&& Int32.toUInt32 31)).toInt32) &&& 1431655765)) &&& 858993459) + ((((x0 - (((x0.toUInt32 >>> ((1 : Int32).toUInt32 &&& Int32.toUInt32 31)).toInt32) &&& 1431655765)).toUInt32 >>> ((2 : Int32).toUInt32 &&& Int32.toUInt32 31)).toInt32) &&& 858993459)) + (((((x0 - (((x0.toUInt32 >>> ((1 : Int32).toUInt32 &&& Int32.toUInt32 31)).toInt32) &&& 1431655765)) &&& 858993459) + ((((x0 - (((x0.toUInt32 >>> ((1 : Int32).toUInt32 &&& Int32.toUInt32 31)).toInt32) &&& 1431655765)).toUInt32 >>> ((2 : Int32).toUInt32 &&& Int32.toUInt32 31)).toInt32) &&& 858993459)).toUInt32 >>> ((4 : Int32).toUInt32 &&& Int32.toUInt32 31)).toInt32)) &&& 252645135) + (((((((x0 - (((x0.toUInt32 >>> ((1 : Int32).toUInt32 &&& Int32.toUInt32 31)).toInt32) &&& 1431655765)) &&& 858993459) + ((((x0 - (((x0.toUInt32 >>> ((1 : Int32).toUInt32 &&& Int32.toUInt32 31)).toInt32) &&& 1431655765)).toUInt32 >>> ((2 : Int32).toUInt32 &&& Int32.toUInt32 31)).toInt32) &&& 858993459)) + (((((x0 - (((x0.toUInt32 >>> ((1 : Int32).toUInt32 &&& Int32.toUInt32 31)).toInt32) &&& 1431655765)) &&& 858993459) + ((((x0 - (((x0.toUInt32 >>> ((1 : Int32).toUInt32 &&& Int32.toUInt32 31)).toInt32) &&& 1431655765)).toUInt32 >>> ((2 : Int32).toUInt32 &&& Int32.toUInt32 31)).toInt32) &&& 858993459)).toUInt32 >>> ((4 : Int32).toUInt32 &&& Int32.toUInt32 31)).toInt32)) &&& 252645135).toUInt32 >>> ((8 : Int32).toUInt32 &&& Int32.toUInt32 31)).toInt32)) + ((((((((x0 - (((x0.toUInt32 >>> ((1 : Int32).toUInt32 &&& Int32.toUInt32 31)).toInt32) &&& 1431655765)) &&& 858993459) + ((((x0 - (((x0.toUInt32 >>> ((1 : Int32).toUInt32 &&& Int32.toUInt32 31)).toInt32) &&& 1431655765)).toUInt32 >>> ((2 : Int32).toUInt32 &&& Int32.toUInt32 31)).toInt32) &&& 858993459)) + (((((x0 - (((x0.toUInt32 >>> ((1 : Int32).toUInt32 &&& Int32.toUInt32 31)).toInt32) &&& 1431655765)) &&& 858993459) + ((((x0 - (((x0.toUInt32 >>> ((1 : Int32).toUInt32 &&& Int32.toUInt32 31)).toInt32) &&& 1431655765)).toUInt32 >>> ((2 : Int32).toUInt32 &&& Int32.toUInt32 31)).toInt32) &&& 858993459)).toUInt32 >>> ((4 : Int32).toUInt32 &&& Int32.toUInt32 31)).toInt32)) &&& 252645135) + (((((((x0 - (((x0.toUInt32 >>> ((1 : Int32).toUInt32 &&& Int32.toUInt32 31)).toInt32) &&& 1431655765)) &&& 858993459) + ((((x0 - (((x0.toUInt32 >>> ((1 : Int32).toUInt32 &&& Int32.toUInt32 31)).toInt32) &&& 1431655765)).toUInt32 >>> ((2 : Int32).toUInt32 &&& Int32.toUInt32 31)).toInt32) &&& 858993459)) + (((((x0 - (((x0.toUInt32 >>> ((1 : Int32).toUInt32 &&& Int32.toUInt32 31)).toInt32) &&& 1431655765)) &&& 858993459) + ((((x0 - (((x0.toUInt32 >>> ((1 : Int32).toUInt32 &&& Int32.toUInt32 31)).toInt32) &&& 1431655765)).toUInt32 >>> ((2 : Int32).toUInt32 &&& Int32.toUInt32 31)).toInt32) &&& 858993459)).toUInt32 >>> ((4 : Int32).toUInt32 &&& Int32.toUInt32 31)).toInt32)) &&& 252645135).toUInt32 >>> ((8 : Int32).toUInt32 &&& Int32.toUInt32 31)).toInt32)).toUInt32 >>> ((16 : Int32).toUInt32 &&& Int32.toUInt32 31)).toInt32)))]) 48 rfl dJ6_bitCount_0f7a4_47 rfl (Nat.le_of_ble_eq_true rfl) rfl ?_
  refine E_iload_n (M := mJ6_bitCount_0f7a4) 49 rfl dJ6_bitCount_0f7a4_48 rfl 0 rfl ?_
  refine E_bipush (M := mJ6_bitCount_0f7a4) (v := 63) 51 rfl dJ6_bitCount_0f7a4_49 (by decide) ?_
  refine E_iand (M := mJ6_bitCount_0f7a4) 52 rfl dJ6_bitCount_0f7a4_51 ?_
  cases h
  exact E_iret (M := mJ6_bitCount_0f7a4) rfl dJ6_bitCount_0f7a4_52
theorem C_J6_bitCount_0f7a4 {g : Gx} {x0 : Int32} {I : MI} {L : ML} {res : Int32} (h : f_J6_bitCount_0f7a4 x0 I L = some res) : Ent g 1 0 mJ6_bitCount_0f7a4 [.int x0] (I, L) (.inl (some (.int res))) (I, L) := Ent_of (by decide +kernel) (Nat.le_of_ble_eq_true rfl) (S_J6_bitCount_0f7a4 x0 I L _ h)
def f_J9_floorMod_7cf53_18 (x2 : Int32) (I : MI) (L : ML) : Option (Int32) := some x2
set_option maxRecDepth 100000 in
theorem S_J9_floorMod_7cf53_18 {g : Gx} (x2 : Int32) (I : MI) (L : ML) (res : Int32) (h : f_J9_floorMod_7cf53_18 x2 I L = some res) : E g 1 0 mJ9_floorMod_7cf53 18 [(2, .int x2)] [] (I, L) (.inl (some (.int res))) (I, L) := by
  unfold f_J9_floorMod_7cf53_18 at h
  refine E_iload_n (M := mJ9_floorMod_7cf53) 19 rfl dJ9_floorMod_7cf53_18 rfl 0 rfl ?_
  cases h
  exact E_iret (M := mJ9_floorMod_7cf53) rfl dJ9_floorMod_7cf53_19
def f_J9_floorMod_7cf53 (x0 : Int32) (x1 : Int32) (I : MI) (L : ML) : Option (Int32) := Option.bind (rmI x0 x1) fun v1 => if 0 ≤ (x0 ^^^ x1) then (f_J9_floorMod_7cf53_18 v1 I L) else (if v1 = 0 then (f_J9_floorMod_7cf53_18 v1 I L) else (some (v1 + x1)))
set_option maxRecDepth 100000 in
theorem S_J9_floorMod_7cf53 {g : Gx} (x0 : Int32) (x1 : Int32) (I : MI) (L : ML) (res : Int32) (h : f_J9_floorMod_7cf53 x0 x1 I L = some res) : E g 1 0 mJ9_floorMod_7cf53 0 [(0, .int x0), (1, .int x1)] [] (I, L) (.inl (some (.int res))) (I, L) := by
  unfold f_J9_floorMod_7cf53 at h
  refine E_iload_n (M := mJ9_floorMod_7cf53) 1 rfl dJ9_floorMod_7cf53_0 rfl 0 rfl ?_
  refine E_iload_n (M := mJ9_floorMod_7cf53) 2 rfl dJ9_floorMod_7cf53_1 rfl 1 rfl ?_
  replace h := Option.bind_eq_some_iff.mp h
  obtain ⟨v1, hv1, h⟩ := h
  refine E_rmI (M := mJ9_floorMod_7cf53) 3 rfl dJ9_floorMod_7cf53_2 hv1 ?_
  refine E_istore_n (M := mJ9_floorMod_7cf53) (lv' := [(2, .int v1), (0, .int x0), (1, .int x1)]) 4 rfl dJ9_floorMod_7cf53_3 rfl (Nat.le_of_ble_eq_true rfl) rfl ?_
  refine E_iload_n (M := mJ9_floorMod_7cf53) 5 rfl dJ9_floorMod_7cf53_4 rfl 1 rfl ?_
  refine E_iload_n (M := mJ9_floorMod_7cf53) 6 rfl dJ9_floorMod_7cf53_5 rfl 2 rfl ?_
  refine E_ixor (M := mJ9_floorMod_7cf53) 7 rfl dJ9_floorMod_7cf53_6 ?_
  refine E_if_ge (M := mJ9_floorMod_7cf53) 18 10 (by decide) rfl dJ9_floorMod_7cf53_7 (fun c2 => ?_) (fun c2 => ?_)
  · rw [if_pos c2] at h
    refine E_sub (M := mJ9_floorMod_7cf53) (lv' := [(2, .int v1)]) [0] rfl ?_
    exact S_J9_floorMod_7cf53_18 v1 I L _ h
  · rw [if_neg c2] at h
    refine E_iload_n (M := mJ9_floorMod_7cf53) 11 rfl dJ9_floorMod_7cf53_10 rfl 0 rfl ?_
    refine E_if_eq (M := mJ9_floorMod_7cf53) 18 14 (by decide) rfl dJ9_floorMod_7cf53_11 (fun c3 => ?_) (fun c3 => ?_)
    · rw [if_pos c3] at h
      refine E_sub (M := mJ9_floorMod_7cf53) (lv' := [(2, .int v1)]) [0] rfl ?_
      exact S_J9_floorMod_7cf53_18 v1 I L _ h
    · rw [if_neg c3] at h
      refine E_iload_n (M := mJ9_floorMod_7cf53) 15 rfl dJ9_floorMod_7cf53_14 rfl 0 rfl ?_
      refine E_iload_n (M := mJ9_floorMod_7cf53) 16 rfl dJ9_floorMod_7cf53_15 rfl 2 rfl ?_
      refine E_iadd (M := mJ9_floorMod_7cf53) 17 rfl dJ9_floorMod_7cf53_16 ?_
      cases h
      exact E_iret (M := mJ9_floorMod_7cf53) rfl dJ9_floorMod_7cf53_17
theorem C_J9_floorMod_7cf53 {g : Gx} {x0 : Int32} {x1 : Int32} {I : MI} {L : ML} {res : Int32} (h : f_J9_floorMod_7cf53 x0 x1 I L = some res) : Ent g 1 0 mJ9_floorMod_7cf53 [.int x0, .int x1] (I, L) (.inl (some (.int res))) (I, L) := Ent_ofF (by decide +kernel) (Nat.le_of_ble_eq_true rfl) (S_J9_floorMod_7cf53 x0 x1 I L _ h)
def f_X0_remember (x1 : Int32) (x2 : Int32) (x3 : Int32) (x4 : Int32) (I : MI) (L : ML) : Option (MI × ML) := Option.bind (stI I 4 12 (I 3 5) x1) fun I1 => Option.bind (stI I1 5 12 (I1 3 5) x2) fun I2 => Option.bind (stI I2 6 12 (I2 3 5) x3) fun I3 => Option.bind (stI I3 7 12 (I3 3 5) x4) fun I4 => Option.bind (pfI I4 3 5 (((I4 3 5) + 1) - ((I4 3 5) + 1) / 12 * 12)) fun I6 => Option.bind (pfI I6 3 4 (if ((I6 3 4) + 1) < 12 then ((I6 3 4) + 1) else 12)) fun I7 => some (I7, L)
set_option maxRecDepth 100000 in
theorem S_X0_remember {g : Gx} (x1 : Int32) (x2 : Int32) (x3 : Int32) (x4 : Int32) (I : MI) (L : ML) (res : MI × ML) (h : f_X0_remember x1 x2 x3 x4 I L = some res) : E g 5 0 mX0_remember 0 [(0, .ref 3), (1, .int x1), (2, .int x2), (3, .int x3), (4, .int x4)] [] (I, L) (.inl none) (res.1, res.2) := by
  unfold f_X0_remember at h
  refine E_aload_n (M := mX0_remember) 1 rfl dX0_remember_0 rfl 0 rfl ?_
  refine E_gR (M := mX0_remember) 4 4 rfl dX0_remember_1 shc_3 fl_X0_9 rfl (by decide) (by decide) ?_
  refine E_aload_n (M := mX0_remember) 5 rfl dX0_remember_4 rfl 0 rfl ?_
  refine E_gI (M := mX0_remember) 8 rfl dX0_remember_5 shc_3 fl_X0_28 rfl ?_
  refine E_iload_n (M := mX0_remember) 9 rfl dX0_remember_8 rfl 1 rfl ?_
  replace h := Option.bind_eq_some_iff.mp h
  obtain ⟨I1, hI1, h⟩ := h
  refine E_stI (M := mX0_remember) 10 rfl dX0_remember_9 shc_4 hI1 ?_
  refine E_aload_n (M := mX0_remember) 11 rfl dX0_remember_10 rfl 0 rfl ?_
  refine E_gR (M := mX0_remember) 5 14 rfl dX0_remember_11 shc_3 fl_X0_15 rfl (by decide) (by decide) ?_
  refine E_aload_n (M := mX0_remember) 15 rfl dX0_remember_14 rfl 0 rfl ?_
  refine E_gI (M := mX0_remember) 18 rfl dX0_remember_15 shc_3 fl_X0_28 rfl ?_
  refine E_iload_n (M := mX0_remember) 19 rfl dX0_remember_18 rfl 2 rfl ?_
  replace h := Option.bind_eq_some_iff.mp h
  obtain ⟨I2, hI2, h⟩ := h
  refine E_stI (M := mX0_remember) 20 rfl dX0_remember_19 shc_5 hI2 ?_
  refine E_aload_n (M := mX0_remember) 21 rfl dX0_remember_20 rfl 0 rfl ?_
  refine E_gR (M := mX0_remember) 6 24 rfl dX0_remember_21 shc_3 fl_X0_18 rfl (by decide) (by decide) ?_
  refine E_aload_n (M := mX0_remember) 25 rfl dX0_remember_24 rfl 0 rfl ?_
  refine E_gI (M := mX0_remember) 28 rfl dX0_remember_25 shc_3 fl_X0_28 rfl ?_
  refine E_iload_n (M := mX0_remember) 29 rfl dX0_remember_28 rfl 3 rfl ?_
  replace h := Option.bind_eq_some_iff.mp h
  obtain ⟨I3, hI3, h⟩ := h
  refine E_stI (M := mX0_remember) 30 rfl dX0_remember_29 shc_6 hI3 ?_
  refine E_aload_n (M := mX0_remember) 31 rfl dX0_remember_30 rfl 0 rfl ?_
  refine E_gR (M := mX0_remember) 7 34 rfl dX0_remember_31 shc_3 fl_X0_21 rfl (by decide) (by decide) ?_
  refine E_aload_n (M := mX0_remember) 35 rfl dX0_remember_34 rfl 0 rfl ?_
  refine E_gI (M := mX0_remember) 38 rfl dX0_remember_35 shc_3 fl_X0_28 rfl ?_
  refine E_iload (M := mX0_remember) 40 rfl dX0_remember_38 4 rfl ?_
  replace h := Option.bind_eq_some_iff.mp h
  obtain ⟨I4, hI4, h⟩ := h
  refine E_stI (M := mX0_remember) 41 rfl dX0_remember_40 shc_7 hI4 ?_
  refine E_aload_n (M := mX0_remember) 42 rfl dX0_remember_41 rfl 0 rfl ?_
  refine E_aload_n (M := mX0_remember) 43 rfl dX0_remember_42 rfl 0 rfl ?_
  refine E_gI (M := mX0_remember) 46 rfl dX0_remember_43 shc_3 fl_X0_28 rfl ?_
  refine E_iconst (M := mX0_remember) (v := 1) 47 rfl dX0_remember_46 (by decide) ?_
  refine E_iadd (M := mX0_remember) 48 rfl dX0_remember_47 ?_
  refine E_bipush (M := mX0_remember) (v := 12) 50 rfl dX0_remember_48 (by decide) ?_
  refine E_irem (M := mX0_remember) 51 rfl dX0_remember_50 (by decide) ?_
  replace h := Option.bind_eq_some_iff.mp h
  obtain ⟨I6, hI6, h⟩ := h
  refine E_pfI (M := mX0_remember) 54 rfl dX0_remember_51 shc_3 fl_X0_28 rfl hI6 ?_
  refine E_aload_n (M := mX0_remember) 55 rfl dX0_remember_54 rfl 0 rfl ?_
  refine E_bipush (M := mX0_remember) (v := 12) 57 rfl dX0_remember_55 (by decide) ?_
  refine E_aload_n (M := mX0_remember) 58 rfl dX0_remember_57 rfl 0 rfl ?_
  refine E_gI (M := mX0_remember) 61 rfl dX0_remember_58 shc_3 fl_X0_24 rfl ?_
  refine E_iconst (M := mX0_remember) (v := 1) 62 rfl dX0_remember_61 (by decide) ?_
  refine E_iadd (M := mX0_remember) 63 rfl dX0_remember_62 ?_
  refine E_min (M := mX0_remember) 66 rfl dX0_remember_63 jm_X0_31 (by decide) (Nat.le_of_ble_eq_true rfl) ?_
  replace h := Option.bind_eq_some_iff.mp h
  obtain ⟨I7, hI7, h⟩ := h
  refine E_pfI (M := mX0_remember) 69 rfl dX0_remember_66 shc_3 fl_X0_24 rfl hI7 ?_
  cases h
  exact E_vret (M := mX0_remember) rfl dX0_remember_69
theorem C_X0_remember {g : Gx} {x1 : Int32} {x2 : Int32} {x3 : Int32} {x4 : Int32} {I : MI} {L : ML} {res : MI × ML} (h : f_X0_remember x1 x2 x3 x4 I L = some res) : Ent g 5 0 mX0_remember [.ref 3, .int x1, .int x2, .int x3, .int x4] (I, L) (.inl none) (res.1, res.2) := Ent_of (by decide +kernel) (Nat.le_of_ble_eq_true rfl) (S_X0_remember x1 x2 x3 x4 I L _ h)
def f_X0_takeLatest (I : MI) (L : ML) : Option (Int32 × MI × ML) := if (I 3 4) = 0 then (some ((-1), I, L)) else (Option.bind (pfI I 3 4 ((I 3 4) - 1)) fun I2 => Option.bind (pfI I2 3 5 ((((I2 3 5) + 12) - 1) - (((I2 3 5) + 12) - 1) / 12 * 12)) fun I4 => some (I4 3 5, I4, L))
set_option maxRecDepth 100000 in
theorem S_X0_takeLatest {g : Gx} (I : MI) (L : ML) (res : Int32 × MI × ML) (h : f_X0_takeLatest I L = some res) : E g 1 0 mX0_takeLatest 0 [(0, .ref 3)] [] (I, L) (.inl (some (.int res.1))) (res.2.1, res.2.2) := by
  unfold f_X0_takeLatest at h
  refine E_aload_n (M := mX0_takeLatest) 1 rfl dX0_takeLatest_0 rfl 0 rfl ?_
  refine E_gI (M := mX0_takeLatest) 4 rfl dX0_takeLatest_1 shc_3 fl_X0_24 rfl ?_
  refine E_if_ne (M := mX0_takeLatest) 9 7 (by decide) rfl dX0_takeLatest_4 (fun c1 => ?_) (fun c1 => ?_)
  · rw [if_neg c1] at h
    refine E_aload_n (M := mX0_takeLatest) 10 rfl dX0_takeLatest_9 rfl 0 rfl ?_
    refine E_dup (M := mX0_takeLatest) 11 rfl dX0_takeLatest_10 rfl ?_
    refine E_gI (M := mX0_takeLatest) 14 rfl dX0_takeLatest_11 shc_3 fl_X0_24 rfl ?_
    refine E_iconst (M := mX0_takeLatest) (v := 1) 15 rfl dX0_takeLatest_14 (by decide) ?_
    refine E_isub (M := mX0_takeLatest) 16 rfl dX0_takeLatest_15 ?_
    replace h := Option.bind_eq_some_iff.mp h
    obtain ⟨I2, hI2, h⟩ := h
    refine E_pfI (M := mX0_takeLatest) 19 rfl dX0_takeLatest_16 shc_3 fl_X0_24 rfl hI2 ?_
    refine E_aload_n (M := mX0_takeLatest) 20 rfl dX0_takeLatest_19 rfl 0 rfl ?_
    refine E_aload_n (M := mX0_takeLatest) 21 rfl dX0_takeLatest_20 rfl 0 rfl ?_
    refine E_gI (M := mX0_takeLatest) 24 rfl dX0_takeLatest_21 shc_3 fl_X0_28 rfl ?_
    refine E_bipush (M := mX0_takeLatest) (v := 12) 26 rfl dX0_takeLatest_24 (by decide) ?_
    refine E_iadd (M := mX0_takeLatest) 27 rfl dX0_takeLatest_26 ?_
    refine E_iconst (M := mX0_takeLatest) (v := 1) 28 rfl dX0_takeLatest_27 (by decide) ?_
    refine E_isub (M := mX0_takeLatest) 29 rfl dX0_takeLatest_28 ?_
    refine E_bipush (M := mX0_takeLatest) (v := 12) 31 rfl dX0_takeLatest_29 (by decide) ?_
    refine E_irem (M := mX0_takeLatest) 32 rfl dX0_takeLatest_31 (by decide) ?_
    replace h := Option.bind_eq_some_iff.mp h
    obtain ⟨I4, hI4, h⟩ := h
    refine E_pfI (M := mX0_takeLatest) 35 rfl dX0_takeLatest_32 shc_3 fl_X0_28 rfl hI4 ?_
    refine E_aload_n (M := mX0_takeLatest) 36 rfl dX0_takeLatest_35 rfl 0 rfl ?_
    refine E_gI (M := mX0_takeLatest) 39 rfl dX0_takeLatest_36 shc_3 fl_X0_28 rfl ?_
    cases h
    exact E_iret (M := mX0_takeLatest) rfl dX0_takeLatest_39
  · rw [if_pos c1] at h
    refine E_iconst (M := mX0_takeLatest) (v := (-1)) 8 rfl dX0_takeLatest_7 (by decide) ?_
    cases h
    exact E_iret (M := mX0_takeLatest) rfl dX0_takeLatest_8
theorem C_X0_takeLatest {g : Gx} {I : MI} {L : ML} {res : Int32 × MI × ML} (h : f_X0_takeLatest I L = some res) : Ent g 1 0 mX0_takeLatest [.ref 3] (I, L) (.inl (some (.int res.1))) (res.2.1, res.2.2) := Ent_of (by decide +kernel) (Nat.le_of_ble_eq_true rfl) (S_X0_takeLatest I L _ h)
def f_X0_forget (I : MI) (L : ML) : Option (MI × ML) := Option.bind (pfI I 3 4 0) fun I1 => some (I1, L)
set_option maxRecDepth 100000 in
theorem S_X0_forget {g : Gx} (I : MI) (L : ML) (res : MI × ML) (h : f_X0_forget I L = some res) : E g 1 0 mX0_forget 0 [(0, .ref 3)] [] (I, L) (.inl none) (res.1, res.2) := by
  unfold f_X0_forget at h
  refine E_aload_n (M := mX0_forget) 1 rfl dX0_forget_0 rfl 0 rfl ?_
  refine E_iconst (M := mX0_forget) (v := 0) 2 rfl dX0_forget_1 (by decide) ?_
  replace h := Option.bind_eq_some_iff.mp h
  obtain ⟨I1, hI1, h⟩ := h
  refine E_pfI (M := mX0_forget) 5 rfl dX0_forget_2 shc_3 fl_X0_24 rfl hI1 ?_
  cases h
  exact E_vret (M := mX0_forget) rfl dX0_forget_5
theorem C_X0_forget {g : Gx} {I : MI} {L : ML} {res : MI × ML} (h : f_X0_forget I L = some res) : Ent g 1 0 mX0_forget [.ref 3] (I, L) (.inl none) (res.1, res.2) := Ent_of (by decide +kernel) (Nat.le_of_ble_eq_true rfl) (S_X0_forget I L _ h)
def f_X1_copyFrom (x0 : Nat) (x1 : Nat) (I : MI) (L : ML) : Option (MI × ML) := Option.bind (pfI I x0 0 (I x1 0)) fun I1 => Option.bind (pfI I1 x0 1 (I1 x1 1)) fun I2 => Option.bind (pfI I2 x0 2 (I2 x1 2)) fun I3 => some (I3, L)
set_option maxRecDepth 100000 in
theorem S_X1_copyFrom {g : Gx} (x0 : Nat) (x1 : Nat) (hx0 : isD x0) (hx1 : isD x1) (I : MI) (L : ML) (res : MI × ML) (h : f_X1_copyFrom x0 x1 I L = some res) : E g 1 0 mX1_copyFrom 0 [(0, .ref x0), (1, .ref x1)] [] (I, L) (.inl none) (res.1, res.2) := by
  unfold f_X1_copyFrom at h
  refine E_aload_n (M := mX1_copyFrom) 1 rfl dX1_copyFrom_0 rfl 0 rfl ?_
  refine E_aload_n (M := mX1_copyFrom) 2 rfl dX1_copyFrom_1 rfl 1 rfl ?_
  refine E_gI (M := mX1_copyFrom) 5 rfl dX1_copyFrom_2 (sh_D hx1) fl_X1_7 rfl ?_
  replace h := Option.bind_eq_some_iff.mp h
  obtain ⟨I1, hI1, h⟩ := h
  refine E_pfI (M := mX1_copyFrom) 8 rfl dX1_copyFrom_5 (sh_D hx0) fl_X1_7 rfl hI1 ?_
  refine E_aload_n (M := mX1_copyFrom) 9 rfl dX1_copyFrom_8 rfl 0 rfl ?_
  refine E_aload_n (M := mX1_copyFrom) 10 rfl dX1_copyFrom_9 rfl 1 rfl ?_
  refine E_gI (M := mX1_copyFrom) 13 rfl dX1_copyFrom_10 (sh_D hx1) fl_X1_13 rfl ?_
  replace h := Option.bind_eq_some_iff.mp h
  obtain ⟨I2, hI2, h⟩ := h
  refine E_pfI (M := mX1_copyFrom) 16 rfl dX1_copyFrom_13 (sh_D hx0) fl_X1_13 rfl hI2 ?_
  refine E_aload_n (M := mX1_copyFrom) 17 rfl dX1_copyFrom_16 rfl 0 rfl ?_
  refine E_aload_n (M := mX1_copyFrom) 18 rfl dX1_copyFrom_17 rfl 1 rfl ?_
  refine E_gI (M := mX1_copyFrom) 21 rfl dX1_copyFrom_18 (sh_D hx1) fl_X1_16 rfl ?_
  replace h := Option.bind_eq_some_iff.mp h
  obtain ⟨I3, hI3, h⟩ := h
  refine E_pfI (M := mX1_copyFrom) 24 rfl dX1_copyFrom_21 (sh_D hx0) fl_X1_16 rfl hI3 ?_
  cases h
  exact E_vret (M := mX1_copyFrom) rfl dX1_copyFrom_24
theorem C_X1_copyFrom {g : Gx} {x0 : Nat} {x1 : Nat} (hx0 : isD x0) (hx1 : isD x1) {I : MI} {L : ML} {res : MI × ML} (h : f_X1_copyFrom x0 x1 I L = some res) : Ent g 1 0 mX1_copyFrom [.ref x0, .ref x1] (I, L) (.inl none) (res.1, res.2) := Ent_of (by decide +kernel) (Nat.le_of_ble_eq_true rfl) (S_X1_copyFrom x0 x1 hx0 hx1 I L _ h)
def f_X1_leads_37 (y0 : Bool) (I : MI) (L : ML) : Option (Bool) := some y0
set_option maxRecDepth 100000 in
theorem S_X1_leads_37 {g : Gx} (y0 : Bool) (I : MI) (L : ML) (res : Bool) (h : f_X1_leads_37 y0 I L = some res) : E g 1 0 mX1_leads 37 [] [.int (bI y0)] (I, L) (.inl (some (.int (bI res)))) (I, L) := by
  unfold f_X1_leads_37 at h
  cases h
  exact E_zret (M := mX1_leads) (x := y0) rfl dX1_leads_37
def f_X1_leads_36 (I : MI) (L : ML) : Option (Bool) := f_X1_leads_37 false I L
set_option maxRecDepth 100000 in
theorem S_X1_leads_36 {g : Gx} (I : MI) (L : ML) (res : Bool) (h : f_X1_leads_36 I L = some res) : E g 1 0 mX1_leads 36 [] [] (I, L) (.inl (some (.int (bI res)))) (I, L) := by
  unfold f_X1_leads_36 at h
  refine E_iconst (M := mX1_leads) (v := 0) 37 rfl dX1_leads_36 (by decide) ?_
  refine E_sub (M := mX1_leads) (lv' := []) [] rfl ?_
  exact S_X1_leads_37 false I L _ h
def f_X1_leads_32 (I : MI) (L : ML) : Option (Bool) := f_X1_leads_37 true I L
set_option maxRecDepth 100000 in
theorem S_X1_leads_32 {g : Gx} (I : MI) (L : ML) (res : Bool) (h : f_X1_leads_32 I L = some res) : E g 1 0 mX1_leads 32 [] [] (I, L) (.inl (some (.int (bI res)))) (I, L) := by
  unfold f_X1_leads_32 at h
  refine E_iconst (M := mX1_leads) (v := 1) 33 rfl dX1_leads_32 (by decide) ?_
  refine E_goto (M := mX1_leads) 37 (by decide) dX1_leads_33 ?_
  refine E_sub (M := mX1_leads) (lv' := []) [] rfl ?_
  exact S_X1_leads_37 true I L _ h
def f_X1_leads_16 (x0 : Nat) (x1 : Int32) (x2 : Int32) (I : MI) (L : ML) : Option (Bool) := if (I x0 0) = x2 then (if (I x0 1) = x1 then (f_X1_leads_32 I L) else (f_X1_leads_36 I L)) else (f_X1_leads_36 I L)
set_option maxRecDepth 100000 in
theorem S_X1_leads_16 {g : Gx} (x0 : Nat) (x1 : Int32) (x2 : Int32) (hx0 : isD x0) (I : MI) (L : ML) (res : Bool) (h : f_X1_leads_16 x0 x1 x2 I L = some res) : E g 1 0 mX1_leads 16 [(0, .ref x0), (1, .int x1), (2, .int x2)] [] (I, L) (.inl (some (.int (bI res)))) (I, L) := by
  unfold f_X1_leads_16 at h
  refine E_aload_n (M := mX1_leads) 17 rfl dX1_leads_16 rfl 0 rfl ?_
  refine E_gI (M := mX1_leads) 20 rfl dX1_leads_17 (sh_D hx0) fl_X1_7 rfl ?_
  refine E_iload_n (M := mX1_leads) 21 rfl dX1_leads_20 rfl 2 rfl ?_
  refine E_icmp_ne (M := mX1_leads) 36 24 (by decide) rfl dX1_leads_21 (fun c1 => ?_) (fun c1 => ?_)
  · rw [if_neg c1] at h
    refine E_sub (M := mX1_leads) (lv' := []) [] rfl ?_
    exact S_X1_leads_36 I L _ h
  · rw [if_pos c1] at h
    refine E_aload_n (M := mX1_leads) 25 rfl dX1_leads_24 rfl 0 rfl ?_
    refine E_gI (M := mX1_leads) 28 rfl dX1_leads_25 (sh_D hx0) fl_X1_13 rfl ?_
    refine E_iload_n (M := mX1_leads) 29 rfl dX1_leads_28 rfl 1 rfl ?_
    refine E_icmp_ne (M := mX1_leads) 36 32 (by decide) rfl dX1_leads_29 (fun c2 => ?_) (fun c2 => ?_)
    · rw [if_neg c2] at h
      refine E_sub (M := mX1_leads) (lv' := []) [] rfl ?_
      exact S_X1_leads_36 I L _ h
    · rw [if_pos c2] at h
      refine E_sub (M := mX1_leads) (lv' := []) [] rfl ?_
      exact S_X1_leads_32 I L _ h
def f_X1_leads (x0 : Nat) (x1 : Int32) (x2 : Int32) (I : MI) (L : ML) : Option (Bool) := if (I x0 0) = x1 then (if (I x0 1) = x2 then (f_X1_leads_32 I L) else (f_X1_leads_16 x0 x1 x2 I L)) else (f_X1_leads_16 x0 x1 x2 I L)
set_option maxRecDepth 100000 in
theorem S_X1_leads {g : Gx} (x0 : Nat) (x1 : Int32) (x2 : Int32) (hx0 : isD x0) (I : MI) (L : ML) (res : Bool) (h : f_X1_leads x0 x1 x2 I L = some res) : E g 1 0 mX1_leads 0 [(0, .ref x0), (1, .int x1), (2, .int x2)] [] (I, L) (.inl (some (.int (bI res)))) (I, L) := by
  unfold f_X1_leads at h
  refine E_aload_n (M := mX1_leads) 1 rfl dX1_leads_0 rfl 0 rfl ?_
  refine E_gI (M := mX1_leads) 4 rfl dX1_leads_1 (sh_D hx0) fl_X1_7 rfl ?_
  refine E_iload_n (M := mX1_leads) 5 rfl dX1_leads_4 rfl 1 rfl ?_
  refine E_icmp_ne (M := mX1_leads) 16 8 (by decide) rfl dX1_leads_5 (fun c1 => ?_) (fun c1 => ?_)
  · rw [if_neg c1] at h
    refine E_sub (M := mX1_leads) (lv' := [(0, .ref x0), (1, .int x1), (2, .int x2)]) [0, 1, 2] rfl ?_
    exact S_X1_leads_16 x0 x1 x2 hx0 I L _ h
  · rw [if_pos c1] at h
    refine E_aload_n (M := mX1_leads) 9 rfl dX1_leads_8 rfl 0 rfl ?_
    refine E_gI (M := mX1_leads) 12 rfl dX1_leads_9 (sh_D hx0) fl_X1_13 rfl ?_
    refine E_iload_n (M := mX1_leads) 13 rfl dX1_leads_12 rfl 2 rfl ?_
    refine E_icmp_eq (M := mX1_leads) 32 16 (by decide) rfl dX1_leads_13 (fun c2 => ?_) (fun c2 => ?_)
    · rw [if_pos c2] at h
      refine E_sub (M := mX1_leads) (lv' := []) [] rfl ?_
      exact S_X1_leads_32 I L _ h
    · rw [if_neg c2] at h
      refine E_sub (M := mX1_leads) (lv' := [(0, .ref x0), (1, .int x1), (2, .int x2)]) [0, 1, 2] rfl ?_
      exact S_X1_leads_16 x0 x1 x2 hx0 I L _ h
theorem C_X1_leads {g : Gx} {x0 : Nat} {x1 : Int32} {x2 : Int32} (hx0 : isD x0) {I : MI} {L : ML} {res : Bool} (h : f_X1_leads x0 x1 x2 I L = some res) : Ent g 1 0 mX1_leads [.ref x0, .int x1, .int x2] (I, L) (.inl (some (.int (bI res)))) (I, L) := Ent_of (by decide +kernel) (Nat.le_of_ble_eq_true rfl) (S_X1_leads x0 x1 x2 hx0 I L _ h)
def f_X2_copyFrom (x0 : Nat) (x1 : Nat) (I : MI) (L : ML) : Option (MI × ML) := Option.bind (pfI I x0 0 (I x1 0)) fun I1 => Option.bind (pfI I1 x0 1 (I1 x1 1)) fun I2 => Option.bind (pfI I2 x0 2 (I2 x1 2)) fun I3 => some (I3, L)
set_option maxRecDepth 100000 in
theorem S_X2_copyFrom {g : Gx} (x0 : Nat) (x1 : Nat) (hx0 : isE x0) (hx1 : isE x1) (I : MI) (L : ML) (res : MI × ML) (h : f_X2_copyFrom x0 x1 I L = some res) : E g 1 0 mX2_copyFrom 0 [(0, .ref x0), (1, .ref x1)] [] (I, L) (.inl none) (res.1, res.2) := by
  unfold f_X2_copyFrom at h
  refine E_aload_n (M := mX2_copyFrom) 1 rfl dX2_copyFrom_0 rfl 0 rfl ?_
  refine E_aload_n (M := mX2_copyFrom) 2 rfl dX2_copyFrom_1 rfl 1 rfl ?_
  refine E_gI (M := mX2_copyFrom) 5 rfl dX2_copyFrom_2 (sh_E hx1) fl_X2_7 rfl ?_
  replace h := Option.bind_eq_some_iff.mp h
  obtain ⟨I1, hI1, h⟩ := h
  refine E_pfI (M := mX2_copyFrom) 8 rfl dX2_copyFrom_5 (sh_E hx0) fl_X2_7 rfl hI1 ?_
  refine E_aload_n (M := mX2_copyFrom) 9 rfl dX2_copyFrom_8 rfl 0 rfl ?_
  refine E_aload_n (M := mX2_copyFrom) 10 rfl dX2_copyFrom_9 rfl 1 rfl ?_
  refine E_gI (M := mX2_copyFrom) 13 rfl dX2_copyFrom_10 (sh_E hx1) fl_X2_13 rfl ?_
  replace h := Option.bind_eq_some_iff.mp h
  obtain ⟨I2, hI2, h⟩ := h
  refine E_pfI (M := mX2_copyFrom) 16 rfl dX2_copyFrom_13 (sh_E hx0) fl_X2_13 rfl hI2 ?_
  refine E_aload_n (M := mX2_copyFrom) 17 rfl dX2_copyFrom_16 rfl 0 rfl ?_
  refine E_aload_n (M := mX2_copyFrom) 18 rfl dX2_copyFrom_17 rfl 1 rfl ?_
  refine E_gI (M := mX2_copyFrom) 21 rfl dX2_copyFrom_18 (sh_E hx1) fl_X2_16 rfl ?_
  replace h := Option.bind_eq_some_iff.mp h
  obtain ⟨I3, hI3, h⟩ := h
  refine E_pfI (M := mX2_copyFrom) 24 rfl dX2_copyFrom_21 (sh_E hx0) fl_X2_16 rfl hI3 ?_
  cases h
  exact E_vret (M := mX2_copyFrom) rfl dX2_copyFrom_24
theorem C_X2_copyFrom {g : Gx} {x0 : Nat} {x1 : Nat} (hx0 : isE x0) (hx1 : isE x1) {I : MI} {L : ML} {res : MI × ML} (h : f_X2_copyFrom x0 x1 I L = some res) : Ent g 1 0 mX2_copyFrom [.ref x0, .ref x1] (I, L) (.inl none) (res.1, res.2) := Ent_of (by decide +kernel) (Nat.le_of_ble_eq_true rfl) (S_X2_copyFrom x0 x1 hx0 hx1 I L _ h)
def f_X5_copyFrom (x0 : Nat) (x1 : Nat) (I : MI) (L : ML) : Option (MI × ML) := Option.bind (pfI I x0 0 (I x1 0)) fun I1 => Option.bind (pfI I1 x0 1 (I1 x1 1)) fun I2 => Option.bind (pfI I2 x0 2 (I2 x1 2)) fun I3 => Option.bind (pfI I3 x0 3 (I3 x1 3)) fun I4 => Option.bind (pfI I4 x0 4 (I4 x1 4)) fun I5 => Option.bind (pfI I5 x0 5 (I5 x1 5)) fun I6 => Option.bind (pfI I6 x0 6 (I6 x1 6)) fun I7 => Option.bind (pfI I7 x0 7 (I7 x1 7)) fun I8 => Option.bind (pfI I8 x0 8 (I8 x1 8)) fun I9 => Option.bind (pfI I9 x0 9 (bI (I9 x1 9 != 0))) fun I10 => some (I10, L)
set_option maxRecDepth 100000 in
theorem S_X5_copyFrom {g : Gx} (x0 : Nat) (x1 : Nat) (hx0 : isN x0) (hx1 : isN x1) (I : MI) (L : ML) (res : MI × ML) (h : f_X5_copyFrom x0 x1 I L = some res) : E g 1 0 mX5_copyFrom 0 [(0, .ref x0), (1, .ref x1)] [] (I, L) (.inl none) (res.1, res.2) := by
  unfold f_X5_copyFrom at h
  refine E_aload_n (M := mX5_copyFrom) 1 rfl dX5_copyFrom_0 rfl 0 rfl ?_
  refine E_aload_n (M := mX5_copyFrom) 2 rfl dX5_copyFrom_1 rfl 1 rfl ?_
  refine E_gI (M := mX5_copyFrom) 5 rfl dX5_copyFrom_2 (sh_N hx1) fl_X5_9 rfl ?_
  replace h := Option.bind_eq_some_iff.mp h
  obtain ⟨I1, hI1, h⟩ := h
  refine E_pfI (M := mX5_copyFrom) 8 rfl dX5_copyFrom_5 (sh_N hx0) fl_X5_9 rfl hI1 ?_
  refine E_aload_n (M := mX5_copyFrom) 9 rfl dX5_copyFrom_8 rfl 0 rfl ?_
  refine E_aload_n (M := mX5_copyFrom) 10 rfl dX5_copyFrom_9 rfl 1 rfl ?_
  refine E_gI (M := mX5_copyFrom) 13 rfl dX5_copyFrom_10 (sh_N hx1) fl_X5_15 rfl ?_
  replace h := Option.bind_eq_some_iff.mp h
  obtain ⟨I2, hI2, h⟩ := h
  refine E_pfI (M := mX5_copyFrom) 16 rfl dX5_copyFrom_13 (sh_N hx0) fl_X5_15 rfl hI2 ?_
  refine E_aload_n (M := mX5_copyFrom) 17 rfl dX5_copyFrom_16 rfl 0 rfl ?_
  refine E_aload_n (M := mX5_copyFrom) 18 rfl dX5_copyFrom_17 rfl 1 rfl ?_
  refine E_gI (M := mX5_copyFrom) 21 rfl dX5_copyFrom_18 (sh_N hx1) fl_X5_18 rfl ?_
  replace h := Option.bind_eq_some_iff.mp h
  obtain ⟨I3, hI3, h⟩ := h
  refine E_pfI (M := mX5_copyFrom) 24 rfl dX5_copyFrom_21 (sh_N hx0) fl_X5_18 rfl hI3 ?_
  refine E_aload_n (M := mX5_copyFrom) 25 rfl dX5_copyFrom_24 rfl 0 rfl ?_
  refine E_aload_n (M := mX5_copyFrom) 26 rfl dX5_copyFrom_25 rfl 1 rfl ?_
  refine E_gI (M := mX5_copyFrom) 29 rfl dX5_copyFrom_26 (sh_N hx1) fl_X5_21 rfl ?_
  replace h := Option.bind_eq_some_iff.mp h
  obtain ⟨I4, hI4, h⟩ := h
  refine E_pfI (M := mX5_copyFrom) 32 rfl dX5_copyFrom_29 (sh_N hx0) fl_X5_21 rfl hI4 ?_
  refine E_aload_n (M := mX5_copyFrom) 33 rfl dX5_copyFrom_32 rfl 0 rfl ?_
  refine E_aload_n (M := mX5_copyFrom) 34 rfl dX5_copyFrom_33 rfl 1 rfl ?_
  refine E_gI (M := mX5_copyFrom) 37 rfl dX5_copyFrom_34 (sh_N hx1) fl_X5_24 rfl ?_
  replace h := Option.bind_eq_some_iff.mp h
  obtain ⟨I5, hI5, h⟩ := h
  refine E_pfI (M := mX5_copyFrom) 40 rfl dX5_copyFrom_37 (sh_N hx0) fl_X5_24 rfl hI5 ?_
  refine E_aload_n (M := mX5_copyFrom) 41 rfl dX5_copyFrom_40 rfl 0 rfl ?_
  refine E_aload_n (M := mX5_copyFrom) 42 rfl dX5_copyFrom_41 rfl 1 rfl ?_
  refine E_gI (M := mX5_copyFrom) 45 rfl dX5_copyFrom_42 (sh_N hx1) fl_X5_27 rfl ?_
  replace h := Option.bind_eq_some_iff.mp h
  obtain ⟨I6, hI6, h⟩ := h
  refine E_pfI (M := mX5_copyFrom) 48 rfl dX5_copyFrom_45 (sh_N hx0) fl_X5_27 rfl hI6 ?_
  refine E_aload_n (M := mX5_copyFrom) 49 rfl dX5_copyFrom_48 rfl 0 rfl ?_
  refine E_aload_n (M := mX5_copyFrom) 50 rfl dX5_copyFrom_49 rfl 1 rfl ?_
  refine E_gI (M := mX5_copyFrom) 53 rfl dX5_copyFrom_50 (sh_N hx1) fl_X5_30 rfl ?_
  replace h := Option.bind_eq_some_iff.mp h
  obtain ⟨I7, hI7, h⟩ := h
  refine E_pfI (M := mX5_copyFrom) 56 rfl dX5_copyFrom_53 (sh_N hx0) fl_X5_30 rfl hI7 ?_
  refine E_aload_n (M := mX5_copyFrom) 57 rfl dX5_copyFrom_56 rfl 0 rfl ?_
  refine E_aload_n (M := mX5_copyFrom) 58 rfl dX5_copyFrom_57 rfl 1 rfl ?_
  refine E_gI (M := mX5_copyFrom) 61 rfl dX5_copyFrom_58 (sh_N hx1) fl_X5_33 rfl ?_
  replace h := Option.bind_eq_some_iff.mp h
  obtain ⟨I8, hI8, h⟩ := h
  refine E_pfI (M := mX5_copyFrom) 64 rfl dX5_copyFrom_61 (sh_N hx0) fl_X5_33 rfl hI8 ?_
  refine E_aload_n (M := mX5_copyFrom) 65 rfl dX5_copyFrom_64 rfl 0 rfl ?_
  refine E_aload_n (M := mX5_copyFrom) 66 rfl dX5_copyFrom_65 rfl 1 rfl ?_
  refine E_gI (M := mX5_copyFrom) 69 rfl dX5_copyFrom_66 (sh_N hx1) fl_X5_36 rfl ?_
  replace h := Option.bind_eq_some_iff.mp h
  obtain ⟨I9, hI9, h⟩ := h
  refine E_pfI (M := mX5_copyFrom) 72 rfl dX5_copyFrom_69 (sh_N hx0) fl_X5_36 rfl hI9 ?_
  refine E_aload_n (M := mX5_copyFrom) 73 rfl dX5_copyFrom_72 rfl 0 rfl ?_
  refine E_aload_n (M := mX5_copyFrom) 74 rfl dX5_copyFrom_73 rfl 1 rfl ?_
  refine E_gB (M := mX5_copyFrom) 77 rfl dX5_copyFrom_74 (sh_N hx1) fl_X5_39 rfl ?_
  replace h := Option.bind_eq_some_iff.mp h
  obtain ⟨I10, hI10, h⟩ := h
  refine E_pfB (M := mX5_copyFrom) (x := I9 x1 9 != 0) 80 rfl dX5_copyFrom_77 (sh_N hx0) fl_X5_39 rfl hI10 ?_
  cases h
  exact E_vret (M := mX5_copyFrom) rfl dX5_copyFrom_80
theorem C_X5_copyFrom {g : Gx} {x0 : Nat} {x1 : Nat} (hx0 : isN x0) (hx1 : isN x1) {I : MI} {L : ML} {res : MI × ML} (h : f_X5_copyFrom x0 x1 I L = some res) : Ent g 1 0 mX5_copyFrom [.ref x0, .ref x1] (I, L) (.inl none) (res.1, res.2) := Ent_of (by decide +kernel) (Nat.le_of_ble_eq_true rfl) (S_X5_copyFrom x0 x1 hx0 hx1 I L _ h)
