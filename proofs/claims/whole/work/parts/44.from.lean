theorem ins_0 : Cond.instantiable "NoiseHouse$Acts" 6 ∈ lw_good := tg1 73 rfl rfl
theorem ins_1 : Cond.instantiable "NoiseHouse$Door" 3 ∈ lw_good := tg1 196 rfl rfl
theorem ins_2 : Cond.instantiable "NoiseHouse$Heir" 3 ∈ lw_good := tg1 214 rfl rfl
theorem ins_3 : Cond.instantiable "NoiseHouse$House" 19 ∈ lw_good := tg1 156 rfl rfl
theorem ins_4 : Cond.instantiable "NoiseHouse$Noise" 10 ∈ lw_good := tg1 234 rfl rfl
theorem ins_5 : Cond.instantiable "NoiseHouse$Parting" 5 ∈ lw_good := tg1 104 rfl rfl
theorem ins_6 : Cond.instantiable "NoiseHouse$Quieting" 6 ∈ lw_good := tg1 131 rfl rfl
theorem ins_7 : Cond.instantiable "NoiseHouse$Tape" 8 ∈ lw_good := tg1 37 rfl rfl
theorem ins_8 : Cond.instantiable "NoiseHouse$Will" 7 ∈ lw_good := tg1 168 rfl rfl
theorem ins_9 : Cond.instantiable "NoiseHouse" 8 ∈ lw_good := tg1 29 rfl rfl
theorem ins_10 : Cond.instantiable "NoiseHouseModel" 20 ∈ lw_good := tg6 77 rfl rfl
theorem in_tbl {L : List Cond} (h : L.all (fun w => lw_tbl.contains w) = true) : ∀ w ∈ L, w ∈ lw_tbl := fun w hw => List.contains_iff_mem.mp (List.all_eq_true.mp h w hw)
theorem start_ok : [Cond.arrayOver (.object RX1), .arrayOver (.object RX2), .arrayOver (.object RX5), .laysStatic Bundle.tN "UNASSIGNED_STACK" Bundle.steD, .laysStatic Bundle.tN "SUPPRESSED_SENTINEL" Bundle.listD, .initialized Bundle.tN, .laysStatic "java/lang/String" "COMPACT_STRINGS" "Z", .initialized "java/lang/String", .laysStatic "jdk/internal/util/Preconditions" "SIOOBE_FORMATTER" "Ljava/util/function/BiFunction;", .initialized "jdk/internal/util/Preconditions"].all (fun w => lw_tbl.contains w) = true := by decide +kernel
theorem given_ok : [Cond.isRef (.static Bundle.tN "UNASSIGNED_STACK" Bundle.steD), .isRef (.static Bundle.tN "SUPPRESSED_SENTINEL" Bundle.listD), .eq (.static "java/lang/String" "COMPACT_STRINGS" "Z") (.int 1), .isRef (.static "jdk/internal/util/Preconditions" "SIOOBE_FORMATTER" "Ljava/util/function/BiFunction;")].all (fun w => gvL.contains w) = true := by decide +kernel
theorem in_gv {L : List Cond} (h : L.all (fun w => gvL.contains w) = true) : ∀ w ∈ L, w ∈ gvL := fun w hw => List.contains_iff_mem.mp (List.all_eq_true.mp h w hw)
theorem start_g {s : State} {b : Nat} {args : Array Value} (hts : ∀ w ∈ lw_tbl, w.before args s = true) (hgl : ∀ w ∈ gvL, w.before args s = true) (hrf : args = #[Value.ref b]) : ∃ g : Gx, g.1 = s.heap.size ∧ g.2.2.2.2 67 = b ∧ HK g s s.heap ∧ NS s ∧ NC s := by
  have htg : ∀ w ∈ lw_good, w.before args s = true := fun w hw => hts w (List.mem_filter.mp hw).1
  obtain ⟨c0, i0, k0⟩ := u_known htg kc_0.2.1 (htg _ ins_0)
  obtain ⟨c1, i1, k1⟩ := u_known htg kc_1.2.1 (htg _ ins_1)
  obtain ⟨c2, i2, k2⟩ := u_known htg kc_2.2.1 (htg _ ins_2)
  obtain ⟨c3, i3, k3⟩ := u_known htg kc_3.2.1 (htg _ ins_3)
  obtain ⟨c4, i4, k4⟩ := u_known htg kc_4.2.1 (htg _ ins_4)
  obtain ⟨c5, i5, k5⟩ := u_known htg kc_5.2.1 (htg _ ins_5)
  obtain ⟨c6, i6, k6⟩ := u_known htg kc_6.2.1 (htg _ ins_6)
  obtain ⟨c7, i7, k7⟩ := u_known htg kc_7.2.1 (htg _ ins_7)
  obtain ⟨c8, i8, k8⟩ := u_known htg kc_8.2.1 (htg _ ins_8)
  obtain ⟨c9, i9, k9⟩ := u_known htg kc_9.2.1 (htg _ ins_9)
  obtain ⟨c10, i10, k10⟩ := u_known htg kc_10.2.1 (htg _ ins_10)
  obtain ⟨a1, b1⟩ := arr_prim (htg _ acI) (fun C h => by cases h)
  obtain ⟨a2, b2⟩ := arr_prim (htg _ acB) (fun C h => by cases h)
  obtain ⟨a3, b3⟩ := arr_prim (htg _ acL) (fun C h => by cases h)
  have hst := fun w hw => hts w (in_tbl start_ok w hw)
  have hgv := fun w hw => hgl w (in_gv given_ok w hw)
  have o1 : va_AO RX1 s := va_AO.of (hst (.arrayOver (.object RX1)) (by simp))
  have o2 : va_AO RX2 s := va_AO.of (hst (.arrayOver (.object RX2)) (by simp))
  have o3 : va_AO RX5 s := va_AO.of (hst (.arrayOver (.object RX5)) (by simp))
  obtain ⟨a4, b4⟩ := arr_ref o1
  obtain ⟨a5, b5⟩ := arr_ref o2
  obtain ⟨a6, b6⟩ := arr_ref o3
  have hA : ∀ a : Nat, a < s.heap.size → ¬ (fun q : Nat => s.heap.size ≤ q) a := fun a h => Nat.not_le.mpr h
  have hstr : ∀ i : Nat, ∃ q : Nat × Nat, i < 66 → (strO i).eval args s none [] s = some (.ref q.1) ∧ va_O "java/lang/String" q.1 (fun q : Nat => s.heap.size ≤ q) s s.heap ∧ va_OF "java/lang/String" "coder" "B" (.int 0) q.1 (fun q : Nat => s.heap.size ≤ q) s s.heap ∧ va_OF "java/lang/String" "value" "[B" (.ref q.2) q.1 (fun q : Nat => s.heap.size ≤ q) s s.heap ∧ va_T .byte q.2 (sLen i) (fun j => .int (sChr i j)) (fun q : Nat => s.heap.size ≤ q) s s.heap := by
    intro i
    by_cases hi : i < 66
    · have hw : ∀ w ∈ strW i, w.before args s = true := fun w h => hgl w (strW_in hi w h)
      obtain ⟨q, hq⟩ := str_at (A := fun q : Nat => s.heap.size ≤ q) (byt := sChr i) (of_decide_eq_true (List.all_eq_true.mp strLen_ok i (List.mem_range.mpr hi))) (hw _ (by simp [strW])) (hw _ (by simp [strW])) (hw _ (by simp [strW])) (hw (.eq (.length (.field (strO i) "java/lang/String" "value" "[B")) (.int (Int32.ofNat (sLen i)))) (by simp [strW])) (fun j hj => hw _ (List.mem_append_right _ (List.mem_map.mpr ⟨j, List.mem_range.mpr hj, rfl⟩))) hA
      exact ⟨q, fun _ => hq⟩
    · exact ⟨(0, 0), fun h => absurd h hi⟩
  obtain ⟨ad, had⟩ := Classical.axiomOfChoice hstr
  have z1 := vx_Zqof (A := fun q : Nat => s.heap.size ≤ q) (hst (.laysStatic Bundle.tN "UNASSIGNED_STACK" Bundle.steD) (by simp)) (hst (.initialized Bundle.tN) (by simp)) (hgv (.isRef (.static Bundle.tN "UNASSIGNED_STACK" Bundle.steD)) (by simp)) hA
  have z2 := vx_Zqof (A := fun q : Nat => s.heap.size ≤ q) (hst (.laysStatic Bundle.tN "SUPPRESSED_SENTINEL" Bundle.listD) (by simp)) (hst (.initialized Bundle.tN) (by simp)) (hgv (.isRef (.static Bundle.tN "SUPPRESSED_SENTINEL" Bundle.listD)) (by simp)) hA
  have z3 := va_Zof (A := fun q : Nat => s.heap.size ≤ q) (hst (.laysStatic "java/lang/String" "COMPACT_STRINGS" "Z") (by simp)) (hst (.initialized "java/lang/String") (by simp)) (va_eqt (hgv (.eq (.static "java/lang/String" "COMPACT_STRINGS" "Z") (.int 1)) (by simp))) hA
  have z4 := va_Zqof (A := fun q : Nat => s.heap.size ≤ q) (hst (.laysStatic "jdk/internal/util/Preconditions" "SIOOBE_FORMATTER" "Ljava/util/function/BiFunction;") (by simp)) (hst (.initialized "jdk/internal/util/Preconditions") (by simp)) (hgv (.isRef (.static "jdk/internal/util/Preconditions" "SIOOBE_FORMATTER" "Ljava/util/function/BiFunction;")) (by simp)) hA
  obtain ⟨af, haf⟩ : ∃ af : Nat, va_Z "jdk/internal/util/Preconditions" "SIOOBE_FORMATTER" "Ljava/util/function/BiFunction;" .null (fun q : Nat => s.heap.size ≤ q) s s.heap ∨ va_Z "jdk/internal/util/Preconditions" "SIOOBE_FORMATTER" "Ljava/util/function/BiFunction;" (.ref af) (fun q : Nat => s.heap.size ≤ q) s s.heap := by
    rcases z4 with h | ⟨t, h⟩
    · exact ⟨0, Or.inl h⟩
    · exact ⟨t, Or.inr h⟩
  have hex : ∀ w ∈ exW, va_Nw w s := fun w hw => va_Nw.of (exW_on w hw) (hts w (in_tbl exW_ok w hw))
  have hns : ∀ w ∈ nestW, va_Nw w s := fun w hw => va_Nw.of (nest_on w hw) (hts w (in_tbl nestW_ok w hw))
  refine ⟨(s.heap.size, (fun k => [c0, c1, c2, c3, c4, c5, c6, c7, c8, c9, c10].getD k 0, fun k => [i0, i1, i2, i3, i4, i5, i6, i7, i8, i9, i10].getD k (fun _ => 0)), fun k => [0, a1, a2, a3, a4, a5, a6].getD k 0, fun i => (ad i).1, fun i => if i = 66 then af else if i = 67 then b else (ad i).2), rfl, rfl, ⟨⟨?_, ?_⟩, ?_, ?_, z1, z2, z3, hex, ?_⟩, ⟨hns, o1, o2, o3⟩, ?_⟩
  · intro k q hq
    match k, hq with
    | 0, hq => cases hq; exact k0
    | 1, hq => cases hq; exact k1
    | 2, hq => cases hq; exact k2
    | 3, hq => cases hq; exact k3
    | 4, hq => cases hq; exact k4
    | 5, hq => cases hq; exact k5
    | 6, hq => cases hq; exact k6
    | 7, hq => cases hq; exact k7
    | 8, hq => cases hq; exact k8
    | 9, hq => cases hq; exact k9
    | 10, hq => cases hq; exact k10
    | k + 11, hq => exact absurd hq (by simp)
  · intro k q hq
    match k, hq with
    | 0, hq => cases hq; exact b1
    | 1, hq => cases hq; exact b2
    | 2, hq => cases hq; exact b3
    | 3, hq => cases hq; exact b4
    | 4, hq => cases hq; exact b5
    | 5, hq => cases hq; exact b6
    | k + 6, hq => exact absurd hq (by simp [tysO])
  · intro i hi
    obtain ⟨-, h1, h2, h3, h4⟩ := had i hi
    have e : (if i = 66 then af else if i = 67 then b else (ad i).2) = (ad i).2 := by rw [if_neg (by omega), if_neg (by omega)]
    refine ⟨h1, h2, ?_, ?_⟩
    · show va_OF _ _ _ (.ref (if i = 66 then af else if i = 67 then b else (ad i).2)) _ _ _ _
      rw [e]; exact h3
    · show va_T _ (if i = 66 then af else if i = 67 then b else (ad i).2) _ _ _ _ _
      rw [e]; exact h4
  · intro i o k t ht
    have hi : i < 66 := by
      have := (List.getElem?_eq_some_iff.mp ht).1
      exact this
    have h1 := (had i hi).1
    have e0 : strT.getD i ("", 0, "") = (o, k, t) := by rw [List.getD_eq_getElem?_getD, ht]; rfl
    have h2 : (Cond.stringRef o k t).before args s = true := hts _ (List.contains_iff_mem.mp (List.all_eq_true.mp strR_ok (o, k, t) (List.mem_of_getElem? ht)))
    unfold strO at h1
    rw [e0] at h1
    exact vk_R.of h2 h1
  · rcases haf with h | h
    · exact ⟨.null, Or.inl rfl, h⟩
    · exact ⟨.ref af, Or.inr rfl, h⟩
  · intro a ha c hc hne
    have h1 := List.all_eq_true.mp (List.all_eq_true.mp nc4_ok a ha) c hc
    rw [Bool.or_eq_true] at h1
    rcases h1 with h1 | h1
    · exact absurd (of_decide_eq_true h1) hne
    · exact va_Nc.of (hgl _ (List.contains_iff_mem.mp h1))
/-- the law from its entry, given what holds between the two sides, call by call -/
theorem whole_from (Inv : Nat → MI → ML → Prop) (h0 : Inv 0 I0 L0) (hst : ∀ (c : Nat), c < 600 → ∀ (o a1 a2 a3 a4 a5 : Int32) (I : MI) (L : ML), Inv c I L → ∃ I' L', Step o a1 a2 a3 a4 a5 I L I' L' ∧ Inv (c + 1) I' L') {p : Program} {e : Env} {s : State} {m : MethodId} {below : List Frame} {meth : Method} {c : Code} (l : Launch) (hfl : l.stackTraces = false) {b L : Nat} {xs : Nat → Int32} (hL : L ≤ 3072) (C0 : lw_At p s m meth c b L xs) : W p l e room_1 s m #[Value.ref b] below meth c s.heap [] 0 0 (lw_Z below #[Value.ref b] s) (entryFrame m ([Value.ref b] : List Value).toArray 8) := by
  obtain ⟨hx, hb, hr, hml, hown, hts, hX, hbl, hlocks, hgv⟩ := id C0
  obtain ⟨g, g1, g2, hK, hN, hNC⟩ := start_g hts (flat_of_before _ hgv) rfl
  have htg : ∀ w ∈ lw_good, w.before #[Value.ref b] s = true := fun w hw => hts w (List.mem_filter.mp hw).1
  have hl := lv_entry ([.ref b]) (n := 8) (Nat.le_of_ble_eq_true rfl)
  rw [lg_entry_eq]
  generalize (lg_sl ([.ref b]) ++ List.replicate (8 - (lg_sl ([.ref b])).length) Slot.unset).toArray = ls at hl ⊢
  have hl : lv_has ls 8 (([(0, .ref 200067)] : List (Nat × Value)).map (cq g)) := by
    have e : ([(0, .ref 200067)] : List (Nat × Value)).map (cq g) = [(0, .ref b)] := by
      show [(0, Value.ref (loc g 200067))] = _
      rw [show loc g 200067 = g.2.2.2.2 67 from rfl, g2]
    rw [e]; exact hl
  have hC : HC g (I00, L00, S00, 0) s.heap := ⟨fun k q h => absurd h (by simp [wsC]), by show s.heap.size = g.1 + 0; rw [g1]; rfl, fun q _ k => ⟨rfl, rfl, rfl⟩⟩
  have key := law_begin (g := g) (P := PL g L xs) (Q := QL) (b := 600) (law_loop hL Inv hst 600 0 0 rfl (by omega) (Nat.zero_le _) I0 L0 h0)
  exact key p l e room_1 s m #[Value.ref b] below meth c s.heap [] 0 0 ls ⟨hx, hb, hr, hml, hown, htg, hlocks, ⟨rfl, by rw [g2], by rw [g2]; exact hX, by rw [g2, g1]; exact hbl, g1, hNC⟩, hfl, hK, by decide, by decide⟩ ⟨trivial, hN⟩ hC va_S.rf hl (by decide) (by decide)
