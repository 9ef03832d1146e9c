-- ===== loops that count over noises or heirs, on both sides
theorem le_n {a b : Nat} (ha : a < 2 ^ 31) (hb : b < 2 ^ 31) (h : b < a) : ¬ nI a ≤ nI b := by rw [zI_le ha hb]; omega
theorem bI_t : bI true = 1 := rfl
theorem bI_f : bI false = 0 := rfl
theorem r_h0 {x : Int32} {I : MI} {L : ML} : f_X12_has 0 x I L = some false := by
  unfold f_X12_has f_X12_has_14
  rw [Int32.zero_shiftRight, Int32.zero_and, if_neg (by decide)]
theorem r_n3 {I : MI} {L : ML} {w : Nat → Int32} {c : Nat} (hw : WF c w) (hI : I 150 = w) : f_X12_noises I L = some (nI (nw w 3)) := by
  unfold f_X12_noises
  rw [show (3 : Int32) = nI 3 from rfl, r_w (by decide), Option.bind_some, hI, ← hw.2.2.1.1.1]
theorem r_n2 {I : MI} {L : ML} {w : Nat → Int32} {c : Nat} (hw : WF c w) (hI : I 150 = w) : f_X12_heirs I L = some (nI (nw w 2)) := by
  unfold f_X12_heirs
  rw [show (2 : Int32) = nI 2 from rfl, r_w (by decide), Option.bind_some, hI, ← hw.2.1.1.1]
theorem r_n0 {I : MI} {L : ML} {w : Nat → Int32} {c : Nat} (hw : WF c w) (hI : I 150 = w) : f_X12_rooms I L = some (nI (nw w 0)) := by
  unfold f_X12_rooms
  rw [show ldI I 150 2143 0 = some (I 150 0) from r_w (k := 0) (by decide), Option.bind_some, hI, ← hw.1.1.1]
theorem r_ofw {I : MI} {L : ML} {w : Nat → Int32} (hI : I 150 = w) {n k : Nat} (hn : n < 12) (hk : k < 10) : f_X12_of (nI n) (nI k) I L = some (w (85 + 10 * n + k)) := by rw [r_of hn hk, hI]
theorem r_hw {I : MI} {L : ML} {w : Nat → Int32} (hI : I 150 = w) {n k : Nat} (hn : n < 6) (hk : k < 3) : f_X12_ofHeir (nI n) (nI k) I L = some (w (67 + 3 * n + k)) := by rw [r_heir hn hk, hI]
theorem r_dw {I : MI} {L : ML} {w : Nat → Int32} (hI : I 150 = w) {n k : Nat} (hn : n < 14) (hk : k < 3) : f_X12_ofDoor (nI n) (nI k) I L = some (w (25 + 3 * n + k)) := by rw [r_door hn hk, hI]
theorem C_z2 {h : Nat} {I : MI} {L : ML} {w : Nat → Int32} {c : Nat} (hw : WF c w) (hc : CR h I L w) : I h 2 = nI (nw w 2) := hc.2.1.1.trans hw.2.1.1.1
theorem C_z3 {h : Nat} {I : MI} {L : ML} {w : Nat → Int32} {c : Nat} (hw : WF c w) (hc : CR h I L w) : I h 3 = nI (nw w 3) := hc.2.2.1.1.trans hw.2.2.1.1.1
theorem C_z1 {h : Nat} {I : MI} {L : ML} {w : Nat → Int32} {c : Nat} (hw : WF c w) (hc : CR h I L w) : I h 1 = nI (nw w 1) := hc.1.2.1.trans hw.1.2.1.1
-- ===== room
def dcnt (w : Nat → Int32) (r : Int32) : Nat → Int32
  | 0 => 0
  | k + 1 => if w (25 + 3 * k) = r ∨ w (26 + 3 * k) = r then dcnt w r k + 1 else dcnt w r k
def scnt (w : Nat → Int32) (r : Int32) : Nat → Int32
  | 0 => 0
  | k + 1 => if w (67 + 3 * k + 0) = r then scnt w r k + 1 else scnt w r k
def lsum (w : Nat → Int32) (r : Nat) : Nat → Int32
  | 0 => 0
  | k + 1 => lsum w r k + nI (atN w k r)
theorem c_doorsOf {h : Nat} {I : MI} {L : ML} {w : Nat → Int32} {c : Nat} (hw : WF c w) (hc : CR h I L w) (r : Int32) : f_X3_doorsOf h r I L = some (dcnt w r (nw w 1)) := by
  have h14 := hw.1.2.1.2
  have z := C_z1 hw hc
  have key : Tt (f_X3_doorsOf h r I L) (fun x => x = dcnt w r (nw w 1)) := by
    unfold f_X3_doorsOf
    refine lp0 (fun fuel k (b : Int32) => f_X3_doorsOf_4 fuel h r b (nI k) I L) (nw w 1) (fun k b => b = dcnt w r k) (by omega) ?_ ?_ rfl
    · intro fuel k b hk hb hn
      obtain ⟨d0, d1, -⟩ := hc.1.2.2.2 k (by omega)
      show Tt (f_X3_doorsOf_4 (fuel + 1) h r b (nI k) I L) _
      unfold f_X3_doorsOf_4 f_X3_doorsOf_38 f_X3_doorsOf_41
      rw [z, if_neg (le_n (by omega) (by omega) hk), ldR_n (show k < 14 by omega) (by decide), Option.bind_some, Option.bind_some, d0, d1, zI_1]
      by_cases h0 : w (25 + 3 * k) = r
      · rw [if_pos h0]
        refine hn _ ?_
        show _ = if w (25 + 3 * k) = r ∨ w (26 + 3 * k) = r then _ else _
        rw [if_pos (Or.inl h0), hb]
      · rw [if_neg h0]
        by_cases h1 : w (26 + 3 * k) = r
        · rw [if_pos h1]
          refine hn _ ?_
          show _ = if w (25 + 3 * k) = r ∨ w (26 + 3 * k) = r then _ else _
          rw [if_pos (Or.inr h1), hb]
        · rw [if_neg h1]
          refine hn _ ?_
          show _ = if w (25 + 3 * k) = r ∨ w (26 + 3 * k) = r then _ else _
          rw [if_neg (fun h9 => h9.elim h0 h1), hb]
    · intro fuel b hb
      show Tt (f_X3_doorsOf_4 (fuel + 1) h r b (nI (nw w 1)) I L) _
      unfold f_X3_doorsOf_4
      rw [z, if_pos (Int32.le_refl _)]
      exact Tt_some hb
  obtain ⟨x, e1, e2⟩ := key
  rw [e1, e2]
theorem r_doors {I : MI} {L : ML} {w : Nat → Int32} {c : Nat} (hw : WF c w) (hI : I 150 = w) (r : Int32) : f_X12_room_66 FU r 1 0 0 I L = some (dcnt w r (nw w 1), I, L) := by
  have h14 := hw.1.2.1.2
  have key : Tt (f_X12_room_66 FU r 1 0 0 I L) (fun x => x = (dcnt w r (nw w 1), I, L)) := by
    refine lp0 (fun fuel k (b : Int32) => f_X12_room_66 fuel r 1 b (nI k) I L) (nw w 1) (fun k b => b = dcnt w r k) (by omega) ?_ ?_ rfl
    · intro fuel k b hk hb hn
      show Tt (f_X12_room_66 (fuel + 1) r 1 b (nI k) I L) _
      have d0 : f_X12_ofDoor (nI k) 0 I L = some (w (25 + 3 * k)) := r_dw (k := 0) hI (by omega) (by decide)
      have d1 : f_X12_ofDoor (nI k) 1 I L = some (w (25 + 3 * k + 1)) := r_dw (k := 1) hI (by omega) (by decide)
      rw [show 25 + 3 * k + 1 = 26 + 3 * k by omega] at d1
      unfold f_X12_room_66 f_X12_room_100 f_X12_room_105
      rw [show ldI I 150 2143 1 = some (I 150 1) from r_w (k := 1) (by decide), Option.bind_some, hI, hw.1.2.1.1, if_neg (le_n (by omega) (by omega) hk), d0, Option.bind_some, d1, Option.bind_some, zI_1, bI_t, bI_f]
      by_cases h0 : w (25 + 3 * k) = r
      · rw [if_pos h0]
        refine hn _ ?_
        show _ = if w (25 + 3 * k) = r ∨ w (26 + 3 * k) = r then _ else _
        rw [if_pos (Or.inl h0), hb]
      · rw [if_neg h0]
        by_cases h1 : w (26 + 3 * k) = r
        · rw [if_pos h1]
          refine hn _ ?_
          show _ = if w (25 + 3 * k) = r ∨ w (26 + 3 * k) = r then _ else _
          rw [if_pos (Or.inr h1), hb]
        · rw [if_neg h1, Int32.add_zero]
          refine hn _ ?_
          show _ = if w (25 + 3 * k) = r ∨ w (26 + 3 * k) = r then _ else _
          rw [if_neg (fun h9 => h9.elim h0 h1), hb]
    · intro fuel b hb
      show Tt (f_X12_room_66 (fuel + 1) r 1 b (nI (nw w 1)) I L) _
      unfold f_X12_room_66 f_X12_room_113 f_X12_room_155 f_X12_room_167
      rw [show ldI I 150 2143 1 = some (I 150 1) from r_w (k := 1) (by decide), Option.bind_some, hI, ← hw.1.2.1.1, if_pos (Int32.le_refl _), if_neg (by decide), if_neg (by decide), hb]
      exact Tt_some rfl
  obtain ⟨x, e1, e2⟩ := key
  rw [e1, e2]
theorem c_sits {h : Nat} {I : MI} {L : ML} {w : Nat → Int32} {c : Nat} (hw : WF c w) (hc : CR h I L w) (r : Int32) : f_X3_sittingIn h r I L = some (scnt w r (nw w 2)) := by
  have h6 := hw.2.1.1.2
  have z := C_z2 hw hc
  have key : Tt (f_X3_sittingIn h r I L) (fun x => x = scnt w r (nw w 2)) := by
    unfold f_X3_sittingIn
    refine lp0 (fun fuel k (b : Int32) => f_X3_sittingIn_4 fuel h r b (nI k) I L) (nw w 2) (fun k b => b = scnt w r k) (by omega) ?_ ?_ rfl
    · intro fuel k b hk hb hn
      obtain ⟨d0, -⟩ := hc.2.1.2 k (by omega)
      show Tt (f_X3_sittingIn_4 (fuel + 1) h r b (nI k) I L) _
      unfold f_X3_sittingIn_4 f_X3_sittingIn_28
      rw [z, if_neg (le_n (by omega) (by omega) hk), ldR_n (show k < 6 by omega) (by decide), Option.bind_some, d0, zI_1]
      refine Tt_ite (fun h9 => hn _ ?_) (fun h9 => hn _ ?_)
      · show _ = if w (67 + 3 * k + 0) = r then _ else _
        rw [if_pos h9, hb]
      · show _ = if w (67 + 3 * k + 0) = r then _ else _
        rw [if_neg h9, hb]
    · intro fuel b hb
      show Tt (f_X3_sittingIn_4 (fuel + 1) h r b (nI (nw w 2)) I L) _
      unfold f_X3_sittingIn_4
      rw [z, if_pos (Int32.le_refl _)]
      exact Tt_some hb
  obtain ⟨x, e1, e2⟩ := key
  rw [e1, e2]
theorem r_sits {I : MI} {L : ML} {w : Nat → Int32} {c : Nat} (hw : WF c w) (hI : I 150 = w) (r : Int32) : f_X12_room_121 FU r 2 0 0 I L = some (scnt w r (nw w 2), I, L) := by
  have h6 := hw.2.1.1.2
  have key : Tt (f_X12_room_121 FU r 2 0 0 I L) (fun x => x = (scnt w r (nw w 2), I, L)) := by
    refine lp0 (fun fuel k (b : Int32) => f_X12_room_121 fuel r 2 b (nI k) I L) (nw w 2) (fun k b => b = scnt w r k) (by omega) ?_ ?_ rfl
    · intro fuel k b hk hb hn
      show Tt (f_X12_room_121 (fuel + 1) r 2 b (nI k) I L) _
      have d0 : f_X12_ofHeir (nI k) 0 I L = some (w (67 + 3 * k + 0)) := r_hw (k := 0) hI (by omega) (by decide)
      unfold f_X12_room_121 f_X12_room_147
      rw [r_n2 hw hI, Option.bind_some, if_neg (le_n (by omega) (by omega) hk), d0, Option.bind_some, zI_1, bI_t, bI_f]
      refine Tt_ite (fun h9 => hn _ ?_) (fun h9 => hn _ ?_)
      · show _ = if w (67 + 3 * k + 0) = r then _ else _
        rw [if_pos h9, hb]
      · show _ = if w (67 + 3 * k + 0) = r then _ else _
        rw [if_neg h9, hb, Int32.add_zero]
    · intro fuel b hb
      show Tt (f_X12_room_121 (fuel + 1) r 2 b (nI (nw w 2)) I L) _
      unfold f_X12_room_121 f_X12_room_155 f_X12_room_167
      rw [r_n2 hw hI, Option.bind_some, if_pos (Int32.le_refl _), if_neg (by decide), hb]
      exact Tt_some rfl
  obtain ⟨x, e1, e2⟩ := key
  rw [e1, e2]
theorem c_louds {h : Nat} {I : MI} {L : ML} {w : Nat → Int32} {c : Nat} (hw : WF c w) (hc : CR h I L w) {r : Nat} (hr : r < nw w 0) : f_X3_loudnessOf h (nI r) I L = some (lsum w r (nw w 3)) := by
  have h12 := hw.2.2.1.1.2
  have z := C_z3 hw hc
  have key : Tt (f_X3_loudnessOf h (nI r) I L) (fun x => x = lsum w r (nw w 3)) := by
    unfold f_X3_loudnessOf
    refine lp0 (fun fuel k (b : Int32) => f_X3_loudnessOf_4 fuel h (nI r) b (nI k) I L) (nw w 3) (fun k b => b = lsum w r k) (by omega) ?_ ?_ rfl
    · intro fuel k b hk hb hn
      show Tt (f_X3_loudnessOf_4 (fuel + 1) h (nI r) b (nI k) I L) _
      unfold f_X3_loudnessOf_4
      rw [z, if_neg (le_n (by omega) (by omega) hk), ldR_n (show k < 12 by omega) (by decide), Option.bind_some, c_at hw hc hk hr, Option.bind_some, zI_1]
      exact hn _ (by rw [hb]; rfl)
    · intro fuel b hb
      show Tt (f_X3_loudnessOf_4 (fuel + 1) h (nI r) b (nI (nw w 3)) I L) _
      unfold f_X3_loudnessOf_4
      rw [z, if_pos (Int32.le_refl _)]
      exact Tt_some hb
  obtain ⟨x, e1, e2⟩ := key
  rw [e1, e2]
theorem r_louds {I : MI} {L : ML} {w : Nat → Int32} {c : Nat} (hw : WF c w) (hI : RW I w) {r : Nat} (hr : r < 10) : f_X12_loudAt_9 FU (nI r) 0 0 0 I L = some (lsum w r (nw w 3), I, L) := by
  have h12 := hw.2.2.1.1.2
  have key : Tt (f_X12_loudAt_9 FU (nI r) 0 0 0 I L) (fun x => x = (lsum w r (nw w 3), I, L)) := by
    refine lp0 (fun fuel k (b : Int32) => f_X12_loudAt_9 fuel (nI r) 0 b (nI k) I L) (nw w 3) (fun k b => b = lsum w r k) (by omega) ?_ ?_ rfl
    · intro fuel k b hk hb hn
      show Tt (f_X12_loudAt_9 (fuel + 1) (nI r) 0 b (nI k) I L) _
      unfold f_X12_loudAt_9 f_X12_loudAt_39
      rw [r_n3 hw hI.1, Option.bind_some, if_neg (le_n (by omega) (by omega) hk), r_h0, Option.bind_some, if_neg (by decide), r_at hw hI hk hr, Option.bind_some, zI_1]
      exact hn _ (by rw [hb]; rfl)
    · intro fuel b hb
      show Tt (f_X12_loudAt_9 (fuel + 1) (nI r) 0 b (nI (nw w 3)) I L) _
      unfold f_X12_loudAt_9
      rw [r_n3 hw hI.1, Option.bind_some, if_pos (Int32.le_refl _), hb]
      exact Tt_some rfl
  obtain ⟨x, e1, e2⟩ := key
  rw [e1, e2]
theorem C_room {c : Nat} {I : MI} {L : ML} {A : AS} (hA : AI c A) (hC : CI9 I L A) (hR : RI9 I L A) (x y : Int32) : ∃ I' L', SI [IOB, NSE] (f_X11_room x y I L) (f_X12_room x y) I' L' ∧ CI9 I' L' A ∧ RI9 I' L' A := by
  obtain ⟨h, d, hd, cj⟩ := id hC
  obtain ⟨e, cr, e0, e2, e3⟩ := C_n hA cj
  by_cases hx : ∃ k, k < nw A.1 0 ∧ x = nI k
  · obtain ⟨k, hk, rfl⟩ := hx
    have h10 := AI_r hA
    have hk10 : k < 10 := by omega
    have n1 : I (h + 1) k = A.1 (15 + k) := cr.1.2.2.1 k hk10
    by_cases hy : ∃ j, j < 4 ∧ y = nI j
    · obtain ⟨j, hj, rfl⟩ := hy
      have h1 := (r_no (x := nI j) (r := 4) (by decide)).1 j hj rfl
      have h2 : ¬ nI j < 0 ∧ ¬ 3 < nI j := h1
      refine mkSI (res := .inr (if j = 0 then A.1 (15 + k) else if j = 1 then dcnt A.1 (nI k) (nw A.1 1) else if j = 2 then scnt A.1 (nI k) (nw A.1 2) else lsum A.1 k (nw A.1 3))) hR ?_ ?_
      · simp only [f_X11_room, c_needRoom_t hd e e0 h10 hk, Option.bind_some, xc_r, hs_h hd e, ldI_n hk10 (show 10 < 2 ^ 31 by decide), n1, c_doorsOf hA.1 cr, c_sits hA.1 cr, c_louds hA.1 cr hk]
        have hj9 : j = 0 ∨ j = 1 ∨ j = 2 ∨ j = 3 := by omega
        rcases hj9 with rfl | rfl | rfl | rfl <;> exact Tt_some (Cp_q hC)
      · intro I' L' hR'
        simp only [f_X12_room, f_X12_room_33, pf0, Option.bind_some, r_noRoom_t (R_0 hA hR') h10 hk, r_thr_f, bft, if_false, r_in, decide_eq_true h2, if_true]
        have hj9 : j = 0 ∨ j = 1 ∨ j = 2 ∨ j = 3 := by omega
        rcases hj9 with rfl | rfl | rfl | rfl
        · rw [if_pos (by decide), show (15 : Int32) = nI 15 from rfl, zI_add, r_w (by omega), Option.bind_some, R_w hR']
          exact Tt_some (Rp_q hR' (scR_rf _ _))
        · rw [if_neg (by decide), if_pos (by decide)]
          have h9 := r_doors hA.1 (R_w hR') (L := L') (nI k)
          exact Tt_eq h9 (Rp_q hR' (scR_rf _ _))
        · rw [if_neg (by decide), if_neg (by decide)]
          unfold f_X12_room_113
          rw [if_pos (by decide)]
          have h9 := r_sits hA.1 (R_w hR') (L := L') (nI k)
          exact Tt_eq h9 (Rp_q hR' (scR_rf _ _))
        · rw [if_neg (by decide), if_neg (by decide)]
          unfold f_X12_room_113 f_X12_room_155 f_X12_loudAt f_X12_room_167
          rw [if_neg (by decide), if_pos (by decide)]
          refine Tt_bind (Tt_bind (Tt_mono (r_sp hA.1 (R_w hR')) ?_))
          intro s ⟨s1, s2, s3⟩
          refine Tt_eq (r_louds hA.1 s3 hk10) ?_
          rw [s1]
          exact Tt_some (Rp_q hR' (scR_156 s2))
    · have hne : ∀ k, k < 4 → y ≠ nI k := no_ex hy
      refine mkSI (res := .inl 2) hR ?_ ?_
      · simp only [f_X11_room, c_needRoom_t hd e e0 h10 hk, Option.bind_some, xc_r]
        rw [if_neg (show ¬ y = 0 from hne 0 (by decide)), if_neg (show ¬ y = 1 from hne 1 (by decide)), if_neg (show ¬ y = 2 from hne 2 (by decide)), if_neg (show ¬ y = 3 from hne 3 (by decide))]
        exact Tt_some (Cp_t hC (wk_2 (by decide)))
      · intro I' L' hR'
        have h2 : ¬ (¬ y < 0 ∧ ¬ 3 < y) := (r_no (x := y) (r := 4) (by decide)).2 hne
        simp only [f_X12_room, f_X12_room_33, f_X12_room_40, pf0, Option.bind_some, r_noRoom_t (R_0 hA hR') h10 hk, r_thr_f, bft, if_false, r_in, decide_eq_false h2, if_true, r_thr_t]
        exact Tt_some (Rp_t hR' (by decide))
  · refine mkSI (res := .inl 1) hR ?_ ?_
    · simp only [f_X11_room, c_needRoom_f hd e e0 (AI_r hA) (no_ex hx), Option.bind_some, xc_l]
      exact Tt_some (Cp_t hC (wk_1 (by decide)))
    · intro I' L' hR'
      simp only [f_X12_room, f_X12_room_40, pf0, Option.bind_some, r_noRoom_f (R_0 hA hR') (AI_r hA) (no_ex hx), r_thr_t, if_true]
      exact Tt_some (Rp_t hR' (by decide))
-- ===== odds, likeliest
def wgN (w : Nat → Int32) (n r p : Nat) : Nat := (10 - (nw w (85 + 10 * n + 2) - p) - (p - nw w (85 + 10 * n + 2))) * atN w n r
theorem wg_le {w : Nat → Int32} (hw : WFn w) {n r p : Nat} (hn : n < nw w 3) : wgN w n r p ≤ 990 := by
  have h1 := at_le hw (r := r) hn
  unfold wgN
  exact Nat.le_trans (Nat.mul_le_mul (show _ ≤ 10 by omega) h1) (by decide)
theorem near9 {a p : Nat} (ha : a ≤ 99) (hp : p ≤ 99) : (if 0 < (10 - (if 0 ≤ (nI a - nI p) then (nI a - nI p) else 0 - (nI a - nI p))) then (10 - (if 0 ≤ (nI a - nI p) then (nI a - nI p) else 0 - (nI a - nI p))) else 0) = nI (10 - (a - p) - (p - a)) := by
  have ea := zI_ti (n := a) (by omega)
  have ep := zI_ti (n := p) (by omega)
  have e0 : (0 : Int32).toInt = 0 := by decide
  have e10 : (10 : Int32).toInt = 10 := by decide
  have e1 : (nI a - nI p).toInt = (a : Int) - p := by rw [ti_sub] <;> omega
  have e2 : (if 0 ≤ (nI a - nI p) then (nI a - nI p) else 0 - (nI a - nI p)).toInt = ((a - p : Nat) : Int) + ((p - a : Nat) : Int) := by
    split
    · rename_i h
      rw [Int32.le_iff_toInt_le, e1, e0] at h
      rw [e1]; omega
    · rename_i h
      rw [Int32.le_iff_toInt_le, e1, e0] at h
      rw [ti_sub] <;> rw [e1, e0] <;> omega
  generalize (if 0 ≤ (nI a - nI p) then (nI a - nI p) else 0 - (nI a - nI p)) = d at e2
  have e3 : (10 - d).toInt = 10 - d.toInt := by rw [ti_sub] <;> rw [e10] <;> omega
  split
  · rename_i h
    rw [Int32.lt_iff_toInt_lt, e3, e0] at h
    apply zI_of_ti
    rw [e3]; omega
  · rename_i h
    rw [Int32.lt_iff_toInt_lt, e3, e0] at h
    rw [show 10 - (a - p) - (p - a) = 0 by omega]; rfl
theorem c_weight {h : Nat} {I : MI} {L : ML} {w : Nat → Int32} {c : Nat} (hw : WF c w) (hc : CR h I L w) {n r p : Nat} (hn : n < nw w 3) (hr : r < nw w 0) (hp : p ≤ 99) : f_X3_weight h (h + 33 + n) (nI r) (nI p) I L = some (nI (wgN w n r p)) := by
  have h12 := hw.2.2.1.1.2
  obtain ⟨n0, n1, n2, n3, -⟩ := (hc.2.2.1.2 n (by omega)).1 hn
  have hpt := (hw.2.2.1.2 n hn).2.2.1
  have g1 := hpt.1
  unfold f_X3_weight
  rw [c_at hw hc hn hr, Option.bind_some, n3, g1, near9 hpt.2 hp, zI_mul]
  rfl
theorem r_weight {I : MI} {L : ML} {w : Nat → Int32} {c : Nat} (hw : WF c w) (hI : RW I w) {n r p : Nat} (hn : n < nw w 3) (hr : r < 10) (hp : p ≤ 99) : f_X12_weightOf (nI n) (nI r) (nI p) I L = some (nI (wgN w n r p)) := by
  have h12 := hw.2.2.1.1.2
  have hpt := (hw.2.2.1.2 n hn).2.2.1
  have g1 := hpt.1
  unfold f_X12_weightOf
  rw [show f_X12_of (nI n) 2 I L = some (w (85 + 10 * n + 2)) from r_ofw (k := 2) hI.1 (by omega) (by decide), Option.bind_some, r_at hw hI hn hr, Option.bind_some, g1, near9 hpt.2 hp, zI_mul]
  rfl
def wsum (w : Nat → Int32) (r p : Nat) : Nat → Nat
  | 0 => 0
  | k + 1 => wsum w r p k + wgN w k r p
theorem wsum_le {w : Nat → Int32} (hw : WFn w) {r p : Nat} : ∀ k, k ≤ nw w 3 → wsum w r p k ≤ 990 * k := by
  intro k
  induction k with
  | zero => intro _; exact Nat.le_refl _
  | succ k ih =>
    intro hk
    have h1 := ih (by omega)
    have h2 := wg_le hw (n := k) (r := r) (p := p) (by omega)
    show wsum w r p k + wgN w k r p ≤ _
    omega
theorem dv_n {x : Int32} {s : Nat} (h : s ≠ 0) (hs : s < 2 ^ 31) : dvI x (nI s) = some (x / nI s) := by
  unfold dvI
  rw [if_neg (by rw [show (0 : Int32) = nI 0 from rfl, zI_eq hs (by decide)]; exact h)]
theorem c_isP_t {y : Int32} {I : MI} {L : ML} (hy : ¬ y < 0 ∧ ¬ 99 < y) : f_X11_isPitch y I L = some true := by
  unfold f_X11_isPitch f_X11_isPitch_15; rw [ite2_t hy]
theorem c_isP_f {y : Int32} {I : MI} {L : ML} (hy : ¬ (¬ y < 0 ∧ ¬ 99 < y)) : f_X11_isPitch y I L = some false := by
  unfold f_X11_isPitch f_X11_isPitch_14 f_X11_isPitch_15; rw [ite2_f hy]
def odN (w : Nat → Int32) (n r p : Nat) : Int32 := if wsum w r p (nw w 3) = 0 then 0 else 10000 * nI (wgN w n r p) / nI (wsum w r p (nw w 3))
theorem c_odds {h d c : Nat} {I : MI} {L : ML} {w : Nat → Int32} (hd : HD h d) (hw : WF c w) (cr : CR h I L w) (e : I 0 4 = nI h) {n r p : Nat} (hn : n < nw w 3) (hr : r < nw w 0) (hp : p ≤ 99) : f_X11_odds_23 FU (nI n) (nI r) (nI p) 0 0 I L = some (.inr (odN w n r p), I, L) := by
  have h12 := hw.2.2.1.1.2
  have e3 := C_z3 hw cr
  have hS := wsum_le hw.2.2.1 (r := r) (p := p) (nw w 3) (Nat.le_refl _)
  have key : Tt (f_X11_odds_23 FU (nI n) (nI r) (nI p) (nI 0) (nI 0) I L) (fun x => x = (.inr (odN w n r p), I, L)) := by
    refine lp0 (fun fuel k (b : Nat) => f_X11_odds_23 fuel (nI n) (nI r) (nI p) (nI b) (nI k) I L) (nw w 3) (fun k b => b = wsum w r p k) (by omega) ?_ ?_ (s := 0) rfl
    · intro fuel k b hk hb hnx
      show Tt (f_X11_odds_23 (fuel + 1) (nI n) (nI r) (nI p) (nI b) (nI k) I L) _
      unfold f_X11_odds_23
      simp only [hs_h hd e, Option.bind_some, e3]
      rw [if_neg (le_n (by omega) (by omega) hk), ldR_n (show k < 12 by omega) (by decide), Option.bind_some, c_weight hw cr hk hr hp, Option.bind_some, zI_add, zI_1]
      exact hnx _ (by rw [hb]; rfl)
    · intro fuel b hb
      show Tt (f_X11_odds_23 (fuel + 1) (nI n) (nI r) (nI p) (nI b) (nI (nw w 3)) I L) _
      unfold f_X11_odds_23 f_X11_odds_99
      simp only [hs_h hd e, Option.bind_some, e3]
      rw [if_pos (Int32.le_refl _), hb, ldR_n (show n < 12 by omega) (by decide), Option.bind_some, c_weight hw cr hn hr hp, Option.bind_some]
      unfold odN
      by_cases h9 : wsum w r p (nw w 3) = 0
      · rw [if_neg (by rw [zI_0, zI_lt (by decide) (by omega)]; omega), if_pos h9]
        exact Tt_some rfl
      · rw [if_pos (by rw [zI_0, zI_lt (by decide) (by omega)]; omega), if_neg h9, dv_n h9 (by omega), Option.bind_some]
        exact Tt_some rfl
  rw [← zI_0] at key
  obtain ⟨x, e1, e2⟩ := key
  rw [e1, e2]
theorem r_odds {c : Nat} {I : MI} {L : ML} {w : Nat → Int32} (hw : WF c w) (hI : RW I w) {n r p : Nat} (hn : n < nw w 3) (hr : r < 10) (hp : p ≤ 99) : f_X12_odds_69 FU (nI n) (nI r) (nI p) 0 0 I L = some (odN w n r p, I, L) := by
  have h12 := hw.2.2.1.1.2
  have hS := wsum_le hw.2.2.1 (r := r) (p := p) (nw w 3) (Nat.le_refl _)
  have key : Tt (f_X12_odds_69 FU (nI n) (nI r) (nI p) (nI 0) (nI 0) I L) (fun x => x = (odN w n r p, I, L)) := by
    refine lp0 (fun fuel k (b : Nat) => f_X12_odds_69 fuel (nI n) (nI r) (nI p) (nI b) (nI k) I L) (nw w 3) (fun k b => b = wsum w r p k) (by omega) ?_ ?_ (s := 0) rfl
    · intro fuel k b hk hb hnx
      show Tt (f_X12_odds_69 (fuel + 1) (nI n) (nI r) (nI p) (nI b) (nI k) I L) _
      unfold f_X12_odds_69
      rw [r_n3 hw hI.1, Option.bind_some, if_neg (le_n (by omega) (by omega) hk), r_weight hw hI hk hr hp, Option.bind_some, zI_add, zI_1]
      exact hnx _ (by rw [hb]; rfl)
    · intro fuel b hb
      show Tt (f_X12_odds_69 (fuel + 1) (nI n) (nI r) (nI p) (nI b) (nI (nw w 3)) I L) _
      unfold f_X12_odds_69 f_X12_odds_120
      rw [r_n3 hw hI.1, Option.bind_some, if_pos (Int32.le_refl _), hb, r_weight hw hI hn hr hp, Option.bind_some]
      unfold odN
      by_cases h9 : wsum w r p (nw w 3) = 0
      · rw [if_pos (by rw [zI_0, zI_eq (by omega) (by decide)]; exact h9), if_pos h9]
        exact Tt_some rfl
      · rw [if_neg (by rw [zI_0, zI_eq (by omega) (by decide)]; exact h9), if_neg h9, dv_n h9 (by omega), Option.bind_some]
        exact Tt_some rfl
  rw [← zI_0] at key
  obtain ⟨x, e1, e2⟩ := key
  rw [e1, e2]
theorem C_odds {c : Nat} {I : MI} {L : ML} {A : AS} (hA : AI c A) (hC : CI9 I L A) (hR : RI9 I L A) (x y z : Int32) : ∃ I' L', SI [IOB, IAE] (f_X11_odds x y z I L) (f_X12_odds x y z) I' L' ∧ CI9 I' L' A ∧ RI9 I' L' A := by
  obtain ⟨h, d, hd, cj⟩ := id hC
  obtain ⟨e, cr, e0, e2, e3⟩ := C_n hA cj
  have h10 := AI_r hA
  have h12 := AI_n hA
  by_cases hx : ∃ k, k < nw A.1 3 ∧ x = nI k
  · by_cases hy : ∃ k, k < nw A.1 0 ∧ y = nI k
    · obtain ⟨n, hn, rfl⟩ := hx
      obtain ⟨r, hr, rfl⟩ := hy
      by_cases hz : ¬ z < 0 ∧ ¬ 99 < z
      · obtain ⟨p, -, hp, rfl⟩ := rng_t (a := 0) (b := 99) (by decide) (by decide) hz
        refine mkSI (res := .inr (odN A.1 n r p)) hR ?_ ?_
        · simp -implicitDefEqProofs only [f_X11_odds, c_needNoise_t hd e e3 h12 hn, c_needRoom_t hd e e0 h10 hr, c_isP_t hz, c_need_t, Option.bind_some, xc_r]
          exact Tt_eq (c_odds hd hA.1 cr e hn hr hp) (Cp_q hC)
        · intro I' L' hR'
          simp -implicitDefEqProofs only [f_X12_odds, f_X12_odds_27, f_X12_odds_50, pf0, Option.bind_some, r_noNoise_t (R_3 hA hR') h12 hn, r_noRoom_t (R_0 hA hR') h10 hr, r_thr_f, bft, if_false, r_in, decide_eq_true hz, if_true]
          refine Tt_bind (Tt_mono (r_sp hA.1 (R_w hR')) ?_)
          intro s ⟨s1, s2, s3⟩
          rw [s1]
          exact Tt_eq (r_odds hA.1 s3 hn (by omega) hp) (Rp_q hR' (scR_156 s2))
      · refine mkSI (res := .inl 2) hR ?_ ?_
        · simp -implicitDefEqProofs only [f_X11_odds, c_needNoise_t hd e e3 h12 hn, c_needRoom_t hd e e0 h10 hr, c_isP_f hz, c_need_f, Option.bind_some, xc_r, xc_l]
          exact Tt_some (Cp_t hC (wk_2 (by decide)))
        · intro I' L' hR'
          simp -implicitDefEqProofs only [f_X12_odds, f_X12_odds_27, pf0, Option.bind_some, r_noNoise_t (R_3 hA hR') h12 hn, r_noRoom_t (R_0 hA hR') h10 hr, r_thr_f, bft, if_false, r_in, decide_eq_false hz]
          unfold f_X12_odds_50 f_X12_odds_57
          rw [r_thr_t, Option.bind_some, if_pos rfl]
          exact Tt_some (Rp_t hR' (by decide))
    · obtain ⟨n, hn, rfl⟩ := hx
      refine mkSI (res := .inl 1) hR ?_ ?_
      · simp -implicitDefEqProofs only [f_X11_odds, c_needNoise_t hd e e3 h12 hn, c_needRoom_f hd e e0 h10 (no_ex hy), Option.bind_some, xc_r, xc_l]
        exact Tt_some (Cp_t hC (wk_1 (by decide)))
      · intro I' L' hR'
        unfold f_X12_odds
        rw [pf0, Option.bind_some, r_noNoise_t (R_3 hA hR') h12 hn, Option.bind_some, if_neg (by decide), r_noRoom_f (R_0 hA hR') h10 (no_ex hy), Option.bind_some, if_pos rfl]
        unfold f_X12_odds_22 f_X12_odds_27 f_X12_odds_57
        rw [r_thr_t, Option.bind_some, if_pos rfl]
        exact Tt_some (Rp_t hR' (by decide))
  · refine mkSI (res := .inl 1) hR ?_ ?_
    · simp -implicitDefEqProofs only [f_X11_odds, c_needNoise_f hd e e3 h12 (no_ex hx), Option.bind_some, xc_l]
      exact Tt_some (Cp_t hC (wk_1 (by decide)))
    · intro I' L' hR'
      unfold f_X12_odds
      rw [pf0, Option.bind_some, r_noNoise_f (R_3 hA hR') h12 (no_ex hx), Option.bind_some, if_pos rfl]
      unfold f_X12_odds_22 f_X12_odds_27 f_X12_odds_57
      rw [r_thr_t, Option.bind_some, if_pos rfl]
      exact Tt_some (Rp_t hR' (by decide))
def lkN (w : Nat → Int32) (r p : Nat) : Nat → Int32 × Int32
  | 0 => (-1, 0)
  | k + 1 => if nI (wgN w k r p) ≤ (lkN w r p k).2 then lkN w r p k else (nI k, nI (wgN w k r p))
theorem C_likeliest {c : Nat} {I : MI} {L : ML} {A : AS} (hA : AI c A) (hC : CI9 I L A) (hR : RI9 I L A) (y z : Int32) : ∃ I' L', SI [IOB, IAE] (f_X11_likeliest y z I L) (f_X12_likeliest y z) I' L' ∧ CI9 I' L' A ∧ RI9 I' L' A := by
  obtain ⟨h, d, hd, cj⟩ := id hC
  obtain ⟨e, cr, e0, e2, e3⟩ := C_n hA cj
  have h10 := AI_r hA
  have h12 := AI_n hA
  by_cases hy : ∃ k, k < nw A.1 0 ∧ y = nI k
  · obtain ⟨r, hr, rfl⟩ := hy
    by_cases hz : ¬ z < 0 ∧ ¬ 99 < z
    · obtain ⟨p, -, hp, rfl⟩ := rng_t (a := 0) (b := 99) (by decide) (by decide) hz
      refine mkSI (res := .inr (lkN A.1 r p (nw A.1 3)).1) hR ?_ ?_
      · simp only [f_X11_likeliest, c_needRoom_t hd e e0 h10 hr, c_isP_t hz, c_need_t, Option.bind_some, xc_r]
        refine lp0 (fun fuel k (b : Int32 × Int32) => f_X11_likeliest_20 fuel (nI r) (nI p) b.1 b.2 (nI k) I L) (nw A.1 3) (fun k b => b = lkN A.1 r p k) (by omega) ?_ ?_ (s := (-1, 0)) rfl
        · intro fuel k b hk hb hnx
          show Tt (f_X11_likeliest_20 (fuel + 1) (nI r) (nI p) b.1 b.2 (nI k) I L) _
          unfold f_X11_likeliest_20 f_X11_likeliest_67
          rw [hs_h hd e, Option.bind_some, Option.bind_some, Option.bind_some, e3, if_neg (le_n (by omega) (by omega) hk), ldR_n (show k < 12 by omega) (by decide), Option.bind_some, c_weight hA.1 cr hk hr hp, Option.bind_some, zI_1]
          refine Tt_ite (fun h9 => hnx b ?_) (fun h9 => hnx (nI k, nI (wgN A.1 k r p)) ?_)
          · show _ = if nI (wgN A.1 k r p) ≤ (lkN A.1 r p k).2 then _ else _
            rw [← hb, if_pos h9]
          · show _ = if nI (wgN A.1 k r p) ≤ (lkN A.1 r p k).2 then _ else _
            rw [← hb, if_neg h9]
        · intro fuel b hb
          show Tt (f_X11_likeliest_20 (fuel + 1) (nI r) (nI p) b.1 b.2 (nI (nw A.1 3)) I L) _
          unfold f_X11_likeliest_20
          rw [hs_h hd e, Option.bind_some, e3, if_pos (Int32.le_refl _), hb]
          exact Tt_some (Cp_q hC)
      · intro I' L' hR'
        simp only [f_X12_likeliest, f_X12_likeliest_34, pf0, Option.bind_some, r_noRoom_t (R_0 hA hR') h10 hr, r_thr_f, bft, if_false, r_in, decide_eq_true hz, if_true]
        refine Tt_bind (Tt_mono (r_sp hA.1 (R_w hR')) ?_)
        intro s ⟨s1, s2, s3⟩
        rw [s1]
        refine lp0 (fun fuel k (b : Int32 × Int32) => f_X12_likeliest_55 fuel (nI r) (nI p) b.1 b.2 (nI k) s.1 L') (nw A.1 3) (fun k b => b = lkN A.1 r p k) (by omega) ?_ ?_ (s := (-1, 0)) rfl
        · intro fuel k b hk hb hnx
          show Tt (f_X12_likeliest_55 (fuel + 1) (nI r) (nI p) b.1 b.2 (nI k) s.1 L') _
          unfold f_X12_likeliest_55 f_X12_likeliest_87
          rw [r_n3 hA.1 s3.1, Option.bind_some, if_neg (le_n (by omega) (by omega) hk), r_weight hA.1 s3 hk (by omega) hp, Option.bind_some, zI_1]
          refine Tt_ite (fun h9 => ?_) (fun h9 => ?_)
          · rw [if_neg (Int32.not_lt.mpr h9)]
            refine hnx b ?_
            show _ = if nI (wgN A.1 k r p) ≤ (lkN A.1 r p k).2 then _ else _
            rw [← hb, if_pos h9]
          · rw [if_pos (Int32.not_le.mp h9)]
            refine hnx (nI k, nI (wgN A.1 k r p)) ?_
            show _ = if nI (wgN A.1 k r p) ≤ (lkN A.1 r p k).2 then _ else _
            rw [← hb, if_neg h9]
        · intro fuel b hb
          show Tt (f_X12_likeliest_55 (fuel + 1) (nI r) (nI p) b.1 b.2 (nI (nw A.1 3)) s.1 L') _
          unfold f_X12_likeliest_55
          rw [r_n3 hA.1 s3.1, Option.bind_some, if_pos (Int32.le_refl _), hb]
          exact Tt_some (Rp_q hR' (scR_156 s2))
    · refine mkSI (res := .inl 2) hR ?_ ?_
      · simp only [f_X11_likeliest, c_needRoom_t hd e e0 h10 hr, c_isP_f hz, c_need_f, Option.bind_some, xc_r, xc_l]
        exact Tt_some (Cp_t hC (wk_2 (by decide)))
      · intro I' L' hR'
        simp only [f_X12_likeliest, f_X12_likeliest_34, f_X12_likeliest_41, pf0, Option.bind_some, r_noRoom_t (R_0 hA hR') h10 hr, r_thr_f, bft, if_false, r_in, decide_eq_false hz, r_thr_t, if_true]
        exact Tt_some (Rp_t hR' (by decide))
  · refine mkSI (res := .inl 1) hR ?_ ?_
    · simp only [f_X11_likeliest, c_needRoom_f hd e e0 h10 (no_ex hy), Option.bind_some, xc_l]
      exact Tt_some (Cp_t hC (wk_1 (by decide)))
    · intro I' L' hR'
      simp only [f_X12_likeliest, f_X12_likeliest_41, pf0, Option.bind_some, r_noRoom_f (R_0 hA hR') h10 (no_ex hy), r_thr_t, if_true]
      exact Tt_some (Rp_t hR' (by decide))
