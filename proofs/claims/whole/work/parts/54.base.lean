-- ===== numbers that may be wrong
theorem zI_0 : (0 : Int32) = nI 0 := rfl
theorem vld_of {x : Int32} {r : Nat} (h1 : ¬ x < 0) (h2 : x < nI r) (hr : r < 2 ^ 31) : ∃ k, k < r ∧ x = nI k := by
  rw [Int32.lt_iff_toInt_lt] at h1 h2
  rw [zI_ti hr] at h2
  have e0 : (0 : Int32).toInt = 0 := by decide
  rw [e0] at h1
  refine ⟨x.toInt.toNat, by omega, ?_⟩
  rw [← Int32.toInt_inj, zI_ti (by omega)]
  omega
theorem vld_le {x : Int32} {r : Nat} (h1 : ¬ x < 0) (h2 : ¬ nI r < x) (hr : r < 2 ^ 31) : ∃ k, k ≤ r ∧ x = nI k := by
  rw [Int32.lt_iff_toInt_lt] at h1 h2
  rw [zI_ti hr] at h2
  have e0 : (0 : Int32).toInt = 0 := by decide
  rw [e0] at h1
  refine ⟨x.toInt.toNat, by omega, ?_⟩
  rw [← Int32.toInt_inj, zI_ti (by omega)]
  omega
theorem ti_sub {x y : Int32} (h1 : -2147483648 ≤ x.toInt - y.toInt) (h2 : x.toInt - y.toInt < 2147483648) : (x - y).toInt = x.toInt - y.toInt := by
  rw [Int32.toInt_sub]; exact Int.bmod_eq_of_le (by omega) (by omega)
theorem ti_add {x y : Int32} (h1 : -2147483648 ≤ x.toInt + y.toInt) (h2 : x.toInt + y.toInt < 2147483648) : (x + y).toInt = x.toInt + y.toInt := by
  rw [Int32.toInt_add]; exact Int.bmod_eq_of_le (by omega) (by omega)
theorem ti_mul {x y : Int32} (h1 : -2147483648 ≤ x.toInt * y.toInt) (h2 : x.toInt * y.toInt < 2147483648) : (x * y).toInt = x.toInt * y.toInt := by
  rw [Int32.toInt_mul]; exact Int.bmod_eq_of_le (by omega) (by omega)
theorem zI_of_ti {x : Int32} {n : Nat} (h : x.toInt = (n : Int)) : x = nI n := by
  have hn : n < 2 ^ 31 := by have := x.toInt_lt; omega
  rw [← Int32.toInt_inj, zI_ti hn]; exact h
/-- max(0, a - b - c - d) -/
theorem zsub4 {a b c d : Nat} (ha : a ≤ 1000000) (hb : b ≤ 1000000) (hc : c ≤ 1000000) (hd : d ≤ 1000000) : (if 0 < nI a - nI b - nI c - nI d then nI a - nI b - nI c - nI d else 0) = nI (a - b - c - d) := by
  have ea := zI_ti (n := a) (by omega)
  have eb := zI_ti (n := b) (by omega)
  have ec := zI_ti (n := c) (by omega)
  have ed := zI_ti (n := d) (by omega)
  have e1 : (nI a - nI b).toInt = (a : Int) - b := by rw [ti_sub] <;> omega
  have e2 : (nI a - nI b - nI c).toInt = (a : Int) - b - c := by rw [ti_sub] <;> omega
  have e3 : (nI a - nI b - nI c - nI d).toInt = (a : Int) - b - c - d := by rw [ti_sub] <;> omega
  have e0 : (0 : Int32).toInt = 0 := by decide
  split
  · rename_i h
    rw [Int32.lt_iff_toInt_lt, e3, e0] at h
    apply zI_of_ti
    rw [e3]; omega
  · rename_i h
    rw [Int32.lt_iff_toInt_lt, e3, e0] at h
    rw [show a - b - c - d = 0 by omega]; rfl
-- ===== what a noise is at a room, who hears it
def atN (w : Nat → Int32) (n r : Nat) : Nat := nw w (85 + 10 * n + 3) - nw w (85 + 10 * n + 5) - cs w (10 * nw w (85 + 10 * n + 1) + r) - nw w (15 + nw w (85 + 10 * n + 1))
def hrs (w : Nat → Int32) (h n : Nat) : Bool := decide (nw w (67 + 3 * h + 1) ≤ atN w n (nw w (67 + 3 * h + 0)))
def hrd (w : Nat → Int32) (n : Nat) : Bool := (List.range (nw w 2)).any fun h => hrs w h n
theorem at_le {w : Nat → Int32} (hw : WFn w) {n r : Nat} (hn : n < nw w 3) : atN w n r ≤ 99 := by
  have := (hw.2 n hn).2.2.2.1.2
  unfold atN; omega
theorem cs_cases {w : Nat → Int32} (hw : WFd w) {a b : Nat} (ha : a < 10) (hb : b < 10) : cs w (10 * a + b) = 1000000 ∨ cs w (10 * a + b) ≤ 51200 := by
  have h := (VR_csF hw 10 (Nat.le_refl _)).1 (10 * a + b) (by omega)
  exact h
-- the reference
/-- the reference's cells hold w and its costs -/
def RW (I : MI) (w : Nat → Int32) : Prop := I 150 = w ∧ ∀ k, k < 100 → I 156 k = nI (cs w k)
theorem r_at {I : MI} {L : ML} {w : Nat → Int32} {c : Nat} (hw : WF c w) (hI : RW I w) {n r : Nat} (hn : n < nw w 3) (hr : r < 10) : f_X12_atOf (nI n) (nI r) I L = some (nI (atN w n r)) := by
  have hn12 := hw.2.2.1.1.2
  obtain ⟨h0, h1, h2, h3, h4, h5, -⟩ := hw.2.2.1.2 n hn
  have hc := hw.1.2.2.1 (nw w (85 + 10 * n + 1)) (by have := h1.1.2; omega)
  have hcs := cs_cases hw.1 (a := nw w (85 + 10 * n + 1)) (b := r) (by have := h1.1.2; omega) hr
  unfold f_X12_atOf
  rw [show (3 : Int32) = nI 3 from rfl, show (5 : Int32) = nI 5 from rfl, show (1 : Int32) = nI 1 from rfl, show (15 : Int32) = nI 15 from rfl, r_of (by omega) (by decide), Option.bind_some, r_of (by omega) (by decide), Option.bind_some, r_of (by omega) (by decide), Option.bind_some, hI.1, h1.1.1, r_cost (by have := h1.1.2; omega) hr, Option.bind_some, Option.bind_some, zI_add, r_w (by have := h1.1.2; omega), Option.bind_some, hI.1, hc.1, h3.1, h5.1, hI.2 _ (by have := h1.1.2; omega), zsub4 (by have := h3.2; omega) (by have := h5.2; omega) (by omega) (by have := hc.2; omega)]
  rfl
theorem r_hears {I : MI} {L : ML} {w : Nat → Int32} {c : Nat} (hw : WF c w) (hI : RW I w) {h n : Nat} (hh : h < nw w 2) (hn : n < nw w 3) : f_X12_isHearing (nI h) (nI n) I L = some (hrs w h n) := by
  have hh6 := hw.2.1.1.2
  obtain ⟨h0, h1, h2⟩ := hw.2.1.2 h hh
  have h01 := h0.1.1
  have h11 := h1.1
  unfold f_X12_isHearing f_X12_isHearing_25
  rw [show (0 : Int32) = nI 0 from rfl, show (1 : Int32) = nI 1 from rfl, r_heir (by omega) (by decide), Option.bind_some, hI.1, h01, r_at hw hI hn (by have := h0.1.2; omega), Option.bind_some, r_heir (by omega) (by decide), Option.bind_some, hI.1, h11]
  have hle := at_le hw.2.2.1 (r := nw w (67 + 3 * h + 0)) hn
  have he := h1.2
  unfold hrs
  by_cases hc : atN w n (nw w (67 + 3 * h + 0)) < nw w (67 + 3 * h + 1)
  · rw [if_pos ((zI_lt (by omega) (by omega)).mpr hc), decide_eq_false (by omega)]
  · rw [if_neg (fun h9 => hc ((zI_lt (by omega) (by omega)).mp h9)), decide_eq_true (by omega)]
theorem any_range {p : Nat → Bool} {n : Nat} : (List.range (n + 1)).any p = ((List.range n).any p || p n) := by
  rw [List.range_succ, List.any_append]; simp
theorem r_heard {I : MI} {L : ML} {w : Nat → Int32} {c : Nat} (hw : WF c w) (hI : RW I w) {n : Nat} (hn : n < nw w 3) : f_X12_isHeard (nI n) I L = some (hrd w n) := by
  have hh6 := hw.2.1.1.2
  have key : Tt (f_X12_isHeard (nI n) I L) (fun r => r = hrd w n) := by
    unfold f_X12_isHeard
    refine lp0 (fun fuel k (b : Bool) => f_X12_isHeard_4 fuel (nI n) b (nI k) I L) (nw w 2) (fun k b => b = (List.range k).any fun h => hrs w h n) (by omega) ?_ ?_ rfl
    · intro fuel k b hk hb hn9
      show Tt (f_X12_isHeard_4 (fuel + 1) (nI n) b (nI k) I L) _
      unfold f_X12_isHeard_4 f_X12_heirs
      rw [show (2 : Int32) = nI 2 from rfl, r_w (by decide), Option.bind_some, Option.bind_some, hI.1, hw.2.1.1.1, if_neg (by rw [zI_le (by omega) (by omega)]; omega)]
      unfold f_X12_isHeard_25 f_X12_isHeard_30
      rw [zI_1]
      refine Tt_ite (fun hbt => hn9 true ?_) (fun hbt => ?_)
      · rw [any_range, ← hb, hbt]; rfl
      · rw [r_hears hw hI hk hn, Option.bind_some]
        have hbf : b = false := by cases b; rfl; exact absurd rfl hbt
        refine Tt_ite (fun h9 => hn9 true ?_) (fun h9 => hn9 false ?_)
        · rw [any_range, h9, Bool.or_true]
        · rw [any_range, ← hb, hbf, Bool.false_or]
          cases hx : hrs w k n
          · rfl
          · exact absurd hx h9
    · intro fuel b hb
      show Tt (f_X12_isHeard_4 (fuel + 1) (nI n) b (nI (nw w 2)) I L) _
      unfold f_X12_isHeard_4 f_X12_heirs
      rw [show (2 : Int32) = nI 2 from rfl, r_w (by decide), Option.bind_some, Option.bind_some, hI.1, hw.2.1.1.1, if_pos (by rw [← hw.2.1.1.1]; exact Int32.le_refl _)]
      exact Tt_some hb
  obtain ⟨r, e1, e2⟩ := key
  rw [e1, e2]
-- the class
theorem c_reach {h : Nat} {I : MI} {L : ML} {w : Nat → Int32} (hw : WFd w) (hd : CRd h I w) (hv : CRv h I w) {a b x y : Nat} (ha : a < nw w 0) (hb : b < nw w 0) (hx : x ≤ 1000000) (hy : y ≤ 1000000) : f_X3_reach h (nI a) (nI x - nI y) (nI b) I L = some (nI (x - y - cs w (10 * a + b) - nw w (15 + a))) := by
  have hr := hw.1.2
  have hc := hw.2.2.1 a (by omega)
  have hcs := cs_cases hw (a := a) (b := b) (by omega) (by omega)
  unfold f_X3_reach f_X3_reach_39
  rw [show (10 : Int32) = nI 10 from rfl, zI_mul, zI_add, show a * 10 + b = 10 * a + b by omega, ldI_n (by omega) (by decide), Option.bind_some, hv a b ha hb, show (100000 : Int32) = nI 100000 from rfl]
  have e1 : cw (cs w (10 * a + b)) ≤ 1000000 := by unfold cw; split <;> omega
  rcases hcs with e | e
  · rw [if_neg (by rw [zI_lt (by omega) (by decide), e]; decide), e, show x - y - 1000000 - nw w (15 + a) = 0 by omega]
    rfl
  · have e2 : cw (cs w (10 * a + b)) = cs w (10 * a + b) := by unfold cw; rw [if_neg (by omega)]
    rw [e2, if_pos (by rw [zI_lt (by omega) (by decide)]; omega), ldI_n (by omega) (by decide), Option.bind_some, hd.2.2.1 a (by omega), hc.1, zsub4 hx hy (by omega) (by have := hc.2; omega)]
theorem c_at {h : Nat} {I : MI} {L : ML} {w : Nat → Int32} {c : Nat} (hw : WF c w) (hc : CR h I L w) {n r : Nat} (hn : n < nw w 3) (hr : r < nw w 0) : f_X3_loudAt h (h + 33 + n) (nI r) I L = some (nI (atN w n r)) := by
  have hn12 := hw.2.2.1.1.2
  obtain ⟨h0, h1, h2, h3, h4, h5, -⟩ := hw.2.2.1.2 n hn
  obtain ⟨n0, n1, n2, n3, n4, n5, n6, -⟩ := (hc.2.2.1.2 n (by omega)).1 hn
  unfold f_X3_loudAt
  rw [n2, n4, n6, h1.1.1, h3.1, h5.1, c_reach hw.1 hc.1 hc.2.2.2.2.1 h1.2 hr (by have := h3.2; omega) (by have := h5.2; omega)]
  rfl
theorem c_heardL {h : Nat} {I : MI} {L : ML} {w : Nat → Int32} {c : Nat} (hw : WF c w) (hc : CR h I L w) {e n : Nat} (he : e < nw w 2) (hn : n < nw w 3) : f_X3_heardLoudness h (h + 27 + e) (h + 33 + n) I L = some (nI (if hrs w e n = true then atN w n (nw w (67 + 3 * e + 0)) else 0)) := by
  have hn12 := hw.2.2.1.1.2
  have hh6 := hw.2.1.1.2
  obtain ⟨h0, h1, h2, h3, h4, h5, -⟩ := hw.2.2.1.2 n hn
  obtain ⟨e0, e1, e2⟩ := hw.2.1.2 e he
  obtain ⟨n0, n1, n2, n3, n4, n5, n6, -⟩ := (hc.2.2.1.2 n (by omega)).1 hn
  obtain ⟨m0, m1, -⟩ := hc.2.1.2 e (by omega)
  have e01 := e0.1.1
  have e11 := e1.1
  have hle := at_le hw.2.2.1 (r := nw w (67 + 3 * e + 0)) hn
  have heb := e1.2
  unfold f_X3_heardLoudness f_X3_heardLoudness_35
  rw [n2, n4, n6, m0, m1, h1.1.1, h3.1, h5.1, e01, e11, c_reach hw.1 hc.1 hc.2.2.2.2.1 h1.2 e0.2 (by have := h3.2; omega) (by have := h5.2; omega), Option.bind_some]
  show (if nI (atN w n (nw w (67 + 3 * e + 0))) < _ then _ else _) = _
  unfold hrs
  by_cases hx : atN w n (nw w (67 + 3 * e + 0)) < nw w (67 + 3 * e + 1)
  · rw [if_pos ((zI_lt (by omega) (by omega)).mpr hx), decide_eq_false (by omega)]; rfl
  · rw [if_neg (fun h9 => hx ((zI_lt (by omega) (by omega)).mp h9)), decide_eq_true (by omega)]; rfl
theorem hrs_pos {w : Nat → Int32} {c : Nat} (hw : WF c w) {e n : Nat} (he : e < nw w 2) (hn : n < nw w 3) : nI (if hrs w e n = true then atN w n (nw w (67 + 3 * e + 0)) else 0) ≤ 0 ↔ ¬ hrs w e n = true := by
  obtain ⟨e0, e1, e2⟩ := hw.2.1.2 e he
  have hle := at_le hw.2.2.1 (r := nw w (67 + 3 * e + 0)) hn
  rw [show (0 : Int32) = nI 0 from rfl, zI_le (by split <;> omega) (by decide)]
  by_cases hx : hrs w e n = true
  · rw [if_pos hx]
    unfold hrs at hx
    have := of_decide_eq_true hx
    constructor
    · intro h9; omega
    · intro h9; unfold hrs at h9; exact absurd hx h9
  · rw [if_neg hx]
    exact ⟨fun _ => hx, fun _ => Nat.le_refl _⟩
theorem c_heard {h : Nat} {I : MI} {L : ML} {w : Nat → Int32} {c : Nat} (hw : WF c w) (hc : CR h I L w) {n : Nat} (hn : n < nw w 3) : f_X3_isHeard h (h + 33 + n) I L = some (hrd w n) := by
  have hh6 := hw.2.1.1.2
  have z2 : I h 2 = nI (nw w 2) := hc.2.1.1.trans hw.2.1.1.1
  have key : Tt (f_X3_isHeard h (h + 33 + n) I L) (fun r => r = hrd w n) := by
    unfold f_X3_isHeard
    refine lp0 (fun fuel k (_ : Unit) => f_X3_isHeard_2 fuel h (h + 33 + n) (nI k) I L) (nw w 2) (fun k _ => (List.range k).any (fun e => hrs w e n) = false) (by omega) ?_ ?_ (s := ()) rfl
    · intro fuel k b hk hb hn9
      show Tt (f_X3_isHeard_2 (fuel + 1) h (h + 33 + n) (nI k) I L) _
      unfold f_X3_isHeard_2
      rw [z2, if_neg (by rw [zI_le (by omega) (by omega)]; omega), ldR_n (by omega) (by decide), Option.bind_some, c_heardL hw hc hk hn, Option.bind_some, zI_1]
      refine Tt_ite (fun h9 => hn9 () ?_) (fun h9 => Tt_some ?_)
      · rw [any_range, hb, Bool.false_or]
        have := (hrs_pos hw hk hn).mp h9
        cases hx : hrs w k n
        · rfl
        · exact absurd hx this
      · have h8 : hrs w k n = true := by
          cases hx : hrs w k n
          · exact absurd ((hrs_pos hw hk hn).mpr (by rw [hx]; decide)) h9
          · rfl
        symm
        exact List.any_eq_true.mpr ⟨k, List.mem_range.mpr hk, h8⟩
    · intro fuel b hb
      show Tt (f_X3_isHeard_2 (fuel + 1) h (h + 33 + n) (nI (nw w 2)) I L) _
      unfold f_X3_isHeard_2
      rw [z2, if_pos (Int32.le_refl _)]
      exact Tt_some hb.symm
  obtain ⟨r, e1, e2⟩ := key
  rw [e1, e2]
