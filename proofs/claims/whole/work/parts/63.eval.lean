-- ===== a step of a will worked off
def fctN (w : Nat → Int32) (e n : Nat) : Nat → Int32 → Int32
  | 0, _ => w (85 + 10 * n + 2)
  | 1, _ => w (85 + 10 * n + 3)
  | 2, _ => w 7
  | 3, _ => w (85 + 10 * n + 1)
  | 4, _ => nI n
  | 5, _ => w (85 + 10 * n + 5)
  | 6, a => bI (decide (w (85 + 10 * n + 0) = a))
  | 7, _ => w 9
  | 8, _ => bI (hrs w e n)
  | _, a => a
def opN : Nat → Int32 → Int32 → Int32
  | 10, x, y => x + y
  | 11, x, y => bI (decide (x < y))
  | 12, x, y => bI (decide (y < x))
  | 14, x, y => bI (decide (x + y = 2))
  | _, x, y => bI (decide (0 < x + y))
theorem bIt {p : Prop} [Decidable p] {a b : Option Int32} (h1 : p → a = some 1) (h2 : ¬ p → b = some 0) : (if p then a else b) = some (bI (decide p)) := by
  by_cases h : p
  · rw [if_pos h, decide_eq_true h]; exact h1 h
  · rw [if_neg h, decide_eq_false h]; exact h2 h
theorem enc_0 (a : Int32) : enc (nI 0) a = 6 := by unfold enc; rw [if_neg (by decide), if_neg (by decide), if_neg (by decide), if_neg (by decide), if_neg (by decide), if_neg (by decide), if_neg (by decide), if_neg (by decide), if_neg (by decide), if_neg (by decide)]; rfl
theorem enc_1 (a : Int32) : enc (nI 1) a = 7 := by unfold enc; rw [if_neg (by decide), if_neg (by decide), if_neg (by decide), if_neg (by decide), if_neg (by decide), if_neg (by decide), if_neg (by decide), if_neg (by decide), if_neg (by decide), if_neg (by decide)]; rfl
theorem enc_2 (a : Int32) : enc (nI 2) a = 8 := by unfold enc; rw [if_neg (by decide), if_neg (by decide), if_neg (by decide), if_neg (by decide), if_neg (by decide), if_neg (by decide), if_neg (by decide), if_neg (by decide), if_neg (by decide), if_neg (by decide)]; rfl
theorem enc_3 (a : Int32) : enc (nI 3) a = 9 := by unfold enc; rw [if_neg (by decide), if_neg (by decide), if_neg (by decide), if_neg (by decide), if_neg (by decide), if_neg (by decide), if_neg (by decide), if_neg (by decide), if_neg (by decide), if_neg (by decide)]; rfl
theorem enc_4 (a : Int32) : enc (nI 4) a = 10 := by unfold enc; rw [if_neg (by decide), if_neg (by decide), if_neg (by decide), if_neg (by decide), if_neg (by decide), if_neg (by decide), if_neg (by decide), if_neg (by decide), if_neg (by decide), if_neg (by decide)]; rfl
theorem enc_5 (a : Int32) : enc (nI 5) a = 11 := by unfold enc; rw [if_neg (by decide), if_neg (by decide), if_neg (by decide), if_neg (by decide), if_neg (by decide), if_neg (by decide), if_neg (by decide), if_neg (by decide), if_neg (by decide), if_neg (by decide)]; rfl
theorem enc_6 (a : Int32) : enc (nI 6) a = a := by unfold enc; rw [if_pos (by decide)]
theorem enc_7 (a : Int32) : enc (nI 7) a = 4 := by unfold enc; rw [if_neg (by decide), if_pos (by decide)]
theorem enc_8 (a : Int32) : enc (nI 8) a = 5 := by unfold enc; rw [if_neg (by decide), if_neg (by decide), if_pos (by decide)]
theorem enc_9 (a : Int32) : enc (nI 9) a = 18 + a := by unfold enc; rw [if_neg (by decide), if_neg (by decide), if_neg (by decide), if_pos (by decide)]
theorem enc_10 (a : Int32) : enc (nI 10) a = 15 := by unfold enc; rw [if_neg (by decide), if_neg (by decide), if_neg (by decide), if_neg (by decide), if_pos (by decide)]
theorem enc_11 (a : Int32) : enc (nI 11) a = 16 := by unfold enc; rw [if_neg (by decide), if_neg (by decide), if_neg (by decide), if_neg (by decide), if_neg (by decide), if_pos (by decide)]
theorem enc_12 (a : Int32) : enc (nI 12) a = 17 := by unfold enc; rw [if_neg (by decide), if_neg (by decide), if_neg (by decide), if_neg (by decide), if_neg (by decide), if_neg (by decide), if_pos (by decide)]
theorem enc_13 (a : Int32) : enc (nI 13) a = 12 := by unfold enc; rw [if_neg (by decide), if_neg (by decide), if_neg (by decide), if_neg (by decide), if_neg (by decide), if_neg (by decide), if_neg (by decide), if_pos (by decide)]
theorem enc_14 (a : Int32) : enc (nI 14) a = 14 := by unfold enc; rw [if_neg (by decide), if_neg (by decide), if_neg (by decide), if_neg (by decide), if_neg (by decide), if_neg (by decide), if_neg (by decide), if_neg (by decide), if_pos (by decide)]
theorem enc_15 (a : Int32) : enc (nI 15) a = 13 := by unfold enc; rw [if_neg (by decide), if_neg (by decide), if_neg (by decide), if_neg (by decide), if_neg (by decide), if_neg (by decide), if_neg (by decide), if_neg (by decide), if_neg (by decide), if_pos (by decide)]
theorem r_fact {I : MI} {L : ML} {w : Nat → Int32} {c : Nat} (hw : WF c w) (hI : RW I w) {e n s : Nat} (he : e < nw w 2) (hn : n < nw w 3) (hs : s ≤ 9) (a : Int32) : f_X12_factOf (nI s) a (nI e) (nI n) I L = some (fctN w e n s a) := by
  have hn12 := hw.2.2.1.1.2
  have o : ∀ k, k < 10 → f_X12_of (nI n) (nI k) I L = some (w (85 + 10 * n + k)) := fun k hk => r_ofw hI.1 (by omega) hk
  have h9 : s = 0 ∨ s = 1 ∨ s = 2 ∨ s = 3 ∨ s = 4 ∨ s = 5 ∨ s = 6 ∨ s = 7 ∨ s = 8 ∨ s = 9 := by omega
  unfold f_X12_factOf f_X12_factOf_111 f_X12_factOf_135
  rcases h9 with rfl | rfl | rfl | rfl | rfl | rfl | rfl | rfl | rfl | rfl
  · rw [if_pos (by decide), show f_X12_of (nI n) 2 I L = some (w (85 + 10 * n + 2)) from o 2 (by decide)]; rfl
  · rw [if_neg (by decide), if_pos (by decide), show f_X12_of (nI n) 3 I L = some (w (85 + 10 * n + 3)) from o 3 (by decide)]; rfl
  · rw [if_neg (by decide), if_neg (by decide), if_pos (by decide), show ldI I 150 2143 7 = some (w 7) by rw [← hI.1]; exact r_w (k := 7) (by decide)]; rfl
  · rw [if_neg (by decide), if_neg (by decide), if_neg (by decide), if_pos (by decide), show f_X12_of (nI n) 1 I L = some (w (85 + 10 * n + 1)) from o 1 (by decide)]; rfl
  · rw [if_neg (by decide), if_neg (by decide), if_neg (by decide), if_neg (by decide), if_pos (by decide)]; rfl
  · rw [if_neg (by decide), if_neg (by decide), if_neg (by decide), if_neg (by decide), if_neg (by decide), if_pos (by decide), show f_X12_of (nI n) 5 I L = some (w (85 + 10 * n + 5)) from o 5 (by decide)]; rfl
  · rw [if_neg (by decide), if_neg (by decide), if_neg (by decide), if_neg (by decide), if_neg (by decide), if_neg (by decide), if_pos (by decide), show f_X12_of (nI n) 0 I L = some (w (85 + 10 * n + 0)) from o 0 (by decide), Option.bind_some]
    exact bIt (fun _ => rfl) (fun _ => rfl)
  · rw [if_neg (by decide), if_neg (by decide), if_neg (by decide), if_neg (by decide), if_neg (by decide), if_neg (by decide), if_neg (by decide), if_pos (by decide), show ldI I 150 2143 9 = some (w 9) by rw [← hI.1]; exact r_w (k := 9) (by decide)]; rfl
  · rw [if_neg (by decide), if_neg (by decide), if_neg (by decide), if_neg (by decide), if_neg (by decide), if_neg (by decide), if_neg (by decide), if_neg (by decide), if_pos (by decide), r_hears hw hI he hn, Option.bind_some]
    show _ = some (bI (hrs w e n))
    cases hrs w e n <;> rfl
  · rw [if_neg (by decide), if_neg (by decide), if_neg (by decide), if_neg (by decide), if_neg (by decide), if_neg (by decide), if_neg (by decide), if_neg (by decide), if_neg (by decide)]; rfl
theorem c_fact {h : Nat} {I : MI} {L : ML} {w : Nat → Int32} {c : Nat} (hc6 : c ≤ 600) (hw : WF c w) (hc : CR h I L w) {e n s : Nat} (hn : n < nw w 3) (hs : s ≤ 9) (a : Int32) (h6 : s = 6 → ∃ k, k ≤ 3 ∧ a = nI k) (h9 : s = 9 → ∃ k, k ≤ 999 ∧ a = nI k) : f_X9_fact (enc (nI s) a) h (nI n) (hrs w e n) I L = some (fctN w e n s a) := by
  have hn12 := hw.2.2.1.1.2
  obtain ⟨n0, n1, n2, n3, n4, n5, n6, -⟩ := (hc.2.2.1.2 n (by omega)).1 hn
  obtain ⟨-, t2, -, t4, -⟩ := hc.2.2.2.1
  have z2 := (zdiv24 hw.2.2.2.1 hc6).2
  have hst := hw.2.2.2.1.2.2.2.2.2.2.1
  have hh : s = 0 ∨ s = 1 ∨ s = 2 ∨ s = 3 ∨ s = 4 ∨ s = 5 ∨ s = 6 ∨ s = 7 ∨ s = 8 ∨ s = 9 := by omega
  unfold f_X9_fact f_X9_fact_68 f_X9_fact_78 f_X9_fact_140
  rw [ldR_n (show n < 12 by omega) (by decide), Option.bind_some]
  rcases hh with rfl | rfl | rfl | rfl | rfl | rfl | rfl | rfl | rfl | rfl
  · rw [enc_0, if_neg (by decide), if_neg (by decide), if_pos (by decide), n3]; rfl
  · rw [enc_1, if_neg (by decide), if_neg (by decide), if_neg (by decide), if_pos (by decide), n4]; rfl
  · rw [enc_2, if_neg (by decide), if_neg (by decide), if_neg (by decide), if_neg (by decide), if_pos (by decide), t2, z2]; rfl
  · rw [enc_3, if_neg (by decide), if_neg (by decide), if_neg (by decide), if_neg (by decide), if_neg (by decide), if_pos (by decide), n2]; rfl
  · rw [enc_4, if_neg (by decide), if_neg (by decide), if_neg (by decide), if_neg (by decide), if_neg (by decide), if_neg (by decide), if_pos (by decide)]; rfl
  · rw [enc_5, if_neg (by decide), if_neg (by decide), if_neg (by decide), if_neg (by decide), if_neg (by decide), if_neg (by decide), if_neg (by decide), if_pos (by decide), n6]; rfl
  · obtain ⟨k, hk, rfl⟩ := h6 rfl
    have hk4 : k = 0 ∨ k = 1 ∨ k = 2 ∨ k = 3 := by omega
    rw [enc_6, n0]
    rcases hk4 with rfl | rfl | rfl | rfl
    · rw [if_neg (by decide), if_neg (by decide), if_neg (by decide), if_neg (by decide), if_neg (by decide), if_neg (by decide), if_neg (by decide), if_neg (by decide), if_pos (by decide)]
      exact bIt (fun _ => rfl) (fun _ => rfl)
    · rw [if_neg (by decide), if_neg (by decide), if_neg (by decide), if_neg (by decide), if_neg (by decide), if_neg (by decide), if_neg (by decide), if_neg (by decide), if_pos (by decide)]
      exact bIt (fun _ => rfl) (fun _ => rfl)
    · rw [if_neg (by decide), if_neg (by decide), if_neg (by decide), if_neg (by decide), if_neg (by decide), if_neg (by decide), if_neg (by decide), if_neg (by decide), if_pos (by decide)]
      exact bIt (fun _ => rfl) (fun _ => rfl)
    · rw [if_neg (by decide), if_neg (by decide), if_neg (by decide), if_neg (by decide), if_neg (by decide), if_neg (by decide), if_neg (by decide), if_neg (by decide), if_pos (by decide)]
      exact bIt (fun _ => rfl) (fun _ => rfl)
  · rw [enc_7, if_pos (by decide), t4]
    show _ = some (w 9)
    rcases hst with h0 | h0 <;> rw [h0] <;> rfl
  · rw [enc_8, if_neg (by decide), if_pos (by decide)]
    show _ = some (bI (hrs w e n))
    cases hrs w e n <;> rfl
  · obtain ⟨k, hk, rfl⟩ := h9 rfl
    rw [enc_9, show (18 : Int32) + nI k = nI (18 + k) from zI_add 18 k, if_neg (by rw [show (4 : Int32) = nI 4 from rfl, zI_eq (by omega) (by decide)]; omega), if_neg (by rw [show (5 : Int32) = nI 5 from rfl, zI_eq (by omega) (by decide)]; omega), if_neg (by rw [show (6 : Int32) = nI 6 from rfl, zI_eq (by omega) (by decide)]; omega), if_neg (by rw [show (7 : Int32) = nI 7 from rfl, zI_eq (by omega) (by decide)]; omega), if_neg (by rw [show (8 : Int32) = nI 8 from rfl, zI_eq (by omega) (by decide)]; omega), if_neg (by rw [show (9 : Int32) = nI 9 from rfl, zI_eq (by omega) (by decide)]; omega), if_neg (by rw [show (10 : Int32) = nI 10 from rfl, zI_eq (by omega) (by decide)]; omega), if_neg (by rw [show (11 : Int32) = nI 11 from rfl, zI_eq (by omega) (by decide)]; omega), if_neg (by rw [show (18 : Int32) = nI 18 from rfl, zI_lt (by omega) (by decide)]; omega), show (18 : Int32) = nI 18 from rfl, zI_sub (by omega), show 18 + k - 18 = k by omega]
    rfl
def isB (x : Int32) : Prop := x = 0 ∨ x = 1
theorem c_join {I : MI} {L : ML} {s : Nat} {x y : Int32} (a : Int32) (hs : s = 10 ∨ s = 11 ∨ s = 12 ∨ s = 14 ∨ s = 15) (hb : s = 14 ∨ s = 15 → isB x ∧ isB y) : f_X9_joined (enc (nI s) a) x y I L = some (opN s x y) := by
  unfold f_X9_joined f_X9_joined_54 f_X9_joined_65
  rcases hs with rfl | rfl | rfl | rfl | rfl
  · rw [enc_10, if_neg (by decide), if_neg (by decide), if_pos (by decide)]; rfl
  · rw [enc_11, if_neg (by decide), if_neg (by decide), if_neg (by decide), if_pos (by decide)]
    show _ = some (bI (decide (x < y)))
    by_cases h : x < y
    · rw [if_neg (Int32.not_le.mpr h), decide_eq_true h]
    · rw [if_pos (Int32.not_lt.mp h), decide_eq_false h]
  · rw [enc_12, if_neg (by decide), if_neg (by decide), if_neg (by decide), if_neg (by decide)]
    show _ = some (bI (decide (y < x)))
    by_cases h : y < x
    · rw [if_neg (Int32.not_le.mpr h), decide_eq_true h]
    · rw [if_pos (Int32.not_lt.mp h), decide_eq_false h]
  · obtain ⟨hx, hy⟩ := hb (Or.inl rfl)
    rw [enc_14, if_neg (by decide), if_pos (by decide)]
    show _ = some (bI (decide (x + y = 2)))
    rcases hx with rfl | rfl <;> rcases hy with rfl | rfl <;> rfl
  · obtain ⟨hx, hy⟩ := hb (Or.inr rfl)
    rw [enc_15, if_pos (by decide)]
    show _ = some (bI (decide (0 < x + y)))
    rcases hx with rfl | rfl <;> rcases hy with rfl | rfl <;> rfl
def evS (w : Nat → Int32) (e n i : Nat) (st : List Int32) : List Int32 :=
  if nw w (494 + 2 * i) ≤ 9 then fctN w e n (nw w (494 + 2 * i)) (w (495 + 2 * i)) :: st
  else if nw w (494 + 2 * i) = 13 then (match st with | x :: r => (1 - x) :: r | [] => [])
  else (match st with | y :: x :: r => opN (nw w (494 + 2 * i)) x y :: r | st => st)
def evR (w : Nat → Int32) (e n : Nat) : Nat → Nat → List Int32 → List Int32
  | _, 0, st => st
  | i, m + 1, st => evR w e n (i + 1) m (evS w e n i st)
def TyV : List Bool → List Int32 → Prop
  | [], [] => True
  | b :: bs, v :: vs => (b = true → isB v) ∧ TyV bs vs
  | _, _ => False
theorem TyV_len : ∀ {ts : List Bool} {st : List Int32}, TyV ts st → st.length = ts.length
  | [], [], _ => rfl
  | _ :: _, _ :: _, h => congrArg Nat.succ (TyV_len h.2)
  | [], _ :: _, h => h.elim
  | _ :: _, [], h => h.elim
theorem TyV_1 {b : Bool} {r : List Bool} {st : List Int32} (h : TyV (b :: r) st) : ∃ v vs, st = v :: vs ∧ (b = true → isB v) ∧ TyV r vs := by
  match st, h with
  | v :: vs, h => exact ⟨v, vs, rfl, h.1, h.2⟩
  | [], h => exact h.elim
theorem tyS_inv {s : Nat} {ts ts' : List Bool} (h : tyS s ts = some ts') :
    (s ≤ 9 ∧ ts.length < 17 ∧ ∃ b, ts' = b :: ts ∧ (b = true → 6 ≤ s ∧ s ≤ 8)) ∨ (s = 13 ∧ ∃ r, ts = true :: r ∧ ts' = true :: r) ∨ ((s = 10 ∨ s = 11 ∨ s = 12 ∨ s = 14 ∨ s = 15) ∧ ∃ x y b r, ts = x :: y :: r ∧ ts' = b :: r ∧ (s = 14 ∨ s = 15 → x = true ∧ y = true) ∧ (b = true → s ≠ 10)) := by
  unfold tyS at h
  by_cases h1 : s ≤ 5 ∨ s = 9
  · rw [if_pos h1] at h
    by_cases h2 : ts.length < 17
    · rw [if_pos h2] at h; cases h
      exact Or.inl ⟨by omega, h2, false, rfl, fun h => by cases h⟩
    · rw [if_neg h2] at h; cases h
  · rw [if_neg h1] at h
    by_cases h3 : s ≤ 8
    · rw [if_pos h3] at h
      by_cases h2 : ts.length < 17
      · rw [if_pos h2] at h; cases h
        exact Or.inl ⟨by omega, h2, true, rfl, fun _ => ⟨by omega, h3⟩⟩
      · rw [if_neg h2] at h; cases h
    · rw [if_neg h3] at h
      match ts, h with
      | x :: y :: r, h =>
        dsimp only at h
        by_cases c1 : s = 10 ∧ x = false ∧ y = false
        · rw [if_pos c1] at h; cases h
          exact Or.inr (Or.inr ⟨by omega, x, y, false, r, rfl, rfl, fun h => by omega, fun h => by cases h⟩)
        · rw [if_neg c1] at h
          by_cases c2 : (s = 11 ∨ s = 12) ∧ x = false ∧ y = false
          · rw [if_pos c2] at h; cases h
            exact Or.inr (Or.inr ⟨by omega, x, y, true, r, rfl, rfl, fun h => by omega, fun _ => by omega⟩)
          · rw [if_neg c2] at h
            by_cases c3 : s = 13 ∧ x = true
            · rw [if_pos c3] at h; cases h
              obtain ⟨c31, rfl⟩ := c3
              exact Or.inr (Or.inl ⟨c31, y :: r, rfl, rfl⟩)
            · rw [if_neg c3] at h
              by_cases c4 : (s = 14 ∨ s = 15) ∧ x = true ∧ y = true
              · rw [if_pos c4] at h; cases h
                exact Or.inr (Or.inr ⟨by omega, x, y, true, r, rfl, rfl, fun _ => c4.2, fun _ => by omega⟩)
              · rw [if_neg c4] at h; cases h
      | [x], h =>
        dsimp only at h
        by_cases c3 : s = 13 ∧ x = true
        · rw [if_pos c3] at h; cases h
          obtain ⟨c31, rfl⟩ := c3
          exact Or.inr (Or.inl ⟨c31, [], rfl, rfl⟩)
        · rw [if_neg c3] at h; cases h
      | [], h => cases h
theorem bI_B (b : Bool) : isB (bI b) := by cases b; exact Or.inl rfl; exact Or.inr rfl
theorem fct_B {w : Nat → Int32} {c : Nat} (hw : WF c w) {e n s : Nat} {a : Int32} (h6 : 6 ≤ s) (h8 : s ≤ 8) : isB (fctN w e n s a) := by
  have h9 : s = 6 ∨ s = 7 ∨ s = 8 := by omega
  rcases h9 with rfl | rfl | rfl
  · exact bI_B _
  · exact hw.2.2.2.1.2.2.2.2.2.2.1
  · exact bI_B _
theorem op_B {s : Nat} {x y : Int32} (hs : s = 11 ∨ s = 12 ∨ s = 14 ∨ s = 15) : isB (opN s x y) := by
  rcases hs with rfl | rfl | rfl | rfl <;> exact bI_B _
/-- a stack in a row of cells, its top first in the list -/
def StkI (f : Nat → Int32) : List Int32 → Prop
  | [] => True
  | x :: r => f r.length = x ∧ StkI f r
theorem StkI_cg {f f' : Nat → Int32} : ∀ {st : List Int32}, (∀ j, j < st.length → f' j = f j) → StkI f st → StkI f' st
  | [], _, _ => trivial
  | x :: r, h, c => ⟨(h r.length (Nat.lt_succ_self _)).trans c.1, StkI_cg (fun j hj => h j (Nat.lt_succ_of_lt hj)) c.2⟩
theorem StkI_set {f : Nat → Int32} {st : List Int32} {v : Int32} (c : StkI f st) : StkI (fun j => if j = st.length then v else f j) (v :: st) :=
  ⟨if_pos rfl, StkI_cg (fun j hj => if_neg (by omega)) c⟩
theorem up_fn (I : MI) (q k : Nat) (x : Int32) : up2 I q k x q = fun j => if j = k then x else I q j := by
  funext j; exact zu_s I q k x j
theorem zI_p1 (a : Nat) : nI (a + 1) - 1 = nI a := by
  have h := zI_sub (a := a + 1) (b := 1) (by omega)
  rw [show a + 1 - 1 = a by omega] at h
  exact h
theorem zI_m1 (a : Nat) : nI (a + 1) + (-1) = nI a := by
  rw [← zI_p1 a, Int32.sub_eq_add_neg]
theorem a494 (k : Nat) : (494 : Int32) + 2 * nI k = nI (494 + 2 * k) := by
  rw [show (494 : Int32) = nI 494 from rfl, show (2 : Int32) = nI 2 from rfl, zI_mul, zI_add]
theorem a446 (l : Nat) : (446 : Int32) + 4 * nI l = nI (446 + 4 * l) := by
  rw [show (446 : Int32) = nI 446 from rfl, show (4 : Int32) = nI 4 from rfl, zI_mul, zI_add]
def hdB : List Int32 → Bool
  | [] => true
  | v :: _ => v != 0
def hldN (w : Nat → Int32) (e n l : Nat) : Bool := hdB (evR w e n (nw w (448 + 4 * l)) (nw w (449 + 4 * l) - nw w (448 + 4 * l)) [])
/-- how far a line is worked off: i the next step, N its end, res what comes out -/
def EvI (w : Nat → Int32) (e n N i : Nat) (res st : List Int32) (f : Nat → Int32) : Prop := ∃ ts fs, ts.length ≤ 17 ∧ (fs = [] ∨ fs = [true]) ∧ tyR w i (N - i) ts = some fs ∧ TyV ts st ∧ StkI f st ∧ evR w e n i (N - i) st = res
theorem EvI_0 {w : Nat → Int32} {e n l : Nat} {f : Nat → Int32} (h : WFl1 w l) : EvI w e n (nw w (449 + 4 * l)) (nw w (448 + 4 * l)) (evR w e n (nw w (448 + 4 * l)) (nw w (449 + 4 * l) - nw w (448 + 4 * l)) []) [] f := by
  rcases h.2.2.2.2.2.2.2 with h9 | h9
  · exact ⟨[], [], Nat.zero_le _, Or.inl rfl, by rw [← h9, Nat.sub_self]; rfl, trivial, trivial, rfl⟩
  · exact ⟨[], [true], Nat.zero_le _, Or.inr rfl, h9, trivial, trivial, rfl⟩
theorem EvI_end {w : Nat → Int32} {e n N : Nat} {res st : List Int32} {f : Nat → Int32} (h : EvI w e n N N res st f) : (st = [] ∨ ∃ v, st = [v] ∧ isB v ∧ f 0 = v) ∧ res = st := by
  obtain ⟨ts, fs, h0, h1, h2, h3, h4, h5⟩ := h
  rw [Nat.sub_self] at h2 h5
  have e1 : ts = fs := by cases h2; rfl
  have e2 : st = res := h5
  subst e1
  refine ⟨?_, e2.symm⟩
  rcases h1 with rfl | rfl
  · have := TyV_len h3
    exact Or.inl (List.eq_nil_of_length_eq_zero this)
  · obtain ⟨v, vs, rfl, b1, b2⟩ := TyV_1 h3
    have : vs = [] := List.eq_nil_of_length_eq_zero (TyV_len b2)
    subst this
    exact Or.inr ⟨v, rfl, b1 rfl, h4.1⟩
/-- the three kinds of step -/
theorem EvI_step {w : Nat → Int32} {c : Nat} (hw : WF c w) {e n N i : Nat} {res st : List Int32} {f : Nat → Int32} (hi : i < N) (h : EvI w e n N i res st f) :
    (nw w (494 + 2 * i) ≤ 9 ∧ st.length < 17 ∧ EvI w e n N (i + 1) res (fctN w e n (nw w (494 + 2 * i)) (w (495 + 2 * i)) :: st) (fun j => if j = st.length then fctN w e n (nw w (494 + 2 * i)) (w (495 + 2 * i)) else f j)) ∨
    (nw w (494 + 2 * i) = 13 ∧ ∃ x r, st = x :: r ∧ st.length ≤ 17 ∧ f r.length = x ∧ EvI w e n N (i + 1) res ((1 - x) :: r) (fun j => if j = r.length then 1 - x else f j)) ∨
    ((nw w (494 + 2 * i) = 10 ∨ nw w (494 + 2 * i) = 11 ∨ nw w (494 + 2 * i) = 12 ∨ nw w (494 + 2 * i) = 14 ∨ nw w (494 + 2 * i) = 15) ∧ ∃ x y r, st = y :: x :: r ∧ st.length ≤ 17 ∧ f (r.length + 1) = y ∧ f r.length = x ∧ (nw w (494 + 2 * i) = 14 ∨ nw w (494 + 2 * i) = 15 → isB x ∧ isB y) ∧ EvI w e n N (i + 1) res (opN (nw w (494 + 2 * i)) x y :: r) (fun j => if j = r.length then opN (nw w (494 + 2 * i)) x y else f j)) := by
  obtain ⟨ts, fs, h0, h1, h2, h3, h4, h5⟩ := h
  obtain ⟨m, hm⟩ : ∃ m, N - i = m + 1 := ⟨N - i - 1, by omega⟩
  have hm2 : N - (i + 1) = m := by omega
  rw [hm] at h2 h5
  replace h2 : (tyS (nw w (494 + 2 * i)) ts).bind (tyR w (i + 1) m) = some fs := h2
  replace h5 : evR w e n (i + 1) m (evS w e n i st) = res := h5
  have hlen := TyV_len h3
  cases ht : tyS (nw w (494 + 2 * i)) ts with
  | none => rw [ht] at h2; cases h2
  | some ts' =>
    rw [ht, Option.bind_some] at h2
    unfold evS at h5
    rcases tyS_inv ht with ⟨s1, s2, b, s3, s4⟩ | ⟨s1, r, s2, s3⟩ | ⟨s1, x, y, b, r, s2, s3, s4, s5⟩
    · refine Or.inl ⟨s1, by omega, ts', fs, by rw [s3]; exact s2, h1, by rw [hm2]; exact h2, ?_, StkI_set h4, ?_⟩
      · rw [s3]
        exact ⟨fun hb => fct_B hw (s4 hb).1 (s4 hb).2, h3⟩
      · rw [hm2]
        rw [if_pos s1] at h5; exact h5
    · subst s2
      obtain ⟨x, vs, rfl, b1, b2⟩ := TyV_1 h3
      have b3 := b1 rfl
      refine Or.inr (Or.inl ⟨s1, x, vs, rfl, by rw [hlen]; exact h0, h4.1, ts', fs, by rw [s3]; exact h0, h1, by rw [hm2]; exact h2, ?_, StkI_set h4.2, ?_⟩)
      · rw [s3]
        refine ⟨fun _ => ?_, b2⟩
        rcases b3 with rfl | rfl
        · exact Or.inr rfl
        · exact Or.inl rfl
      · rw [hm2]
        rw [if_neg (by omega), if_pos s1] at h5; exact h5
    · subst s2
      obtain ⟨v, vs, rfl, b1, b2⟩ := TyV_1 h3
      obtain ⟨u, us, rfl, d1, d2⟩ := TyV_1 b2
      refine Or.inr (Or.inr ⟨s1, u, v, us, rfl, by rw [hlen]; exact h0, h4.1, h4.2.1, fun h9 => ⟨d1 (s4 h9).2, b1 (s4 h9).1⟩, ts', fs, by rw [s3]; have : (x :: y :: r).length ≤ 17 := h0; exact Nat.le_trans (Nat.le_succ _) this, h1, by rw [hm2]; exact h2, ?_, StkI_set h4.2.2, ?_⟩)
      · rw [s3]
        exact ⟨fun hb => op_B (by have := s5 hb; omega), d2⟩
      · rw [hm2]
        rw [if_neg (by omega), if_neg (by omega)] at h5; exact h5
theorem enc_p {s : Nat} {a : Int32} (hs : s ≤ 9) (h6 : s = 6 → ∃ k, k ≤ 3 ∧ a = nI k) (h9 : s = 9 → ∃ k, k ≤ 999 ∧ a = nI k) : ¬ enc (nI s) a = 12 ∧ (enc (nI s) a < 13 ∨ 17 < enc (nI s) a) := by
  have hh : s = 0 ∨ s = 1 ∨ s = 2 ∨ s = 3 ∨ s = 4 ∨ s = 5 ∨ s = 6 ∨ s = 7 ∨ s = 8 ∨ s = 9 := by omega
  rcases hh with rfl | rfl | rfl | rfl | rfl | rfl | rfl | rfl | rfl | rfl
  · rw [enc_0]; decide
  · rw [enc_1]; decide
  · rw [enc_2]; decide
  · rw [enc_3]; decide
  · rw [enc_4]; decide
  · rw [enc_5]; decide
  · obtain ⟨k, hk, rfl⟩ := h6 rfl
    have hk4 : k = 0 ∨ k = 1 ∨ k = 2 ∨ k = 3 := by omega
    rw [enc_6]
    rcases hk4 with rfl | rfl | rfl | rfl <;> decide
  · rw [enc_7]; decide
  · rw [enc_8]; decide
  · obtain ⟨k, hk, rfl⟩ := h9 rfl
    rw [enc_9, show (18 : Int32) + nI k = nI (18 + k) from zI_add 18 k, show (12 : Int32) = nI 12 from rfl, show (17 : Int32) = nI 17 from rfl, zI_eq (by omega) (by decide), zI_lt (a := 17) (by decide) (by omega)]
    exact ⟨by omega, Or.inr (by omega)⟩
theorem enc_b {s : Nat} {a : Int32} (hs : s = 10 ∨ s = 11 ∨ s = 12 ∨ s = 14 ∨ s = 15) : ¬ enc (nI s) a = 12 ∧ ¬ enc (nI s) a < 13 ∧ ¬ 17 < enc (nI s) a := by
  rcases hs with rfl | rfl | rfl | rfl | rfl
  · rw [enc_10]; decide
  · rw [enc_11]; decide
  · rw [enc_12]; decide
  · rw [enc_14]; decide
  · rw [enc_15]; decide
-- ===== a line, on the two sides
theorem r_229 {k23 : Int32 → Int32 → Int32 → Int32 → Int32 → MI → ML → Option (Bool × MI × ML)} {x2 x3 x4 x5 x6 x7 x8 x9 : Int32} {y0 : Bool} {I : MI} {L : ML} : f_X12_holdsLine_229 k23 x2 x3 x4 x5 x6 x7 x8 x9 y0 I L = Option.bind (stI I 157 400 (x4 - 1) (if x7 = 10 then x8 + x9 else bI y0)) fun I1 => k23 x2 x3 x4 x5 (x6 + 1) I1 L := by
  unfold f_X12_holdsLine_229 f_X12_holdsLine_264 f_X12_holdsLine_265
  by_cases h : x7 = 10
  · rw [if_pos h, if_pos h]
  · rw [if_neg h, if_neg h]
    cases y0 <;> rfl
theorem r_bin {T : Type} {s : Nat} {x y : Int32} (F : Int32 → T) (hs : s = 10 ∨ s = 11 ∨ s = 12 ∨ s = 14 ∨ s = 15) :
    (if nI s = 11 then (if y ≤ x then F (if nI s = 10 then x + y else bI false) else F (if nI s = 10 then x + y else bI true)) else (if nI s = 12 then (if x ≤ y then F (if nI s = 10 then x + y else bI false) else F (if nI s = 10 then x + y else bI true)) else (if nI s = 14 then (if x + y = 2 then F (if nI s = 10 then x + y else bI true) else F (if nI s = 10 then x + y else bI false)) else (if x + y ≤ 0 then F (if nI s = 10 then x + y else bI false) else F (if nI s = 10 then x + y else bI true))))) = F (opN s x y) := by
  rcases hs with rfl | rfl | rfl | rfl | rfl
  · rw [if_neg (show ¬ nI 10 = 11 by decide), if_neg (show ¬ nI 10 = 12 by decide), if_neg (show ¬ nI 10 = 14 by decide)]
    by_cases h : x + y ≤ 0
    · rw [if_pos h, if_pos (show nI 10 = 10 by decide)]; rfl
    · rw [if_neg h, if_pos (show nI 10 = 10 by decide)]; rfl
  · rw [if_pos (show nI 11 = 11 by decide), show opN 11 x y = bI (decide (x < y)) from rfl]
    by_cases h : x < y
    · rw [if_neg (Int32.not_le.mpr h), if_neg (show ¬ nI 11 = 10 by decide), decide_eq_true h]
    · rw [if_pos (Int32.not_lt.mp h), if_neg (show ¬ nI 11 = 10 by decide), decide_eq_false h]
  · rw [if_neg (show ¬ nI 12 = 11 by decide), if_pos (show nI 12 = 12 by decide), show opN 12 x y = bI (decide (y < x)) from rfl]
    by_cases h : y < x
    · rw [if_neg (Int32.not_le.mpr h), if_neg (show ¬ nI 12 = 10 by decide), decide_eq_true h]
    · rw [if_pos (Int32.not_lt.mp h), if_neg (show ¬ nI 12 = 10 by decide), decide_eq_false h]
  · rw [if_neg (show ¬ nI 14 = 11 by decide), if_neg (show ¬ nI 14 = 12 by decide), if_pos (show nI 14 = 14 by decide), show opN 14 x y = bI (decide (x + y = 2)) from rfl]
    by_cases h : x + y = 2
    · rw [if_pos h, if_neg (show ¬ nI 14 = 10 by decide), decide_eq_true h]
    · rw [if_neg h, if_neg (show ¬ nI 14 = 10 by decide), decide_eq_false h]
  · rw [if_neg (show ¬ nI 15 = 11 by decide), if_neg (show ¬ nI 15 = 12 by decide), if_neg (show ¬ nI 15 = 14 by decide), show opN 15 x y = bI (decide (0 < x + y)) from rfl]
    by_cases h : 0 < x + y
    · rw [if_neg (Int32.not_le.mpr h), if_neg (show ¬ nI 15 = 10 by decide), decide_eq_true h]
    · rw [if_pos (Int32.not_lt.mp h), if_neg (show ¬ nI 15 = 10 by decide), decide_eq_false h]
theorem hld_of {w : Nat → Int32} {e n l : Nat} {st : List Int32} (h : evR w e n (nw w (448 + 4 * l)) (nw w (449 + 4 * l) - nw w (448 + 4 * l)) [] = st) : hldN w e n l = hdB st := by
  unfold hldN; rw [h]
theorem r_holds {I : MI} {L : ML} {w : Nat → Int32} {c : Nat} (hw : WF c w) (hI : RW I w) {e n l : Nat} (he : e < nw w 2) (hn : n < nw w 3) (h5 : w 5 = 1) (hl : l < nw w 445) : Tt (f_X12_holdsLine (nI l) (nI e) (nI n) I L) (fun t => t.1 = hldN w e n l ∧ t.2.2 = L ∧ ∀ q, q ≠ 157 → t.2.1 q = I q) := by
  obtain ⟨w1, w2⟩ := hw.2.2.2.2.2 h5
  have hl12 := w1.2
  have W := w2 l hl
  obtain ⟨-, -, l3, l4, l5, -, l7, -⟩ := id W
  have b1 := l3.1
  have b2 := l3.2
  have n1 := l4.1
  have n2 := l4.2
  unfold f_X12_holdsLine
  rw [a446, show (2 : Int32) = nI 2 from rfl, zI_add, r_w (by omega), Option.bind_some, hI.1, show 446 + 4 * l + 2 = 448 + 4 * l by omega, b1]
  have ev := EvI_0 (e := e) (n := n) (f := I 157) W
  generalize hres : evR w e n (nw w (448 + 4 * l)) (nw w (449 + 4 * l) - nw w (448 + 4 * l)) [] = res at ev
  have z3 := hld_of (l := l) hres
  clear hres
  generalize nw w (449 + 4 * l) = N at *
  generalize nw w (448 + 4 * l) = B at *
  refine lp (fun fuel k (s : MI × List Int32) => f_X12_holdsLine_23 fuel (nI e) (nI n) (nI s.2.length) (nI (446 + 4 * l)) (nI k) s.1 L) N (fun k s => B ≤ k ∧ (∀ q, q ≠ 157 → s.1 q = I q) ∧ EvI w e n N k res s.2 (s.1 157)) ?_ ?_ (N - B) B FU (I, []) (by omega) (by unfold FU; omega) ⟨Nat.le_refl _, fun _ _ => rfl, ev⟩
  · intro fuel k s hk ⟨hB, hs, hev⟩ hnx
    obtain ⟨J, st⟩ := s
    dsimp only at hs hev
    have hJ : J 150 = w := (hs 150 (by decide)).trans hI.1
    have hRW : RW J w := ⟨hJ, fun k hk => by rw [show J 156 = I 156 from hs 156 (by decide)]; exact hI.2 k hk⟩
    have q1 := (l7 k hB hk).1.1
    show Tt (f_X12_holdsLine_23 (fuel + 1) (nI e) (nI n) (nI st.length) (nI (446 + 4 * l)) (nI k) J L) _
    unfold f_X12_holdsLine_23
    simp only [r_229]
    unfold f_X12_holdsLine_265
    rw [show (3 : Int32) = nI 3 from rfl, zI_add, r_w (by omega), Option.bind_some, hJ, show 446 + 4 * l + 3 = 449 + 4 * l by omega, n1, if_neg (le_n (by omega) (by omega) hk), a494, r_w (by omega), Option.bind_some, hJ, q1]
    rcases EvI_step hw hk hev with ⟨s1, s2, s3⟩ | ⟨s1, x, r, s2, s3, s4, s5⟩ | ⟨s1, x, y, r, s2, s3, s4, s5, s6, s7⟩
    · rw [if_neg (by rw [show (9 : Int32) = nI 9 from rfl, zI_lt (by decide) (by omega)]; omega), zI_1 (494 + 2 * k), r_w (by omega), Option.bind_some, hJ, show 494 + 2 * k + 1 = 495 + 2 * k by omega, r_fact hw hRW he hn s1, Option.bind_some, stI_n (show st.length < 400 by have : st.length < 17 := s2; omega) (by decide), Option.bind_some, zI_1 st.length, zI_1 k]
      refine hnx (up2 J 157 st.length (fctN w e n (nw w (494 + 2 * k)) (w (495 + 2 * k))), fctN w e n (nw w (494 + 2 * k)) (w (495 + 2 * k)) :: st) ⟨by omega, fun q hq => ?_, ?_⟩
      · show up2 J 157 _ _ q = _
        rw [zu_n _ _ _ hq]; exact hs q hq
      · show EvI _ _ _ _ _ _ _ (up2 J 157 _ _ 157)
        rw [up_fn]; exact s3
    · have s2 : st = x :: r := s2
      have s3 : st.length ≤ 17 := s3
      subst s2
      have s3 : r.length + 1 ≤ 17 := s3
      rw [s1, if_pos (by decide), if_pos (by decide), show nI (x :: r).length = nI (r.length + 1) from rfl, zI_p1, ldI_n (show r.length < 400 by omega) (by decide), Option.bind_some, show J 157 r.length = x from s4, stI_n (show r.length < 400 by omega) (by decide), Option.bind_some, zI_1 k]
      refine hnx (up2 J 157 r.length (1 - x), (1 - x) :: r) ⟨by omega, fun q hq => ?_, ?_⟩
      · show up2 J 157 _ _ q = _
        rw [zu_n _ _ _ hq]; exact hs q hq
      · show EvI _ _ _ _ _ _ _ (up2 J 157 _ _ 157)
        rw [up_fn]; exact s5
    · have s2 : st = y :: x :: r := s2
      have s3 : st.length ≤ 17 := s3
      subst s2
      have s3 : r.length + 1 + 1 ≤ 17 := s3
      rw [if_pos (by rw [show (9 : Int32) = nI 9 from rfl, zI_lt (by decide) (by omega)]; omega), if_neg (by rw [show (13 : Int32) = nI 13 from rfl, zI_eq (by omega) (by decide)]; omega), show nI (y :: x :: r).length = nI (r.length + 1 + 1) from rfl, zI_m1, zI_p1, ldI_n (show r.length < 400 by omega) (by decide), Option.bind_some, ldI_n (show r.length + 1 < 400 by omega) (by decide), Option.bind_some, show J 157 r.length = x from s5, show J 157 (r.length + 1) = y from s4, zI_1 k]
      rw [r_bin (fun v => Option.bind (stI J 157 400 (nI r.length) v) fun I1 => f_X12_holdsLine_23 fuel (nI e) (nI n) (nI (r.length + 1)) (nI (446 + 4 * l)) (nI (k + 1)) I1 L) s1]
      rw [stI_n (show r.length < 400 by omega) (by decide), Option.bind_some]
      refine hnx (up2 J 157 r.length (opN (nw w (494 + 2 * k)) x y), opN (nw w (494 + 2 * k)) x y :: r) ⟨by omega, fun q hq => ?_, ?_⟩
      · show up2 J 157 _ _ q = _
        rw [zu_n _ _ _ hq]; exact hs q hq
      · show EvI _ _ _ _ _ _ _ (up2 J 157 _ _ 157)
        rw [up_fn]; exact s7
  · intro fuel s ⟨hB, hs, hev⟩
    obtain ⟨J, st⟩ := s
    dsimp only at hs hev
    have hJ : J 150 = w := (hs 150 (by decide)).trans hI.1
    obtain ⟨z1, z2⟩ := EvI_end hev
    show Tt (f_X12_holdsLine_23 (fuel + 1) (nI e) (nI n) (nI st.length) (nI (446 + 4 * l)) (nI N) J L) _
    unfold f_X12_holdsLine_23 f_X12_holdsLine_286 f_X12_holdsLine_291
    rw [show (3 : Int32) = nI 3 from rfl, zI_add, r_w (by omega), Option.bind_some, hJ, show 446 + 4 * l + 3 = 449 + 4 * l by omega, n1, if_pos (Int32.le_refl _)]
    have z1 : st = [] ∨ ∃ v, st = [v] ∧ isB v ∧ J 157 0 = v := z1
    have z2 : res = st := z2
    rw [z2] at z3
    rcases z1 with rfl | ⟨v, rfl, v1, v2⟩
    · rw [if_pos (by decide)]
      exact Tt_some ⟨z3.symm, rfl, hs⟩
    · rw [show nI [v].length = nI 1 from rfl, if_neg (by decide), show ldI J 157 400 0 = some (J 157 0) from ldI_n (k := 0) (by decide) (by decide), Option.bind_some, v2]
      rcases v1 with rfl | rfl
      · rw [if_neg (by decide)]
        exact Tt_some ⟨z3.symm, rfl, hs⟩
      · rw [if_pos (by decide)]
        exact Tt_some ⟨z3.symm, rfl, hs⟩
theorem c_holds {h : Nat} {I : MI} {L : ML} {w : Nat → Int32} {c : Nat} (hc6 : c ≤ 600) (hw : WF c w) (cr : CR h I L w) {e n l : Nat} (hn : n < nw w 3) (h5 : w 5 = 1) (hl : l < nw w 445) : Tt (f_X9_holds h (nI l) h (nI n) (hrs w e n) I L) (fun t => t.1 = hldN w e n l ∧ t.2.2 = L ∧ ∀ q, q ≠ h + 10 → t.2.1 q = I q) := by
  obtain ⟨w1, w2⟩ := hw.2.2.2.2.2 h5
  have hl12 := w1.2
  have W := w2 l hl
  obtain ⟨-, -, l3, l4, l5, l6, l7, -⟩ := id W
  have b1 := l3.1
  have b2 := l3.2
  have n1 := l4.1
  have n2 := l4.2
  obtain ⟨-, -, g3, g4⟩ := cr.2.2.2.2.2.2.2 h5 l hl
  rw [n1] at g3
  have e0 : f_X9_holds h (nI l) h (nI n) (hrs w e n) I L = f_X9_holds_25 FU h (nI l) h (nI n) (hrs w e n) 0 (nI (nw w (448 + 4 * l))) I L := by
    unfold f_X9_holds f_X9_holds_16
    by_cases h0 : l = 0
    · rw [if_pos (by rw [h0]; rfl), l6, if_pos h0]; rfl
    · obtain ⟨l9, rfl⟩ : ∃ l9, l = l9 + 1 := ⟨l - 1, by omega⟩
      obtain ⟨-, -, g9, -⟩ := cr.2.2.2.2.2.2.2 h5 l9 (by omega)
      have n9 := (w2 l9 (by omega)).2.2.2.1.1
      rw [if_neg (by rw [zI_0, zI_eq (by omega) (by decide)]; omega), zI_p1, ldI_n (show l9 < 12 by omega) (by decide), Option.bind_some, l6, if_neg h0, g9, n9, show 445 + 4 * (l9 + 1) = 449 + 4 * l9 by omega]
  rw [e0]
  have ev := EvI_0 (e := e) (n := n) (f := I (h + 10)) W
  generalize hres : evR w e n (nw w (448 + 4 * l)) (nw w (449 + 4 * l) - nw w (448 + 4 * l)) [] = res at ev
  have z3 := hld_of (l := l) hres
  clear hres
  generalize nw w (449 + 4 * l) = N at *
  generalize nw w (448 + 4 * l) = B at *
  refine lp (fun fuel k (s : MI × List Int32) => f_X9_holds_25 fuel h (nI l) h (nI n) (hrs w e n) (nI s.2.length) (nI k) s.1 L) N (fun k s => B ≤ k ∧ (∀ q, q ≠ h + 10 → s.1 q = I q) ∧ EvI w e n N k res s.2 (s.1 (h + 10))) ?_ ?_ (N - B) B FU (I, []) (by omega) (by unfold FU; omega) ⟨Nat.le_refl _, fun _ _ => rfl, ev⟩
  · intro fuel k s hk ⟨hB, hs, hev⟩ hnx
    obtain ⟨J, st⟩ := s
    dsimp only at hs hev
    have crJ : CR h J L w := CR_cg (fun k h1 h2 => hs _ (by omega)) rfl cr
    have q1 := (l7 k hB hk).1.1
    have q6 := (l7 k hB hk).2.1
    have q9 := (l7 k hB hk).2.2
    show Tt (f_X9_holds_25 (fuel + 1) h (nI l) h (nI n) (hrs w e n) (nI st.length) (nI k) J L) _
    unfold f_X9_holds_25
    rw [ldI_n (show l < 12 by omega) (by decide), Option.bind_some, hs (h + 8) (by omega), g3, if_neg (le_n (by omega) (by omega) hk), ldI_n (show k < 400 by omega) (by decide), Option.bind_some, hs (h + 9) (by omega), g4 k hk, q1]
    rcases EvI_step hw hk hev with ⟨s1, s2, s3⟩ | ⟨s1, x, r, s2, s3, s4, s5⟩ | ⟨s1, x, y, r, s2, s3, s4, s5, s6, s7⟩
    · have hcd : ¬ enc (nI (nw w (494 + 2 * k))) (w (495 + 2 * k)) = 12 ∧ (enc (nI (nw w (494 + 2 * k))) (w (495 + 2 * k)) < 13 ∨ 17 < enc (nI (nw w (494 + 2 * k))) (w (495 + 2 * k))) := enc_p s1 (fun h => ⟨_, (q6 h).2, (q6 h).1⟩) (fun h => ⟨_, (q9 h).2, (q9 h).1⟩)
      have h137 : f_X9_holds_81 (f_X9_holds_25 fuel) h (nI l) h (nI n) (hrs w e n) (nI st.length) (nI k) (enc (nI (nw w (494 + 2 * k))) (w (495 + 2 * k))) J L = f_X9_holds_137 (f_X9_holds_25 fuel) h (nI l) h (nI n) (hrs w e n) (nI st.length) (nI k) (enc (nI (nw w (494 + 2 * k))) (w (495 + 2 * k))) J L := by
        unfold f_X9_holds_81
        by_cases h9 : enc (nI (nw w (494 + 2 * k))) (w (495 + 2 * k)) < 13
        · rw [if_pos h9]
        · rw [if_neg h9, if_pos (hcd.2.resolve_left h9)]
      rw [if_neg hcd.1, h137]
      unfold f_X9_holds_137 f_X9_holds_163
      have s2 : st.length < 17 := s2
      rw [show (17 : Int32) = nI 17 from rfl, if_neg (le_n (by decide) (by omega) s2), c_fact hc6 hw crJ hn s1 _ (fun h => ⟨_, (q6 h).2, (q6 h).1⟩) (fun h => ⟨_, (q9 h).2, (q9 h).1⟩), Option.bind_some, stI_n s2 (by decide), Option.bind_some, zI_1 st.length, zI_1 k]
      refine hnx (up2 J (h + 10) st.length (fctN w e n (nw w (494 + 2 * k)) (w (495 + 2 * k))), fctN w e n (nw w (494 + 2 * k)) (w (495 + 2 * k)) :: st) ⟨by omega, fun q hq => ?_, ?_⟩
      · show up2 J (h + 10) _ _ q = _
        rw [zu_n _ _ _ hq]; exact hs q hq
      · show EvI _ _ _ _ _ _ _ (up2 J (h + 10) _ _ (h + 10))
        rw [up_fn]; exact s3
    · have s2 : st = x :: r := s2
      have s3 : st.length ≤ 17 := s3
      subst s2
      have s3 : r.length + 1 ≤ 17 := s3
      unfold f_X9_holds_163
      rw [s1, enc_13, if_pos (by decide), show nI (x :: r).length = nI (r.length + 1) from rfl, if_neg (by rw [show (1 : Int32) = nI 1 from rfl, zI_lt (by omega) (by decide)]; omega), zI_p1, ldI_n (show r.length < 17 by omega) (by decide), Option.bind_some, show J (h + 10) r.length = x from s4, stI_n (show r.length < 17 by omega) (by decide), Option.bind_some, zI_1 k]
      refine hnx (up2 J (h + 10) r.length (1 - x), (1 - x) :: r) ⟨by omega, fun q hq => ?_, ?_⟩
      · show up2 J (h + 10) _ _ q = _
        rw [zu_n _ _ _ hq]; exact hs q hq
      · show EvI _ _ _ _ _ _ _ (up2 J (h + 10) _ _ (h + 10))
        rw [up_fn]; exact s5
    · have s2 : st = y :: x :: r := s2
      have s3 : st.length ≤ 17 := s3
      subst s2
      have s3 : r.length + 1 + 1 ≤ 17 := s3
      have hcd := enc_b (a := w (495 + 2 * k)) s1
      rw [if_neg hcd.1]
      unfold f_X9_holds_81 f_X9_holds_163
      rw [if_neg hcd.2.1, if_neg hcd.2.2, show nI (y :: x :: r).length = nI (r.length + 1 + 1) from rfl, if_neg (by rw [show (2 : Int32) = nI 2 from rfl, zI_lt (by omega) (by decide)]; omega), zI_m1, zI_p1, ldI_n (show r.length < 17 by omega) (by decide), Option.bind_some, ldI_n (show r.length + 1 < 17 by omega) (by decide), Option.bind_some, show J (h + 10) r.length = x from s5, show J (h + 10) (r.length + 1) = y from s4, c_join _ s1 s6, Option.bind_some, stI_n (show r.length < 17 by omega) (by decide), Option.bind_some, zI_1 k]
      refine hnx (up2 J (h + 10) r.length (opN (nw w (494 + 2 * k)) x y), opN (nw w (494 + 2 * k)) x y :: r) ⟨by omega, fun q hq => ?_, ?_⟩
      · show up2 J (h + 10) _ _ q = _
        rw [zu_n _ _ _ hq]; exact hs q hq
      · show EvI _ _ _ _ _ _ _ (up2 J (h + 10) _ _ (h + 10))
        rw [up_fn]; exact s7
  · intro fuel s ⟨hB, hs, hev⟩
    obtain ⟨J, st⟩ := s
    dsimp only at hs hev
    obtain ⟨z1, z2⟩ := EvI_end hev
    show Tt (f_X9_holds_25 (fuel + 1) h (nI l) h (nI n) (hrs w e n) (nI st.length) (nI N) J L) _
    unfold f_X9_holds_25 f_X9_holds_183 f_X9_holds_188
    rw [ldI_n (show l < 12 by omega) (by decide), Option.bind_some, hs (h + 8) (by omega), g3, if_pos (Int32.le_refl _)]
    have z1 : st = [] ∨ ∃ v, st = [v] ∧ isB v ∧ J (h + 10) 0 = v := z1
    have z2 : res = st := z2
    rw [z2] at z3
    rcases z1 with rfl | ⟨v, rfl, v1, v2⟩
    · rw [if_pos (by decide)]
      exact Tt_some ⟨z3.symm, rfl, hs⟩
    · rw [show nI [v].length = nI 1 from rfl, if_neg (by decide), show ldI J (h + 10) 17 0 = some (J (h + 10) 0) from ldI_n (k := 0) (by decide) (by decide), Option.bind_some, v2]
      rcases v1 with rfl | rfl
      · rw [if_pos (by decide)]
        exact Tt_some ⟨z3.symm, rfl, hs⟩
      · rw [if_neg (by decide)]
        exact Tt_some ⟨z3.symm, rfl, hs⟩
-- ===== titles
def ttF (w : Nat → Int32) (e n : Nat) : Nat → Nat → Nat → Nat
  | _, 0, s => s
  | k, m + 1, s => if w (446 + 4 * k) = nI e ∧ hldN w e n k = true then (if w (447 + 4 * k) = -1 then 0 else ttF w e n (k + 1) m (s + nw w (447 + 4 * k))) else ttF w e n (k + 1) m s
def ttN (w : Nat → Int32) (e n : Nat) : Nat := if w 5 = 1 then ttF w e n 0 (nw w 445) 0 else 0
theorem ttF_le {w : Nat → Int32} {e n : Nat} : ∀ (m k s : Nat), (∀ l, k ≤ l → l < k + m → w (447 + 4 * l) = -1 ∨ okN w (447 + 4 * l) 999) → ttF w e n k m s ≤ s + 999 * m := by
  intro m
  induction m with
  | zero => intro k s _; exact Nat.le_refl _
  | succ m ih =>
    intro k s h
    show (if _ then (if _ then 0 else ttF w e n (k + 1) m _) else ttF w e n (k + 1) m s) ≤ _
    split
    · split
      · omega
      · rename_i h9
        have h8 := ((h k (by omega) (by omega)).resolve_left h9).2
        have := ih (k + 1) (s + nw w (447 + 4 * k)) (fun l h1 h2 => h l (by omega) (by omega))
        omega
    · have := ih (k + 1) s (fun l h1 h2 => h l (by omega) (by omega))
      omega
theorem tt_le {w : Nat → Int32} {c : Nat} (hw : WF c w) (e n : Nat) : ttN w e n ≤ 11988 := by
  unfold ttN
  split
  · rename_i h5
    obtain ⟨w1, w2⟩ := hw.2.2.2.2.2 h5
    have h := ttF_le (w := w) (e := e) (n := n) (nw w 445) 0 0 (fun l _ h => (w2 l (by omega)).2.1)
    have := w1.2
    omega
  · omega
theorem r_title {I : MI} {L : ML} {w : Nat → Int32} {c : Nat} (hw : WF c w) (hI : RW I w) {e n : Nat} (he : e < nw w 2) (hn : n < nw w 3) : Tt (f_X12_titleOf (nI e) (nI n) I L) (fun t => t.1 = nI (ttN w e n) ∧ t.2.2 = L ∧ ∀ q, q ≠ 157 → t.2.1 q = I q) := by
  unfold f_X12_titleOf
  by_cases h5 : w 5 = 1
  · obtain ⟨w1, w2⟩ := hw.2.2.2.2.2 h5
    have hl1 := w1.1
    have hl12 := w1.2
    have htt : ttN w e n = ttF w e n 0 (nw w 445) 0 := by unfold ttN; rw [if_pos h5]
    refine lp0 (fun fuel k (s : MI × Nat) => f_X12_titleOf_5 fuel (nI e) (nI n) (nI s.2) (nI k) s.1 L) (nw w 445) (fun k s => (∀ q, q ≠ 157 → s.1 q = I q) ∧ ttF w e n k (nw w 445 - k) s.2 = ttN w e n) (by omega) ?_ ?_ (s := (I, 0)) ⟨fun _ _ => rfl, htt.symm⟩
    · intro fuel k s hk ⟨hs, ht⟩ hnx
      obtain ⟨J, sm⟩ := s
      dsimp only at hs ht
      have hJ : J 150 = w := (hs 150 (by decide)).trans hI.1
      have hRW : RW J w := ⟨hJ, fun k hk => by rw [show J 156 = I 156 from hs 156 (by decide)]; exact hI.2 k hk⟩
      obtain ⟨m, hm⟩ : ∃ m, nw w 445 - k = m + 1 := ⟨nw w 445 - k - 1, by omega⟩
      have hm2 : nw w 445 - (k + 1) = m := by omega
      have W := w2 k hk
      rw [hm] at ht
      have ht : (if w (446 + 4 * k) = nI e ∧ hldN w e n k = true then (if w (447 + 4 * k) = -1 then 0 else ttF w e n (k + 1) m (sm + nw w (447 + 4 * k))) else ttF w e n (k + 1) m sm) = ttN w e n := ht
      show Tt (f_X12_titleOf_5 (fuel + 1) (nI e) (nI n) (nI sm) (nI k) J L) _
      unfold f_X12_titleOf_5 f_X12_titleOf_89
      rw [show ldI J 150 2143 5 = some (w 5) by rw [← hJ]; exact r_w (k := 5) (by decide), Option.bind_some, if_pos h5, show ldI J 150 2143 445 = some (w 445) by rw [← hJ]; exact r_w (k := 445) (by decide), Option.bind_some, hl1, if_neg (le_n (by omega) (by omega) hk), a446, r_w (by omega), Option.bind_some, hJ]
      by_cases h1 : w (446 + 4 * k) = nI e
      · rw [if_pos h1]
        refine Tt_bind (Tt_mono (r_holds hw hRW he hn h5 hk) ?_)
        intro t ⟨t1, t2, t3⟩
        have tJ : t.2.1 150 = w := (t3 150 (by decide)).trans hJ
        have tq : ∀ q, q ≠ 157 → t.2.1 q = I q := fun q hq => (t3 q hq).trans (hs q hq)
        rw [t1, t2, zI_1 (446 + 4 * k), r_w (show 446 + 4 * k + 1 < 2143 by omega), Option.bind_some, Option.bind_some, tJ, show 446 + 4 * k + 1 = 447 + 4 * k by omega, zI_1 k]
        by_cases h2 : hldN w e n k = true
        · rw [if_pos ⟨h1, h2⟩] at ht
          rw [if_pos h2]
          by_cases h3 : w (447 + 4 * k) = -1
          · rw [if_pos h3] at ht
            rw [h3, if_neg (by decide), ← ht]
            exact Tt_some ⟨rfl, rfl, tq⟩
          · rw [if_neg h3] at ht
            have W2 := W.2.1.resolve_left h3
            rw [W2.1, if_pos (by rw [zI_0, zI_le (by decide) (by have := W2.2; omega)]; omega), zI_add]
            exact hnx (t.2.1, sm + nw w (447 + 4 * k)) ⟨tq, by rw [hm2]; exact ht⟩
        · rw [if_neg (fun h => h2 h.2)] at ht
          rw [if_neg h2]
          exact hnx (t.2.1, sm) ⟨tq, by rw [hm2]; exact ht⟩
      · rw [if_neg (fun h => h1 h.1)] at ht
        rw [if_neg h1, zI_1 k]
        exact hnx (J, sm) ⟨hs, by rw [hm2]; exact ht⟩
    · intro fuel s ⟨hs, ht⟩
      obtain ⟨J, sm⟩ := s
      dsimp only at hs ht
      have hJ : J 150 = w := (hs 150 (by decide)).trans hI.1
      rw [Nat.sub_self] at ht
      have ht : sm = ttN w e n := ht
      show Tt (f_X12_titleOf_5 (fuel + 1) (nI e) (nI n) (nI sm) (nI (nw w 445)) J L) _
      unfold f_X12_titleOf_5 f_X12_titleOf_95
      rw [show ldI J 150 2143 5 = some (w 5) by rw [← hJ]; exact r_w (k := 5) (by decide), Option.bind_some, if_pos h5, show ldI J 150 2143 445 = some (w 445) by rw [← hJ]; exact r_w (k := 445) (by decide), Option.bind_some, hl1, if_pos (Int32.le_refl _), ht]
      exact Tt_some ⟨rfl, rfl, hs⟩
  · have htt : ttN w e n = 0 := by unfold ttN; rw [if_neg h5]
    obtain ⟨fu, hfu⟩ : ∃ fu, FU = fu + 1 := ⟨999999, rfl⟩
    rw [hfu]
    unfold f_X12_titleOf_5 f_X12_titleOf_95
    rw [show ldI I 150 2143 5 = some (w 5) by rw [← hI.1]; exact r_w (k := 5) (by decide), Option.bind_some, if_neg h5, htt]
    exact Tt_some ⟨rfl, rfl, fun _ _ => rfl⟩
theorem c_title {h : Nat} {I : MI} {L : ML} {w : Nat → Int32} {c : Nat} (hc6 : c ≤ 600) (hw : WF c w) (cr : CR h I L w) {e n : Nat} (he : e < nw w 2) (hn : n < nw w 3) : Tt (f_X9_titleOf h h (nI e) (nI n) (hrs w e n) I L) (fun t => t.1 = nI (ttN w e n) ∧ t.2.2 = L ∧ ∀ q, q ≠ h + 10 → t.2.1 q = I q) := by
  unfold f_X9_titleOf
  have g1 := cr.2.2.2.2.2.2.1
  by_cases h5 : w 5 = 1
  · obtain ⟨w1, w2⟩ := hw.2.2.2.2.2 h5
    have hl1 := w1.1
    have hl12 := w1.2
    rw [if_pos h5, hl1] at g1
    have htt : ttN w e n = ttF w e n 0 (nw w 445) 0 := by unfold ttN; rw [if_pos h5]
    refine lp0 (fun fuel k (s : MI × Nat) => f_X9_titleOf_6 fuel h h (nI e) (nI n) (hrs w e n) (nI s.2) (nI k) s.1 L) (nw w 445) (fun k s => (∀ q, q ≠ h + 10 → s.1 q = I q) ∧ ttF w e n k (nw w 445 - k) s.2 = ttN w e n) (by omega) ?_ ?_ (s := (I, 0)) ⟨fun _ _ => rfl, htt.symm⟩
    · intro fuel k s hk ⟨hs, ht⟩ hnx
      obtain ⟨J, sm⟩ := s
      dsimp only at hs ht
      have crJ : CR h J L w := CR_cg (fun k h1 h2 => hs _ (by omega)) rfl cr
      obtain ⟨m, hm⟩ : ∃ m, nw w 445 - k = m + 1 := ⟨nw w 445 - k - 1, by omega⟩
      have hm2 : nw w 445 - (k + 1) = m := by omega
      have W := w2 k hk
      obtain ⟨y1, y2, -⟩ := cr.2.2.2.2.2.2.2 h5 k hk
      rw [hm] at ht
      have ht : (if w (446 + 4 * k) = nI e ∧ hldN w e n k = true then (if w (447 + 4 * k) = -1 then 0 else ttF w e n (k + 1) m (sm + nw w (447 + 4 * k))) else ttF w e n (k + 1) m sm) = ttN w e n := ht
      show Tt (f_X9_titleOf_6 (fuel + 1) h h (nI e) (nI n) (hrs w e n) (nI sm) (nI k) J L) _
      unfold f_X9_titleOf_6 f_X9_titleOf_64
      rw [show J (h + 5) 4 = I (h + 5) 4 by rw [hs (h + 5) (by omega)], g1, if_neg (le_n (by omega) (by omega) hk), ldI_n (show k < 12 by omega) (by decide), Option.bind_some, show J (h + 6) k = w (446 + 4 * k) by rw [hs (h + 6) (by omega)]; exact y1]
      by_cases h1 : w (446 + 4 * k) = nI e
      · rw [if_pos h1]
        refine Tt_bind (Tt_mono (c_holds (e := e) hc6 hw crJ hn h5 hk) ?_)
        intro t ⟨t1, t2, t3⟩
        have tq : ∀ q, q ≠ h + 10 → t.2.1 q = I q := fun q hq => (t3 q hq).trans (hs q hq)
        rw [t1, t2, ldI_n (show k < 12 by omega) (by decide), Option.bind_some, Option.bind_some, show t.2.1 (h + 7) k = w (447 + 4 * k) by rw [tq (h + 7) (by omega)]; exact y2, zI_1 k]
        by_cases h2 : hldN w e n k = true
        · rw [if_pos ⟨h1, h2⟩] at ht
          rw [if_pos h2]
          by_cases h3 : w (447 + 4 * k) = -1
          · rw [if_pos h3] at ht
            rw [if_pos h3, ← ht]
            exact Tt_some ⟨rfl, rfl, tq⟩
          · rw [if_neg h3] at ht
            have W2 := W.2.1.resolve_left h3
            rw [if_neg h3, W2.1, zI_add]
            exact hnx (t.2.1, sm + nw w (447 + 4 * k)) ⟨tq, by rw [hm2]; exact ht⟩
        · rw [if_neg (fun h => h2 h.2)] at ht
          rw [if_neg h2]
          exact hnx (t.2.1, sm) ⟨tq, by rw [hm2]; exact ht⟩
      · rw [if_neg (fun h => h1 h.1)] at ht
        rw [if_neg h1, zI_1 k]
        exact hnx (J, sm) ⟨hs, by rw [hm2]; exact ht⟩
    · intro fuel s ⟨hs, ht⟩
      obtain ⟨J, sm⟩ := s
      dsimp only at hs ht
      rw [Nat.sub_self] at ht
      have ht : sm = ttN w e n := ht
      show Tt (f_X9_titleOf_6 (fuel + 1) h h (nI e) (nI n) (hrs w e n) (nI sm) (nI (nw w 445)) J L) _
      unfold f_X9_titleOf_6
      rw [show J (h + 5) 4 = I (h + 5) 4 by rw [hs (h + 5) (by omega)], g1, if_pos (Int32.le_refl _), ht]
      exact Tt_some ⟨rfl, rfl, hs⟩
  · have htt : ttN w e n = 0 := by unfold ttN; rw [if_neg h5]
    rw [if_neg h5] at g1
    obtain ⟨fu, hfu⟩ : ∃ fu, FU = fu + 1 := ⟨999999, rfl⟩
    rw [hfu]
    unfold f_X9_titleOf_6
    rw [g1, if_pos (by decide), htt]
    exact Tt_some ⟨rfl, rfl, fun _ _ => rfl⟩
