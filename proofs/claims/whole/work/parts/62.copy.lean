-- ===== a house copied
theorem c_cp3 {a b : Nat} {I : MI} {L : ML} (h : b ≠ a) : ∃ J, f_X1_copyFrom a b I L = some (J, L) ∧ (∀ q, q ≠ a → J q = I q) ∧ ∀ j, j < 3 → J a j = I b j := by
  have zb : ∀ (I : MI) (k : Nat) (x : Int32), up2 I a k x b = I b := fun I k x => zu_n I k x h
  refine ⟨up2 (up2 (up2 I a 0 (I b 0)) a 1 (I b 1)) a 2 (I b 2), ?_, ?_, ?_⟩
  · unfold f_X1_copyFrom
    simp only [pfe, Option.bind_some, zb]
  · intro q hq
    rw [zu_n _ _ _ hq, zu_n _ _ _ hq, zu_n _ _ _ hq]
  · intro j hj
    have h3 : j = 0 ∨ j = 1 ∨ j = 2 := by omega
    rcases h3 with rfl | rfl | rfl <;> simp [zu_s]
theorem c_cp3h {a b : Nat} {I : MI} {L : ML} : f_X2_copyFrom a b I L = f_X1_copyFrom a b I L := rfl
theorem c_cp10 {a b : Nat} {I : MI} {L : ML} (h : b ≠ a) : ∃ J, f_X5_copyFrom a b I L = some (J, L) ∧ (∀ q, q ≠ a → J q = I q) ∧ ∀ j, j < 10 → J a j = if j = 9 then bI (I b 9 != 0) else I b j := by
  have zb : ∀ (I : MI) (k : Nat) (x : Int32), up2 I a k x b = I b := fun I k x => zu_n I k x h
  refine ⟨up2 (up2 (up2 (up2 (up2 (up2 (up2 (up2 (up2 (up2 I a 0 (I b 0)) a 1 (I b 1)) a 2 (I b 2)) a 3 (I b 3)) a 4 (I b 4)) a 5 (I b 5)) a 6 (I b 6)) a 7 (I b 7)) a 8 (I b 8)) a 9 (bI (I b 9 != 0)), ?_, ?_, ?_⟩
  · unfold f_X5_copyFrom
    simp only [pfe, Option.bind_some, zb]
  · intro q hq
    simp only [zu_n _ _ _ hq]
  · intro j hj
    have h3 : j = 0 ∨ j = 1 ∨ j = 2 ∨ j = 3 ∨ j = 4 ∨ j = 5 ∨ j = 6 ∨ j = 7 ∨ j = 8 ∨ j = 9 := by omega
    rcases h3 with rfl | rfl | rfl | rfl | rfl | rfl | rfl | rfl | rfl | rfl <;> simp [zu_s]
theorem cp_n {I : MI} {q0 q1 n : Nat} (j : Nat) : j ≠ q1 → cpI I q0 q1 n j = I j := fun h => if_neg h
theorem cp_s {I : MI} {q0 q1 n k : Nat} (h : k < n) : cpI I q0 q1 n q1 k = I q0 k := by
  unfold cpI va_cpy
  rw [if_pos rfl, if_pos ⟨Nat.zero_le _, by omega⟩, Nat.zero_add, Nat.sub_zero]
theorem cpl_n {I : ML} {q0 q1 n : Nat} (j : Nat) : j ≠ q1 → cpL I q0 q1 n j = I j := fun h => if_neg h
theorem cpl_s {I : ML} {q0 q1 n k : Nat} (h : k < n) : cpL I q0 q1 n q1 k = I q0 k := by
  unfold cpL va_cpy
  rw [if_pos rfl, if_pos ⟨Nat.zero_le _, by omega⟩, Nat.zero_add, Nat.sub_zero]
theorem cy10 {I : MI} {q0 q1 : Nat} : cyI I q0 10 q1 10 10 = some (cpI I q0 q1 10) := by
  unfold cyI; rw [if_neg (by decide)]; rfl
theorem cy12 {I : MI} {q0 q1 : Nat} : cyI I q0 12 q1 12 12 = some (cpI I q0 q1 12) := by
  unfold cyI; rw [if_neg (by decide)]; rfl
theorem cy100 {I : MI} {q0 q1 : Nat} : cyI I q0 100 q1 100 100 = some (cpI I q0 q1 100) := by
  unfold cyI; rw [if_neg (by decide)]; rfl
theorem cy400 {I : MI} {q0 q1 : Nat} : cyI I q0 400 q1 400 400 = some (cpI I q0 q1 400) := by
  unfold cyI; rw [if_neg (by decide)]; rfl
theorem cy40 {I : ML} {q0 q1 : Nat} : cyL I q0 40 q1 40 40 = some (cpL I q0 q1 40) := by
  unfold cyL; rw [if_neg (by decide)]; rfl
/-- what a copy of a house gives -/
def CP (h d : Nat) (I J : MI) (L M : ML) : Prop :=
  (∀ k, k < 19 → k ≠ 14 → (k < 4 ∨ 11 ≤ k) → J d k = I h k) ∧ J d 14 = bI (I h 14 != 0) ∧ (∀ k, k < 10 → J (d + 1) k = I (h + 1) k) ∧ (∀ k, k < 100 → J (d + 11) k = I (h + 11) k) ∧ (∀ k, k < 40 → M (d + 12) k = L (h + 12) k) ∧ (∀ i, i < 14 → ∀ j, j < 3 → J (d + 13 + i) j = I (h + 13 + i) j) ∧ (∀ i, i < 6 → ∀ j, j < 3 → J (d + 27 + i) j = I (h + 27 + i) j) ∧ (∀ i, i < 12 → ∀ j, j < 10 → J (d + 33 + i) j = if j = 9 then bI (I (h + 33 + i) 9 != 0) else I (h + 33 + i) j) ∧ J (d + 5) 4 = I (h + 5) 4 ∧ (∀ k, k < 12 → J (d + 6) k = I (h + 6) k ∧ J (d + 7) k = I (h + 7) k ∧ J (d + 8) k = I (h + 8) k) ∧ ∀ k, k < 400 → J (d + 9) k = I (h + 9) k
theorem bI_ne {x : Int32} (h : x = 0 ∨ x = 1) : bI (x != 0) = x := by rcases h with h | h <;> rw [h] <;> decide
theorem CR_cp {c h d : Nat} {I J : MI} {L M : ML} {w : Nat → Int32} (hw : WF c w) (cp : CP h d I J L M) (cr : CR h I L w) : CR d J M w := by
  obtain ⟨p0, p14, p1, p11, p12, pd, ph, pn, p5, p6, p9⟩ := cp
  obtain ⟨⟨a1, a2, a3, a4⟩, ⟨b1, b2⟩, ⟨c1, c2⟩, ⟨t1, t2, t3, t4, t5, t6, t7, t8⟩, e1, f1, ⟨g1, g2⟩⟩ := cr
  have hr := hw.1.1.2
  refine ⟨⟨?_, ?_, ?_, ?_⟩, ⟨?_, ?_⟩, ⟨?_, ?_⟩, ⟨?_, ?_, ?_, ?_, ?_, ?_, ?_, ?_⟩, ?_, ?_, ⟨?_, ?_⟩⟩
  · rw [p0 0 (by decide) (by decide) (by decide)]; exact a1
  · rw [p0 1 (by decide) (by decide) (by decide)]; exact a2
  · intro k hk; rw [p1 k hk]; exact a3 k hk
  · intro i hi
    rw [pd i hi 0 (by decide), pd i hi 1 (by decide), pd i hi 2 (by decide)]; exact a4 i hi
  · rw [p0 2 (by decide) (by decide) (by decide)]; exact b1
  · intro i hi
    rw [ph i hi 0 (by decide), ph i hi 1 (by decide), ph i hi 2 (by decide)]; exact b2 i hi
  · rw [p0 3 (by decide) (by decide) (by decide)]; exact c1
  · intro i hi
    have q := pn i hi
    have q0 := q 0 (by decide)
    have q1 := q 1 (by decide)
    have q2 := q 2 (by decide)
    have q3 := q 3 (by decide)
    have q4 := q 4 (by decide)
    have q5 := q 5 (by decide)
    have q6 := q 6 (by decide)
    have q7 := q 7 (by decide)
    have q8 := q 8 (by decide)
    have q9 := q 9 (by decide)
    rw [if_neg (by decide)] at q0 q1 q2 q3 q4 q5 q6 q7 q8
    rw [if_pos rfl] at q9
    refine ⟨fun hn => ?_, fun hn => ?_⟩
    · obtain ⟨n0, n1, n2, n3, n4, n5, n6, n7, n8, n9⟩ := (c2 i hi).1 hn
      have hm : w (85 + 10 * i + 9) = 0 ∨ w (85 + 10 * i + 9) = 1 := by
        rcases (hw.2.2.1.2 i hn).2.2.2.2.2.2.2.2 with h9 | h9
        · exact Or.inl h9
        · exact Or.inr h9.1
      unfold CRn1
      rw [q0, q1, q2, q3, q4, q5, q6, q7, q8, q9, n9, bI_ne hm]
      exact ⟨n0, n1, n2, n3, n4, n5, n6, n7, n8, rfl⟩
    · obtain ⟨m6, m7, m8, m9⟩ := (c2 i hi).2 hn
      rw [q6, q7, q8, q9, m9]
      exact ⟨m6, m7, m8, rfl⟩
  · rw [p0 11 (by decide) (by decide) (by decide)]; exact t1
  · rw [p0 12 (by decide) (by decide) (by decide)]; exact t2
  · rw [p0 13 (by decide) (by decide) (by decide)]; exact t3
  · rw [p14, t4, bI_ne hw.2.2.2.1.2.2.2.2.2.2.1]
  · rw [p0 15 (by decide) (by decide) (by decide)]; exact t5
  · rw [p0 16 (by decide) (by decide) (by decide)]; exact t6
  · rw [p0 17 (by decide) (by decide) (by decide)]; exact t7
  · rw [p0 18 (by decide) (by decide) (by decide)]; exact t8
  · intro a b ha hb
    rw [p11 _ (by omega)]; exact e1 a b ha hb
  · intro ago hago
    rw [p12 _ (Nat.mod_lt _ (by decide))]; exact f1 ago hago
  · rw [p5]; exact g1
  · intro h5 l hl
    obtain ⟨w1, w2⟩ := hw.2.2.2.2.2 h5
    have hl12 : l < 12 := by have := w1.2; omega
    obtain ⟨l1, l2, l3, l4⟩ := g2 h5 l hl
    obtain ⟨z1, z2, z3⟩ := p6 l hl12
    have h400 := (w2 l hl).2.2.2.1.2
    rw [z1, z2, z3]
    exact ⟨l1, l2, l3, fun i hi => by rw [p9 i (by omega)]; exact l4 i hi⟩
/-- noises -/
theorem c_201 {d h : Nat} {I : MI} {L : ML} {R : MI × ML → Prop} (hh : h + 45 ≤ d ∨ d + 45 ≤ h) (hk : ∀ J : MI, (∀ q, (q < d + 33 ∨ d + 45 ≤ q) → J q = I q) → (∀ i, i < 12 → ∀ j, j < 10 → J (d + 33 + i) j = if j = 9 then bI (I (h + 33 + i) 9 != 0) else I (h + 33 + i) j) → Tt (f_X9_copyFrom d h J L) (fun w => R (w.1, w.2))) : Tt (f_X3_copyFrom_201 FU d h 0 I L) R := by
  have key : Tt (f_X3_copyFrom_201 FU d h (nI 0) I L) R := by
    refine lp0 (fun fuel k (s : MI) => f_X3_copyFrom_201 fuel d h (nI k) s L) 12 (fun k s => (∀ q, (q < d + 33 ∨ d + 33 + k ≤ q) → s q = I q) ∧ ∀ i, i < k → ∀ j, j < 10 → s (d + 33 + i) j = if j = 9 then bI (I (h + 33 + i) 9 != 0) else I (h + 33 + i) j) (by decide) ?_ ?_ (s := I) ⟨fun _ _ => rfl, fun i hi => absurd hi (Nat.not_lt_zero _)⟩
    · intro fuel k s hk12 hs hnx
      show Tt (f_X3_copyFrom_201 (fuel + 1) d h (nI k) s L) _
      obtain ⟨J, e1, e2, e3⟩ := c_cp10 (a := d + 33 + k) (b := h + 33 + k) (I := s) (L := L) (by omega)
      unfold f_X3_copyFrom_201
      rw [show (12 : Int32) = nI 12 from rfl, if_neg (le_n (by decide) (by omega) hk12), ldR_n hk12 (by decide), Option.bind_some, ldR_n hk12 (by decide), Option.bind_some, e1, Option.bind_some, zI_1]
      refine hnx J ⟨fun q hq => ?_, fun i hi j hj => ?_⟩
      · rw [e2 q (by omega)]; exact hs.1 q (by omega)
      · by_cases h9 : i = k
        · subst h9
          rw [e3 j hj, hs.1 _ (by omega)]
        · rw [e2 _ (by omega)]; exact hs.2 i (by omega) j hj
    · intro fuel s hs
      show Tt (f_X3_copyFrom_201 (fuel + 1) d h (nI 12) s L) _
      unfold f_X3_copyFrom_201
      rw [show (12 : Int32) = nI 12 from rfl, if_pos (Int32.le_refl _)]
      refine Tt_bind (Tt_mono (hk s (fun q hq => hs.1 q (by omega)) hs.2) ?_)
      intro x hx
      exact Tt_some hx
  exact key
theorem c_172 {d h : Nat} {I : MI} {L : ML} {R : MI × ML → Prop} (hh : h + 45 ≤ d ∨ d + 45 ≤ h) (hk : ∀ J : MI, (∀ q, (q < d + 27 ∨ d + 33 ≤ q) → J q = I q) → (∀ i, i < 6 → ∀ j, j < 3 → J (d + 27 + i) j = I (h + 27 + i) j) → Tt (f_X3_copyFrom_201 FU d h 0 J L) R) : Tt (f_X3_copyFrom_172 FU d h 0 I L) R := by
  have key : Tt (f_X3_copyFrom_172 FU d h (nI 0) I L) R := by
    refine lp0 (fun fuel k (s : MI) => f_X3_copyFrom_172 fuel d h (nI k) s L) 6 (fun k s => (∀ q, (q < d + 27 ∨ d + 27 + k ≤ q) → s q = I q) ∧ ∀ i, i < k → ∀ j, j < 3 → s (d + 27 + i) j = I (h + 27 + i) j) (by decide) ?_ ?_ (s := I) ⟨fun _ _ => rfl, fun i hi => absurd hi (Nat.not_lt_zero _)⟩
    · intro fuel k s hk12 hs hnx
      show Tt (f_X3_copyFrom_172 (fuel + 1) d h (nI k) s L) _
      obtain ⟨J, e1, e2, e3⟩ := c_cp3 (a := d + 27 + k) (b := h + 27 + k) (I := s) (L := L) (by omega)
      unfold f_X3_copyFrom_172
      rw [show (6 : Int32) = nI 6 from rfl, if_neg (le_n (by decide) (by omega) hk12), ldR_n hk12 (by decide), Option.bind_some, ldR_n hk12 (by decide), Option.bind_some, c_cp3h, e1, Option.bind_some, zI_1]
      refine hnx J ⟨fun q hq => ?_, fun i hi j hj => ?_⟩
      · rw [e2 q (by omega)]; exact hs.1 q (by omega)
      · by_cases h9 : i = k
        · subst h9
          rw [e3 j hj, hs.1 _ (by omega)]
        · rw [e2 _ (by omega)]; exact hs.2 i (by omega) j hj
    · intro fuel s hs
      show Tt (f_X3_copyFrom_172 (fuel + 1) d h (nI 6) s L) _
      unfold f_X3_copyFrom_172
      rw [show (6 : Int32) = nI 6 from rfl, if_pos (Int32.le_refl _)]
      exact hk s (fun q hq => hs.1 q (by omega)) hs.2
  exact key
theorem c_143 {d h : Nat} {I : MI} {L : ML} {R : MI × ML → Prop} (hh : h + 45 ≤ d ∨ d + 45 ≤ h) (hk : ∀ J : MI, (∀ q, (q < d + 13 ∨ d + 27 ≤ q) → J q = I q) → (∀ i, i < 14 → ∀ j, j < 3 → J (d + 13 + i) j = I (h + 13 + i) j) → Tt (f_X3_copyFrom_172 FU d h 0 J L) R) : Tt (f_X3_copyFrom_143 FU d h 0 I L) R := by
  have key : Tt (f_X3_copyFrom_143 FU d h (nI 0) I L) R := by
    refine lp0 (fun fuel k (s : MI) => f_X3_copyFrom_143 fuel d h (nI k) s L) 14 (fun k s => (∀ q, (q < d + 13 ∨ d + 13 + k ≤ q) → s q = I q) ∧ ∀ i, i < k → ∀ j, j < 3 → s (d + 13 + i) j = I (h + 13 + i) j) (by decide) ?_ ?_ (s := I) ⟨fun _ _ => rfl, fun i hi => absurd hi (Nat.not_lt_zero _)⟩
    · intro fuel k s hk12 hs hnx
      show Tt (f_X3_copyFrom_143 (fuel + 1) d h (nI k) s L) _
      obtain ⟨J, e1, e2, e3⟩ := c_cp3 (a := d + 13 + k) (b := h + 13 + k) (I := s) (L := L) (by omega)
      unfold f_X3_copyFrom_143
      rw [show (14 : Int32) = nI 14 from rfl, if_neg (le_n (by decide) (by omega) hk12), ldR_n hk12 (by decide), Option.bind_some, ldR_n hk12 (by decide), Option.bind_some, e1, Option.bind_some, zI_1]
      refine hnx J ⟨fun q hq => ?_, fun i hi j hj => ?_⟩
      · rw [e2 q (by omega)]; exact hs.1 q (by omega)
      · by_cases h9 : i = k
        · subst h9
          rw [e3 j hj, hs.1 _ (by omega)]
        · rw [e2 _ (by omega)]; exact hs.2 i (by omega) j hj
    · intro fuel s hs
      show Tt (f_X3_copyFrom_143 (fuel + 1) d h (nI 14) s L) _
      unfold f_X3_copyFrom_143
      rw [show (14 : Int32) = nI 14 from rfl, if_pos (Int32.le_refl _)]
      exact hk s (fun q hq => hs.1 q (by omega)) hs.2
  exact key
/-- the will's part of a copy -/
theorem c_cpW {d h : Nat} {I : MI} {L : ML} (hh : h + 45 ≤ d ∨ d + 45 ≤ h) : ∃ J, f_X9_copyFrom d h I L = some (J, L) ∧ (∀ q, (q < d + 5 ∨ d + 10 ≤ q) → J q = I q) ∧ J (d + 5) 4 = I (h + 5) 4 ∧ (∀ k, k < 12 → J (d + 6) k = I (h + 6) k ∧ J (d + 7) k = I (h + 7) k ∧ J (d + 8) k = I (h + 8) k) ∧ ∀ k, k < 400 → J (d + 9) k = I (h + 9) k := by
  refine ⟨up2 (up2 (cpI (cpI (cpI (cpI I (h + 6) (d + 6) 12) (h + 7) (d + 7) 12) (h + 8) (d + 8) 12) (h + 9) (d + 9) 400) (d + 5) 4 (I (h + 5) 4)) (d + 5) 5 (I (h + 5) 5), ?_, ?_, ?_, ?_, ?_⟩
  · unfold f_X9_copyFrom
    simp only [pfe, Option.bind_some, cy12, cy400]
    rw [zu_n _ _ _ (show h + 5 ≠ d + 5 by omega), cp_n (h + 5) (by omega), cp_n (h + 5) (by omega), cp_n (h + 5) (by omega), cp_n (h + 5) (by omega)]
  · intro q hq
    rw [zu_n _ _ _ (by omega), zu_n _ _ _ (by omega), cp_n q (by omega), cp_n q (by omega), cp_n q (by omega), cp_n q (by omega)]
  · rw [zu_s, if_neg (by decide), zu_s, if_pos rfl]
  · intro k hk
    refine ⟨?_, ?_, ?_⟩
    · rw [zu_n _ _ _ (by omega), zu_n _ _ _ (by omega), cp_n _ (by omega), cp_n _ (by omega), cp_n _ (by omega), cp_s hk]
    · rw [zu_n _ _ _ (by omega), zu_n _ _ _ (by omega), cp_n _ (by omega), cp_n _ (by omega), cp_s hk, cp_n _ (by omega)]
    · rw [zu_n _ _ _ (by omega), zu_n _ _ _ (by omega), cp_n _ (by omega), cp_s hk, cp_n _ (by omega), cp_n _ (by omega)]
  · intro k hk
    rw [zu_n _ _ _ (by omega), zu_n _ _ _ (by omega), cp_s hk, cp_n _ (by omega), cp_n _ (by omega), cp_n _ (by omega)]
/-- the fields of a house copied -/
def cpF (h d : Nat) (I : MI) : MI := up2 (up2 (up2 (up2 (up2 (up2 (up2 (up2 (up2 (up2 (up2 (up2 I d 0 (I h 0)) d 1 (I h 1)) d 2 (I h 2)) d 3 (I h 3)) d 11 (I h 11)) d 12 (I h 12)) d 13 (I h 13)) d 14 (bI (I h 14 != 0))) d 15 (I h 15)) d 16 (I h 16)) d 17 (I h 17)) d 18 (I h 18)
theorem cpF_n {h d q : Nat} {I : MI} (hq : q ≠ d) : cpF h d I q = I q := by unfold cpF; simp only [zu_n _ _ _ hq]
theorem cpF_d {h d : Nat} {I : MI} : (∀ k, k < 19 → k ≠ 14 → (k < 4 ∨ 11 ≤ k) → cpF h d I d k = I h k) ∧ cpF h d I d 14 = bI (I h 14 != 0) := by
  refine ⟨fun k h1 h2 h3 => ?_, ?_⟩
  · have h4 : k = 0 ∨ k = 1 ∨ k = 2 ∨ k = 3 ∨ k = 11 ∨ k = 12 ∨ k = 13 ∨ k = 15 ∨ k = 16 ∨ k = 17 ∨ k = 18 := by omega
    unfold cpF
    rcases h4 with rfl | rfl | rfl | rfl | rfl | rfl | rfl | rfl | rfl | rfl | rfl <;> simp [zu_s]
  · unfold cpF; simp [zu_s]
theorem c_copyX {d h : Nat} {I : MI} {L : ML} (hh : h + 45 ≤ d ∨ d + 45 ≤ h) : Tt (f_X3_copyFrom d h I L) (fun t => (∀ q, (q < d ∨ d + 45 ≤ q) → t.1 q = I q ∧ t.2 q = L q) ∧ CP h d I t.1 L t.2) := by
  have hne : h ≠ d := by omega
  have zb : ∀ (I : MI) (k : Nat) (x : Int32), up2 I d k x h = I h := fun I k x => zu_n I k x hne
  have e0 : f_X3_copyFrom d h I L = f_X3_copyFrom_143 FU d h 0 (cpI (cpI (cpF h d I) (h + 1) (d + 1) 10) (h + 11) (d + 11) 100) (cpL L (h + 12) (d + 12) 40) := by
    unfold f_X3_copyFrom cpF
    simp -implicitDefEqProofs only [pfe, Option.bind_some, cy10, cy100, cy40, zb]
  rw [e0]
  have g0 : ∀ q, q ≠ d → q ≠ d + 1 → q ≠ d + 11 → cpI (cpI (cpF h d I) (h + 1) (d + 1) 10) (h + 11) (d + 11) 100 q = I q := fun q h1 h2 h3 => by
    rw [cp_n q h3, cp_n q h2, cpF_n h1]
  have g1 : cpI (cpI (cpF h d I) (h + 1) (d + 1) 10) (h + 11) (d + 11) 100 d = cpF h d I d := by rw [cp_n d (by omega), cp_n d (by omega)]
  have g2 : ∀ k, k < 10 → cpI (cpI (cpF h d I) (h + 1) (d + 1) 10) (h + 11) (d + 11) 100 (d + 1) k = I (h + 1) k := fun k hk => by
    rw [cp_n (d + 1) (by omega), cp_s hk, cpF_n (by omega)]
  have g3 : ∀ k, k < 100 → cpI (cpI (cpF h d I) (h + 1) (d + 1) 10) (h + 11) (d + 11) 100 (d + 11) k = I (h + 11) k := fun k hk => by
    rw [cp_s hk, cp_n (h + 11) (by omega), cpF_n (by omega)]
  have g4 : ∀ q, (q < d ∨ d + 45 ≤ q) → cpL L (h + 12) (d + 12) 40 q = L q := fun q hq => cpl_n q (by omega)
  have g5 : ∀ k, k < 40 → cpL L (h + 12) (d + 12) 40 (d + 12) k = L (h + 12) k := fun k hk => cpl_s hk
  generalize cpI (cpI (cpF h d I) (h + 1) (d + 1) 10) (h + 11) (d + 11) 100 = I1 at g0 g1 g2 g3 ⊢
  generalize cpL L (h + 12) (d + 12) 40 = M at g4 g5 ⊢
  refine c_143 hh ?_
  intro J1 a1 a2
  refine c_172 hh ?_
  intro J2 b1 b2
  refine c_201 hh ?_
  intro J3 c1 c2
  obtain ⟨J, e1, e2, e3, e4, e5⟩ := c_cpW (I := J3) (L := M) hh
  refine Tt_eq e1 ?_
  have k3 : ∀ q, (q < d + 13 ∨ d + 45 ≤ q) → J3 q = I1 q := fun q hq => by rw [c1 q (by omega), b1 q (by omega), a1 q (by omega)]
  have kh : ∀ q, h ≤ q → q < h + 45 → J3 q = I q := fun q h1 h2 => by rw [k3 q (by omega), g0 q (by omega) (by omega) (by omega)]
  have ka : ∀ q, h ≤ q → q < h + 45 → I1 q = I q := fun q h1 h2 => g0 q (by omega) (by omega) (by omega)
  refine ⟨fun q hq => ⟨?_, g4 q hq⟩, ?_, ?_, ?_, ?_, g5, ?_, ?_, ?_, ?_, ?_, ?_⟩
  · show J q = I q
    rw [e2 q (by omega), k3 q (by omega), g0 q (by omega) (by omega) (by omega)]
  · intro k h1 h2 h3
    show J d k = _
    rw [e2 d (by omega), k3 d (by omega), g1]; exact cpF_d.1 k h1 h2 h3
  · show J d 14 = _
    rw [e2 d (by omega), k3 d (by omega), g1]; exact cpF_d.2
  · intro k hk
    show J (d + 1) k = _
    rw [e2 _ (by omega), k3 _ (by omega)]; exact g2 k hk
  · intro k hk
    show J (d + 11) k = _
    rw [e2 _ (by omega), k3 _ (by omega)]; exact g3 k hk
  · intro i hi j hj
    show J (d + 13 + i) j = _
    rw [e2 _ (by omega), c1 _ (by omega), b1 _ (by omega), a2 i hi j hj, ka _ (by omega) (by omega)]
  · intro i hi j hj
    show J (d + 27 + i) j = _
    rw [e2 _ (by omega), c1 _ (by omega), b2 i hi j hj, a1 _ (by omega), ka _ (by omega) (by omega)]
  · intro i hi j hj
    show J (d + 33 + i) j = _
    rw [e2 _ (by omega), c2 i hi j hj, b1 _ (by omega), a1 _ (by omega), ka _ (by omega) (by omega)]
  · show J (d + 5) 4 = _
    rw [e3, kh _ (by omega) (by omega)]
  · intro k hk
    obtain ⟨z1, z2, z3⟩ := e4 k hk
    show J (d + 6) k = _ ∧ J (d + 7) k = _ ∧ J (d + 8) k = _
    rw [z1, z2, z3, kh _ (by omega) (by omega), kh _ (by omega) (by omega), kh _ (by omega) (by omega)]
    exact ⟨rfl, rfl, rfl⟩
  · intro k hk
    show J (d + 9) k = _
    rw [e5 k hk, kh _ (by omega) (by omega)]
theorem c_copy {c d h : Nat} {I : MI} {L : ML} {w : Nat → Int32} (hh : h + 45 ≤ d ∨ d + 45 ≤ h) (hw : WF c w) (cr : CR h I L w) : Tt (f_X3_copyFrom d h I L) (fun t => (∀ q, (q < d ∨ d + 45 ≤ q) → t.1 q = I q ∧ t.2 q = L q) ∧ CR d t.1 t.2 w) :=
  Tt_mono (c_copyX hh) fun _ ht => ⟨ht.1, CR_cp hw ht.2 cr⟩
-- ===== image
theorem r_image {I : MI} {L : ML} : Tt (f_X12_image_7 FU 0 I L) (fun r => r.2 = L ∧ (∀ j, j ≠ 149 → j ≠ 151 → r.1 j = I j) ∧ (∀ k, k ≠ 5 → r.1 149 k = I 149 k) ∧ r.1 149 5 = 1 ∧ ∀ k, k < 1294 → r.1 151 k = I 150 k) := by
  have key : Tt (f_X12_image_7 FU (nI 0) I L) (fun r => r.2 = L ∧ (∀ j, j ≠ 149 → j ≠ 151 → r.1 j = I j) ∧ (∀ k, k ≠ 5 → r.1 149 k = I 149 k) ∧ r.1 149 5 = 1 ∧ ∀ k, k < 1294 → r.1 151 k = I 150 k) := by
    refine lp0 (fun fuel k (s : MI) => f_X12_image_7 fuel (nI k) s L) 1294 (fun k s => (∀ j, j ≠ 151 → s j = I j) ∧ ∀ i, i < k → s 151 i = I 150 i) (by decide) ?_ ?_ (s := I) ⟨fun _ _ => rfl, fun i hi => absurd hi (Nat.not_lt_zero _)⟩
    · intro fuel k s hk hs hnx
      show Tt (f_X12_image_7 (fuel + 1) (nI k) s L) _
      unfold f_X12_image_7
      rw [show (1294 : Int32) = nI 1294 from rfl, if_neg (le_n (by decide) (by omega) hk), r_w (by omega), Option.bind_some, stI_n hk (by decide), Option.bind_some, zI_1]
      refine hnx _ ⟨fun j hj => ?_, fun i hi => ?_⟩
      · rw [zu_n _ _ _ hj]; exact hs.1 j hj
      · rw [zu_s]
        by_cases h9 : i = k
        · rw [if_pos h9, h9, hs.1 150 (by decide)]
        · rw [if_neg h9]; exact hs.2 i (by omega)
    · intro fuel s hs
      show Tt (f_X12_image_7 (fuel + 1) (nI 1294) s L) _
      unfold f_X12_image_7
      rw [show (1294 : Int32) = nI 1294 from rfl, if_pos (Int32.le_refl _), pfe, Option.bind_some]
      refine Tt_some ⟨rfl, fun j h1 h2 => ?_, fun k hk => ?_, ?_, fun k hk => ?_⟩
      · show up2 s 149 5 (bI true) j = I j
        rw [zu_n _ _ _ h1]; exact hs.1 j h2
      · show up2 s 149 5 (bI true) 149 k = I 149 k
        rw [zu_s, if_neg hk, hs.1 149 (by decide)]
      · show up2 s 149 5 (bI true) 149 5 = 1
        rw [zu_s, if_pos rfl]; rfl
      · show up2 s 149 5 (bI true) 151 k = I 150 k
        rw [zu_n _ _ _ (by decide)]; exact hs.2 k hk
  exact key
theorem C_image {c : Nat} {I : MI} {L : ML} {A : AS} (hA : AI c A) (hC : CI9 I L A) (hR : RI9 I L A) : ∃ I' L', SV (f_X11_image I L) f_X12_image I' L' ∧ Inv9 (c + 1) I' L' := by
  obtain ⟨h, d, hd, cj⟩ := id hC
  obtain ⟨e, cr, -⟩ := C_n hA cj
  obtain ⟨b1, b2, b3, b4, b5⟩ := HD_b hd
  obtain ⟨t, t1, t2, t3⟩ := c_copy (d := 104) (Or.inl b2) hA.1 cr
  have hA' : AI (c + 1) (A.1, some A.1, A.2.2) := ⟨WF_up hA.1, fun v hv => by cases hv; exact WF_up hA.1, hA.2.2⟩
  have ca : f_X11_image I L = some (up2 t.1 0 7 1, t.2) := by
    unfold f_X11_image
    rw [hs_h hd e, Option.bind_some, t1, Option.bind_some, pfe, Option.bind_some]
    rfl
  have n0 : ∀ q, q ≠ 0 → q < 104 → up2 t.1 0 7 1 q = I q := fun q h1 h2 => by rw [zu_n _ _ _ h1]; exact (t2 q (Or.inl h2)).1
  have hC' : CI9 (up2 t.1 0 7 1) t.2 (A.1, some A.1, A.2.2) := by
    obtain ⟨a1, a2, a3, a4, a5, c1, c2, c3, d1, d2⟩ := cj
    have z0 : ∀ k, k ≠ 7 → up2 t.1 0 7 1 0 k = I 0 k := fun k hk => by rw [zu_s, if_neg hk, (t2 0 (by omega)).1]
    refine ⟨h, d, hd, by rw [z0 4 (by decide)]; exact a1, by rw [z0 5 (by decide)]; exact a2, ?_, by rw [zu_s, if_pos rfl]; rfl, fun v hv => ?_, by rw [n0 1 (by decide) (by decide)]; exact c1, by rw [n0 2 (by decide) (by decide)]; exact c2, by rw [n0 1 (by decide) (by decide)]; exact c3, by rw [n0 3 (by decide) (by decide)]; exact d1, ?_⟩
    · exact CR_cg (fun k h1 h2 => n0 _ (by omega) (by omega)) (t2 _ (by omega)).2 a3
    · cases hv
      exact CR_cg (fun k h1 h2 => zu_n _ _ _ (by omega)) rfl t3
    · rw [n0 3 (by decide) (by decide), n0 4 (by decide) (by decide), n0 5 (by decide) (by decide), n0 6 (by decide) (by decide), n0 7 (by decide) (by decide)]
      exact d2
  have hR1 : RI9 (up2 t.1 0 7 1) t.2 A := RI9_cg (fun q hq _ _ _ _ _ => by rw [zu_n _ _ _ (by omega)]; exact (t2 q (by omega)).1) hR
  obtain ⟨r, r1, r2, r3, r4, r5, r6⟩ := r_image (I := th0 (up2 t.1 0 7 1)) (L := t.2)
  have cb : f_X12_image (up2 t.1 0 7 1) t.2 = some r := by
    unfold f_X12_image
    rw [pf0, Option.bind_some]; exact r1
  have hR2 := RI_th hR1
  have q0 : ∀ q, q < 149 → r.1 q = up2 t.1 0 7 1 q := fun q hq => by rw [r3 q (by omega) (by omega)]; exact th0_n (by omega)
  refine ⟨r.1, r.2, ⟨_, r, ca, cb, rfl, rfl⟩, (A.1, some A.1, A.2.2), hA', CI9_cg (fun q hq => q0 q hq) (fun q hq => by rw [r2]) hC', ?_⟩
  obtain ⟨w1, w2, w3, w4, w5, w6, w7, w8⟩ := hR2
  refine ⟨by rw [r3 150 (by decide) (by decide)]; exact w1, r5, fun v hv k hk => ?_, by rw [r4 8 (by decide)]; exact w4, by rw [r3 154 (by decide) (by decide)]; exact w5, by rw [r4 13 (by decide)]; exact w6, by rw [r4 6 (by decide)]; exact w7, by rw [r3 153 (by decide) (by decide)]; exact w8⟩
  cases hv
  rw [r6 k hk, w1]
-- ===== back
theorem r_back {I : MI} {L : ML} : Tt (f_X12_back_16 FU 0 I L) (fun r => r.1 = true ∧ r.2.2 = L ∧ (∀ j, j ≠ 149 → j ≠ 150 → r.2.1 j = I j) ∧ (∀ k, k ≠ 6 → r.2.1 149 k = I 149 k) ∧ r.2.1 149 6 = 0 ∧ ∀ k, r.2.1 150 k = if k < 1294 then I 151 k else I 150 k) := by
  have key : Tt (f_X12_back_16 FU (nI 0) I L) (fun r => r.1 = true ∧ r.2.2 = L ∧ (∀ j, j ≠ 149 → j ≠ 150 → r.2.1 j = I j) ∧ (∀ k, k ≠ 6 → r.2.1 149 k = I 149 k) ∧ r.2.1 149 6 = 0 ∧ ∀ k, r.2.1 150 k = if k < 1294 then I 151 k else I 150 k) := by
    refine lp0 (fun fuel k (s : MI) => f_X12_back_16 fuel (nI k) s L) 1294 (fun k s => (∀ j, j ≠ 150 → s j = I j) ∧ ∀ i, s 150 i = if i < k then I 151 i else I 150 i) (by decide) ?_ ?_ (s := I) ⟨fun _ _ => rfl, fun i => by rw [if_neg (Nat.not_lt_zero _)]⟩
    · intro fuel k s hk hs hnx
      show Tt (f_X12_back_16 (fuel + 1) (nI k) s L) _
      unfold f_X12_back_16
      rw [show (1294 : Int32) = nI 1294 from rfl, if_neg (le_n (by decide) (by omega) hk), ldI_n hk (by decide), Option.bind_some, stI_n (show k < 2143 by omega) (by decide), Option.bind_some, zI_1]
      refine hnx _ ⟨fun j hj => ?_, fun i => ?_⟩
      · rw [zu_n _ _ _ hj]; exact hs.1 j hj
      · rw [zu_s]
        by_cases h9 : i = k
        · rw [if_pos h9, h9, hs.1 151 (by decide), if_pos (by omega)]
        · rw [if_neg h9, hs.2 i]
          by_cases h8 : i < k
          · rw [if_pos h8, if_pos (by omega)]
          · rw [if_neg h8, if_neg (by omega)]
    · intro fuel s hs
      show Tt (f_X12_back_16 (fuel + 1) (nI 1294) s L) _
      unfold f_X12_back_16
      rw [show (1294 : Int32) = nI 1294 from rfl, if_pos (Int32.le_refl _), pfe, Option.bind_some]
      refine Tt_some ⟨rfl, rfl, fun j h1 h2 => ?_, fun k hk => ?_, ?_, fun k => ?_⟩
      · show up2 s 149 6 0 j = I j
        rw [zu_n _ _ _ h1]; exact hs.1 j h2
      · show up2 s 149 6 0 149 k = I 149 k
        rw [zu_s, if_neg hk, hs.1 149 (by decide)]
      · show up2 s 149 6 0 149 6 = 0
        rw [zu_s, if_pos rfl]
      · show up2 s 149 6 0 150 k = _
        rw [zu_n _ _ _ (by decide)]; exact hs.2 k
  exact key
theorem C_back {c : Nat} {I : MI} {L : ML} {A : AS} (hA : AI c A) (hC : CI9 I L A) (hR : RI9 I L A) : ∃ I' L', SD (f_X11_back I L) f_X12_back I' L' ∧ Inv9 (c + 1) I' L' := by
  obtain ⟨h, d, hd, cj⟩ := id hC
  obtain ⟨e, cr, -⟩ := C_n hA cj
  obtain ⟨b1, b2, b3, b4, b5⟩ := HD_b hd
  have i7 : I 0 7 = bI A.2.1.isSome := cj.2.2.2.1
  cases hv : A.2.1 with
  | none =>
    refine fin_s hA (mkSD (v := false) hR ?_ ?_)
    · unfold f_X11_back
      rw [i7, hv, if_neg (by decide)]
      exact Tt_some ⟨rfl, hC, fun _ _ => rfl⟩
    · intro I' L' hR'
      have j5 : th0 I' 149 5 = bI A.2.1.isSome := by unfold th0; rw [zu_s]; exact hR'.2.1
      unfold f_X12_back
      rw [pf0, Option.bind_some, j5, hv, if_neg (by decide)]
      exact Tt_some (Rp_d hR' (scR_rf _ _))
  | some v =>
    have hv9 := hA.2.1 v hv
    have ck : CR 104 I L v := cj.2.2.2.2.1 v hv
    have w9 : ∀ k, k < 1294 → (fun k => if k < 1294 then v k else A.1 k) k = v k := fun k hk => if_pos hk
    have hA' : AI (c + 1) (fun k => if k < 1294 then v k else A.1 k, A.2.1, A.2.2.1, A.2.2.2.1, A.2.2.2.2.1, []) := ⟨WF_up (WF_w w9 hv9), fun u hu => WF_up (hA.2.1 u hu), hA.2.2.1, hA.2.2.2.1, Nat.zero_le _, fun a ha => absurd ha (List.not_mem_nil)⟩
    refine fin hA' (mkSD (v := true) hR ?_ ?_)
    · obtain ⟨t, t1, t2, t3⟩ := c_copy (d := h) (Or.inr b2) hv9 ck
      unfold f_X11_back
      rw [i7, if_pos (show (bI A.2.1.isSome != 0) = true by rw [hv]; rfl), hs_h hd e, Option.bind_some, t1, Option.bind_some]
      unfold f_X0_forget
      rw [pfe, Option.bind_some, Option.bind_some]
      have n0 : ∀ q, q ≠ 3 → (q < h ∨ h + 45 ≤ q) → up2 t.1 3 4 0 q = I q := fun q h1 h2 => by rw [zu_n _ _ _ h1]; exact (t2 q h2).1
      refine Tt_some ⟨rfl, ?_, fun q hq => n0 q (by omega) (by omega)⟩
      obtain ⟨a1, a2, a3, a4, a5, c1, c2, c3, d1, d2, hd2, d3, d4⟩ := cj
      refine ⟨h, d, hd, ?_, ?_, ?_, ?_, ?_, ?_, ?_, ?_, ?_, d2, hd2, ?_, ?_⟩
      · show up2 t.1 3 4 0 0 4 = _
        rw [n0 0 (by decide) (by omega)]; exact a1
      · show up2 t.1 3 4 0 0 5 = _
        rw [n0 0 (by decide) (by omega)]; exact a2
      · exact CR_w hv9 w9 (CR_cg (fun k h1 h2 => zu_n _ _ _ (by omega)) rfl t3)
      · show up2 t.1 3 4 0 0 7 = _
        rw [n0 0 (by decide) (by omega)]; exact a4
      · intro u hu
        exact CR_cg (fun k h1 h2 => n0 _ (by omega) (by omega)) (t2 _ (by omega)).2 (a5 u hu)
      · show up2 t.1 3 4 0 1 1 = _
        rw [n0 1 (by decide) (by omega)]; exact c1
      · show ∀ k, k < 400 → up2 t.1 3 4 0 2 k = _
        rw [n0 2 (by decide) (by omega)]; exact c2
      · show up2 t.1 3 4 0 1 7 = _
        rw [n0 1 (by decide) (by omega)]; exact c3
      · show up2 t.1 3 4 0 3 4 = _
        rw [zu_s, if_pos rfl]; rfl
      · show up2 t.1 3 4 0 3 5 = _
        rw [zu_s, if_neg (by decide), (t2 3 (by omega)).1]; exact d3
      · intro j a ha
        exact absurd ha (by simp)
    · intro I' L' hR'
      have j5 : th0 I' 149 5 = bI A.2.1.isSome := by unfold th0; rw [zu_s]; exact hR'.2.1
      obtain ⟨r, r1, r2, r3, r4, r5, r6, r7⟩ := r_back (I := th0 I') (L := L')
      unfold f_X12_back
      rw [pf0, Option.bind_some, j5, if_pos (show (bI A.2.1.isSome != 0) = true by rw [hv]; rfl)]
      refine Tt_eq r1 ⟨r2, ?_, fun q hq => ⟨by rw [r4 q (by omega) (by omega)]; exact th0_n (by omega), by rw [r3]⟩⟩
      obtain ⟨w1, w2, w3, w4, w5, w6, w7, w8⟩ := RI_th hR'
      have e150 : r.2.1 150 = fun k => if k < 1294 then v k else A.1 k := by
        funext k
        rw [r7 k]
        by_cases hk : k < 1294
        · rw [if_pos hk, if_pos hk]; exact w3 v hv k hk
        · rw [if_neg hk, if_neg hk, w1]
      refine ⟨e150, by rw [r5 5 (by decide)]; exact w2, fun u hu k hk => by rw [r4 151 (by decide) (by decide)]; exact w3 u hu k hk, by rw [r5 8 (by decide)]; exact w4, by rw [r4 154 (by decide) (by decide)]; exact w5, by rw [r5 13 (by decide)]; exact w6, r6, fun j hj => absurd hj (Nat.not_lt_zero _)⟩
-- ===== breach
noncomputable def daN (w : Nat → Int32) (d : Nat) : Nat → Nat
  | 0 => 0
  | k + 1 => daN w d k + dueN w k d
theorem c_dueAll {h : Nat} {I : MI} {L : ML} {w : Nat → Int32} {c : Nat} (hw : WF c w) (hc : CR h I L w) {d : Nat} (hd : d ≤ 200) : f_X3_dueOfAll h (nI d) I L = some (nL (daN w d (nw w 3))) := by
  have h12 := hw.2.2.1.1.2
  have z := C_z3 hw hc
  have key : Tt (f_X3_dueOfAll h (nI d) I L) (fun x => x = nL (daN w d (nw w 3))) := by
    unfold f_X3_dueOfAll
    refine lp0 (fun fuel k (b : Nat) => f_X3_dueOfAll_5 fuel h (nI d) (nL b) (nI k) I L) (nw w 3) (fun k b => b = daN w d k) (by omega) ?_ ?_ (s := 0) rfl
    · intro fuel k b hk hb hn
      show Tt (f_X3_dueOfAll_5 (fuel + 1) h (nI d) (nL b) (nI k) I L) _
      unfold f_X3_dueOfAll_5
      rw [z, if_neg (le_n (by omega) (by omega) hk), ldR_n (show k < 12 by omega) (by decide), Option.bind_some, c_due hw hc hk hd, Option.bind_some, zI_1, zL_add]
      exact hn _ (by rw [hb]; rfl)
    · intro fuel b hb
      show Tt (f_X3_dueOfAll_5 (fuel + 1) h (nI d) (nL b) (nI (nw w 3)) I L) _
      unfold f_X3_dueOfAll_5
      rw [z, if_pos (Int32.le_refl _), hb]
      exact Tt_some rfl
  obtain ⟨x, e1, e2⟩ := key
  rw [e1, e2]
theorem r_dueAll {I : MI} {L : ML} {w : Nat → Int32} {c : Nat} (hw : WF c w) (hI : I 150 = w) {d : Nat} (hd : d ≤ 200) : Tt (f_X12_dueOfAll (nI d) I L) (fun t => t.1 = nL (daN w d (nw w 3)) ∧ t.2.2 = L ∧ only156 I t.2.1) := by
  have h12 := hw.2.2.1.1.2
  unfold f_X12_dueOfAll
  refine Tt_bind (Tt_mono (r_sp hw hI) ?_)
  intro s ⟨s1, s2, s3⟩
  rw [s1]
  refine lp0 (fun fuel k (b : Nat) => f_X12_dueOfAll_9 fuel (nI d) (nL b) (nI k) s.1 L) (nw w 3) (fun k b => b = daN w d k) (by omega) ?_ ?_ (s := 0) rfl
  · intro fuel k b hk hb hn
    show Tt (f_X12_dueOfAll_9 (fuel + 1) (nI d) (nL b) (nI k) s.1 L) _
    unfold f_X12_dueOfAll_9
    rw [r_n3 hw s3.1, Option.bind_some, if_neg (le_n (by omega) (by omega) hk), r_due hw s3 hk hd, Option.bind_some, zI_1, zL_add]
    exact hn _ (by rw [hb]; rfl)
  · intro fuel b hb
    show Tt (f_X12_dueOfAll_9 (fuel + 1) (nI d) (nL b) (nI (nw w 3)) s.1 L) _
    unfold f_X12_dueOfAll_9
    rw [r_n3 hw s3.1, Option.bind_some, if_pos (Int32.le_refl _), hb]
    exact Tt_some ⟨rfl, rfl, s2⟩
theorem C_breach {c : Nat} {I : MI} {L : ML} {A : AS} (hA : AI c A) (hC : CI9 I L A) (hR : RI9 I L A) (x y : Int32) : ∃ I' L', SJ [IOB, IAE] (f_X11_breach x y I L) (f_X12_breach x y) I' L' ∧ CI9 I' L' A ∧ RI9 I' L' A := by
  obtain ⟨h, d, hd, cj⟩ := id hC
  obtain ⟨e, cr, e0, e2, e3⟩ := C_n hA cj
  obtain ⟨b1, b2, b3, b4, b5⟩ := HD_b hd
  have e5 : I 0 5 = nI d := cj.2.1
  have hd' : HD d h := by unfold HD at hd ⊢; omega
  have h10 := AI_r hA
  by_cases hx : ∃ k, k < nw A.1 0 ∧ x = nI k
  · obtain ⟨r, hr, rfl⟩ := hx
    by_cases hy : ¬ y < 0 ∧ ¬ 20 < y
    · obtain ⟨n, -, hn, rfl⟩ := rng_t (a := 0) (b := 20) (by decide) (by decide) hy
      have hw2 := WF_lay (r := r) (n := n) (by omega) hn hA.1
      refine mkSJ (res := .inr (nL (daN A.1 10 (nw A.1 3)) - nL (daN (setw A.1 (15 + r) (nI n)) 10 (nw (setw A.1 (15 + r) (nI n)) 3)))) hR ?_ ?_
      · simp -implicitDefEqProofs only [f_X11_breach, c_needRoom_t hd e e0 h10 hr, c_isC_t hy, c_need_t, Option.bind_some, xc_r, hs_h hd e, hs_h hd' e5]
        refine Tt_bind (Tt_mono (c_copy (d := d) (by omega) hA.1 cr) ?_)
        intro t ⟨t1, t2⟩
        have f0 : t.1 0 = I 0 := (t1 0 (by omega)).1
        have f5 : t.1 0 5 = nI d := by rw [f0]; exact e5
        simp -implicitDefEqProofs only [hs_h hd' f5, Option.bind_some]
        refine Tt_bind (Tt_mono (c_lay (by omega) hn hA.1 t2) ?_)
        intro u ⟨u1, u2, u3⟩
        have g0 : u.1 0 = I 0 := by rw [u2 0 (by omega) (by omega)]; exact f0
        have g4 : u.1 0 4 = nI h := by rw [g0]; exact e
        have g5 : u.1 0 5 = nI d := by rw [g0]; exact e5
        have cr2 : CR h u.1 u.2 A.1 := by
          rw [u1]
          exact CR_cg (fun k h1 h2 => by rw [u2 _ (by omega) (by omega)]; exact (t1 _ (by omega)).1) (t1 _ (by omega)).2 cr
        have cr3 : CR d u.1 u.2 (setw A.1 (15 + r) (nI n)) := by rw [u1]; exact u3
        simp -implicitDefEqProofs only [hs_h hd g4, hs_h hd' g5, Option.bind_some]
        rw [show f_X3_dueOfAll h 10 u.1 u.2 = some _ from c_dueAll (d := 10) hA.1 cr2 (by decide), Option.bind_some, show f_X3_dueOfAll d 10 u.1 u.2 = some _ from c_dueAll (d := 10) hw2 cr3 (by decide), Option.bind_some]
        refine Tt_some (Cp_a ⟨h, d, hd, CJ_cg hd (fun q hq hs => ?_) (fun q hq hs => ?_) cj⟩ (fun q hq => ?_))
        · unfold scr at hs
          rw [u2 q (by omega) (by omega)]; exact (t1 q (by omega)).1
        · unfold scr at hs
          rw [u1]; exact (t1 q (by omega)).2
        · rw [u2 q (by omega) (by omega)]; exact (t1 q (by omega)).1
      · intro I' L' hR'
        simp -implicitDefEqProofs only [f_X12_breach, f_X12_breach_34, pf0, Option.bind_some, r_noRoom_t (R_0 hA hR') h10 hr, r_thr_f, bft, if_false, r_in, decide_eq_true hy, if_true]
        rw [show (15 : Int32) = nI 15 from rfl, zI_add, r_w (by omega), Option.bind_some, show (10 : Int32) = nI 10 from rfl]
        refine Tt_bind (Tt_mono (r_dueAll (d := 10) hA.1 (R_w hR') (by decide)) ?_)
        intro t ⟨t1, t2, t3⟩
        have i1 : up2 t.2.1 150 (15 + r) (nI n) 150 = setw A.1 (15 + r) (nI n) := up_150 (by rw [t3 150 (by decide)]; exact R_w hR')
        rw [stI_n (by omega) (by decide), Option.bind_some, t2]
        refine Tt_bind (Tt_mono (r_dueAll (d := 10) hw2 i1 (by decide)) ?_)
        intro u ⟨u1, u2, u3⟩
        rw [stI_n (by omega) (by decide), Option.bind_some, u2, t1, u1]
        refine Tt_some (Rp_q hR' ⟨fun q h1 h2 h3 => ?_, fun _ _ => rfl⟩)
        by_cases h9 : q = 150
        · subst h9
          funext k
          rw [zu_s]
          by_cases h8 : k = 15 + r
          · rw [if_pos h8, h8]
          · rw [if_neg h8, u3 150 (by decide), i1]
            unfold setw
            rw [if_neg h8, R_w hR']
        · rw [zu_n _ _ _ h9, u3 q h1, zu_n _ _ _ h9, t3 q h1]
    · refine mkSJ (res := .inl 2) hR ?_ ?_
      · simp -implicitDefEqProofs only [f_X11_breach, c_needRoom_t hd e e0 h10 hr, c_isC_f hy, c_need_f, Option.bind_some, xc_r, xc_l]
        exact Tt_some (Cp_t hC (wk_2 (by decide)))
      · intro I' L' hR'
        simp -implicitDefEqProofs only [f_X12_breach, f_X12_breach_34, f_X12_breach_41, pf0, Option.bind_some, r_noRoom_t (R_0 hA hR') h10 hr, r_thr_f, bft, if_false, r_in, decide_eq_false hy, r_thr_t, if_true]
        exact Tt_some (Rp_t hR' (by decide))
  · refine mkSJ (res := .inl 1) hR ?_ ?_
    · simp -implicitDefEqProofs only [f_X11_breach, c_needRoom_f hd e e0 h10 (no_ex hx), Option.bind_some, xc_l]
      exact Tt_some (Cp_t hC (wk_1 (by decide)))
    · intro I' L' hR'
      simp -implicitDefEqProofs only [f_X12_breach, f_X12_breach_41, pf0, Option.bind_some, r_noRoom_f (R_0 hA hR') h10 (no_ex hx), r_thr_t, if_true]
      exact Tt_some (Rp_t hR' (by decide))
