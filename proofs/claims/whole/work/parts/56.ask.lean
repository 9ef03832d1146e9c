-- ===== facts of the two sides that the calls use
/-- both sides stand for A: the numbers of rooms, heirs, noises -/
theorem R_0 {c : Nat} {I : MI} {L : ML} {A : AS} (hA : AI c A) (h : RI9 I L A) : (th0 I) 150 0 = nI (nw A.1 0) := by rw [th0_n (by decide), h.1]; exact hA.1.1.1.1
theorem R_2 {c : Nat} {I : MI} {L : ML} {A : AS} (hA : AI c A) (h : RI9 I L A) : (th0 I) 150 2 = nI (nw A.1 2) := by rw [th0_n (by decide), h.1]; exact hA.1.2.1.1.1
theorem R_3 {c : Nat} {I : MI} {L : ML} {A : AS} (hA : AI c A) (h : RI9 I L A) : (th0 I) 150 3 = nI (nw A.1 3) := by rw [th0_n (by decide), h.1]; exact hA.1.2.2.1.1.1
theorem R_w {I : MI} {L : ML} {A : AS} (h : RI9 I L A) : (th0 I) 150 = A.1 := by rw [th0_n (by decide)]; exact h.1
/-- the class: now's house, its three numbers -/
theorem C_n {c : Nat} {h d : Nat} {I : MI} {L : ML} {A : AS} (hA : AI c A) (cj : CJ h d I L A) : I 0 4 = nI h ∧ CR h I L A.1 ∧ I h 0 = nI (nw A.1 0) ∧ I h 2 = nI (nw A.1 2) ∧ I h 3 = nI (nw A.1 3) :=
  ⟨cj.1, cj.2.2.1, cj.2.2.1.1.1.trans hA.1.1.1.1, cj.2.2.1.2.1.1.trans hA.1.2.1.1.1, cj.2.2.1.2.2.1.1.trans hA.1.2.2.1.1.1⟩
theorem AI_r {c : Nat} {A : AS} (hA : AI c A) : nw A.1 0 ≤ 10 := hA.1.1.1.2
theorem AI_h {c : Nat} {A : AS} (hA : AI c A) : nw A.1 2 ≤ 6 := hA.1.2.1.1.2
theorem AI_n {c : Nat} {A : AS} (hA : AI c A) : nw A.1 3 ≤ 12 := hA.1.2.2.1.1.2
theorem no_ex {x : Int32} {r : Nat} (h : ¬ ∃ k, k < r ∧ x = nI k) : ∀ k, k < r → x ≠ nI k := fun k hk e => h ⟨k, hk, e⟩
-- ===== at
theorem C_at {c : Nat} {I : MI} {L : ML} {A : AS} (hA : AI c A) (hC : CI9 I L A) (hR : RI9 I L A) (x y : Int32) : ∃ I' L', SI [IOB] (f_X11_at x y I L) (f_X12_at x y) I' L' ∧ CI9 I' L' A ∧ RI9 I' L' A := by
  obtain ⟨h, d, hd, cj⟩ := id hC
  obtain ⟨e, cr, e0, e2, e3⟩ := C_n hA cj
  by_cases hx : ∃ k, k < nw A.1 3 ∧ x = nI k
  · by_cases hy : ∃ k, k < nw A.1 0 ∧ y = nI k
    · obtain ⟨n, hn, rfl⟩ := hx
      obtain ⟨r, hr, rfl⟩ := hy
      have := AI_r hA
      have := AI_n hA
      refine mkSI (res := .inr (nI (atN A.1 n r))) hR ?_ ?_
      · simp only [f_X11_at, c_needNoise_t hd e e3 (AI_n hA) hn, c_needRoom_t hd e e0 (AI_r hA) hr, Option.bind_some, xc_r, hs_h hd e, ldR_n (show n < 12 by omega) (show 12 < 2 ^ 31 by decide), c_at hA.1 cr hn hr]
        exact Tt_some (Cp_q hC)
      · intro I' L' hR'
        simp only [f_X12_at, f_X12_at_27, pf0, Option.bind_some, r_noNoise_t (R_3 hA hR') (AI_n hA) hn, r_noRoom_t (R_0 hA hR') (AI_r hA) hr, r_thr_f, bft, if_false]
        refine Tt_bind (Tt_mono (r_sp hA.1 (R_w hR')) ?_)
        intro s ⟨s1, s2, s3⟩
        rw [r_at hA.1 s3 hn (by omega), Option.bind_some, s1]
        exact Tt_some (Rp_q hR' (scR_156 s2))
    · obtain ⟨n, hn, rfl⟩ := hx
      refine mkSI (res := .inl 1) hR ?_ ?_
      · simp only [f_X11_at, c_needNoise_t hd e e3 (AI_n hA) hn, c_needRoom_f hd e e0 (AI_r hA) (no_ex hy), Option.bind_some, xc_r, xc_l]
        exact Tt_some (Cp_t hC (wk_1 (by decide)))
      · intro I' L' hR'
        simp only [f_X12_at, f_X12_at_22, f_X12_at_27, pf0, Option.bind_some, r_noNoise_t (R_3 hA hR') (AI_n hA) hn, r_noRoom_f (R_0 hA hR') (AI_r hA) (no_ex hy), r_thr_t, bft, if_false, if_true]
        exact Tt_some (Rp_t hR' (by decide))
  · refine mkSI (res := .inl 1) hR ?_ ?_
    · simp only [f_X11_at, c_needNoise_f hd e e3 (AI_n hA) (no_ex hx), Option.bind_some, xc_l]
      exact Tt_some (Cp_t hC (wk_1 (by decide)))
    · intro I' L' hR'
      simp only [f_X12_at, f_X12_at_22, f_X12_at_27, pf0, Option.bind_some, r_noNoise_f (R_3 hA hR') (AI_n hA) (no_ex hx), r_thr_t, if_true]
      exact Tt_some (Rp_t hR' (by decide))
-- ===== noise
theorem r_of' {I : MI} {L : ML} {n k : Nat} (x : Int32) (hx : x = nI k) (h : n < 12) (hk : k < 10) : f_X12_of (nI n) x I L = some (I 150 (85 + 10 * n + k)) := by subst hx; exact r_of h hk
theorem C_noise {c : Nat} {I : MI} {L : ML} {A : AS} (hA : AI c A) (hC : CI9 I L A) (hR : RI9 I L A) (x y : Int32) : ∃ I' L', SI [IOB, NSE] (f_X11_noise x y I L) (f_X12_noise x y) I' L' ∧ CI9 I' L' A ∧ RI9 I' L' A := by
  obtain ⟨h, d, hd, cj⟩ := id hC
  obtain ⟨e, cr, e0, e2, e3⟩ := C_n hA cj
  by_cases hx : ∃ k, k < nw A.1 3 ∧ x = nI k
  · obtain ⟨n, hn, rfl⟩ := hx
    have hn12 : n < 12 := by have := AI_n hA; omega
    obtain ⟨n0, n1, n2, n3, n4, n5, n6, n7, n8, n9⟩ := (cr.2.2.1.2 n hn12).1 hn
    by_cases hy : ∃ k, k < 9 ∧ y = nI k
    · obtain ⟨k, hk, rfl⟩ := hy
      refine mkSI (res := .inr (A.1 (85 + 10 * n + k))) hR ?_ ?_
      · simp only [f_X11_noise, c_needNoise_t hd e e3 (AI_n hA) hn, Option.bind_some, xc_r, hs_h hd e, ldR_n hn12 (show 12 < 2 ^ 31 by decide), n0, n1, n2, n3, n4, n5, n6, n7, n8]
        have hk9 : k = 0 ∨ k = 1 ∨ k = 2 ∨ k = 3 ∨ k = 4 ∨ k = 5 ∨ k = 6 ∨ k = 7 ∨ k = 8 := by omega
        rcases hk9 with rfl | rfl | rfl | rfl | rfl | rfl | rfl | rfl | rfl <;> exact Tt_some (Cp_q hC)
      · intro I' L' hR'
        have h1 := (r_no (x := nI k) (r := 9) (by decide)).1 k hk rfl
        have h2 : ¬ nI k < 0 ∧ ¬ 8 < nI k := h1
        simp only [f_X12_noise, f_X12_noise_34, f_X12_noise_51, pf0, Option.bind_some, r_noNoise_t (R_3 hA hR') (AI_n hA) hn, r_thr_f, bft, if_false, r_in, decide_eq_true h2, if_true, r_of hn12 (show k < 10 by omega), R_w hR']
        exact Tt_some (Rp_q hR' (scR_rf _ _))
    · have hne : ∀ k, k < 9 → y ≠ nI k := no_ex hy
      refine mkSI (res := .inl 2) hR ?_ ?_
      · simp only [f_X11_noise, c_needNoise_t hd e e3 (AI_n hA) hn, Option.bind_some, xc_r, hs_h hd e, ldR_n hn12 (show 12 < 2 ^ 31 by decide)]
        rw [if_neg (show ¬ y = 0 from hne 0 (by decide)), if_neg (show ¬ y = 1 from hne 1 (by decide)), if_neg (show ¬ y = 2 from hne 2 (by decide)), if_neg (show ¬ y = 3 from hne 3 (by decide)), if_neg (show ¬ y = 4 from hne 4 (by decide)), if_neg (show ¬ y = 5 from hne 5 (by decide)), if_neg (show ¬ y = 6 from hne 6 (by decide)), if_neg (show ¬ y = 7 from hne 7 (by decide)), if_neg (show ¬ y = 8 from hne 8 (by decide))]
        exact Tt_some (Cp_t hC (wk_2 (by decide)))
      · intro I' L' hR'
        have h2 : ¬ (¬ y < 0 ∧ ¬ 8 < y) := (r_no (x := y) (r := 9) (by decide)).2 hne
        simp only [f_X12_noise, f_X12_noise_34, f_X12_noise_41, f_X12_noise_51, pf0, Option.bind_some, r_noNoise_t (R_3 hA hR') (AI_n hA) hn, r_thr_f, bft, if_false, r_in, decide_eq_false h2, if_true, r_thr_t]
        exact Tt_some (Rp_t hR' (by decide))
  · refine mkSI (res := .inl 1) hR ?_ ?_
    · simp only [f_X11_noise, c_needNoise_f hd e e3 (AI_n hA) (no_ex hx), Option.bind_some, xc_l]
      exact Tt_some (Cp_t hC (wk_1 (by decide)))
    · intro I' L' hR'
      simp only [f_X12_noise, f_X12_noise_41, f_X12_noise_51, pf0, Option.bind_some, r_noNoise_f (R_3 hA hR') (AI_n hA) (no_ex hx), r_thr_t, if_true]
      exact Tt_some (Rp_t hR' (by decide))
-- ===== heir
/-- the noises that an heir hears, as bits -/
def hbits (w : Nat → Int32) (e : Nat) : Nat → Int32
  | 0 => 0
  | k + 1 => if hrs w e k = true then hbits w e k ||| (1 <<< (nI k &&& 31)) else hbits w e k
theorem c_heardBy {h : Nat} {I : MI} {L : ML} {w : Nat → Int32} {c : Nat} (hw : WF c w) (hc : CR h I L w) {e : Nat} (he : e < nw w 2) : f_X3_heardBy h (h + 27 + e) I L = some (hbits w e (nw w 3)) := by
  have hn12 := hw.2.2.1.1.2
  have z3 : I h 3 = nI (nw w 3) := hc.2.2.1.1.trans hw.2.2.1.1.1
  have key : Tt (f_X3_heardBy h (h + 27 + e) I L) (fun r => r = hbits w e (nw w 3)) := by
    unfold f_X3_heardBy
    refine lp0 (fun fuel k (b : Int32) => f_X3_heardBy_4 fuel h (h + 27 + e) b (nI k) I L) (nw w 3) (fun k b => b = hbits w e k) (by omega) ?_ ?_ rfl
    · intro fuel k b hk hb hn9
      show Tt (f_X3_heardBy_4 (fuel + 1) h (h + 27 + e) b (nI k) I L) _
      unfold f_X3_heardBy_4 f_X3_heardBy_32
      rw [z3, if_neg (by rw [zI_le (by omega) (by omega)]; omega), ldR_n (by omega) (by decide), Option.bind_some, c_heardL hw hc he hk, Option.bind_some, zI_1]
      refine Tt_ite (fun h9 => hn9 _ ?_) (fun h9 => hn9 _ ?_)
      · show _ = if hrs w e k = true then _ else _
        rw [if_neg ((hrs_pos hw he hk).mp h9)]; exact hb
      · have h8 : hrs w e k = true := by
          cases hx : hrs w e k
          · exact absurd ((hrs_pos hw he hk).mpr (by rw [hx]; decide)) h9
          · rfl
        show _ = if hrs w e k = true then _ else _
        rw [if_pos h8, hb]
    · intro fuel b hb
      show Tt (f_X3_heardBy_4 (fuel + 1) h (h + 27 + e) b (nI (nw w 3)) I L) _
      unfold f_X3_heardBy_4
      rw [z3, if_pos (Int32.le_refl _)]
      exact Tt_some hb
  obtain ⟨r, e1, e2⟩ := key
  rw [e1, e2]
theorem r_heardBy {I : MI} {L : ML} {w : Nat → Int32} {c : Nat} (hw : WF c w) (hI : RW I w) {e : Nat} (he : e < nw w 2) : f_X12_heir_63 FU (nI e) 0 0 I L = some (hbits w e (nw w 3), I, L) := by
  have hn12 := hw.2.2.1.1.2
  have key : Tt (f_X12_heir_63 FU (nI e) 0 0 I L) (fun r => r = (hbits w e (nw w 3), I, L)) := by
    refine lp0 (fun fuel k (b : Int32) => f_X12_heir_63 fuel (nI e) b (nI k) I L) (nw w 3) (fun k b => b = hbits w e k) (by omega) ?_ ?_ rfl
    · intro fuel k b hk hb hn9
      show Tt (f_X12_heir_63 (fuel + 1) (nI e) b (nI k) I L) _
      unfold f_X12_heir_63 f_X12_noises f_X12_heir_91
      rw [show (3 : Int32) = nI 3 from rfl, r_w (by decide), Option.bind_some, Option.bind_some, hI.1, hw.2.2.1.1.1, if_neg (by rw [zI_le (by omega) (by omega)]; omega), r_hears hw hI he hk, Option.bind_some, zI_1]
      refine Tt_ite (fun h9 => hn9 _ ?_) (fun h9 => hn9 _ ?_)
      · show _ = if hrs w e k = true then _ else _
        rw [if_pos h9, hb]
      · show _ = if hrs w e k = true then _ else _
        rw [if_neg h9, Int32.or_zero]; exact hb
    · intro fuel b hb
      show Tt (f_X12_heir_63 (fuel + 1) (nI e) b (nI (nw w 3)) I L) _
      unfold f_X12_heir_63 f_X12_noises
      rw [show (3 : Int32) = nI 3 from rfl, r_w (by decide), Option.bind_some, Option.bind_some, hI.1, hw.2.2.1.1.1, if_pos (by rw [← hw.2.2.1.1.1]; exact Int32.le_refl _), hb]
      exact Tt_some rfl
  obtain ⟨r, e1, e2⟩ := key
  rw [e1, e2]
theorem C_heir {c : Nat} {I : MI} {L : ML} {A : AS} (hA : AI c A) (hC : CI9 I L A) (hR : RI9 I L A) (x y : Int32) : ∃ I' L', SI [IOB, NSE] (f_X11_heir x y I L) (f_X12_heir x y) I' L' ∧ CI9 I' L' A ∧ RI9 I' L' A := by
  obtain ⟨h, d, hd, cj⟩ := id hC
  obtain ⟨e, cr, e0, e2, e3⟩ := C_n hA cj
  by_cases hx : ∃ k, k < nw A.1 2 ∧ x = nI k
  · obtain ⟨n, hn, rfl⟩ := hx
    have hn6 : n < 6 := by have := AI_h hA; omega
    obtain ⟨n0, n1, n2⟩ := cr.2.1.2 n hn6
    by_cases hy : ∃ k, k < 4 ∧ y = nI k
    · obtain ⟨k, hk, rfl⟩ := hy
      have h1 := (r_no (x := nI k) (r := 4) (by decide)).1 k hk rfl
      have h2 : ¬ nI k < 0 ∧ ¬ 3 < nI k := h1
      by_cases hk3 : k = 3
      · subst hk3
        refine mkSI (res := .inr (hbits A.1 n (nw A.1 3))) hR ?_ ?_
        · simp only [f_X11_heir, c_needHeir_t hd e e2 (AI_h hA) hn, Option.bind_some, xc_r, hs_h hd e, ldR_n hn6 (show 6 < 2 ^ 31 by decide), c_heardBy hA.1 cr hn]
          exact Tt_some (Cp_q hC)
        · intro I' L' hR'
          simp only [f_X12_heir, f_X12_heir_33, pf0, Option.bind_some, r_noHeir_t (R_2 hA hR') (AI_h hA) hn, r_thr_f, bft, if_false, r_in, decide_eq_true h2, if_true]
          rw [if_pos (by decide)]
          refine Tt_bind (Tt_mono (r_sp hA.1 (R_w hR')) ?_)
          intro s ⟨s1, s2, s3⟩
          rw [r_heardBy hA.1 s3 hn, s1]
          exact Tt_some (Rp_q hR' (scR_156 s2))
      · refine mkSI (res := .inr (A.1 (67 + 3 * n + k))) hR ?_ ?_
        · simp only [f_X11_heir, c_needHeir_t hd e e2 (AI_h hA) hn, Option.bind_some, xc_r, hs_h hd e, ldR_n hn6 (show 6 < 2 ^ 31 by decide), n0, n1, n2]
          have hk9 : k = 0 ∨ k = 1 ∨ k = 2 := by omega
          rcases hk9 with rfl | rfl | rfl <;> exact Tt_some (Cp_q hC)
        · intro I' L' hR'
          simp only [f_X12_heir, f_X12_heir_33, pf0, Option.bind_some, r_noHeir_t (R_2 hA hR') (AI_h hA) hn, r_thr_f, bft, if_false, r_in, decide_eq_true h2, if_true]
          rw [if_neg (by rw [show (3 : Int32) = nI 3 from rfl, zI_le (by decide) (by omega)]; omega), r_heir hn6 (by omega), Option.bind_some, R_w hR']
          exact Tt_some (Rp_q hR' (scR_rf _ _))
    · have hne : ∀ k, k < 4 → y ≠ nI k := no_ex hy
      refine mkSI (res := .inl 2) hR ?_ ?_
      · simp only [f_X11_heir, c_needHeir_t hd e e2 (AI_h hA) hn, Option.bind_some, xc_r, hs_h hd e, ldR_n hn6 (show 6 < 2 ^ 31 by decide)]
        rw [if_neg (show ¬ y = 0 from hne 0 (by decide)), if_neg (show ¬ y = 1 from hne 1 (by decide)), if_neg (show ¬ y = 2 from hne 2 (by decide)), if_neg (show ¬ y = 3 from hne 3 (by decide))]
        exact Tt_some (Cp_t hC (wk_2 (by decide)))
      · intro I' L' hR'
        have h2 : ¬ (¬ y < 0 ∧ ¬ 3 < y) := (r_no (x := y) (r := 4) (by decide)).2 hne
        simp only [f_X12_heir, f_X12_heir_33, f_X12_heir_40, pf0, Option.bind_some, r_noHeir_t (R_2 hA hR') (AI_h hA) hn, r_thr_f, bft, if_false, r_in, decide_eq_false h2, if_true, r_thr_t]
        exact Tt_some (Rp_t hR' (by decide))
  · refine mkSI (res := .inl 1) hR ?_ ?_
    · simp only [f_X11_heir, c_needHeir_f hd e e2 (AI_h hA) (no_ex hx), Option.bind_some, xc_l]
      exact Tt_some (Cp_t hC (wk_1 (by decide)))
    · intro I' L' hR'
      simp only [f_X12_heir, f_X12_heir_40, pf0, Option.bind_some, r_noHeir_f (R_2 hA hR') (AI_h hA) (no_ex hx), r_thr_t, if_true]
      exact Tt_some (Rp_t hR' (by decide))
-- ===== fault, count
theorem C_fault {c : Nat} {I : MI} {L : ML} {A : AS} (hA : AI c A) (hC : CI9 I L A) (hR : RI9 I L A) : ∃ I' L', SP (f_X11_fault I L) (f_X12_fault I L) I' L' ∧ CI9 I' L' A ∧ RI9 I' L' A := by
  obtain ⟨h, d, hd, cj⟩ := id hC
  have e7 : I 1 7 = A.2.2.2.2.1 := cj.2.2.2.2.2.2.2.1
  refine mkSP (v := A.2.2.2.2.1) hC hR ?_ ?_
  · unfold f_X11_fault; rw [e7]
  · intro I' L' hR'
    have e13 : th0 I' 149 13 = A.2.2.2.2.1 := by unfold th0; rw [zu_s]; exact hR'.2.2.2.2.2.1
    simp only [f_X12_fault, pf0, Option.bind_some, e13]
    exact Tt_some (Rp_d hR' (scR_rf _ _))
theorem zdiv24 {w : Nat → Int32} {c : Nat} (hw : WFt c w) (hc : c ≤ 600) : nI (tm w) / 24 = w 6 ∧ nI (tm w) - nI (tm w) / 24 * 24 = w 7 := by
  have h1 := hw.2.2.1
  have h2 := hw.2.2.2.1
  have h3 := hw.2.2.2.2.1
  rw [show (24 : Int32) = nI 24 from rfl, zI_mod (by omega) (by decide), zI_div (by omega) (by decide), h1, h2.1]
  have h4 := h2.2
  unfold tm
  constructor
  · congr 1; omega
  · congr 1; omega
theorem C_count {c : Nat} {I : MI} {L : ML} {A : AS} (hc : c ≤ 600) (hA : AI c A) (hC : CI9 I L A) (hR : RI9 I L A) (x : Int32) : ∃ I' L', SP (f_X11_count x I L) (f_X12_count x I L) I' L' ∧ CI9 I' L' A ∧ RI9 I' L' A := by
  obtain ⟨h, d, hd, cj⟩ := id hC
  obtain ⟨e, cr, e0, e2, e3⟩ := C_n hA cj
  obtain ⟨t1, t2, t3, t4, t5, t6, t7, t8⟩ := cr.2.2.2.1
  obtain ⟨z1, z2⟩ := zdiv24 hA.1.2.2.2.1 hc
  rw [z1] at z2
  have l1 := cr.2.2.2.2.2.2.1
  have a1 : I 3 4 = nI A.2.2.2.2.2.length := cj.2.2.2.2.2.2.2.2.1
  have q0 := cr.1.1
  have q1 := cr.1.2.1
  have q2 := cr.2.1.1
  have q3 := cr.2.2.1.1
  have st : bI (A.1 9 != 0) = A.1 9 := by
    rcases hA.1.2.2.2.1.2.2.2.2.2.2.1 with h9 | h9 <;> rw [h9] <;> decide
  have stB : (if (A.1 9 != 0) = true then f_X11_count_165 true I L else f_X11_count_165 false I L) = some (A.1 9) := by
    rw [← st]
    unfold f_X11_count_165
    cases (A.1 9 != 0) <;> rfl
  refine mkSP (v := if x = 5 then (if A.1 5 = 1 then A.1 445 else -1) else if x = 13 then nI A.2.2.2.2.2.length else if ¬ x < 0 ∧ ¬ 12 < x then A.1 x.toNatClampNeg else -1) hC hR ?_ ?_
  · by_cases hx : ∃ k, k < 14 ∧ x = nI k
    · obtain ⟨k, hk, rfl⟩ := hx
      have hk9 : k = 0 ∨ k = 1 ∨ k = 2 ∨ k = 3 ∨ k = 4 ∨ k = 5 ∨ k = 6 ∨ k = 7 ∨ k = 8 ∨ k = 9 ∨ k = 10 ∨ k = 11 ∨ k = 12 ∨ k = 13 := by omega
      simp only [f_X11_count, f_X3_hourOfDay, hs_h hd e, Option.bind_some, q0, q1, q2, q3, t1, t2, t3, t4, t5, t6, t7, l1, z1, z2, a1, stB]
      rcases hk9 with rfl | rfl | rfl | rfl | rfl | rfl | rfl | rfl | rfl | rfl | rfl | rfl | rfl | rfl <;> rfl
    · have hne := no_ex hx
      have h13 : ¬ (¬ x < 0 ∧ ¬ 12 < x) := fun h9 => by
        have := (r_no (x := x) (r := 13) (by decide)).2 (fun k hk => hne k (by omega))
        exact this h9
      unfold f_X11_count
      rw [if_neg (show ¬ x = 0 from hne 0 (by decide)), if_neg (show ¬ x = 1 from hne 1 (by decide)), if_neg (show ¬ x = 2 from hne 2 (by decide)), if_neg (show ¬ x = 3 from hne 3 (by decide)), if_neg (show ¬ x = 4 from hne 4 (by decide)), if_neg (show ¬ x = 5 from hne 5 (by decide)), if_neg (show ¬ x = 6 from hne 6 (by decide)), if_neg (show ¬ x = 7 from hne 7 (by decide)), if_neg (show ¬ x = 8 from hne 8 (by decide)), if_neg (show ¬ x = 9 from hne 9 (by decide)), if_neg (show ¬ x = 10 from hne 10 (by decide)), if_neg (show ¬ x = 11 from hne 11 (by decide)), if_neg (show ¬ x = 12 from hne 12 (by decide)), if_neg (show ¬ x = 13 from hne 13 (by decide)), if_neg (show ¬ x = 5 from hne 5 (by decide)), if_neg (show ¬ x = 13 from hne 13 (by decide)), if_neg h13]
  · intro I' L' hR'
    have e6 : th0 I' 149 6 = nI A.2.2.2.2.2.length := by unfold th0; rw [zu_s]; exact hR'.2.2.2.2.2.2.1
    simp only [f_X12_count, f_X12_count_54, f_X12_count_80, pf0, Option.bind_some, show ldI (th0 I') 150 2143 5 = some (A.1 5) by rw [show (5 : Int32) = nI 5 from rfl, r_w (by decide), R_w hR'], show ldI (th0 I') 150 2143 445 = some (A.1 445) by rw [show (445 : Int32) = nI 445 from rfl, r_w (by decide), R_w hR'], e6, r_in]
    by_cases h5 : x = 5
    · rw [if_pos h5, if_pos h5]
      refine Tt_ite (fun h9 => ?_) (fun h9 => ?_)
      · rw [if_pos h9]; exact Tt_some (Rp_d hR' (scR_rf _ _))
      · rw [if_neg h9]; exact Tt_some (Rp_d hR' (scR_rf _ _))
    · rw [if_neg h5, if_neg h5]
      by_cases h13 : x = 13
      · rw [if_pos h13, if_pos h13]; exact Tt_some (Rp_d hR' (scR_rf _ _))
      · rw [if_neg h13, if_neg h13]
        by_cases h12 : ¬ x < 0 ∧ ¬ 12 < x
        · obtain ⟨k, hk, rfl⟩ := vld_le (x := x) (r := 12) h12.1 h12.2 (by decide)
          rw [if_pos (decide_eq_true h12), r_w (by omega), Option.bind_some, if_pos h12, R_w hR', zI_cl (by omega)]
          exact Tt_some (Rp_d hR' (scR_rf _ _))
        · rw [if_neg (by rw [decide_eq_true_iff]; exact h12), if_neg h12]
          exact Tt_some (Rp_d hR' (scR_rf _ _))
