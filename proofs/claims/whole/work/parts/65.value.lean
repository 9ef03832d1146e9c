-- ===== titles of all
theorem c_weigh {h c : Nat} {I : MI} {L : ML} {w : Nat → Int32} (hc6 : c ≤ 600) (hw : WF c w) (cr : CR h I L w) (hh : 14 ≤ h) {n : Nat} (hn : n < nw w 3) : Tt (f_X6_weigh h (nI n) I L) (fun t => t.2 = L ∧ (∀ q, q ≠ 8 → q ≠ 9 → q ≠ h + 10 → t.1 q = I q) ∧ PT (fun e => ttN w e n) (nw w 2) t.1) := by
  have h6 := hw.2.1.1.2
  have h12 := hw.2.2.1.1.2
  have e2 := C_z2 hw cr
  unfold f_X6_weigh
  rw [pfe, Option.bind_some, pfe, Option.bind_some, e2]
  refine lp0 (fun fuel k (J : MI) => f_X6_weigh_15 fuel h (nI n) (nI k) J L) (nw w 2) (fun k J => (∀ q, q ≠ 8 → q ≠ 9 → q ≠ h + 10 → J q = I q) ∧ J 8 0 = nI (nw w 2) ∧ J 8 2 = nI (sm (fun e => ttN w e n) k) ∧ ∀ e, e < k → J 9 e = nI (ttN w e n)) (by omega) ?_ ?_ (s := up2 (up2 I 8 0 (nI (nw w 2))) 8 2 0) ⟨fun q h8 _ _ => by rw [zu_n _ _ _ h8, zu_n _ _ _ h8], by rw [zu_s, if_neg (by decide), zu_s, if_pos rfl], by rw [zu_s, if_pos rfl]; rfl, fun e he => absurd he (Nat.not_lt_zero _)⟩
  · intro fuel k J hk ⟨j1, j2, j3, j4⟩ hnx
    have crJ : CR h J L w := CR_cg (fun k h1 h2 => j1 _ (by omega) (by omega) (by omega)) rfl cr
    show Tt (f_X6_weigh_15 (fuel + 1) h (nI n) (nI k) J L) _
    unfold f_X6_weigh_15
    rw [j2, if_neg (le_n (by omega) (by omega) hk), ldR_n (show k < 6 by omega) (by decide), Option.bind_some, ldR_n (show n < 12 by omega) (by decide), Option.bind_some, c_heardL hw crJ hk hn, Option.bind_some]
    have e47 : Tt (f_X6_weigh_47 (f_X6_weigh_15 fuel) h (nI n) (nI k) (hrs w k n) J L) (fun t => t.2 = L ∧ (∀ q, q ≠ 8 → q ≠ 9 → q ≠ h + 10 → t.1 q = I q) ∧ PT (fun e => ttN w e n) (nw w 2) t.1) := by
      unfold f_X6_weigh_47
      refine Tt_bind (Tt_mono (c_title hc6 hw crJ hk hn) ?_)
      intro t ⟨t1, t2, t3⟩
      have t8 : t.2.1 8 = J 8 := t3 8 (by omega)
      have t9 : t.2.1 9 = J 9 := t3 9 (by omega)
      rw [t1, t2, stI_n (show k < 6 by omega) (by decide), Option.bind_some, ldI_n (show k < 6 by omega) (by decide), Option.bind_some, zu_s, if_pos rfl, zu_n _ _ _ (show 8 ≠ 9 by decide), t8, j3, zI_add, pfe, Option.bind_some, zI_1 k]
      refine hnx _ ⟨fun q h8 h9 h10 => ?_, ?_, ?_, fun e he => ?_⟩
      · rw [zu_n _ _ _ h8, zu_n _ _ _ h9, t3 q h10]; exact j1 q h8 h9 h10
      · rw [zu_s, if_neg (by decide), zu_n _ _ _ (show 8 ≠ 9 by decide), t8]; exact j2
      · rw [zu_s, if_pos rfl]; rfl
      · rw [zu_n _ _ _ (show 9 ≠ 8 by decide), zu_s]
        by_cases h9 : e = k
        · rw [if_pos h9, h9]
        · rw [if_neg h9, t9]; exact j4 e (by omega)
    by_cases hx : hrs w k n = true
    · rw [hx] at e47
      rw [if_neg (fun h => (hrs_pos hw hk hn).mp h hx)]; exact e47
    · have hx2 : hrs w k n = false := by cases hz : hrs w k n; rfl; exact absurd hz hx
      rw [hx2] at e47
      rw [if_pos ((hrs_pos hw hk hn).mpr hx)]; exact e47
  · intro fuel J ⟨j1, j2, j3, j4⟩
    show Tt (f_X6_weigh_15 (fuel + 1) h (nI n) (nI (nw w 2)) J L) _
    unfold f_X6_weigh_15
    rw [j2, if_pos (Int32.le_refl _)]
    exact Tt_some ⟨rfl, j1, j2, j3, j4⟩
theorem r_all {I : MI} {L : ML} {w : Nat → Int32} {c : Nat} (hw : WF c w) (hI : RW I w) {n : Nat} (hn : n < nw w 3) : Tt (f_X12_allTitles (nI n) I L) (fun t => t.1 = nL (sm (fun e => ttN w e n) (nw w 2)) ∧ t.2.2 = L ∧ (∀ q, q ≠ 157 → q ≠ 158 → t.2.1 q = I q) ∧ ∀ e, e < nw w 2 → t.2.1 158 e = nI (ttN w e n)) := by
  have h6 := hw.2.1.1.2
  unfold f_X12_allTitles
  refine lp0 (fun fuel k (J : MI) => f_X12_allTitles_5 fuel (nI n) (nL (sm (fun e => ttN w e n) k)) (nI k) J L) (nw w 2) (fun k J => (∀ q, q ≠ 157 → q ≠ 158 → J q = I q) ∧ ∀ e, e < k → J 158 e = nI (ttN w e n)) (by omega) ?_ ?_ (s := I) ⟨fun _ _ _ => rfl, fun e he => absurd he (Nat.not_lt_zero _)⟩
  · intro fuel k J hk ⟨j1, j2⟩ hnx
    have hJ : J 150 = w := (j1 150 (by decide) (by decide)).trans hI.1
    have hRW : RW J w := ⟨hJ, fun k hk => by rw [show J 156 = I 156 from j1 156 (by decide) (by decide)]; exact hI.2 k hk⟩
    have ht := tt_le hw k n
    show Tt (f_X12_allTitles_5 (fuel + 1) (nI n) (nL (sm (fun e => ttN w e n) k)) (nI k) J L) _
    unfold f_X12_allTitles_5
    rw [r_n2 hw hJ, Option.bind_some, if_neg (le_n (by omega) (by omega) hk)]
    refine Tt_bind (Tt_mono (r_title hw hRW hk hn) ?_)
    intro t ⟨t1, t2, t3⟩
    rw [t1, t2, stI_n (show k < 6 by omega) (by decide), Option.bind_some, ldI_n (show k < 6 by omega) (by decide), Option.bind_some, zu_s, if_pos rfl, zL_i (by omega), zL_add, zI_1 k]
    refine hnx _ ⟨fun q h1 h2 => ?_, fun e he => ?_⟩
    · rw [zu_n _ _ _ h2, t3 q h1]; exact j1 q h1 h2
    · rw [zu_s]
      by_cases h9 : e = k
      · rw [if_pos h9, h9]
      · rw [if_neg h9, t3 158 (by decide)]; exact j2 e (by omega)
  · intro fuel J ⟨j1, j2⟩
    have hJ : J 150 = w := (j1 150 (by decide) (by decide)).trans hI.1
    show Tt (f_X12_allTitles_5 (fuel + 1) (nI n) (nL (sm (fun e => ttN w e n) (nw w 2))) (nI (nw w 2)) J L) _
    unfold f_X12_allTitles_5
    rw [r_n2 hw hJ, Option.bind_some, if_pos (Int32.le_refl _)]
    exact Tt_some ⟨rfl, rfl, j1, j2⟩
theorem r_prt {I : MI} {L : ML} {w : Nat → Int32} {c : Nat} (hw : WF c w) (hI : RW I w) {n amt : Nat} (hn : n < nw w 3) (ha : amt ≤ 200000000) : Tt (f_X12_parts (nI n) (nL amt) I L) (fun r => r.1 = nL (chN (fun e => ttN w e n) (nw w 2) amt) ∧ (∀ q, q ≠ 157 → q ≠ 158 → r.2.1 q = I q) ∧ (∀ q, q ≠ 159 → r.2.2 q = L q) ∧ ∀ e, e < nw w 2 → r.2.2 159 e = nL (shN (fun e => ttN w e n) (nw w 2) amt e)) := by
  unfold f_X12_parts
  refine Tt_bind (Tt_mono (r_all hw hI hn) ?_)
  intro t ⟨t1, t2, t3, t4⟩
  rw [t1, t2]
  have h2 : t.2.1 150 2 = nI (nw w 2) := by rw [t3 150 (by decide) (by decide), hI.1]; exact hw.2.1.1.1
  refine Tt_mono (r_parts hw.2.1.1.2 (fun e => tt_le hw e n) ha h2 t4) ?_
  intro r ⟨r1, r2, r3, r4⟩
  exact ⟨r1, by rw [r2]; exact t3, r3, r4⟩
theorem c_prt {h c amt : Nat} {I : MI} {L : ML} {w : Nat → Int32} (hw : WF c w) {n : Nat} (ha : amt ≤ 200000000) (hP : PT (fun e => ttN w e n) (nw w 2) I) : Tt (f_X6_divide (nL amt) I L) (fun r => r.1 = I ∧ (∀ q, q ≠ 8 → q ≠ 10 → r.2 q = L q) ∧ r.2 8 4 = nL (chN (fun e => ttN w e n) (nw w 2) amt) ∧ ∀ e, e < nw w 2 → r.2 10 e = nL (shN (fun e => ttN w e n) (nw w 2) amt e)) :=
  c_divide hw.2.1.1.2 (fun e => tt_le hw e n) ha hP
theorem CI_s {h d : Nat} {I J : MI} {L M : ML} {A : AS} (hd : HD h d) (cj : CJ h d I L A) (hI : ∀ q, ¬ scr h d q → J q = I q) (hL : ∀ q, ¬ scr h d q → M q = L q) : CI9 J M A := ⟨h, d, hd, CJ_cg hd (fun q _ hs => hI q hs) (fun q _ hs => hL q hs) cj⟩
theorem CpS {T : Type} {hs : List String} {h d : Nat} {I J : MI} {L M : ML} {A : AS} {v : T} (hd : HD h d) (cj : CJ h d I L A) (hI : ∀ q, ¬ scr h d q → J q = I q) (hL : ∀ q, ¬ scr h d q → M q = L q) : CpX hs I A (.inr v) (.inr v, J, M) := ⟨rfl, CI_s hd cj hI hL, fun q hq => hI q (fun h9 => by unfold scr at h9; unfold HD at hd; omega)⟩
theorem CpSD {T : Type} {h d : Nat} {I J : MI} {L M : ML} {A : AS} {v : T} (hd : HD h d) (cj : CJ h d I L A) (hI : ∀ q, ¬ scr h d q → J q = I q) (hL : ∀ q, ¬ scr h d q → M q = L q) : CpD I A v (v, J, M) := ⟨rfl, CI_s hd cj hI hL, fun q hq => hI q (fun h9 => by unfold scr at h9; unfold HD at hd; omega)⟩
-- ===== title
theorem C_title {c : Nat} {I : MI} {L : ML} {A : AS} (hc6 : c ≤ 600) (hA : AI c A) (hC : CI9 I L A) (hR : RI9 I L A) (x y : Int32) : ∃ I' L', SI [IOB] (f_X11_title x y I L) (f_X12_title x y) I' L' ∧ CI9 I' L' A ∧ RI9 I' L' A := by
  obtain ⟨h, d, hd, cj⟩ := id hC
  obtain ⟨e, cr, e0, e2, e3⟩ := C_n hA cj
  obtain ⟨b1, -⟩ := HD_b hd
  have h6 := AI_h hA
  have h12 := AI_n hA
  by_cases hx : ∃ k, k < nw A.1 2 ∧ x = nI k
  · obtain ⟨q, hq, rfl⟩ := hx
    by_cases hy : ∃ k, k < nw A.1 3 ∧ y = nI k
    · obtain ⟨n, hn, rfl⟩ := hy
      refine mkSI (res := .inr (nI (ttN A.1 q n))) hR ?_ ?_
      · simp -implicitDefEqProofs only [f_X11_title, c_needHeir_t hd e e2 h6 hq, c_needNoise_t hd e e3 h12 hn, Option.bind_some, xc_r, hs_h hd e]
        refine Tt_bind (Tt_mono (c_weigh hc6 hA.1 cr b1 hn) ?_)
        intro t ⟨t1, t2, _, _, t3⟩
        rw [ldI_n (show q < 6 by omega) (by decide), Option.bind_some, t3 q hq]
        exact Tt_some (CpS hd cj (fun j hj => t2 j (fun h9 => hj (by unfold scr; omega)) (fun h9 => hj (by unfold scr; omega)) (fun h9 => hj (by unfold scr; omega))) (fun j hj => by rw [t1]))
      · intro I' L' hR'
        simp -implicitDefEqProofs only [f_X12_title, f_X12_title_27, pf0, Option.bind_some, r_noHeir_t (R_2 hA hR') h6 hq, r_noNoise_t (R_3 hA hR') h12 hn, r_thr_f, bft, if_false]
        refine Tt_bind (Tt_mono (r_sp hA.1 (R_w hR')) ?_)
        intro s ⟨s1, s2, s3⟩
        rw [s1]
        refine Tt_bind (Tt_mono (r_title hA.1 s3 hq hn) ?_)
        intro t ⟨t1, t2, t3⟩
        rw [t1, t2]
        exact Tt_some (Rp_q hR' (scR_tr (scR_156 s2) ⟨fun j _ h2 _ => t3 j h2, fun _ _ => rfl⟩))
    · refine mkSI (res := .inl 1) hR ?_ ?_
      · simp -implicitDefEqProofs only [f_X11_title, c_needHeir_t hd e e2 h6 hq, c_needNoise_f hd e e3 h12 (no_ex hy), Option.bind_some, xc_r, xc_l]
        exact Tt_some (Cp_t hC (wk_1 (by decide)))
      · intro I' L' hR'
        simp -implicitDefEqProofs only [f_X12_title, f_X12_title_22, f_X12_title_27, pf0, Option.bind_some, r_noHeir_t (R_2 hA hR') h6 hq, r_noNoise_f (R_3 hA hR') h12 (no_ex hy), r_thr_t, bft, if_false, if_true]
        exact Tt_some (Rp_t hR' (by decide))
  · refine mkSI (res := .inl 1) hR ?_ ?_
    · simp -implicitDefEqProofs only [f_X11_title, c_needHeir_f hd e e2 h6 (no_ex hx), Option.bind_some, xc_l]
      exact Tt_some (Cp_t hC (wk_1 (by decide)))
    · intro I' L' hR'
      simp -implicitDefEqProofs only [f_X12_title, f_X12_title_22, f_X12_title_27, pf0, Option.bind_some, r_noHeir_f (R_2 hA hR') h6 (no_ex hx), r_thr_t, if_true]
      exact Tt_some (Rp_t hR' (by decide))
-- ===== part
theorem sh_le {t : Nat → Nat} {m amt e : Nat} (he : e < m) : shN t m amt e ≤ amt + 1 := by
  have := q_le (t := t) (amt := amt) he
  unfold shN; split <;> omega
theorem ch_le {t : Nat → Nat} {m amt : Nat} : chN t m amt ≤ amt := by unfold chN; split <;> omega
theorem C_part {c : Nat} {I : MI} {L : ML} {A : AS} (hc6 : c ≤ 600) (hA : AI c A) (hC : CI9 I L A) (hR : RI9 I L A) (x y z : Int32) : ∃ I' L', SI [IOB, IAE] (f_X11_part x y z I L) (f_X12_part x y z) I' L' ∧ CI9 I' L' A ∧ RI9 I' L' A := by
  obtain ⟨h, d, hd, cj⟩ := id hC
  obtain ⟨e, cr, e0, e2, e3⟩ := C_n hA cj
  obtain ⟨b1, -⟩ := HD_b hd
  have h6 := AI_h hA
  have h12 := AI_n hA
  by_cases hx : x = -1 ∨ ∃ k, k < nw A.1 2 ∧ x = nI k
  · have cx : f_X11_part x y z I L = f_X11_part_10 x y z I L := by
      unfold f_X11_part
      rcases hx with rfl | ⟨q, hq, rfl⟩
      · rw [if_pos rfl]
      · rw [if_neg (nI_ne (by omega)), c_needHeir_t hd e e2 h6 hq, Option.bind_some, xc_r]
    have rx : ∀ {I' : MI} {L' : ML}, RI9 I' L' A → f_X12_part x y z I' L' = f_X12_part_19 x y z (th0 I') L' := by
      intro I' L' hR'
      unfold f_X12_part
      rw [pf0, Option.bind_some]
      rcases hx with rfl | ⟨q, hq, rfl⟩
      · rw [if_pos rfl]
      · rw [if_neg (nI_ne (by omega)), r_noHeir_t (R_2 hA hR') h6 hq, Option.bind_some, if_neg (by decide)]
    by_cases hy : ∃ k, k < nw A.1 3 ∧ y = nI k
    · obtain ⟨n, hn, rfl⟩ := hy
      by_cases hz : ¬ z < 0 ∧ ¬ 99999 < z
      · obtain ⟨a, -, ha, rfl⟩ := rng_t (a := 0) (b := 99999) (by decide) (by decide) hz
        have hch := ch_le (t := fun e => ttN A.1 e n) (m := nw A.1 2) (amt := a)
        refine mkSI (res := .inr (if x = -1 then nI (chN (fun e => ttN A.1 e n) (nw A.1 2) a) else nI (shN (fun e => ttN A.1 e n) (nw A.1 2) a x.toNatClampNeg))) hR ?_ ?_
        · rw [cx]
          simp -implicitDefEqProofs only [f_X11_part_10, f_X11_part_30, c_needNoise_t hd e e3 h12 hn, ite2_t hz, c_need_t, Option.bind_some, xc_r, hs_h hd e]
          refine Tt_bind (Tt_mono (c_weigh hc6 hA.1 cr b1 hn) ?_)
          intro t ⟨t1, t2, t3⟩
          rw [t1, zL_i (by omega)]
          refine Tt_bind (Tt_mono (c_prt (h := h) hA.1 (by omega) t3) ?_)
          intro u ⟨u1, u2, u3, u4⟩
          have fin9 : ∀ v : Int32, CpX [IOB, IAE] I A (.inr v) (.inr v, u.1, u.2) := fun v => by
            rw [u1]
            exact CpS hd cj (fun j hj => t2 j (fun h9 => hj (by unfold scr; omega)) (fun h9 => hj (by unfold scr; omega)) (fun h9 => hj (by unfold scr; omega))) (fun j hj => u2 j (fun h9 => hj (by unfold scr; omega)) (fun h9 => hj (by unfold scr; omega)))
          unfold f_X11_part_78
          rcases hx with rfl | ⟨q, hq, rfl⟩
          · rw [if_pos rfl, if_pos rfl, u3, zL_32 (by omega)]
            exact Tt_some (fin9 _)
          · have hsh := sh_le (t := fun e => ttN A.1 e n) (amt := a) hq
            rw [if_neg (nI_ne (by omega)), if_neg (nI_ne (by omega)), ldL_n (show q < 6 by omega) (by decide), Option.bind_some, u4 q hq, zL_32 (by omega), zI_cl (by omega)]
            exact Tt_some (fin9 _)
        · intro I' L' hR'
          rw [rx hR']
          simp -implicitDefEqProofs only [f_X12_part_19, f_X12_part_32, f_X12_part_56, Option.bind_some, r_noNoise_t (R_3 hA hR') h12 hn, r_thr_f, bft, if_false, r_in, decide_eq_true hz, if_true]
          refine Tt_bind (Tt_mono (r_sp hA.1 (R_w hR')) ?_)
          intro s ⟨s1, s2, s3⟩
          rw [s1, zL_i (by omega)]
          refine Tt_bind (Tt_mono (r_prt hA.1 s3 hn (show a ≤ 200000000 by omega)) ?_)
          intro u ⟨u1, u2, u3, u4⟩
          have fin9 : ∀ v : Int32, RpX I' L' A (.inr v) (v, u.2.1, u.2.2) := fun v => Rp_q hR' (scR_tr (scR_156 s2) ⟨fun j _ h2 h3 => u2 j h2 h3, u3⟩)
          unfold f_X12_part_94
          rcases hx with rfl | ⟨q, hq, rfl⟩
          · rw [if_pos rfl, if_pos rfl, u1, zL_32 (by omega)]
            exact Tt_some (fin9 _)
          · have hsh := sh_le (t := fun e => ttN A.1 e n) (amt := a) hq
            rw [if_neg (nI_ne (by omega)), if_neg (nI_ne (by omega)), ldL_n (show q < 6 by omega) (by decide), Option.bind_some, u4 q hq, zL_32 (by omega), zI_cl (by omega)]
            exact Tt_some (fin9 _)
      · refine mkSI (res := .inl 2) hR ?_ ?_
        · rw [cx]
          simp -implicitDefEqProofs only [f_X11_part_10, f_X11_part_29, f_X11_part_30, c_needNoise_t hd e e3 h12 hn, ite2_f hz, c_need_f, Option.bind_some, xc_r, xc_l]
          exact Tt_some (Cp_t hC (wk_2 (by decide)))
        · intro I' L' hR'
          rw [rx hR']
          simp -implicitDefEqProofs only [f_X12_part_19, f_X12_part_32, f_X12_part_56, f_X12_part_63, Option.bind_some, r_noNoise_t (R_3 hA hR') h12 hn, r_thr_f, bft, if_false, r_in, decide_eq_false hz, r_thr_t, if_true]
          exact Tt_some (Rp_t hR' (by decide))
    · refine mkSI (res := .inl 1) hR ?_ ?_
      · rw [cx]
        simp -implicitDefEqProofs only [f_X11_part_10, c_needNoise_f hd e e3 h12 (no_ex hy), Option.bind_some, xc_l]
        exact Tt_some (Cp_t hC (wk_1 (by decide)))
      · intro I' L' hR'
        rw [rx hR']
        simp -implicitDefEqProofs only [f_X12_part_19, f_X12_part_27, f_X12_part_32, f_X12_part_63, Option.bind_some, r_noNoise_f (R_3 hA hR') h12 (no_ex hy), r_thr_t, if_true]
        exact Tt_some (Rp_t hR' (by decide))
  · have hx1 : x ≠ -1 := fun h => hx (Or.inl h)
    have hx2 : ∀ k, k < nw A.1 2 → x ≠ nI k := fun k hk h => hx (Or.inr ⟨k, hk, h⟩)
    refine mkSI (res := .inl 1) hR ?_ ?_
    · unfold f_X11_part
      rw [if_neg hx1, c_needHeir_f hd e e2 h6 hx2, Option.bind_some, xc_l]
      exact Tt_some (Cp_t hC (wk_1 (by decide)))
    · intro I' L' hR'
      unfold f_X12_part
      rw [pf0, Option.bind_some, if_neg hx1, r_noHeir_f (R_2 hA hR') h6 hx2, Option.bind_some, if_pos rfl]
      unfold f_X12_part_27 f_X12_part_32 f_X12_part_63
      rw [r_thr_t, Option.bind_some, if_pos rfl]
      exact Tt_some (Rp_t hR' (by decide))
-- ===== the greatest of a row
def arg (f : Nat → Nat) : Nat → Option (Nat × Nat)
  | 0 => none
  | k + 1 => match arg f k with
    | none => some (k, f k)
    | some p => if f k ≤ p.2 then some p else some (k, f k)
def aB : Option (Nat × Nat) → Int32
  | none => -1
  | some p => nI p.1
def aC : Option (Nat × Nat) → Int64
  | none => -1
  | some p => nL p.2
def aR : Option (Nat × Nat) → Int64
  | none => 0
  | some p => nL p.2
theorem arg_n {f : Nat → Nat} {k : Nat} (h : arg f k = none) : arg f (k + 1) = some (k, f k) := by
  show (match arg f k with | none => some (k, f k) | some p => if f k ≤ p.2 then some p else some (k, f k)) = _
  rw [h]
theorem arg_s {f : Nat → Nat} {k : Nat} {p : Nat × Nat} (h : arg f k = some p) : arg f (k + 1) = if f k ≤ p.2 then some p else some (k, f k) := by
  show (match arg f k with | none => some (k, f k) | some p => if f k ≤ p.2 then some p else some (k, f k)) = _
  rw [h]
theorem arg_lt {f : Nat → Nat} : ∀ {k : Nat} {p : Nat × Nat}, arg f k = some p → p.1 < k ∧ p.2 = f p.1 := by
  intro k
  induction k with
  | zero => intro p h; cases h
  | succ k ih =>
    intro p h
    cases ha : arg f k with
    | none => rw [arg_n ha] at h; cases h; exact ⟨Nat.lt_succ_self _, rfl⟩
    | some q =>
      rw [arg_s ha] at h
      have := ih ha
      split at h
      · cases h; exact ⟨by omega, this.2⟩
      · cases h; exact ⟨Nat.lt_succ_self _, rfl⟩
theorem nL_m1 {a : Nat} (h : a < 2 ^ 63) : ¬ nL a ≤ -1 := by
  rw [Int64.le_iff_toInt_le, zL_ti h, show (-1 : Int64).toInt = -1 by decide]; omega
/-- the class's step: strictly more than the most so far -/
theorem arg_c {T : Type} {f : Nat → Nat} {k : Nat} (F : Int32 → Int64 → T) (hf : ∀ j, j ≤ k → f j < 2 ^ 63) : (if nL (f k) ≤ aC (arg f k) then F (aB (arg f k)) (aC (arg f k)) else F (nI k) (nL (f k))) = F (aB (arg f (k + 1))) (aC (arg f (k + 1))) := by
  cases ha : arg f k with
  | none => rw [arg_n ha]; exact if_neg (nL_m1 (hf k (Nat.le_refl _)))
  | some p =>
    obtain ⟨p1, p2⟩ := arg_lt ha
    have h9 : p.2 < 2 ^ 63 := by rw [p2]; exact hf _ (by omega)
    rw [arg_s ha]
    by_cases h : f k ≤ p.2
    · rw [if_pos h]; exact if_pos ((zL_le (hf k (Nat.le_refl _)) h9).mpr h)
    · rw [if_neg h]; exact if_neg (fun h8 => h ((zL_le (hf k (Nat.le_refl _)) h9).mp h8))
/-- the reference's: the first, or strictly more -/
theorem arg_r {T : Type} {f : Nat → Nat} {k : Nat} (F : Int32 → Int64 → T) (hk : k < 2 ^ 31) (hf : ∀ j, j ≤ k → f j < 2 ^ 63) : (if aB (arg f k) < 0 then F (nI k) (nL (f k)) else (if aR (arg f k) < nL (f k) then F (nI k) (nL (f k)) else F (aB (arg f k)) (aR (arg f k)))) = F (aB (arg f (k + 1))) (aR (arg f (k + 1))) := by
  cases ha : arg f k with
  | none => rw [arg_n ha]; exact if_pos (by decide)
  | some p =>
    obtain ⟨p1, p2⟩ := arg_lt ha
    have h9 : p.2 < 2 ^ 63 := by rw [p2]; exact hf _ (by omega)
    rw [arg_s ha]
    show (if nI p.1 < 0 then _ else (if nL p.2 < nL (f k) then _ else F (nI p.1) (nL p.2))) = _
    rw [if_neg (zI_nn (by omega))]
    by_cases h : f k ≤ p.2
    · rw [if_pos h]; exact if_neg (by rw [zL_lt h9 (hf k (Nat.le_refl _))]; omega)
    · rw [if_neg h]; exact if_pos (by rw [zL_lt h9 (hf k (Nat.le_refl _))]; omega)
-- ===== value
noncomputable def vlN (w : Nat → Int32) (q : Nat) : Nat → Nat
  | 0 => 0
  | k + 1 => vlN w q k + shN (fun e => ttN w e k) (nw w 2) (dueN w k 100) q
theorem vl_le {w : Nat → Int32} {c : Nat} (hw : WF c w) {q : Nat} (hq : q < nw w 2) : ∀ k, k ≤ nw w 3 → vlN w q k ≤ 124740001 * k := by
  intro k
  induction k with
  | zero => intro _; exact Nat.le_refl _
  | succ k ih =>
    intro hk
    have h1 := ih (by omega)
    have h2 := sh_le (t := fun e => ttN w e k) (amt := dueN w k 100) hq
    have h3 := due_le hw (n := k) (d := 100) (by omega) (by decide)
    show vlN w q k + _ ≤ _
    omega
theorem c_worth {h d0 c : Nat} {I : MI} {L : ML} {w : Nat → Int32} (hc6 : c ≤ 600) (hd : HD h d0) (hw : WF c w) (cr : CR h I L w) (e : I 0 4 = nI h) {q : Nat} (hq : q < nw w 2) : Tt (f_X11_worthFor (nI q) I L) (fun t => t.1 = nL (vlN w q (nw w 3)) ∧ (∀ j, ¬ scr h d0 j → t.2.1 j = I j) ∧ ∀ j, ¬ scr h d0 j → t.2.2 j = L j) := by
  obtain ⟨b1, b2, b3, b4, b5⟩ := HD_b hd
  have h6 := hw.2.1.1.2
  have h12 := hw.2.2.1.1.2
  unfold f_X11_worthFor
  refine lp0 (fun fuel k (s : MI × ML) => f_X11_worthFor_5 fuel (nI q) (nL (vlN w q k)) (nI k) s.1 s.2) (nw w 3) (fun k s => (∀ j, ¬ scr h d0 j → s.1 j = I j) ∧ ∀ j, ¬ scr h d0 j → s.2 j = L j) (by omega) ?_ ?_ (s := (I, L)) ⟨fun _ _ => rfl, fun _ _ => rfl⟩
  · intro fuel k s hk ⟨hs1, hs2⟩ hnx
    obtain ⟨J, M⟩ := s
    dsimp only at hs1 hs2
    have eJ : J 0 4 = nI h := by rw [hs1 0 (by unfold scr; omega)]; exact e
    have crJ : CR h J M w := CR_cg (fun k h1 h2 => hs1 _ (by unfold scr; omega)) (hs2 _ (by unfold scr; omega)) cr
    have e3 := C_z3 hw crJ
    have h3 := due_le hw (n := k) (d := 100) hk (by decide)
    show Tt (f_X11_worthFor_5 (fuel + 1) (nI q) (nL (vlN w q k)) (nI k) J M) _
    unfold f_X11_worthFor_5
    simp -implicitDefEqProofs only [hs_h hd eJ, Option.bind_some, e3]
    rw [if_neg (le_n (by omega) (by omega) hk)]
    refine Tt_bind (Tt_mono (c_weigh hc6 hw crJ b1 hk) ?_)
    intro t ⟨t1, t2, t3⟩
    have eT : t.1 0 4 = nI h := by rw [t2 0 (by decide) (by decide) (by omega)]; exact eJ
    have crT : CR h t.1 M w := CR_cg (fun k h1 h2 => t2 _ (by omega) (by omega) (by omega)) rfl crJ
    simp -implicitDefEqProofs only [hs_h hd eT, Option.bind_some, t1]
    rw [ldR_n (show k < 12 by omega) (by decide), Option.bind_some, show f_X3_dueFor h (h + 33 + k) 100 t.1 M = some _ from c_due (d := 100) hw crT hk (by decide), Option.bind_some]
    refine Tt_bind (Tt_mono (c_prt (h := h) hw (by omega) t3) ?_)
    intro u ⟨u1, u2, u3, u4⟩
    rw [ldL_n (show q < 6 by omega) (by decide), Option.bind_some, u4 q hq, zL_add, zI_1 k, u1]
    refine hnx (t.1, u.2) ⟨fun j hj => ?_, fun j hj => ?_⟩
    · show t.1 j = I j
      rw [t2 j (fun h9 => hj (by unfold scr; omega)) (fun h9 => hj (by unfold scr; omega)) (fun h9 => hj (by unfold scr; omega))]; exact hs1 j hj
    · show u.2 j = L j
      rw [u2 j (fun h9 => hj (by unfold scr; omega)) (fun h9 => hj (by unfold scr; omega))]; exact hs2 j hj
  · intro fuel s ⟨hs1, hs2⟩
    obtain ⟨J, M⟩ := s
    dsimp only at hs1 hs2
    have eJ : J 0 4 = nI h := by rw [hs1 0 (by unfold scr; omega)]; exact e
    have crJ : CR h J M w := CR_cg (fun k h1 h2 => hs1 _ (by unfold scr; omega)) (hs2 _ (by unfold scr; omega)) cr
    have e3 := C_z3 hw crJ
    show Tt (f_X11_worthFor_5 (fuel + 1) (nI q) (nL (vlN w q (nw w 3))) (nI (nw w 3)) J M) _
    unfold f_X11_worthFor_5
    rw [hs_h hd eJ, Option.bind_some, e3, if_pos (Int32.le_refl _)]
    exact Tt_some ⟨rfl, hs1, hs2⟩
theorem RW_cg {I J : MI} {w : Nat → Int32} (h : RW I w) (h150 : J 150 = I 150) (h156 : J 156 = I 156) : RW J w := ⟨h150.trans h.1, fun k hk => by rw [h156]; exact h.2 k hk⟩
theorem r_value {c : Nat} {I : MI} {L : ML} {w : Nat → Int32} (hw : WF c w) (hI : RW I w) {q : Nat} (hq : q < nw w 2) : Tt (f_X12_valueOf (nI q) I L) (fun t => t.1 = nL (vlN w q (nw w 3)) ∧ (∀ j, j ≠ 157 → j ≠ 158 → t.2.1 j = I j) ∧ ∀ j, j ≠ 159 → t.2.2 j = L j) := by
  have h6 := hw.2.1.1.2
  have h12 := hw.2.2.1.1.2
  unfold f_X12_valueOf
  refine lp0 (fun fuel k (s : MI × ML) => f_X12_valueOf_5 fuel (nI q) (nL (vlN w q k)) (nI k) s.1 s.2) (nw w 3) (fun k s => (∀ j, j ≠ 157 → j ≠ 158 → s.1 j = I j) ∧ ∀ j, j ≠ 159 → s.2 j = L j) (by omega) ?_ ?_ (s := (I, L)) ⟨fun _ _ _ => rfl, fun _ _ => rfl⟩
  · intro fuel k s hk ⟨hs1, hs2⟩ hnx
    obtain ⟨J, M⟩ := s
    dsimp only at hs1 hs2
    have hJ : RW J w := RW_cg hI (hs1 150 (by decide) (by decide)) (hs1 156 (by decide) (by decide))
    have h3 := due_le hw (n := k) (d := 100) hk (by decide)
    show Tt (f_X12_valueOf_5 (fuel + 1) (nI q) (nL (vlN w q k)) (nI k) J M) _
    unfold f_X12_valueOf_5
    rw [r_n3 hw hJ.1, Option.bind_some, if_neg (le_n (by omega) (by omega) hk), show f_X12_dueOf (nI k) 100 J M = some _ from r_due (d := 100) hw hJ hk (by decide), Option.bind_some]
    refine Tt_bind (Tt_mono (r_prt hw hJ hk (show dueN w k 100 ≤ 200000000 by omega)) ?_)
    intro u ⟨u1, u2, u3, u4⟩
    rw [ldL_n (show q < 6 by omega) (by decide), Option.bind_some, u4 q hq, zL_add, zI_1 k]
    refine hnx (u.2.1, u.2.2) ⟨fun j h1 h2 => ?_, fun j hj => ?_⟩
    · show u.2.1 j = I j
      rw [u2 j h1 h2]; exact hs1 j h1 h2
    · show u.2.2 j = L j
      rw [u3 j hj]; exact hs2 j hj
  · intro fuel s ⟨hs1, hs2⟩
    obtain ⟨J, M⟩ := s
    dsimp only at hs1 hs2
    have hJ : RW J w := RW_cg hI (hs1 150 (by decide) (by decide)) (hs1 156 (by decide) (by decide))
    show Tt (f_X12_valueOf_5 (fuel + 1) (nI q) (nL (vlN w q (nw w 3))) (nI (nw w 3)) J M) _
    unfold f_X12_valueOf_5
    rw [r_n3 hw hJ.1, Option.bind_some, if_pos (Int32.le_refl _)]
    exact Tt_some ⟨rfl, hs1, hs2⟩
theorem C_value {c : Nat} {I : MI} {L : ML} {A : AS} (hc6 : c ≤ 600) (hA : AI c A) (hC : CI9 I L A) (hR : RI9 I L A) (x : Int32) : ∃ I' L', SJ [IOB] (f_X11_value x I L) (f_X12_value x) I' L' ∧ CI9 I' L' A ∧ RI9 I' L' A := by
  obtain ⟨h, d, hd, cj⟩ := id hC
  obtain ⟨e, cr, e0, e2, e3⟩ := C_n hA cj
  have h6 := AI_h hA
  by_cases hx : ∃ k, k < nw A.1 2 ∧ x = nI k
  · obtain ⟨q, hq, rfl⟩ := hx
    refine mkSJ (res := .inr (nL (vlN A.1 q (nw A.1 3)))) hR ?_ ?_
    · simp -implicitDefEqProofs only [f_X11_value, c_needHeir_t hd e e2 h6 hq, Option.bind_some, xc_r]
      refine Tt_bind (Tt_mono (c_worth hc6 hd hA.1 cr e hq) ?_)
      intro t ⟨t1, t2, t3⟩
      rw [t1]
      exact Tt_some (CpS hd cj t2 t3)
    · intro I' L' hR'
      simp -implicitDefEqProofs only [f_X12_value, pf0, Option.bind_some, r_noHeir_t (R_2 hA hR') h6 hq, r_thr_f, bft, if_false]
      refine Tt_bind (Tt_mono (r_sp hA.1 (R_w hR')) ?_)
      intro s ⟨s1, s2, s3⟩
      rw [s1]
      refine Tt_bind (Tt_mono (r_value hA.1 s3 hq) ?_)
      intro t ⟨t1, t2, t3⟩
      rw [t1]
      exact Tt_some (Rp_q hR' (scR_tr (scR_156 s2) ⟨fun j _ h2 h3 => t2 j h2 h3, t3⟩))
  · refine mkSJ (res := .inl 1) hR ?_ ?_
    · simp -implicitDefEqProofs only [f_X11_value, c_needHeir_f hd e e2 h6 (no_ex hx), Option.bind_some, xc_l]
      exact Tt_some (Cp_t hC (wk_1 (by decide)))
    · intro I' L' hR'
      simp -implicitDefEqProofs only [f_X12_value, pf0, Option.bind_some, r_noHeir_f (R_2 hA hR') h6 (no_ex hx), r_thr_t, if_true]
      exact Tt_some (Rp_t hR' (by decide))
-- ===== sale
noncomputable def vA (w : Nat → Int32) (q : Nat) : Nat := vlN w q (nw w 3)
noncomputable def saR (w : Nat → Int32) (b : Bool) : Int64 := if b = true then (if arg (vA w) (nw w 2) = none then -1 else nL (sm (vA w) (nw w 2)) - aC (arg (vA w) (nw w 2))) else (aB (arg (vA w) (nw w 2))).toInt64
theorem c_sale {h d0 c : Nat} {I : MI} {L : ML} {w : Nat → Int32} (hc6 : c ≤ 600) (hd : HD h d0) (hw : WF c w) (cr : CR h I L w) (e : I 0 4 = nI h) (b : Bool) : Tt (f_X11_sale b I L) (fun t => t.1 = saR w b ∧ (∀ j, ¬ scr h d0 j → t.2.1 j = I j) ∧ ∀ j, ¬ scr h d0 j → t.2.2 j = L j) := by
  obtain ⟨b1, b2, b3, b4, b5⟩ := HD_b hd
  have h6 := hw.2.1.1.2
  have h12 := hw.2.2.1.1.2
  have vb : ∀ k, k < nw w 2 → ∀ j, j ≤ k → vA w j < 2 ^ 63 := fun k hk j hj => by
    have h1 := vl_le hw (q := j) (by omega) (nw w 3) (Nat.le_refl _)
    unfold vA; omega
  unfold f_X11_sale
  refine lp0 (fun fuel k (s : MI × ML) => f_X11_sale_12 fuel b (aB (arg (vA w) k)) (aC (arg (vA w) k)) (nL (sm (vA w) k)) (nI k) s.1 s.2) (nw w 2) (fun k s => (∀ j, ¬ scr h d0 j → s.1 j = I j) ∧ ∀ j, ¬ scr h d0 j → s.2 j = L j) (by omega) ?_ ?_ (s := (I, L)) ⟨fun _ _ => rfl, fun _ _ => rfl⟩
  · intro fuel k s hk ⟨hs1, hs2⟩ hnx
    obtain ⟨J, M⟩ := s
    dsimp only at hs1 hs2
    have eJ : J 0 4 = nI h := by rw [hs1 0 (by unfold scr; omega)]; exact e
    have crJ : CR h J M w := CR_cg (fun k h1 h2 => hs1 _ (by unfold scr; omega)) (hs2 _ (by unfold scr; omega)) cr
    have e2 := C_z2 hw crJ
    show Tt (f_X11_sale_12 (fuel + 1) b (aB (arg (vA w) k)) (aC (arg (vA w) k)) (nL (sm (vA w) k)) (nI k) J M) _
    unfold f_X11_sale_12 f_X11_sale_52
    rw [hs_h hd eJ, Option.bind_some, e2, if_neg (le_n (by omega) (by omega) hk)]
    refine Tt_bind (Tt_mono (c_worth hc6 hd hw crJ eJ hk) ?_)
    intro t ⟨t1, t2, t3⟩
    rw [t1, zL_add, zI_1 k]
    rw [show vlN w k (nw w 3) = vA w k from rfl]
    rw [arg_c (f := vA w) (k := k) (fun a m => f_X11_sale_12 fuel b a m (nL (sm (vA w) k + vA w k)) (nI (k + 1)) t.2.1 t.2.2) (vb k hk)]
    exact hnx (t.2.1, t.2.2) ⟨fun j hj => (t2 j hj).trans (hs1 j hj), fun j hj => (t3 j hj).trans (hs2 j hj)⟩
  · intro fuel s ⟨hs1, hs2⟩
    obtain ⟨J, M⟩ := s
    dsimp only at hs1 hs2
    have eJ : J 0 4 = nI h := by rw [hs1 0 (by unfold scr; omega)]; exact e
    have crJ : CR h J M w := CR_cg (fun k h1 h2 => hs1 _ (by unfold scr; omega)) (hs2 _ (by unfold scr; omega)) cr
    have e2 := C_z2 hw crJ
    show Tt (f_X11_sale_12 (fuel + 1) b (aB (arg (vA w) (nw w 2))) (aC (arg (vA w) (nw w 2))) (nL (sm (vA w) (nw w 2))) (nI (nw w 2)) J M) _
    unfold f_X11_sale_12 f_X11_sale_74 f_X11_sale_76
    rw [hs_h hd eJ, Option.bind_some, e2, if_pos (Int32.le_refl _)]
    unfold saR
    by_cases hb : b = true
    · rw [if_pos hb, if_pos hb]
      cases ha : arg (vA w) (nw w 2) with
      | none =>
        rw [if_pos (show aB none = -1 from rfl), if_pos rfl]
        exact Tt_some ⟨by show (aB none).toInt64 = -1; decide, hs1, hs2⟩
      | some p =>
        obtain ⟨p1, -⟩ := arg_lt ha
        rw [if_neg (show ¬ aB (some p) = -1 from nI_ne (by omega)), if_neg (by intro h9; cases h9)]
        exact Tt_some ⟨rfl, hs1, hs2⟩
    · rw [if_neg hb, if_neg hb]
      exact Tt_some ⟨rfl, hs1, hs2⟩
theorem r_sale {c : Nat} {I : MI} {L : ML} {w : Nat → Int32} (hw : WF c w) (hI : RW I w) (b : Bool) : Tt (f_X12_sale_19 FU b (-1) 0 0 0 I L) (fun t => t.1 = saR w b ∧ (∀ j, j ≠ 157 → j ≠ 158 → t.2.1 j = I j) ∧ ∀ j, j ≠ 159 → t.2.2 j = L j) := by
  have h6 := hw.2.1.1.2
  have h12 := hw.2.2.1.1.2
  have vb : ∀ k, k < nw w 2 → ∀ j, j ≤ k → vA w j < 2 ^ 63 := fun k hk j hj => by
    have h1 := vl_le hw (q := j) (by omega) (nw w 3) (Nat.le_refl _)
    unfold vA; omega
  refine lp0 (fun fuel k (s : MI × ML) => f_X12_sale_19 fuel b (aB (arg (vA w) k)) (aR (arg (vA w) k)) (nL (sm (vA w) k)) (nI k) s.1 s.2) (nw w 2) (fun k s => (∀ j, j ≠ 157 → j ≠ 158 → s.1 j = I j) ∧ ∀ j, j ≠ 159 → s.2 j = L j) (by omega) ?_ ?_ (s := (I, L)) ⟨fun _ _ _ => rfl, fun _ _ => rfl⟩
  · intro fuel k s hk ⟨hs1, hs2⟩ hnx
    obtain ⟨J, M⟩ := s
    dsimp only at hs1 hs2
    have hJ : RW J w := RW_cg hI (hs1 150 (by decide) (by decide)) (hs1 156 (by decide) (by decide))
    show Tt (f_X12_sale_19 (fuel + 1) b (aB (arg (vA w) k)) (aR (arg (vA w) k)) (nL (sm (vA w) k)) (nI k) J M) _
    unfold f_X12_sale_19 f_X12_sale_57 f_X12_sale_63
    rw [r_n2 hw hJ.1, Option.bind_some, if_neg (le_n (by omega) (by omega) hk)]
    refine Tt_bind (Tt_mono (r_value hw hJ hk) ?_)
    intro t ⟨t1, t2, t3⟩
    rw [t1, zL_add, zI_1 k]
    rw [show vlN w k (nw w 3) = vA w k from rfl]
    rw [arg_r (f := vA w) (k := k) (fun a m => f_X12_sale_19 fuel b a m (nL (sm (vA w) k + vA w k)) (nI (k + 1)) t.2.1 t.2.2) (by omega) (vb k hk)]
    exact hnx (t.2.1, t.2.2) ⟨fun j h1 h2 => (t2 j h1 h2).trans (hs1 j h1 h2), fun j hj => (t3 j hj).trans (hs2 j hj)⟩
  · intro fuel s ⟨hs1, hs2⟩
    obtain ⟨J, M⟩ := s
    dsimp only at hs1 hs2
    have hJ : RW J w := RW_cg hI (hs1 150 (by decide) (by decide)) (hs1 156 (by decide) (by decide))
    show Tt (f_X12_sale_19 (fuel + 1) b (aB (arg (vA w) (nw w 2))) (aR (arg (vA w) (nw w 2))) (nL (sm (vA w) (nw w 2))) (nI (nw w 2)) J M) _
    unfold f_X12_sale_19 f_X12_sale_77 f_X12_sale_86
    rw [r_n2 hw hJ.1, Option.bind_some, if_pos (Int32.le_refl _)]
    unfold saR
    cases ha : arg (vA w) (nw w 2) with
    | none =>
      rw [if_pos (show aB none < 0 by decide), if_pos (show (none : Option (Nat × Nat)) = none from rfl)]
      refine Tt_some ⟨?_, hs1, hs2⟩
      show (aB none).toInt64 = _
      cases b <;> decide
    | some p =>
      obtain ⟨p1, -⟩ := arg_lt ha
      rw [if_neg (show ¬ aB (some p) < 0 from zI_nn (by omega)), if_neg (show ¬ some p = none by intro h9; cases h9)]
      by_cases hb : b = true
      · rw [if_pos hb, if_pos hb]
        exact Tt_some ⟨rfl, hs1, hs2⟩
      · rw [if_neg hb, if_neg hb]
        exact Tt_some ⟨rfl, hs1, hs2⟩
theorem C_sale {c : Nat} {I : MI} {L : ML} {A : AS} (hc6 : c ≤ 600) (hA : AI c A) (hC : CI9 I L A) (hR : RI9 I L A) (b : Bool) : ∃ I' L', SD (f_X11_sale b I L) (f_X12_sale b) I' L' ∧ CI9 I' L' A ∧ RI9 I' L' A := by
  obtain ⟨h, d, hd, cj⟩ := id hC
  obtain ⟨e, cr, e0, e2, e3⟩ := C_n hA cj
  refine mkSD (v := saR A.1 b) hR ?_ ?_
  · refine Tt_mono (c_sale hc6 hd hA.1 cr e b) ?_
    intro t ⟨t1, t2, t3⟩
    have := CpSD (v := saR A.1 b) hd cj t2 t3
    exact ⟨t1, this.2⟩
  · intro I' L' hR'
    unfold f_X12_sale
    rw [pf0, Option.bind_some]
    refine Tt_bind (Tt_mono (r_sp hA.1 (R_w hR')) ?_)
    intro s ⟨s1, s2, s3⟩
    rw [s1]
    refine Tt_mono (r_sale hA.1 s3 b) ?_
    intro t ⟨t1, t2, t3⟩
    have := Rp_d (v := saR A.1 b) hR' (scR_tr (scR_156 (L := L') s2) (K := t.2.1) (N := t.2.2) ⟨fun j _ h2 h3 => t2 j h2 h3, t3⟩)
    exact ⟨t1, this.2⟩
