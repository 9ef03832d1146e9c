-- ===== seat
noncomputable def gnT (w : Nat → Int32) (q r k : Nat) : Nat := if sm (fun e => ttN w e k) (nw w 2) = 0 ∨ atN w k r < nw w (67 + 3 * q + 1) then 0 else wnN w k 1 * nw w (85 + 10 * k + 4) * ttN w q k / sm (fun e => ttN w e k) (nw w 2)
noncomputable def gnN (w : Nat → Int32) (q r : Nat) : Nat → Nat
  | 0 => 0
  | k + 1 => gnN w q r k + gnT w q r k
theorem gn_bd {w : Nat → Int32} {c : Nat} (hw : WF c w) {q k : Nat} (hk : k < nw w 3) : wnN w k 1 * nw w (85 + 10 * k + 4) * ttN w q k ≤ 1495383120000 := by
  have h1 := wn_le hw (n := k) (d := 1) hk (by decide)
  have h4 := (hw.2.2.1.2 k hk).2.2.2.2.1.2
  have h3 := tt_le hw q k
  exact Nat.le_trans (Nat.mul_le_mul (Nat.mul_le_mul h1 h4) h3) (by decide)
theorem gn_le {w : Nat → Int32} {c : Nat} (hw : WF c w) {q r : Nat} : ∀ k, k ≤ nw w 3 → gnN w q r k ≤ 1495383120000 * k := by
  intro k
  induction k with
  | zero => intro _; exact Nat.le_refl _
  | succ k ih =>
    intro hk
    have h1 := ih (by omega)
    have h2 := gn_bd hw (q := q) (k := k) (by omega)
    have h3 : gnT w q r k ≤ 1495383120000 := by
      unfold gnT
      split
      · omega
      · exact Nat.le_trans (Nat.div_le_self _ _) h2
    show gnN w q r k + gnT w q r k ≤ _
    omega
theorem c_gain {h d0 c : Nat} {I : MI} {L : ML} {w : Nat → Int32} (hc6 : c ≤ 600) (hd : HD h d0) (hw : WF c w) (cr : CR h I L w) (e : I 0 4 = nI h) {q r : Nat} (hq : q < nw w 2) (hr : r < nw w 0) : Tt (f_X11_gainIn (nI q) (nI r) I L) (fun t => t.1 = nL (gnN w q r (nw w 3)) ∧ (∀ j, ¬ scr h d0 j → t.2.1 j = I j) ∧ ∀ j, ¬ scr h d0 j → t.2.2 j = L j) := by
  obtain ⟨b1, b2, b3, b4, b5⟩ := HD_b hd
  have h6 := hw.2.1.1.2
  have h12 := hw.2.2.1.1.2
  have ear := (hw.2.1.2 q hq).2.1
  have ear1 := ear.1
  have ear2 := ear.2
  unfold f_X11_gainIn
  refine lp0 (fun fuel k (s : MI × ML) => f_X11_gainIn_5 fuel (nI q) (nI r) (nL (gnN w q r k)) (nI k) s.1 s.2) (nw w 3) (fun k s => (∀ j, ¬ scr h d0 j → s.1 j = I j) ∧ ∀ j, ¬ scr h d0 j → s.2 j = L j) (by omega) ?_ ?_ (s := (I, L)) ⟨fun _ _ => rfl, fun _ _ => rfl⟩
  · intro fuel k s hk ⟨hs1, hs2⟩ hnx
    obtain ⟨J, M⟩ := s
    dsimp only at hs1 hs2
    have eJ : J 0 4 = nI h := by rw [hs1 0 (by unfold scr; omega)]; exact e
    have crJ : CR h J M w := CR_cg (fun k h1 h2 => hs1 _ (by unfold scr; omega)) (hs2 _ (by unfold scr; omega)) cr
    have e3 := C_z3 hw crJ
    have hat := at_le hw.2.2.1 (r := r) hk
    obtain ⟨-, m1, -⟩ := crJ.2.1.2 q (by omega)
    show Tt (f_X11_gainIn_5 (fuel + 1) (nI q) (nI r) (nL (gnN w q r k)) (nI k) J M) _
    unfold f_X11_gainIn_5 f_X11_gainIn_117
    simp -implicitDefEqProofs only [hs_h hd eJ, Option.bind_some, e3]
    rw [if_neg (le_n (by omega) (by omega) hk), ldR_n (show k < 12 by omega) (by decide), Option.bind_some, c_at hw crJ hk hr, Option.bind_some, ldR_n (show q < 6 by omega) (by decide), Option.bind_some, m1, ear1, zI_1 k]
    by_cases h1 : atN w k r < nw w (67 + 3 * q + 1)
    · have g0 : gnN w q r (k + 1) = gnN w q r k := by
        show gnN w q r k + gnT w q r k = _
        unfold gnT; rw [if_pos (Or.inr h1), Nat.add_zero]
      rw [if_pos ((zI_lt (by omega) (by omega)).mpr h1), ← g0]
      exact hnx (J, M) ⟨hs1, hs2⟩
    · rw [if_neg (fun h => h1 ((zI_lt (by omega) (by omega)).mp h))]
      refine Tt_bind (Tt_mono (c_weigh hc6 hw crJ b1 hk) ?_)
      intro t ⟨t1, t2, t3⟩
      have hS := sm_le (t := fun e => ttN w e k) (fun e => tt_le hw e k) (nw w 2)
      have nx := hnx (t.1, M) ⟨fun j hj => by
        show t.1 j = I j
        rw [t2 j (fun h9 => hj (by unfold scr; omega)) (fun h9 => hj (by unfold scr; omega)) (fun h9 => hj (by unfold scr; omega))]; exact hs1 j hj, hs2⟩
      have eT : t.1 0 4 = nI h := by rw [t2 0 (by decide) (by decide) (by omega)]; exact eJ
      have crT : CR h t.1 M w := CR_cg (fun k h1 h2 => t2 _ (by omega) (by omega) (by omega)) rfl crJ
      rw [t3.2.1, t1]
      by_cases h2 : sm (fun e => ttN w e k) (nw w 2) = 0
      · have g0 : gnN w q r (k + 1) = gnN w q r k := by
          show gnN w q r k + gnT w q r k = _
          unfold gnT; rw [if_pos (Or.inl h2), Nat.add_zero]
        rw [if_pos (by rw [zI_0, zI_le (by omega) (by decide)]; omega), ← g0]
        exact nx
      · have k4 := (hw.2.2.1.2 k hk).2.2.2.2.1
        have k41 := k4.1
        have k42 := k4.2
        have htq := tt_le hw q k
        have hbd := gn_bd hw (q := q) hk
        obtain ⟨-, -, -, -, -, n5, -⟩ := (crT.2.2.1.2 k (by omega)).1 hk
        have g0 : gnN w q r (k + 1) = gnN w q r k + wnN w k 1 * nw w (85 + 10 * k + 4) * ttN w q k / sm (fun e => ttN w e k) (nw w 2) := by
          show gnN w q r k + gnT w q r k = _
          unfold gnT; rw [if_neg (fun h => h.elim h2 h1)]
        rw [if_neg (by rw [zI_0, zI_le (by omega) (by decide)]; omega), hs_h hd eT, Option.bind_some, show f_X3_winter h (h + 33 + k) 1 t.1 M = some _ from c_winter (d := 1) hw crT hk (by decide), Option.bind_some, ldI_n (show q < 6 by omega) (by decide), Option.bind_some, show t.1 9 q = nI (ttN w q k) from t3.2.2 q hq, n5, k41, zL_i (by omega), zL_mul, zL_i (by omega), zL_mul, zL_i (by omega), dvL_n h2 (by omega), Option.bind_some, zL_div (by omega) (by omega), zL_add, ← g0]
        exact nx
  · intro fuel s ⟨hs1, hs2⟩
    obtain ⟨J, M⟩ := s
    dsimp only at hs1 hs2
    have eJ : J 0 4 = nI h := by rw [hs1 0 (by unfold scr; omega)]; exact e
    have crJ : CR h J M w := CR_cg (fun k h1 h2 => hs1 _ (by unfold scr; omega)) (hs2 _ (by unfold scr; omega)) cr
    have e3 := C_z3 hw crJ
    show Tt (f_X11_gainIn_5 (fuel + 1) (nI q) (nI r) (nL (gnN w q r (nw w 3))) (nI (nw w 3)) J M) _
    unfold f_X11_gainIn_5
    rw [hs_h hd eJ, Option.bind_some, e3, if_pos (Int32.le_refl _)]
    exact Tt_some ⟨rfl, hs1, hs2⟩
noncomputable def gA (w : Nat → Int32) (q r : Nat) : Nat := gnN w q r (nw w 3)
theorem gA_b {w : Nat → Int32} {c : Nat} (hw : WF c w) (q j : Nat) : gA w q j < 2 ^ 63 := by
  have h1 := gn_le hw (q := q) (r := j) (nw w 3) (Nat.le_refl _)
  have h12 := hw.2.2.1.1.2
  unfold gA; omega
theorem c_seat {h d0 c : Nat} {I : MI} {L : ML} {w : Nat → Int32} (hc6 : c ≤ 600) (hd : HD h d0) (hw : WF c w) (cr : CR h I L w) (e : I 0 4 = nI h) {q : Nat} (hq : q < nw w 2) : Tt (f_X11_seat_14 FU (nI q) (-1) (-1) 0 I L) (fun t => t.1 = .inr (aB (arg (gA w q) (nw w 0))) ∧ (∀ j, ¬ scr h d0 j → t.2.1 j = I j) ∧ ∀ j, ¬ scr h d0 j → t.2.2 j = L j) := by
  obtain ⟨b1, b2, b3, b4, b5⟩ := HD_b hd
  have h10 := hw.1.1.2
  refine lp0 (fun fuel k (s : MI × ML) => f_X11_seat_14 fuel (nI q) (aB (arg (gA w q) k)) (aC (arg (gA w q) k)) (nI k) s.1 s.2) (nw w 0) (fun k s => (∀ j, ¬ scr h d0 j → s.1 j = I j) ∧ ∀ j, ¬ scr h d0 j → s.2 j = L j) (by omega) ?_ ?_ (s := (I, L)) ⟨fun _ _ => rfl, fun _ _ => rfl⟩
  · intro fuel k s hk ⟨hs1, hs2⟩ hnx
    obtain ⟨J, M⟩ := s
    dsimp only at hs1 hs2
    have eJ : J 0 4 = nI h := by rw [hs1 0 (by unfold scr; omega)]; exact e
    have crJ : CR h J M w := CR_cg (fun k h1 h2 => hs1 _ (by unfold scr; omega)) (hs2 _ (by unfold scr; omega)) cr
    have e0 : J h 0 = nI (nw w 0) := crJ.1.1.trans hw.1.1.1
    show Tt (f_X11_seat_14 (fuel + 1) (nI q) (aB (arg (gA w q) k)) (aC (arg (gA w q) k)) (nI k) J M) _
    unfold f_X11_seat_14 f_X11_seat_48
    rw [hs_h hd eJ, Option.bind_some, e0, if_neg (le_n (by omega) (by omega) hk)]
    refine Tt_bind (Tt_mono (c_gain hc6 hd hw crJ eJ hq hk) ?_)
    intro t ⟨t1, t2, t3⟩
    rw [t1, zI_1 k]
    rw [show gnN w q k (nw w 3) = gA w q k from rfl]
    rw [arg_c (f := gA w q) (k := k) (fun a m => f_X11_seat_14 fuel (nI q) a m (nI (k + 1)) t.2.1 t.2.2) (fun j _ => gA_b hw q j)]
    exact hnx (t.2.1, t.2.2) ⟨fun j hj => (t2 j hj).trans (hs1 j hj), fun j hj => (t3 j hj).trans (hs2 j hj)⟩
  · intro fuel s ⟨hs1, hs2⟩
    obtain ⟨J, M⟩ := s
    dsimp only at hs1 hs2
    have eJ : J 0 4 = nI h := by rw [hs1 0 (by unfold scr; omega)]; exact e
    have crJ : CR h J M w := CR_cg (fun k h1 h2 => hs1 _ (by unfold scr; omega)) (hs2 _ (by unfold scr; omega)) cr
    have e0 : J h 0 = nI (nw w 0) := crJ.1.1.trans hw.1.1.1
    show Tt (f_X11_seat_14 (fuel + 1) (nI q) (aB (arg (gA w q) (nw w 0))) (aC (arg (gA w q) (nw w 0))) (nI (nw w 0)) J M) _
    unfold f_X11_seat_14
    rw [hs_h hd eJ, Option.bind_some, e0, if_pos (Int32.le_refl _)]
    exact Tt_some ⟨rfl, hs1, hs2⟩
theorem r_46 {c : Nat} {I : MI} {L : ML} {w : Nat → Int32} (hw : WF c w) (hI : RW I w) {q r : Nat} (hq : q < nw w 2) (hr : r < 10) {k31 : Int32 → Int32 → Int64 → Int32 → MI → ML → Option (Int32 × MI × ML)} {R : Int32 × MI × ML → Prop} {x2 : Int32} {x3 : Int64}
    (hk : ∀ J : MI, (∀ j, j ≠ 157 → j ≠ 158 → J j = I j) → Tt (if x2 < 0 then k31 (nI q) (nI r) (nL (gA w q r)) (nI (r + 1)) J L else if x3 < nL (gA w q r) then k31 (nI q) (nI r) (nL (gA w q r)) (nI (r + 1)) J L else k31 (nI q) x2 x3 (nI (r + 1)) J L) R) : Tt (f_X12_seat_46 k31 FU (nI q) x2 x3 (nI r) 0 0 I L) R := by
  have h6 := hw.2.1.1.2
  have h12 := hw.2.2.1.1.2
  have ear := (hw.2.1.2 q hq).2.1
  have ear1 := ear.1
  have ear2 := ear.2
  refine lp0 (fun fuel k (s : MI) => f_X12_seat_46 k31 fuel (nI q) x2 x3 (nI r) (nL (gnN w q r k)) (nI k) s L) (nw w 3) (fun k s => ∀ j, j ≠ 157 → j ≠ 158 → s j = I j) (by omega) ?_ ?_ (s := I) (fun _ _ _ => rfl)
  · intro fuel k J hk3 hs hnx
    have hJ : RW J w := RW_cg hI (hs 150 (by decide) (by decide)) (hs 156 (by decide) (by decide))
    have hat := at_le hw.2.2.1 (r := r) hk3
    show Tt (f_X12_seat_46 k31 (fuel + 1) (nI q) x2 x3 (nI r) (nL (gnN w q r k)) (nI k) J L) _
    unfold f_X12_seat_46 f_X12_seat_89 f_X12_seat_120
    rw [r_n3 hw hJ.1, Option.bind_some, if_neg (le_n (by omega) (by omega) hk3)]
    refine Tt_bind (Tt_mono (r_all hw hJ hk3) ?_)
    intro t ⟨t1, t2, t3, t4⟩
    have hT : RW t.2.1 w := RW_cg hJ (t3 150 (by decide) (by decide)) (t3 156 (by decide) (by decide))
    have hS := sm_le (t := fun e => ttN w e k) (fun e => tt_le hw e k) (nw w 2)
    have nx := hnx t.2.1 (fun j h1 h2 => (t3 j h1 h2).trans (hs j h1 h2))
    rw [t1, t2, zI_1 k, r_at hw hT hk3 hr, Option.bind_some, show f_X12_ofHeir (nI q) 1 t.2.1 L = some (w (67 + 3 * q + 1)) from r_hw (k := 1) hT.1 (by omega) (by decide), Option.bind_some, ear1, show (0 : Int64) = nL 0 from rfl, zL_add, Nat.add_zero]
    by_cases h2 : sm (fun e => ttN w e k) (nw w 2) = 0
    · have g0 : gnN w q r (k + 1) = gnN w q r k := by
        show gnN w q r k + gnT w q r k = _
        unfold gnT; rw [if_pos (Or.inl h2), Nat.add_zero]
      rw [if_pos ((zL_eq (by omega) (by decide)).mpr h2), ← g0]
      exact nx
    · rw [if_neg (fun h => h2 ((zL_eq (by omega) (by decide)).mp h))]
      by_cases h1 : atN w k r < nw w (67 + 3 * q + 1)
      · have g0 : gnN w q r (k + 1) = gnN w q r k := by
          show gnN w q r k + gnT w q r k = _
          unfold gnT; rw [if_pos (Or.inr h1), Nat.add_zero]
        rw [if_neg (by rw [zI_le (by omega) (by omega)]; omega), ← g0]
        exact nx
      · have k4 := (hw.2.2.1.2 k hk3).2.2.2.2.1
        have k41 := k4.1
        have k42 := k4.2
        have htq := tt_le hw q k
        have hbd := gn_bd hw (q := q) hk3
        have g0 : gnN w q r (k + 1) = gnN w q r k + wnN w k 1 * nw w (85 + 10 * k + 4) * ttN w q k / sm (fun e => ttN w e k) (nw w 2) := by
          show gnN w q r k + gnT w q r k = _
          unfold gnT; rw [if_neg (fun h => h.elim h2 h1)]
        rw [if_pos (by rw [zI_le (by omega) (by omega)]; omega), show f_X12_winterOf (nI k) 1 t.2.1 L = some _ from r_winter (d := 1) hw hT.1 hk3 (by decide), Option.bind_some, show f_X12_of (nI k) 4 t.2.1 L = some (w (85 + 10 * k + 4)) from r_ofw (k := 4) hT.1 (by omega) (by decide), Option.bind_some, ldI_n (show q < 6 by omega) (by decide), Option.bind_some, t4 q hq, k41, zL_i (by omega), zL_mul, zL_i (by omega), zL_mul, dvL_n h2 (by omega), Option.bind_some, zL_div (by omega) (by omega), zL_add, ← g0]
        exact nx
  · intro fuel J hs
    have hJ : RW J w := RW_cg hI (hs 150 (by decide) (by decide)) (hs 156 (by decide) (by decide))
    show Tt (f_X12_seat_46 k31 (fuel + 1) (nI q) x2 x3 (nI r) (nL (gA w q r)) (nI (nw w 3)) J L) _
    unfold f_X12_seat_46 f_X12_seat_143 f_X12_seat_149
    rw [r_n3 hw hJ.1, Option.bind_some, if_pos (Int32.le_refl _), zI_1 r]
    exact hk J hs
theorem r_seat {c : Nat} {I : MI} {L : ML} {w : Nat → Int32} (hw : WF c w) (hI : RW I w) {q : Nat} (hq : q < nw w 2) : Tt (f_X12_seat_31 FU (nI q) (-1) 0 0 I L) (fun t => t.1 = aB (arg (gA w q) (nw w 0)) ∧ t.2.2 = L ∧ ∀ j, j ≠ 157 → j ≠ 158 → t.2.1 j = I j) := by
  have h10 := hw.1.1.2
  refine lp0 (fun fuel k (s : MI) => f_X12_seat_31 fuel (nI q) (aB (arg (gA w q) k)) (aR (arg (gA w q) k)) (nI k) s L) (nw w 0) (fun k s => ∀ j, j ≠ 157 → j ≠ 158 → s j = I j) (by omega) ?_ ?_ (s := I) (fun _ _ _ => rfl)
  · intro fuel k J hk hs hnx
    have hJ : RW J w := RW_cg hI (hs 150 (by decide) (by decide)) (hs 156 (by decide) (by decide))
    show Tt (f_X12_seat_31 (fuel + 1) (nI q) (aB (arg (gA w q) k)) (aR (arg (gA w q) k)) (nI k) J L) _
    unfold f_X12_seat_31
    rw [r_n0 hw hJ.1, Option.bind_some, if_neg (le_n (by omega) (by omega) hk)]
    refine r_46 hw hJ hq (by omega) ?_
    intro K hK
    rw [arg_r (f := gA w q) (k := k) (fun a m => f_X12_seat_31 fuel (nI q) a m (nI (k + 1)) K L) (by omega) (fun j _ => gA_b hw q j)]
    exact hnx K (fun j h1 h2 => (hK j h1 h2).trans (hs j h1 h2))
  · intro fuel J hs
    have hJ : RW J w := RW_cg hI (hs 150 (by decide) (by decide)) (hs 156 (by decide) (by decide))
    show Tt (f_X12_seat_31 (fuel + 1) (nI q) (aB (arg (gA w q) (nw w 0))) (aR (arg (gA w q) (nw w 0))) (nI (nw w 0)) J L) _
    unfold f_X12_seat_31
    rw [r_n0 hw hJ.1, Option.bind_some, if_pos (Int32.le_refl _)]
    exact Tt_some ⟨rfl, rfl, hs⟩
theorem C_seat {c : Nat} {I : MI} {L : ML} {A : AS} (hc6 : c ≤ 600) (hA : AI c A) (hC : CI9 I L A) (hR : RI9 I L A) (x : Int32) : ∃ I' L', SI [IOB] (f_X11_seat x I L) (f_X12_seat x) I' L' ∧ CI9 I' L' A ∧ RI9 I' L' A := by
  obtain ⟨h, d, hd, cj⟩ := id hC
  obtain ⟨e, cr, e0, e2, e3⟩ := C_n hA cj
  have h6 := AI_h hA
  by_cases hx : ∃ k, k < nw A.1 2 ∧ x = nI k
  · obtain ⟨q, hq, rfl⟩ := hx
    refine mkSI (res := .inr (aB (arg (gA A.1 q) (nw A.1 0)))) hR ?_ ?_
    · simp -implicitDefEqProofs only [f_X11_seat, c_needHeir_t hd e e2 h6 hq, Option.bind_some, xc_r]
      refine Tt_mono (c_seat hc6 hd hA.1 cr e hq) ?_
      intro t ⟨t1, t2, t3⟩
      have := CpS (hs := [IOB]) (v := aB (arg (gA A.1 q) (nw A.1 0))) hd cj t2 t3
      exact ⟨t1, this.2⟩
    · intro I' L' hR'
      simp -implicitDefEqProofs only [f_X12_seat, pf0, Option.bind_some, r_noHeir_t (R_2 hA hR') h6 hq, r_thr_f, bft, if_false]
      refine Tt_bind (Tt_mono (r_sp hA.1 (R_w hR')) ?_)
      intro s ⟨s1, s2, s3⟩
      rw [s1]
      refine Tt_mono (r_seat hA.1 s3 hq) ?_
      intro t ⟨t1, t2, t3⟩
      have := Rp_q (v := aB (arg (gA A.1 q) (nw A.1 0))) hR' (scR_tr (scR_156 (L := L') s2) (K := t.2.1) (N := t.2.2) ⟨fun j _ h2 h3 => t3 j h2 h3, fun j _ => by rw [t2]⟩)
      exact ⟨⟨this.1.1, t1⟩, this.2⟩
  · refine mkSI (res := .inl 1) hR ?_ ?_
    · simp -implicitDefEqProofs only [f_X11_seat, c_needHeir_f hd e e2 h6 (no_ex hx), Option.bind_some, xc_l]
      exact Tt_some (Cp_t hC (wk_1 (by decide)))
    · intro I' L' hR'
      simp -implicitDefEqProofs only [f_X12_seat, pf0, Option.bind_some, r_noHeir_f (R_2 hA hR') h6 (no_ex hx), r_thr_t, if_true]
      exact Tt_some (Rp_t hR' (by decide))
