-- ===== house: the call
theorem C_house {c : Nat} {I : MI} {L : ML} {A : AS} (hA : AI c A) (hC : CI9 I L A) (hR : RI9 I L A) : ∃ I' L', SI [IAE, UOE] (f_X11_house I L) f_X12_house I' L' ∧ Inv9 (c + 1) I' L' := by
  obtain ⟨h, d, hd, cj⟩ := id hC
  have hb : 14 ≤ h ∧ 14 ≤ d ∧ (h + 45 ≤ d ∨ d + 45 ≤ h) ∧ h + 45 ≤ 104 ∧ d + 45 ≤ 104 := by unfold HD at hd; omega
  obtain ⟨⟨I1, L1⟩, t1, t2, t3, t4, t5, t6, t7⟩ := c_openText hA hd cj
  dsimp only at t2 t3 t4 t5 t6 t7
  have hT := hA.2.2.2.1
  refine mkSI2 hR (fun J M hR' => ?_)
  obtain ⟨J1, j1, j2, j3⟩ := r_h2 (J := J) (M := M) 1294 0 FU J rfl (by decide) (by decide) (fun _ _ => rfl) (fun j hj => absurd hj (Nat.not_lt_zero _))
  have j3 : f_X12_house J M = Option.bind (f_X12_readAll true J1 M) fun w2 => if 0 ≤ w2.1 then (f_X12_house_46 w2.1 ((-1)) w2.2.1 w2.2.2) else (f_X12_house_46 w2.1 (w2.2.1 149 11) w2.2.1 w2.2.2) := j3
  obtain ⟨J2, hJ2⟩ : ∃ J2 : MI, J2 = up2 (usR J1 A.2.2.2.1) 149 15 0 := ⟨_, rfl⟩
  have uq : ∀ q, q ≠ 149 → J2 q = J1 q := fun q hq => by rw [hJ2, zu_n _ _ _ hq, usR_n hq]
  have u149 : ∀ k, k ≠ 15 → J2 149 k = if k = 9 then 0 else if k = 8 then 0 else if k = 10 then nI A.2.2.2.1 else if k = 0 then 0 else J 149 k := fun k hk => by rw [hJ2, zu_s, if_neg hk, usR_149, j1 149 (by decide)]
  have e150 : J2 150 = A.1 := (uq 150 (by decide)).trans ((j1 150 (by decide)).trans hR'.1)
  have e152 : ∀ k, k < 1294 → J2 152 k = A.1 k := fun k hk => by rw [uq 152 (by decide), j2 k hk, hR'.1]
  have eo : ∀ q, q ≠ 149 → q ≠ 152 → J2 q = J q := fun q h1 h2 => (uq q h1).trans (j1 q h2)
  have er : f_X12_readAll true J1 M = Option.bind (f_X12_blanks J2 M) fun w3 => if (w3.1 149 9) = (w3.1 149 10) then (some (0, w3.1, w3.2)) else (f_X12_readAll_28 FU true 0 w3.1 w3.2) := by
    unfold f_X12_readAll
    rw [r_uses (T := A.2.2.2.1) (by rw [j1 149 (by decide)]; exact hR'.2.2.2.1), Option.bind_some]
    dsimp only
    rw [pfe, Option.bind_some, hJ2]
  have rt : RT A.2.2.1 A.2.2.2.1 (sk A.2.2.1 A.2.2.2.1 0) J2 := ⟨⟨u149 10 (by decide), fun k hk => by rw [eo 154 (by decide) (by decide)]; exact hR'.2.2.2.2.1 k hk⟩, 0, u149 9 (by decide), Nat.zero_le _, rfl⟩
  have ls : LSt c d A.2.2.1 A.2.2.2.1 L1 (sk A.2.2.1 A.2.2.2.1 0) I1 J2 I1 J2 := ⟨t2, rt, rfl, FCd_rf d I1, FRd_rf J2, by rw [e150]; exact ⟨hA.1, t7.1, t7.2.1, t7.2.2.1, t7.2.2.2.1, t7.2.2.2.2.2.1, t7.2.2.2.2.2.2⟩, rfl⟩
  -- the two ends without a new house
  have cls : ∀ (I4 : MI) (fl : Int32), FCd d I1 I4 → I4 1 7 = fl → CJ h d I4 L1 (A.1, A.2.1, A.2.2.1, 0, fl, A.2.2.2.2.2) := fun I4 fl f1 f2 => by
    refine CJ_tp hd cj (fun q h1 h2 h3 h4 => (f1.1 q h2 (by unfold scr at h4; omega)).trans (t3 q h2 (by unfold scr at h4; omega))) (fun q h1 h4 => t4 q (by unfold scr at h4; omega)) (f1.2.trans t5) (fun k hk => ?_) f2
    rw [f1.1 2 (by decide) (by omega), t3 2 (by decide) (by omega)]
    exact cj.2.2.2.2.2.2.1 k hk
  have cq : ∀ (I4 : MI), FCd d I1 I4 → ∀ q, 149 ≤ q → I4 q = I q := fun I4 f1 q hq => (f1.1 q (by omega) (by omega)).trans (t3 q (by omega) (by omega))
  have hA9 : ∀ fl : Int32, AI (c + 1) (A.1, A.2.1, A.2.2.1, 0, fl, A.2.2.2.2.2) := fun fl => ⟨WF_up hA.1, fun v hv => WF_up (hA.2.1 v hv), hA.2.2.1, Nat.zero_le _, hA.2.2.2.2.1, hA.2.2.2.2.2⟩
  have rest : ∀ (J4 : MI) (fl : Int32) (n : Nat), FRd J2 J4 → nI n ≠ 0 → Tt (f_X12_house_90 (up2 (up2 J4 149 13 fl) 149 0 (nI n)) M) (RpX J M (A.1, A.2.1, A.2.2.1, 0, fl, A.2.2.2.2.2) (.inl n)) := by
    intro J4 fl n f1 hn
    refine Tt_mono r_90 ?_
    intro r ⟨r1, r2, r3, r4⟩
    have r149 : ∀ k, k ≠ 0 → k ≠ 13 → k ≠ 9 → k ≠ 11 → k ≠ 15 → k ≠ 8 → k ≠ 10 → r.2.1 149 k = J 149 k := fun k h0 h13 h9 h11 h15 h8 h10 => by
      rw [r3 149 (by decide), zu_s, if_neg h0, zu_s, if_neg h13, f1.2.1 k h9 h11, u149 k h15, if_neg h9, if_neg h8, if_neg h10, if_neg h0]
    have rq : ∀ q, q ≠ 149 → q ≠ 150 → q ≠ 152 → r.2.1 q = J q := fun q h1 h2 h3 => by
      rw [r3 q h2, zu_n _ _ _ h1, zu_n _ _ _ h1, f1.1 q h1 h2, eo q h1 h3]
    have r150 : r.2.1 150 = J 150 := by
      funext k
      rw [r4 k, zu_n _ _ _ (by decide), zu_n _ _ _ (by decide), zu_n _ _ _ (by decide), zu_n _ _ _ (by decide), hR'.1]
      by_cases hk : k < 1294
      · rw [if_pos hk, f1.1 152 (by decide) (by decide)]; exact e152 k hk
      · rw [if_neg hk, f1.2.2 k (by omega), e150]
    refine ⟨⟨by rw [r3 149 (by decide), zu_s, if_pos rfl], hn⟩, ?_, fun q hq => ⟨rq q (by omega) (by omega) (by omega), by rw [r2]⟩, by rw [r2]⟩
    refine RI_tp hR' (fun q hq => ?_) (r149 5 (by decide) (by decide) (by decide) (by decide) (by decide) (by decide) (by decide)) (r149 6 (by decide) (by decide) (by decide) (by decide) (by decide) (by decide) (by decide)) ?_ ?_ (fun k hk => by rw [rq 154 (by decide) (by decide) (by decide)]; exact hR'.2.2.2.2.1 k hk)
    · rcases hq with rfl | rfl | rfl
      · exact r150
      · exact rq 151 (by decide) (by decide) (by decide)
      · exact rq 153 (by decide) (by decide) (by decide)
    · rw [r3 149 (by decide), zu_s, if_neg (by decide), zu_s, if_neg (by decide), f1.2.1 8 (by decide) (by decide), u149 8 (by decide)]; rfl
    · rw [r3 149 (by decide), zu_s, if_neg (by decide), zu_s, if_pos rfl]
  obtain ⟨⟨x, I4, L4⟩, ⟨y, J4, M4⟩, h1, h2, h3, h4, hh⟩ := xRead (M := M) hT hb.2.1 ls
  have h3 : L4 = L1 := h3
  have h4 : M4 = M := h4
  subst h3; subst h4
  have ce : f_X11_house I L = xc (x, I4, L4) fun _ => Option.bind (hsO (I4 0 4)) fun v6 => if (I4 v6 11) < 10 then (Option.bind (hsO (I4 0 5)) fun v8 => Option.bind (pfI I4 v8 11 ((I4 v8 11) + 1)) fun I9 => Option.bind (hsO (I9 0 5)) fun v10 => Option.bind (f_X3_findWays v10 I9 L4) fun w11 => Option.bind (f_X11_takeDraft w11.1 w11.2) fun w12 => Option.bind (hsO (w12.1 0 4)) fun v13 => some (.inr (w12.1 v13 11), w12.1, w12.2)) else (some (.inl UOE, I4, L4)) := by
    unfold f_X11_house
    rw [t1, Option.bind_some]
    dsimp only
    rw [t3 0 (by decide) (by omega), hs_h (HD_y hd) cj.2.1, Option.bind_some, h1, Option.bind_some]
  rcases hh with ⟨g1, g2, ⟨f, g3, g4⟩, g5, g6⟩ | ⟨v, g1, g2⟩
  · have g1 : x = .inl IAE := g1
    have g2 : y = -1 := g2
    subst g1; subst g2
    dsimp only at g3 g4 g5 g6
    refine ⟨(A.1, A.2.1, A.2.2.1, 0, nI f, A.2.2.2.2.2), .inl 1, hA9 _, ?_, ?_⟩
    · rw [ce, xc_l]
      exact Tt_some ⟨⟨IAE, rfl, wk_1 (by decide)⟩, ⟨h, d, hd, cls I4 (nI f) g5 g3⟩, cq I4 g5⟩
    · rw [j3, er, h2, Option.bind_some]
      dsimp only
      rw [if_neg (by decide)]
      unfold f_X12_house_46 f_X12_house_59
      rw [pfe, Option.bind_some, if_neg (by decide), r_thr_t, Option.bind_some, if_pos rfl, g4]
      exact rest J4 (nI f) 1 g6 (by decide)
  · have g1 : x = .inr v := g1
    subst g1
    obtain ⟨⟨k, g3, g4⟩, b', ls4⟩ := g2
    have g3 : y = nI k := g3
    subst g3
    dsimp only at ls4
    have fC := ls4.2.2.2.1
    have fR := ls4.2.2.2.2.1
    have h7 : I4 1 7 = -1 := ls4.2.2.1.trans t6
    have h04 := hA.1.2.2.2.1.1
    have w4 : J4 150 4 = nI (nw A.1 4) := by rw [ls4.2.2.2.2.2.2, e150]; exact h04.1
    have i0 : I4 0 = I 0 := (fC.1 0 (by decide) (by omega)).trans (t3 0 (by decide) (by omega))
    have ih : I4 h = I h := (fC.1 h (by omega) (by omega)).trans (t3 h (by omega) (by omega))
    have i11 : I4 h 11 = nI (nw A.1 4) := by rw [ih, cj.2.2.1.2.2.2.1.1]; exact h04.1
    rw [ce, xc_r, i0, hs_h hd cj.1, Option.bind_some]
    have hb4 := h04.2
    by_cases hn : nw A.1 4 < 10
    · have hlt : I4 h 11 < 10 := by rw [i11, show (10 : Int32) = nI 10 from rfl, zI_lt (by omega) (by decide)]; exact hn
      have DW1 := DW_texts (n := nw A.1 4 + 1) ls4.2.2.2.2.2.1 (by omega)
      have id11 : I4 d 11 = nI (nw A.1 4) := ls4.2.2.2.2.2.1.2.2.2.2.1.1.trans w4
      obtain ⟨⟨I6, L6⟩, q1, q2, q3, q4⟩ := c_findWays (L := L4) DW1.1.1 DW1.2.1
      have q2 : L6 = L4 := q2
      subst q2
      dsimp only at q3 q4
      have cr6 : CR d I6 L6 (setw (J4 150) 4 (nI (nw A.1 4 + 1))) := DW_CR DW1 (fun q hq => q3 q hq) q4
      have i60 : I6 0 = I 0 := by rw [q3 0 (by omega), zu_n _ _ _ (by omega)]; exact i0
      have i6q : ∀ q, q ≠ 1 → (q < d ∨ d + 45 ≤ q) → I6 q = I q := fun q h1 h2 => by rw [q3 q (by omega), zu_n _ _ _ (by omega)]; exact (fC.1 q h1 h2).trans (t3 q h1 h2)
      refine ⟨(setw (J4 150) 4 (nI (nw A.1 4 + 1)), A.2.1, A.2.2.1, 0, -1, []), .inr (nI (nw A.1 4 + 1)), ⟨WF_up DW1.1, fun v hv => WF_up (hA.2.1 v hv), hA.2.2.1, Nat.zero_le _, Nat.zero_le _, fun a ha => absurd ha (List.not_mem_nil)⟩, ?_, ?_⟩
      · rw [if_pos hlt, hs_h (HD_y hd) cj.2.1, Option.bind_some, id11, zI_1, pfe, Option.bind_some, zu_n _ _ _ (show 0 ≠ d by omega), i0, hs_h (HD_y hd) cj.2.1, Option.bind_some, q1, Option.bind_some]
        unfold f_X11_takeDraft f_X0_forget
        dsimp only
        rw [i60, hs_h hd cj.1, Option.bind_some, hs_h (HD_y hd) cj.2.1, Option.bind_some, pfe, Option.bind_some, pfe, Option.bind_some, pfe, Option.bind_some, Option.bind_some, Option.bind_some]
        dsimp only
        have k0 : up2 (up2 (up2 I6 0 4 (nI d)) 0 5 (nI h)) 3 4 0 0 4 = nI d := by rw [zu_n _ _ _ (by decide), zu_s, if_neg (by decide), zu_s, if_pos rfl]
        have kq : ∀ q, q ≠ 0 → q ≠ 3 → up2 (up2 (up2 I6 0 4 (nI d)) 0 5 (nI h)) 3 4 0 q = I6 q := fun q h1 h2 => by rw [zu_n _ _ _ h2, zu_n _ _ _ h1, zu_n _ _ _ h1]
        have k5 : up2 (up2 (up2 I6 0 4 (nI d)) 0 5 (nI h)) 3 4 0 0 5 = nI h := by rw [zu_n _ _ _ (by decide), zu_s, if_pos rfl]
        have k7 : up2 (up2 (up2 I6 0 4 (nI d)) 0 5 (nI h)) 3 4 0 0 7 = I 0 7 := by rw [zu_n _ _ _ (by decide), zu_s, if_neg (by decide), zu_s, if_neg (by decide), i60]
        have k34 : up2 (up2 (up2 I6 0 4 (nI d)) 0 5 (nI h)) 3 4 0 3 4 = 0 := by rw [zu_s, if_pos rfl]
        have k35 : up2 (up2 (up2 I6 0 4 (nI d)) 0 5 (nI h)) 3 4 0 3 5 = I 3 5 := by rw [zu_s, if_neg (by decide), zu_n _ _ _ (by decide), zu_n _ _ _ (by decide), i6q 3 (by decide) (by omega)]
        generalize up2 (up2 (up2 I6 0 4 (nI d)) 0 5 (nI h)) 3 4 0 = I9 at k0 kq k5 k7 k34 k35 ⊢
        rw [hs_h (HD_y hd) k0, Option.bind_some]
        obtain ⟨a1, a2, a3, a4, a5, c1, c2, c3, d1, d2, hd2, d3, d4⟩ := cj
        have i61 : I6 1 = I4 1 := by rw [q3 1 (by omega), zu_n _ _ _ (by omega)]
        refine Tt_some ⟨?_, ⟨d, h, HD_y hd, k0, k5, CR_cg (fun k h1 h2 => kq _ (by omega) (by omega)) rfl cr6, k7.trans a4, fun v hv => ?_, ?_, ?_, ?_, ?_, d2, hd2, ?_, fun j a ha => absurd ha (by simp)⟩, fun q hq => (kq q (by omega) (by omega)).trans (i6q q (by omega) (by omega))⟩
        · show Sum.inr (I9 d 11) = Sum.inr (nI (nw A.1 4 + 1))
          rw [kq d (by omega) (by omega), cr6.2.2.2.1.1, sw_s]
        · exact CR_cg (fun k h1 h2 => (kq _ (by omega) (by omega)).trans (i6q _ (by omega) (by omega))) (t4 _ (by omega)) (a5 v hv)
        · show I9 1 1 = nI 0
          rw [kq 1 (by decide) (by decide), i61, fC.2]; exact t5
        · intro k hk
          show I9 2 k = _
          rw [kq 2 (by decide) (by decide), i6q 2 (by decide) (by omega)]; exact c2 k hk
        · show I9 1 7 = -1
          rw [kq 1 (by decide) (by decide), i61]; exact h7
        · show I9 3 4 = nI 0
          exact k34
        · show I9 3 5 = nI d2
          rw [k35]; exact d3
      · rw [j3, er, h2, Option.bind_some]
        dsimp only
        rw [if_pos (nn_n (by omega))]
        unfold f_X12_house_46 f_X12_house_59 f_X12_house_83
        rw [pfe, Option.bind_some, if_pos (nn_n (by omega)), r_thr_f, Option.bind_some, if_neg Bool.false_ne_true]
        dsimp only
        rw [ld_4, Option.bind_some, zu_n _ _ _ (by decide), w4, if_neg (by rw [show (10 : Int32) = nI 10 from rfl, zI_eq (by omega) (by decide)]; omega), r_thr_f, Option.bind_some, if_neg Bool.false_ne_true]
        dsimp only
        rw [ld_4, Option.bind_some, zu_n _ _ _ (by decide), w4, zI_1, st_4, Option.bind_some, pfe, Option.bind_some, ld_4, Option.bind_some, zu_n _ _ _ (by decide), zu_s, if_pos rfl]
        have m149 : ∀ k, k ≠ 6 → k ≠ 13 → k ≠ 9 → k ≠ 11 → k ≠ 15 → up2 (up2 (up2 J4 149 13 (-1)) 150 4 (nI (nw A.1 4 + 1))) 149 6 0 149 k = if k = 8 then 0 else if k = 10 then nI A.2.2.2.1 else if k = 0 then 0 else J 149 k := fun k h6 h13 h9 h11 h15 => by
          rw [zu_s, if_neg h6, zu_n _ _ _ (by decide), zu_s, if_neg h13, fR.2.1 k h9 h11, u149 k h15, if_neg h9]
        have mq : ∀ q, q ≠ 149 → q ≠ 150 → q ≠ 152 → up2 (up2 (up2 J4 149 13 (-1)) 150 4 (nI (nw A.1 4 + 1))) 149 6 0 q = J q := fun q h1 h2 h3 => by
          rw [zu_n _ _ _ h1, zu_n _ _ _ h2, zu_n _ _ _ h1, fR.1 q h1 h2, eo q h1 h3]
        refine Tt_some ⟨⟨?_, rfl⟩, ⟨?_, ?_, fun v hv k hk => ?_, ?_, fun k hk => ?_, ?_, ?_, fun j hj => absurd hj (Nat.not_lt_zero _)⟩, fun q hq => ⟨mq q (by omega) (by omega) (by omega), rfl⟩, rfl⟩
        · show up2 (up2 (up2 J4 149 13 (-1)) 150 4 (nI (nw A.1 4 + 1))) 149 6 0 149 0 = 0
          rw [m149 0 (by decide) (by decide) (by decide) (by decide) (by decide)]; rfl
        · show up2 (up2 (up2 J4 149 13 (-1)) 150 4 (nI (nw A.1 4 + 1))) 149 6 0 150 = setw (J4 150) 4 (nI (nw A.1 4 + 1))
          rw [zu_n _ _ _ (by decide)]
          exact up_150 (zu_n _ _ _ (by decide))
        · show up2 (up2 (up2 J4 149 13 (-1)) 150 4 (nI (nw A.1 4 + 1))) 149 6 0 149 5 = _
          rw [m149 5 (by decide) (by decide) (by decide) (by decide) (by decide)]; exact hR'.2.1
        · show up2 (up2 (up2 J4 149 13 (-1)) 150 4 (nI (nw A.1 4 + 1))) 149 6 0 151 k = _
          rw [mq 151 (by decide) (by decide) (by decide)]; exact hR'.2.2.1 v hv k hk
        · show up2 (up2 (up2 J4 149 13 (-1)) 150 4 (nI (nw A.1 4 + 1))) 149 6 0 149 8 = nI 0
          rw [m149 8 (by decide) (by decide) (by decide) (by decide) (by decide)]; rfl
        · show up2 (up2 (up2 J4 149 13 (-1)) 150 4 (nI (nw A.1 4 + 1))) 149 6 0 154 k = _
          rw [mq 154 (by decide) (by decide) (by decide)]; exact hR'.2.2.2.2.1 k hk
        · show up2 (up2 (up2 J4 149 13 (-1)) 150 4 (nI (nw A.1 4 + 1))) 149 6 0 149 13 = -1
          rw [zu_s, if_neg (by decide), zu_n _ _ _ (by decide), zu_s, if_pos rfl]
        · show up2 (up2 (up2 J4 149 13 (-1)) 150 4 (nI (nw A.1 4 + 1))) 149 6 0 149 6 = nI 0
          rw [zu_s, if_pos rfl]; rfl
    · have hlt : ¬ I4 h 11 < 10 := by rw [i11, show (10 : Int32) = nI 10 from rfl, zI_lt (by omega) (by decide)]; exact hn
      refine ⟨(A.1, A.2.1, A.2.2.1, 0, -1, A.2.2.2.2.2), .inl 2, hA9 _, ?_, ?_⟩
      · rw [if_neg hlt]
        exact Tt_some ⟨⟨UOE, rfl, wk_2 (by decide)⟩, ⟨h, d, hd, cls I4 (-1) fC h7⟩, cq I4 fC⟩
      · rw [j3, er, h2, Option.bind_some]
        dsimp only
        rw [if_pos (nn_n (by omega))]
        unfold f_X12_house_46 f_X12_house_59 f_X12_house_83
        rw [pfe, Option.bind_some, if_pos (nn_n (by omega)), r_thr_f, Option.bind_some, if_neg Bool.false_ne_true]
        dsimp only
        rw [ld_4, Option.bind_some, zu_n _ _ _ (by decide), w4, if_pos (by rw [show nw A.1 4 = 10 by omega]; rfl), r_thr_t, Option.bind_some, if_pos rfl]
        exact rest J4 (-1) 2 fR (by decide)
