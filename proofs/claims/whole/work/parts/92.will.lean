-- ===== will: the call
theorem AI_w {c : Nat} {A : AS} {w : Nat → Int32} {fl : Int32} (hA : AI c A) (h : ∀ k, k < 1294 → w k = A.1 k) : AI (c + 1) (w, A.2.1, A.2.2.1, 0, fl, A.2.2.2.2.2) := by
  refine ⟨WF_up (WF_w h hA.1), fun v hv => WF_up (hA.2.1 v hv), hA.2.2.1, Nat.zero_le _, hA.2.2.2.2.1, fun a ha => ?_⟩
  have h12 := hA.1.2.2.1.1.2
  exact okA_cg (nwe (h 0 (by decide))) (nwe (h 2 (by decide))) (nwe (h 3 (by decide))) (fun q hq => nwe (h _ (by omega))) (hA.2.2.2.2.2 a ha)
theorem C_will {c : Nat} {I : MI} {L : ML} {A : AS} (hA : AI c A) (hC : CI9 I L A) (hR : RI9 I L A) : ∃ I' L', SI [IAE] (f_X11_will I L) f_X12_will I' L' ∧ Inv9 (c + 1) I' L' := by
  obtain ⟨h, d, hd, cj⟩ := id hC
  have hb : 14 ≤ h ∧ 14 ≤ d ∧ (h + 45 ≤ d ∨ d + 45 ≤ h) ∧ h + 45 ≤ 104 ∧ d + 45 ≤ 104 := by unfold HD at hd; omega
  obtain ⟨⟨I1, L1⟩, t1, t2, t3, t4, t5, t6, t7⟩ := c_openText hA hd cj
  dsimp only at t2 t3 t4 t5 t6 t7
  have hT := hA.2.2.2.1
  refine mkSI2 hR (fun J M hR' => ?_)
  obtain ⟨J2, hJ2⟩ : ∃ J2 : MI, J2 = up2 (usR J A.2.2.2.1) 149 15 0 := ⟨_, rfl⟩
  have eo : ∀ q, q ≠ 149 → J2 q = J q := fun q hq => by rw [hJ2, zu_n _ _ _ hq, usR_n hq]
  have u149 : ∀ k, k ≠ 15 → J2 149 k = if k = 9 then 0 else if k = 8 then 0 else if k = 10 then nI A.2.2.2.1 else if k = 0 then 0 else J 149 k := fun k hk => by rw [hJ2, zu_s, if_neg hk, usR_149]
  have u15 : J2 149 15 = nI 0 := by rw [hJ2, zu_s, if_pos rfl]; rfl
  have e150 : J2 150 = A.1 := (eo 150 (by decide)).trans hR'.1
  have er : f_X12_readAll false J M = Option.bind (f_X12_blanks J2 M) fun w3 => if (w3.1 149 9) = (w3.1 149 10) then (some (0, w3.1, w3.2)) else (f_X12_readAll_28 FU false 0 w3.1 w3.2) := by
    unfold f_X12_readAll
    rw [r_uses (T := A.2.2.2.1) hR'.2.2.2.1, Option.bind_some]
    dsimp only
    rw [pfe, Option.bind_some, hJ2]
  have rt : RT A.2.2.1 A.2.2.2.1 (sk A.2.2.1 A.2.2.2.1 0) J2 := ⟨⟨u149 10 (by decide), fun k hk => by rw [eo 154 (by decide)]; exact hR'.2.2.2.2.1 k hk⟩, 0, u149 9 (by decide), Nat.zero_le _, rfl⟩
  have hcl : f_X9_clear d I1 L1 = some (up2 (up2 I1 (d + 5) 4 0) (d + 5) 5 0, L1) := by
    unfold f_X9_clear
    rw [pfe, Option.bind_some, pfe, Option.bind_some]
  have cq : ∀ q, q ≠ d + 5 → up2 (up2 I1 (d + 5) 4 0) (d + 5) 5 0 q = I1 q := fun q hq => by rw [zu_n _ _ _ hq, zu_n _ _ _ hq]
  have ws : WSt d A.2.2.1 A.2.2.2.1 (sk A.2.2.1 A.2.2.2.1 0) 0 I1 J2 (up2 (up2 I1 (d + 5) 4 0) (d + 5) 5 0) J2 := ⟨CT_w t2 (cq 1 (by omega)) (cq 2 (by omega)), rt, by rw [cq 1 (by omega)], ⟨fun q h1 h2 => cq q (by omega), by rw [cq 1 (by omega)]⟩, fun k hk hk2 => cq _ (by omega), FRw_rf J2, by rw [zu_s, if_pos rfl]; rfl, u15, fun i hi => absurd hi (Nat.not_lt_zero _)⟩
  have lf : LF d 0 0 (up2 (up2 I1 (d + 5) 4 0) (d + 5) 5 0) J2 := ⟨by rw [zu_s, if_neg (by decide), zu_s, if_pos rfl]; rfl, fun j hj => absurd hj (Nat.not_lt_zero _), rfl⟩
  have cls : ∀ (I4 : MI) (fl : Int32), FCd d I1 I4 → I4 1 7 = fl → CJ h d I4 L1 (A.1, A.2.1, A.2.2.1, 0, fl, A.2.2.2.2.2) := fun I4 fl f1 f2 => by
    refine CJ_tp hd cj (fun q h1 h2 h3 h4 => (f1.1 q h2 (by unfold scr at h4; omega)).trans (t3 q h2 (by unfold scr at h4; omega))) (fun q h1 h4 => t4 q (by unfold scr at h4; omega)) (f1.2.trans t5) (fun k hk => ?_) f2
    rw [f1.1 2 (by decide) (by omega), t3 2 (by decide) (by omega)]
    exact cj.2.2.2.2.2.2.1 k hk
  have cq9 : ∀ (I4 : MI), FCd d I1 I4 → ∀ q, 149 ≤ q → I4 q = I q := fun I4 f1 q hq => (f1.1 q (by omega) (by omega)).trans (t3 q (by omega) (by omega))
  obtain ⟨⟨x, I4, L4⟩, ⟨y, J4, M4⟩, h1, h2, h3, h4, hh⟩ := xReadW (M := M) hT hb.2.1 ws lf hcl
  have h3 : L4 = L1 := h3
  have h4 : M4 = M := h4
  subst h3; subst h4
  have ce : f_X11_will I L = xc (x, I4, L4) fun _ => Option.bind (f_X11_takeDraft I4 L4) fun w6 => Option.bind (hsO (w6.1 0 4)) fun v7 => some (.inr (w6.1 (v7 + 5) 4), w6.1, w6.2) := by
    unfold f_X11_will
    rw [t1, Option.bind_some]
    dsimp only
    rw [t3 0 (by decide) (by omega), hs_h (HD_y hd) cj.2.1, Option.bind_some, h1, Option.bind_some]
  rcases hh with ⟨g1, g2, ⟨f, g3, g4⟩, g5, g6⟩ | ⟨v, g1, g2⟩
  · have g1 : x = .inl IAE := g1
    have g2 : y = -1 := g2
    subst g1; subst g2
    dsimp only at g3 g4 g5 g6
    have hw9 : ∀ k, k < 1294 → J4 150 k = A.1 k := fun k hk => by rw [g6.2.2 k hk, e150]
    refine ⟨(J4 150, A.2.1, A.2.2.1, 0, nI f, A.2.2.2.2.2), .inl 1, AI_w hA hw9, ?_, ?_⟩
    · rw [ce, xc_l]
      obtain ⟨b1, b2, b3, b4⟩ := cls I4 (nI f) g5 g3
      exact Tt_some ⟨⟨IAE, rfl, wk_1 (by decide)⟩, ⟨h, d, hd, b1, b2, CR_w hA.1 hw9 b3, b4⟩, cq9 I4 g5⟩
    · unfold f_X12_will
      rw [er, h2, Option.bind_some]
      dsimp only
      rw [if_neg (by decide)]
      unfold f_X12_will_19 f_X12_will_32
      rw [pfe, Option.bind_some, if_neg (by decide), r_thr_t, Option.bind_some, if_pos rfl, g4]
      have m149 : ∀ k, k ≠ 0 → k ≠ 13 → k ≠ 9 → k ≠ 11 → k ≠ 12 → k ≠ 15 → up2 (up2 J4 149 13 (nI f)) 149 0 1 149 k = if k = 8 then 0 else if k = 10 then nI A.2.2.2.1 else J 149 k := fun k k0 k13 k9 k11 k12 k15 => by
        rw [zu_s, if_neg k0, zu_s, if_neg k13, g6.2.1 k k9 k11 k12 k15, u149 k k15, if_neg k9, if_neg k0]
      have mq : ∀ q, q ≠ 149 → up2 (up2 J4 149 13 (nI f)) 149 0 1 q = J4 q := fun q hq => by rw [zu_n _ _ _ hq, zu_n _ _ _ hq]
      have mo : ∀ q, q ≠ 149 → q ≠ 150 → up2 (up2 J4 149 13 (nI f)) 149 0 1 q = J q := fun q hq hq2 => by rw [mq q hq, g6.1 q hq hq2, eo q hq]
      refine Tt_some ⟨⟨?_, by decide⟩, ⟨mq 150 (by decide), ?_, fun v hv k hk => ?_, ?_, fun k hk => ?_, ?_, ?_, fun j hj k hk => ?_⟩, fun q hq => ⟨mo q (by omega) (by omega), rfl⟩, rfl⟩
      · show up2 (up2 J4 149 13 (nI f)) 149 0 1 149 0 = nI 1
        rw [zu_s, if_pos rfl]; rfl
      · show up2 (up2 J4 149 13 (nI f)) 149 0 1 149 5 = _
        rw [m149 5 (by decide) (by decide) (by decide) (by decide) (by decide) (by decide)]; exact hR'.2.1
      · show up2 (up2 J4 149 13 (nI f)) 149 0 1 151 k = _
        rw [mo 151 (by decide) (by decide)]; exact hR'.2.2.1 v hv k hk
      · show up2 (up2 J4 149 13 (nI f)) 149 0 1 149 8 = nI 0
        rw [m149 8 (by decide) (by decide) (by decide) (by decide) (by decide) (by decide)]; rfl
      · show up2 (up2 J4 149 13 (nI f)) 149 0 1 154 k = _
        rw [mo 154 (by decide) (by decide)]; exact hR'.2.2.2.2.1 k hk
      · show up2 (up2 J4 149 13 (nI f)) 149 0 1 149 13 = nI f
        rw [zu_s, if_neg (by decide), zu_s, if_pos rfl]
      · show up2 (up2 J4 149 13 (nI f)) 149 0 1 149 6 = _
        rw [m149 6 (by decide) (by decide) (by decide) (by decide) (by decide) (by decide)]; exact hR'.2.2.2.2.2.2.1
      · show up2 (up2 J4 149 13 (nI f)) 149 0 1 153 (445 * j + k) = undoL _ (J4 150) k
        rw [mo 153 (by decide) (by decide), hR'.2.2.2.2.2.2.2 j hj k hk]
        exact (undoL_c (w := A.1) (w' := J4 150) _ _ _ (fun k hk => hw9 k (by omega)) k hk).symm
  · have g1 : x = .inr v := g1
    subst g1
    obtain ⟨l, n, b', g3, g4, ws4, lf4⟩ := g2
    have g3 : y = nI l := g3
    subst g3
    dsimp only at ws4 lf4
    have fC := ws4.2.2.2.1
    have fR := ws4.2.2.2.2.2.1
    have cell := ws4.2.2.2.2.1
    have steps := ws4.2.2.2.2.2.2.2.2
    have h7 : I4 1 7 = -1 := ws4.2.2.1.trans t6
    have hw9 : ∀ k, k < 1294 → J4 150 k = A.1 k := fun k hk => by rw [fR.2.2 k hk, e150]
    have i0 : I4 0 = I 0 := (fC.1 0 (by decide) (by omega)).trans (t3 0 (by decide) (by omega))
    obtain ⟨r, r1, r2, r3, r4, r5, r6, r7⟩ := r_52 (x := nI l) (K := up2 (up2 J4 149 13 (-1)) 150 1294 (nI l)) (M := M4)
    obtain ⟨y9, J9, M9⟩ := r
    dsimp only at r2 r3 r4 r5 r6 r7
    -- the new world
    have w5 : J9 150 5 = 1 := by rw [r7, if_pos rfl]
    have wlo : ∀ k, k < 445 → k ≠ 5 → J9 150 k = A.1 k := fun k hk hk5 => by rw [r7, if_neg hk5, if_neg (by omega), zu_s, if_neg (by omega), zu_n _ _ _ (by decide)]; exact hw9 k (by omega)
    have whi : ∀ k, 445 < k → k < 1294 → J9 150 k = sh (J4 150) k := fun k hk hk2 => by rw [r7, if_neg (by omega), if_pos (by omega), zu_s, if_neg (by omega), zu_n _ _ _ (by decide)]; rfl
    have w445 : J9 150 445 = nI l := by rw [r7, if_neg (by decide), if_pos (by decide), zu_s, if_pos (by decide)]
    have n445 : nw (J9 150) 445 = l := by unfold nw; rw [w445, zI_cl (by omega)]
    have ht := tm_cg (wlo 6 (by decide) (by decide)) (wlo 7 (by decide) (by decide))
    have hWl : WFl (J9 150) := by
      intro _
      refine ⟨⟨by rw [n445]; exact w445, by rw [n445]; exact g4⟩, fun j hj => ?_⟩
      rw [n445] at hj
      obtain ⟨_, _, _, b4, _⟩ := lf4.2.1 j hj
      have h400 := b4.2.2.2.1.2
      exact WFl1_c0 (fun hj0 => whi _ (by omega) (by omega)) (fun k k1 k2 => whi k (by omega) (by omega)) (fun k k1 k2 => whi k (by omega) (by omega)) b4
    obtain ⟨a1, a2, a3, ⟨v4, v5, v6, v7, vt, v8, v9, v14, vc⟩, a5, a6⟩ := hA.1
    have hW : WF c (J9 150) := by
      refine ⟨WFd_cg (wlo 0 (by decide) (by decide)) (wlo 1 (by decide) (by decide)) (fun k _ _ => wlo k (by omega) (by omega)) a1, WFh_cg (wlo 0 (by decide) (by decide)) (wlo 2 (by decide) (by decide)) (fun k _ _ => wlo k (by omega) (by omega)) a2, WFn_cg (wlo 0 (by decide) (by decide)) (wlo 3 (by decide) (by decide)) ht (fun k _ _ => wlo k (by omega) (by omega)) a3, ⟨okN_cg (wlo 4 (by decide) (by decide)) v4, Or.inr w5, by rw [wlo 6 (by decide) (by decide), nwe (wlo 6 (by decide) (by decide))]; exact v6, okN_cg (wlo 7 (by decide) (by decide)) v7, by rw [ht]; exact vt, okN_cg (wlo 8 (by decide) (by decide)) v8, by rw [wlo 9 (by decide) (by decide)]; exact v9, by rw [wlo 14 (by decide) (by decide), ht]; exact v14, fun g x1 x2 => by rw [wlo (67 + 3 * g + 2) (by omega) (by omega)]; exact vc g (by rw [← nwe (wlo 2 (by decide) (by decide))]; exact x1) x2⟩, WFp_cg (wlo 0 (by decide) (by decide)) (wlo 2 (by decide) (by decide)) ht (fun k _ _ => wlo k (by omega) (by omega)) a5, hWl⟩
    have ced : I4 d = I1 d := cell 0 (by decide) (by decide)
    have cel : ∀ a k, a + k < 45 → (a + k < 5 ∨ 9 < a + k) → I4 (d + a + k) = I1 (d + a + k) := fun a k x1 x2 => by rw [Nat.add_assoc]; exact cell _ x1 x2
    have cr4 : CR d I4 L4 (J9 150) := by
      obtain ⟨k2, k3, k4, k5, kv, k6, k7⟩ := t7
      refine ⟨CRd_cg (by rw [ced]) (by rw [ced]) (cell 1 (by decide) (by decide)) (fun k _ => cel 13 k (by omega) (by omega)) (wlo 0 (by decide) (by decide)) (wlo 1 (by decide) (by decide)) (fun k _ _ => wlo k (by omega) (by omega)) k2, CRh_cg (by rw [ced]) (fun k _ => cel 27 k (by omega) (by omega)) (wlo 2 (by decide) (by decide)) (fun k _ _ => wlo k (by omega) (by omega)) k3, CRn_cg (by rw [ced]) (fun k _ => cel 33 k (by omega) (by omega)) (wlo 3 (by decide) (by decide)) (fun k _ _ => wlo k (by omega) (by omega)) k4, CRt_cg (fun k _ _ => by rw [ced]) ht (wlo 4 (by decide) (by decide)) (fun k _ _ => wlo k (by omega) (by omega)) k5, CRv_cg (cell 11 (by decide) (by decide)) (wlo 0 (by decide) (by decide)) (cs_cg a1 (wlo 1 (by decide) (by decide)) (fun k _ _ => wlo k (by omega) (by omega))) kv, CRp_cg rfl ht (fun k _ _ => wlo k (by omega) (by omega)) k6, by rw [if_pos w5, w445]; exact lf4.1, fun _ j hj => ?_⟩
      rw [n445] at hj
      obtain ⟨b1, b2, b3, b4, b5⟩ := lf4.2.1 j hj
      have h400 := b4.2.2.2.1.2
      have s6 : J9 150 (446 + 4 * j) = J4 150 (1295 + 4 * j) := by rw [whi _ (by omega) (by omega)]; unfold sh; rw [show 446 + 4 * j + 849 = 1295 + 4 * j by omega]
      have s7 : J9 150 (447 + 4 * j) = J4 150 (1296 + 4 * j) := by rw [whi _ (by omega) (by omega)]; unfold sh; rw [show 447 + 4 * j + 849 = 1296 + 4 * j by omega]
      have s9 : J9 150 (449 + 4 * j) = J4 150 (1298 + 4 * j) := by rw [whi _ (by omega) (by omega)]; unfold sh; rw [show 449 + 4 * j + 849 = 1298 + 4 * j by omega]
      rw [s6, s7, s9, nwe2 s9]
      refine ⟨b1, b2, b3, fun i hi => ?_⟩
      rw [nw_sh (j := 1298 + 4 * j) (by omega)] at h400
      have z1 : J9 150 (494 + 2 * i) = J4 150 (1343 + 2 * i) := by rw [whi _ (by omega) (by omega)]; unfold sh; rw [show 494 + 2 * i + 849 = 1343 + 2 * i by omega]
      have z2 : J9 150 (495 + 2 * i) = J4 150 (1344 + 2 * i) := by rw [whi _ (by omega) (by omega)]; unfold sh; rw [show 495 + 2 * i + 849 = 1344 + 2 * i by omega]
      rw [z1, z2]
      exact (steps i (by omega)).1
    refine ⟨(J9 150, A.2.1, A.2.2.1, 0, -1, []), .inr (nI l), ⟨WF_up hW, fun v hv => WF_up (hA.2.1 v hv), hA.2.2.1, Nat.zero_le _, Nat.zero_le _, fun a ha => absurd ha (List.not_mem_nil)⟩, ?_, ?_⟩
    · rw [ce, xc_r]
      unfold f_X11_takeDraft f_X0_forget
      rw [i0, hs_h hd cj.1, Option.bind_some, hs_h (HD_y hd) cj.2.1, Option.bind_some, pfe, Option.bind_some, pfe, Option.bind_some, pfe, Option.bind_some, Option.bind_some, Option.bind_some]
      dsimp only
      have k0 : up2 (up2 (up2 I4 0 4 (nI d)) 0 5 (nI h)) 3 4 0 0 4 = nI d := by rw [zu_n _ _ _ (by decide), zu_s, if_neg (by decide), zu_s, if_pos rfl]
      have kq : ∀ q, q ≠ 0 → q ≠ 3 → up2 (up2 (up2 I4 0 4 (nI d)) 0 5 (nI h)) 3 4 0 q = I4 q := fun q h1 h2 => by rw [zu_n _ _ _ h2, zu_n _ _ _ h1, zu_n _ _ _ h1]
      have k5 : up2 (up2 (up2 I4 0 4 (nI d)) 0 5 (nI h)) 3 4 0 0 5 = nI h := by rw [zu_n _ _ _ (by decide), zu_s, if_pos rfl]
      have k7 : up2 (up2 (up2 I4 0 4 (nI d)) 0 5 (nI h)) 3 4 0 0 7 = I 0 7 := by rw [zu_n _ _ _ (by decide), zu_s, if_neg (by decide), zu_s, if_neg (by decide), i0]
      have k34 : up2 (up2 (up2 I4 0 4 (nI d)) 0 5 (nI h)) 3 4 0 3 4 = 0 := by rw [zu_s, if_pos rfl]
      have k35 : up2 (up2 (up2 I4 0 4 (nI d)) 0 5 (nI h)) 3 4 0 3 5 = I 3 5 := by rw [zu_s, if_neg (by decide), zu_n _ _ _ (by decide), zu_n _ _ _ (by decide), fC.1 3 (by decide) (by omega), t3 3 (by decide) (by omega)]
      generalize up2 (up2 (up2 I4 0 4 (nI d)) 0 5 (nI h)) 3 4 0 = I9 at k0 kq k5 k7 k34 k35 ⊢
      rw [hs_h (HD_y hd) k0, Option.bind_some]
      have i4q : ∀ q, q ≠ 1 → (q < d ∨ d + 45 ≤ q) → I4 q = I q := fun q h1 h2 => (fC.1 q h1 h2).trans (t3 q h1 h2)
      obtain ⟨b1, b2, b3, b4, b5, c1, c2, c3, d1, d2, hd2, d3, d4⟩ := cj
      refine Tt_some ⟨?_, ⟨d, h, HD_y hd, k0, k5, CR_cg (fun k h1 h2 => kq _ (by omega) (by omega)) rfl cr4, k7.trans b4, fun v hv => ?_, ?_, ?_, ?_, ?_, d2, hd2, ?_, fun j a ha => absurd ha (by simp)⟩, fun q hq => (kq q (by omega) (by omega)).trans (i4q q (by omega) (by omega))⟩
      · show Sum.inr (I9 (d + 5) 4) = Sum.inr (nI l)
        rw [kq (d + 5) (by omega) (by omega), lf4.1]
      · exact CR_cg (fun k h1 h2 => (kq _ (by omega) (by omega)).trans (i4q _ (by omega) (by omega))) (t4 _ (by omega)) (b5 v hv)
      · show I9 1 1 = nI 0
        rw [kq 1 (by decide) (by decide), fC.2]; exact t5
      · intro k hk
        show I9 2 k = _
        rw [kq 2 (by decide) (by decide), i4q 2 (by decide) (by omega)]; exact c2 k hk
      · show I9 1 7 = -1
        rw [kq 1 (by decide) (by decide)]; exact h7
      · show I9 3 4 = nI 0
        exact k34
      · show I9 3 5 = nI d2
        rw [k35]; exact d3
    · unfold f_X12_will
      rw [er, h2, Option.bind_some]
      dsimp only
      rw [if_pos (nn_n (by omega))]
      unfold f_X12_will_19 f_X12_will_32
      rw [pfe, Option.bind_some, if_pos (nn_n (by omega)), r_thr_f, Option.bind_some, if_neg Bool.false_ne_true]
      dsimp only
      rw [show stI (up2 J4 149 13 (-1)) 150 2143 1294 (nI l) = some (up2 (up2 J4 149 13 (-1)) 150 1294 (nI l)) from stI_n (k := 1294) (by decide) (by decide), Option.bind_some]
      have m149 : ∀ k, k ≠ 6 → k ≠ 13 → k ≠ 9 → k ≠ 11 → k ≠ 12 → k ≠ 15 → J9 149 k = if k = 8 then 0 else if k = 10 then nI A.2.2.2.1 else if k = 0 then 0 else J 149 k := fun k k6 k13 k9 k11 k12 k15 => by
        rw [r5 k k6, zu_n _ _ _ (by decide), zu_s, if_neg k13, fR.2.1 k k9 k11 k12 k15, u149 k k15, if_neg k9]
      have mo : ∀ q, q ≠ 149 → q ≠ 150 → J9 q = J q := fun q hq hq2 => by rw [r4 q hq hq2, zu_n _ _ _ hq2, zu_n _ _ _ hq, fR.1 q hq hq2, eo q hq]
      refine Tt_eq r1 ⟨⟨?_, r2⟩, ⟨rfl, ?_, fun v hv k hk => ?_, ?_, fun k hk => ?_, ?_, r6, fun j hj => absurd hj (Nat.not_lt_zero _)⟩, fun q hq => ⟨mo q (by omega) (by omega), by rw [r3]⟩, by rw [r3]⟩
      · show J9 149 0 = 0
        rw [m149 0 (by decide) (by decide) (by decide) (by decide) (by decide) (by decide)]; rfl
      · show J9 149 5 = _
        rw [m149 5 (by decide) (by decide) (by decide) (by decide) (by decide) (by decide)]; exact hR'.2.1
      · show J9 151 k = _
        rw [mo 151 (by decide) (by decide)]; exact hR'.2.2.1 v hv k hk
      · show J9 149 8 = nI 0
        rw [m149 8 (by decide) (by decide) (by decide) (by decide) (by decide) (by decide)]; rfl
      · show J9 154 k = _
        rw [mo 154 (by decide) (by decide)]; exact hR'.2.2.2.2.1 k hk
      · show J9 149 13 = -1
        rw [r5 13 (by decide), zu_n _ _ _ (by decide), zu_s, if_pos rfl]
