-- ===== a will is read: atoms, and the whole of a condition
theorem tyS_t {sN : Nat} {st : List Bool} (h : sN = 6 ∨ sN = 7 ∨ sN = 8) (hl : st.length < 17) : tyS sN st = some (true :: st) := by
  unfold tyS
  rw [if_neg (by omega), if_pos (by omega), if_pos hl]
theorem xAtom {d dep : Nat} {tp : Nat → Int32} {T : Nat} {I0 J0 : MI} {L M : ML} {rAny rAll rAtom : Nat → Int32 → MI → ML → Option ((String ⊕ Unit) × MI × ML)} {qAny qAll qAtom : MI → ML → Option (Bool × MI × ML)} (hT : T ≤ 400) (hd : 14 ≤ d) (hdep : dep ≤ 6) (hany : dep < 6 → SB9 d (dep + 1) (2 * (dep + 1)) tp T I0 J0 L M (rAny d (nI (dep + 1))) qAny) (hatom : dep < 6 → SB9 d (dep + 1) (2 * (dep + 1) + 2) tp T I0 J0 L M (rAtom d (nI (dep + 1))) qAtom) : SB9 d dep (2 * dep + 2) tp T I0 J0 L M (F_X10_readAtom rAny rAll rAtom d (nI dep)) (F_X12_readAtom qAny qAll qAtom) := by
  intro b n I J hnb ws hdp
  have hok := RT_ok ws.2.1
  have hbT := hok.1
  obtain ⟨⟨y, J1, M1⟩, t1, t2, t3, t4, t5, t6, t7⟩ := r_sign (c := 40) (L := M) hT (by unfold isSg; decide) ws.2.1
  have t3 : M1 = M := t3
  subst t3
  dsimp only at t2 t4 t5 t6 t7
  unfold F_X10_readAtom F_X12_readAtom
  rw [c_isWord hT hbT (by decide) ws.1, Option.bind_some, c_isSign hT hbT (by unfold isSg; decide) ws.1, t1, Option.bind_some, t2]
  have d1 : J1 149 12 = nI dep := (t4.2 12 (by decide) (by decide)).trans hdp
  have z1 : nI (dep + 1) - 1 = nI dep := zI_p1 dep
  cases g40 : sgB tp T 40 b
  case true =>
    have sg := sg_te (tp := tp) (T := T) (b := b) (c := 40) (by unfold isSg; decide) g40
    have g21 : wdB tp T 21 b = false := by
      cases h : wdB tp T 21 b
      · rfl
      · have := (wd_te (by decide) h).2.2.1
        rw [sg.2.2] at this; exact absurd this (by decide)
    rw [g21, if_neg Bool.false_ne_true, Option.bind_some, if_pos rfl, if_pos rfl]
    dsimp only
    unfold f_X10_readAtom_20 f_X10_readAtom_32
    by_cases h6 : dep < 6
    · rw [show (6 : Int32) = nI 6 from rfl, if_neg (le_n (by decide) (by omega) h6), if_neg (by rw [d1, zI_eq (by omega) (by decide)]; omega), c_chk_t, Option.bind_some, xc_r, d1, zI_1, pfe, Option.bind_some]
      dsimp only
      have nx1 := nx_lt (tp := tp) sg.1
      obtain ⟨⟨I2, L2⟩, s1, s2, s3, s4⟩ := c_step (L := L) hT hbT ws.1
      have s2 : L2 = L := s2
      subst s2
      have s3 : CT tp T (nx tp T b) I2 := s3
      have s4 : only1 I I2 := s4
      have ws2 := WSt_d (x := nI (dep + 1)) (WSt_t hd ws s3 (t6 g40) s4 t4)
      rw [s1, Option.bind_some, if_neg Bool.false_ne_true]
      refine JX_bind (hany h6 (nx tp T b) n I2 _ (by omega) ws2 (by rw [zu_s, if_pos rfl])) (fun _ o => o) (fun J' o => ⟨J', by dsimp only; rw [if_neg Bool.false_ne_true], rfl, o⟩) ?_
      intro _ v' I3 J3 ⟨e, b3, n3, g1, g2, g3, ws3, xt3, ty3⟩
      subst e
      have hbT3 := (RT_ok ws3.2.1).1
      have d3 : J3 149 12 = nI (dep + 1) := by rw [xt3.2.2, zu_s, if_pos rfl]
      dsimp only
      rw [if_pos rfl, d3, z1, pfe, Option.bind_some]
      have ws4 := WSt_d (x := nI dep) ws3
      obtain ⟨⟨y4, J4, M4⟩, u1, u2, u3, u4, u5, u6, u7⟩ := r_sign (c := 41) (L := M1) hT (by unfold isSg; decide) ws4.2.1
      have u3 : M4 = M1 := u3
      subst u3
      dsimp only at u2 u4 u5 u6 u7
      obtain ⟨⟨x4, I4, L4⟩, v1, v2, v3, v4⟩ := c_needSign (c := 41) (L := L2) hT hbT3 (by unfold isSg; decide) ws3.1
      have v2 : L4 = L2 := v2
      subst v2
      dsimp only at v3 v4
      rw [u1, Option.bind_some, v1, Option.bind_some]
      cases g41 : sgB tp T 41 b3
      · obtain ⟨k1, k2⟩ := v4 g41
        rw [k1, xc_l, u2, g41]
        exact JX_no (f := b3) k2.2.2 u5 (CF_C ws3.2.2.2.1 k2) (FRw_o ws4.2.2.2.2.2.1 u4)
      · obtain ⟨k1, k2, k3⟩ := v3 g41
        rw [k1, xc_r, u2, g41]
        have nx3 := nx_lt (tp := tp) (sg_te (tp := tp) (T := T) (b := b3) (c := 41) (by unfold isSg; decide) g41).1
        have e4 : J4 150 = J3 150 := by rw [u4.1 150 (by decide), zu_n _ _ _ (by decide)]
        have e2 : up2 J1 149 12 (nI (dep + 1)) 150 = J 150 := by rw [zu_n _ _ _ (by decide), t4.1 150 (by decide)]
        refine JX_ok ⟨rfl, nx tp T b3, n3, by omega, g2, by omega, WSt_t hd ws4 k2 (u6 g41) k3 u4, ⟨⟨?_, ?_, ?_, ?_⟩, fun k hk => ?_, ?_⟩, fun st hst => ?_⟩
        · exact (congrFun (k3.1 (d + 5) (by omega)) 4).trans (xt3.1.1.trans (congrFun (s4.1 (d + 5) (by omega)) 4))
        · exact (k3.1 (d + 6) (by omega)).trans (xt3.1.2.1.trans (s4.1 (d + 6) (by omega)))
        · exact (k3.1 (d + 7) (by omega)).trans (xt3.1.2.2.1.trans (s4.1 (d + 7) (by omega)))
        · exact (k3.1 (d + 8) (by omega)).trans (xt3.1.2.2.2.trans (s4.1 (d + 8) (by omega)))
        · show J4 150 k = J 150 k
          rw [e4, xt3.2.1 k hk, e2]
        · show J4 149 12 = J 149 12
          rw [u4.2 12 (by decide) (by decide), zu_s, if_pos rfl, hdp]
        · show tyR (sh (J4 150)) n (n3 - n) st = _
          rw [e4]; exact ty3 st (by omega)
    · rw [if_pos (by rw [show (6 : Int32) = nI 6 from rfl]; exact (zI_le (by decide) (by omega)).mpr (by omega)), if_pos (by rw [d1, show dep = 6 by omega]; rfl)]
      obtain ⟨I3, i1, i2⟩ := c_chk_f (L := L) ws.1
      rw [i1, Option.bind_some, xc_l]
      exact JX_no (f := b) i2.2.2 t5 (CF_C ws.2.2.2.1 i2) (FRw_o ws.2.2.2.2.2.1 t4)
  case false =>
  rw [if_neg Bool.false_ne_true, Option.bind_some, if_neg Bool.false_ne_true]
  dsimp only
  have ws1 := WSt_t hd ws ws.1 (t7 g40) (only1_rf _) t4
  obtain ⟨⟨y, J2, M2⟩, u1, u2, u3, u4, u5, u6, u7⟩ := r_passes (i := 59) (L := M1) hT (by decide) ws1.2.1
  have u3 : M2 = M1 := u3
  subst u3
  have ew : wdB tp T 59 b = wdB tp T 21 b := wd_cg rfl
  dsimp only at u2 u4 u5 u6 u7
  rw [ew] at u2 u6 u7
  have o2 := o149_tr t4 u4
  have d2 : J2 149 12 = nI dep := (u4.2 12 (by decide) (by decide)).trans d1
  rw [u1, Option.bind_some, u2]
  dsimp only
  cases g21 : wdB tp T 21 b
  case true =>
    rw [if_pos rfl, if_pos rfl]
    unfold f_X10_readAtom_20 f_X10_readAtom_32
    by_cases h6 : dep < 6
    · rw [show (6 : Int32) = nI 6 from rfl, if_neg (le_n (by decide) (by omega) h6), if_neg (by rw [d2, zI_eq (by omega) (by decide)]; omega), c_chk_t, Option.bind_some, xc_r, d2, zI_1, pfe, Option.bind_some]
      dsimp only
      have nx1 := nx_lt (tp := tp) (wd_te (by decide) g21).1
      obtain ⟨⟨I2, L2⟩, s1, s2, s3, s4⟩ := c_step (L := L) hT hbT ws.1
      have s2 : L2 = L := s2
      subst s2
      have s3 : CT tp T (nx tp T b) I2 := s3
      have s4 : only1 I I2 := s4
      have ws2 := WSt_d (x := nI (dep + 1)) (WSt_t hd ws s3 (u6 g21) s4 o2)
      rw [s1, Option.bind_some, if_pos rfl]
      refine JX_bind (hatom h6 (nx tp T b) n I2 _ (by omega) ws2 (by rw [zu_s, if_pos rfl])) (fun _ o => o) (fun J' o => ⟨J', by dsimp only; rw [if_neg Bool.false_ne_true], rfl, o⟩) ?_
      intro _ v' I3 J3 ⟨e, b3, n3, g1, g2, g3, ws3, xt3, ty3⟩
      subst e
      have hbT3 := (RT_ok ws3.2.1).1
      have d3 : J3 149 12 = nI (dep + 1) := by rw [xt3.2.2, zu_s, if_pos rfl]
      dsimp only
      rw [if_pos rfl, d3, z1, pfe, Option.bind_some]
      have ws4 := WSt_d (x := nI dep) ws3
      obtain ⟨w5, x5, y5⟩ := WSt_e (x := 12) (s := nI 13) (a := 0) hd ws4 (by decide) rfl (by decide) (fun h => by omega) (fun h => by omega)
      rw [c_addCode ws3.2.2.2.2.2.2.1 (by omega), Option.bind_some, show f_X12_emits 13 0 (up2 J3 149 12 (nI dep)) M2 = _ from r_emits ws4.2.2.2.2.2.2.2.1 (by omega), Option.bind_some]
      have e2 : up2 J2 149 12 (nI (dep + 1)) 150 = J 150 := by rw [zu_n _ _ _ (by decide), o2.1 150 (by decide)]
      have e4 : up2 J3 149 12 (nI dep) 150 = J3 150 := zu_n _ _ _ (by decide)
      refine JX_ok ⟨rfl, b3, n3 + 1, by omega, by omega, by omega, w5, ⟨⟨?_, ?_, ?_, ?_⟩, fun k hk => ?_, ?_⟩, fun st hst => ?_⟩
      · exact x5.1.1.trans (xt3.1.1.trans (congrFun (s4.1 (d + 5) (by omega)) 4))
      · exact x5.1.2.1.trans (xt3.1.2.1.trans (s4.1 _ (by omega)))
      · exact x5.1.2.2.1.trans (xt3.1.2.2.1.trans (s4.1 _ (by omega)))
      · exact x5.1.2.2.2.trans (xt3.1.2.2.2.trans (s4.1 _ (by omega)))
      · exact (x5.2.1 k (by omega)).trans (by rw [e4, xt3.2.1 k hk, e2])
      · exact x5.2.2.trans (by rw [zu_s, if_pos rfl, hdp])
      · exact ty_e (by omega) x5.2.1 y5 (by rw [e4]; exact ty3 st (by omega)) tyS_13
    · rw [if_pos (by rw [show (6 : Int32) = nI 6 from rfl]; exact (zI_le (by decide) (by omega)).mpr (by omega)), if_pos (by rw [d2, show dep = 6 by omega]; rfl)]
      obtain ⟨I3, i1, i2⟩ := c_chk_f (L := L) ws.1
      rw [i1, Option.bind_some, xc_l]
      exact JX_no (f := b) i2.2.2 u5 (CF_C ws.2.2.2.1 i2) (FRw_o ws.2.2.2.2.2.1 o2)
  case false =>
  rw [if_neg Bool.false_ne_true, if_neg Bool.false_ne_true, c_pl hT hbT ws.1, Option.bind_some]
  have ws2 := WSt_t hd ws ws.1 (u7 g21) (only1_rf _) o2
  rcases xTag (M := M2) hT ws2.2.1 ws2.2.2.2.2.2.2.2.1 (by omega) with ⟨p1, J3, p2, p3, p4⟩ | ⟨p1, p2, s, a, sN, J3, p3, p4, p5, p6, p7, p8, p9⟩
  · rw [p1, if_pos rfl, p2, Option.bind_some]
    dsimp only
    rw [if_neg Bool.false_ne_true]
    have ws3 := WSt_t hd ws2 ws.1 p3 (only1_rf _) p4
    have key := xCmp (L := L) (M := M2) (ra := qAny) (rb := qAll) (rc := qAtom) hT hd hnb ws3
    rw [← ob (Option.bind (f_X12_readSum J3 M2) _)]
    refine JX_bind key (fun _ o => o) (fun J' o => ⟨J', rfl, rfl, o⟩) ?_
    intro _ v' I4 J4 ⟨e, b4, n4, k1, k2, k3, w4, x4, y4⟩
    exact JX_ok ⟨e, b4, n4, k1, k2, k3, w4, XT_tr (Nat.le_refl _) (XT_t hd (only1_rf _) (o149_tr o2 p4)) x4, fun st hst => y4 st (by omega)⟩
  · have hsN : sN ≤ 15 ∧ sN ≠ 9 := by rcases p5 with h | h | h <;> rw [h] <;> decide
    rw [if_neg p1, p7, Option.bind_some]
    dsimp only
    rw [if_pos rfl]
    have nx1 := nx_lt (tp := tp) p2
    obtain ⟨⟨I2, L2⟩, s1, s2, s3, s4⟩ := c_step (L := L) hT hbT ws.1
    have s2 : L2 = L := s2
    subst s2
    have s3 : CT tp T (nx tp T b) I2 := s3
    have s4 : only1 I I2 := s4
    have ws3 := WSt_t hd ws2 s3 p8 s4 p9
    obtain ⟨w5, x5, y5⟩ := WSt_e hd ws3 p3 p4 hsN.1 p6 (fun h => absurd h hsN.2)
    rw [s1, Option.bind_some]
    dsimp only
    rw [c_addCode ws3.2.2.2.2.2.2.1 (by omega), Option.bind_some]
    refine JX_ok ⟨rfl, nx tp T b, n + 1, nx1.1, by omega, by omega, w5, XT_tr (Nat.le_refl _) (XT_t hd s4 (o149_tr o2 p9)) x5, fun st hst => ?_⟩
    rw [show n + 1 - n = 1 by omega]
    exact (y5 st).trans (tyS_t p5 (by omega))
/-- a condition, at every depth -/
theorem xCond {d : Nat} {tp : Nat → Int32} {T : Nat} {I0 J0 : MI} {L M : ML} (hT : T ≤ 400) (hd : 14 ≤ d) : ∀ m : Nat,
    (∀ dep, dep ≤ 6 → 3 * (6 - dep) + 3 ≤ m → SB9 d dep (2 * dep) tp T I0 J0 L M ((f_g_X10_readAny m).1 d (nI dep)) (f_g_X12_readCond m).1) ∧
    (∀ dep, dep ≤ 6 → 3 * (6 - dep) + 2 ≤ m → SB9 d dep (2 * dep + 1) tp T I0 J0 L M ((f_g_X10_readAny m).2.1 d (nI dep)) (f_g_X12_readCond m).2.1) ∧
    (∀ dep, dep ≤ 6 → 3 * (6 - dep) + 1 ≤ m → SB9 d dep (2 * dep + 2) tp T I0 J0 L M ((f_g_X10_readAny m).2.2 d (nI dep)) (f_g_X12_readCond m).2.2) := by
  intro m
  induction m with
  | zero => exact ⟨fun dep _ h => by omega, fun dep _ h => by omega, fun dep _ h => by omega⟩
  | succ m ih =>
    obtain ⟨i1, i2, i3⟩ := ih
    refine ⟨fun dep h1 h2 => ?_, fun dep h1 h2 => ?_, fun dep h1 h2 => ?_⟩
    · exact xAny hT hd (i2 dep h1 (by omega))
    · exact xAll hT hd (i3 dep h1 (by omega))
    · exact xAtom hT hd h1 (fun h => i1 (dep + 1) (by omega) (by omega)) (fun h => i3 (dep + 1) (by omega) (by omega))
