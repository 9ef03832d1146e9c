-- ===== a will is read: comparisons and tags
theorem ty_tr {w : Nat → Int32} {n n1 n2 : Nat} {st r1 r2 : List Bool} (h : n ≤ n1) (h2 : n1 ≤ n2) (a : tyR w n (n1 - n) st = some r1) (b : tyR w n1 (n2 - n1) r1 = some r2) : tyR w n (n2 - n) st = some r2 := by
  rw [show n2 - n = (n1 - n) + (n2 - n1) by omega, tyR_add, a]
  show tyR w (n + (n1 - n)) (n2 - n1) r1 = _
  rw [show n + (n1 - n) = n1 by omega]; exact b
/-- one step more at the end of a piece -/
theorem ty_e {n n1 sN : Nat} {s a : Int32} {J : MI} {st r1 r2 : List Bool} (h : n ≤ n1) (hx : ∀ k, k < 1343 + 2 * n1 → emR n1 s a J 150 k = J 150 k) (y : ∀ st, tyR (sh (emR n1 s a J 150)) n1 1 st = tyS sN st) (a1 : tyR (sh (J 150)) n (n1 - n) st = some r1) (b : tyS sN r1 = some r2) : tyR (sh (emR n1 s a J 150)) n (n1 + 1 - n) st = some r2 := by
  refine ty_tr h (Nat.le_succ _) (by rw [ty_cg (N := n1) hx (by omega)]; exact a1) ?_
  rw [show n1 + 1 - n1 = 1 by omega, y]; exact b
theorem CF_C {d b : Nat} {I0 I I3 : MI} (f : FCd d I0 I) (i2 : CFl b I I3) : FCd d I0 I3 := ⟨fun q h8 h9 => (i2.1 q h8).trans (f.1 q h8 h9), i2.2.1.trans f.2⟩
theorem tyS_cmp {sN : Nat} {st : List Bool} (h : sN = 11 ∨ sN = 12) : tyS sN (false :: false :: st) = some (true :: st) := by
  rcases h with rfl | rfl <;> (unfold tyS; simp)
theorem xCmp2 {d : Nat} {tp : Nat → Int32} {T b1 n1 : Nat} {I0 J0 I1 J1 : MI} {L M : ML} {y : Bool} {ra rb rc : MI → ML → Option (Bool × MI × ML)} (hT : T ≤ 400) (hd : 14 ≤ d) (hnb : n1 < b1) (ws : WSt d tp T b1 n1 I0 J0 I1 J1) : JX L M false (FCd d I0) (FRw J0) (fun _ v' I' J' => v' = true ∧ ∃ b' n', b1 < b' ∧ n1 < n' ∧ n' + b1 ≤ n1 + b' + 1 ∧ WSt d tp T b' n' I0 J0 I' J' ∧ XT d n1 I1 J1 I' J' ∧ ∀ st : List Bool, st.length ≤ 14 → tyR (sh (J' 150)) n1 (n' - n1) (false :: st) = some (true :: st)) (Option.bind (f_X10_readSum d I1 L) fun w5 => xc w5 fun _ => if y = true then (f_X10_readComparison_55 d 16 w5.2.1 w5.2.2) else (f_X10_readComparison_55 d 17 w5.2.1 w5.2.2)) (f_X12_readAtom_152 ra rb rc y J1 M) := by
  unfold f_X12_readAtom_152
  refine JX_bind (xSum hT hd hnb ws) (fun _ o => o) (fun J' o => ⟨J', by dsimp only; rw [if_neg Bool.false_ne_true]; rfl, rfl, o⟩) ?_
  intro _ v' I2 J2 ⟨e, b2, n2, g1, g2, g3, ws2, xt, ty⟩
  subst e
  have hbT := (RT_ok ws2.2.1).1
  dsimp only
  rw [if_pos rfl]
  unfold f_X10_readComparison_55 f_X12_readAtom_173
  cases y
  · obtain ⟨w3, x3, y3⟩ := WSt_e (x := 17) (s := nI 12) (a := 0) hd ws2 (by decide) rfl (by decide) (fun h => by omega) (fun h => by omega)
    rw [if_neg Bool.false_ne_true, if_neg Bool.false_ne_true, c_addCode ws2.2.2.2.2.2.2.1 (by omega), Option.bind_some, show f_X12_emits 12 0 J2 M = _ from r_emits ws2.2.2.2.2.2.2.2.1 (by omega), Option.bind_some]
    refine JX_ok ⟨rfl, b2, n2 + 1, g1, by omega, by omega, w3, XT_tr (n1 := n2) (by omega) xt x3, fun st hst => ?_⟩
    exact ty_e (by omega) x3.2.1 y3 (ty (false :: st) (by simp; omega)) (tyS_cmp (Or.inr rfl))
  · obtain ⟨w3, x3, y3⟩ := WSt_e (x := 16) (s := nI 11) (a := 0) hd ws2 (by decide) rfl (by decide) (fun h => by omega) (fun h => by omega)
    rw [if_pos rfl, if_pos rfl, c_addCode ws2.2.2.2.2.2.2.1 (by omega), Option.bind_some, show f_X12_emits 11 0 J2 M = _ from r_emits ws2.2.2.2.2.2.2.2.1 (by omega), Option.bind_some]
    refine JX_ok ⟨rfl, b2, n2 + 1, g1, by omega, by omega, w3, XT_tr (n1 := n2) (by omega) xt x3, fun st hst => ?_⟩
    exact ty_e (by omega) x3.2.1 y3 (ty (false :: st) (by simp; omega)) (tyS_cmp (Or.inl rfl))
theorem xCmp {d : Nat} {tp : Nat → Int32} {T b n : Nat} {I0 J0 I J : MI} {L M : ML} {ra rb rc : MI → ML → Option (Bool × MI × ML)} (hT : T ≤ 400) (hd : 14 ≤ d) (hnb : n < b) (ws : WSt d tp T b n I0 J0 I J) : JX L M false (FCd d I0) (FRw J0) (GR d tp T b n I0 J0 I J 14 true) (f_X10_readComparison d I L) (Option.bind (f_X12_readSum J M) fun w7 => if w7.1 = true then (Option.bind (f_X12_sign 60 w7.2.1 w7.2.2) fun w9 => if w9.1 = true then (f_X12_readAtom_152 ra rb rc w9.1 w9.2.1 w9.2.2) else (Option.bind (f_X12_sign 62 w9.2.1 w9.2.2) fun w11 => if w11.1 = true then (f_X12_readAtom_152 ra rb rc w9.1 w11.2.1 w11.2.2) else (f_X12_readAtom_159 ra rb rc w11.2.1 w11.2.2))) else (some (false, w7.2.1, w7.2.2))) := by
  unfold f_X10_readComparison
  refine JX_bind (xSum hT hd hnb ws) (fun _ o => o) (fun J' o => ⟨J', by dsimp only; rw [if_neg Bool.false_ne_true], rfl, o⟩) ?_
  intro _ v' I1 J1 ⟨e, b1, n1, g1, g2, g3, ws1, xt, ty⟩
  subst e
  have hbT := (RT_ok ws1.2.1).1
  obtain ⟨⟨y, J2, M2⟩, t1, t2, t3, t4, t5, t6, t7⟩ := r_sign (c := 60) (L := M) hT (by unfold isSg; decide) ws1.2.1
  have t3 : M2 = M := t3
  subst t3
  dsimp only at t2 t4 t5 t6 t7
  subst t2
  dsimp only
  rw [if_pos rfl, c_isSign hT hbT (by unfold isSg; decide) ws1.1, Option.bind_some, t1, Option.bind_some]
  dsimp only
  -- the sign is there
  have go : ∀ (yy : Bool) (cc : Int32) (J3 : MI), isSg cc → sgB tp T cc b1 = true → RT tp T (nx tp T b1) J3 → o149 J1 J3 → JX L M2 false (FCd d I0) (FRw J0) (GR d tp T b n I0 J0 I J 14 true) (f_X10_readComparison_26 d yy I1 L) (f_X12_readAtom_152 ra rb rc yy J3 M2) := by
    intro yy cc J3 hcc hsg hr3 ho3
    have sg := sg_te hcc hsg
    have nx1 := nx_lt (tp := tp) sg.1
    obtain ⟨⟨I2, L2⟩, s1, s2, s3, s4⟩ := c_step (L := L) hT hbT ws1.1
    have s2 : L2 = L := s2
    subst s2
    have s3 : CT tp T (nx tp T b1) I2 := s3
    have s4 : only1 I1 I2 := s4
    have ws2 := WSt_t hd ws1 s3 hr3 s4 ho3
    unfold f_X10_readComparison_26 f_X10_readComparison_31
    rw [c_chk_t, Option.bind_some, xc_r]
    dsimp only
    rw [s1, Option.bind_some]
    refine JX_mono (xCmp2 hT hd (by omega) ws2) (fun _ o => o) (fun _ o => o) ?_
    intro _ v' I4 J4 ⟨e, b4, n4, k1, k2, k3, ws4, xt4, ty4⟩
    have e3 : J3 150 = J1 150 := ho3.1 150 (by decide)
    refine ⟨e, b4, n4, by omega, by omega, by omega, ws4, XT_tr (n1 := n1) (by omega) xt (XT_tr (Nat.le_refl _) (XT_t hd s4 ho3) xt4), fun st hst => ?_⟩
    refine ty_tr (n1 := n1) (by omega) (by omega) (r1 := false :: st) ?_ (ty4 st hst)
    rw [ty_cg (w := J3 150) (N := n1) xt4.2.1 (by omega), e3]
    exact ty st (by omega)
  cases h60 : sgB tp T 60 b1
  · rw [if_neg Bool.false_ne_true, if_neg Bool.false_ne_true]
    have ws2 := WSt_t hd ws1 ws1.1 (t7 h60) (only1_rf _) t4
    obtain ⟨⟨y, J3, M3⟩, u1, u2, u3, u4, u5, u6, u7⟩ := r_sign (c := 62) (L := M2) hT (by unfold isSg; decide) ws2.2.1
    have u3 : M3 = M2 := u3
    subst u3
    dsimp only at u2 u4 u5 u6 u7
    subst u2
    rw [c_isSign hT hbT (by unfold isSg; decide) ws1.1, Option.bind_some, u1, Option.bind_some]
    dsimp only
    cases h62 : sgB tp T 62 b1
    · rw [if_neg Bool.false_ne_true, if_neg Bool.false_ne_true]
      obtain ⟨I3, i1, i2⟩ := c_chk_f (L := L) ws1.1
      unfold f_X10_readComparison_31 f_X12_readAtom_159
      rw [i1, Option.bind_some, xc_l]
      exact JX_no (f := b1) i2.2.2 u5 (CF_C ws1.2.2.2.1 i2) (FRw_o ws1.2.2.2.2.2.1 (o149_tr t4 u4))
    · rw [if_pos rfl, if_pos rfl]
      exact go false 62 J3 (by unfold isSg; decide) h62 (u6 h62) (o149_tr t4 u4)
  · rw [if_pos rfl, if_pos rfl]
    exact go true 60 J2 (by unfold isSg; decide) h60 (t6 h60) t4
-- words exclude each other
theorem wd_c0 {tp : Nat → Int32} {T i b : Nat} (hs : 1 ≤ sLen i) (h : wdB tp T i b = true) : tp b = sChr i 0 := by
  unfold wdB at h
  rw [Bool.and_eq_true] at h
  cases h1 : wEq tp i b 1
  · have := wEq_f h1 (sLen i - 1)
    rw [show 1 + (sLen i - 1) = sLen i by omega] at this
    rw [this] at h; exact absurd h.2 Bool.false_ne_true
  · have h2 : (wEq tp i b 0 && decide (tp (b + 0) = sChr i 0)) = true := h1
    rw [Bool.and_eq_true, decide_eq_true_iff] at h2
    exact h2.2
theorem wd_x {tp : Nat → Int32} {T i j b : Nat} (hi : 1 ≤ sLen i) (hj : 1 ≤ sLen j) (hc : sChr i 0 ≠ sChr j 0) (h : wdB tp T i b = true) : wdB tp T j b = false := by
  cases h2 : wdB tp T j b
  · rfl
  · exact absurd ((wd_c0 hi h).symm.trans (wd_c0 hj h2)) hc
def pl (tp : Nat → Int32) (T b : Nat) : Int32 := if wdB tp T 22 b = true then 4 else if wdB tp T 23 b = true then 5 else kd tp T b
theorem c_pl {tp : Nat → Int32} {T b : Nat} {I : MI} {L : ML} (hT : T ≤ 400) (hb : b ≤ T) (h : CT tp T b I) : f_X10_plainCode I L = some (pl tp T b) := by
  unfold f_X10_plainCode f_X10_plainCode_30 pl
  rw [c_isWord hT hb (by decide) h, c_isWord hT hb (by decide) h, c_kind hT hb h]
  cases wdB tp T 22 b <;> cases wdB tp T 23 b <;> rfl
theorem kd_0 {tp : Nat → Int32} {T i b : Nat} (hi : i = 22 ∨ i = 23) (h : wdB tp T i b = true) : kd tp T b = -1 := by
  have hs : 1 ≤ sLen i := by rcases hi with rfl | rfl <;> decide
  have e7 := wd_x (j := 7) hs (by decide) (by rcases hi with rfl | rfl <;> decide) h
  have e8 := wd_x (j := 8) hs (by decide) (by rcases hi with rfl | rfl <;> decide) h
  have e9 := wd_x (j := 9) hs (by decide) (by rcases hi with rfl | rfl <;> decide) h
  have e10 := wd_x (j := 10) hs (by decide) (by rcases hi with rfl | rfl <;> decide) h
  unfold kd
  rw [e7, e8, e9, e10]; rfl
theorem enc_6w {a : Int32} : enc (nI 6) a = a := by unfold enc; rw [if_pos (by decide)]
/-- a tag, or none -/
theorem xTag {tp : Nat → Int32} {T b n : Nat} {J : MI} {M : ML} (hT : T ≤ 400) (hr : RT tp T b J) (hJ : J 149 15 = nI n) (hn : n < 400) :
    (pl tp T b = -1 ∧ ∃ J', f_X12_readTag J M = some (false, J', M) ∧ RT tp T b J' ∧ o149 J J') ∨ (pl tp T b ≠ -1 ∧ b < T ∧ ∃ (s a : Int32) (sN : Nat) (J1 : MI), pl tp T b = enc s a ∧ s = nI sN ∧ (sN = 6 ∨ sN = 7 ∨ sN = 8) ∧ (sN = 6 → ∃ m, a = nI m ∧ m ≤ 3) ∧ f_X12_readTag J M = some (true, emR n s a J1, M) ∧ RT tp T (nx tp T b) J1 ∧ o149 J J1) := by
  have hok := RT_ok hr
  have hbT := hok.1
  obtain ⟨⟨J1, M1⟩, j1, j2, j3, j4⟩ := r_letters (L := M) hT hr
  have j2 : M1 = M := j2
  subst j2
  have j3 : RLe tp T b (rn (isLe tp) T b) J1 := j3
  have j4 : o149 J J1 := j4
  have e15 : J1 149 15 = nI n := (j4.2 15 (by decide) (by decide)).trans hJ
  have ep : f_X12_readTag J M1 = f_X12_readTag_57 (kd tp T b) J1 M1 := by
    unfold f_X12_readTag
    rw [j1, Option.bind_some]
    dsimp only
    rw [r_isWord hT hbT (by decide) j3, r_isWord hT hbT (by decide) j3, r_isWord hT hbT (by decide) j3, r_isWord hT hbT (by decide) j3]
    rw [show wdB tp T 46 b = wdB tp T 7 b from wd_cg rfl, show wdB tp T 47 b = wdB tp T 8 b from wd_cg rfl, show wdB tp T 48 b = wdB tp T 9 b from wd_cg rfl, show wdB tp T 49 b = wdB tp T 10 b from wd_cg rfl]
    unfold kd
    cases wdB tp T 7 b <;> cases wdB tp T 8 b <;> cases wdB tp T 9 b <;> cases wdB tp T 10 b <;> rfl
  have q60 : f_X12_isWord 60 J1 M1 = some (wdB tp T 22 b) := by rw [r_isWord hT hbT (by decide) j3, show wdB tp T 60 b = wdB tp T 22 b from wd_cg rfl]
  have q61 : f_X12_isWord 61 J1 M1 = some (wdB tp T 23 b) := by rw [r_isWord hT hbT (by decide) j3, show wdB tp T 61 b = wdB tp T 23 b from wd_cg rfl]
  have good : ∀ {i : Nat} (s a : Int32) (sN : Nat), 1 ≤ sLen i → wdB tp T i b = true → s = nI sN → ¬ s < 0 → f_X12_readTag J M1 = f_X12_readTag_96 a s J1 M1 → b < T ∧ f_X12_readTag J M1 = some (true, emR n s a J1, M1) ∧ RT tp T (nx tp T b) J1 := by
    intro i s a sN hi hw hs hs0 e
    have htw := wd_te hi hw
    rw [← htw.2.1] at j3
    refine ⟨htw.1, ?_, RLe_nx hbT j3⟩
    rw [e]
    unfold f_X12_readTag_96 f_X12_readTag_118
    rw [if_neg hs0, r_emits e15 hn, Option.bind_some, if_neg hs0]; rfl
  unfold f_X12_readTag_57 at ep
  rw [q60, Option.bind_some, q61, Option.bind_some] at ep
  rcases kd_c (tp := tp) (T := T) (b := b) with e | ⟨k, i, hk, hi, e, g⟩
  · rw [e, if_pos (by decide)] at ep
    unfold pl
    rw [e]
    cases g22 : wdB tp T 22 b
    · rw [g22, if_neg Bool.false_ne_true] at ep
      cases g23 : wdB tp T 23 b
      · rw [g23, if_neg Bool.false_ne_true] at ep
        unfold f_X12_readTag_96 f_X12_readTag_118 at ep
        rw [if_pos (by decide), pfe, Option.bind_some, if_pos (by decide), j3.2.2] at ep
        exact Or.inl ⟨rfl, _, ep, ⟨RTx_o j3.1 o149_9, b, by rw [zu_s, if_pos rfl], hbT, hok.2⟩, o149_tr j4 o149_9⟩
      · rw [g23, if_pos rfl] at ep
        obtain ⟨h1, h2, h3⟩ := good (i := 23) 8 (-1) 8 (by decide) g23 rfl (by decide) ep
        exact Or.inr ⟨by decide, h1, 8, -1, 8, J1, by decide, rfl, Or.inr (Or.inr rfl), fun h => by omega, h2, h3, j4⟩
    · rw [g22, if_pos rfl] at ep
      obtain ⟨h1, h2, h3⟩ := good (i := 22) 7 (-1) 7 (by decide) g22 rfl (by decide) ep
      exact Or.inr ⟨by rw [if_pos rfl]; decide, h1, 7, -1, 7, J1, by rw [if_pos rfl]; decide, rfl, Or.inr (Or.inl rfl), fun h => by omega, h2, h3, j4⟩
  · rw [e, if_neg (ng_n (by omega))] at ep
    have g22 : wdB tp T 22 b = false := by
      cases h : wdB tp T 22 b
      · rfl
      · have := kd_0 (Or.inl rfl) h
        rw [e] at this; exact absurd this (nI_nem (by omega))
    have g23 : wdB tp T 23 b = false := by
      cases h : wdB tp T 23 b
      · rfl
      · have := kd_0 (Or.inr rfl) h
        rw [e] at this; exact absurd this (nI_nem (by omega))
    have epl : pl tp T b = nI k := by unfold pl; rw [g22, g23]; exact e
    obtain ⟨h1, h2, h3⟩ := good (i := i) 6 (nI k) 6 hi g rfl (by decide) ep
    exact Or.inr ⟨by rw [epl]; exact nI_nem (by omega), h1, 6, nI k, 6, J1, by rw [epl]; exact enc_6w.symm, rfl, Or.inl rfl, fun _ => ⟨k, rfl, hk⟩, h2, h3, j4⟩
