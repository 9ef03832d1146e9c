-- ===== a will is read: conditions
theorem c_takes_t {tp : Nat → Int32} {T i b : Nat} {I : MI} {L : ML} (hT : T ≤ 400) (hb : b ≤ T) (hs : 1 ≤ sLen i ∧ sLen i ≤ 8) (h : CT tp T b I) (hw : wdB tp T i b = true) : ∃ J, f_X8_takesWord i I L = some (true, J, L) ∧ CT tp T (nx tp T b) J ∧ only1 I J := by
  obtain ⟨⟨I2, L2⟩, s1, s2, s3, s4⟩ := c_step (L := L) hT hb h
  have s2 : L2 = L := s2
  subst s2
  refine ⟨I2, ?_, s3, s4⟩
  unfold f_X8_takesWord f_X8_takesWord_14
  rw [c_isWord hT hb hs h, Option.bind_some, hw, if_pos rfl, s1, Option.bind_some]
theorem c_takes_f {tp : Nat → Int32} {T i b : Nat} {I : MI} {L : ML} (hT : T ≤ 400) (hb : b ≤ T) (hs : 1 ≤ sLen i ∧ sLen i ≤ 8) (h : CT tp T b I) (hw : wdB tp T i b = false) : f_X8_takesWord i I L = some (false, I, L) := by
  unfold f_X8_takesWord f_X8_takesWord_14
  rw [c_isWord hT hb hs h, Option.bind_some, hw, if_neg Bool.false_ne_true]
theorem tyS_13 {st : List Bool} : tyS 13 (true :: st) = some (true :: st) := by
  cases st with
  | nil => unfold tyS; simp
  | cons x r => unfold tyS; simp
theorem tyS_j {sN : Nat} {st : List Bool} (h : sN = 14 ∨ sN = 15) : tyS sN (true :: true :: st) = some (true :: st) := by
  rcases h with rfl | rfl <;> (unfold tyS; simp)
/-- the depth alone is given anew -/
theorem WSt_d {d : Nat} {tp : Nat → Int32} {T b n : Nat} {x : Int32} {I0 J0 I J : MI} (h : WSt d tp T b n I0 J0 I J) : WSt d tp T b n I0 J0 I (up2 J 149 12 x) := by
  obtain ⟨a1, a2, a3, a4, a5, a6, a7, a8, a9⟩ := h
  have e : up2 J 149 12 x 150 = J 150 := zu_n _ _ _ (by decide)
  refine ⟨a1, ?_, a3, a4, a5, FRw_f a6 (Or.inl rfl), a7, by rw [zu_s, if_neg (by decide)]; exact a8, fun i hi => by rw [e]; exact a9 i hi⟩
  obtain ⟨⟨x1, x2⟩, p, p1, p2⟩ := a2
  exact ⟨⟨by rw [zu_s, if_neg (by decide)]; exact x1, by rw [zu_n _ _ _ (by decide)]; exact x2⟩, p, by rw [zu_s, if_neg (by decide)]; exact p1, p2⟩
/-- a sub-condition -/
def SB9 (d dep bd : Nat) (tp : Nat → Int32) (T : Nat) (I0 J0 : MI) (L M : ML) (ca : MI → ML → Option ((String ⊕ Unit) × MI × ML)) (cb : MI → ML → Option (Bool × MI × ML)) : Prop := ∀ (b n : Nat) (I J : MI), n < b → WSt d tp T b n I0 J0 I J → J 149 12 = nI dep → JX L M false (FCd d I0) (FRw J0) (GR d tp T b n I0 J0 I J bd true) (ca I L) (cb J M)
theorem xAllL {d dep : Nat} {tp : Nat → Int32} {T b n : Nat} {I0 J0 Ib Jb : MI} {L M : ML} {rAny rAll rAtom : Nat → Int32 → MI → ML → Option ((String ⊕ Unit) × MI × ML)} {qAny qAll qAtom : MI → ML → Option (Bool × MI × ML)} (hT : T ≤ 400) (hd : 14 ≤ d) (hsub : SB9 d dep (2 * dep + 2) tp T I0 J0 L M (rAtom d (nI dep)) qAtom) : ∀ (m k f g b1 n1 : Nat) (I J : MI), T - b1 = m → k < b1 → n1 < b1 → WSt d tp T b1 n1 I0 J0 I J → J 149 12 = nI dep → m < f → m < g → b < b1 → n < n1 → n1 + b ≤ n + b1 → XT d n Ib Jb I J → (∀ st : List Bool, st.length ≤ (2 * dep + 1) → tyR (sh (J 150)) n (n1 - n) st = some (true :: st)) →
    JX L M false (FCd d I0) (FRw J0) (GR d tp T b n I0 J0 Ib Jb (2 * dep + 1) true) (f_X10_readAll_8 rAny rAll rAtom f d (nI dep) (nI k) I L) (f_X12_readAllOf_9 qAny qAll qAtom g J M) := by
  intro m
  induction m using Nat.strongRecOn with
  | ind m ih =>
    intro k f g b1 n1 I J hm hk hn1 ws hdp hf hg hb hn hnb xt ty
    obtain ⟨f, rfl⟩ : ∃ f', f = f' + 1 := ⟨f - 1, by omega⟩
    obtain ⟨g, rfl⟩ : ∃ g', g = g' + 1 := ⟨g - 1, by omega⟩
    have hok := RT_ok ws.2.1
    have hbT := hok.1
    obtain ⟨⟨y, J2, M2⟩, t1, t2, t3, t4, t5, t6, t7⟩ := r_passes (i := 64) (L := M) hT (by decide) ws.2.1
    have t3 : M2 = M := t3
    subst t3
    have ew : wdB tp T 64 b1 = wdB tp T 30 b1 := wd_cg rfl
    dsimp only at t2 t4 t5 t6 t7
    rw [ew] at t2 t6 t7
    unfold f_X10_readAll_8 f_X12_readAllOf_9
    rw [show (400 : Int32) = nI 400 from rfl, if_neg (le_n (by decide) (by omega) (by omega)), t1, Option.bind_some]
    dsimp only
    cases hw : wdB tp T 30 b1
    · rw [hw] at t2
      subst t2
      rw [c_takes_f hT hbT (by decide) ws.1 hw, Option.bind_some, if_neg Bool.false_ne_true, if_neg Bool.false_ne_true]
      have e := t4.1 150 (by decide)
      exact JX_ok ⟨rfl, b1, n1, hb, hn, hnb, WSt_t hd ws ws.1 (t7 hw) (only1_rf _) t4, XT_tr (Nat.le_refl _) xt (XT_t hd (only1_rf _) t4), fun st hst => by show tyR (sh (J2 150)) n (n1 - n) st = _; rw [e]; exact ty st hst⟩
    · rw [hw] at t2
      subst t2
      have hbl := (wd_te (by decide) hw).1
      have nx1 := nx_lt (tp := tp) hbl
      obtain ⟨I2, s1, s3, s4⟩ := c_takes_t (L := L) hT hbT (by decide) ws.1 hw
      have ws2 := WSt_t hd ws s3 (t6 hw) s4 t4
      rw [s1, Option.bind_some, if_pos rfl, if_pos rfl]
      dsimp only
      refine JX_bind (hsub (nx tp T b1) n1 I2 J2 (by omega) ws2 ((t4.2 12 (by decide) (by decide)).trans hdp)) (fun _ o => o) (fun J' o => ⟨J', by dsimp only; rw [if_neg Bool.false_ne_true], rfl, o⟩) ?_
      intro _ v' I3 J3 ⟨e, b3, n3, g1, g2, g3, ws3, xt3, ty3⟩
      subst e
      have hbT3 := (RT_ok ws3.2.1).1
      obtain ⟨w4, x4, y4⟩ := WSt_e (x := 14) (s := nI 14) (a := 0) hd ws3 (by decide) rfl (by decide) (fun h => by omega) (fun h => by omega)
      dsimp only
      rw [if_pos rfl, c_addCode ws3.2.2.2.2.2.2.1 (by omega), Option.bind_some, show f_X12_emits 14 0 J3 M2 = _ from r_emits ws3.2.2.2.2.2.2.2.1 (by omega), Option.bind_some, zI_1]
      have xtl : XT d n Ib Jb (emC d n3 14 I3) (emR n3 (nI 14) 0 J3) := XT_tr (n1 := n1) (by omega) xt (XT_tr (Nat.le_refl _) (XT_t hd s4 t4) (XT_tr (n1 := n3) (by omega) xt3 x4))
      refine ih (T - b3) (by omega) (k + 1) f g b3 (n3 + 1) (emC d n3 14 I3) (emR n3 (nI 14) 0 J3) rfl (by omega) (by omega) w4 ?_ (by omega) (by omega) (by omega) (by omega) (by omega) xtl ?_
      · rw [x4.2.2, xt3.2.2, t4.2 12 (by decide) (by decide)]; exact hdp
      · intro st hst
        have e2 : J2 150 = J 150 := t4.1 150 (by decide)
        refine ty_e (by omega) x4.2.1 y4 (r1 := true :: true :: st) ?_ (tyS_j (Or.inl rfl))
        refine ty_tr (n1 := n1) (by omega) (by omega) (r1 := true :: st) ?_ (ty3 (true :: st) (by simp; omega))
        rw [ty_cg (w := J2 150) (N := n1) xt3.2.1 (by omega), e2]
        exact ty st hst
theorem xAll {d dep : Nat} {tp : Nat → Int32} {T : Nat} {I0 J0 : MI} {L M : ML} {rAny rAll rAtom : Nat → Int32 → MI → ML → Option ((String ⊕ Unit) × MI × ML)} {qAny qAll qAtom : MI → ML → Option (Bool × MI × ML)} (hT : T ≤ 400) (hd : 14 ≤ d) (hsub : SB9 d dep (2 * dep + 2) tp T I0 J0 L M (rAtom d (nI dep)) qAtom) : SB9 d dep (2 * dep + 1) tp T I0 J0 L M (F_X10_readAll rAny rAll rAtom d (nI dep)) (F_X12_readAllOf qAny qAll qAtom) := by
  intro b n I J hnb ws hdp
  unfold F_X10_readAll F_X12_readAllOf
  refine JX_bind (hsub b n I J hnb ws hdp) (fun _ o => o) (fun J' o => ⟨J', by dsimp only; rw [if_neg Bool.false_ne_true], rfl, o⟩) ?_
  intro _ v' I1 J1 ⟨e, b1, n1, g1, g2, g3, ws1, xt1, ty1⟩
  subst e
  dsimp only
  rw [if_pos rfl]
  have hbT1 := (RT_ok ws1.2.1).1
  exact xAllL hT hd hsub (T - b1) 0 FU FU b1 n1 I1 J1 rfl (by omega) (by omega) ws1 (xt1.2.2.trans hdp) (by unfold FU; omega) (by unfold FU; omega) g1 g2 g3 xt1 (fun st hst => ty1 st (by omega))
theorem xAnyL {d dep : Nat} {tp : Nat → Int32} {T b n : Nat} {I0 J0 Ib Jb : MI} {L M : ML} {rAny rAll rAtom : Nat → Int32 → MI → ML → Option ((String ⊕ Unit) × MI × ML)} {qAny qAll qAtom : MI → ML → Option (Bool × MI × ML)} (hT : T ≤ 400) (hd : 14 ≤ d) (hsub : SB9 d dep (2 * dep + 1) tp T I0 J0 L M (rAll d (nI dep)) qAll) : ∀ (m k f g b1 n1 : Nat) (I J : MI), T - b1 = m → k < b1 → n1 < b1 → WSt d tp T b1 n1 I0 J0 I J → J 149 12 = nI dep → m < f → m < g → b < b1 → n < n1 → n1 + b ≤ n + b1 → XT d n Ib Jb I J → (∀ st : List Bool, st.length ≤ (2 * dep) → tyR (sh (J 150)) n (n1 - n) st = some (true :: st)) →
    JX L M false (FCd d I0) (FRw J0) (GR d tp T b n I0 J0 Ib Jb (2 * dep) true) (f_X10_readAny_8 rAny rAll rAtom f d (nI dep) (nI k) I L) (f_X12_readCond_9 qAny qAll qAtom g J M) := by
  intro m
  induction m using Nat.strongRecOn with
  | ind m ih =>
    intro k f g b1 n1 I J hm hk hn1 ws hdp hf hg hb hn hnb xt ty
    obtain ⟨f, rfl⟩ : ∃ f', f = f' + 1 := ⟨f - 1, by omega⟩
    obtain ⟨g, rfl⟩ : ∃ g', g = g' + 1 := ⟨g - 1, by omega⟩
    have hok := RT_ok ws.2.1
    have hbT := hok.1
    obtain ⟨⟨y, J2, M2⟩, t1, t2, t3, t4, t5, t6, t7⟩ := r_passes (i := 65) (L := M) hT (by decide) ws.2.1
    have t3 : M2 = M := t3
    subst t3
    have ew : wdB tp T 65 b1 = wdB tp T 31 b1 := wd_cg rfl
    dsimp only at t2 t4 t5 t6 t7
    rw [ew] at t2 t6 t7
    unfold f_X10_readAny_8 f_X12_readCond_9
    rw [show (400 : Int32) = nI 400 from rfl, if_neg (le_n (by decide) (by omega) (by omega)), t1, Option.bind_some]
    dsimp only
    cases hw : wdB tp T 31 b1
    · rw [hw] at t2
      subst t2
      rw [c_takes_f hT hbT (by decide) ws.1 hw, Option.bind_some, if_neg Bool.false_ne_true, if_neg Bool.false_ne_true]
      have e := t4.1 150 (by decide)
      exact JX_ok ⟨rfl, b1, n1, hb, hn, hnb, WSt_t hd ws ws.1 (t7 hw) (only1_rf _) t4, XT_tr (Nat.le_refl _) xt (XT_t hd (only1_rf _) t4), fun st hst => by show tyR (sh (J2 150)) n (n1 - n) st = _; rw [e]; exact ty st hst⟩
    · rw [hw] at t2
      subst t2
      have hbl := (wd_te (by decide) hw).1
      have nx1 := nx_lt (tp := tp) hbl
      obtain ⟨I2, s1, s3, s4⟩ := c_takes_t (L := L) hT hbT (by decide) ws.1 hw
      have ws2 := WSt_t hd ws s3 (t6 hw) s4 t4
      rw [s1, Option.bind_some, if_pos rfl, if_pos rfl]
      dsimp only
      refine JX_bind (hsub (nx tp T b1) n1 I2 J2 (by omega) ws2 ((t4.2 12 (by decide) (by decide)).trans hdp)) (fun _ o => o) (fun J' o => ⟨J', by dsimp only; rw [if_neg Bool.false_ne_true], rfl, o⟩) ?_
      intro _ v' I3 J3 ⟨e, b3, n3, g1, g2, g3, ws3, xt3, ty3⟩
      subst e
      have hbT3 := (RT_ok ws3.2.1).1
      obtain ⟨w4, x4, y4⟩ := WSt_e (x := 13) (s := nI 15) (a := 0) hd ws3 (by decide) rfl (by decide) (fun h => by omega) (fun h => by omega)
      dsimp only
      rw [if_pos rfl, c_addCode ws3.2.2.2.2.2.2.1 (by omega), Option.bind_some, show f_X12_emits 15 0 J3 M2 = _ from r_emits ws3.2.2.2.2.2.2.2.1 (by omega), Option.bind_some, zI_1]
      have xtl : XT d n Ib Jb (emC d n3 13 I3) (emR n3 (nI 15) 0 J3) := XT_tr (n1 := n1) (by omega) xt (XT_tr (Nat.le_refl _) (XT_t hd s4 t4) (XT_tr (n1 := n3) (by omega) xt3 x4))
      refine ih (T - b3) (by omega) (k + 1) f g b3 (n3 + 1) (emC d n3 13 I3) (emR n3 (nI 15) 0 J3) rfl (by omega) (by omega) w4 ?_ (by omega) (by omega) (by omega) (by omega) (by omega) xtl ?_
      · rw [x4.2.2, xt3.2.2, t4.2 12 (by decide) (by decide)]; exact hdp
      · intro st hst
        have e2 : J2 150 = J 150 := t4.1 150 (by decide)
        refine ty_e (by omega) x4.2.1 y4 (r1 := true :: true :: st) ?_ (tyS_j (Or.inr rfl))
        refine ty_tr (n1 := n1) (by omega) (by omega) (r1 := true :: st) ?_ (ty3 (true :: st) (by simp; omega))
        rw [ty_cg (w := J2 150) (N := n1) xt3.2.1 (by omega), e2]
        exact ty st hst
theorem xAny {d dep : Nat} {tp : Nat → Int32} {T : Nat} {I0 J0 : MI} {L M : ML} {rAny rAll rAtom : Nat → Int32 → MI → ML → Option ((String ⊕ Unit) × MI × ML)} {qAny qAll qAtom : MI → ML → Option (Bool × MI × ML)} (hT : T ≤ 400) (hd : 14 ≤ d) (hsub : SB9 d dep (2 * dep + 1) tp T I0 J0 L M (rAll d (nI dep)) qAll) : SB9 d dep (2 * dep) tp T I0 J0 L M (F_X10_readAny rAny rAll rAtom d (nI dep)) (F_X12_readCond qAny qAll qAtom) := by
  intro b n I J hnb ws hdp
  unfold F_X10_readAny F_X12_readCond
  refine JX_bind (hsub b n I J hnb ws hdp) (fun _ o => o) (fun J' o => ⟨J', by dsimp only; rw [if_neg Bool.false_ne_true], rfl, o⟩) ?_
  intro _ v' I1 J1 ⟨e, b1, n1, g1, g2, g3, ws1, xt1, ty1⟩
  subst e
  dsimp only
  rw [if_pos rfl]
  have hbT1 := (RT_ok ws1.2.1).1
  exact xAnyL hT hd hsub (T - b1) 0 FU FU b1 n1 I1 J1 rfl (by omega) (by omega) ws1 (xt1.2.2.trans hdp) (by unfold FU; omega) (by unfold FU; omega) g1 g2 g3 xt1 (fun st hst => ty1 st (by omega))
