-- ===== all lines of a house
theorem obif {o : Option (Bool × MI × ML)} : (Option.bind o fun w5 => if w5.1 = true then (f_X12_readLine_41 w5.2.1 w5.2.2) else (f_X12_readLine_45 w5.2.1 w5.2.2)) = o := by
  cases o with
  | none => rfl
  | some w =>
    obtain ⟨x, J, M⟩ := w
    cases x <;> rfl
theorem r_line {n : Nat} {J J1 : MI} {M : ML} (hn : n < 14) (h : f_X12_letters J M = some (J1, M)) : f_X12_readLine true (nI n) J M = f_X12_readHouseLine J1 M := by
  unfold f_X12_readLine f_X12_readLine_16
  rw [h, Option.bind_some, if_pos rfl, show (14 : Int32) = nI 14 from rfl, if_neg (le_n (by decide) (by omega) hn), if_pos rfl]
  exact obif
theorem r_line14 {J J1 : MI} {M : ML} (h : f_X12_letters J M = some (J1, M)) : f_X12_readLine true (nI 14) J M = some (false, J1, M) := by
  unfold f_X12_readLine f_X12_readLine_16
  rw [h, Option.bind_some, if_pos rfl, if_pos (by decide)]
  rfl
theorem so0 {tp : Nat → Int32} {T b : Nat} : so tp T b = 0 ↔ T ≤ b := by
  unfold so
  by_cases h : T ≤ b
  · rw [if_pos h]; exact ⟨fun _ => h, fun _ => rfl⟩
  · rw [if_neg h]
    refine ⟨fun h9 => ?_, fun h9 => absurd h9 h⟩
    split at h9
    · exact absurd h9 (by decide)
    · split at h9 <;> exact absurd h9 (by decide)
/-- what comes behind a line, the class -/
theorem c_next_s {tp : Nat → Int32} {T b : Nat} {I : MI} {L : ML} (hT : T ≤ 400) (hb : b ≤ T) (h : CT tp T b I) (hg : sgB tp T 59 b = true) : ∃ I', f_X8_hasNextLine I L = some (.inr true, I', L) ∧ CT tp T (nx tp T b) I' ∧ only1 I I' := by
  obtain ⟨⟨I2, L2⟩, s1, s2, s3, s4⟩ := c_step (L := L) hT hb h
  have s2 : L2 = L := s2
  subst s2
  refine ⟨I2, ?_, s3, s4⟩
  unfold f_X8_hasNextLine f_X8_takesSign f_X8_takesSign_14
  rw [c_isSign hT hb (by unfold isSg; decide) h, Option.bind_some, hg, if_pos rfl, s1, Option.bind_some, Option.bind_some, if_pos rfl]
theorem c_next_e {tp : Nat → Int32} {T b : Nat} {I : MI} {L : ML} (hT : T ≤ 400) (hb : b ≤ T) (h : CT tp T b I) (hg : sgB tp T 59 b = false) (he : T ≤ b) : f_X8_hasNextLine I L = some (.inr false, I, L) := by
  unfold f_X8_hasNextLine f_X8_takesSign f_X8_takesSign_14 f_X8_isOver f_X8_isOver_12
  rw [c_isSign hT hb (by unfold isSg; decide) h, Option.bind_some, hg, if_neg Bool.false_ne_true, Option.bind_some, if_neg Bool.false_ne_true, if_pos (h.2.2.2.1.trans (so0.mpr he)), Option.bind_some, c_chk_t, Option.bind_some, xc_r]
theorem c_next_n {tp : Nat → Int32} {T b : Nat} {I : MI} {L : ML} (hT : T ≤ 400) (hb : b ≤ T) (h : CT tp T b I) (hg : sgB tp T 59 b = false) (he : ¬ T ≤ b) : ∃ I', f_X8_hasNextLine I L = some (.inl IAE, I', L) ∧ CFl b I I' := by
  obtain ⟨I3, i1, i2⟩ := c_chk_f (L := L) h
  refine ⟨I3, ?_, i2⟩
  unfold f_X8_hasNextLine f_X8_takesSign f_X8_takesSign_14 f_X8_isOver f_X8_isOver_12
  rw [c_isSign hT hb (by unfold isSg; decide) h, Option.bind_some, hg, if_neg Bool.false_ne_true, Option.bind_some, if_neg Bool.false_ne_true, if_neg (fun h9 => he (so0.mp (h.2.2.2.1.symm.trans h9))), Option.bind_some, i1, Option.bind_some, xc_l]
def SE (c d : Nat) (tp : Nat → Int32) (T : Nat) (L : ML) (I0 J0 : MI) (_ : Unit) (v' : Int32) (I' J' : MI) : Prop := (∃ k, v' = nI k ∧ k ≤ 15) ∧ ∃ b', LSt c d tp T L b' I0 J0 I' J'
theorem xLoop {c d : Nat} {tp : Nat → Int32} {T : Nat} {I0 J0 : MI} {L M : ML} (hT : T ≤ 400) (hd : 14 ≤ d) : ∀ (m n b fc fr : Nat) (I J : MI), 14 - n = m → n ≤ 14 → LSt c d tp T L b I0 J0 I J → m < fc → m < fr →
    JX L M (-1) (FCd d I0) (FRd J0) (SE c d tp T L I0 J0) (f_X4_read_15 fc d true (nI n) I L) (f_X12_readAll_28 fr true (nI n) J M) := by
  intro m
  induction m with
  | zero =>
    intro n b fc fr I J hm hn ls hfc hfr
    obtain ⟨f, rfl⟩ : ∃ f, fc = f + 1 := ⟨fc - 1, by omega⟩
    obtain ⟨g, rfl⟩ : ∃ g, fr = g + 1 := ⟨fr - 1, by omega⟩
    have e : n = 14 := by omega
    subst e
    obtain ⟨⟨J1, M1⟩, j1, j2, j3, j4⟩ := r_letters (L := M) hT ls.2.1
    have j2 : M1 = M := j2
    subst j2
    obtain ⟨I3, i1, i2⟩ := c_chk_f (L := L) ls.1
    unfold f_X4_read_15 f_X4_read_37 f_X12_readAll_28
    rw [if_pos rfl, if_neg (by decide), if_pos (by decide), i1, Option.bind_some, xc_l, r_line14 j1, Option.bind_some, if_neg Bool.false_ne_true]
    exact JX_no (f := b) i2.2.2 j3.2.2 ⟨fun q h8 h9 => (i2.1 q h8).trans (ls.2.2.2.1.1 q h8 h9), i2.2.1.trans ls.2.2.2.1.2⟩ (FRd_o ls.2.2.2.2.1 j4)
  | succ m ih =>
    intro n b fc fr I J hm hn ls hfc hfr
    obtain ⟨f, rfl⟩ : ∃ f, fc = f + 1 := ⟨fc - 1, by omega⟩
    obtain ⟨g, rfl⟩ : ∃ g, fr = g + 1 := ⟨fr - 1, by omega⟩
    obtain ⟨⟨J1, M1⟩, j1, j2, j3, j4⟩ := r_letters (L := M) hT ls.2.1
    have j2 : M1 = M := j2
    subst j2
    unfold f_X4_read_15 f_X4_read_37 f_X12_readAll_28
    rw [if_pos rfl, show (14 : Int32) = nI 14 from rfl, if_neg (by rw [zI_lt (by decide) (by omega)]; omega), if_neg (le_n (by decide) (by omega) (by omega)), c_chk_t, Option.bind_some, xc_r, r_line (by omega) j1]
    refine JX_bind (jLine hT hd ls j3 j4) (fun _ o => o) (fun J' o => ⟨J', by dsimp only; rw [if_neg Bool.false_ne_true], rfl, o⟩) ?_
    intro _ v' I2 J2 ⟨e, b2, ls2⟩
    subst e
    have hok := RT_ok ls2.2.1
    obtain ⟨⟨J3, M3⟩, t1, t2, t3, t4⟩ := r_blanks (L := M1) hT ls2.2.1
    have t2 : M3 = M1 := t2
    subst t2
    have t3 : RLe tp T b2 b2 J3 := t3
    have t4 : o149 J2 J3 := t4
    dsimp only
    rw [if_pos rfl, t1, Option.bind_some]
    dsimp only
    have h9 := t3.2.1
    have h10 := t3.1.1
    have hle := hok.1
    cases hg : sgB tp T 59 b2
    · by_cases he : T ≤ b2
      · rw [c_next_e hT hok.1 ls2.1 hg he, Option.bind_some, xc_r, if_pos (by rw [h9, h10, show b2 = T by omega]), zI_1]
        obtain ⟨f', rfl⟩ : ∃ f', f = f' + 1 := ⟨f - 1, by omega⟩
        unfold f_X4_read_15
        rw [if_neg Bool.false_ne_true]
        exact JX_ok ⟨⟨n + 1, rfl, by omega⟩, b2, LSt_t hd ls2 ls2.1 (RLe_RT hok t3) (only1_rf _) t4⟩
      · obtain ⟨I3, i1, i2⟩ := c_next_n (L := L) hT hok.1 ls2.1 hg he
        rw [i1, Option.bind_some, xc_l, if_neg (by rw [h9, h10, zI_eq (by omega) (by omega)]; omega), r_isAt hT hok.1 t3.1 h9, sg_eq, hg, Option.bind_some, if_neg Bool.false_ne_true]
        exact JX_no (f := b2) i2.2.2 t3.2.2 ⟨fun q h8 h9 => (i2.1 q h8).trans (ls2.2.2.2.1.1 q h8 h9), i2.2.1.trans ls2.2.2.2.1.2⟩ (FRd_o ls2.2.2.2.2.1 t4)
    · obtain ⟨I3, i1, i2, i3⟩ := c_next_s (L := L) hT hok.1 ls2.1 hg
      have sg := sg_te (tp := tp) (T := T) (b := b2) (c := 59) (by unfold isSg; decide) hg
      rw [i1, Option.bind_some, xc_r, if_neg (by rw [h9, h10, zI_eq (by omega) (by omega)]; omega), r_isAt hT hok.1 t3.1 h9, sg_eq, hg, Option.bind_some, if_pos rfl, h9, zI_1, pfe, Option.bind_some, zI_1]
      refine ih (n + 1) (nx tp T b2) f g I3 _ (by omega) (by omega) (LSt_t hd ls2 i2 ?_ i3 (o149_tr t4 o149_9)) (by omega) (by omega)
      refine RLe_nx hok.1 ⟨RTx_o t3.1 o149_9, by rw [zu_s, if_pos rfl, sg.2.1], by rw [zu_s, if_neg (by decide)]; exact t3.2.2⟩
theorem xRead {c d b : Nat} {tp : Nat → Int32} {T : Nat} {I0 J0 I J : MI} {L M : ML} (hT : T ≤ 400) (hd : 14 ≤ d) (ls : LSt c d tp T L b I0 J0 I J) : JX L M (-1) (FCd d I0) (FRd J0) (SE c d tp T L I0 J0) (f_X4_read d I L) (Option.bind (f_X12_blanks J M) fun w3 => if (w3.1 149 9) = (w3.1 149 10) then (some (0, w3.1, w3.2)) else (f_X12_readAll_28 FU true 0 w3.1 w3.2)) := by
  have hok := RT_ok ls.2.1
  have hle := hok.1
  obtain ⟨⟨J3, M3⟩, t1, t2, t3, t4⟩ := r_blanks (L := M) hT ls.2.1
  have t2 : M3 = M := t2
  subst t2
  have t3 : RLe tp T b b J3 := t3
  have t4 : o149 J J3 := t4
  have h9 := t3.2.1
  have h10 := t3.1.1
  have ls3 := LSt_t hd ls ls.1 (RLe_RT hok t3) (only1_rf _) t4
  unfold f_X4_read f_X4_read_12 f_X8_isOver f_X8_isOver_12
  rw [t1, Option.bind_some]
  dsimp only
  by_cases he : T ≤ b
  · rw [if_pos (ls.1.2.2.2.1.trans (so0.mpr he)), Option.bind_some, if_pos rfl, if_pos (by rw [h9, h10, show b = T by omega]), show FU = 999999 + 1 from rfl]
    unfold f_X4_read_15
    rw [if_neg Bool.false_ne_true]
    exact JX_ok ⟨⟨0, rfl, by decide⟩, b, ls3⟩
  · rw [if_neg (fun h8 => he (so0.mp (ls.1.2.2.2.1.symm.trans h8))), Option.bind_some, if_neg Bool.false_ne_true, if_neg (by rw [h9, h10, zI_eq (by omega) (by omega)]; omega)]
    exact xLoop hT hd 14 0 b FU FU I J3 rfl (by decide) ls3 (by decide) (by decide)
-- ===== a call whose two sides are run side by side
theorem mkSI2 {hs : List String} {c : Nat} {I : MI} {L : ML} {A : AS} {ca : Option ((String ⊕ Int32) × MI × ML)} {cb : MI → ML → Option (Int32 × MI × ML)} (hR : RI9 I L A) (h : ∀ J M, RI9 J M A → ∃ A' res, AI c A' ∧ Tt ca (CpX hs I A' res) ∧ Tt (cb J M) (RpX J M A' res)) : ∃ I' L', SI hs ca cb I' L' ∧ Inv9 c I' L' := by
  have key0 : ∀ {A' : AS} {res : Nat ⊕ Int32} {ra : (String ⊕ Int32) × MI × ML}, CpX hs I A' res ra → ∃ k L1, wkI hs ra.1 ra.2.2 = some (k, L1) ∧ (∀ q, q < 149 → L1 q = ra.2.2 q) ∧ (match res with | .inl n => k = nI n | .inr v => k = 0 ∧ L1 160 0 = v.toInt64) := by
    intro A' res ra ⟨h1, _, _⟩
    cases res with
    | inl n =>
      obtain ⟨e, e1, e2⟩ := h1
      exact ⟨nI n, ra.2.2, by rw [e1]; exact e2 _, fun _ _ => rfl, rfl⟩
    | inr v =>
      have h1 : ra.1 = .inr v := h1
      exact ⟨0, upl ra.2.2 160 0 v.toInt64, by rw [h1]; rfl, fun q hq => zl_n _ _ _ (by omega), rfl, by rw [zl_s, if_pos rfl]⟩
  obtain ⟨A1, res1, _, ⟨ra, ha, cp1⟩, _⟩ := h I L hR
  obtain ⟨k, L1, k1, k2, _⟩ := key0 cp1
  obtain ⟨A', res, hA', ⟨ra', ha', cp⟩, ⟨rb, hb, r1, r2, r3, r4⟩⟩ := h ra.2.1 L1 (RI9_cg (fun q hq _ _ _ _ _ => cp1.2.2 q hq) hR)
  have e : ra' = ra := Option.some.inj (ha'.symm.trans ha)
  subst e
  obtain ⟨k', L1', k1', k2', k3⟩ := key0 cp
  have e := Option.some.inj (k1'.symm.trans k1)
  have ek : k' = k := congrArg Prod.fst e
  have eL : L1' = L1 := congrArg Prod.snd e
  subst ek; subst eL
  refine ⟨rb.2.1, rb.2.2, ⟨ra', k', L1', rb, ha, k1, hb, ?_, ?_, rfl, rfl⟩, A', hA', CI9_cg (fun q hq => (r3 q hq).1) (fun q hq => (r3 q hq).2.trans (k2 q hq)) cp.2.1, r2⟩
  · show some (rb.2.1 149 0) = some k'
    cases res with
    | inl n => rw [r1.1]; exact congrArg some k3.symm
    | inr v => rw [r1.1]; exact congrArg some k3.1.symm
  · intro hk0
    cases res with
    | inl n => exact absurd (k3.symm.trans hk0) r1.2
    | inr v =>
      rw [r4, r1.2]; exact k3.2
/-- a text is opened -/
theorem c_open {tp : Nat → Int32} {T : Nat} {I : MI} {L : ML} (hT : T ≤ 400) (h1 : I 1 1 = nI T) (ht : ∀ k, k < 400 → I 2 k = tp k) : Tt (f_X8_open I L) (fun r => r.2 = L ∧ CT tp T (sk tp T 0) r.1 ∧ (∀ q, q ≠ 1 → r.1 q = I q) ∧ r.1 1 1 = 0 ∧ r.1 1 7 = -1) := by
  unfold f_X8_open f_X8_useUp
  rw [pfe, Option.bind_some, Option.bind_some]
  dsimp only
  rw [pfe, Option.bind_some, pfe, Option.bind_some, pfe, Option.bind_some]
  refine Tt_bind (Tt_mono (c_step0 (tp := tp) (T := T) (p := 0) hT (Nat.zero_le _) ?_ ?_ ?_) ?_)
  · rw [zu_s, if_neg (by decide), zu_s, if_neg (by decide), zu_s, if_pos rfl]; exact h1
  · rw [zu_s, if_neg (by decide), zu_s, if_pos rfl]; rfl
  · intro k hk
    rw [zu_n _ _ _ (by decide), zu_n _ _ _ (by decide), zu_n _ _ _ (by decide), zu_n _ _ _ (by decide)]; exact ht k hk
  · intro r ⟨r1, r2, r3⟩
    refine Tt_some ⟨r1, r2, fun q hq => ?_, ?_, ?_⟩
    · rw [r3.1 q hq, zu_n _ _ _ hq, zu_n _ _ _ hq, zu_n _ _ _ hq, zu_n _ _ _ hq]
    · dsimp only
      rw [r3.2.1, zu_s, if_neg (by decide), zu_s, if_neg (by decide), zu_s, if_neg (by decide), zu_s, if_pos rfl]
    · dsimp only
      rw [r3.2.2, zu_s, if_pos rfl]
