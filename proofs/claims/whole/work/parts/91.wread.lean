-- ===== all lines of a will
theorem w_line {l : Nat} {J J1 : MI} {M : ML} (hl : l < 12) (h : f_X12_letters J M = some (J1, M)) : f_X12_readLine false (nI l) J M = f_X12_readWillLine (nI l) J1 M := by
  unfold f_X12_readLine f_X12_readLine_16
  rw [h, Option.bind_some, if_neg Bool.false_ne_true, show (12 : Int32) = nI 12 from rfl, if_neg (le_n (by decide) (by omega) hl), if_neg Bool.false_ne_true]
  exact obif
theorem w_line12 {J J1 : MI} {M : ML} (h : f_X12_letters J M = some (J1, M)) : f_X12_readLine false (nI 12) J M = some (false, J1, M) := by
  unfold f_X12_readLine f_X12_readLine_16
  rw [h, Option.bind_some, if_neg Bool.false_ne_true, if_pos (by decide)]
  rfl
def SEw (d : Nat) (tp : Nat → Int32) (T : Nat) (I0 J0 : MI) (_ : Unit) (v' : Int32) (I' J' : MI) : Prop := ∃ l' n' b', v' = nI l' ∧ l' ≤ 12 ∧ WSt d tp T b' n' I0 J0 I' J' ∧ LF d l' n' I' J'
theorem xLoopW {d : Nat} {tp : Nat → Int32} {T : Nat} {I0 J0 : MI} {L M : ML} (hT : T ≤ 400) (hd : 14 ≤ d) : ∀ (m l n b fc fr : Nat) (I J : MI), 12 - l = m → l ≤ 12 → WSt d tp T b n I0 J0 I J → n ≤ b → LF d l n I J → m < fc → m < fr →
    JX L M (-1) (FCd d I0) (FRw J0) (SEw d tp T I0 J0) (f_X10_read_19 fc d true (nI l) I L) (f_X12_readAll_28 fr false (nI l) J M) := by
  intro m
  induction m with
  | zero =>
    intro l n b fc fr I J hm hn ls hnb lf hfc hfr
    obtain ⟨f, rfl⟩ : ∃ f, fc = f + 1 := ⟨fc - 1, by omega⟩
    obtain ⟨g, rfl⟩ : ∃ g, fr = g + 1 := ⟨fr - 1, by omega⟩
    have e : l = 12 := by omega
    subst e
    obtain ⟨⟨J1, M1⟩, j1, j2, j3, j4⟩ := r_letters (L := M) hT ls.2.1
    have j2 : M1 = M := j2
    subst j2
    obtain ⟨I3, i1, i2⟩ := c_chk_f (L := L) ls.1
    unfold f_X10_read_19 f_X10_read_41 f_X12_readAll_28
    rw [if_pos rfl, if_neg (by decide), if_pos (by decide), i1, Option.bind_some, xc_l, w_line12 j1, Option.bind_some, if_neg Bool.false_ne_true]
    exact JX_no (f := b) i2.2.2 j3.2.2 (CF_C ls.2.2.2.1 i2) (FRw_o ls.2.2.2.2.2.1 j4)
  | succ m ih =>
    intro l n b fc fr I J hm hn ls hnb lf hfc hfr
    obtain ⟨f, rfl⟩ : ∃ f, fc = f + 1 := ⟨fc - 1, by omega⟩
    obtain ⟨g, rfl⟩ : ∃ g, fr = g + 1 := ⟨fr - 1, by omega⟩
    obtain ⟨⟨J1, M1⟩, j1, j2, j3, j4⟩ := r_letters (L := M) hT ls.2.1
    have j2 : M1 = M := j2
    subst j2
    unfold f_X10_read_19 f_X10_read_41 f_X12_readAll_28
    rw [if_pos rfl, show (12 : Int32) = nI 12 from rfl, if_neg (by rw [zI_lt (by decide) (by omega)]; omega), if_neg (le_n (by decide) (by omega) (by omega)), c_chk_t, Option.bind_some, xc_r, w_line (by omega) j1]
    refine JX_bind (jWill hT hd (by omega) ls hnb lf j3 j4) (fun _ o => o) (fun J' o => ⟨J', by dsimp only; rw [if_neg Bool.false_ne_true], rfl, o⟩) ?_
    intro _ v' I2 J2 ⟨e, b2, n2, hb2, hn2, ls2, lf2⟩
    subst e
    have hok := RT_ok ls2.2.1
    obtain ⟨⟨J3, M3⟩, t1, t2, t3, t4⟩ := r_blanks (L := M1) hT ls2.2.1
    have t2 : M3 = M1 := t2
    subst t2
    have t3 : RLe tp T b2 b2 J3 := t3
    have t4 : o149 J2 J3 := t4
    dsimp only
    rw [if_pos rfl, t1, Option.bind_some]
    dsimp only
    have h9 := t3.2.1
    have h10 := t3.1.1
    have hle := hok.1
    cases hg : sgB tp T 59 b2
    · by_cases he : T ≤ b2
      · rw [c_next_e hT hok.1 ls2.1 hg he, Option.bind_some, xc_r, if_pos (by rw [h9, h10, show b2 = T by omega]), zI_1]
        obtain ⟨f', rfl⟩ : ∃ f', f = f' + 1 := ⟨f - 1, by omega⟩
        unfold f_X10_read_19
        rw [if_neg Bool.false_ne_true]
        exact JX_ok ⟨l + 1, n2, b2, rfl, by omega, WSt_t hd ls2 ls2.1 (RLe_RT hok t3) (only1_rf _) t4, LF_t hd lf2 (only1_rf _) t4⟩
      · obtain ⟨I3, i1, i2⟩ := c_next_n (L := L) hT hok.1 ls2.1 hg he
        rw [i1, Option.bind_some, xc_l, if_neg (by rw [h9, h10, zI_eq (by omega) (by omega)]; omega), r_isAt hT hok.1 t3.1 h9, sg_eq, hg, Option.bind_some, if_neg Bool.false_ne_true]
        exact JX_no (f := b2) i2.2.2 t3.2.2 (CF_C ls2.2.2.2.1 i2) (FRw_o ls2.2.2.2.2.2.1 t4)
    · obtain ⟨I3, i1, i2, i3⟩ := c_next_s (L := L) hT hok.1 ls2.1 hg
      have sg := sg_te (tp := tp) (T := T) (b := b2) (c := 59) (by unfold isSg; decide) hg
      have nx2 := nx_lt (tp := tp) sg.1
      rw [i1, Option.bind_some, xc_r, if_neg (by rw [h9, h10, zI_eq (by omega) (by omega)]; omega), r_isAt hT hok.1 t3.1 h9, sg_eq, hg, Option.bind_some, if_pos rfl, h9, zI_1, pfe, Option.bind_some, zI_1]
      refine ih (l + 1) n2 (nx tp T b2) f g I3 _ (by omega) (by omega) (WSt_t hd ls2 i2 ?_ i3 (o149_tr t4 o149_9)) (by omega) (LF_t hd lf2 i3 (o149_tr t4 o149_9)) (by omega) (by omega)
      refine RLe_nx hok.1 ⟨RTx_o t3.1 o149_9, by rw [zu_s, if_pos rfl, sg.2.1], by rw [zu_s, if_neg (by decide)]; exact t3.2.2⟩
theorem xReadW {d b : Nat} {tp : Nat → Int32} {T : Nat} {I0 J0 I J : MI} {L M : ML} (hT : T ≤ 400) (hd : 14 ≤ d) (ls : WSt d tp T b 0 I0 J0 I J) (lf : LF d 0 0 I J) (hcl : f_X9_clear d I0 L = some (I, L)) : JX L M (-1) (FCd d I0) (FRw J0) (SEw d tp T I0 J0) (f_X10_read d I0 L) (Option.bind (f_X12_blanks J M) fun w3 => if (w3.1 149 9) = (w3.1 149 10) then (some (0, w3.1, w3.2)) else (f_X12_readAll_28 FU false 0 w3.1 w3.2)) := by
  have hok := RT_ok ls.2.1
  have hle := hok.1
  obtain ⟨⟨J3, M3⟩, t1, t2, t3, t4⟩ := r_blanks (L := M) hT ls.2.1
  have t2 : M3 = M := t2
  subst t2
  have t3 : RLe tp T b b J3 := t3
  have t4 : o149 J J3 := t4
  have h9 := t3.2.1
  have h10 := t3.1.1
  have ls3 := WSt_t hd ls ls.1 (RLe_RT hok t3) (only1_rf _) t4
  have lf3 := LF_t hd lf (only1_rf _) t4
  unfold f_X10_read f_X10_read_16 f_X8_isOver f_X8_isOver_12
  rw [hcl, Option.bind_some, t1, Option.bind_some]
  dsimp only
  by_cases he : T ≤ b
  · rw [if_pos (ls.1.2.2.2.1.trans (so0.mpr he)), Option.bind_some, if_pos rfl, if_pos (by rw [h9, h10, show b = T by omega]), show FU = 999999 + 1 from rfl]
    unfold f_X10_read_19
    rw [if_neg Bool.false_ne_true]
    exact JX_ok ⟨0, 0, b, rfl, by decide, ls3, lf3⟩
  · rw [if_neg (fun h8 => he (so0.mp (ls.1.2.2.2.1.symm.trans h8))), Option.bind_some, if_neg Bool.false_ne_true, if_neg (by rw [h9, h10, zI_eq (by omega) (by omega)]; omega)]
    exact xLoopW hT hd 12 0 0 b FU FU I J3 rfl (by decide) ls3 (Nat.zero_le _) lf3 (by decide) (by decide)
/-- the second half comes to the first -/
theorem r_52 {x : Int32} {K : MI} {M : ML} : Tt (f_X12_will_52 FU x 0 K M) (fun r => r.1 = x ∧ r.2.2 = M ∧ (∀ q, q ≠ 149 → q ≠ 150 → r.2.1 q = K q) ∧ (∀ k, k ≠ 6 → r.2.1 149 k = K 149 k) ∧ r.2.1 149 6 = 0 ∧ ∀ k, r.2.1 150 k = if k = 5 then 1 else if 445 ≤ k ∧ k < 1294 then K 150 (k + 849) else K 150 k) := by
  refine lp0 (fun fuel k (s : MI) => f_X12_will_52 fuel x (nI k) s M) 849 (fun k s => (∀ q, q ≠ 150 → s q = K q) ∧ ∀ j, s 150 j = if 445 ≤ j ∧ j < 445 + k then K 150 (j + 849) else K 150 j) (by decide) ?_ ?_ (s := K) ⟨fun _ _ => rfl, fun j => by rw [if_neg (by omega)]⟩
  · intro fuel k s hk ⟨s1, s2⟩ hnx
    show Tt (f_X12_will_52 (fuel + 1) x (nI k) s M) _
    unfold f_X12_will_52
    rw [show (849 : Int32) = nI 849 from rfl, if_neg (le_n (by decide) (by omega) hk), show (1294 : Int32) = nI 1294 from rfl, zI_add, ldI_n (by omega) (by decide), Option.bind_some, show (445 : Int32) = nI 445 from rfl, zI_add, stI_n (by omega) (by decide), Option.bind_some, zI_1]
    refine hnx (up2 s 150 (445 + k) (s 150 (1294 + k))) ⟨fun q hq => by rw [zu_n _ _ _ hq]; exact s1 q hq, fun j => ?_⟩
    rw [zu_s, s2 j, s2 (1294 + k)]
    by_cases h9 : j = 445 + k
    · rw [if_pos h9, if_neg (by omega), if_pos (by omega), h9, show 445 + k + 849 = 1294 + k by omega]
    · rw [if_neg h9]
      by_cases h8 : 445 ≤ j ∧ j < 445 + k
      · rw [if_pos h8, if_pos (by omega)]
      · rw [if_neg h8, if_neg (by omega)]
  · intro fuel s ⟨s1, s2⟩
    show Tt (f_X12_will_52 (fuel + 1) x (nI 849) s M) _
    unfold f_X12_will_52
    rw [if_pos (by decide), st_5, Option.bind_some, pfe, Option.bind_some]
    refine Tt_some ⟨rfl, rfl, fun q h1 h2 => ?_, fun k hk => ?_, ?_, fun k => ?_⟩
    · dsimp only; rw [zu_n _ _ _ h1, zu_n _ _ _ h2]; exact s1 q h2
    · dsimp only; rw [zu_s, if_neg hk, zu_n _ _ _ (by decide), s1 149 (by decide)]
    · dsimp only; rw [zu_s, if_pos rfl]
    · dsimp only
      rw [zu_n _ _ _ (by decide), zu_s, s2 k]
theorem undoL_c {w w' : Nat → Int32} : ∀ (l : List Act) (w w' : Nat → Int32), (∀ k, k < 445 → w' k = w k) → ∀ k, k < 445 → undoL l w' k = undoL l w k := by
  intro l
  induction l with
  | nil => intro w w' h k hk; exact h k hk
  | cons a r ih =>
    intro w w' h k hk
    show undoL r (undo1 a w') k = undoL r (undo1 a w) k
    refine ih (undo1 a w) (undo1 a w') (fun j hj => ?_) k hk
    unfold undo1 setw
    by_cases h1 : j = 13
    · rw [if_pos h1, if_pos h1]
    · rw [if_neg h1, if_neg h1]
      by_cases h2 : j = actAt a.1 a.2.1
      · rw [if_pos h2, if_pos h2]
      · rw [if_neg h2, if_neg h2]; exact h j hj
theorem WFl1_c0 {w w' : Nat → Int32} {l : Nat} (h0 : l ≠ 0 → w' (445 + 4 * l) = w (445 + 4 * l)) (hl : ∀ k, 445 + 4 * l < k → k ≤ 449 + 4 * l → w' k = w k) (hs : ∀ k, 494 ≤ k → k < 494 + 2 * nw w (449 + 4 * l) → w' k = w k) (c : WFl1 w l) : WFl1 w' l := by
  obtain ⟨p1, p2, p3, p4, p5, p6, p7, p8⟩ := c
  have e46 := hl (446 + 4 * l) (by omega) (by omega)
  have e47 := hl (447 + 4 * l) (by omega) (by omega)
  have e48 := hl (448 + 4 * l) (by omega) (by omega)
  have e49 := hl (449 + 4 * l) (by omega) (by omega)
  refine ⟨okN_cg e46 p1, ?_, okN_cg e48 p3, okN_cg e49 p4, by rw [nwe e48, nwe e49]; exact p5, ?_, ?_, ?_⟩
  · rcases p2 with p2 | p2
    · exact Or.inl (e47.trans p2)
    · exact Or.inr (okN_cg e47 p2)
  · by_cases h : l = 0
    · rw [if_pos h] at p6 ⊢
      rw [nwe e48]; exact p6
    · rw [if_neg h] at p6 ⊢
      rw [nwe e48, nwe (h0 h)]; exact p6
  · rw [nwe e48, nwe e49]
    intro i h2 h3
    obtain ⟨q1, q2, q3⟩ := p7 i h2 h3
    have e := hs (494 + 2 * i) (by omega) (by omega)
    have e9 := hs (495 + 2 * i) (by omega) (by omega)
    exact ⟨okN_cg e q1, by rw [nwe e]; exact fun z => okN_cg e9 (q2 z), by rw [nwe e]; exact fun z => okN_cg e9 (q3 z)⟩
  · rw [nwe e48, nwe e49, tyR_cg _ _ _ (fun j h2 h3 => hs _ (by omega) (by omega))]
    exact p8
