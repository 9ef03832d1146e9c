-- ===== a will is read: sums
def wc (tp : Nat → Int32) (T b : Nat) : Int32 := if wdB tp T 24 b = true then 6 else if wdB tp T 25 b = true then 7 else if wdB tp T 26 b = true then 8 else if wdB tp T 27 b = true then 9 else if wdB tp T 28 b = true then 10 else if wdB tp T 29 b = true then 11 else -1
def wr (tp : Nat → Int32) (T b : Nat) : Int32 := if wdB tp T 24 b = true then 0 else if wdB tp T 25 b = true then 1 else if wdB tp T 26 b = true then 2 else if wdB tp T 27 b = true then 3 else if wdB tp T 28 b = true then 4 else if wdB tp T 29 b = true then 5 else -1
theorem wc_c {tp : Nat → Int32} {T b : Nat} : (wc tp T b = -1 ∧ wr tp T b = -1) ∨ ∃ sN i, sN ≤ 5 ∧ 1 ≤ sLen i ∧ wdB tp T i b = true ∧ wr tp T b = nI sN ∧ wc tp T b = nI (6 + sN) ∧ nI (6 + sN) = enc (nI sN) 0 := by
  unfold wc wr
  cases g0 : wdB tp T 24 b
  · cases g1 : wdB tp T 25 b
    · cases g2 : wdB tp T 26 b
      · cases g3 : wdB tp T 27 b
        · cases g4 : wdB tp T 28 b
          · cases g5 : wdB tp T 29 b
            · exact Or.inl ⟨rfl, rfl⟩
            · exact Or.inr ⟨5, 29, by decide, by decide, g5, rfl, rfl, by decide⟩
          · exact Or.inr ⟨4, 28, by decide, by decide, g4, rfl, rfl, by decide⟩
        · exact Or.inr ⟨3, 27, by decide, by decide, g3, rfl, rfl, by decide⟩
      · exact Or.inr ⟨2, 26, by decide, by decide, g2, rfl, rfl, by decide⟩
    · exact Or.inr ⟨1, 25, by decide, by decide, g1, rfl, rfl, by decide⟩
  · exact Or.inr ⟨0, 24, by decide, by decide, g0, rfl, rfl, by decide⟩
theorem c_wc {tp : Nat → Int32} {T b : Nat} {I : MI} {L : ML} (hT : T ≤ 400) (hb : b ≤ T) (h : CT tp T b I) : f_X10_wordCode I L = some (wc tp T b) := by
  unfold f_X10_wordCode f_X10_wordCode_85 wc
  rw [c_isWord hT hb (by decide) h, c_isWord hT hb (by decide) h, c_isWord hT hb (by decide) h, c_isWord hT hb (by decide) h, c_isWord hT hb (by decide) h, c_isWord hT hb (by decide) h]
  simp only [Option.bind_some]
  split
  · rfl
  · split
    · rfl
    · split
      · rfl
      · split
        · rfl
        · split
          · rfl
          · split <;> rfl
def pc (tp : Nat → Int32) (T b : Nat) : Int32 := if nu tp T b = -1 then wc tp T b else 18 + nu tp T b
theorem r_113 {n : Nat} {y : Int32} {J : MI} {M : ML} (h : J 149 15 = nI n) (hn : n < 400) : f_X12_readPart_113 y J M = f_X12_readPart_120 y (emR n y 0 J) M := by
  unfold f_X12_readPart_113
  rw [r_emits h hn, Option.bind_some]
theorem r_words {tp : Nat → Int32} {T b : Nat} {J : MI} {M : ML} (hT : T ≤ 400) (hb : b ≤ T) (h : RLe tp T b (rn (isLe tp) T b) J) : (Option.bind (f_X12_isWord 50 J M) fun v3 => if v3 = true then (f_X12_readPart_113 0 J M) else (Option.bind (f_X12_isWord 51 J M) fun v5 => if v5 = true then (f_X12_readPart_113 1 J M) else (Option.bind (f_X12_isWord 62 J M) fun v7 => if v7 = true then (f_X12_readPart_113 2 J M) else (Option.bind (f_X12_isWord 40 J M) fun v9 => if v9 = true then (f_X12_readPart_113 3 J M) else (Option.bind (f_X12_isWord 45 J M) fun v11 => if v11 = true then (f_X12_readPart_113 4 J M) else (Option.bind (f_X12_isWord 63 J M) fun v13 => if v13 = true then (f_X12_readPart_113 5 J M) else (f_X12_readPart_113 ((-1)) J M))))))) = f_X12_readPart_113 (wr tp T b) J M := by
  rw [r_isWord hT hb (by decide) h, r_isWord hT hb (by decide) h, r_isWord hT hb (by decide) h, r_isWord hT hb (by decide) h, r_isWord hT hb (by decide) h, r_isWord hT hb (by decide) h]
  rw [show wdB tp T 50 b = wdB tp T 24 b from wd_cg rfl, show wdB tp T 51 b = wdB tp T 25 b from wd_cg rfl, show wdB tp T 62 b = wdB tp T 26 b from wd_cg rfl, show wdB tp T 40 b = wdB tp T 27 b from wd_cg rfl, show wdB tp T 45 b = wdB tp T 28 b from wd_cg rfl, show wdB tp T 63 b = wdB tp T 29 b from wd_cg rfl]
  unfold wr
  simp only [Option.bind_some]
  split
  · rfl
  · split
    · rfl
    · split
      · rfl
      · split
        · rfl
        · split
          · rfl
          · split <;> rfl
theorem encw_9 {a : Int32} : enc (nI 9) a = 18 + a := by
  unfold enc
  rw [if_neg (by decide), if_neg (by decide), if_neg (by decide), if_pos (by decide)]
/-- one part of a sum -/
theorem xPart {d : Nat} {tp : Nat → Int32} {T b n : Nat} {J0 J : MI} {M : ML} (hT : T ≤ 400) (hr : RT tp T b J) (hJ : J 149 15 = nI n) (hn : n < 400) (hf : FRw J0 J) :
    (pc tp T b = -1 ∧ ∃ J', f_X12_readPart J M = some (false, J', M) ∧ J' 149 11 = nI b ∧ FRw J0 J') ∨ (pc tp T b ≠ -1 ∧ b < T ∧ ∃ (s a : Int32) (sN : Nat) (J1 : MI), pc tp T b = enc s a ∧ s = nI sN ∧ (sN ≤ 5 ∨ sN = 9) ∧ (sN = 9 → ∃ m, a = nI m ∧ m ≤ 999) ∧ f_X12_readPart J M = some (true, emR n s a J1, M) ∧ RT tp T (nx tp T b) J1 ∧ o149 J J1) := by
  have hok := RT_ok hr
  have hbT := hok.1
  obtain ⟨⟨J1, M1⟩, j1, j2, j3, j4⟩ := r_letters (L := M) hT hr
  have j2 : M1 = M := j2
  subst j2
  have j3 : RLe tp T b (rn (isLe tp) T b) J1 := j3
  have j4 : o149 J J1 := j4
  have e15 : J1 149 15 = nI n := (j4.2 15 (by decide) (by decide)).trans hJ
  have hge := rn_ge (p := isLe tp) (T := T) (T - b) b rfl
  have hle := hge.2 hbT
  have ep : f_X12_readPart J M1 = if (J1 149 9) = (J1 149 11) then (Option.bind (f_X12_number 0 999 J1 M1) fun w15 => Option.bind (f_X12_emits 9 w15.1 w15.2.1 w15.2.2) fun w16 => f_X12_readPart_120 w15.1 w16.1 w16.2) else f_X12_readPart_113 (wr tp T b) J1 M1 := by
    unfold f_X12_readPart
    rw [j1, Option.bind_some]
    dsimp only
    rw [r_words hT hbT j3]
  have nowd : rn (isLe tp) T b = b → wc tp T b = -1 := fun e => by
    rcases wc_c (tp := tp) (T := T) (b := b) with ⟨g, _⟩ | ⟨sN, i, _, hi, hw, _⟩
    · exact g
    · obtain ⟨h1, h2, _, h4⟩ := wd_te hi hw
      rw [h2, e] at h4; omega
  by_cases g : rn (isLe tp) T b = b
  · rw [g] at j3
    rw [if_pos (by rw [j3.2.1, j3.2.2])] at ep
    have hr1 := RLe_RT hok j3
    obtain ⟨⟨y, J2, M2⟩, t1, t2, t3, t4, t5, t6⟩ := r_number (lo := 0) (hi := 999) (L := M1) hT (by decide) hr1
    have t2 : M2 = M1 := t2
    subst t2
    dsimp only at t3 t4 t5 t6
    have e15' : J2 149 15 = nI n := (t3.2 15 (by decide) (by decide)).trans e15
    rw [t1, Option.bind_some] at ep
    dsimp only at ep
    rw [r_emits e15' hn, Option.bind_some] at ep
    dsimp only at ep
    unfold f_X12_readPart_120 f_X12_readPart_129 at ep
    rcases nu_c (tp := tp) (T := T) (b := b) with hv | ⟨hs2, m, hm, hv⟩
    · have y1 : y = -1 := t6 (fun h => h.1 (by rw [hv]; decide))
      subst y1
      rw [if_pos (by decide)] at ep
      exact Or.inl ⟨by unfold pc; rw [if_pos hv]; exact nowd g, _, ep, by rw [emR_11]; exact t4, FRw_e (FRw_o hf (o149_tr j4 t3))⟩
    · have vn : vN tp T 0 999 b := by
        unfold vN; rw [hv]
        exact ⟨ng_n (by omega), by rw [show (999 : Int32) = nI 999 from rfl, zI_lt (by decide) (by omega)]; omega⟩
      obtain ⟨y1, y2⟩ := t5 vn
      rw [hv] at y1
      subst y1
      rw [if_neg (ng_n (by omega))] at ep
      have epc : pc tp T b = nI (18 + m) := by unfold pc; rw [hv, if_neg (nI_nem (by omega))]; exact zI_add 18 m
      refine Or.inr ⟨by rw [epc]; exact nI_nem (by omega), (te_di hs2).1, 9, nI m, 9, J2, ?_, rfl, Or.inr rfl, fun _ => ⟨m, rfl, hm⟩, ep, y2, o149_tr j4 t3⟩
      rw [epc, show (9 : Int32) = nI 9 from rfl, encw_9]; exact (zI_add 18 m).symm
  · rw [if_neg (by rw [j3.2.1, j3.2.2, zI_eq (by omega) (by omega)]; exact g), r_113 e15 hn] at ep
    unfold f_X12_readPart_120 f_X12_readPart_129 at ep
    have hnu : nu tp T b = -1 := by
      rcases nu_c (tp := tp) (T := T) (b := b) with hv | ⟨hs2, m, hm, hv⟩
      · exact hv
      · obtain ⟨h1, h2, _⟩ := te_di hs2
        exact absurd (rn_stop (Or.inr (le_di h2))) g
    have epc : pc tp T b = wc tp T b := by unfold pc; rw [if_pos hnu]
    rcases wc_c (tp := tp) (T := T) (b := b) with ⟨g1, g2⟩ | ⟨sN, i, hs5, hi, hw, g2, g1, g3⟩
    · rw [g2, if_pos (by decide)] at ep
      exact Or.inl ⟨epc.trans g1, _, ep, by rw [emR_11]; exact j3.2.2, FRw_e (FRw_o hf j4)⟩
    · rw [g2, if_neg (ng_n (by omega))] at ep
      have htw := wd_te hi hw
      rw [← htw.2.1] at j3
      exact Or.inr ⟨by rw [epc, g1]; exact nI_nem (by omega), htw.1, nI sN, 0, sN, J1, by rw [epc, g1, g3], rfl, Or.inl hs5, fun h => by omega, ep, RLe_nx hbT j3, j4⟩
theorem tyS_p {sN : Nat} {st : List Bool} (h : sN ≤ 5 ∨ sN = 9) (hl : st.length < 17) : tyS sN st = some (false :: st) := by
  unfold tyS
  rw [if_pos (by omega), if_pos hl]
theorem tyS_10 {st : List Bool} : tyS 10 (false :: false :: st) = some (false :: st) := by
  unfold tyS
  rw [if_neg (by decide), if_neg (by decide)]
  simp
/-- class: a part of a sum, its code being good -/
theorem c_51 {d : Nat} {tp : Nat → Int32} {T b n : Nat} {x k3 : Int32} {k4 : Nat → Bool → Int32 → MI → ML → Option ((String ⊕ Unit) × MI × ML)} {I : MI} {L : ML} (hT : T ≤ 400) (hb : b ≤ T) (h : CT tp T b I) (hx : x ≠ -1) (hI : I (d + 5) 5 = nI n) (hn : n < 400) (hd : 14 ≤ d) : ∃ I2, CT tp T (nx tp T b) I2 ∧ only1 I I2 ∧ f_X10_readSum_37 k4 d k3 x I L = if k3 ≤ 0 then (f_X10_readSum_74 k4 d k3 (emC d n x I2) L) else (Option.bind (f_X9_addCode d 15 (emC d n x I2) L) fun w7 => f_X10_readSum_74 k4 d k3 w7.1 w7.2) := by
  obtain ⟨⟨I2, L2⟩, s1, s2, s3, s4⟩ := c_step (L := L) hT hb h
  have s2 : L2 = L := s2
  subst s2
  refine ⟨I2, s3, s4, ?_⟩
  unfold f_X10_readSum_37 f_X10_readSum_51
  rw [if_neg hx, c_chk_t, Option.bind_some, xc_r]
  dsimp only
  have s4 : only1 I I2 := s4
  rw [s1, Option.bind_some]
  dsimp only
  rw [c_addCode (I := I2) (show I2 (d + 5) 5 = nI n by rw [s4.1 _ (by omega)]; exact hI) hn, Option.bind_some]
theorem c_pc {d : Nat} {tp : Nat → Int32} {T b k f : Nat} {I : MI} {L : ML} (hT : T ≤ 400) (hb : b ≤ T) (h : CT tp T b I) (hk : k < 400) : f_X10_readSum_4 (f + 1) d true (nI k) I L = f_X10_readSum_37 (f_X10_readSum_4 f) d (nI k) (pc tp T b) I L := by
  rw [f_X10_readSum_4, if_pos rfl, show (400 : Int32) = nI 400 from rfl, if_neg (le_n (by decide) (by omega) hk), h.2.2.2.2.1, c_wc hT hb h, Option.bind_some]
  unfold pc
  split <;> rfl
theorem c_37f {d : Nat} {tp : Nat → Int32} {T b : Nat} {k3 : Int32} {k4 : Nat → Bool → Int32 → MI → ML → Option ((String ⊕ Unit) × MI × ML)} {I : MI} {L : ML} (h : CT tp T b I) : ∃ I', f_X10_readSum_37 k4 d k3 (-1) I L = some (.inl IAE, I', L) ∧ CFl b I I' := by
  obtain ⟨I3, i1, i2⟩ := c_chk_f (L := L) h
  refine ⟨I3, ?_, i2⟩
  unfold f_X10_readSum_37 f_X10_readSum_51
  rw [if_pos rfl, i1, Option.bind_some, xc_l]
theorem encw_10 : enc (nI 10) 0 = 15 := by decide
/-- behind a part of a sum -/
theorem xSum74 {d : Nat} {tp : Nat → Int32} {T b n : Nat} {I0 J0 Ib Jb : MI} {L M : ML} (hT : T ≤ 400) (hd : 14 ≤ d) : ∀ (m k f g b1 n1 : Nat) (I J : MI), T - b1 ≤ m → k < b1 → n1 < b1 → WSt d tp T b1 n1 I0 J0 I J → m < f → m < g → b < b1 → n < n1 → n1 + b ≤ n + b1 → XT d n Ib Jb I J → (∀ st : List Bool, st.length ≤ 15 → tyR (sh (J 150)) n (n1 - n) st = some (false :: st)) →
    JX L M false (FCd d I0) (FRw J0) (GR d tp T b n I0 J0 Ib Jb 15 false) (f_X10_readSum_74 (f_X10_readSum_4 f) d (nI k) I L) (f_X12_readSum_9 g J M) := by
  intro m
  induction m with
  | zero =>
    intro k f g b1 n1 I J hm hk hn1 ws hf hg hb hn hnb xt ty
    obtain ⟨f, rfl⟩ : ∃ f', f = f' + 1 := ⟨f - 1, by omega⟩
    obtain ⟨g, rfl⟩ : ∃ g', g = g' + 1 := ⟨g - 1, by omega⟩
    have hok := RT_ok ws.2.1
    have hbT := hok.1
    obtain ⟨⟨y, J2, M2⟩, t1, t2, t3, t4, t5, t6, t7⟩ := r_sign (c := 43) (L := M) hT (by unfold isSg; decide) ws.2.1
    have t3 : M2 = M := t3
    subst t3
    have hg0 : sgB tp T 43 b1 = false := decide_eq_false (fun h => by omega)
    dsimp only at t2 t4 t5 t6 t7
    rw [hg0] at t2
    unfold f_X10_readSum_74 f_X10_readSum_89 f_X12_readSum_9
    rw [c_isSign hT hbT (by unfold isSg; decide) ws.1, Option.bind_some, hg0, if_neg Bool.false_ne_true, t1, Option.bind_some, t2, if_neg Bool.false_ne_true]
    unfold f_X10_readSum_4
    rw [if_neg Bool.false_ne_true]
    have e := t4.1 150 (by decide)
    exact JX_ok ⟨rfl, b1, n1, hb, hn, hnb, WSt_t hd ws ws.1 (t7 hg0) (only1_rf _) t4, XT_tr (Nat.le_refl _) xt (XT_t hd (only1_rf _) t4), fun st hst => by show tyR (sh (J2 150)) n (n1 - n) st = _; rw [e]; exact ty st hst⟩
  | succ m ih =>
    intro k f g b1 n1 I J hm hk hn1 ws hf hg hb hn hnb xt ty
    obtain ⟨f, rfl⟩ : ∃ f', f = f' + 1 := ⟨f - 1, by omega⟩
    obtain ⟨g, rfl⟩ : ∃ g', g = g' + 1 := ⟨g - 1, by omega⟩
    have hok := RT_ok ws.2.1
    have hbT := hok.1
    obtain ⟨⟨y, J2, M2⟩, t1, t2, t3, t4, t5, t6, t7⟩ := r_sign (c := 43) (L := M) hT (by unfold isSg; decide) ws.2.1
    have t3 : M2 = M := t3
    subst t3
    dsimp only at t2 t4 t5 t6 t7
    unfold f_X10_readSum_74 f_X10_readSum_89 f_X12_readSum_9
    rw [c_isSign hT hbT (by unfold isSg; decide) ws.1, Option.bind_some, t1, Option.bind_some, t2]
    dsimp only
    cases hg0 : sgB tp T 43 b1
    · rw [if_neg Bool.false_ne_true, if_neg Bool.false_ne_true]
      unfold f_X10_readSum_4
      rw [if_neg Bool.false_ne_true]
      have e := t4.1 150 (by decide)
      exact JX_ok ⟨rfl, b1, n1, hb, hn, hnb, WSt_t hd ws ws.1 (t7 hg0) (only1_rf _) t4, XT_tr (Nat.le_refl _) xt (XT_t hd (only1_rf _) t4), fun st hst => by show tyR (sh (J2 150)) n (n1 - n) st = _; rw [e]; exact ty st hst⟩
    · have sg := sg_te (tp := tp) (T := T) (b := b1) (c := 43) (by unfold isSg; decide) hg0
      have nx1 := nx_lt (tp := tp) sg.1
      obtain ⟨⟨I2, L2⟩, s1, s2, s3, s4⟩ := c_step (L := L) hT hbT ws.1
      have s2 : L2 = L := s2
      subst s2
      have s3 : CT tp T (nx tp T b1) I2 := s3
      have s4 : only1 I I2 := s4
      have ws2 := WSt_t hd ws s3 (t6 hg0) s4 t4
      rw [if_pos rfl, if_pos rfl, s1, Option.bind_some]
      dsimp only
      rw [zI_1, c_pc hT nx1.2 s3 (by omega)]
      rcases xPart (d := d) (M := M2) hT ws2.2.1 ws2.2.2.2.2.2.2.2.1 (by omega) ws2.2.2.2.2.2.1 with ⟨p1, J3, p2, p3, p4⟩ | ⟨p1, p2, s, a, sN, J3, p3, p4, p5, p6, p7, p8, p9⟩
      · obtain ⟨I3, i1, i2⟩ := c_37f (d := d) (k3 := nI (k + 1)) (k4 := f_X10_readSum_4 f) (L := L2) s3
        rw [p1, i1, p2, Option.bind_some, if_neg Bool.false_ne_true]
        exact JX_no (f := nx tp T b1) i2.2.2 p3 ⟨fun q h8 h9 => (i2.1 q h8).trans (ws2.2.2.2.1.1 q h8 h9), i2.2.1.trans ws2.2.2.2.1.2⟩ p4
      · obtain ⟨I3, i1, i2, i3⟩ := c_51 (k3 := nI (k + 1)) (k4 := f_X10_readSum_4 f) (L := L2) hT nx1.2 s3 p1 ws2.2.2.2.2.2.2.1 (by omega) hd
        have nx2 := nx_lt (tp := tp) p2
        have ws3 := WSt_t hd ws2 i1 p8 i2 p9
        obtain ⟨w4, x4, y4⟩ := WSt_e hd ws3 p3 p4 (by omega) (fun h => by omega) p6
        obtain ⟨w5, x5, y5⟩ := WSt_e (x := 15) (s := nI 10) (a := 0) hd w4 encw_10.symm rfl (by decide) (fun h => by omega) (fun h => by omega)
        rw [i3, if_neg (by rw [show (0 : Int32) = nI 0 from rfl]; exact le_n (by omega) (by decide) (by omega)), c_addCode w4.2.2.2.2.2.2.1 (by omega), Option.bind_some, p7, Option.bind_some, if_pos rfl]
        dsimp only
        rw [show f_X12_emits 10 0 (emR n1 s a J3) M2 = _ from r_emits w4.2.2.2.2.2.2.2.1 (by omega), Option.bind_some]
        refine ih (k + 1) f g (nx tp T (nx tp T b1)) (n1 + 1 + 1) (emC d (n1 + 1) 15 (emC d n1 (pc tp T (nx tp T b1)) I3)) (emR (n1 + 1) (nI 10) 0 (emR n1 s a J3)) (by omega) (by omega) (by omega) w5 (by omega) (by omega) (by omega) (by omega) (by omega) (XT_tr (Nat.le_refl _) xt (XT_tr (Nat.le_refl _) (XT_t (n := n) hd s4 t4) (XT_tr (Nat.le_refl _) (XT_t (n := n) hd i2 p9) (XT_tr (n1 := n1) (by omega) (XT_t (n := n) hd (only1_rf _) (o149_rf _)) (XT_tr (n1 := n1 + 1) (by omega) x4 x5))))) ?_
        intro st hst
        have e3 : J3 150 = J 150 := (p9.1 150 (by decide)).trans (t4.1 150 (by decide))
        rw [show n1 + 1 + 1 - n = (n1 - n) + (1 + 1) by omega, tyR_add, ty_cg (w := emR n1 s a J3 150) (N := n1 + 1) x5.2.1 (by omega), ty_cg (w := J3 150) (N := n1) x4.2.1 (by omega), e3, ty st hst]
        show tyR _ (n + (n1 - n)) (1 + 1) (false :: st) = _
        rw [show n + (n1 - n) = n1 by omega, tyR_add, ty_cg (w := emR n1 s a J3 150) (N := n1 + 1) x5.2.1 (by omega), y4, tyS_p p5 (by simp; omega)]
        show tyR _ (n1 + 1) 1 (false :: false :: st) = _
        rw [y5]; exact tyS_10
theorem xSum {d : Nat} {tp : Nat → Int32} {T b n : Nat} {I0 J0 I J : MI} {L M : ML} (hT : T ≤ 400) (hd : 14 ≤ d) (hnb : n < b) (ws : WSt d tp T b n I0 J0 I J) : JX L M false (FCd d I0) (FRw J0) (GR d tp T b n I0 J0 I J 15 false) (f_X10_readSum d I L) (f_X12_readSum J M) := by
  have hok := RT_ok ws.2.1
  have hbT := hok.1
  unfold f_X10_readSum f_X12_readSum
  rw [show f_X10_readSum_4 FU d true 0 I L = f_X10_readSum_4 (999999 + 1) d true (nI 0) I L from rfl, c_pc hT hbT ws.1 (by decide)]
  rcases xPart (d := d) (M := M) hT ws.2.1 ws.2.2.2.2.2.2.2.1 (by omega) ws.2.2.2.2.2.1 with ⟨p1, J3, p2, p3, p4⟩ | ⟨p1, p2, s, a, sN, J3, p3, p4, p5, p6, p7, p8, p9⟩
  · obtain ⟨I3, i1, i2⟩ := c_37f (d := d) (k3 := nI 0) (k4 := f_X10_readSum_4 999999) (L := L) ws.1
    rw [p1, i1, p2, Option.bind_some, if_neg Bool.false_ne_true]
    exact JX_no (f := b) i2.2.2 p3 ⟨fun q h8 h9 => (i2.1 q h8).trans (ws.2.2.2.1.1 q h8 h9), i2.2.1.trans ws.2.2.2.1.2⟩ p4
  · obtain ⟨I3, i1, i2, i3⟩ := c_51 (k3 := nI 0) (k4 := f_X10_readSum_4 999999) (L := L) hT hbT ws.1 p1 ws.2.2.2.2.2.2.1 (by omega) hd
    have nx2 := nx_lt (tp := tp) p2
    have ws3 := WSt_t hd ws i1 p8 i2 p9
    obtain ⟨w4, x4, y4⟩ := WSt_e hd ws3 p3 p4 (by omega) (fun h => by omega) p6
    rw [i3, if_pos (by decide), p7, Option.bind_some, if_pos rfl]
    dsimp only
    refine xSum74 hT hd (T - nx tp T b) 0 999999 FU (nx tp T b) (n + 1) _ _ (Nat.le_refl _) (by omega) (by omega) w4 (by omega) (by unfold FU; omega) nx2.1 (by omega) (by omega) (XT_tr (Nat.le_refl _) (XT_t hd i2 p9) x4) ?_
    intro st hst
    rw [show n + 1 - n = 1 by omega, y4, tyS_p p5 (by omega)]
