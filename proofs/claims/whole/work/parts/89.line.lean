-- ===== a will is read: one line
theorem WFl1_cg {w w' : Nat → Int32} {l : Nat} (hl : ∀ k, 445 + 4 * l ≤ k → k ≤ 449 + 4 * l → w' k = w k) (hs : ∀ k, 494 ≤ k → k < 494 + 2 * nw w (449 + 4 * l) → w' k = w k) (c : WFl1 w l) : WFl1 w' l := by
  obtain ⟨p1, p2, p3, p4, p5, p6, p7, p8⟩ := c
  have e46 := hl (446 + 4 * l) (by omega) (by omega)
  have e47 := hl (447 + 4 * l) (by omega) (by omega)
  have e48 := hl (448 + 4 * l) (by omega) (by omega)
  have e49 := hl (449 + 4 * l) (by omega) (by omega)
  have e4 := hl (445 + 4 * l) (by omega) (by omega)
  refine ⟨okN_cg e46 p1, ?_, okN_cg e48 p3, okN_cg e49 p4, by rw [nwe e48, nwe e49]; exact p5, by rw [nwe e48, nwe e4]; exact p6, ?_, ?_⟩
  · rcases p2 with p2 | p2
    · exact Or.inl (e47.trans p2)
    · exact Or.inr (okN_cg e47 p2)
  · rw [nwe e48, nwe e49]
    intro i h2 h3
    obtain ⟨q1, q2, q3⟩ := p7 i h2 h3
    have e := hs (494 + 2 * i) (by omega) (by omega)
    have e9 := hs (495 + 2 * i) (by omega) (by omega)
    exact ⟨okN_cg e q1, by rw [nwe e]; exact fun z => okN_cg e9 (q2 z), by rw [nwe e]; exact fun z => okN_cg e9 (q3 z)⟩
  · rw [nwe e48, nwe e49, tyR_cg _ _ _ (fun j h2 h3 => hs _ (by omega) (by omega))]
    exact p8
theorem nw_sh {w : Nat → Int32} {k j : Nat} (h : k + 849 = j) : nw (sh w) k = nw w j := by unfold nw sh; rw [h]
/-- the lines so far -/
def LF (d l n : Nat) (I J : MI) : Prop := I (d + 5) 4 = nI l ∧ (∀ j, j < l → I (d + 6) j = J 150 (1295 + 4 * j) ∧ I (d + 7) j = J 150 (1296 + 4 * j) ∧ I (d + 8) j = J 150 (1298 + 4 * j) ∧ WFl1 (sh (J 150)) j ∧ nw (J 150) (1298 + 4 * j) ≤ n) ∧ n = (if l = 0 then 0 else nw (J 150) (1294 + 4 * l))
theorem LF_cg {d l n n' : Nat} {I J I' J' : MI} (h : LF d l n I J) (hn : n' = n) (i5 : I' (d + 5) 4 = I (d + 5) 4) (i6 : I' (d + 6) = I (d + 6)) (i7 : I' (d + 7) = I (d + 7)) (i8 : I' (d + 8) = I (d + 8)) (hj : ∀ k, k < 1295 + 4 * l → J' 150 k = J 150 k) (hs : ∀ k, 1343 ≤ k → k < 1343 + 2 * n → J' 150 k = J 150 k) : LF d l n' I' J' := by
  subst hn
  obtain ⟨a1, a2, a3⟩ := h
  refine ⟨i5.trans a1, fun j hjl => ?_, ?_⟩
  · obtain ⟨b1, b2, b3, b4, b5⟩ := a2 j hjl
    have e8 := hj (1298 + 4 * j) (by omega)
    rw [i6, i7, i8, hj (1295 + 4 * j) (by omega), hj (1296 + 4 * j) (by omega), e8, nwe e8]
    refine ⟨b1, b2, b3, WFl1_cg (fun k h1 h2 => by unfold sh; exact hj _ (by omega)) (fun k h1 h2 => ?_) b4, b5⟩
    rw [nw_sh (j := 1298 + 4 * j) (by omega)] at h2
    unfold sh; exact hs _ (by omega) (by omega)
  · by_cases h0 : l = 0
    · rw [if_pos h0] at a3 ⊢; exact a3
    · rw [if_neg h0] at a3 ⊢
      rw [nwe (hj (1294 + 4 * l) (by omega))]; exact a3
/-- a field of the line that is being read is given anew -/
theorem WSt_l {d : Nat} {tp : Nat → Int32} {T b n k : Nat} {x : Int32} {I0 J0 I J : MI} (h : WSt d tp T b n I0 J0 I J) (h1 : 1294 ≤ k) (h2 : k < 1343) : WSt d tp T b n I0 J0 I (up2 J 150 k x) := by
  obtain ⟨a1, a2, a3, a4, a5, a6, a7, a8, a9⟩ := h
  refine ⟨a1, RT_w a2 (zu_n _ _ _ (by decide)) (zu_n _ _ _ (by decide)), a3, a4, a5, FRw_w a6 h1, a7, by rw [zu_n _ _ _ (by decide)]; exact a8, fun i hi => ?_⟩
  obtain ⟨y1, y2, y3, y4⟩ := a9 i hi
  have e1 : up2 J 150 k x 150 (1343 + 2 * i) = J 150 (1343 + 2 * i) := by rw [zu_s, if_neg (by omega)]
  have e2 : up2 J 150 k x 150 (1344 + 2 * i) = J 150 (1344 + 2 * i) := by rw [zu_s, if_neg (by omega)]
  rw [e1, e2]
  exact ⟨y1, okN_cg e1 y2, fun h => okN_cg e2 (y3 (by rw [← nwe e1]; exact h)), fun h => okN_cg e2 (y4 (by rw [← nwe e1]; exact h))⟩
theorem LF_l {d l n k : Nat} {x : Int32} {I J : MI} (h : LF d l n I J) (h1 : 1295 + 4 * l ≤ k) (h2 : k < 1343) : LF d l n I (up2 J 150 k x) := LF_cg h rfl rfl rfl rfl rfl (fun j hj => by rw [zu_s, if_neg (by omega)]) (fun j hj _ => by rw [zu_s, if_neg (by omega)])
theorem LF_t {d l n : Nat} {I J I' J' : MI} (hd : 14 ≤ d) (h : LF d l n I J) (h3 : only1 I I') (h4 : o149 J J') : LF d l n I' J' := by
  have e := h4.1 150 (by decide)
  exact LF_cg h rfl (by rw [h3.1 _ (by omega)]) (h3.1 _ (by omega)) (h3.1 _ (by omega)) (h3.1 _ (by omega)) (fun k _ => by rw [e]) (fun k _ _ => by rw [e])
def SW9 (d : Nat) (tp : Nat → Int32) (T b l : Nat) (I0 J0 : MI) (_ : Unit) (v' : Bool) (I' J' : MI) : Prop := v' = true ∧ ∃ b' n', b < b' ∧ n' ≤ b' ∧ WSt d tp T b' n' I0 J0 I' J' ∧ LF d (l + 1) n' I' J'
def adL (d l n : Nat) (he pa : Int32) (I : MI) : MI := up2 (up2 (up2 (up2 I (d + 6) l he) (d + 7) l pa) (d + 8) l (nI n)) (d + 5) 4 (nI (l + 1))
theorem c_addLine {d l n : Nat} {he pa : Int32} {I : MI} {L : ML} (h4 : I (d + 5) 4 = nI l) (h5 : I (d + 5) 5 = nI n) (hl : l < 12) : f_X9_addLine d he pa I L = some (adL d l n he pa I, L) := by
  unfold f_X9_addLine f_X9_addLine_59 adL
  have n6 : d + 5 ≠ d + 6 := by omega
  have n7 : d + 5 ≠ d + 7 := by omega
  have n8 : d + 5 ≠ d + 8 := by omega
  rw [h4, if_neg (zI_nn (by omega)), show (12 : Int32) = nI 12 from rfl, if_neg (le_n (by decide) (by omega) hl), stI_n hl (by decide), Option.bind_some, zu_n _ _ _ n6, h4, stI_n hl (by decide), Option.bind_some, zu_n _ _ _ n7, zu_n _ _ _ n6, h4, h5, stI_n hl (by decide), Option.bind_some, zu_n _ _ _ n8, zu_n _ _ _ n7, zu_n _ _ _ n6, h4, zI_1, pfe, Option.bind_some]
/-- a line's end -/
theorem jEnd {d : Nat} {tp : Nat → Int32} {T b0 b n n0 l he : Nat} {pa : Int32} {I0 J0 I J : MI} {L M : ML} (hT : T ≤ 400) (hd : 14 ≤ d) (hl : l < 12) (ws : WSt d tp T b n I0 J0 I J) (hb : b0 < b) (hnb : n ≤ b) (hn0 : n0 ≤ n) (lf : LF d l n0 I J) (ehe : J 150 (1295 + 4 * l) = nI he) (hhe : he ≤ 5) (epa : J 150 (1296 + 4 * l) = pa) (hpa : pa = -1 ∨ ∃ p, pa = nI p ∧ p ≤ 999) (es : J 150 (1297 + 4 * l) = nI n0) (hty : n0 = n ∨ tyR (sh (J 150)) n0 (n - n0) [] = some [true]) : JX L M false (FCd d I0) (FRw J0) (SW9 d tp T b0 l I0 J0) (f_X10_readLine_62 d (nI he) pa I L) (f_X12_readWillLine_131 (nI (1295 + 4 * l)) J M) := by
  have hbT := (RT_ok ws.2.1).1
  unfold f_X10_readLine_62 f_X12_readWillLine_131
  rw [c_addLine lf.1 ws.2.2.2.2.2.2.1 hl, Option.bind_some, show (3 : Int32) = nI 3 from rfl, zI_add, ws.2.2.2.2.2.2.2.1, stI_n (by omega) (by decide), Option.bind_some, show 1295 + 4 * l + 3 = 1298 + 4 * l by omega]
  have ws1 := WSt_l (k := 1298 + 4 * l) (x := nI n) ws (by omega) (by omega)
  have jq : ∀ k, k ≠ 1298 + 4 * l → up2 J 150 (1298 + 4 * l) (nI n) 150 k = J 150 k := fun k hk => by rw [zu_s, if_neg hk]
  have j8 : up2 J 150 (1298 + 4 * l) (nI n) 150 (1298 + 4 * l) = nI n := by rw [zu_s, if_pos rfl]
  have lf1 := LF_l (k := 1298 + 4 * l) (x := nI n) lf (by omega) (by omega)
  have hsteps := ws1.2.2.2.2.2.2.2.2
  generalize up2 J 150 (1298 + 4 * l) (nI n) = J1 at ws1 jq j8 lf1 hsteps ⊢
  have cq : ∀ q, q ≠ d + 5 → q ≠ d + 6 → q ≠ d + 7 → q ≠ d + 8 → adL d l n (nI he) pa I q = I q := fun q h1 h2 h3 h4 => by unfold adL; rw [zu_n _ _ _ h1, zu_n _ _ _ h4, zu_n _ _ _ h3, zu_n _ _ _ h2]
  have c5 : ∀ k, k ≠ 4 → adL d l n (nI he) pa I (d + 5) k = I (d + 5) k := fun k hk => by unfold adL; rw [zu_s, if_neg hk, zu_n _ _ _ (by omega), zu_n _ _ _ (by omega), zu_n _ _ _ (by omega)]
  have c54 : adL d l n (nI he) pa I (d + 5) 4 = nI (l + 1) := by unfold adL; rw [zu_s, if_pos rfl]
  have c6 : ∀ j, adL d l n (nI he) pa I (d + 6) j = if j = l then nI he else I (d + 6) j := fun j => by unfold adL; rw [zu_n _ _ _ (by omega), zu_n _ _ _ (by omega), zu_n _ _ _ (by omega), zu_s]
  have c7 : ∀ j, adL d l n (nI he) pa I (d + 7) j = if j = l then pa else I (d + 7) j := fun j => by unfold adL; rw [zu_n _ _ _ (by omega), zu_n _ _ _ (by omega), zu_s, zu_n _ _ _ (by omega)]
  have c8 : ∀ j, adL d l n (nI he) pa I (d + 8) j = if j = l then nI n else I (d + 8) j := fun j => by unfold adL; rw [zu_n _ _ _ (by omega), zu_s, zu_n _ _ _ (by omega), zu_n _ _ _ (by omega)]
  obtain ⟨a1, a2, a3, a4, a5, a6, a7, a8, a9⟩ := ws1
  have n8 : nw (J1 150) (1298 + 4 * l) = n := by unfold nw; rw [j8, zI_cl (by omega)]
  have n7 : nw (J1 150) (1297 + 4 * l) = n0 := by unfold nw; rw [jq _ (by omega), es, zI_cl (by omega)]
  dsimp only
  refine JX_ok ⟨rfl, b, n, hb, hnb, ⟨CT_w a1 (cq 1 (by omega) (by omega) (by omega) (by omega)) (cq 2 (by omega) (by omega) (by omega) (by omega)), a2, by rw [cq 1 (by omega) (by omega) (by omega) (by omega)]; exact a3, ⟨fun q h1 h2 => (cq q (by omega) (by omega) (by omega) (by omega)).trans (a4.1 q h1 h2), by rw [cq 1 (by omega) (by omega) (by omega) (by omega)]; exact a4.2⟩, fun k hk hk2 => (cq _ (by omega) (by omega) (by omega) (by omega)).trans (a5 k hk hk2), a6, (c5 5 (by decide)).trans a7, a8, fun i hi => by rw [cq (d + 9) (by omega) (by omega) (by omega) (by omega)]; exact a9 i hi⟩, c54, fun j hj => ?_, ?_⟩
  · by_cases hjl : j = l
    · subst hjl
      rw [c6, c7, c8, if_pos rfl, if_pos rfl, if_pos rfl, j8, jq _ (by omega), ehe, jq _ (by omega), epa, n8]
      refine ⟨rfl, rfl, rfl, ?_, Nat.le_refl _⟩
      have s6 : sh (J1 150) (446 + 4 * j) = nI he := by unfold sh; rw [show 446 + 4 * j + 849 = 1295 + 4 * j by omega, jq _ (by omega)]; exact ehe
      have s7 : sh (J1 150) (447 + 4 * j) = pa := by unfold sh; rw [show 447 + 4 * j + 849 = 1296 + 4 * j by omega, jq _ (by omega)]; exact epa
      have s8 : sh (J1 150) (448 + 4 * j) = nI n0 := by unfold sh; rw [show 448 + 4 * j + 849 = 1297 + 4 * j by omega, jq _ (by omega)]; exact es
      have s9 : sh (J1 150) (449 + 4 * j) = nI n := by unfold sh; rw [show 449 + 4 * j + 849 = 1298 + 4 * j by omega]; exact j8
      have m6 : nw (sh (J1 150)) (446 + 4 * j) = he := by unfold nw; rw [s6, zI_cl (by omega)]
      have m8 : nw (sh (J1 150)) (448 + 4 * j) = n0 := by unfold nw; rw [s8, zI_cl (by omega)]
      have m9 : nw (sh (J1 150)) (449 + 4 * j) = n := by unfold nw; rw [s9, zI_cl (by omega)]
      refine ⟨⟨by rw [m6, s6], by rw [m6]; exact hhe⟩, ?_, ⟨by rw [m8, s8], by rw [m8]; omega⟩, ⟨by rw [m9, s9], by rw [m9]; omega⟩, by rw [m8, m9]; exact hn0, ?_, ?_, ?_⟩
      · rcases hpa with h | ⟨p, h, h2⟩
        · exact Or.inl (s7.trans h)
        · have m7 : nw (sh (J1 150)) (447 + 4 * j) = p := by unfold nw; rw [s7, h, zI_cl (by omega)]
          exact Or.inr ⟨by rw [m7, s7, h], by rw [m7]; exact h2⟩
      · rw [m8, nw_sh (j := 1294 + 4 * j) (by omega)]; exact lf1.2.2
      · rw [m8, m9]
        intro i h1 h2
        obtain ⟨_, y2, y3, y4⟩ := hsteps i h2
        have e1 : sh (J1 150) (494 + 2 * i) = J1 150 (1343 + 2 * i) := by unfold sh; rw [show 494 + 2 * i + 849 = 1343 + 2 * i by omega]
        have e2 : sh (J1 150) (495 + 2 * i) = J1 150 (1344 + 2 * i) := by unfold sh; rw [show 495 + 2 * i + 849 = 1344 + 2 * i by omega]
        unfold okN at y2 y3 y4 ⊢
        rw [nwe2 e1, nwe2 e2, e1, e2]
        exact ⟨y2, y3, y4⟩
      · rw [m8, m9]
        rcases hty with h | h
        · exact Or.inl h
        · refine Or.inr ?_
          rw [tyR_cg (w := sh (J 150)) _ _ _ (fun i h1 h2 => by unfold sh; exact jq _ (by omega))]
          exact h
    · obtain ⟨b1, b2, b3, b4, b5⟩ := lf1.2.1 j (by omega)
      rw [c6, c7, c8, if_neg hjl, if_neg hjl, if_neg hjl]
      exact ⟨b1, b2, b3, b4, by omega⟩
  · rw [if_neg (by omega), show 1294 + 4 * (l + 1) = 1298 + 4 * l by omega]; exact n8.symm
