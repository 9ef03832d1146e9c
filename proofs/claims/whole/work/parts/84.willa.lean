-- ===== a will is read: steps
/-- the world's second half as the first -/
def sh (w : Nat → Int32) : Nat → Int32 := fun k => w (k + 849)
theorem tyR_add {w : Nat → Int32} : ∀ (m1 i m2 : Nat) (st : List Bool), tyR w i (m1 + m2) st = (tyR w i m1 st).bind (tyR w (i + m1) m2) := by
  intro m1
  induction m1 with
  | zero => intro i m2 st; rw [Nat.zero_add]; rfl
  | succ m1 ih =>
    intro i m2 st
    rw [show m1 + 1 + m2 = (m1 + m2) + 1 by omega]
    show (tyS (nw w (494 + 2 * i)) st).bind (tyR w (i + 1) (m1 + m2)) = ((tyS (nw w (494 + 2 * i)) st).bind (tyR w (i + 1) m1)).bind (tyR w (i + (m1 + 1)) m2)
    cases tyS (nw w (494 + 2 * i)) st with
    | none => rfl
    | some s =>
      show tyR w (i + 1) (m1 + m2) s = (tyR w (i + 1) m1 s).bind (tyR w (i + (m1 + 1)) m2)
      rw [ih (i + 1) m2 s, show i + 1 + m1 = i + (m1 + 1) by omega]
def okSt (w : Nat → Int32) (i : Nat) : Prop := okN w (1343 + 2 * i) 15 ∧ (nw w (1343 + 2 * i) = 6 → okN w (1344 + 2 * i) 3) ∧ (nw w (1343 + 2 * i) = 9 → okN w (1344 + 2 * i) 999)
def FRw (J0 J : MI) : Prop := (∀ q, q ≠ 149 → q ≠ 150 → J q = J0 q) ∧ (∀ k, k ≠ 9 → k ≠ 11 → k ≠ 12 → k ≠ 15 → J 149 k = J0 149 k) ∧ ∀ k, k < 1294 → J 150 k = J0 150 k
theorem FRw_rf (J : MI) : FRw J J := ⟨fun _ _ _ => rfl, fun _ _ _ _ _ => rfl, fun _ _ => rfl⟩
theorem FRw_o {J0 J K : MI} (h : FRw J0 J) (o : o149 J K) : FRw J0 K := ⟨fun q h1 h2 => (o.1 q h1).trans (h.1 q h1 h2), fun k h1 h2 h3 h4 => (o.2 k h1 h2).trans (h.2.1 k h1 h2 h3 h4), fun k hk => by rw [o.1 150 (by decide)]; exact h.2.2 k hk⟩
theorem FRw_w {J0 J : MI} {k : Nat} {x : Int32} (h : FRw J0 J) (hk : 1294 ≤ k) : FRw J0 (up2 J 150 k x) := ⟨fun q h1 h2 => by rw [zu_n _ _ _ h2]; exact h.1 q h1 h2, fun j h1 h2 h3 h4 => by rw [zu_n _ _ _ (by decide)]; exact h.2.1 j h1 h2 h3 h4, fun j hj => by rw [zu_s, if_neg (by omega)]; exact h.2.2 j hj⟩
theorem FRw_f {J0 J : MI} {k : Nat} {x : Int32} (h : FRw J0 J) (hk : k = 12 ∨ k = 15) : FRw J0 (up2 J 149 k x) := ⟨fun q h1 h2 => by rw [zu_n _ _ _ h1]; exact h.1 q h1 h2, fun j h1 h2 h3 h4 => by rw [zu_s, if_neg (by omega)]; exact h.2.1 j h1 h2 h3 h4, fun j hj => by rw [zu_n _ _ _ (by decide)]; exact h.2.2 j hj⟩
/-- where the reading of a will stands: thing b, step n -/
def WSt (d : Nat) (tp : Nat → Int32) (T b n : Nat) (I0 J0 I J : MI) : Prop := CT tp T b I ∧ RT tp T b J ∧ I 1 7 = I0 1 7 ∧ FCd d I0 I ∧ (∀ k, k < 45 → (k < 5 ∨ 9 < k) → I (d + k) = I0 (d + k)) ∧ FRw J0 J ∧ I (d + 5) 5 = nI n ∧ J 149 15 = nI n ∧ ∀ i, i < n → I (d + 9) i = enc (J 150 (1343 + 2 * i)) (J 150 (1344 + 2 * i)) ∧ okSt (J 150) i
/-- what a piece of a condition leaves as it was -/
def XT (d n : Nat) (I J I' J' : MI) : Prop := (I' (d + 5) 4 = I (d + 5) 4 ∧ I' (d + 6) = I (d + 6) ∧ I' (d + 7) = I (d + 7) ∧ I' (d + 8) = I (d + 8)) ∧ (∀ k, k < 1343 + 2 * n → J' 150 k = J 150 k) ∧ J' 149 12 = J 149 12
theorem XT_tr {d n n1 : Nat} {I J I1 J1 I2 J2 : MI} (hn : n ≤ n1) (h1 : XT d n I J I1 J1) (h2 : XT d n1 I1 J1 I2 J2) : XT d n I J I2 J2 := ⟨⟨h2.1.1.trans h1.1.1, h2.1.2.1.trans h1.1.2.1, h2.1.2.2.1.trans h1.1.2.2.1, h2.1.2.2.2.trans h1.1.2.2.2⟩, fun k hk => (h2.2.1 k (by omega)).trans (h1.2.1 k hk), h2.2.2.trans h1.2.2⟩
theorem XT_t {d n : Nat} {I J I' J' : MI} (hd : 14 ≤ d) (h3 : only1 I I') (h4 : o149 J J') : XT d n I J I' J' := ⟨⟨by rw [h3.1 _ (by omega)], h3.1 _ (by omega), h3.1 _ (by omega), h3.1 _ (by omega)⟩, fun k _ => by rw [h4.1 150 (by decide)], h4.2 12 (by decide) (by decide)⟩
theorem WSt_t {d : Nat} {tp : Nat → Int32} {T b b' n : Nat} {I0 J0 I J I' J' : MI} (hd : 14 ≤ d) (h : WSt d tp T b n I0 J0 I J) (h1 : CT tp T b' I') (h2 : RT tp T b' J') (h3 : only1 I I') (h4 : o149 J J') : WSt d tp T b' n I0 J0 I' J' := by
  obtain ⟨-, -, a3, a4, a5, a6, a7, a8, a9⟩ := h
  have e := h4.1 150 (by decide)
  exact ⟨h1, h2, h3.2.2.trans a3, FCd_x a4 (only1_x h3), fun k hk hk2 => (h3.1 _ (by omega)).trans (a5 k hk hk2), FRw_o a6 h4, by rw [h3.1 _ (by omega)]; exact a7, (h4.2 15 (by decide) (by decide)).trans a8, fun i hi => by rw [h3.1 _ (by omega), e]; exact a9 i hi⟩
def emC (d n : Nat) (x : Int32) (I : MI) : MI := up2 (up2 I (d + 9) n x) (d + 5) 5 (nI (n + 1))
def emR (n : Nat) (s a : Int32) (J : MI) : MI := up2 (up2 (up2 J 150 (1343 + 2 * n) s) 150 (1344 + 2 * n) a) 149 15 (nI (n + 1))
theorem c_addCode {d n : Nat} {x : Int32} {I : MI} {L : ML} (h : I (d + 5) 5 = nI n) (hn : n < 400) : f_X9_addCode d x I L = some (emC d n x I, L) := by
  unfold f_X9_addCode f_X9_addCode_30 emC
  rw [h, show (400 : Int32) = nI 400 from rfl, if_neg (le_n (by decide) (by omega) hn), stI_n hn (by decide), Option.bind_some, zu_n _ _ _ (show d + 5 ≠ d + 9 by omega), h, zI_1, pfe, Option.bind_some]
theorem r_emits {n : Nat} {s a : Int32} {J : MI} {M : ML} (h : J 149 15 = nI n) (hn : n < 400) : f_X12_emits s a J M = some (emR n s a J, M) := by
  unfold f_X12_emits emR
  rw [h, show (2 : Int32) = nI 2 from rfl, zI_mul, show (1343 : Int32) = nI 1343 from rfl, zI_add, stI_n (by omega) (by decide), Option.bind_some, zu_n _ _ _ (show 149 ≠ 150 by decide), h, zI_mul, zI_add, zI_1, stI_n (by omega) (by decide), Option.bind_some, zu_n _ _ _ (show 149 ≠ 150 by decide), zu_n _ _ _ (show 149 ≠ 150 by decide), h, zI_1, pfe, Option.bind_some, show 1343 + 2 * n + 1 = 1344 + 2 * n by omega]
theorem FRw_e {n : Nat} {s a : Int32} {J0 J : MI} (h : FRw J0 J) : FRw J0 (emR n s a J) := FRw_f (FRw_w (FRw_w h (by omega)) (by omega)) (by omega)
theorem emR_11 {n : Nat} {s a : Int32} {J : MI} : emR n s a J 149 11 = J 149 11 := by
  unfold emR
  rw [zu_s, if_neg (by decide), zu_n _ _ _ (by decide), zu_n _ _ _ (by decide)]
theorem emR_150 {n k : Nat} {s a : Int32} {J : MI} : emR n s a J 150 k = if k = 1344 + 2 * n then a else if k = 1343 + 2 * n then s else J 150 k := by
  unfold emR
  rw [zu_n _ _ _ (by decide), zu_s, zu_s]
/-- one step more -/
theorem WSt_e {d : Nat} {tp : Nat → Int32} {T b n sN : Nat} {x s a : Int32} {I0 J0 I J : MI} (hd : 14 ≤ d) (h : WSt d tp T b n I0 J0 I J) (hx : x = enc s a) (hs : s = nI sN) (hs15 : sN ≤ 15) (h6 : sN = 6 → ∃ m, a = nI m ∧ m ≤ 3) (h9 : sN = 9 → ∃ m, a = nI m ∧ m ≤ 999) : WSt d tp T b (n + 1) I0 J0 (emC d n x I) (emR n s a J) ∧ XT d n I J (emC d n x I) (emR n s a J) ∧ ∀ st, tyR (sh (emR n s a J 150)) n 1 st = tyS sN st := by
  have hF := h
  obtain ⟨a1, a2, a3, a4, a5, a6, a7, a8, a9⟩ := h
  have cq : ∀ q, q ≠ d + 9 → q ≠ d + 5 → emC d n x I q = I q := fun q h1 h2 => by unfold emC; rw [zu_n _ _ _ h2, zu_n _ _ _ h1]
  have c9 : ∀ i, emC d n x I (d + 9) i = if i = n then x else I (d + 9) i := fun i => by unfold emC; rw [zu_n _ _ _ (by omega), zu_s]
  have c5 : ∀ i, i ≠ 5 → emC d n x I (d + 5) i = I (d + 5) i := fun i hi => by unfold emC; rw [zu_s, if_neg hi, zu_n _ _ _ (by omega)]
  have rq : ∀ q, q ≠ 149 → q ≠ 150 → emR n s a J q = J q := fun q h1 h2 => by unfold emR; rw [zu_n _ _ _ h1, zu_n _ _ _ h2, zu_n _ _ _ h2]
  have r149 : ∀ k, k ≠ 15 → emR n s a J 149 k = J 149 k := fun k hk => by unfold emR; rw [zu_s, if_neg hk, zu_n _ _ _ (by decide), zu_n _ _ _ (by decide)]
  have rs : emR n s a J 150 (1343 + 2 * n) = s := by rw [emR_150, if_neg (by omega), if_pos rfl]
  have ra : emR n s a J 150 (1344 + 2 * n) = a := by rw [emR_150, if_pos rfl]
  have ro : ∀ k, k < 1343 + 2 * n → emR n s a J 150 k = J 150 k := fun k hk => by rw [emR_150, if_neg (by omega), if_neg (by omega)]
  have ns : nw (emR n s a J 150) (1343 + 2 * n) = sN := by unfold nw; rw [rs, hs, zI_cl (by omega)]
  refine ⟨⟨CT_w a1 (cq 1 (by omega) (by omega)) (cq 2 (by omega) (by omega)), ?_, by rw [cq 1 (by omega) (by omega)]; exact a3, ⟨fun q h1 h2 => (cq q (by omega) (by omega)).trans (a4.1 q h1 h2), by rw [cq 1 (by omega) (by omega)]; exact a4.2⟩, fun k hk hk2 => (cq _ (by omega) (by omega)).trans (a5 k hk hk2), FRw_e a6, ?_, ?_, fun i hi => ?_⟩, ⟨⟨c5 4 (by decide), cq _ (by omega) (by omega), cq _ (by omega) (by omega), cq _ (by omega) (by omega)⟩, ro, r149 12 (by decide)⟩, fun st => ?_⟩
  · obtain ⟨⟨x1, x2⟩, p, p1, p2⟩ := a2
    exact ⟨⟨by rw [r149 10 (by decide)]; exact x1, by rw [rq 154 (by decide) (by decide)]; exact x2⟩, p, by rw [r149 9 (by decide)]; exact p1, p2⟩
  · unfold emC; rw [zu_s, if_pos rfl]
  · unfold emR; rw [zu_s, if_pos rfl]
  · by_cases hin : i = n
    · subst hin
      rw [c9, if_pos rfl, rs, ra]
      refine ⟨hx, ⟨⟨by rw [ns, rs]; exact hs, by rw [ns]; exact hs15⟩, fun h => ?_, fun h => ?_⟩⟩
      · obtain ⟨m, m1, m2⟩ := h6 (by rw [← ns]; exact h)
        have e : nw (emR i s a J 150) (1344 + 2 * i) = m := by unfold nw; rw [ra, m1, zI_cl (by omega)]
        exact ⟨by rw [e, ra]; exact m1, by rw [e]; exact m2⟩
      · obtain ⟨m, m1, m2⟩ := h9 (by rw [← ns]; exact h)
        have e : nw (emR i s a J 150) (1344 + 2 * i) = m := by unfold nw; rw [ra, m1, zI_cl (by omega)]
        exact ⟨by rw [e, ra]; exact m1, by rw [e]; exact m2⟩
    · obtain ⟨y1, y2, y3, y4⟩ := a9 i (by omega)
      have e1 := ro (1343 + 2 * i) (by omega)
      have e2 := ro (1344 + 2 * i) (by omega)
      rw [c9, if_neg hin, e1, e2]
      exact ⟨y1, okN_cg e1 y2, fun h => okN_cg e2 (y3 (by rw [← nwe e1]; exact h)), fun h => okN_cg e2 (y4 (by rw [← nwe e1]; exact h))⟩
  · show (tyS (nw (sh (emR n s a J 150)) (494 + 2 * n)) st).bind (fun s => some s) = _
    have e : nw (sh (emR n s a J 150)) (494 + 2 * n) = sN := by
      rw [← ns]; unfold nw sh; rw [show 494 + 2 * n + 849 = 1343 + 2 * n by omega]
    rw [e]
    cases tyS sN st <;> rfl
/-- a piece of a condition, read -/
def GR (d : Nat) (tp : Nat → Int32) (T b n : Nat) (I0 J0 I J : MI) (bd : Nat) (ty : Bool) (_ : Unit) (v' : Bool) (I' J' : MI) : Prop := v' = true ∧ ∃ b' n', b < b' ∧ n < n' ∧ n' + b ≤ n + b' ∧ WSt d tp T b' n' I0 J0 I' J' ∧ XT d n I J I' J' ∧ ∀ st : List Bool, st.length ≤ bd → tyR (sh (J' 150)) n (n' - n) st = some (ty :: st)
theorem ty_cg {w w' : Nat → Int32} {i m N : Nat} (h : ∀ k, k < 1343 + 2 * N → w' k = w k) (hN : i + m ≤ N) (st : List Bool) : tyR (sh w') i m st = tyR (sh w) i m st := tyR_cg _ _ _ (fun j h1 h2 => by unfold sh; exact h _ (by omega))
