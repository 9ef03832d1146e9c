-- ===== acts: the class
theorem pfe (I : MI) (q k : Nat) (x : Int32) : pfI I q k x = some (up2 I q k x) := rfl
theorem pfle (I : ML) (q k : Nat) (x : Int64) : pfL I q k x = some (upl I q k x) := rfl
def rem9 (I : MI) (x n : Nat) (s q b sd : Int32) : MI := up2 (up2 (up2 (up2 (up2 (up2 I 4 x s) 5 x q) 6 x b) 7 x sd) 3 5 (nI ((x + 1) % 12))) 3 4 (nI (min 12 (n + 1)))
theorem c_rem {I : MI} {L : ML} {x n : Nat} {s q b sd : Int32} (hx : x < 12) (hn : n ≤ 12) (e5 : I 3 5 = nI x) (e4 : I 3 4 = nI n) : f_X0_remember s q b sd I L = some (rem9 I x n s q b sd, L) := by
  have h1 : (up2 I 4 x s) 3 5 = nI x := e5
  have h2 : (up2 (up2 I 4 x s) 5 x q) 3 5 = nI x := e5
  have h3 : (up2 (up2 (up2 I 4 x s) 5 x q) 6 x b) 3 5 = nI x := e5
  have h4 : (up2 (up2 (up2 (up2 I 4 x s) 5 x q) 6 x b) 7 x sd) 3 5 = nI x := e5
  have h5 : (up2 (up2 (up2 (up2 (up2 I 4 x s) 5 x q) 6 x b) 7 x sd) 3 5 (nI ((x + 1) % 12))) 3 4 = nI n := e4
  have e12 : (12 : Int32) = nI 12 := rfl
  unfold f_X0_remember
  rw [e5, stI_n hx (by decide), Option.bind_some, h1, stI_n hx (by decide), Option.bind_some, h2, stI_n hx (by decide), Option.bind_some, h3, stI_n hx (by decide), Option.bind_some, h4, zI_1, e12, zI_mod (by omega) (by decide), pfe, Option.bind_some, h5, zI_1, zmin (by omega) (by decide), pfe, Option.bind_some]
  rfl
theorem rem9_n {I : MI} {x n : Nat} {s q b sd : Int32} {j : Nat} (h : j < 3 ∨ 7 < j) : rem9 I x n s q b sd j = I j := by
  unfold rem9
  rw [zu_n _ _ _ (by omega), zu_n _ _ _ (by omega), zu_n _ _ _ (by omega), zu_n _ _ _ (by omega), zu_n _ _ _ (by omega), zu_n _ _ _ (by omega)]
def ACT (I : MI) (acts : List Act) : Prop := I 3 4 = nI acts.length ∧ ∃ x, x < 12 ∧ I 3 5 = nI x ∧ ∀ j a, acts[j]? = some a → I 4 ((x + 11 - j) % 12) = nI a.1 ∧ I 5 ((x + 11 - j) % 12) = nI a.2.1 ∧ I 6 ((x + 11 - j) % 12) = a.2.2.1 ∧ I 7 ((x + 11 - j) % 12) = a.2.2.2
theorem ACT_push {I : MI} {acts : List Act} (c : ACT I acts) (hl : acts.length ≤ 12) (a : Act) (L : ML) : ∃ J, f_X0_remember (nI a.1) (nI a.2.1) a.2.2.1 a.2.2.2 I L = some (J, L) ∧ ACT J ((a :: acts).take 12) ∧ ∀ j, (j < 3 ∨ 7 < j) → J j = I j := by
  obtain ⟨e4, x, hx, e5, c⟩ := c
  refine ⟨_, c_rem hx hl e5 e4, ?_, fun j hj => rem9_n hj⟩
  refine ⟨?_, (x + 1) % 12, by omega, rfl, fun j a9 h9 => ?_⟩
  · show nI (min 12 (acts.length + 1)) = _
    rw [List.length_take]; rfl
  · have hj : j < 12 := by
      have h8 := (List.getElem?_eq_some_iff.mp h9).1
      rw [List.length_take] at h8; omega
    rw [List.getElem?_take, if_pos hj] at h9
    show (up2 (up2 (up2 (up2 I 4 x (nI a.1)) 5 x (nI a.2.1)) 6 x a.2.2.1) 7 x a.2.2.2) 4 _ = _ ∧ (up2 (up2 (up2 (up2 I 4 x (nI a.1)) 5 x (nI a.2.1)) 6 x a.2.2.1) 7 x a.2.2.2) 5 _ = _ ∧ (up2 (up2 (up2 (up2 I 4 x (nI a.1)) 5 x (nI a.2.1)) 6 x a.2.2.1) 7 x a.2.2.2) 6 _ = _ ∧ (up2 (up2 (up2 (up2 I 4 x (nI a.1)) 5 x (nI a.2.1)) 6 x a.2.2.1) 7 x a.2.2.2) 7 _ = _
    rw [zu_n _ _ _ (by decide : (4 : Nat) ≠ 7), zu_n _ _ _ (by decide : (4 : Nat) ≠ 6), zu_n _ _ _ (by decide : (4 : Nat) ≠ 5), zu_s, zu_n _ _ _ (by decide : (5 : Nat) ≠ 7), zu_n _ _ _ (by decide : (5 : Nat) ≠ 6), zu_s, zu_n _ _ _ (by decide : (5 : Nat) ≠ 4), zu_n _ _ _ (by decide : (6 : Nat) ≠ 7), zu_s, zu_n _ _ _ (by decide : (6 : Nat) ≠ 5), zu_n _ _ _ (by decide : (6 : Nat) ≠ 4), zu_s, zu_n _ _ _ (by decide : (7 : Nat) ≠ 6), zu_n _ _ _ (by decide : (7 : Nat) ≠ 5), zu_n _ _ _ (by decide : (7 : Nat) ≠ 4)]
    cases j with
    | zero =>
      have e : a = a9 := Option.some.inj h9
      subst e
      rw [if_pos (by omega), if_pos (by omega), if_pos (by omega), if_pos (by omega)]
      exact ⟨rfl, rfl, rfl, rfl⟩
    | succ j =>
      have h9 : acts[j]? = some a9 := h9
      have e : ((x + 1) % 12 + 11 - (j + 1)) % 12 = (x + 11 - j) % 12 := by omega
      have hne : ¬ (x + 11 - j) % 12 = x := by omega
      rw [e, if_neg hne, if_neg hne, if_neg hne, if_neg hne]
      exact c j a9 h9
theorem ACT_pop {I : MI} {a : Act} {acts : List Act} (c : ACT I (a :: acts)) (hl : acts.length < 12) (L : ML) : ∃ J x, x < 12 ∧ f_X0_takeLatest I L = some (nI x, J, L) ∧ ACT J acts ∧ (∀ j, j ≠ 3 → J j = I j) ∧ I 4 x = nI a.1 ∧ I 5 x = nI a.2.1 ∧ I 6 x = a.2.2.1 ∧ I 7 x = a.2.2.2 := by
  obtain ⟨e4, x, hx, e5, c⟩ := c
  have e4 : I 3 4 = nI (acts.length + 1) := e4
  have h0 := c 0 a rfl
  refine ⟨up2 (up2 I 3 4 (nI acts.length)) 3 5 (nI ((x + 11) % 12)), (x + 11) % 12, by omega, ?_, ⟨rfl, (x + 11) % 12, by omega, rfl, fun j a9 h9 => ?_⟩, fun j hj => by rw [zu_n _ _ _ hj, zu_n _ _ _ hj], h0⟩
  · have h5 : (up2 I 3 4 (nI acts.length)) 3 5 = nI x := e5
    unfold f_X0_takeLatest
    rw [e4, if_neg (by rw [show (0 : Int32) = nI 0 from rfl, zI_eq (by omega) (by decide)]; omega), show (1 : Int32) = nI 1 from rfl, zI_sub (by omega), show acts.length + 1 - 1 = acts.length by omega, pfe, Option.bind_some, h5, show (12 : Int32) = nI 12 from rfl, zI_add, zI_sub (by omega), zI_mod (by omega) (by decide), show x + 12 - 1 = x + 11 by omega, pfe, Option.bind_some]
    rfl
  · have hj : j < 11 := by
      have h8 := (List.getElem?_eq_some_iff.mp h9).1
      omega
    have h8 := c (j + 1) a9 h9
    have e : ((x + 11) % 12 + 11 - j) % 12 = (x + 11 - (j + 1)) % 12 := by omega
    rw [e]
    exact h8
-- ===== acts: the reference
theorem r_55 {I : MI} {L : ML} {m : Nat} (hm : m < 12) (e6 : I 149 6 = nI (m + 1)) : Tt (f_X12_remembers_55 FU 0 I L) (fun r => r.2 = L ∧ (∀ j, j ≠ 153 → r.1 j = I j) ∧ ∀ i, r.1 153 i = if 445 * m ≤ i ∧ i < 445 * m + 445 then I 150 (i - 445 * m) else I 153 i) := by
  refine lp0 (fun fuel k (J : MI) => f_X12_remembers_55 fuel (nI k) J L) 445 (fun k J => (∀ j, j ≠ 153 → J j = I j) ∧ ∀ i, J 153 i = if 445 * m ≤ i ∧ i < 445 * m + k then I 150 (i - 445 * m) else I 153 i) (by decide) ?_ ?_ ⟨fun _ _ => rfl, fun i => by rw [if_neg (by omega)]⟩
  · intro fuel k J hk ⟨i0, i1⟩ hn
    show Tt (f_X12_remembers_55 (fuel + 1) (nI k) J L) _
    unfold f_X12_remembers_55
    rw [if_neg (by rw [show (445 : Int32) = nI 445 from rfl, zI_le (by decide) (by omega)]; omega), r_w (by omega), Option.bind_some, i0 149 (by decide), e6, i0 150 (by decide), show (1 : Int32) = nI 1 from rfl, zI_sub (by omega), show m + 1 - 1 = m by omega, show (445 : Int32) = nI 445 from rfl, zI_mul, zI_add, stI_n (by omega) (by decide), Option.bind_some, zI_add]
    refine hn _ ⟨fun j hj => by rw [zu_n _ _ _ hj]; exact i0 j hj, fun i => ?_⟩
    rw [zu_s, i1]
    by_cases h9 : i = 445 * m + k
    · rw [if_pos h9, if_pos (by omega), h9, show 445 * m + k - 445 * m = k by omega]
    · rw [if_neg h9]
      by_cases h8 : 445 * m ≤ i ∧ i < 445 * m + k
      · rw [if_pos h8, if_pos (by omega)]
      · rw [if_neg h8, if_neg (by omega)]
  · intro fuel J ⟨i0, i1⟩
    show Tt (f_X12_remembers_55 (fuel + 1) (nI 445) J L) _
    unfold f_X12_remembers_55
    rw [if_pos (by decide)]
    exact Tt_some ⟨rfl, i0, i1⟩
theorem r_11 {I : MI} {L : ML} {R : MI × ML → Prop} (hk : ∀ J, (∀ j, j ≠ 153 → J j = I j) → (∀ i, J 153 i = if i < 4895 then I 153 (i + 445) else I 153 i) → Tt (f_X12_remembers_53 J L) R) : Tt (f_X12_remembers_11 FU 0 I L) R := by
  refine lp0 (fun fuel k (J : MI) => f_X12_remembers_11 fuel (nI k) J L) 4895 (fun k J => (∀ j, j ≠ 153 → J j = I j) ∧ ∀ i, J 153 i = if i < k then I 153 (i + 445) else I 153 i) (by decide) ?_ ?_ ⟨fun _ _ => rfl, fun i => by rw [if_neg (by omega)]⟩
  · intro fuel k J hk9 ⟨i0, i1⟩ hn
    show Tt (f_X12_remembers_11 (fuel + 1) (nI k) J L) _
    unfold f_X12_remembers_11
    rw [if_neg (by rw [show (4895 : Int32) = nI 4895 from rfl, zI_le (by decide) (by omega)]; omega), show (445 : Int32) = nI 445 from rfl, zI_add, ldI_n (by omega) (by decide), Option.bind_some, stI_n (by omega) (by decide), Option.bind_some, zI_1]
    refine hn _ ⟨fun j hj => by rw [zu_n _ _ _ hj]; exact i0 j hj, fun i => ?_⟩
    rw [zu_s, i1, i1, if_neg (show ¬ k + 445 < k by omega)]
    by_cases h9 : i = k
    · rw [if_pos h9, if_pos (by omega), h9]
    · rw [if_neg h9]
      by_cases h8 : i < k
      · rw [if_pos h8, if_pos (by omega)]
      · rw [if_neg h8, if_neg (by omega)]
  · intro fuel J ⟨i0, i1⟩
    show Tt (f_X12_remembers_11 (fuel + 1) (nI 4895) J L) _
    unfold f_X12_remembers_11
    rw [if_pos (by decide)]
    exact hk J i0 i1
theorem r_rem {I : MI} {L : ML} {n : Nat} (hn : n ≤ 12) (e6 : I 149 6 = nI n) : Tt (f_X12_remembers I L) (fun r => r.2 = L ∧ (∀ j, j ≠ 149 → j ≠ 153 → r.1 j = I j) ∧ (∀ k, k ≠ 6 → r.1 149 k = I 149 k) ∧ r.1 149 6 = nI (min 12 (n + 1)) ∧ ∀ j k, j < min 12 (n + 1) → k < 445 → r.1 153 (445 * j + k) = if j + 1 = min 12 (n + 1) then I 150 k else if n = 12 then I 153 (445 * (j + 1) + k) else I 153 (445 * j + k)) := by
  unfold f_X12_remembers
  by_cases h12 : n = 12
  · subst h12
    rw [e6, if_pos (by decide)]
    refine r_11 fun J j0 j1 => ?_
    unfold f_X12_remembers_53
    refine Tt_mono (r_55 (m := 11) (by decide) (by rw [j0 149 (by decide)]; exact e6)) ?_
    intro r ⟨r1, r2, r3⟩
    refine ⟨r1, fun j h1 h2 => (r2 j h2).trans (j0 j h2), fun k _ => by rw [r2 149 (by decide), j0 149 (by decide)], by rw [r2 149 (by decide), j0 149 (by decide)]; exact e6, fun j k hj hk => ?_⟩
    rw [r3, j0 150 (by decide), j1]
    by_cases h9 : j + 1 = min 12 (12 + 1)
    · rw [if_pos h9, if_pos (by omega), show 445 * j + k - 445 * 11 = k by omega]
    · rw [if_neg h9, if_pos rfl, if_neg (by omega), if_pos (by omega), show 445 * j + k + 445 = 445 * (j + 1) + k by omega]
  · rw [e6, if_neg (by rw [show (12 : Int32) = nI 12 from rfl, zI_eq (by omega) (by decide)]; exact h12), zI_1, pfe, Option.bind_some]
    unfold f_X12_remembers_53
    have hm : min 12 (n + 1) = n + 1 := by omega
    refine Tt_mono (r_55 (m := n) (by omega) (by rw [zu_s, if_pos rfl])) ?_
    intro r ⟨r1, r2, r3⟩
    refine ⟨r1, fun j h1 h2 => by rw [r2 j h2, zu_n _ _ _ h1], fun k hk => by rw [r2 149 (by decide), zu_s, if_neg hk], by rw [r2 149 (by decide), zu_s, if_pos rfl, hm], fun j k hj hk => ?_⟩
    rw [hm] at hj ⊢
    rw [r3, zu_n _ _ _ (by decide), zu_n _ _ _ (by decide), if_neg h12]
    by_cases h9 : j + 1 = n + 1
    · rw [if_pos h9, if_pos (by omega), show 445 * j + k - 445 * n = k by omega]
    · rw [if_neg h9, if_neg (by omega)]
theorem undo1_set {w : Nat → Int32} {a : Act} {x : Int32} (h1 : a.2.2.1 = w (actAt a.1 a.2.1)) (h2 : a.2.2.2 = w 13) : undo1 a (setw w (actAt a.1 a.2.1) x) = w := by
  funext k
  unfold undo1 setw
  by_cases e : k = 13
  · rw [if_pos e, h2, e]
  · rw [if_neg e]
    by_cases e1 : k = actAt a.1 a.2.1
    · rw [if_pos e1, h1, e1]
    · rw [if_neg e1, if_neg e1]
theorem undo1_seed {w : Nat → Int32} {a : Act} {x : Int32} : undo1 a (setw w 13 x) = undo1 a w := by
  funext k
  unfold undo1 setw
  by_cases e : k = 13
  · simp only [if_pos e]
  · simp only [if_neg e]
/-- the state with another world and other acts -/
def nwA (A : AS) (w : Nat → Int32) (acts : List Act) : AS := (w, A.2.1, A.2.2.1, A.2.2.2.1, A.2.2.2.2.1, acts)
/-- the reference remembers, and one field of its world is given anew -/
theorem R_act {I : MI} {L : ML} {A : AS} (hR : RI9 I L A) (hl : A.2.2.2.2.2.length ≤ 12) (a : Act) (x : Int32) (h1 : a.2.2.1 = A.1 (actAt a.1 a.2.1)) (h2 : a.2.2.2 = A.1 13) : Tt (f_X12_remembers I L) (fun r => r.2 = L ∧ r.1 150 = A.1 ∧ (∀ j, j ≠ 149 → j ≠ 153 → r.1 j = I j) ∧ (∀ k, k ≠ 6 → r.1 149 k = I 149 k) ∧ RI9 (up2 r.1 150 (actAt a.1 a.2.1) x) L (nwA A (setw A.1 (actAt a.1 a.2.1) x) ((a :: A.2.2.2.2.2).take 12))) := by
  obtain ⟨q1, q2, q3, q4, q5, q6, q7, q8⟩ := hR
  refine Tt_mono (r_rem hl q7) ?_
  intro r ⟨r1, r2, r3, r4, r5⟩
  have e150 : r.1 150 = A.1 := (r2 150 (by decide) (by decide)).trans q1
  have hlen : ((a :: A.2.2.2.2.2).take 12).length = min 12 (A.2.2.2.2.2.length + 1) := by rw [List.length_take]; rfl
  refine ⟨r1, e150, r2, r3, up_150 e150, ?_, ?_, ?_, ?_, ?_, ?_, ?_⟩
  · rw [zu_n _ _ _ (by decide), r3 5 (by decide)]; exact q2
  · rw [zu_n _ _ _ (by decide), r2 151 (by decide) (by decide)]; exact q3
  · rw [zu_n _ _ _ (by decide), r3 8 (by decide)]; exact q4
  · rw [zu_n _ _ _ (by decide), r2 154 (by decide) (by decide)]; exact q5
  · rw [zu_n _ _ _ (by decide), r3 13 (by decide)]; exact q6
  · rw [zu_n _ _ _ (by decide), r4]
    show _ = nI ((a :: A.2.2.2.2.2).take 12).length
    rw [hlen]
  · show ∀ j, j < ((a :: A.2.2.2.2.2).take 12).length → ∀ k, k < 445 → _ = undoL (((a :: A.2.2.2.2.2).take 12).take (((a :: A.2.2.2.2.2).take 12).length - j)) (setw A.1 (actAt a.1 a.2.1) x) k
    rw [hlen]
    intro j hj k hk
    rw [zu_n _ _ _ (by decide), r5 j k hj hk, List.take_take, show min (min 12 (A.2.2.2.2.2.length + 1) - j) 12 = (min 12 (A.2.2.2.2.2.length + 1) - j - 1) + 1 by omega, List.take_succ_cons]
    show _ = undoL (A.2.2.2.2.2.take (min 12 (A.2.2.2.2.2.length + 1) - j - 1)) (undo1 a (setw A.1 (actAt a.1 a.2.1) x)) k
    rw [undo1_set h1 h2]
    by_cases h9 : j + 1 = min 12 (A.2.2.2.2.2.length + 1)
    · rw [if_pos h9, show min 12 (A.2.2.2.2.2.length + 1) - j - 1 = 0 by omega, q1]; rfl
    · rw [if_neg h9]
      by_cases h8 : A.2.2.2.2.2.length = 12
      · rw [if_pos h8, q8 (j + 1) (by omega) k hk, show A.2.2.2.2.2.length - (j + 1) = min 12 (A.2.2.2.2.2.length + 1) - j - 1 by omega]
      · rw [if_neg h8, q8 j (by omega) k hk, show A.2.2.2.2.2.length - j = min 12 (A.2.2.2.2.2.length + 1) - j - 1 by omega]
theorem Cp_a {T : Type} {hs : List String} {I J : MI} {M : ML} {A' : AS} {v : T} (h : CI9 J M A') (hq : ∀ q, 149 ≤ q → J q = I q) : CpX hs I A' (.inr v) (.inr v, J, M) := ⟨rfl, h, hq⟩
theorem Cp_e {T : Type} {I J : MI} {M : ML} {A' : AS} {v : T} (h : CI9 J M A') (hq : ∀ q, 149 ≤ q → J q = I q) : CpD I A' v (v, J, M) := ⟨rfl, h, hq⟩
theorem Rp_e {T : Type} {I J : MI} {L M : ML} {A' : AS} {v : T} (h : RI9 J M A') (hI : ∀ q, q < 149 → J q = I q) (hL : ∀ q, q < 149 → M q = L q) : RpD I L A' v (v, J, M) := ⟨rfl, h, fun q hq => ⟨hI q hq, hL q hq⟩⟩
/-- the ref's end of a call with a new state -/
theorem Rp_a {T : Type} {I J : MI} {L M : ML} {A : AS} {v : T} (h : RI9 J M A) (h0 : J 149 0 = 0) (hI : ∀ q, q < 149 → J q = I q) (hL : ∀ q, (q < 149 ∨ q = 160) → M q = L q) : RpX I L A (.inr v) (v, J, M) := ⟨⟨h0, rfl⟩, h, fun q hq => ⟨hI q hq, hL q (Or.inl hq)⟩, hL 160 (Or.inr rfl)⟩
theorem RI_th {I : MI} {L : ML} {A : AS} (h : RI9 I L A) : RI9 (th0 I) L A := RI_thr h
theorem th0_0 {I : MI} : th0 I 149 0 = 0 := by unfold th0; rw [zu_s, if_pos rfl]
/-- the class's cells with another world and other acts -/
theorem CJ_act {h d : Nat} {I J : MI} {L M : ML} {A : AS} {w : Nat → Int32} {acts : List Act} (hd : HD h d) (cj : CJ h d I L A) (h0 : J 0 = I 0) (h1 : J 1 = I 1) (h2 : J 2 = I 2) (hk : ∀ k, k < 45 → k ≠ 10 → J (104 + k) = I (104 + k)) (hL : M 116 = L 116) (hc : CR h J M w) (ha : ACT J acts) : CJ h d J M (nwA A w acts) := by
  obtain ⟨a1, a2, a3, b1, b2, c1, c2, c3, d1⟩ := cj
  exact ⟨by rw [h0]; exact a1, by rw [h0]; exact a2, hc, by rw [h0]; exact b1, fun v hv => CR_cg hk hL (b2 v hv), by rw [h1]; exact c1, by rw [h2]; exact c2, by rw [h1]; exact c3, ha⟩
theorem okA_cg {w w' : Nat → Int32} {a : Act} (h0 : nw w' 0 = nw w 0) (h2 : nw w' 2 = nw w 2) (h3 : nw w' 3 = nw w 3) (hk : ∀ q, q < nw w 3 → nw w' (85 + 10 * q + 0) = nw w (85 + 10 * q + 0)) (h : okA w a) : okA w' a := by
  unfold okA at h ⊢
  rw [h0, h2, h3]
  rcases h with h | ⟨x1, x2, x3, x4⟩ | h | h
  · exact Or.inl h
  · exact Or.inr (Or.inl ⟨x1, x2, by rw [hk _ x2]; exact x3, x4⟩)
  · exact Or.inr (Or.inr (Or.inl h))
  · exact Or.inr (Or.inr (Or.inr h))
/-- what an act leaves as it was -/
theorem act_nw {w : Nat → Int32} {a : Act} {x : Int32} (hok : okA w a) (h0 : nw w 0 ≤ 10) (h2 : nw w 2 ≤ 6) (h3 : nw w 3 ≤ 12) : nw (setw w (actAt a.1 a.2.1) x) 0 = nw w 0 ∧ nw (setw w (actAt a.1 a.2.1) x) 2 = nw w 2 ∧ nw (setw w (actAt a.1 a.2.1) x) 3 = nw w 3 ∧ (∀ q, nw (setw w (actAt a.1 a.2.1) x) (85 + 10 * q + 0) = nw w (85 + 10 * q + 0)) ∧ setw w (actAt a.1 a.2.1) x 13 = w 13 ∧ actAt a.1 a.2.1 < 445 ∧ actAt a.1 a.2.1 ≠ 13 := by
  have key : ∀ p, actAt a.1 a.2.1 = p → (15 ≤ p ∧ p < 445 ∧ ∀ q, p ≠ 85 + 10 * q + 0) := by
    intro p hp
    unfold actAt at hp
    rcases hok with ⟨e, h1, -⟩ | ⟨e, h1, -⟩ | ⟨e, h1, -⟩ | ⟨e, h1, -⟩
    · rw [if_pos e] at hp; exact ⟨by omega, by omega, fun q => by omega⟩
    · rw [if_neg (by omega), if_pos e] at hp; exact ⟨by omega, by omega, fun q => by omega⟩
    · rw [if_neg (by omega), if_neg (by omega), if_pos e] at hp; exact ⟨by omega, by omega, fun q => by omega⟩
    · rw [if_neg (by omega), if_neg (by omega), if_neg (by omega)] at hp
      exact ⟨by omega, by omega, fun q => by omega⟩
  obtain ⟨k1, k2, k3⟩ := key _ rfl
  exact ⟨nwe (sw_n w x (by omega)), nwe (sw_n w x (by omega)), nwe (sw_n w x (by omega)), fun q => nwe (sw_n w x (fun h9 => k3 q h9.symm)), sw_n w x (by omega), k2, by omega⟩
theorem ACT_cg {I J : MI} {acts : List Act} (h : ∀ q, 3 ≤ q → q ≤ 7 → J q = I q) (c : ACT I acts) : ACT J acts := by
  unfold ACT
  rw [h 3 (by decide) (by decide), h 4 (by decide) (by decide), h 5 (by decide) (by decide), h 6 (by decide) (by decide), h 7 (by decide) (by decide)]
  exact c
theorem AI_up {c : Nat} {A : AS} (hA : AI c A) : AI (c + 1) A := ⟨WF_up hA.1, fun v hv => WF_up (hA.2.1 v hv), hA.2.2⟩
theorem AI_act {c : Nat} {A : AS} {a : Act} {x : Int32} (hA : AI c A) (hok : okA A.1 a) (hw : WF c (setw A.1 (actAt a.1 a.2.1) x)) : AI (c + 1) (nwA A (setw A.1 (actAt a.1 a.2.1) x) ((a :: A.2.2.2.2.2).take 12)) := by
  obtain ⟨h1, h2, h3, h4, h5, h6⟩ := hA
  obtain ⟨k0, k2, k3, kq, -⟩ := act_nw (x := x) hok h1.1.1.2 h1.2.1.1.2 h1.2.2.1.1.2
  refine ⟨WF_up hw, fun v hv => WF_up (h2 v hv), h3, h4, ?_, fun a9 h9 => ?_⟩
  · show ((a :: A.2.2.2.2.2).take 12).length ≤ 12
    rw [List.length_take]; omega
  · have h8 : a9 ∈ a :: A.2.2.2.2.2 := List.mem_of_mem_take h9
    refine okA_cg k0 k2 k3 (fun q _ => kq q) ?_
    rcases List.mem_cons.mp h8 with h7 | h7
    · rw [h7]; exact hok
    · exact h6 a9 h7
theorem fin {P : MI → ML → Prop} {c : Nat} {A' : AS} (hA' : AI (c + 1) A') (h : ∃ I' L', P I' L' ∧ CI9 I' L' A' ∧ RI9 I' L' A') : ∃ I' L', P I' L' ∧ Inv9 (c + 1) I' L' := by
  obtain ⟨I', L', a, b, d⟩ := h
  exact ⟨I', L', a, A', hA', b, d⟩
theorem R_actX {I : MI} {L : ML} {A : AS} (hR : RI9 I L A) (hl : A.2.2.2.2.2.length ≤ 12) (a : Act) (x : Int32) (h1 : a.2.2.1 = A.1 (actAt a.1 a.2.1)) (h2 : a.2.2.2 = A.1 13) : Tt (f_X12_remembers (th0 I) L) (fun r => r.1 150 = A.1 ∧ ∀ (T : Type) (v : T), RpX I L (nwA A (setw A.1 (actAt a.1 a.2.1) x) ((a :: A.2.2.2.2.2).take 12)) (.inr v) (v, up2 r.1 150 (actAt a.1 a.2.1) x, r.2)) := by
  refine Tt_mono (R_act (RI_th hR) hl a x h1 h2) ?_
  intro r ⟨r1, r2, r3, r4, r5⟩
  refine ⟨r2, fun T v => ?_⟩
  rw [r1]
  exact Rp_a r5 (by rw [zu_n _ _ _ (by decide), r4 0 (by decide)]; exact th0_0) (fun q hq => by rw [zu_n _ _ _ (by omega), r3 q (by omega) (by omega), th0_n (by omega)]) (fun _ _ => rfl)
theorem r_sth {I : MI} {L : ML} {n k : Nat} {x : Int32} (h : n < 6) (hk : k < 3) : f_X12_setsHeir (nI n) (nI k) x I L = some (up2 I 150 (67 + 3 * n + k) x, L) := by
  unfold f_X12_setsHeir
  rw [show (67 : Int32) = nI 67 from rfl, show (3 : Int32) = nI 3 from rfl, zI_mul, zI_add, zI_add, stI_n (by omega) (by decide)]; rfl
theorem r_st {I : MI} {L : ML} {n k : Nat} {x : Int32} (h : n < 12) (hk : k < 10) : f_X12_sets (nI n) (nI k) x I L = some (up2 I 150 (85 + 10 * n + k) x, L) := by
  unfold f_X12_sets
  rw [show (85 : Int32) = nI 85 from rfl, show (10 : Int32) = nI 10 from rfl, zI_mul, zI_add, zI_add, stI_n (by omega) (by decide)]; rfl
theorem HD_b {h d : Nat} (hd : HD h d) : 14 ≤ h ∧ h + 45 ≤ 104 ∧ 14 ≤ d ∧ d + 45 ≤ 104 ∧ (d + 45 ≤ h ∨ h + 45 ≤ d) := by unfold HD at hd; omega
theorem fin_s {P : MI → ML → Prop} {c : Nat} {A : AS} (hA : AI c A) (h : ∃ I' L', P I' L' ∧ CI9 I' L' A ∧ RI9 I' L' A) : ∃ I' L', P I' L' ∧ Inv9 (c + 1) I' L' := fin (AI_up hA) h
-- ===== go
theorem C_go {c : Nat} {I : MI} {L : ML} {A : AS} (hA : AI c A) (hC : CI9 I L A) (hR : RI9 I L A) (x y : Int32) : ∃ I' L', SI [IOB] (f_X11_go x y I L) (f_X12_go x y) I' L' ∧ Inv9 (c + 1) I' L' := by
  obtain ⟨h, d, hd, cj⟩ := id hC
  obtain ⟨e, cr, e0, e2, e3⟩ := C_n hA cj
  have hb := HD_b hd
  by_cases hx : ∃ k, k < nw A.1 2 ∧ x = nI k
  · by_cases hy : ∃ k, k < nw A.1 0 ∧ y = nI k
    · obtain ⟨k, hk, rfl⟩ := hx
      obtain ⟨r, hr, rfl⟩ := hy
      have h6 := AI_h hA
      have h10 := AI_r hA
      have hk6 : k < 6 := by omega
      obtain ⟨n0, n1, n2⟩ := cr.2.1.2 k hk6
      have e18 : I h 18 = A.1 13 := cr.2.2.2.1.2.2.2.2.2.2.2
      obtain ⟨q0, -⟩ := hA.1.2.1.2 k hk
      have hok : okA A.1 (0, k, A.1 (67 + 3 * k + 0), A.1 13) := Or.inl ⟨rfl, hk, nw A.1 (67 + 3 * k + 0), q0.1.1, q0.2⟩
      obtain ⟨J, j1, j2, j3⟩ := ACT_push cj.2.2.2.2.2.2.2.2 hA.2.2.2.2.1 (0, k, A.1 (67 + 3 * k + 0), A.1 13) L
      have j1 : f_X0_remember 0 (nI k) (A.1 (67 + 3 * k + 0)) (A.1 13) I L = some (J, L) := j1
      have crJ : CR h J L A.1 := CR_cg (fun q h1 h2 => j3 _ (by omega)) rfl cr
      have eJ : J 0 4 = nI h := by rw [j3 0 (by omega)]; exact e
      refine fin (AI_act (a := (0, k, A.1 (67 + 3 * k + 0), A.1 13)) (x := nI r) hA hok (WF_go hk hr hA.1)) (mkSI (res := .inr (A.1 (67 + 3 * k + 0))) hR ?_ ?_)
      · simp only [f_X11_go, c_needHeir_t hd e e2 h6 hk, c_needRoom_t hd e e0 h10 hr, Option.bind_some, xc_r, hs_h hd e, ldR_n hk6 (show 6 < 2 ^ 31 by decide), n0, e18, j1, hs_h hd eJ, pfe]
        refine Tt_some (Cp_a ⟨h, d, hd, CJ_act hd cj ?_ ?_ ?_ (fun q _ _ => ?_) rfl (CR_go hk6 _ hA.1 crJ) (ACT_cg (fun q _ _ => zu_n _ _ _ (by omega)) j2)⟩ (fun q hq => ?_))
        · rw [zu_n _ _ _ (by omega)]; exact j3 0 (by omega)
        · rw [zu_n _ _ _ (by omega)]; exact j3 1 (by omega)
        · rw [zu_n _ _ _ (by omega)]; exact j3 2 (by omega)
        · rw [zu_n _ _ _ (by omega)]; exact j3 _ (by omega)
        · show up2 J (h + 27 + k) 0 (nI r) q = I q
          rw [zu_n _ _ _ (by omega)]; exact j3 q (by omega)
      · intro I' L' hR'
        simp only [f_X12_go, f_X12_go_27, pf0, Option.bind_some, r_noHeir_t (R_2 hA hR') h6 hk, r_noRoom_t (R_0 hA hR') h10 hr, r_thr_f, bft, if_false]
        refine Tt_bind (Tt_mono (R_actX hR' hA.2.2.2.2.1 (0, k, A.1 (67 + 3 * k + 0), A.1 13) (nI r) rfl rfl) ?_)
        intro s ⟨s1, s2⟩
        have r1 : f_X12_ofHeir (nI k) 0 s.1 s.2 = some (s.1 150 (67 + 3 * k + 0)) := r_heir (k := 0) hk6 (by decide)
        have r2 : f_X12_setsHeir (nI k) 0 (nI r) s.1 s.2 = some (up2 s.1 150 (67 + 3 * k + 0) (nI r), s.2) := r_sth (k := 0) hk6 (by decide)
        rw [r1, Option.bind_some, r2, Option.bind_some, s1]
        exact Tt_some (s2 _ _)
    · obtain ⟨k, hk, rfl⟩ := hx
      refine fin_s hA (mkSI (res := .inl 1) hR ?_ ?_)
      · simp only [f_X11_go, c_needHeir_t hd e e2 (AI_h hA) hk, c_needRoom_f hd e e0 (AI_r hA) (no_ex hy), Option.bind_some, xc_r, xc_l]
        exact Tt_some (Cp_t hC (wk_1 (by decide)))
      · intro I' L' hR'
        simp only [f_X12_go, f_X12_go_22, f_X12_go_27, pf0, Option.bind_some, r_noHeir_t (R_2 hA hR') (AI_h hA) hk, r_noRoom_f (R_0 hA hR') (AI_r hA) (no_ex hy), r_thr_t, bft, if_false, if_true]
        exact Tt_some (Rp_t hR' (by decide))
  · refine fin_s hA (mkSI (res := .inl 1) hR ?_ ?_)
    · simp only [f_X11_go, c_needHeir_f hd e e2 (AI_h hA) (no_ex hx), Option.bind_some, xc_l]
      exact Tt_some (Cp_t hC (wk_1 (by decide)))
    · intro I' L' hR'
      simp only [f_X12_go, f_X12_go_22, f_X12_go_27, pf0, Option.bind_some, r_noHeir_f (R_2 hA hR') (AI_h hA) (no_ex hx), r_thr_t, if_true]
      exact Tt_some (Rp_t hR' (by decide))
-- ===== make
theorem c_need_t {I : MI} {L : ML} : f_X11_need true I L = some (.inr (), I, L) := rfl
theorem c_need_f {I : MI} {L : ML} : f_X11_need false I L = some (.inl "java/lang/IllegalArgumentException", I, L) := rfl
theorem C_make {c : Nat} {I : MI} {L : ML} {A : AS} (hA : AI c A) (hC : CI9 I L A) (hR : RI9 I L A) (x : Int32) : ∃ I' L', SB [IOB, IAE] (f_X11_make x I L) (f_X12_make x) I' L' ∧ Inv9 (c + 1) I' L' := by
  obtain ⟨h, d, hd, cj⟩ := id hC
  obtain ⟨e, cr, e0, e2, e3⟩ := C_n hA cj
  have hb := HD_b hd
  by_cases hx : ∃ k, k < nw A.1 3 ∧ x = nI k
  · obtain ⟨k, hk, rfl⟩ := hx
    have h12 := AI_n hA
    have hk12 : k < 12 := by omega
    obtain ⟨n0, n1, n2, n3, n4, n5, n6, n7, n8, n9⟩ := (cr.2.2.1.2 k hk12).1 hk
    have wf := hA.1.2.2.1.2 k hk
    have g0 : A.1 (85 + 10 * k + 0) = nI (nw A.1 (85 + 10 * k + 0)) := wf.1.1
    have g0b : nw A.1 (85 + 10 * k + 0) ≤ 3 := wf.1.2
    have rk : ∀ {I' : MI} {L' : ML}, RI9 I' L' A → f_X12_of (nI k) 0 (th0 I') L' = some (A.1 (85 + 10 * k + 0)) := fun {I'} {L'} hR' => by
      have h9 := r_of (I := th0 I') (L := L') (n := k) (k := 0) hk12 (by decide)
      rw [R_w hR'] at h9; exact h9
    by_cases h3 : nw A.1 (85 + 10 * k + 0) = 3
    · have k3 : A.1 (85 + 10 * k + 0) = 3 := by rw [g0, h3]; rfl
      have wm : A.1 (85 + 10 * k + 9) = 0 ∨ A.1 (85 + 10 * k + 9) = 1 := wf.2.2.2.2.2.2.2.2.imp id (fun z => z.1)
      have e18 : I h 18 = A.1 13 := cr.2.2.2.1.2.2.2.2.2.2.2
      have hok : okA A.1 (1, k, A.1 (85 + 10 * k + 9), A.1 13) := Or.inr (Or.inl ⟨rfl, hk, h3, wm⟩)
      obtain ⟨J, j1, j2, j3⟩ := ACT_push cj.2.2.2.2.2.2.2.2 hA.2.2.2.2.1 (1, k, A.1 (85 + 10 * k + 9), A.1 13) L
      have j1 : f_X0_remember 1 (nI k) (A.1 (85 + 10 * k + 9)) (A.1 13) I L = some (J, L) := j1
      have crJ : CR h J L A.1 := CR_cg (fun q h1 h2 => j3 _ (by omega)) rfl cr
      refine fin (AI_act (a := (1, k, A.1 (85 + 10 * k + 9), A.1 13)) (x := 1) hA hok (WF_nz (fd := 9) hk (Or.inr ⟨rfl, h3, Or.inr rfl⟩) hA.1)) (mkSB (res := .inr (decide (A.1 (85 + 10 * k + 9) = 0))) hR ?_ ?_)
      · have key : f_X11_make (nI k) I L = some (.inr (decide (A.1 (85 + 10 * k + 9) = 0)), up2 J (h + 33 + k) 9 1, L) := by
          simp only [f_X11_make, c_needNoise_t hd e e3 h12 hk, Option.bind_some, xc_r, hs_h hd e, ldR_n hk12 (show 12 < 2 ^ 31 by decide), n0, k3, if_true, f_X11_make_28, c_need_t, n9, f_X11_make_51, e18]
          rcases wm with wm | wm
          · rw [wm] at j1 ⊢
            rw [if_neg (by decide), show bI true = 1 from rfl, show bI false = 0 from rfl, j1, Option.bind_some, pfe, Option.bind_some, if_neg (by decide)]; rfl
          · rw [wm] at j1 ⊢
            rw [if_pos (by decide), show bI true = 1 from rfl, j1, Option.bind_some, pfe, Option.bind_some, if_pos (by decide)]; rfl
        rw [key]
        refine Tt_some (Cp_a ⟨h, d, hd, CJ_act hd cj ?_ ?_ ?_ (fun q _ _ => ?_) rfl (CR_nz (fd := 9) (Or.inr ⟨rfl, rfl⟩) hk _ hA.1 crJ) (ACT_cg (fun q _ _ => zu_n _ _ _ (by omega)) j2)⟩ (fun q hq => ?_))
        · rw [zu_n _ _ _ (by omega)]; exact j3 0 (by omega)
        · rw [zu_n _ _ _ (by omega)]; exact j3 1 (by omega)
        · rw [zu_n _ _ _ (by omega)]; exact j3 2 (by omega)
        · rw [zu_n _ _ _ (by omega)]; exact j3 _ (by omega)
        · show up2 J (h + 33 + k) 9 1 q = I q
          rw [zu_n _ _ _ (by omega)]; exact j3 q (by omega)
      · intro I' L' hR'
        simp only [f_X12_make, f_X12_make_34, f_X12_make_62, pf0, Option.bind_some, r_noNoise_t (R_3 hA hR') h12 hk, r_thr_f, bft, if_false, rk hR', k3, if_true]
        refine Tt_bind (Tt_mono (R_actX hR' hA.2.2.2.2.1 (1, k, A.1 (85 + 10 * k + 9), A.1 13) 1 rfl rfl) ?_)
        intro s ⟨s1, s2⟩
        have r1 : f_X12_of (nI k) 9 s.1 s.2 = some (s.1 150 (85 + 10 * k + 9)) := r_of (k := 9) hk12 (by decide)
        have r2 : f_X12_sets (nI k) 9 1 s.1 s.2 = some (up2 s.1 150 (85 + 10 * k + 9) 1, s.2) := r_st (k := 9) hk12 (by decide)
        rw [r1, Option.bind_some, r2, Option.bind_some, Option.bind_some, s1]
        by_cases h0 : A.1 (85 + 10 * k + 9) = 0
        · rw [if_pos h0, decide_eq_true h0]; exact Tt_some (s2 _ _)
        · rw [if_neg h0, decide_eq_false h0]; exact Tt_some (s2 _ _)
    · have k3 : ¬ A.1 (85 + 10 * k + 0) = 3 := by rw [g0, show (3 : Int32) = nI 3 from rfl, zI_eq (by omega) (by decide)]; exact h3
      refine fin_s hA (mkSB (res := .inl 2) hR ?_ ?_)
      · simp only [f_X11_make, c_needNoise_t hd e e3 h12 hk, Option.bind_some, xc_r, hs_h hd e, ldR_n hk12 (show 12 < 2 ^ 31 by decide), n0, if_neg k3, f_X11_make_28, c_need_f, xc_l]
        exact Tt_some (Cp_t hC (wk_2 (by decide)))
      · intro I' L' hR'
        simp only [f_X12_make, f_X12_make_34, f_X12_make_41, pf0, Option.bind_some, r_noNoise_t (R_3 hA hR') h12 hk, r_thr_f, bft, if_false, rk hR', if_neg k3, r_thr_t, if_true]
        exact Tt_some (Rp_t hR' (by decide))
  · refine fin_s hA (mkSB (res := .inl 1) hR ?_ ?_)
    · simp only [f_X11_make, c_needNoise_f hd e e3 (AI_n hA) (no_ex hx), Option.bind_some, xc_l]
      exact Tt_some (Cp_t hC (wk_1 (by decide)))
    · intro I' L' hR'
      simp only [f_X12_make, f_X12_make_41, pf0, Option.bind_some, r_noNoise_f (R_3 hA hR') (AI_n hA) (no_ex hx), r_thr_t, if_true]
      exact Tt_some (Rp_t hR' (by decide))
-- ===== oil
/-- a number between two bounds, or not -/
theorem rng_t {x : Int32} {a b : Nat} (ha : a < 2 ^ 31) (hb : b < 2 ^ 31) (h : ¬ x < nI a ∧ ¬ nI b < x) : ∃ n, a ≤ n ∧ n ≤ b ∧ x = nI n := by
  obtain ⟨h1, h2⟩ := h
  rw [Int32.lt_iff_toInt_lt, zI_ti ha] at h1
  rw [Int32.lt_iff_toInt_lt, zI_ti hb] at h2
  refine ⟨x.toInt.toNat, by omega, by omega, ?_⟩
  rw [← Int32.toInt_inj, zI_ti (by omega)]; omega
theorem ite2_f {α : Type} {p q : Prop} [Decidable p] [Decidable q] {a b : α} (h : ¬ (¬ p ∧ ¬ q)) : (if p then a else if q then a else b) = a := by
  by_cases hp : p
  · rw [if_pos hp]
  · rw [if_neg hp, if_pos (Classical.byContradiction fun hq => h ⟨hp, hq⟩)]
theorem ite2_t {α : Type} {p q : Prop} [Decidable p] [Decidable q] {a b : α} (h : ¬ p ∧ ¬ q) : (if p then a else if q then a else b) = b := by
  rw [if_neg h.1, if_neg h.2]
theorem C_oil {c : Nat} {I : MI} {L : ML} {A : AS} (hA : AI c A) (hC : CI9 I L A) (hR : RI9 I L A) (x y : Int32) : ∃ I' L', SI [IOB, IAE] (f_X11_oil x y I L) (f_X12_oil x y) I' L' ∧ Inv9 (c + 1) I' L' := by
  obtain ⟨h, d, hd, cj⟩ := id hC
  obtain ⟨e, cr, e0, e2, e3⟩ := C_n hA cj
  have hb := HD_b hd
  by_cases hx : ∃ k, k < nw A.1 3 ∧ x = nI k
  · obtain ⟨k, hk, rfl⟩ := hx
    have h12 := AI_n hA
    have hk12 : k < 12 := by omega
    by_cases hy : ¬ y < 1 ∧ ¬ 99 < y
    · obtain ⟨m, hm1, hm2, rfl⟩ := rng_t (a := 1) (b := 99) (by decide) (by decide) hy
      obtain ⟨n0, n1, n2, n3, n4, n5, n6, n7, n8, n9⟩ := (cr.2.2.1.2 k hk12).1 hk
      have wo := (hA.1.2.2.1.2 k hk).2.2.2.2.2.1
      have wo1 : A.1 (85 + 10 * k + 5) = nI (nw A.1 (85 + 10 * k + 5)) := wo.1
      have wo2 := wo.2
      have e18 : I h 18 = A.1 13 := cr.2.2.2.1.2.2.2.2.2.2.2
      have hok : okA A.1 (2, k, A.1 (85 + 10 * k + 5), A.1 13) := Or.inr (Or.inr (Or.inl ⟨rfl, hk, nw A.1 (85 + 10 * k + 5), wo.1, wo.2⟩))
      obtain ⟨J, j1, j2, j3⟩ := ACT_push cj.2.2.2.2.2.2.2.2 hA.2.2.2.2.1 (2, k, A.1 (85 + 10 * k + 5), A.1 13) L
      have j1 : f_X0_remember 2 (nI k) (A.1 (85 + 10 * k + 5)) (A.1 13) I L = some (J, L) := j1
      have crJ : CR h J L A.1 := CR_cg (fun q h1 h2 => j3 _ (by omega)) rfl cr
      have mn : (if A.1 (85 + 10 * k + 5) + nI m < 99 then A.1 (85 + 10 * k + 5) + nI m else 99) = nI (min 99 (nw A.1 (85 + 10 * k + 5) + m)) := by
        rw [wo1, zI_add]
        exact zmin (b := 99) (by omega) (by decide)
      have J6 : J (h + 33 + k) 6 = A.1 (85 + 10 * k + 5) := by rw [j3 _ (by omega)]; exact n6
      refine fin (AI_act (a := (2, k, A.1 (85 + 10 * k + 5), A.1 13)) (x := nI (min 99 (nw A.1 (85 + 10 * k + 5) + m))) hA hok (WF_nz (fd := 5) hk (Or.inl ⟨rfl, _, rfl, by omega⟩) hA.1)) (mkSI (res := .inr (nI (min 99 (nw A.1 (85 + 10 * k + 5) + m)))) hR ?_ ?_)
      · have key : f_X11_oil (nI k) (nI m) I L = some (.inr (nI (min 99 (nw A.1 (85 + 10 * k + 5) + m))), up2 J (h + 33 + k) 6 (nI (min 99 (nw A.1 (85 + 10 * k + 5) + m))), L) := by
          simp only [f_X11_oil, c_needNoise_t hd e e3 h12 hk, Option.bind_some, xc_r]
          rw [ite2_t hy]
          simp only [f_X11_oil_21, c_need_t, Option.bind_some, xc_r, hs_h hd e, ldR_n hk12 (show 12 < 2 ^ 31 by decide), n6, e18, j1, J6, mn, pfe, zu_s, if_true]
        rw [key]
        refine Tt_some (Cp_a ⟨h, d, hd, CJ_act hd cj ?_ ?_ ?_ (fun q _ _ => ?_) rfl (CR_nz (fd := 5) (Or.inl ⟨rfl, rfl⟩) hk _ hA.1 crJ) (ACT_cg (fun q _ _ => zu_n _ _ _ (by omega)) j2)⟩ (fun q hq => ?_))
        · rw [zu_n _ _ _ (by omega)]; exact j3 0 (by omega)
        · rw [zu_n _ _ _ (by omega)]; exact j3 1 (by omega)
        · rw [zu_n _ _ _ (by omega)]; exact j3 2 (by omega)
        · rw [zu_n _ _ _ (by omega)]; exact j3 _ (by omega)
        · show up2 J (h + 33 + k) 6 _ q = I q
          rw [zu_n _ _ _ (by omega)]; exact j3 q (by omega)
      · intro I' L' hR'
        simp only [f_X12_oil, f_X12_oil_34, pf0, Option.bind_some, r_noNoise_t (R_3 hA hR') h12 hk, r_thr_f, bft, if_false, r_in, decide_eq_true hy, if_true]
        refine Tt_bind (Tt_mono (R_actX hR' hA.2.2.2.2.1 (2, k, A.1 (85 + 10 * k + 5), A.1 13) (nI (min 99 (nw A.1 (85 + 10 * k + 5) + m))) rfl rfl) ?_)
        intro s ⟨s1, s2⟩
        have r1 : f_X12_of (nI k) 5 s.1 s.2 = some (A.1 (85 + 10 * k + 5)) := by rw [← s1]; exact r_of (k := 5) hk12 (by decide)
        have r2 : f_X12_sets (nI k) 5 (nI (min 99 (nw A.1 (85 + 10 * k + 5) + m))) s.1 s.2 = some (up2 s.1 150 (85 + 10 * k + 5) (nI (min 99 (nw A.1 (85 + 10 * k + 5) + m))), s.2) := r_st (k := 5) hk12 (by decide)
        have r3 : f_X12_of (nI k) 5 (up2 s.1 150 (85 + 10 * k + 5) (nI (min 99 (nw A.1 (85 + 10 * k + 5) + m)))) s.2 = some (nI (min 99 (nw A.1 (85 + 10 * k + 5) + m))) := by
          have h9 := r_of (I := up2 s.1 150 (85 + 10 * k + 5) (nI (min 99 (nw A.1 (85 + 10 * k + 5) + m)))) (L := s.2) (n := k) (k := 5) hk12 (by decide)
          rw [zu_s, if_pos rfl] at h9; exact h9
        rw [r1, Option.bind_some, mn, r2, Option.bind_some, r3, Option.bind_some]
        exact Tt_some (s2 _ _)
    · refine fin_s hA (mkSI (res := .inl 2) hR ?_ ?_)
      · simp only [f_X11_oil, c_needNoise_t hd e e3 h12 hk, Option.bind_some, xc_r]
        rw [ite2_f hy]
        simp only [f_X11_oil_20, f_X11_oil_21, c_need_f, Option.bind_some, xc_l]
        exact Tt_some (Cp_t hC (wk_2 (by decide)))
      · intro I' L' hR'
        simp only [f_X12_oil, f_X12_oil_34, f_X12_oil_41, pf0, Option.bind_some, r_noNoise_t (R_3 hA hR') h12 hk, r_thr_f, bft, if_false, r_in, decide_eq_false hy, r_thr_t, if_true]
        exact Tt_some (Rp_t hR' (by decide))
  · refine fin_s hA (mkSI (res := .inl 1) hR ?_ ?_)
    · simp only [f_X11_oil, c_needNoise_f hd e e3 (AI_n hA) (no_ex hx), Option.bind_some, xc_l]
      exact Tt_some (Cp_t hC (wk_1 (by decide)))
    · intro I' L' hR'
      simp only [f_X12_oil, f_X12_oil_41, pf0, Option.bind_some, r_noNoise_f (R_3 hA hR') (AI_n hA) (no_ex hx), r_thr_t, if_true]
      exact Tt_some (Rp_t hR' (by decide))
-- ===== carpet
theorem c_isC_t {y : Int32} {I : MI} {L : ML} (hy : ¬ y < 0 ∧ ¬ 20 < y) : f_X11_isCarpet y I L = some true := by
  unfold f_X11_isCarpet f_X11_isCarpet_15; rw [ite2_t hy]
theorem c_isC_f {y : Int32} {I : MI} {L : ML} (hy : ¬ (¬ y < 0 ∧ ¬ 20 < y)) : f_X11_isCarpet y I L = some false := by
  unfold f_X11_isCarpet f_X11_isCarpet_14 f_X11_isCarpet_15; rw [ite2_f hy]
theorem C_carpet {c : Nat} {I : MI} {L : ML} {A : AS} (hA : AI c A) (hC : CI9 I L A) (hR : RI9 I L A) (x y : Int32) : ∃ I' L', SI [IOB, IAE] (f_X11_carpet x y I L) (f_X12_carpet x y) I' L' ∧ Inv9 (c + 1) I' L' := by
  obtain ⟨h, d, hd, cj⟩ := id hC
  obtain ⟨e, cr, e0, e2, e3⟩ := C_n hA cj
  have hb := HD_b hd
  by_cases hx : ∃ k, k < nw A.1 0 ∧ x = nI k
  · obtain ⟨k, hk, rfl⟩ := hx
    have h10 := AI_r hA
    have hk10 : k < 10 := by omega
    by_cases hy : ¬ y < 0 ∧ ¬ 20 < y
    · obtain ⟨m, -, hm2, rfl⟩ := rng_t (a := 0) (b := 20) (by decide) (by decide) hy
      have wo := hA.1.1.2.2.1 k hk10
      have n1 : I (h + 1) k = A.1 (15 + k) := cr.1.2.2.1 k hk10
      have e18 : I h 18 = A.1 13 := cr.2.2.2.1.2.2.2.2.2.2.2
      have hok : okA A.1 (3, k, A.1 (15 + k), A.1 13) := Or.inr (Or.inr (Or.inr ⟨rfl, hk, nw A.1 (15 + k), wo.1, wo.2⟩))
      obtain ⟨J, j1, j2, j3⟩ := ACT_push cj.2.2.2.2.2.2.2.2 hA.2.2.2.2.1 (3, k, A.1 (15 + k), A.1 13) L
      have j1 : f_X0_remember 3 (nI k) (A.1 (15 + k)) (A.1 13) I L = some (J, L) := j1
      have crJ : CR h J L A.1 := CR_cg (fun q h1 h2 => j3 _ (by omega)) rfl cr
      have eJ : J 0 4 = nI h := by rw [j3 0 (by omega)]; exact e
      refine fin (AI_act (a := (3, k, A.1 (15 + k), A.1 13)) (x := nI m) hA hok (WF_lay hk10 hm2 hA.1)) (mkSI (res := .inr (A.1 (15 + k))) hR ?_ ?_)
      · simp only [f_X11_carpet, c_needRoom_t hd e e0 h10 hk, c_isC_t hy, c_need_t, Option.bind_some, xc_r, hs_h hd e, ldI_n hk10 (show 10 < 2 ^ 31 by decide), n1, e18, j1, hs_h hd eJ]
        refine Tt_bind (Tt_mono (c_lay hk10 hm2 hA.1 crJ) ?_)
        intro t ⟨t1, t2, t3⟩
        refine Tt_some (Cp_a ⟨h, d, hd, CJ_act hd cj ?_ ?_ ?_ (fun q _ _ => ?_) (by rw [t1]) (by rw [t1]; exact t3) (ACT_cg (fun q _ _ => t2 q (by omega) (by omega)) j2)⟩ (fun q hq => ?_))
        · rw [t2 _ (by omega) (by omega)]; exact j3 0 (by omega)
        · rw [t2 _ (by omega) (by omega)]; exact j3 1 (by omega)
        · rw [t2 _ (by omega) (by omega)]; exact j3 2 (by omega)
        · rw [t2 _ (by omega) (by omega)]; exact j3 _ (by omega)
        · show t.1 q = I q
          rw [t2 _ (by omega) (by omega)]; exact j3 q (by omega)
      · intro I' L' hR'
        simp only [f_X12_carpet, f_X12_carpet_34, pf0, Option.bind_some, r_noRoom_t (R_0 hA hR') h10 hk, r_thr_f, bft, if_false, r_in, decide_eq_true hy, if_true]
        refine Tt_bind (Tt_mono (R_actX hR' hA.2.2.2.2.1 (3, k, A.1 (15 + k), A.1 13) (nI m) rfl rfl) ?_)
        intro s ⟨s1, s2⟩
        rw [show (15 : Int32) = nI 15 from rfl, zI_add, r_w (by omega), Option.bind_some, stI_n (by omega) (by decide), Option.bind_some, s1]
        exact Tt_some (s2 _ _)
    · refine fin_s hA (mkSI (res := .inl 2) hR ?_ ?_)
      · simp only [f_X11_carpet, c_needRoom_t hd e e0 h10 hk, c_isC_f hy, c_need_f, Option.bind_some, xc_r, xc_l]
        exact Tt_some (Cp_t hC (wk_2 (by decide)))
      · intro I' L' hR'
        simp only [f_X12_carpet, f_X12_carpet_34, f_X12_carpet_41, pf0, Option.bind_some, r_noRoom_t (R_0 hA hR') h10 hk, r_thr_f, bft, if_false, r_in, decide_eq_false hy, r_thr_t, if_true]
        exact Tt_some (Rp_t hR' (by decide))
  · refine fin_s hA (mkSI (res := .inl 1) hR ?_ ?_)
    · simp only [f_X11_carpet, c_needRoom_f hd e e0 (AI_r hA) (no_ex hx), Option.bind_some, xc_l]
      exact Tt_some (Cp_t hC (wk_1 (by decide)))
    · intro I' L' hR'
      simp only [f_X12_carpet, f_X12_carpet_41, pf0, Option.bind_some, r_noRoom_f (R_0 hA hR') (AI_r hA) (no_ex hx), r_thr_t, if_true]
      exact Tt_some (Rp_t hR' (by decide))
-- ===== seed
theorem C_seed {c : Nat} {I : MI} {L : ML} {A : AS} (hA : AI c A) (hC : CI9 I L A) (hR : RI9 I L A) (x : Int32) : ∃ I' L', SD (f_X11_seed x I L) (f_X12_seed x) I' L' ∧ Inv9 (c + 1) I' L' := by
  obtain ⟨h, d, hd, cj⟩ := id hC
  obtain ⟨e, cr, e0, e2, e3⟩ := C_n hA cj
  have hb := HD_b hd
  have s : ∀ j, j ≠ 13 → setw A.1 13 x j = A.1 j := fun j hj => sw_n A.1 _ hj
  have hAI : AI (c + 1) (nwA A (setw A.1 13 x) A.2.2.2.2.2) := by
    obtain ⟨h1, h2, h3, h4, h5, h6⟩ := hA
    exact ⟨WF_up (WF_seed x h1), fun v hv => WF_up (h2 v hv), h3, h4, h5, fun a ha => okA_cg (nwe (s 0 (by decide))) (nwe (s 2 (by decide))) (nwe (s 3 (by decide))) (fun q _ => nwe (s _ (by omega))) (h6 a ha)⟩
  refine fin hAI (mkSD (v := A.1 13) hR ?_ ?_)
  · have e18 : I h 18 = A.1 13 := cr.2.2.2.1.2.2.2.2.2.2.2
    simp only [f_X11_seed, hs_h hd e, Option.bind_some, pfe, e18]
    refine Tt_some (Cp_e ⟨h, d, hd, CJ_act hd cj ?_ ?_ ?_ (fun q _ _ => ?_) rfl (CR_seed x hA.1 cr) (ACT_cg (fun q _ _ => zu_n _ _ _ (by omega)) cj.2.2.2.2.2.2.2.2)⟩ (fun q hq => ?_))
    · exact zu_n _ _ _ (by omega)
    · exact zu_n _ _ _ (by omega)
    · exact zu_n _ _ _ (by omega)
    · exact zu_n _ _ _ (by omega)
    · exact zu_n _ _ _ (by omega)
  · intro I' L' hR'
    have e13 : (13 : Int32) = nI 13 := rfl
    simp only [f_X12_seed, pf0, Option.bind_some]
    rw [e13, r_w (by decide), Option.bind_some, stI_n (by decide) (by decide), Option.bind_some, R_w hR']
    obtain ⟨q1, q2, q3, q4, q5, q6, q7, q8⟩ := RI_th hR'
    refine Tt_some (Rp_e ⟨up_150 q1, ?_, ?_, ?_, ?_, ?_, ?_, ?_⟩ (fun q hq => ?_) (fun _ _ => rfl))
    · rw [zu_n _ _ _ (by decide)]; exact q2
    · rw [zu_n _ _ _ (by decide)]; exact q3
    · rw [zu_n _ _ _ (by decide)]; exact q4
    · rw [zu_n _ _ _ (by decide)]; exact q5
    · rw [zu_n _ _ _ (by decide)]; exact q6
    · rw [zu_n _ _ _ (by decide)]; exact q7
    · intro j hj k hk
      have hj : j < A.2.2.2.2.2.length := hj
      rw [zu_n _ _ _ (by decide), q8 j hj k hk]
      show undoL (A.2.2.2.2.2.take (A.2.2.2.2.2.length - j)) A.1 k = undoL (A.2.2.2.2.2.take (A.2.2.2.2.2.length - j)) (setw A.1 13 x) k
      generalize hT : A.2.2.2.2.2.take (A.2.2.2.2.2.length - j) = T
      cases T with
      | nil =>
        have h9 := congrArg List.length hT
        rw [List.length_take, List.length_nil] at h9
        omega
      | cons a T =>
        show undoL T (undo1 a A.1) k = undoL T (undo1 a (setw A.1 13 x)) k
        rw [undo1_seed]
    · show up2 (th0 I') 150 13 x q = I' q
      rw [zu_n _ _ _ (by omega), th0_n (by omega)]
-- ===== undo
theorem nI_ne {n : Nat} (hn : n < 2 ^ 31) : nI n ≠ -1 := by
  intro h9
  have := congrArg Int32.toInt h9
  rw [zI_ti hn, show (-1 : Int32).toInt = -1 by decide] at this
  omega
theorem r_26 {I : MI} {L : ML} {m : Nat} (hm : m < 12) (e6 : I 149 6 = nI m) : Tt (f_X12_undo_26 FU 0 I L) (fun r => r.1 = true ∧ r.2.2 = L ∧ (∀ j, j ≠ 150 → r.2.1 j = I j) ∧ ∀ i, r.2.1 150 i = if i < 445 then I 153 (445 * m + i) else I 150 i) := by
  refine lp0 (fun fuel k (J : MI) => f_X12_undo_26 fuel (nI k) J L) 445 (fun k J => (∀ j, j ≠ 150 → J j = I j) ∧ ∀ i, J 150 i = if i < k then I 153 (445 * m + i) else I 150 i) (by decide) ?_ ?_ ⟨fun _ _ => rfl, fun i => by rw [if_neg (by omega)]⟩
  · intro fuel k J hk ⟨i0, i1⟩ hn
    show Tt (f_X12_undo_26 (fuel + 1) (nI k) J L) _
    unfold f_X12_undo_26
    rw [if_neg (by rw [show (445 : Int32) = nI 445 from rfl, zI_le (by decide) (by omega)]; omega), i0 149 (by decide), e6, show (445 : Int32) = nI 445 from rfl, zI_mul, zI_add, ldI_n (by omega) (by decide), Option.bind_some, stI_n (by omega) (by decide), Option.bind_some, zI_1, i0 153 (by decide)]
    refine hn _ ⟨fun j hj => by rw [zu_n _ _ _ hj]; exact i0 j hj, fun i => ?_⟩
    rw [zu_s, i1]
    by_cases h9 : i = k
    · rw [if_pos h9, if_pos (by omega), h9]
    · rw [if_neg h9]
      by_cases h8 : i < k
      · rw [if_pos h8, if_pos (by omega)]
      · rw [if_neg h8, if_neg (by omega)]
  · intro fuel J ⟨i0, i1⟩
    show Tt (f_X12_undo_26 (fuel + 1) (nI 445) J L) _
    unfold f_X12_undo_26
    rw [if_pos (by decide)]
    exact Tt_some ⟨rfl, rfl, i0, i1⟩
theorem undo1_far {w : Nat → Int32} {a : Act} (h : actAt a.1 a.2.1 < 445) {k : Nat} (hk : 445 ≤ k) : undo1 a w k = w k := by
  unfold undo1 setw
  rw [if_neg (by omega), if_neg (by omega)]
theorem C_undo {c : Nat} {I : MI} {L : ML} {A : AS} (hA : AI c A) (hC : CI9 I L A) (hR : RI9 I L A) : ∃ I' L', SD (f_X11_undo I L) f_X12_undo I' L' ∧ Inv9 (c + 1) I' L' := by
  obtain ⟨h, d, hd, cj⟩ := id hC
  obtain ⟨e, cr, e0, e2, e3⟩ := C_n hA cj
  have hb := HD_b hd
  have hact : ACT I A.2.2.2.2.2 := cj.2.2.2.2.2.2.2.2
  have h2 := AI_h hA
  have h3 := AI_n hA
  have h1 := AI_r hA
  obtain ⟨w, img, tp, tl, fl, acts⟩ := A
  cases acts with
  | nil =>
    refine fin_s hA (mkSD (v := false) hR ?_ ?_)
    · unfold f_X11_undo f_X0_takeLatest
      rw [show I 3 4 = 0 from hact.1, if_pos rfl, Option.bind_some, if_pos rfl]
      exact Tt_some ⟨rfl, hC, fun _ _ => rfl⟩
    · intro I' L' hR'
      have e6 : th0 I' 149 6 = 0 := by unfold th0; rw [zu_s]; exact hR'.2.2.2.2.2.2.1
      simp only [f_X12_undo, pf0, Option.bind_some, e6, if_true]
      exact Tt_some (Rp_d hR' (scR_rf _ _))
  | cons a acts =>
    have h1 : nw w 0 ≤ 10 := h1
    have h2 : nw w 2 ≤ 6 := h2
    have h3 : nw w 3 ≤ 12 := h3
    have hl : acts.length < 12 := by have := hA.2.2.2.2.1; exact this
    have hok : okA w a := hA.2.2.2.2.2 a List.mem_cons_self
    obtain ⟨k0, k2, k3, kq, k13, kp, kp13⟩ := act_nw (x := a.2.2.1) hok h1 h2 h3
    obtain ⟨J, x, hx, j1, j2, j3, x4, x5, x6, x7⟩ := ACT_pop hact hl L
    have crJ : CR h J L w := CR_cg (fun q h1 h2 => j3 _ (by omega)) rfl cr
    have eJ : J 0 4 = nI h := by rw [j3 0 (by omega)]; exact e
    have J4 : J 4 x = nI a.1 := by rw [j3 4 (by decide)]; exact x4
    have J5 : J 5 x = nI a.2.1 := by rw [j3 5 (by decide)]; exact x5
    have J6 : J 6 x = a.2.2.1 := by rw [j3 6 (by decide)]; exact x6
    have J7 : J 7 x = a.2.2.2 := by rw [j3 7 (by decide)]; exact x7
    have t12 : (12 : Nat) < 2 ^ 31 := by decide
    -- the class, and the new world
    have main : ∃ K, f_X11_undo I L = some (true, K, L) ∧ (∀ q, (q < 8 ∨ 104 ≤ q) → K q = J q) ∧ CR h K L (undo1 a w) ∧ WF c (undo1 a w) := by
      have fin137 : ∀ K, (∀ q, (q < 8 ∨ 104 ≤ q) → K q = J q) → f_X11_undo_137 (nI x) K L = some (true, up2 K h 18 a.2.2.2, L) := by
        intro K hK
        have eK : K 0 4 = nI h := by rw [hK 0 (by omega)]; exact eJ
        have K7 : K 7 x = a.2.2.2 := by rw [hK 7 (by omega)]; exact J7
        simp only [f_X11_undo_137, hs_h hd eK, ldI_n hx t12, Option.bind_some, pfe, K7]
      have tail : ∀ K, (∀ q, (q < 8 ∨ 104 ≤ q) → K q = J q) → ∀ q, (q < 8 ∨ 104 ≤ q) → up2 K h 18 a.2.2.2 q = J q := fun K hK q hq => by rw [zu_n _ _ _ (by omega)]; exact hK q hq
      obtain ⟨s, q, b, sd⟩ := a
      have J4 : J 4 x = nI s := J4
      have J5 : J 5 x = nI q := J5
      have J6 : J 6 x = b := J6
      have hok' : (s = 0 ∧ q < nw w 2 ∧ ∃ x, b = nI x ∧ x < nw w 0) ∨ (s = 1 ∧ q < nw w 3 ∧ nw w (85 + 10 * q + 0) = 3 ∧ (b = 0 ∨ b = 1)) ∨ (s = 2 ∧ q < nw w 3 ∧ ∃ x, b = nI x ∧ x ≤ 99) ∨ (s = 3 ∧ q < nw w 0 ∧ ∃ x, b = nI x ∧ x ≤ 20) := hok
      have st : f_X11_undo I L = (if nI s = 0 then (Option.bind (ldR (h + 27) 6 (nI q)) fun v8 => Option.bind (pfI J v8 0 b) fun I9 => f_X11_undo_137 (nI x) I9 L) else if nI s = 1 then (Option.bind (ldR (h + 33) 12 (nI q)) fun v12 => if b = 0 then (f_X11_undo_106 (nI x) v12 false J L) else (f_X11_undo_106 (nI x) v12 true J L)) else if nI s = 2 then (Option.bind (ldR (h + 33) 12 (nI q)) fun v16 => Option.bind (pfI J v16 6 b) fun I17 => f_X11_undo_137 (nI x) I17 L) else (Option.bind (f_X3_lay h (nI q) b J L) fun w19 => f_X11_undo_137 (nI x) w19.1 w19.2)) := by
        simp only [f_X11_undo, j1, Option.bind_some, if_neg (nI_ne (show x < 2 ^ 31 by omega)), ldI_n hx t12, J4, J5, J6, hs_h hd eJ]
      rcases hok' with ⟨rfl, hq, y, rfl, hy⟩ | ⟨rfl, hq, hk3, hy⟩ | ⟨rfl, hq, y, rfl, hy⟩ | ⟨rfl, hq, y, rfl, hy⟩
      · have hK : ∀ j, (j < 8 ∨ 104 ≤ j) → up2 J (h + 27 + q) 0 (nI y) j = J j := fun j hj => zu_n _ _ _ (by omega)
        have wf := WF_go hq hy hA.1
        refine ⟨_, ?_, tail _ hK, CR_seed sd wf (CR_go (by omega) _ hA.1 crJ), WF_seed sd wf⟩
        rw [st, if_pos (by decide), ldR_n (show q < 6 by omega) (by decide), Option.bind_some, pfe, Option.bind_some, fin137 _ hK]
      · have hK : ∀ j, (j < 8 ∨ 104 ≤ j) → up2 J (h + 33 + q) 9 b j = J j := fun j hj => zu_n _ _ _ (by omega)
        have wf := WF_nz (fd := 9) hq (Or.inr ⟨rfl, hk3, hy⟩) hA.1
        refine ⟨_, ?_, tail _ hK, CR_seed sd wf (CR_nz (fd := 9) (Or.inr ⟨rfl, rfl⟩) hq _ hA.1 crJ), WF_seed sd wf⟩
        rw [st, if_neg (by decide), if_pos (by decide), ldR_n (show q < 12 by omega) (by decide), Option.bind_some]
        unfold f_X11_undo_106
        rcases hy with rfl | rfl
        · rw [if_pos rfl, pfe, Option.bind_some]; exact fin137 _ hK
        · rw [if_neg (by decide), pfe, Option.bind_some]; exact fin137 _ hK
      · have hK : ∀ j, (j < 8 ∨ 104 ≤ j) → up2 J (h + 33 + q) 6 (nI y) j = J j := fun j hj => zu_n _ _ _ (by omega)
        have wf := WF_nz (fd := 5) hq (Or.inl ⟨rfl, y, rfl, hy⟩) hA.1
        refine ⟨_, ?_, tail _ hK, CR_seed sd wf (CR_nz (fd := 5) (Or.inl ⟨rfl, rfl⟩) hq _ hA.1 crJ), WF_seed sd wf⟩
        rw [st, if_neg (by decide), if_neg (by decide), if_pos (by decide), ldR_n (show q < 12 by omega) (by decide), Option.bind_some, pfe, Option.bind_some, fin137 _ hK]
      · have wf := WF_lay (show q < 10 by omega) hy hA.1
        obtain ⟨t, t0, t1, t2, t3⟩ := c_lay (show q < 10 by omega) hy hA.1 crJ
        have hK : ∀ j, (j < 8 ∨ 104 ≤ j) → t.1 j = J j := fun j hj => t2 j (by omega) (by omega)
        refine ⟨_, ?_, tail _ hK, CR_seed sd wf t3, WF_seed sd wf⟩
        rw [st, if_neg (by decide), if_neg (by decide), if_neg (by decide), t0, Option.bind_some, t1, fin137 _ hK]
    obtain ⟨K, m1, m2, m3, m4⟩ := main
    have hAI : AI (c + 1) (nwA (w, img, tp, tl, fl, a :: acts) (undo1 a w) acts) := by
      obtain ⟨g1, g2, g3, g4, g5, g6⟩ := hA
      have z : ∀ j, j ≠ 13 → undo1 a w j = setw w (actAt a.1 a.2.1) a.2.2.1 j := fun j hj => sw_n _ _ hj
      refine ⟨WF_up m4, fun v hv => WF_up (g2 v hv), g3, g4, ?_, fun a9 ha => okA_cg ?_ ?_ ?_ (fun q _ => ?_) (g6 a9 (List.mem_cons_of_mem a ha))⟩
      · show acts.length ≤ 12
        omega
      · exact (nwe (z 0 (by decide))).trans k0
      · exact (nwe (z 2 (by decide))).trans k2
      · exact (nwe (z 3 (by decide))).trans k3
      · exact (nwe (z _ (by omega))).trans (kq q)
    refine fin hAI (mkSD (v := true) hR ?_ ?_)
    · rw [m1]
      refine Tt_some (Cp_e ⟨h, d, hd, CJ_act hd cj ?_ ?_ ?_ (fun q _ _ => ?_) rfl m3 (ACT_cg (fun q _ _ => m2 q (by omega)) j2)⟩ (fun q hq => ?_))
      · rw [m2 0 (by omega)]; exact j3 0 (by decide)
      · rw [m2 1 (by omega)]; exact j3 1 (by decide)
      · rw [m2 2 (by omega)]; exact j3 2 (by decide)
      · rw [m2 _ (by omega)]; exact j3 _ (by omega)
      · show K q = I q
        rw [m2 q (by omega)]; exact j3 q (by omega)
    · intro I' L' hR'
      obtain ⟨q1, q2, q3, q4, q5, q6, q7, q8⟩ := RI_th hR'
      have q7 : th0 I' 149 6 = nI (acts.length + 1) := q7
      simp only [f_X12_undo, pf0, Option.bind_some, q7]
      rw [if_neg (by rw [show (0 : Int32) = nI 0 from rfl, zI_eq (by omega) (by decide)]; omega), show (1 : Int32) = nI 1 from rfl, zI_sub (by omega), show acts.length + 1 - 1 = acts.length by omega, pfe, Option.bind_some]
      refine Tt_mono (r_26 hl (by rw [zu_s, if_pos rfl])) ?_
      rintro ⟨rv, rI, rL⟩ ⟨r1, r2, r3, r4⟩
      have r1 : rv = true := r1
      have r2 : rL = L' := r2
      have r3 : ∀ j, j ≠ 150 → rI j = up2 (th0 I') 149 6 (nI acts.length) j := r3
      have r4 : ∀ i, rI 150 i = if i < 445 then up2 (th0 I') 149 6 (nI acts.length) 153 (445 * acts.length + i) else up2 (th0 I') 149 6 (nI acts.length) 150 i := r4
      rw [r1, r2]
      have e150 : rI 150 = undo1 a w := by
        funext k
        rw [r4, zu_n _ _ _ (by decide), zu_n _ _ _ (by decide), q1]
        by_cases hk : k < 445
        · rw [if_pos hk]
          have h9 := q8 acts.length (Nat.lt_succ_self _) k hk
          rw [h9]
          show undoL ((a :: acts).take (acts.length + 1 - acts.length)) w k = _
          rw [show acts.length + 1 - acts.length = 1 by omega]; rfl
        · rw [if_neg hk]; exact (undo1_far kp (by omega)).symm
      have e149 : ∀ k, k ≠ 6 → rI 149 k = th0 I' 149 k := fun k hk => by rw [r3 149 (by decide), zu_s, if_neg hk]
      refine Rp_e ⟨e150, ?_, ?_, ?_, ?_, ?_, ?_, ?_⟩ (fun q hq => ?_) (fun _ _ => rfl)
      · rw [e149 5 (by decide)]; exact q2
      · intro v hv k hk
        show rI 151 k = v k
        rw [r3 151 (by decide), zu_n _ _ _ (by decide)]; exact q3 v hv k hk
      · rw [e149 8 (by decide)]; exact q4
      · intro k hk
        show rI 154 k = _
        rw [r3 154 (by decide), zu_n _ _ _ (by decide)]; exact q5 k hk
      · rw [e149 13 (by decide)]; exact q6
      · show rI 149 6 = _
        rw [r3 149 (by decide), zu_s, if_pos rfl]; rfl
      · intro j hj k hk
        have hj : j < acts.length := hj
        show rI 153 (445 * j + k) = undoL (acts.take (acts.length - j)) (undo1 a w) k
        rw [r3 153 (by decide), zu_n _ _ _ (by decide), q8 j (by exact Nat.lt_succ_of_lt hj) k hk]
        show undoL ((a :: acts).take (acts.length + 1 - j)) w k = _
        rw [show acts.length + 1 - j = (acts.length - j) + 1 by omega]; rfl
      · show rI q = I' q
        rw [r3 q (by omega), zu_n _ _ _ (by omega), th0_n (by omega)]
