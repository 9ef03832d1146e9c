/-! the pure part: what the read-off functions answer. Tt: a run comes to an end, and what it answers has Q -/
def Tt {α : Type} (o : Option α) (Q : α → Prop) : Prop := ∃ r, o = some r ∧ Q r
theorem Tt_bind {α β : Type} {o : Option α} {f : α → Option β} {Q : β → Prop} (h : Tt o (fun x => Tt (f x) Q)) : Tt (Option.bind o f) Q := by
  obtain ⟨x, rfl, r, h2, h3⟩ := h
  exact ⟨r, h2, h3⟩
theorem Tt_some {α : Type} {x : α} {Q : α → Prop} (h : Q x) : Tt (some x) Q := ⟨x, rfl, h⟩
theorem Tt_ite {α : Type} {c : Prop} [Decidable c] {a b : Option α} {Q : α → Prop} (h1 : c → Tt a Q) (h2 : ¬ c → Tt b Q) : Tt (if c then a else b) Q := by
  split
  · rename_i h; exact h1 h
  · rename_i h; exact h2 h
theorem Tt_mono {α : Type} {o : Option α} {P Q : α → Prop} (h : Tt o P) (hq : ∀ x, P x → Q x) : Tt o Q := by
  obtain ⟨r, h1, h2⟩ := h
  exact ⟨r, h1, hq r h2⟩
theorem Tt_eq {α : Type} {o : Option α} {x : α} {Q : α → Prop} (e : o = some x) (h : Q x) : Tt o Q := ⟨x, e, h⟩
/-- a loop that counts up to N -/
theorem lp {σ R : Type} {Q : R → Prop} (loop : Nat → Nat → σ → Option R) (N : Nat) (Inv : Nat → σ → Prop)
    (hstep : ∀ (fuel k : Nat) (s : σ), k < N → Inv k s → (∀ s', Inv (k + 1) s' → Tt (loop fuel (k + 1) s') Q) → Tt (loop (fuel + 1) k s) Q)
    (hexit : ∀ (fuel : Nat) (s : σ), Inv N s → Tt (loop (fuel + 1) N s) Q) :
    ∀ (m k fuel : Nat) (s : σ), k + m = N → m < fuel → Inv k s → Tt (loop fuel k s) Q := by
  intro m
  induction m with
  | zero =>
    intro k fuel s hk hf h
    obtain ⟨f, rfl⟩ : ∃ f, fuel = f + 1 := ⟨fuel - 1, by omega⟩
    have e : k = N := by omega
    subst e
    exact hexit f s h
  | succ m ih =>
    intro k fuel s hk hf h
    obtain ⟨f, rfl⟩ : ∃ f, fuel = f + 1 := ⟨fuel - 1, by omega⟩
    exact hstep f k s (by omega) h (fun s' h' => ih (k + 1) f s' (by omega) (by omega) h')
theorem lp0 {σ R : Type} {Q : R → Prop} (loop : Nat → Nat → σ → Option R) (N : Nat) (Inv : Nat → σ → Prop) (hN : N < 999999)
    (hstep : ∀ (fuel k : Nat) (s : σ), k < N → Inv k s → (∀ s', Inv (k + 1) s' → Tt (loop fuel (k + 1) s') Q) → Tt (loop (fuel + 1) k s) Q)
    (hexit : ∀ (fuel : Nat) (s : σ), Inv N s → Tt (loop (fuel + 1) N s) Q) {s : σ} (h : Inv 0 s) : Tt (loop FU 0 s) Q :=
  lp loop N Inv hstep hexit N 0 FU s (by omega) (by unfold FU; omega) h
-- ===== small numbers as Int32
theorem zI_cl {n : Nat} (h : n < 2 ^ 31) : (nI n).toNatClampNeg = n := Int32.toNatClampNeg_ofNat_of_lt h
theorem zI_ti {n : Nat} (h : n < 2 ^ 31) : (nI n).toInt = (n : Int) := Int32.toInt_ofNat_of_lt h
theorem zI_lt {a b : Nat} (ha : a < 2 ^ 31) (hb : b < 2 ^ 31) : nI a < nI b ↔ a < b := by
  rw [Int32.lt_iff_toInt_lt, zI_ti ha, zI_ti hb]; omega
theorem zI_le {a b : Nat} (ha : a < 2 ^ 31) (hb : b < 2 ^ 31) : nI a ≤ nI b ↔ a ≤ b := by
  rw [Int32.le_iff_toInt_le, zI_ti ha, zI_ti hb]; omega
theorem zI_eq {a b : Nat} (ha : a < 2 ^ 31) (hb : b < 2 ^ 31) : nI a = nI b ↔ a = b := by
  rw [← Int32.toInt_inj, zI_ti ha, zI_ti hb]; omega
theorem zI_add (a b : Nat) : nI a + nI b = nI (a + b) := (Int32.ofNat_add a b).symm
theorem zI_mul (a b : Nat) : nI a * nI b = nI (a * b) := (Int32.ofNat_mul a b).symm
theorem zI_1 (a : Nat) : nI a + 1 = nI (a + 1) := zI_add a 1
theorem zI_sub {a b : Nat} (h : b ≤ a) : nI a - nI b = nI (a - b) := by
  have h1 := zI_add (a - b) b
  rw [show a - b + b = a by omega] at h1
  rw [← h1, Int32.add_sub_cancel]
theorem zI_nn {n : Nat} (h : n < 2 ^ 31) : ¬ nI n < 0 := by
  rw [show (0 : Int32) = nI 0 from rfl, zI_lt h (by decide)]; omega
theorem zI_in {k n : Nat} (h : k < n) (hn : n < 2 ^ 31) : ¬ (nI k < 0 ∨ n ≤ (nI k).toNatClampNeg) := by
  rw [zI_cl (by omega)]
  intro h1
  rcases h1 with h1 | h1
  · exact zI_nn (by omega) h1
  · omega
theorem ldI_n {I : MI} {q n k : Nat} (h : k < n) (hn : n < 2 ^ 31) : ldI I q n (nI k) = some (I q k) := by
  unfold ldI; rw [if_neg (zI_in h hn), zI_cl (by omega)]
theorem ldL_n {I : ML} {q n k : Nat} (h : k < n) (hn : n < 2 ^ 31) : ldL I q n (nI k) = some (I q k) := by
  unfold ldL; rw [if_neg (zI_in h hn), zI_cl (by omega)]
theorem ldR_n {q n k : Nat} (h : k < n) (hn : n < 2 ^ 31) : ldR q n (nI k) = some (q + k) := by
  unfold ldR; rw [if_neg (zI_in h hn), zI_cl (by omega)]
theorem stI_n {I : MI} {q n k : Nat} {x : Int32} (h : k < n) (hn : n < 2 ^ 31) : stI I q n (nI k) x = some (up2 I q k x) := by
  unfold stI; rw [if_neg (zI_in h hn), zI_cl (by omega)]
theorem stB_n {I : MI} {q n k : Nat} {x : Int32} (h : k < n) (hn : n < 2 ^ 31) : stB I q n (nI k) x = some (up2 I q k x.toInt8.toInt32) := by
  unfold stB; rw [if_neg (zI_in h hn), zI_cl (by omega)]
theorem stL_n {I : ML} {q n k : Nat} {x : Int64} (h : k < n) (hn : n < 2 ^ 31) : stL I q n (nI k) x = some (upl I q k x) := by
  unfold stL; rw [if_neg (zI_in h hn), zI_cl (by omega)]
-- ===== cells
theorem zu_s (I : MI) (q k : Nat) (x : Int32) (j : Nat) : up2 I q k x q j = if j = k then x else I q j := by
  unfold up2; rw [if_pos rfl]; rfl
theorem zu_n (I : MI) {q j : Nat} (k : Nat) (x : Int32) (h : j ≠ q) : up2 I q k x j = I j := if_neg h
theorem zl_s (I : ML) (q k : Nat) (x : Int64) (j : Nat) : upl I q k x q j = if j = k then x else I q j := by
  unfold upl; rw [if_pos rfl]; rfl
theorem zl_n (I : ML) {q j : Nat} (k : Nat) (x : Int64) (h : j ≠ q) : upl I q k x j = I j := if_neg h
/-- a cell that is given anew -/
def sc (I : MI) (q : Nat) (f : Nat → Int32) : MI := fun j => if j = q then f else I j
theorem sc_s (I : MI) (q : Nat) (f : Nat → Int32) : sc I q f q = f := if_pos rfl
theorem sc_n (I : MI) {q j : Nat} (f : Nat → Int32) (h : j ≠ q) : sc I q f j = I j := if_neg h
theorem sc_up (I : MI) (q : Nat) (f : Nat → Int32) (k : Nat) (x : Int32) : up2 (sc I q f) q k x = sc I q (fun j => if j = k then x else f j) := by
  funext j
  by_cases h : j = q
  · subst h; funext i; rw [zu_s, sc_s, sc_s]
  · rw [zu_n _ _ _ h, sc_n _ _ h, sc_n _ _ h]
theorem sc_id (I : MI) (q : Nat) : sc I q (I q) = I := by
  funext j
  by_cases h : j = q
  · subst h; exact sc_s _ _ _
  · exact sc_n _ _ h
theorem sc_sc (I : MI) (q : Nat) (f f' : Nat → Int32) : sc (sc I q f) q f' = sc I q f' := by
  funext j
  by_cases h : j = q
  · subst h; rw [sc_s, sc_s]
  · rw [sc_n _ _ h, sc_n _ _ h, sc_n _ _ h]
theorem up_sc (I : MI) (q k : Nat) (x : Int32) : up2 I q k x = sc I q (fun j => if j = k then x else I q j) := by
  have h := sc_up I q (I q) k x
  rw [sc_id] at h
  exact h
