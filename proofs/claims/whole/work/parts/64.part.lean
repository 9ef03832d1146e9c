-- ===== one bit of an int
theorem b_1 : ∀ i, i < 32 → bt 1 i = decide (i = 0) := by decide +kernel
theorem and_1 (y : Int32) : y &&& 1 = bI (bt y 0) := by
  apply b_ext
  intro i hi
  rw [b_and, b_1 i hi]
  by_cases h : i = 0
  · subst h
    cases hb : bt y 0
    · rfl
    · rfl
  · rw [decide_eq_false h, Bool.and_false]
    cases bt y 0
    · exact (b_0 i).symm
    · show _ = bt 1 i
      rw [b_1 i hi, decide_eq_false h]
theorem b_at {x : Int32} {e : Nat} (he : e < 32) : (x >>> (nI e &&& 31)) &&& 1 = bI (bt x e) := by
  rw [and_1, b_sshr e he x (by decide), if_pos (by omega), Nat.add_zero]
theorem r_has {x : Int32} {e : Nat} {I : MI} {L : ML} (he : e < 32) : f_X12_has x (nI e) I L = some (bt x e) := by
  unfold f_X12_has f_X12_has_14
  rw [b_at he]
  cases bt x e <;> rfl
theorem b_set {x : Int32} {b e : Nat} (hb : b < 32) (he : e < 32) : bt (x ||| (1 <<< (nI b &&& 31))) e = (bt x e || decide (e = b)) := by
  rw [b_or, b_shl b hb 1 he]
  congr 1
  by_cases h : b ≤ e
  · rw [decide_eq_true h, Bool.true_and, b_1 (e - b) (by omega)]
    by_cases h9 : e = b
    · rw [decide_eq_true h9, decide_eq_true (by omega)]
    · rw [decide_eq_false h9, decide_eq_false (by omega)]
  · rw [decide_eq_false h, Bool.false_and, decide_eq_false (by omega)]
-- ===== sums and counts
def sm (t : Nat → Nat) : Nat → Nat
  | 0 => 0
  | k + 1 => sm t k + t k
def cnt (p : Nat → Bool) : Nat → Nat
  | 0 => 0
  | k + 1 => cnt p k + (if p k = true then 1 else 0)
theorem cnt_le {p q : Nat → Bool} : ∀ m, (∀ o, o < m → p o = true → q o = true) → cnt p m ≤ cnt q m := by
  intro m
  induction m with
  | zero => intro _; exact Nat.le_refl _
  | succ m ih =>
    intro h
    have h1 := ih (fun o ho => h o (by omega))
    show cnt p m + (if p m = true then 1 else 0) ≤ cnt q m + (if q m = true then 1 else 0)
    by_cases h2 : p m = true
    · rw [if_pos h2, if_pos (h m (by omega) h2)]; omega
    · rw [if_neg h2]; omega
theorem cnt_lt {p q : Nat → Bool} {b : Nat} : ∀ m, (∀ o, o < m → p o = true → q o = true) → b < m → q b = true → p b = false → cnt p m < cnt q m := by
  intro m
  induction m with
  | zero => intro _ h; omega
  | succ m ih =>
    intro h hb hq hp
    show cnt p m + (if p m = true then 1 else 0) < cnt q m + (if q m = true then 1 else 0)
    by_cases h9 : b = m
    · subst h9
      have h1 := cnt_le b (fun o ho => h o (by omega))
      rw [hq, hp, if_neg (by decide), if_pos rfl]; omega
    · have h1 := ih (fun o ho => h o (by omega)) (by omega) hq hp
      by_cases h2 : p m = true
      · rw [if_pos h2, if_pos (h m (by omega) h2)]; omega
      · rw [if_neg h2]; omega
theorem cnt_ins {p : Nat → Bool} {b : Nat} : ∀ m, b < m → p b = false → cnt (fun o => p o || decide (o = b)) m = cnt p m + 1 := by
  intro m
  induction m with
  | zero => intro h; omega
  | succ m ih =>
    intro hb hp
    show cnt (fun o => p o || decide (o = b)) m + (if (p m || decide (m = b)) = true then 1 else 0) = cnt p m + (if p m = true then 1 else 0) + 1
    by_cases h9 : m = b
    · subst h9
      have h1 : ∀ j, j ≤ m → cnt (fun o => p o || decide (o = m)) j = cnt p j := by
        intro j
        induction j with
        | zero => intro _; rfl
        | succ j ihj =>
          intro hj
          show cnt (fun o => p o || decide (o = m)) j + (if (p j || decide (j = m)) = true then 1 else 0) = cnt p j + (if p j = true then 1 else 0)
          rw [ihj (by omega), decide_eq_false (by omega), Bool.or_false]
      rw [h1 m (Nat.le_refl _), hp, decide_eq_true rfl, Bool.or_true, if_pos rfl, if_neg (by decide)]
    · rw [ih (by omega) hp, decide_eq_false h9, Bool.or_false]; omega
theorem cnt_bd {p : Nat → Bool} : ∀ m, cnt p m ≤ m := by
  intro m
  induction m with
  | zero => exact Nat.le_refl _
  | succ m ih =>
    show cnt p m + (if p m = true then 1 else 0) ≤ m + 1
    split <;> omega
theorem sm_mono {t : Nat → Nat} {k : Nat} : ∀ m, k ≤ m → sm t k ≤ sm t m := by
  intro m
  induction m with
  | zero => intro h; rw [show k = 0 by omega]; exact Nat.le_refl _
  | succ m ih =>
    intro h
    by_cases h9 : k = m + 1
    · rw [h9]; exact Nat.le_refl _
    · have := ih (by omega)
      show _ ≤ sm t m + t m
      omega
theorem sm_le {t : Nat → Nat} {b : Nat} (h : ∀ e, t e ≤ b) : ∀ m, sm t m ≤ b * m := by
  intro m
  induction m with
  | zero => exact Nat.le_refl _
  | succ m ih =>
    have := h m
    show sm t m + t m ≤ _
    rw [Nat.mul_succ]; omega
theorem sm_ge {t : Nat → Nat} {e m : Nat} (h : e < m) : t e ≤ sm t m := by
  have h1 := sm_mono (t := t) (k := e + 1) m h
  have h2 : sm t (e + 1) = sm t e + t e := rfl
  omega
-- ===== an amount parted
def ahd (t : Nat → Nat) (o e : Nat) : Bool := decide (t e < t o ∨ (t o = t e ∧ o < e))
def plN (t : Nat → Nat) (m e : Nat) : Nat := cnt (fun o => ahd t o e) m
def qN (t : Nat → Nat) (m amt e : Nat) : Nat := if sm t m = 0 then 0 else amt * t e / sm t m
def lfN (t : Nat → Nat) (m amt : Nat) : Nat := amt - sm (qN t m amt) m
def gvN (t : Nat → Nat) (m amt e : Nat) : Bool := decide (0 < t e ∧ plN t m e < lfN t m amt)
def shN (t : Nat → Nat) (m amt e : Nat) : Nat := qN t m amt e + (if gvN t m amt e = true then 1 else 0)
def chN (t : Nat → Nat) (m amt : Nat) : Nat := if sm t m = 0 then amt else 0
theorem qs_up {t : Nat → Nat} {m amt : Nat} (ha : sm t m ≠ 0) : ∀ k, sm t m * sm (qN t m amt) k ≤ amt * sm t k := by
  intro k
  induction k with
  | zero => exact Nat.le_refl _
  | succ k ih =>
    have h1 : sm t m * qN t m amt k ≤ amt * t k := by
      unfold qN
      rw [if_neg ha]
      exact Nat.mul_div_le _ _
    show sm t m * (sm (qN t m amt) k + qN t m amt k) ≤ amt * (sm t k + t k)
    rw [Nat.mul_add, Nat.mul_add]; omega
theorem qs_dn {t : Nat → Nat} {m amt : Nat} (ha : sm t m ≠ 0) : ∀ k, amt * sm t k ≤ sm t m * sm (qN t m amt) k + (sm t m - 1) * cnt (fun e => decide (0 < t e)) k := by
  intro k
  induction k with
  | zero => exact Nat.le_refl _
  | succ k ih =>
    show amt * (sm t k + t k) ≤ sm t m * (sm (qN t m amt) k + qN t m amt k) + (sm t m - 1) * (cnt (fun e => decide (0 < t e)) k + (if decide (0 < t k) = true then 1 else 0))
    rw [Nat.mul_add, Nat.mul_add, Nat.mul_add]
    have h1 : amt * t k ≤ sm t m * qN t m amt k + (sm t m - 1) * (if decide (0 < t k) = true then 1 else 0) := by
      by_cases h0 : 0 < t k
      · rw [if_pos (decide_eq_true h0)]
        unfold qN
        rw [if_neg ha]
        have h2 := Nat.div_add_mod (amt * t k) (sm t m)
        have h3 := Nat.mod_lt (amt * t k) (Nat.pos_of_ne_zero ha)
        omega
      · rw [show t k = 0 by omega, Nat.mul_zero]; exact Nat.zero_le _
    omega
theorem qs_le {t : Nat → Nat} {m amt : Nat} : sm (qN t m amt) m ≤ amt := by
  by_cases ha : sm t m = 0
  · have h1 : ∀ k, sm (qN t m amt) k = 0 := by
      intro k
      induction k with
      | zero => rfl
      | succ k ih =>
        show sm (qN t m amt) k + qN t m amt k = 0
        rw [ih]; unfold qN; rw [if_pos ha]
    rw [h1]; exact Nat.zero_le _
  · have h1 := qs_up (amt := amt) ha m
    rw [Nat.mul_comm amt] at h1
    exact Nat.le_of_mul_le_mul_left h1 (Nat.pos_of_ne_zero ha)
theorem lf_lt {t : Nat → Nat} {m amt : Nat} (ha : sm t m ≠ 0) : lfN t m amt < cnt (fun e => decide (0 < t e)) m ∨ lfN t m amt = 0 := by
  have h1 := qs_dn (amt := amt) ha m
  have h2 := qs_le (t := t) (m := m) (amt := amt)
  generalize cnt (fun e => decide (0 < t e)) m = P at h1 ⊢
  have h3 : amt = lfN t m amt + sm (qN t m amt) m := by unfold lfN; omega
  generalize lfN t m amt = lf at h3 ⊢
  generalize sm (qN t m amt) m = Q at *
  generalize sm t m = S at *
  subst h3
  rw [Nat.add_mul, Nat.mul_comm Q S] at h1
  by_cases h0 : lf = 0
  · exact Or.inr h0
  · refine Or.inl (Nat.lt_of_not_le fun h9 => ?_)
    have h4 : P * S ≤ lf * S := Nat.mul_le_mul_right S h9
    have h5 : (S - 1) * P + P = S * P := by
      obtain ⟨s, rfl⟩ : ∃ s, S = s + 1 := ⟨S - 1, by omega⟩
      rw [Nat.add_sub_cancel, Nat.succ_mul]
    rw [Nat.mul_comm P S] at h4
    by_cases hP : P = 0
    · subst hP
      have : lf * S ≤ 0 := by omega
      have h6 : 0 < lf * S := Nat.mul_pos (Nat.pos_of_ne_zero h0) (Nat.pos_of_ne_zero ha)
      omega
    · omega
theorem q_le {t : Nat → Nat} {m amt e : Nat} (he : e < m) : qN t m amt e ≤ amt := Nat.le_trans (sm_ge he) qs_le
theorem lf_step {t : Nat → Nat} {m amt k : Nat} (hk : k < m) : nL (amt - sm (qN t m amt) k) - nL (qN t m amt k) = nL (amt - sm (qN t m amt) (k + 1)) := by
  have h1 := sm_mono (t := qN t m amt) (k := k + 1) m hk
  have h2 := qs_le (t := t) (m := m) (amt := amt)
  have h3 : sm (qN t m amt) (k + 1) = sm (qN t m amt) k + qN t m amt k := rfl
  rw [zL_sub (by omega), h3, Nat.sub_add_eq]
/-- where the class keeps titles -/
def PT (t : Nat → Nat) (m : Nat) (J : MI) : Prop := J 8 0 = nI m ∧ J 8 2 = nI (sm t m) ∧ ∀ e, e < m → J 9 e = nI (t e)
theorem c_place {t : Nat → Nat} {m e : Nat} {J : MI} {L : ML} (hm : m ≤ 6) (ht : ∀ e, t e ≤ 11988) (hP : PT t m J) (he : e < m) : f_X6_placeOf (nI e) J L = some (nI (plN t m e)) := by
  obtain ⟨p1, p2, p3⟩ := hP
  have key : Tt (f_X6_placeOf (nI e) J L) (fun x => x = nI (plN t m e)) := by
    unfold f_X6_placeOf
    refine lp0 (fun fuel k (b : Nat) => f_X6_placeOf_4 fuel (nI e) (nI b) (nI k) J L) m (fun k b => b = cnt (fun o => ahd t o e) k) (by omega) ?_ ?_ (s := 0) rfl
    · intro fuel k b hk hb hnx
      have te := ht e
      have tk := ht k
      show Tt (f_X6_placeOf_4 (fuel + 1) (nI e) (nI b) (nI k) J L) _
      unfold f_X6_placeOf_4 f_X6_placeOf_47 f_X6_placeOf_51 f_X6_placeOf_52 f_X6_placeOf_65
      rw [p1, if_neg (le_n (by omega) (by omega) hk), ldI_n (show k < 6 by omega) (by decide), Option.bind_some, ldI_n (show e < 6 by omega) (by decide), Option.bind_some, Option.bind_some, Option.bind_some, p3 k hk, p3 e he, if_pos (show true = true from rfl), if_neg (show ¬ false = true from Bool.false_ne_true), zI_1 k]
      have c1 : nI b + bI true = nI (b + 1) := zI_1 b
      have c0 : nI b + bI false = nI b := Int32.add_zero _
      rw [c1, c0]
      have u1 : ahd t k e = true → Tt (f_X6_placeOf_4 fuel (nI e) (nI (b + 1)) (nI (k + 1)) J L) (fun x => x = nI (plN t m e)) := fun h => hnx (b + 1) (by show _ = cnt (fun o => ahd t o e) k + (if ahd t k e = true then 1 else 0); rw [if_pos h, hb])
      have u0 : ¬ ahd t k e = true → Tt (f_X6_placeOf_4 fuel (nI e) (nI b) (nI (k + 1)) J L) (fun x => x = nI (plN t m e)) := fun h => hnx b (by show _ = cnt (fun o => ahd t o e) k + (if ahd t k e = true then 1 else 0); rw [if_neg h, hb, Nat.add_zero])
      by_cases h1 : t e < t k
      · rw [if_pos ((zI_lt (by omega) (by omega)).mpr h1)]
        exact u1 (decide_eq_true (Or.inl h1))
      · rw [if_neg (fun h => h1 ((zI_lt (by omega) (by omega)).mp h))]
        by_cases h2 : t k = t e
        · rw [if_pos ((zI_eq (by omega) (by omega)).mpr h2)]
          by_cases h3 : e ≤ k
          · rw [if_pos ((zI_le (by omega) (by omega)).mpr h3)]
            exact u0 (fun h => by have := of_decide_eq_true h; omega)
          · rw [if_neg (fun h => h3 ((zI_le (by omega) (by omega)).mp h))]
            exact u1 (decide_eq_true (Or.inr ⟨h2, by omega⟩))
        · rw [if_neg (fun h => h2 ((zI_eq (by omega) (by omega)).mp h))]
          exact u0 (fun h => by have := of_decide_eq_true h; omega)
    · intro fuel b hb
      show Tt (f_X6_placeOf_4 (fuel + 1) (nI e) (nI b) (nI m) J L) _
      unfold f_X6_placeOf_4
      rw [p1, if_pos (Int32.le_refl _), hb]
      exact Tt_some rfl
  obtain ⟨x, e1, e2⟩ := key
  rw [e1, e2]
theorem mul_bd {amt x : Nat} (ha : amt ≤ 200000000) (hx : x ≤ 11988) : amt * x < 2 ^ 63 := Nat.lt_of_le_of_lt (Nat.mul_le_mul ha hx) (by decide)
theorem c_divide {t : Nat → Nat} {m amt : Nat} {J : MI} {L : ML} (hm : m ≤ 6) (ht : ∀ e, t e ≤ 11988) (ha : amt ≤ 200000000) (hP : PT t m J) : Tt (f_X6_divide (nL amt) J L) (fun r => r.1 = J ∧ (∀ q, q ≠ 8 → q ≠ 10 → r.2 q = L q) ∧ r.2 8 4 = nL (chN t m amt) ∧ ∀ e, e < m → r.2 10 e = nL (shN t m amt e)) := by
  obtain ⟨p1, p2, p3⟩ := id hP
  have hS := sm_le ht m
  have hS2 : sm t m ≤ 71928 := Nat.le_trans hS (Nat.le_trans (Nat.mul_le_mul_left 11988 hm) (by decide))
  unfold f_X6_divide
  refine lp0 (fun fuel k (M : ML) => f_X6_divide_5 fuel (nL amt) (nL (amt - sm (qN t m amt) k)) (nI k) J M) m (fun k M => (∀ q, q ≠ 10 → M q = L q) ∧ ∀ e, e < k → M 10 e = nL (qN t m amt e)) (by omega) ?_ ?_ (s := L) ⟨fun _ _ => rfl, fun e he => absurd he (Nat.not_lt_zero _)⟩
  · intro fuel k M hk ⟨m1, m2⟩ hnx
    have tk := ht k
    show Tt (f_X6_divide_5 (fuel + 1) (nL amt) (nL (amt - sm (qN t m amt) k)) (nI k) J M) _
    unfold f_X6_divide_5 f_X6_divide_47
    rw [p1, p2, if_neg (le_n (by omega) (by omega) hk), ldI_n (show k < 6 by omega) (by decide), Option.bind_some, p3 k hk, zL_i (show t k < 2 ^ 31 by omega), zL_mul, zL_i (show sm t m < 2 ^ 31 by omega), zI_1 k]
    have nx : Tt (f_X6_divide_5 fuel (nL amt) (nL (amt - sm (qN t m amt) (k + 1))) (nI (k + 1)) J (upl M 10 k (nL (qN t m amt k)))) (fun r => r.1 = J ∧ (∀ q, q ≠ 8 → q ≠ 10 → r.2 q = L q) ∧ r.2 8 4 = nL (chN t m amt) ∧ ∀ e, e < m → r.2 10 e = nL (shN t m amt e)) := by
      refine hnx (upl M 10 k (nL (qN t m amt k))) ⟨fun q hq => ?_, fun e he => ?_⟩
      · rw [zl_n _ _ _ hq]; exact m1 q hq
      · rw [zl_s]
        by_cases h9 : e = k
        · rw [if_pos h9, h9]
        · rw [if_neg h9]; exact m2 e (by omega)
    by_cases h0 : sm t m = 0
    · have q0 : qN t m amt k = 0 := by unfold qN; rw [if_pos h0]
      rw [if_neg (by rw [zI_0, zI_lt (by decide) (by omega)]; omega), stL_n (show k < 6 by omega) (by decide), Option.bind_some, ldL_n (show k < 6 by omega) (by decide), Option.bind_some, zl_s, if_pos rfl]
      rw [← lf_step hk, q0] at nx
      exact nx
    · have q0 : qN t m amt k = amt * t k / sm t m := by unfold qN; rw [if_neg h0]
      rw [if_pos (by rw [zI_0, zI_lt (by decide) (by omega)]; omega), dvL_n h0 (by omega), Option.bind_some, zL_div (mul_bd ha tk) (by omega), stL_n (show k < 6 by omega) (by decide), Option.bind_some, ldL_n (show k < 6 by omega) (by decide), Option.bind_some, zl_s, if_pos rfl]
      rw [← lf_step hk, q0] at nx
      exact nx
  · intro fuel M ⟨m1, m2⟩
    have hlf : lfN t m amt ≤ amt := by unfold lfN; omega
    have e77 : ∀ y : Int64, y = nL (chN t m amt) → Tt (f_X6_divide_77 (nL (lfN t m amt)) y J M) (fun r => r.1 = J ∧ (∀ q, q ≠ 8 → q ≠ 10 → r.2 q = L q) ∧ r.2 8 4 = nL (chN t m amt) ∧ ∀ e, e < m → r.2 10 e = nL (shN t m amt e)) := by
      intro y hy
      unfold f_X6_divide_77
      rw [pfle, Option.bind_some]
      refine lp0 (fun fuel k (M : ML) => f_X6_divide_83 fuel (nL (lfN t m amt)) (nI k) J M) m (fun k M => (∀ q, q ≠ 8 → q ≠ 10 → M q = L q) ∧ M 8 4 = nL (chN t m amt) ∧ ∀ e, e < m → M 10 e = nL (if e < k then shN t m amt e else qN t m amt e)) (by omega) ?_ ?_ (s := upl M 8 4 y) ⟨fun q h8 h10 => ?_, ?_, fun e he => ?_⟩
      · intro fuel k M hk ⟨n1, n2, n3⟩ hnx
        have tk := ht k
        have hpl : plN t m k ≤ 6 := Nat.le_trans (cnt_bd m) hm
        show Tt (f_X6_divide_83 (fuel + 1) (nL (lfN t m amt)) (nI k) J M) _
        unfold f_X6_divide_83 f_X6_divide_125
        rw [p1, if_neg (le_n (by omega) (by omega) hk), ldI_n (show k < 6 by omega) (by decide), Option.bind_some, p3 k hk, c_place hm ht hP hk, Option.bind_some, zL_i (by omega), zI_1 k]
        have stay : gvN t m amt k = false → Tt (f_X6_divide_83 fuel (nL (lfN t m amt)) (nI (k + 1)) J M) (fun r => r.1 = J ∧ (∀ q, q ≠ 8 → q ≠ 10 → r.2 q = L q) ∧ r.2 8 4 = nL (chN t m amt) ∧ ∀ e, e < m → r.2 10 e = nL (shN t m amt e)) := by
          intro hg
          refine hnx M ⟨n1, n2, fun e he => ?_⟩
          rw [n3 e he]
          by_cases h9 : e = k
          · subst h9
            rw [if_neg (Nat.lt_irrefl _), if_pos (Nat.lt_succ_self _)]
            unfold shN
            rw [hg, if_neg (by decide), Nat.add_zero]
          · by_cases h8 : e < k
            · rw [if_pos h8, if_pos (by omega)]
            · rw [if_neg h8, if_neg (by omega)]
        by_cases h1 : t k = 0
        · rw [if_pos (by rw [zI_0, zI_le (by omega) (by decide)]; omega)]
          exact stay (decide_eq_false (by omega))
        · rw [if_neg (by rw [zI_0, zI_le (by omega) (by decide)]; omega)]
          by_cases h2 : lfN t m amt ≤ plN t m k
          · rw [if_pos ((zL_le (by omega) (by omega)).mpr h2)]
            exact stay (decide_eq_false (by omega))
          · rw [if_neg (fun h => h2 ((zL_le (by omega) (by omega)).mp h)), ldL_n (show k < 6 by omega) (by decide), Option.bind_some, stL_n (show k < 6 by omega) (by decide), Option.bind_some]
            have hg : gvN t m amt k = true := decide_eq_true ⟨by omega, by omega⟩
            refine hnx _ ⟨fun q h8 h10 => ?_, ?_, fun e he => ?_⟩
            · rw [zl_n _ _ _ h10]; exact n1 q h8 h10
            · rw [zl_n _ _ _ (by decide)]; exact n2
            · rw [zl_s]
              by_cases h9 : e = k
              · subst h9
                rw [if_pos rfl, n3 e he, if_neg (Nat.lt_irrefl _), if_pos (Nat.lt_succ_self _)]
                unfold shN
                rw [if_pos hg]; exact zL_add _ 1
              · rw [if_neg h9, n3 e he]
                by_cases h8 : e < k
                · rw [if_pos h8, if_pos (by omega)]
                · rw [if_neg h8, if_neg (by omega)]
      · intro fuel M ⟨n1, n2, n3⟩
        show Tt (f_X6_divide_83 (fuel + 1) (nL (lfN t m amt)) (nI m) J M) _
        unfold f_X6_divide_83
        rw [p1, if_pos (Int32.le_refl _)]
        exact Tt_some ⟨rfl, n1, n2, fun e he => by show M 10 e = _; rw [n3 e he, if_pos he]⟩
      · rw [zl_n _ _ _ h8]; exact m1 q h10
      · rw [zl_s, if_pos rfl, hy]
      · rw [zl_n _ _ _ (by decide), m2 e he, if_neg (Nat.not_lt_zero _)]
    show Tt (f_X6_divide_5 (fuel + 1) (nL amt) (nL (lfN t m amt)) (nI m) J M) _
    unfold f_X6_divide_5
    rw [p1, p2, if_pos (Int32.le_refl _)]
    by_cases h0 : sm t m = 0
    · rw [if_neg (by rw [zI_0, zI_lt (by decide) (by omega)]; omega)]
      exact e77 _ (by unfold chN; rw [if_pos h0])
    · rw [if_pos (by rw [zI_0, zI_lt (by decide) (by omega)]; omega)]
      exact e77 _ (by unfold chN; rw [if_neg h0]; rfl)
-- ===== the reference's parting
/-- the heirs who have got their coin: a beginning of the row of all, by titles -/
def UP (t : Nat → Nat) (m j : Nat) (D : Nat → Bool) : Prop := cnt D m = j ∧ (∀ o e, o < m → e < m → D o = true → D e = false → ahd t o e = true) ∧ ∀ o, o < m → D o = true → 0 < t o
theorem ahd_as {t : Nat → Nat} {o e : Nat} (h1 : ahd t o e = true) (h2 : ahd t e o = true) : False := by
  have h3 := of_decide_eq_true h1
  have h4 := of_decide_eq_true h2
  omega
theorem UP_in {t : Nat → Nat} {m j : Nat} {D : Nat → Bool} (h : UP t m j D) {e : Nat} (he : e < m) (hD : D e = true) : plN t m e < j := by
  obtain ⟨h1, h2, h3⟩ := h
  rw [← h1]
  refine cnt_lt (b := e) m (fun o ho ha => ?_) he hD (decide_eq_false (by omega))
  cases hx : D o
  · exact (ahd_as ha (h2 e o he ho hD hx)).elim
  · rfl
theorem UP_out {t : Nat → Nat} {m j : Nat} {D : Nat → Bool} (h : UP t m j D) {e : Nat} (he : e < m) (hD : D e = false) : j ≤ plN t m e := by
  obtain ⟨h1, h2, h3⟩ := h
  rw [← h1]
  exact cnt_le m (fun o ho ha => h2 o e ho he ha hD)
theorem UP_gv {t : Nat → Nat} {m amt : Nat} {D : Nat → Bool} (h : UP t m (lfN t m amt) D) {e : Nat} (he : e < m) : D e = gvN t m amt e := by
  cases hx : D e
  · have := UP_out h he hx
    exact (decide_eq_false (by omega)).symm
  · have h1 := UP_in h he hx
    exact (decide_eq_true ⟨h.2.2 e he hx, h1⟩).symm
theorem UP_ins {t : Nat → Nat} {m j b : Nat} {D : Nat → Bool} (h : UP t m j D) (hb : b < m) (hD : D b = false) (ht : 0 < t b) (hbest : ∀ e, e < m → D e = false → e ≠ b → ahd t b e = true) : UP t m (j + 1) (fun o => D o || decide (o = b)) := by
  obtain ⟨h1, h2, h3⟩ := h
  refine ⟨by rw [cnt_ins m hb hD, h1], fun o e ho he hDo hDe => ?_, fun o ho hDo => ?_⟩
  · have g1 : D e = false ∧ e ≠ b := by
      constructor
      · cases hx : D e
        · rfl
        · have hDe : (D e || decide (e = b)) = false := hDe
          rw [hx] at hDe; cases hDe
      · intro h9
        have hDe : (D e || decide (e = b)) = false := hDe
        rw [decide_eq_true h9, Bool.or_true] at hDe; cases hDe
    by_cases h9 : o = b
    · subst h9; exact hbest e he g1.1 g1.2
    · have hDo : (D o || decide (o = b)) = true := hDo
      rw [decide_eq_false h9, Bool.or_false] at hDo
      exact h2 o e ho he hDo g1.1
  · by_cases h9 : o = b
    · subst h9; exact ht
    · have hDo : (D o || decide (o = b)) = true := hDo
      rw [decide_eq_false h9, Bool.or_false] at hDo
      exact h3 o ho hDo
theorem r_m2 {I : MI} {L : ML} {m : Nat} (h : I 150 2 = nI m) : f_X12_heirs I L = some (nI m) := by
  unfold f_X12_heirs
  rw [show (2 : Int32) = nI 2 from rfl, r_w (by decide), Option.bind_some, h]
def obI : Option Nat → Int32
  | none => -1
  | some b => nI b
def bsI (t : Nat → Nat) (D : Nat → Bool) (k : Nat) : Option Nat → Prop
  | none => ∀ e, e < k → D e = false → t e = 0
  | some b => b < k ∧ D b = false ∧ 0 < t b ∧ ∀ e, e < k → D e = false → e ≠ b → ahd t b e = true
theorem r_best {t : Nat → Nat} {m j : Nat} {D : Nat → Bool} {R : Int64 × MI × ML → Prop} {k74 : Int64 → Int64 → Int32 → MI → ML → Option (Int64 × MI × ML)} {J : MI} {L : ML} {x4 x6 : Int64} {x8 : Int32} (hm : m ≤ 6) (h2 : J 150 2 = nI m) (h158 : ∀ e, e < m → J 158 e = nI (t e)) (ht : ∀ e, t e ≤ 11988) (hD : ∀ e, e < m → bt x8 e = D e) (hU : UP t m j D) (hj : j < cnt (fun e => decide (0 < t e)) m)
    (hk : ∀ b, b < m → D b = false → 0 < t b → (∀ e, e < m → D e = false → e ≠ b → ahd t b e = true) → Tt (k74 x4 (x6 - 1) (x8 ||| (1 <<< (nI b &&& 31))) J (upl L 159 b (L 159 b + 1))) R) : Tt (f_X12_parts_94 k74 FU x4 x6 x8 (-1) 0 J L) R := by
  refine lp0 (fun fuel k (b : Option Nat) => f_X12_parts_94 k74 fuel x4 x6 x8 (obI b) (nI k) J L) m (fun k b => bsI t D k b) (by omega) ?_ ?_ (s := none) (fun e he => absurd he (Nat.not_lt_zero _))
  · intro fuel k b hk6 hb hnx
    have tk := ht k
    show Tt (f_X12_parts_94 k74 (fuel + 1) x4 x6 x8 (obI b) (nI k) J L) _
    unfold f_X12_parts_94 f_X12_parts_145 f_X12_parts_149
    rw [r_m2 h2, Option.bind_some, if_neg (le_n (by omega) (by omega) hk6), r_has (by omega), Option.bind_some, hD k hk6, ldI_n (show k < 6 by omega) (by decide), Option.bind_some, h158 k hk6, zI_1 k]
    cases hx : D k
    · rw [if_neg (by decide)]
      by_cases h0 : t k = 0
      · rw [if_pos (by rw [zI_0, zI_le (by omega) (by decide)]; omega)]
        refine hnx b ?_
        cases b with
        | none =>
          intro e he hDe
          by_cases h9 : e = k
          · rw [h9]; exact h0
          · exact hb e (by omega) hDe
        | some b =>
          obtain ⟨b1, b2, b3, b4⟩ := hb
          refine ⟨by omega, b2, b3, fun e he hDe hne => ?_⟩
          by_cases h9 : e = k
          · subst h9; exact decide_eq_true (Or.inl (by omega))
          · exact b4 e (by omega) hDe hne
      · rw [if_neg (by rw [zI_0, zI_le (by omega) (by decide)]; omega)]
        cases b with
        | none =>
          show Tt (if (-1 : Int32) < 0 then _ else _) R
          rw [if_pos (show (-1 : Int32) < 0 by decide)]
          refine hnx (some k) ⟨Nat.lt_succ_self _, hx, by omega, fun e he hDe hne => ?_⟩
          have := hb e (by omega) hDe
          exact decide_eq_true (Or.inl (by omega))
        | some b =>
          obtain ⟨b1, b2, b3, b4⟩ := hb
          have tb := ht b
          show Tt (if nI b < 0 then _ else Option.bind (some (nI (t k))) fun v10 => Option.bind (ldI J 158 6 (nI b)) _) R
          rw [if_neg (zI_nn (by omega)), Option.bind_some, ldI_n (show b < 6 by omega) (by decide), Option.bind_some, h158 b (by omega)]
          by_cases h1 : t k ≤ t b
          · rw [if_pos ((zI_le (by omega) (by omega)).mpr h1)]
            refine hnx (some b) ⟨by omega, b2, b3, fun e he hDe hne => ?_⟩
            by_cases h9 : e = k
            · subst h9; exact decide_eq_true (by omega)
            · exact b4 e (by omega) hDe hne
          · rw [if_neg (fun h => h1 ((zI_le (by omega) (by omega)).mp h))]
            refine hnx (some k) ⟨Nat.lt_succ_self _, hx, by omega, fun e he hDe hne => ?_⟩
            by_cases h9 : e = b
            · subst h9; exact decide_eq_true (Or.inl (by omega))
            · have h8 := of_decide_eq_true (b4 e (by omega) hDe h9)
              exact decide_eq_true (Or.inl (by omega))
    · rw [if_pos rfl]
      refine hnx b ?_
      cases b with
      | none =>
        intro e he hDe
        by_cases h9 : e = k
        · subst h9; rw [hx] at hDe; cases hDe
        · exact hb e (by omega) hDe
      | some b =>
        obtain ⟨b1, b2, b3, b4⟩ := hb
        refine ⟨by omega, b2, b3, fun e he hDe hne => ?_⟩
        by_cases h9 : e = k
        · subst h9; rw [hx] at hDe; cases hDe
        · exact b4 e (by omega) hDe hne
  · intro fuel b hb
    show Tt (f_X12_parts_94 k74 (fuel + 1) x4 x6 x8 (obI b) (nI m) J L) _
    cases b with
    | none =>
      exfalso
      obtain ⟨u1, u2, u3⟩ := hU
      have h9 : cnt (fun e => decide (0 < t e)) m ≤ cnt D m := by
        refine cnt_le m (fun o ho h0 => ?_)
        have h0 := of_decide_eq_true h0
        cases hx : D o
        · have := hb o ho hx; omega
        · rfl
      omega
    | some b =>
      obtain ⟨b1, b2, b3, b4⟩ := hb
      show Tt (f_X12_parts_94 k74 (fuel + 1) x4 x6 x8 (nI b) (nI m) J L) _
      unfold f_X12_parts_94
      rw [r_m2 h2, Option.bind_some, if_pos (Int32.le_refl _), ldL_n (show b < 6 by omega) (by decide), Option.bind_some, stL_n (show b < 6 by omega) (by decide), Option.bind_some]
      exact hk b b1 b2 b3 b4
/-- the coins that are left over, one by one -/
theorem r_74 {t : Nat → Nat} {m amt : Nat} {J : MI} {L0 : ML} (hm : m ≤ 6) (ha : amt ≤ 200000000) (h2 : J 150 2 = nI m) (h158 : ∀ e, e < m → J 158 e = nI (t e)) (ht : ∀ e, t e ≤ 11988) (hS0 : sm t m ≠ 0) (hS : sm t m ≤ 71928) :
    ∀ (i j fuel : Nat) (x8 : Int32) (D : Nat → Bool) (L : ML), j + i = lfN t m amt → i < fuel → (∀ e, e < m → bt x8 e = D e) → UP t m j D → (∀ q, q ≠ 159 → L q = L0 q) → (∀ e, e < m → L 159 e = nL (qN t m amt e + (if D e = true then 1 else 0))) →
    Tt (f_X12_parts_74 fuel (nL (sm t m)) (nL i) x8 J L) (fun r => r.1 = nL 0 ∧ r.2.1 = J ∧ (∀ q, q ≠ 159 → r.2.2 q = L0 q) ∧ ∀ e, e < m → r.2.2 159 e = nL (shN t m amt e)) := by
  intro i
  induction i with
  | zero =>
    intro j fuel x8 D L hji hf hD hU hL hg
    obtain ⟨f, rfl⟩ : ∃ f, fuel = f + 1 := ⟨fuel - 1, by omega⟩
    unfold f_X12_parts_74 f_X12_parts_184
    rw [if_pos (show nL 0 ≤ 0 from Int64.le_refl _)]
    have e0 : j = lfN t m amt := by omega
    subst e0
    refine Tt_some ⟨rfl, rfl, hL, fun e he => ?_⟩
    show L 159 e = _
    rw [hg e he, UP_gv hU he]; rfl
  | succ i ih =>
    intro j fuel x8 D L hji hf hD hU hL hg
    obtain ⟨f, rfl⟩ : ∃ f, fuel = f + 1 := ⟨fuel - 1, by omega⟩
    have hlf : lfN t m amt ≤ amt := by unfold lfN; omega
    have hP := lf_lt (amt := amt) hS0
    unfold f_X12_parts_74
    rw [if_neg (by rw [zL_0, zL_le (by omega) (by decide)]; omega), if_neg (by rw [zL_0, zL_le (by omega) (by decide)]; omega)]
    refine r_best (j := j) (D := D) hm h2 h158 ht hD hU (by omega) ?_
    intro b hb hDb htb hbest
    rw [show nL (i + 1) - 1 = nL i from zL_sub (a := i + 1) (b := 1) (by omega)]
    refine ih (j + 1) f _ (fun o => D o || decide (o = b)) _ (by omega) (by omega) (fun e he => ?_) (UP_ins hU hb hDb htb hbest) (fun q hq => ?_) (fun e he => ?_)
    · rw [b_set (by omega) (by omega), hD e he]
    · rw [zl_n _ _ _ hq]; exact hL q hq
    · rw [zl_s]
      by_cases h9 : e = b
      · subst h9
        rw [if_pos rfl, hg e he, hDb]
        show nL _ + nL 1 = nL (qN t m amt e + (if (false || decide (e = e)) = true then 1 else 0))
        rw [decide_eq_true rfl, zL_add]; rfl
      · rw [if_neg h9, hg e he]
        show nL _ = nL (qN t m amt e + (if (D e || decide (e = b)) = true then 1 else 0))
        rw [decide_eq_false h9, Bool.or_false]
theorem cnt_0 : ∀ m, cnt (fun _ => false) m = 0 := by
  intro m
  induction m with
  | zero => rfl
  | succ m ih =>
    show cnt (fun _ => false) m + (if false = true then 1 else 0) = 0
    rw [ih, if_neg (by decide)]
theorem r_parts {t : Nat → Nat} {m amt : Nat} {J : MI} {L : ML} (hm : m ≤ 6) (ht : ∀ e, t e ≤ 11988) (ha : amt ≤ 200000000) (h2 : J 150 2 = nI m) (h158 : ∀ e, e < m → J 158 e = nI (t e)) : Tt (f_X12_parts_13 FU (nL amt) (nL (sm t m)) (nL amt) 0 J L) (fun r => r.1 = nL (chN t m amt) ∧ r.2.1 = J ∧ (∀ q, q ≠ 159 → r.2.2 q = L q) ∧ ∀ e, e < m → r.2.2 159 e = nL (shN t m amt e)) := by
  have hS := sm_le ht m
  have hS2 : sm t m ≤ 71928 := Nat.le_trans hS (Nat.le_trans (Nat.mul_le_mul_left 11988 hm) (by decide))
  refine lp0 (fun fuel k (M : ML) => f_X12_parts_13 fuel (nL amt) (nL (sm t m)) (nL (amt - sm (qN t m amt) k)) (nI k) J M) m (fun k M => (∀ q, q ≠ 159 → M q = L q) ∧ ∀ e, e < k → M 159 e = nL (qN t m amt e)) (by omega) ?_ ?_ (s := L) ⟨fun _ _ => rfl, fun e he => absurd he (Nat.not_lt_zero _)⟩
  · intro fuel k M hk ⟨m1, m2⟩ hnx
    have tk := ht k
    show Tt (f_X12_parts_13 (fuel + 1) (nL amt) (nL (sm t m)) (nL (amt - sm (qN t m amt) k)) (nI k) J M) _
    unfold f_X12_parts_13 f_X12_parts_52
    rw [r_m2 h2, Option.bind_some, if_neg (le_n (by omega) (by omega) hk), ldI_n (show k < 6 by omega) (by decide), Option.bind_some, h158 k hk, zL_i (show t k < 2 ^ 31 by omega), zL_mul, zI_1 k]
    have nx := hnx (upl M 159 k (nL (qN t m amt k))) ⟨fun q hq => by rw [zl_n _ _ _ hq]; exact m1 q hq, fun e he => by
      rw [zl_s]
      by_cases h9 : e = k
      · rw [if_pos h9, h9]
      · rw [if_neg h9]; exact m2 e (by omega)⟩
    by_cases h0 : sm t m = 0
    · have q0 : qN t m amt k = 0 := by unfold qN; rw [if_pos h0]
      rw [if_pos (by rw [zL_0, zL_eq (by omega) (by decide)]; exact h0), stL_n (show k < 6 by omega) (by decide), Option.bind_some, ldL_n (show k < 6 by omega) (by decide), Option.bind_some, zl_s, if_pos rfl]
      rw [← lf_step hk, q0] at nx
      exact nx
    · have q0 : qN t m amt k = amt * t k / sm t m := by unfold qN; rw [if_neg h0]
      rw [if_neg (by rw [zL_0, zL_eq (by omega) (by decide)]; exact h0), dvL_n h0 (by omega), Option.bind_some, zL_div (mul_bd ha tk) (by omega), stL_n (show k < 6 by omega) (by decide), Option.bind_some, ldL_n (show k < 6 by omega) (by decide), Option.bind_some, zl_s, if_pos rfl]
      rw [← lf_step hk, q0] at nx
      exact nx
  · intro fuel M ⟨m1, m2⟩
    have hlf : lfN t m amt ≤ amt := by unfold lfN; omega
    show Tt (f_X12_parts_13 (fuel + 1) (nL amt) (nL (sm t m)) (nL (lfN t m amt)) (nI m) J M) _
    unfold f_X12_parts_13
    rw [r_m2 h2, Option.bind_some, if_pos (Int32.le_refl _)]
    by_cases h0 : sm t m = 0
    · obtain ⟨fu, hfu⟩ : ∃ fu, FU = fu + 1 := ⟨999999, rfl⟩
      rw [hfu]
      unfold f_X12_parts_74 f_X12_parts_184
      have q0 : ∀ e, qN t m amt e = 0 := fun e => by unfold qN; rw [if_pos h0]
      have z0 : lfN t m amt = amt := by
        unfold lfN
        have : ∀ k, sm (qN t m amt) k = 0 := by
          intro k
          induction k with
          | zero => rfl
          | succ k ih => show sm (qN t m amt) k + qN t m amt k = 0; rw [ih, q0]
        rw [this]; rfl
      have c0 : chN t m amt = amt := by unfold chN; rw [if_pos h0]
      have s0 : ∀ e, e < m → shN t m amt e = 0 := fun e he => by
        have h1 := sm_ge (t := t) he
        unfold shN
        rw [q0, show gvN t m amt e = false from decide_eq_false (by omega)]; rfl
      rw [h0, z0, if_pos (show nL 0 ≤ 0 from Int64.le_refl _), ite_self]
      refine Tt_some ⟨by rw [c0], rfl, m1, fun e he => ?_⟩
      show M 159 e = _
      rw [m2 e he, s0 e he, q0]
    · have c0 : chN t m amt = 0 := by unfold chN; rw [if_neg h0]
      rw [c0]
      refine r_74 hm ha h2 h158 ht h0 hS2 (lfN t m amt) 0 FU 0 (fun _ => false) M (by omega) (by have h8 := lf_lt (amt := amt) h0; have h9 := cnt_bd (p := fun e => decide (0 < t e)) m; unfold FU; omega) (fun e he => b_0 e) ⟨cnt_0 m, fun o e _ _ h => absurd h Bool.false_ne_true, fun o _ h => absurd h Bool.false_ne_true⟩ m1 (fun e he => ?_)
      show M 159 e = nL (qN t m amt e + (if false = true then 1 else 0))
      rw [m2 e he, if_neg (by decide), Nat.add_zero]
