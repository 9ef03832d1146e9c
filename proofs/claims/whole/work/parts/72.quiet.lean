-- ===== sets of noises as numbers
theorem bt_nI {S i : Nat} (hi : i < 32) : bt (nI S) i = S.testBit i := by
  unfold bt
  show (BitVec.ofNat 32 S).getLsbD i = _
  rw [BitVec.getLsbD_ofNat]; simp [hi]
theorem or_p {n S : Nat} (hn : n < 12) (hS : S < 2 ^ n) : nI S ||| (1 <<< (nI n &&& 31)) = nI (2 ^ n + S) := by
  apply b_ext
  intro i hi
  rw [b_set (by omega) hi, bt_nI hi, bt_nI hi]
  by_cases h1 : i = n
  · subst h1
    rw [Nat.testBit_two_pow_add_eq, Nat.testBit_lt_two_pow hS, decide_eq_true rfl]; rfl
  · rw [decide_eq_false h1, Bool.or_false]
    by_cases h2 : i < n
    · rw [Nat.testBit_two_pow_add_gt h2]
    · have h3 : 2 ^ n + S < 2 ^ i := by
        have : 2 ^ (n + 1) ≤ 2 ^ i := Nat.pow_le_pow_right (by decide) (by omega)
        rw [Nat.pow_succ] at this; omega
      rw [Nat.testBit_lt_two_pow h3, Nat.testBit_lt_two_pow (Nat.lt_of_le_of_lt (Nat.le_add_left _ _) h3)]
theorem sh_p : ∀ n, n < 13 → (1 : Int32) <<< (nI n &&& 31) = nI (2 ^ n) := by decide +kernel
theorem p_le {n : Nat} (h : n ≤ 12) : 2 ^ n ≤ 4096 := Nat.le_trans (Nat.pow_le_pow_right (by decide) h) (by decide)
def sS (D : Nat → Nat) (S : Nat) : Nat → Nat
  | 0 => 0
  | k + 1 => sS D S k + (if S.testBit k = true then D k else 0)
def lS (A : Nat → Nat) (S : Nat) : Nat → Nat
  | 0 => 0
  | k + 1 => lS A S k + (if S.testBit k = true then 0 else A k)
theorem sS_cg {D : Nat → Nat} {S T : Nat} : ∀ k, (∀ i, i < k → T.testBit i = S.testBit i) → sS D T k = sS D S k := by
  intro k
  induction k with
  | zero => intro _; rfl
  | succ k ih => intro h; show sS D T k + _ = sS D S k + _; rw [ih (fun i hi => h i (by omega)), h k (by omega)]
theorem lS_cg {A : Nat → Nat} {S T : Nat} : ∀ k, (∀ i, i < k → T.testBit i = S.testBit i) → lS A T k = lS A S k := by
  intro k
  induction k with
  | zero => intro _; rfl
  | succ k ih => intro h; show lS A T k + _ = lS A S k + _; rw [ih (fun i hi => h i (by omega)), h k (by omega)]
theorem sS_mono {D : Nat → Nat} {S k : Nat} : ∀ m, sS D S k ≤ sS D S (k + m) := by
  intro m
  induction m with
  | zero => exact Nat.le_refl _
  | succ m ih => show _ ≤ sS D S (k + m) + _; omega
theorem lS_mono {A : Nat → Nat} {S k : Nat} : ∀ m, lS A S k ≤ lS A S (k + m) := by
  intro m
  induction m with
  | zero => exact Nat.le_refl _
  | succ m ih => show _ ≤ lS A S (k + m) + _; omega
theorem sS_le {D : Nat → Nat} {S b N : Nat} (h : ∀ n, n < N → D n ≤ b) : ∀ k, k ≤ N → sS D S k ≤ b * k := by
  intro k
  induction k with
  | zero => intro _; exact Nat.le_refl _
  | succ k ih =>
    intro hk
    have h1 := ih (by omega)
    have h2 := h k (by omega)
    show sS D S k + (if S.testBit k = true then D k else 0) ≤ _
    rw [Nat.mul_succ]
    split <;> omega
theorem lS_le {A : Nat → Nat} {S b N : Nat} (h : ∀ n, n < N → A n ≤ b) : ∀ k, k ≤ N → lS A S k ≤ b * k := by
  intro k
  induction k with
  | zero => intro _; exact Nat.le_refl _
  | succ k ih =>
    intro hk
    have h1 := ih (by omega)
    have h2 := h k (by omega)
    show lS A S k + (if S.testBit k = true then 0 else A k) ≤ _
    rw [Nat.mul_succ]
    split <;> omega
/-- S is to be stopped rather than T -/
def btr (D : Nat → Nat) (N S T : Nat) : Prop := sS D S N < sS D T N ∨ (sS D S N = sS D T N ∧ (bcN (nI S) < bcN (nI T) ∨ (bcN (nI S) = bcN (nI T) ∧ S < T)))
theorem btr_tr {D : Nat → Nat} {N S T U : Nat} (h1 : ¬ btr D N S T) (h2 : ¬ btr D N T U) : ¬ btr D N S U := by
  unfold btr at *; omega
theorem btr_as {D : Nat → Nat} {N S T : Nat} (h1 : btr D N S T) : ¬ btr D N T S := by
  unfold btr at *; omega
theorem btr_eq {D : Nat → Nat} {N S T : Nat} (h1 : ¬ btr D N S T) (h2 : ¬ btr D N T S) : S = T := by
  unfold btr at *; omega
/-- the best set -/
def isM (D A : Nat → Nat) (N tg B : Nat) : Prop := B < 2 ^ N ∧ lS A B N ≤ tg ∧ ∀ T, T < 2 ^ N → lS A T N ≤ tg → ¬ btr D N T B
theorem isM_eq {D A : Nat → Nat} {N tg B C : Nat} (h1 : isM D A N tg B) (h2 : isM D A N tg C) : B = C := btr_eq (h2.2.2 B h1.1 h1.2.1) (h1.2.2 C h2.1 h2.2.1)
-- ===== the class
/-- its rows: numbers, louds, dues; the best so far -/
def QS (D A : Nat → Nat) (N tg B : Nat) (I : MI) (L : ML) : Prop := I 11 2 = nI N ∧ I 11 3 = nI tg ∧ I 11 4 = nI B ∧ L 11 5 = nL (sS D B N) ∧ (∀ n, n < N → I 12 n = nI (A n)) ∧ ∀ n, n < N → L 13 n = nL (D n)
theorem c_cmp {a b : Nat} {I : MI} {L : ML} (ha : a ≤ 63) (hb : b ≤ 63) : f_J6_compare_7cf53 (nI a) (nI b) I L = some (if b ≤ a then (if a = b then 0 else 1) else -1) := by
  unfold f_J6_compare_7cf53 f_J6_compare_7cf53_19
  by_cases h1 : b ≤ a
  · rw [if_pos ((zI_le (by omega) (by omega)).mpr h1), if_pos h1]
    by_cases h2 : a = b
    · rw [if_pos ((zI_eq (by omega) (by omega)).mpr h2), if_pos h2]
    · rw [if_neg (fun h => h2 ((zI_eq (by omega) (by omega)).mp h)), if_neg h2]
  · rw [if_neg (fun h => h1 ((zI_le (by omega) (by omega)).mp h)), if_neg h1]
theorem c_better {D A : Nat → Nat} {N tg B S : Nat} {I : MI} {L : ML} (hQ : QS D A N tg B I L) (hN : N ≤ 12) (hD : ∀ n, n < N → D n ≤ 124740000) (hB : B < 2 ^ N) (hS : S < 2 ^ N) : ∃ b, f_X7_isBetter (nI S) (nL (sS D S N)) I L = some b ∧ (b = true ↔ btr D N S B) := by
  obtain ⟨q1, q2, q3, q4, -⟩ := hQ
  have h4096 := p_le hN
  have s1 := sS_le (S := S) hD N (Nat.le_refl _)
  have s2 := sS_le (S := B) hD N (Nat.le_refl _)
  have c1 := bc_le (nI S)
  have c2 := bc_le (nI B)
  unfold f_X7_isBetter f_X7_isBetter_58 f_X7_isBetter_62 f_X7_isBetter_63 f_X7_isBetter_23
  rw [q3, q4, bc_e, Option.bind_some, bc_e, Option.bind_some, c_cmp c1 c2, Option.bind_some]
  by_cases g1 : sS D S N = sS D B N
  · rw [if_pos ((zL_eq (by omega) (by omega)).mpr g1)]
    by_cases g2 : bcN (nI B) ≤ bcN (nI S)
    · rw [if_pos g2]
      by_cases g3 : bcN (nI S) = bcN (nI B)
      · rw [if_pos g3, if_neg (by decide), if_pos rfl]
        by_cases g4 : B ≤ S
        · rw [if_pos ((zI_le (by omega) (by omega)).mpr g4)]
          exact ⟨false, rfl, fun h => absurd h Bool.false_ne_true, fun h => by unfold btr at h; omega⟩
        · rw [if_neg (fun h => g4 ((zI_le (by omega) (by omega)).mp h))]
          exact ⟨true, rfl, fun _ => by unfold btr; omega, fun _ => rfl⟩
      · rw [if_neg g3, if_neg (by decide), if_neg (by decide)]
        exact ⟨false, rfl, fun h => absurd h Bool.false_ne_true, fun h => by unfold btr at h; omega⟩
    · rw [if_neg g2, if_pos (by decide)]
      exact ⟨true, rfl, fun _ => by unfold btr; omega, fun _ => rfl⟩
  · rw [if_neg (fun h => g1 ((zL_eq (by omega) (by omega)).mp h))]
    by_cases g2 : sS D B N ≤ sS D S N
    · rw [if_pos ((zL_le (by omega) (by omega)).mpr g2)]
      exact ⟨false, rfl, fun h => absurd h Bool.false_ne_true, fun h => by unfold btr at h; omega⟩
    · rw [if_neg (fun h => g2 ((zL_le (by omega) (by omega)).mp h))]
      exact ⟨true, rfl, fun _ => by unfold btr; omega, fun _ => rfl⟩
theorem c_choose {D A : Nat → Nat} {N tg : Nat} (hN : N ≤ 12) (hD : ∀ n, n < N → D n ≤ 124740000) (hA : ∀ n, n < N → A n ≤ 99) (htg : tg ≤ 999) :
    ∀ (m n fuel S B : Nat) (I : MI) (L : ML), n + m = N → m < fuel → S < 2 ^ n → QS D A N tg B I L → B < 2 ^ N → lS A B N ≤ tg →
    Tt (f_X7_choose fuel (nI n) (nI S) (nL (sS D S n)) (nI (lS A S n)) I L) (fun t => (∀ q, q ≠ 11 → t.1 q = I q) ∧ (∀ q, q ≠ 11 → t.2 q = L q) ∧ ∃ C, QS D A N tg C t.1 t.2 ∧ C < 2 ^ N ∧ lS A C N ≤ tg ∧ ¬ btr D N B C ∧ ∀ T, T < 2 ^ N → (∀ i, i < n → T.testBit i = S.testBit i) → lS A T N ≤ tg → ¬ btr D N T C) := by
  intro m
  induction m with
  | zero =>
    intro n fuel S B I L hn hf hS hQ hB hBl
    obtain ⟨f, rfl⟩ : ∃ f, fuel = f + 1 := ⟨fuel - 1, by omega⟩
    have en : n = N := by omega
    subst en
    obtain ⟨q1, q2, q3, q4, q5, q6⟩ := id hQ
    have h4096 := p_le hN
    have s1 := sS_le (S := S) hD n (Nat.le_refl _)
    have s2 := sS_le (S := B) hD n (Nat.le_refl _)
    have s3 := lS_le (S := S) hA n (Nat.le_refl _)
    have only : ∀ T, T < 2 ^ n → (∀ i, i < n → T.testBit i = S.testBit i) → T = S := by
      intro T hT h
      apply Nat.eq_of_testBit_eq
      intro i
      by_cases hi : i < n
      · exact h i hi
      · have : 2 ^ n ≤ 2 ^ i := Nat.pow_le_pow_right (by decide) (by omega)
        rw [Nat.testBit_lt_two_pow (by omega), Nat.testBit_lt_two_pow (by omega)]
    show Tt (F_X7_choose (f_X7_choose f) (nI n) (nI S) (nL (sS D S n)) (nI (lS A S n)) I L) _
    unfold F_X7_choose f_X7_choose_18 f_X7_choose_46
    rw [q1, q2, q4]
    by_cases g1 : tg < lS A S n
    · rw [if_pos ((zI_lt (by omega) (by omega)).mpr g1)]
      exact Tt_some ⟨fun _ _ => rfl, fun _ _ => rfl, B, hQ, hB, hBl, by unfold btr; omega, fun T hT hi hl => by rw [only T hT hi] at hl; omega⟩
    · rw [if_neg (fun h => g1 ((zI_lt (by omega) (by omega)).mp h))]
      by_cases g2 : sS D S n ≤ sS D B n
      · rw [if_pos ((zL_le (by omega) (by omega)).mpr g2), if_neg (show ¬ nI n < nI n by rw [zI_lt (by omega) (by omega)]; omega)]
        obtain ⟨b, b1, b2⟩ := c_better hQ hN hD hB hS
        rw [b1, Option.bind_some]
        by_cases g3 : b = true
        · rw [if_pos g3, pfe, Option.bind_some, pfle, Option.bind_some]
          have hbt := b2.mp g3
          refine Tt_some ⟨fun q hq => zu_n _ _ _ hq, fun q hq => zl_n _ _ _ hq, S, ⟨?_, ?_, ?_, ?_, ?_, ?_⟩, hS, by omega, btr_as hbt, fun T hT hi _ => by rw [only T hT hi]; unfold btr; omega⟩
          · show up2 I 11 4 (nI S) 11 2 = _; rw [zu_s, if_neg (by decide)]; exact q1
          · show up2 I 11 4 (nI S) 11 3 = _; rw [zu_s, if_neg (by decide)]; exact q2
          · show up2 I 11 4 (nI S) 11 4 = _; rw [zu_s, if_pos rfl]
          · show upl L 11 5 (nL (sS D S n)) 11 5 = _; rw [zl_s, if_pos rfl]
          · intro j hj; show up2 I 11 4 (nI S) 12 j = _; rw [zu_n _ _ _ (by decide)]; exact q5 j hj
          · intro j hj; show upl L 11 5 (nL (sS D S n)) 13 j = _; rw [zl_n _ _ _ (by decide)]; exact q6 j hj
        · rw [if_neg g3]
          exact Tt_some ⟨fun _ _ => rfl, fun _ _ => rfl, B, hQ, hB, hBl, by unfold btr; omega, fun T hT hi _ => by rw [only T hT hi]; exact fun h => g3 (b2.mpr h)⟩
      · rw [if_neg (fun h => g2 ((zL_le (by omega) (by omega)).mp h))]
        exact Tt_some ⟨fun _ _ => rfl, fun _ _ => rfl, B, hQ, hB, hBl, by unfold btr; omega, fun T hT hi _ => by rw [only T hT hi]; unfold btr; omega⟩
  | succ m ih =>
    intro n fuel S B I L hn hf hS hQ hB hBl
    obtain ⟨f, rfl⟩ : ∃ f, fuel = f + 1 := ⟨fuel - 1, by omega⟩
    obtain ⟨q1, q2, q3, q4, q5, q6⟩ := id hQ
    have hnN : n < N := by omega
    have s1 := sS_le (S := S) hD n (by omega)
    have s2 := sS_le (S := B) hD N (Nat.le_refl _)
    have s3 := lS_le (S := S) hA n (by omega)
    have hAn := hA n hnN
    have hDn := hD n hnN
    have Sn : S.testBit n = false := Nat.testBit_lt_two_pow hS
    have ext : ∀ T, (∀ i, i < n → T.testBit i = S.testBit i) → sS D S n ≤ sS D T N ∧ lS A S n ≤ lS A T N := by
      intro T h
      have h1 := sS_mono (D := D) (S := T) (k := n) (N - n)
      have h2 := lS_mono (A := A) (S := T) (k := n) (N - n)
      rw [show n + (N - n) = N by omega] at h1 h2
      rw [sS_cg n h] at h1
      rw [lS_cg n h] at h2
      exact ⟨h1, h2⟩
    show Tt (F_X7_choose (f_X7_choose f) (nI n) (nI S) (nL (sS D S n)) (nI (lS A S n)) I L) _
    unfold F_X7_choose f_X7_choose_18
    rw [q1, q2, q4]
    by_cases g1 : tg < lS A S n
    · rw [if_pos ((zI_lt (by omega) (by omega)).mpr g1)]
      exact Tt_some ⟨fun _ _ => rfl, fun _ _ => rfl, B, hQ, hB, hBl, by unfold btr; omega, fun T _ hi hl => by have := (ext T hi).2; omega⟩
    · rw [if_neg (fun h => g1 ((zI_lt (by omega) (by omega)).mp h))]
      by_cases g2 : sS D S n ≤ sS D B N
      · rw [if_pos ((zL_le (by omega) (by omega)).mpr g2), if_pos ((zI_lt (by omega) (by omega)).mpr hnN), ldI_n (show n < 12 by omega) (by decide), Option.bind_some, q5 n hnN, zI_add, zI_1 n]
        have e1 : sS D S (n + 1) = sS D S n := by show sS D S n + (if S.testBit n = true then D n else 0) = _; rw [Sn, if_neg (by decide), Nat.add_zero]
        have e2 : lS A S (n + 1) = lS A S n + A n := by show lS A S n + (if S.testBit n = true then 0 else A n) = _; rw [Sn, if_neg (by decide)]
        have r1 := ih (n + 1) f S B I L (by omega) (by omega) (Nat.lt_of_lt_of_le hS (Nat.pow_le_pow_right (by decide) (by omega))) hQ hB hBl
        rw [e1, e2] at r1
        refine Tt_bind (Tt_mono r1 ?_)
        intro t ⟨t1, t2, C, cQ, cB, cl, cb, cT⟩
        have hS2 : 2 ^ n + S < 2 ^ (n + 1) := by rw [Nat.pow_succ]; omega
        have bt2 : ∀ i, i < n → (2 ^ n + S).testBit i = S.testBit i := fun i hi => Nat.testBit_two_pow_add_gt hi S
        have bn2 : (2 ^ n + S).testBit n = true := by rw [Nat.testBit_two_pow_add_eq, Sn]; rfl
        have e3 : sS D (2 ^ n + S) (n + 1) = sS D S n + D n := by show sS D (2 ^ n + S) n + (if (2 ^ n + S).testBit n = true then D n else 0) = _; rw [bn2, if_pos rfl, sS_cg n bt2]
        have e4 : lS A (2 ^ n + S) (n + 1) = lS A S n := by show lS A (2 ^ n + S) n + (if (2 ^ n + S).testBit n = true then 0 else A n) = _; rw [bn2, if_pos rfl, lS_cg n bt2, Nat.add_zero]
        have r2 := ih (n + 1) f (2 ^ n + S) C t.1 t.2 (by omega) (by omega) hS2 cQ cB cl
        rw [e3, e4] at r2
        rw [ldL_n (show n < 12 by omega) (by decide), Option.bind_some, cQ.2.2.2.2.2 n hnN, zL_add, or_p (by omega) hS]
        refine Tt_bind (Tt_mono r2 ?_)
        intro u ⟨u1, u2, E, eQ, eB, el, eb, eT⟩
        refine Tt_some ⟨fun q hq => (u1 q hq).trans (t1 q hq), fun q hq => (u2 q hq).trans (t2 q hq), E, eQ, eB, el, btr_tr cb eb, fun T hT hi hl => ?_⟩
        cases hb : T.testBit n
        · refine btr_tr (cT T hT (fun i hi9 => ?_) hl) eb
          by_cases h9 : i = n
          · rw [h9, hb, Sn]
          · exact hi i (by omega)
        · refine eT T hT (fun i hi9 => ?_) hl
          by_cases h9 : i = n
          · rw [h9, hb, bn2]
          · rw [hi i (by omega), bt2 i (by omega)]
      · rw [if_neg (fun h => g2 ((zL_le (by omega) (by omega)).mp h))]
        exact Tt_some ⟨fun _ _ => rfl, fun _ _ => rfl, B, hQ, hB, hBl, by unfold btr; omega, fun T _ hi _ => by have := (ext T hi).1; unfold btr; omega⟩
theorem full_s {D : Nat → Nat} {N : Nat} : ∀ k, k ≤ N → sS D (2 ^ N - 1) k = sm D k := by
  intro k
  induction k with
  | zero => intro _; rfl
  | succ k ih =>
    intro hk
    show sS D (2 ^ N - 1) k + (if (2 ^ N - 1).testBit k = true then D k else 0) = sm D k + D k
    rw [ih (by omega), Nat.testBit_two_pow_sub_one, decide_eq_true (by omega), if_pos rfl]
theorem full_l {A : Nat → Nat} {N : Nat} : ∀ k, k ≤ N → lS A (2 ^ N - 1) k = 0 := by
  intro k
  induction k with
  | zero => intro _; rfl
  | succ k ih =>
    intro hk
    show lS A (2 ^ N - 1) k + (if (2 ^ N - 1).testBit k = true then 0 else A k) = 0
    rw [ih (by omega), Nat.testBit_two_pow_sub_one, decide_eq_true (by omega), if_pos rfl]
theorem c_find {h d0 c : Nat} {I : MI} {L : ML} {w : Nat → Int32} (hd : HD h d0) (hw : WF c w) (cr : CR h I L w) {r tg t : Nat} (hr : r < nw w 0) (htg : tg ≤ 999) (ht : t ≤ 200) : Tt (f_X7_find h (nI r) (nI tg) (nI t) I L) (fun u => (∃ B, u.1 = nI B ∧ isM (fun n => dueN w n t) (fun n => atN w n r) (nw w 3) tg B) ∧ (∀ j, ¬ scr h d0 j → u.2.1 j = I j) ∧ ∀ j, ¬ scr h d0 j → u.2.2 j = L j) := by
  obtain ⟨b1, b2, b3, b4, b5⟩ := HD_b hd
  have h12 := hw.2.2.1.1.2
  have e3 := C_z3 hw cr
  have hD : ∀ n, n < nw w 3 → (fun n => dueN w n t) n ≤ 124740000 := fun n hn => due_le hw hn ht
  have hA : ∀ n, n < nw w 3 → (fun n => atN w n r) n ≤ 99 := fun n hn => at_le hw.2.2.1 hn
  have hp := Nat.two_pow_pos (nw w 3)
  have h4096 := p_le h12
  unfold f_X7_find
  rw [pfe, Option.bind_some, e3, pfe, Option.bind_some, pfe, Option.bind_some, pfle, Option.bind_some]
  have e2 : up2 (up2 I 11 2 (nI (nw w 3))) 11 3 (nI tg) 11 2 = nI (nw w 3) := by rw [zu_s, if_neg (by decide), zu_s, if_pos rfl]
  rw [e2, sh_p _ (by omega), show nI (2 ^ nw w 3) - 1 = nI (2 ^ nw w 3 - 1) from zI_sub (b := 1) hp]
  have J0 : ∀ q, q ≠ 11 → up2 (up2 (up2 I 11 2 (nI (nw w 3))) 11 3 (nI tg)) 11 4 (nI (2 ^ nw w 3 - 1)) q = I q := fun q hq => by rw [zu_n _ _ _ hq, zu_n _ _ _ hq, zu_n _ _ _ hq]
  have J2 : up2 (up2 (up2 I 11 2 (nI (nw w 3))) 11 3 (nI tg)) 11 4 (nI (2 ^ nw w 3 - 1)) 11 2 = nI (nw w 3) := by rw [zu_s, if_neg (by decide)]; exact e2
  have J3 : up2 (up2 (up2 I 11 2 (nI (nw w 3))) 11 3 (nI tg)) 11 4 (nI (2 ^ nw w 3 - 1)) 11 3 = nI tg := by rw [zu_s, if_neg (by decide), zu_s, if_pos rfl]
  have J4 : up2 (up2 (up2 I 11 2 (nI (nw w 3))) 11 3 (nI tg)) 11 4 (nI (2 ^ nw w 3 - 1)) 11 4 = nI (2 ^ nw w 3 - 1) := by rw [zu_s, if_pos rfl]
  generalize up2 (up2 (up2 I 11 2 (nI (nw w 3))) 11 3 (nI tg)) 11 4 (nI (2 ^ nw w 3 - 1)) = J at J0 J2 J3 J4 ⊢
  refine lp0 (fun fuel k (s : MI × ML) => f_X7_find_33 fuel h (nI r) (nI t) (nI k) s.1 s.2) (nw w 3) (fun k s => (∀ q, q ≠ 12 → s.1 q = J q) ∧ (∀ q, q ≠ 11 → q ≠ 13 → s.2 q = L q) ∧ s.2 11 5 = nL (sm (fun n => dueN w n t) k) ∧ (∀ n, n < k → s.1 12 n = nI (atN w n r)) ∧ ∀ n, n < k → s.2 13 n = nL (dueN w n t)) (by omega) ?_ ?_ (s := (J, upl L 11 5 0)) ⟨fun _ _ => rfl, fun q h1 _ => zl_n _ _ _ h1, by show upl L 11 5 0 11 5 = _; rw [zl_s, if_pos rfl]; rfl, fun n hn => absurd hn (Nat.not_lt_zero _), fun n hn => absurd hn (Nat.not_lt_zero _)⟩
  · intro fuel k s hk ⟨s1, s2, s3, s4, s5⟩ hnx
    obtain ⟨K, M⟩ := s
    dsimp only at s1 s2 s3 s4 s5
    have crK : ∀ K' : MI, (∀ q, q ≠ 12 → K' q = J q) → CR h K' M w := fun K' hK => CR_cg (fun k h1 h2 => by rw [hK _ (by omega), J0 _ (by omega)]) (s2 _ (by omega) (by omega)) cr
    have k2 : K 11 2 = nI (nw w 3) := by rw [s1 11 (by decide)]; exact J2
    have hK2 : ∀ q, q ≠ 12 → up2 K 12 k (nI (atN w k r)) q = J q := fun q hq => by rw [zu_n _ _ _ hq]; exact s1 q hq
    show Tt (f_X7_find_33 (fuel + 1) h (nI r) (nI t) (nI k) K M) _
    unfold f_X7_find_33
    rw [k2, if_neg (le_n (by omega) (by omega) hk), ldR_n (show k < 12 by omega) (by decide), Option.bind_some, c_at hw (crK K s1) hk hr, Option.bind_some, stI_n (show k < 12 by omega) (by decide), Option.bind_some, Option.bind_some, c_due hw (crK _ hK2) hk ht, Option.bind_some, stL_n (show k < 12 by omega) (by decide), Option.bind_some, ldL_n (show k < 12 by omega) (by decide), Option.bind_some, zl_s, if_pos rfl, zl_n _ _ _ (show 11 ≠ 13 by decide), s3, zL_add, pfle, Option.bind_some, zI_1 k]
    refine hnx (up2 K 12 k (nI (atN w k r)), upl (upl M 13 k (nL (dueN w k t))) 11 5 (nL (sm (fun n => dueN w n t) k + dueN w k t))) ⟨hK2, fun q h1 h2 => ?_, ?_, fun n hn => ?_, fun n hn => ?_⟩
    · show upl (upl M 13 k (nL (dueN w k t))) 11 5 (nL (sm (fun n => dueN w n t) k + dueN w k t)) q = _; rw [zl_n _ _ _ h1, zl_n _ _ _ h2]; exact s2 q h1 h2
    · show upl (upl M 13 k (nL (dueN w k t))) 11 5 (nL (sm (fun n => dueN w n t) k + dueN w k t)) 11 5 = _; rw [zl_s, if_pos rfl]; rfl
    · show up2 K 12 k _ 12 n = _
      rw [zu_s]
      by_cases h9 : n = k
      · rw [if_pos h9, h9]
      · rw [if_neg h9]; exact s4 n (by omega)
    · show upl (upl M 13 k (nL (dueN w k t))) 11 5 (nL (sm (fun n => dueN w n t) k + dueN w k t)) 13 n = _
      rw [zl_n _ _ _ (by decide), zl_s]
      by_cases h9 : n = k
      · rw [if_pos h9, h9]
      · rw [if_neg h9]; exact s5 n (by omega)
  · intro fuel s ⟨s1, s2, s3, s4, s5⟩
    obtain ⟨K, M⟩ := s
    dsimp only at s1 s2 s3 s4 s5
    have k2 : K 11 2 = nI (nw w 3) := by rw [s1 11 (by decide)]; exact J2
    have hQ : QS (fun n => dueN w n t) (fun n => atN w n r) (nw w 3) tg (2 ^ nw w 3 - 1) K M := ⟨k2, by rw [s1 11 (by decide)]; exact J3, by rw [s1 11 (by decide)]; exact J4, by rw [s3, full_s _ (Nat.le_refl _)], s4, s5⟩
    show Tt (f_X7_find_33 (fuel + 1) h (nI r) (nI t) (nI (nw w 3)) K M) _
    unfold f_X7_find_33
    rw [k2, if_pos (Int32.le_refl _)]
    refine Tt_bind (Tt_mono (c_choose h12 hD hA htg (nw w 3) 0 40 0 (2 ^ nw w 3 - 1) K M (by omega) (by omega) (by decide) hQ (by omega) (by rw [full_l _ (Nat.le_refl _)]; exact Nat.zero_le _)) ?_)
    intro u ⟨u1, u2, C, cQ, cB, cl, _, cT⟩
    refine Tt_some ⟨⟨C, cQ.2.2.1, cB, cl, fun T hT hl => cT T hT (fun i hi => absurd hi (Nat.not_lt_zero _)) hl⟩, fun j hj => ?_, fun j hj => ?_⟩
    · have n11 : j ≠ 11 := fun h9 => hj (by unfold scr; omega)
      have n12 : j ≠ 12 := fun h9 => hj (by unfold scr; omega)
      show u.1 j = I j
      rw [u1 j n11, s1 j n12]; exact J0 j n11
    · have n11 : j ≠ 11 := fun h9 => hj (by unfold scr; omega)
      have n13 : j ≠ 13 := fun h9 => hj (by unfold scr; omega)
      show u.2 j = L j
      rw [u2 j n11]; exact s2 j n11 n13
-- ===== the reference
def oB : Option Nat → Int32
  | none => -1
  | some b => nI b
def oS (D : Nat → Nat) (N : Nat) : Option Nat → Int64
  | none => 0
  | some b => nL (sS D b N)
def qM (D A : Nat → Nat) (N tg k : Nat) : Option Nat → Prop
  | none => ∀ T, T < k → ¬ lS A T N ≤ tg
  | some b => b < k ∧ lS A b N ≤ tg ∧ ∀ T, T < k → lS A T N ≤ tg → ¬ btr D N T b
theorem r_84 {c : Nat} {I : MI} {L : ML} {w : Nat → Int32} (hw : WF c w) (hI : RW I w) {r t S : Nat} (hr : r < 10) (ht : t ≤ 200) {x2 x4 : Int32} {x5 : Int64} {k64 : Int32 → Int32 → Int32 → Int32 → Int64 → Int32 → MI → ML → Option (Int32 × MI × ML)} {R : Int32 × MI × ML → Prop}
    (hk : Tt (if x2 < nI (lS (fun n => atN w n r) S (nw w 3)) then k64 (nI r) x2 (nI t) x4 x5 (nI (S + 1)) I L else (if x4 < 0 then k64 (nI r) x2 (nI t) (nI S) (nL (sS (fun n => dueN w n t) S (nw w 3))) (nI (S + 1)) I L else (if x5 < nL (sS (fun n => dueN w n t) S (nw w 3)) then k64 (nI r) x2 (nI t) x4 x5 (nI (S + 1)) I L else (if nL (sS (fun n => dueN w n t) S (nw w 3)) = x5 then (if nI (bcN (nI S)) < nI (bcN x4) then k64 (nI r) x2 (nI t) (nI S) (nL (sS (fun n => dueN w n t) S (nw w 3))) (nI (S + 1)) I L else k64 (nI r) x2 (nI t) x4 x5 (nI (S + 1)) I L) else k64 (nI r) x2 (nI t) (nI S) (nL (sS (fun n => dueN w n t) S (nw w 3))) (nI (S + 1)) I L)))) R) : Tt (f_X12_quiet_84 k64 FU (nI r) x2 (nI t) x4 x5 (nI S) 0 0 0 I L) R := by
  have h12 := hw.2.2.1.1.2
  refine lp0 (fun fuel k (_ : Unit) => f_X12_quiet_84 k64 fuel (nI r) x2 (nI t) x4 x5 (nI S) (nL (sS (fun n => dueN w n t) S k)) (nI (lS (fun n => atN w n r) S k)) (nI k) I L) (nw w 3) (fun _ _ => True) (by omega) ?_ ?_ (s := ()) trivial
  · intro fuel k _ hk3 _ hnx
    have nx := hnx () trivial
    show Tt (f_X12_quiet_84 k64 (fuel + 1) (nI r) x2 (nI t) x4 x5 (nI S) (nL (sS (fun n => dueN w n t) S k)) (nI (lS (fun n => atN w n r) S k)) (nI k) I L) _
    have e1 : sS (fun n => dueN w n t) S (k + 1) = sS (fun n => dueN w n t) S k + (if S.testBit k = true then dueN w k t else 0) := rfl
    have e2 : lS (fun n => atN w n r) S (k + 1) = lS (fun n => atN w n r) S k + (if S.testBit k = true then 0 else atN w k r) := rfl
    unfold f_X12_quiet_84 f_X12_quiet_116 f_X12_quiet_142
    rw [r_n3 hw hI.1, Option.bind_some, if_neg (le_n (by omega) (by omega) hk3), r_has (by omega), Option.bind_some, bt_nI (by omega), r_due hw hI hk3 ht, Option.bind_some, Option.bind_some, Option.bind_some, r_at hw hI hk3 hr, Option.bind_some, Option.bind_some, zI_1 k]
    cases hb : S.testBit k
    · rw [hb, if_neg (by decide)] at e1 e2
      rw [e1, e2] at nx
      rw [if_neg (by decide), if_neg (by decide), zI_add, zL_0, zL_add]
      exact nx
    · rw [hb, if_pos rfl] at e1 e2
      rw [e1, e2] at nx
      rw [if_pos rfl, if_pos rfl, zL_add, zI_0, zI_add]
      exact nx
  · intro fuel _ _
    show Tt (f_X12_quiet_84 k64 (fuel + 1) (nI r) x2 (nI t) x4 x5 (nI S) (nL (sS (fun n => dueN w n t) S (nw w 3))) (nI (lS (fun n => atN w n r) S (nw w 3))) (nI (nw w 3)) I L) _
    unfold f_X12_quiet_84 f_X12_quiet_194 f_X12_quiet_202
    rw [r_n3 hw hI.1, Option.bind_some, if_pos (Int32.le_refl _), bc_e, Option.bind_some, bc_e, Option.bind_some, zI_1 S]
    exact hk
theorem r_quiet {c : Nat} {I : MI} {L : ML} {w : Nat → Int32} (hw : WF c w) (hI : RW I w) {r tg t : Nat} (hr : r < 10) (htg : tg ≤ 999) (ht : t ≤ 200) : ∃ B, f_X12_quiet_64 FU (nI r) (nI tg) (nI t) (-1) 0 0 I L = some (nI B, I, L) ∧ isM (fun n => dueN w n t) (fun n => atN w n r) (nw w 3) tg B := by
  have h12 := hw.2.2.1.1.2
  have h4096 := p_le h12
  have hp := Nat.two_pow_pos (nw w 3)
  have hD : ∀ n, n < nw w 3 → (fun n => dueN w n t) n ≤ 124740000 := fun n hn => due_le hw hn ht
  have hA : ∀ n, n < nw w 3 → (fun n => atN w n r) n ≤ 99 := fun n hn => at_le hw.2.2.1 hn
  have key : Tt (f_X12_quiet_64 FU (nI r) (nI tg) (nI t) (-1) 0 0 I L) (fun u => ∃ B, u = (nI B, I, L) ∧ isM (fun n => dueN w n t) (fun n => atN w n r) (nw w 3) tg B) := by
    refine lp0 (fun fuel k (o : Option Nat) => f_X12_quiet_64 fuel (nI r) (nI tg) (nI t) (oB o) (oS (fun n => dueN w n t) (nw w 3) o) (nI k) I L) (2 ^ nw w 3) (fun k o => qM (fun n => dueN w n t) (fun n => atN w n r) (nw w 3) tg k o) (by omega) ?_ ?_ (s := none) (fun T hT => absurd hT (Nat.not_lt_zero _))
    · intro fuel k o hk ho hnx
      have s1 := sS_le (S := k) hD (nw w 3) (Nat.le_refl _)
      have l1 := lS_le (S := k) hA (nw w 3) (Nat.le_refl _)
      show Tt (f_X12_quiet_64 (fuel + 1) (nI r) (nI tg) (nI t) (oB o) (oS (fun n => dueN w n t) (nw w 3) o) (nI k) I L) _
      unfold f_X12_quiet_64
      rw [r_n3 hw hI.1, Option.bind_some, sh_p _ (by omega), if_neg (le_n (by omega) (by omega) hk)]
      refine r_84 hw hI hr ht ?_
      have skip : qM (fun n => dueN w n t) (fun n => atN w n r) (nw w 3) tg (k + 1) o → Tt (f_X12_quiet_64 fuel (nI r) (nI tg) (nI t) (oB o) (oS (fun n => dueN w n t) (nw w 3) o) (nI (k + 1)) I L) (fun u => ∃ B, u = (nI B, I, L) ∧ isM (fun n => dueN w n t) (fun n => atN w n r) (nw w 3) tg B) := fun h => hnx o h
      have take : qM (fun n => dueN w n t) (fun n => atN w n r) (nw w 3) tg (k + 1) (some k) → Tt (f_X12_quiet_64 fuel (nI r) (nI tg) (nI t) (nI k) (nL (sS (fun n => dueN w n t) k (nw w 3))) (nI (k + 1)) I L) (fun u => ∃ B, u = (nI B, I, L) ∧ isM (fun n => dueN w n t) (fun n => atN w n r) (nw w 3) tg B) := fun h => hnx (some k) h
      by_cases g1 : tg < lS (fun n => atN w n r) k (nw w 3)
      · rw [if_pos ((zI_lt (by omega) (by omega)).mpr g1)]
        refine skip ?_
        cases o with
        | none =>
          intro T hT
          by_cases h9 : T = k
          · rw [h9]; omega
          · exact ho T (by omega)
        | some b =>
          refine ⟨by have := ho.1; omega, ho.2.1, fun T hT hl => ?_⟩
          by_cases h9 : T = k
          · rw [h9] at hl; omega
          · exact ho.2.2 T (by omega) hl
      · rw [if_neg (fun h => g1 ((zI_lt (by omega) (by omega)).mp h))]
        cases o with
        | none =>
          rw [if_pos (show oB none < 0 by decide)]
          refine take ⟨Nat.lt_succ_self _, by omega, fun T hT hl => ?_⟩
          by_cases h9 : T = k
          · rw [h9]; unfold btr; omega
          · exact absurd hl (ho T (by omega))
        | some b =>
          obtain ⟨o1, o2, o3⟩ := ho
          have s2 := sS_le (S := b) hD (nw w 3) (Nat.le_refl _)
          have c1 := bc_le (nI k)
          have c2 := bc_le (nI b)
          have stay : ¬ btr (fun n => dueN w n t) (nw w 3) k b → qM (fun n => dueN w n t) (fun n => atN w n r) (nw w 3) tg (k + 1) (some b) := fun h => ⟨by omega, o2, fun T hT hl => by
            by_cases h9 : T = k
            · rw [h9]; exact h
            · exact o3 T (by omega) hl⟩
          have got : btr (fun n => dueN w n t) (nw w 3) k b → qM (fun n => dueN w n t) (fun n => atN w n r) (nw w 3) tg (k + 1) (some k) := fun h => ⟨Nat.lt_succ_self _, by omega, fun T hT hl => by
            by_cases h9 : T = k
            · rw [h9]; unfold btr; omega
            · exact btr_tr (o3 T (by omega) hl) (btr_as h)⟩
          rw [if_neg (show ¬ oB (some b) < 0 from zI_nn (by omega))]
          show Tt (if nL (sS (fun n => dueN w n t) b (nw w 3)) < nL (sS (fun n => dueN w n t) k (nw w 3)) then _ else (if nL (sS (fun n => dueN w n t) k (nw w 3)) = nL (sS (fun n => dueN w n t) b (nw w 3)) then (if nI (bcN (nI k)) < nI (bcN (nI b)) then _ else _) else _)) _
          by_cases g2 : sS (fun n => dueN w n t) b (nw w 3) < sS (fun n => dueN w n t) k (nw w 3)
          · rw [if_pos ((zL_lt (by omega) (by omega)).mpr g2)]
            exact skip (stay (by unfold btr; omega))
          · rw [if_neg (fun h => g2 ((zL_lt (by omega) (by omega)).mp h))]
            by_cases g3 : sS (fun n => dueN w n t) k (nw w 3) = sS (fun n => dueN w n t) b (nw w 3)
            · rw [if_pos (by rw [g3])]
              by_cases g4 : bcN (nI k) < bcN (nI b)
              · rw [if_pos ((zI_lt (by omega) (by omega)).mpr g4)]
                exact take (got (by unfold btr; omega))
              · rw [if_neg (fun h => g4 ((zI_lt (by omega) (by omega)).mp h))]
                exact skip (stay (by unfold btr; omega))
            · rw [if_neg (fun h => g3 ((zL_eq (by omega) (by omega)).mp h))]
              exact take (got (by unfold btr; omega))
    · intro fuel o ho
      show Tt (f_X12_quiet_64 (fuel + 1) (nI r) (nI tg) (nI t) (oB o) (oS (fun n => dueN w n t) (nw w 3) o) (nI (2 ^ nw w 3)) I L) _
      unfold f_X12_quiet_64
      rw [r_n3 hw hI.1, Option.bind_some, sh_p _ (by omega), if_pos (Int32.le_refl _)]
      cases o with
      | none =>
        have h9 : ¬ lS (fun n => atN w n r) (2 ^ nw w 3 - 1) (nw w 3) ≤ tg := ho (2 ^ nw w 3 - 1) (by omega)
        rw [full_l _ (Nat.le_refl _)] at h9
        exact absurd (Nat.zero_le _) h9
      | some b => exact Tt_some ⟨b, rfl, ho⟩
  obtain ⟨u, u1, B, u2, u3⟩ := key
  exact ⟨B, by rw [u1, u2], u3⟩
theorem C_quiet {c : Nat} {I : MI} {L : ML} {A : AS} (hA : AI c A) (hC : CI9 I L A) (hR : RI9 I L A) (x y z : Int32) : ∃ I' L', SI [IOB, IAE] (f_X11_quiet x y z I L) (f_X12_quiet x y z) I' L' ∧ CI9 I' L' A ∧ RI9 I' L' A := by
  obtain ⟨h, d, hd, cj⟩ := id hC
  obtain ⟨e, cr, e0, e2, e3⟩ := C_n hA cj
  have h10 := AI_r hA
  by_cases hx : ∃ k, k < nw A.1 0 ∧ x = nI k
  · obtain ⟨r, hr, rfl⟩ := hx
    by_cases hy : ¬ y < 0 ∧ ¬ 999 < y
    · by_cases hz : ¬ z < 1 ∧ ¬ 200 < z
      · obtain ⟨tg, -, htg, rfl⟩ := rng_t (a := 0) (b := 999) (by decide) (by decide) hy
        obtain ⟨t, -, ht, rfl⟩ := rng_t (a := 1) (b := 200) (by decide) (by decide) hz
        obtain ⟨u, u1, ⟨B, u2, u3⟩, u4, u5⟩ := c_find (d0 := d) hd hA.1 cr hr htg ht
        refine mkSI (res := .inr (nI B)) hR ?_ ?_
        · simp -implicitDefEqProofs only [f_X11_quiet, f_X11_quiet_28, c_needRoom_t hd e e0 h10 hr, ite2_t hy, c_days_t hz, c_need_t, Option.bind_some, xc_r, if_true, hs_h hd e, u1, u2]
          exact Tt_some (CpS hd cj u4 u5)
        · intro I' L' hR'
          simp -implicitDefEqProofs only [f_X12_quiet, f_X12_quiet_42, pf0, Option.bind_some, r_noRoom_t (R_0 hA hR') h10 hr, r_thr_f, bft, if_false, r_in, decide_eq_true hy, if_true, r_days_t hz]
          refine Tt_bind (Tt_mono (r_sp hA.1 (R_w hR')) ?_)
          intro s ⟨s1, s2, s3⟩
          obtain ⟨C, c1, c2⟩ := r_quiet (L := L') hA.1 s3 (show r < 10 by omega) htg ht
          rw [s1, c1, isM_eq c2 u3]
          exact Tt_some (Rp_q hR' (scR_156 s2))
      · refine mkSI (res := .inl 2) hR ?_ ?_
        · simp -implicitDefEqProofs only [f_X11_quiet, f_X11_quiet_27, f_X11_quiet_28, c_needRoom_t hd e e0 h10 hr, ite2_t hy, c_days_f hz, c_need_f, Option.bind_some, xc_r, xc_l, bft, if_false]
          exact Tt_some (Cp_t hC (wk_2 (by decide)))
        · intro I' L' hR'
          simp -implicitDefEqProofs only [f_X12_quiet, f_X12_quiet_37, f_X12_quiet_42, f_X12_quiet_49, pf0, Option.bind_some, r_noRoom_t (R_0 hA hR') h10 hr, r_thr_f, bft, if_false, r_in, decide_eq_true hy, if_true, r_days_f hz, r_thr_t]
          exact Tt_some (Rp_t hR' (by decide))
    · refine mkSI (res := .inl 2) hR ?_ ?_
      · simp -implicitDefEqProofs only [f_X11_quiet, f_X11_quiet_27, f_X11_quiet_28, c_needRoom_t hd e e0 h10 hr, ite2_f hy, c_need_f, Option.bind_some, xc_r, xc_l]
        exact Tt_some (Cp_t hC (wk_2 (by decide)))
      · intro I' L' hR'
        simp -implicitDefEqProofs only [f_X12_quiet, f_X12_quiet_37, f_X12_quiet_42, f_X12_quiet_49, pf0, Option.bind_some, r_noRoom_t (R_0 hA hR') h10 hr, r_thr_f, bft, if_false, r_in, decide_eq_false hy, r_thr_t, if_true]
        exact Tt_some (Rp_t hR' (by decide))
  · refine mkSI (res := .inl 1) hR ?_ ?_
    · simp -implicitDefEqProofs only [f_X11_quiet, c_needRoom_f hd e e0 h10 (no_ex hx), Option.bind_some, xc_l]
      exact Tt_some (Cp_t hC (wk_1 (by decide)))
    · intro I' L' hR'
      simp -implicitDefEqProofs only [f_X12_quiet, f_X12_quiet_49, pf0, Option.bind_some, r_noRoom_f (R_0 hA hR') h10 (no_ex hx), r_thr_t, if_true]
      exact Tt_some (Rp_t hR' (by decide))
