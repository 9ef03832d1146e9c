-- ===== division of small numbers
theorem zI_div {a b : Nat} (ha : a < 2 ^ 31) (hb : b < 2 ^ 31) : nI a / nI b = nI (a / b) := by
  have h9 : a / b < 2 ^ 31 := Nat.lt_of_le_of_lt (Nat.div_le_self a b) ha
  rw [← Int32.toInt_inj, Int32.toInt_div, zI_ti ha, zI_ti hb, zI_ti h9]
  rw [show ((a : Int).tdiv (b : Int)) = ((a / b : Nat) : Int) from rfl]
  generalize a / b = q at h9 ⊢
  exact Int.bmod_eq_of_le (by omega) (by omega)
theorem zI_mod {a b : Nat} (ha : a < 2 ^ 31) (hb : b < 2 ^ 31) : nI a - nI a / nI b * nI b = nI (a % b) := by
  rw [zI_div ha hb, zI_mul]
  have h1 : a / b * b ≤ a := Nat.div_mul_le_self a b
  rw [zI_sub h1]
  congr 1
  have h2 := Nat.div_add_mod a b
  rw [Nat.mul_comm] at h2
  omega
/-- a field of the reference's world as a number -/
def nw (w : Nat → Int32) (k : Nat) : Nat := (w k).toNatClampNeg
-- ===== the costs, as numbers
def v0 : Nat → Nat := fun k => if k / 10 = k % 10 then 0 else 1000000
def vD (w : Nat → Int32) (d : Nat) (v : Nat → Nat) : Nat → Nat :=
  let a := nw w (25 + 3 * d)
  let b := nw w (26 + 3 * d)
  let v1 : Nat → Nat := fun k => if k = 10 * a + b then min (v k) (nw w (27 + 3 * d) + nw w (15 + b)) else v k
  fun k => if k = 10 * b + a then min (v1 k) (nw w (27 + 3 * d) + nw w (15 + a)) else v1 k
def vF (m : Nat) (v : Nat → Nat) : Nat → Nat := fun k => min (v k) (v (10 * (k / 10) + m) + v (10 * m + k % 10))
def csD (w : Nat → Int32) : Nat → Nat → Nat
  | 0 => v0
  | d + 1 => vD w d (csD w d)
def csF (w : Nat → Int32) (dc : Nat) : Nat → Nat → Nat
  | 0 => csD w dc
  | m + 1 => vF m (csF w dc m)
def cs (w : Nat → Int32) : Nat → Nat := csF w (nw w 1) 10
/-- what the costs need of a world: rooms, carpets, doors -/
def WFd (w : Nat → Int32) : Prop :=
  (w 0 = nI (nw w 0) ∧ nw w 0 ≤ 10) ∧ (w 1 = nI (nw w 1) ∧ nw w 1 ≤ 14) ∧ (∀ k, k < 10 → w (15 + k) = nI (nw w (15 + k)) ∧ nw w (15 + k) ≤ 20) ∧
  ∀ d, d < nw w 1 → (w (25 + 3 * d) = nI (nw w (25 + 3 * d)) ∧ nw w (25 + 3 * d) < nw w 0) ∧ (w (26 + 3 * d) = nI (nw w (26 + 3 * d)) ∧ nw w (26 + 3 * d) < nw w 0) ∧ nw w (25 + 3 * d) ≠ nw w (26 + 3 * d) ∧ w (27 + 3 * d) = nI (nw w (27 + 3 * d)) ∧ nw w (27 + 3 * d) ≤ 30
/-- bounds and the diagonal -/
def VB (v : Nat → Nat) : Prop := (∀ k, k < 100 → v k ≤ 1000000) ∧ ∀ m, m < 10 → v (11 * m) = 0
theorem VB_0 : VB v0 := ⟨fun k _ => by unfold v0; split <;> omega, fun m hm => by unfold v0; rw [if_pos (by omega)]⟩
theorem VB_D {w : Nat → Int32} {d : Nat} {v : Nat → Nat} (hne : nw w (25 + 3 * d) ≠ nw w (26 + 3 * d)) (ha : nw w (25 + 3 * d) < 10) (hb : nw w (26 + 3 * d) < 10) (h : VB v) : VB (vD w d v) := by
  refine ⟨fun k hk => ?_, fun m hm => ?_⟩
  · have := h.1 k hk
    unfold vD
    dsimp only
    split <;> split <;> omega
  · have := h.2 m hm
    unfold vD
    dsimp only
    rw [if_neg (by omega), if_neg (by omega)]
    exact this
theorem VB_F {m : Nat} {v : Nat → Nat} (hm : m < 10) (h : VB v) : VB (vF m v) := by
  refine ⟨fun k hk => ?_, fun j hj => ?_⟩
  · have := h.1 k hk
    unfold vF
    omega
  · have := h.2 j hj
    unfold vF
    omega
theorem VB_csD {w : Nat → Int32} (hw : WFd w) : ∀ d, d ≤ nw w 1 → VB (csD w d) := by
  intro d
  induction d with
  | zero => intro _; exact VB_0
  | succ d ih =>
    intro hd
    obtain ⟨h1, h2, h3, -⟩ := hw.2.2.2 d (by omega)
    have h4 := hw.1.2
    exact VB_D h3 (by omega) (by omega) (ih (by omega))
theorem VB_csF {w : Nat → Int32} (hw : WFd w) : ∀ m, m ≤ 10 → VB (csF w (nw w 1) m) := by
  intro m
  induction m with
  | zero => intro _; exact VB_csD hw _ (Nat.le_refl _)
  | succ m ih => intro hm; exact VB_F (by omega) (ih (by omega))
-- ===== the reference's fields
theorem r_of {I : MI} {L : ML} {n k : Nat} (h : n < 12) (hk : k < 10) : f_X12_of (nI n) (nI k) I L = some (I 150 (85 + 10 * n + k)) := by
  unfold f_X12_of
  rw [show (85 : Int32) = nI 85 from rfl, show (10 : Int32) = nI 10 from rfl, zI_mul, zI_add, zI_add, ldI_n (by omega) (by decide)]; rfl
theorem r_door {I : MI} {L : ML} {n k : Nat} (h : n < 14) (hk : k < 3) : f_X12_ofDoor (nI n) (nI k) I L = some (I 150 (25 + 3 * n + k)) := by
  unfold f_X12_ofDoor
  rw [show (25 : Int32) = nI 25 from rfl, show (3 : Int32) = nI 3 from rfl, zI_mul, zI_add, zI_add, ldI_n (by omega) (by decide)]; rfl
theorem r_heir {I : MI} {L : ML} {n k : Nat} (h : n < 6) (hk : k < 3) : f_X12_ofHeir (nI n) (nI k) I L = some (I 150 (67 + 3 * n + k)) := by
  unfold f_X12_ofHeir
  rw [show (67 : Int32) = nI 67 from rfl, show (3 : Int32) = nI 3 from rfl, zI_mul, zI_add, zI_add, ldI_n (by omega) (by decide)]; rfl
theorem r_cost {I : MI} {L : ML} {a b : Nat} (h : a < 10) (hk : b < 10) : f_X12_costOf (nI a) (nI b) I L = some (I 156 (10 * a + b)) := by
  unfold f_X12_costOf
  rw [show (10 : Int32) = nI 10 from rfl, zI_mul, zI_add, ldI_n (by omega) (by decide)]; rfl
theorem r_w {I : MI} {k : Nat} (h : k < 2143) : ldI I 150 2143 (nI k) = some (I 150 k) := ldI_n h (by decide)
/-- only the row of costs is given anew -/
def only156 (I I' : MI) : Prop := ∀ q, q ≠ 156 → I' q = I q
theorem zmin {a b : Nat} (ha : a < 2 ^ 31) (hb : b < 2 ^ 31) : (if nI a < nI b then nI a else nI b) = nI (min b a) := by
  by_cases h : a < b
  · rw [if_pos ((zI_lt ha hb).mpr h), Nat.min_eq_right (by omega)]
  · rw [if_neg (fun h9 => h ((zI_lt ha hb).mp h9)), Nat.min_eq_left (by omega)]
/-- one row of one round -/
theorem r_159 {R : MI × ML → Prop} {k151 : Int32 → Int32 → MI → ML → Option (MI × ML)} {L : ML} {m a : Nat} (hm : m < 10) (ha : a < 10) {v : Nat → Nat} (hv : VB v) {J : MI} {I : MI} (h0 : only156 J I) (h1 : ∀ k, k < 100 → I 156 k = nI (if k / 10 < a then vF m v k else v k))
    (hk : ∀ I', only156 J I' → (∀ k, k < 100 → I' 156 k = nI (if k / 10 < a + 1 then vF m v k else v k)) → Tt (k151 (nI m) (nI (a + 1)) I' L) R) : Tt (f_X12_spreads_159 k151 FU (nI m) (nI a) 0 I L) R := by
  refine lp0 (fun fuel k (I : MI) => f_X12_spreads_159 k151 fuel (nI m) (nI a) (nI k) I L) 10 (fun b I => only156 J I ∧ ∀ k, k < 100 → I 156 k = nI (if k / 10 < a ∨ (k / 10 = a ∧ k % 10 < b) then vF m v k else v k)) (by decide) ?_ ?_ ⟨h0, ?_⟩
  · intro fuel b I' hb ⟨i0, i1⟩ hn
    have e1 : I' 156 (10 * a + b) = nI (v (10 * a + b)) := by rw [i1 _ (by omega), if_neg (by omega)]
    have e2 : I' 156 (10 * a + m) = nI (v (10 * a + m)) := by
      rw [i1 _ (by omega)]
      split
      · congr 1
        unfold vF
        have h9 := hv.2 m hm
        rw [show 10 * ((10 * a + m) / 10) + m = 10 * a + m by omega, show 10 * m + (10 * a + m) % 10 = 11 * m by omega, h9]
        omega
      · rfl
    have e3 : I' 156 (10 * m + b) = nI (v (10 * m + b)) := by
      rw [i1 _ (by omega)]
      split
      · congr 1
        unfold vF
        have h9 := hv.2 m hm
        rw [show 10 * ((10 * m + b) / 10) + m = 11 * m by omega, show 10 * m + (10 * m + b) % 10 = 10 * m + b by omega, h9]
        omega
      · rfl
    have b1 := hv.1 (10 * a + b) (by omega)
    have b2 := hv.1 (10 * a + m) (by omega)
    have b3 := hv.1 (10 * m + b) (by omega)
    show Tt (f_X12_spreads_159 k151 (fuel + 1) (nI m) (nI a) (nI b) I' L) R
    unfold f_X12_spreads_159
    rw [if_neg (by rw [show (10 : Int32) = nI 10 from rfl, zI_le (by decide) (by omega)]; omega)]
    rw [r_cost ha hb, Option.bind_some, r_cost ha hm, Option.bind_some, r_cost hm hb, Option.bind_some]
    rw [show (10 : Int32) = nI 10 from rfl, zI_mul, zI_add, stI_n (by omega) (by decide), Option.bind_some, e1, e2, e3, zI_add, zmin (by omega) (by omega), zI_1]
    refine hn _ ⟨fun q hq => by rw [zu_n _ _ _ hq]; exact i0 q hq, fun k hk => ?_⟩
    rw [zu_s]
    by_cases hkk : k = 10 * a + b
    · subst hkk
      rw [if_pos rfl, if_pos (Or.inr ⟨by omega, by omega⟩)]
      unfold vF
      rw [show 10 * ((10 * a + b) / 10) + m = 10 * a + m by omega, show 10 * m + (10 * a + b) % 10 = 10 * m + b by omega]
    · rw [if_neg hkk, i1 k hk]
      congr 1
      by_cases hc : k / 10 < a ∨ (k / 10 = a ∧ k % 10 < b)
      · rw [if_pos hc, if_pos (by omega)]
      · rw [if_neg hc, if_neg (by omega)]
  · intro fuel I' ⟨i0, i1⟩
    show Tt (f_X12_spreads_159 k151 (fuel + 1) (nI m) (nI a) (nI 10) I' L) R
    unfold f_X12_spreads_159
    rw [if_pos (by decide), zI_1]
    refine hk I' i0 (fun k hk => ?_)
    rw [i1 k hk]
    congr 1
    by_cases hc : k / 10 < a ∨ (k / 10 = a ∧ k % 10 < 10)
    · rw [if_pos hc, if_pos (by omega)]
    · rw [if_neg hc, if_neg (by omega)]
  · intro k hk
    rw [h1 k hk]
    congr 1
    by_cases hc : k / 10 < a
    · rw [if_pos hc, if_pos (by omega)]
    · rw [if_neg hc, if_neg (by omega)]
theorem r_151 {R : MI × ML → Prop} {k143 : Int32 → MI → ML → Option (MI × ML)} {L : ML} {m : Nat} (hm : m < 10) {v : Nat → Nat} (hv : VB v) {J I : MI} (h0 : only156 J I) (h1 : ∀ k, k < 100 → I 156 k = nI (v k))
    (hk : ∀ I', only156 J I' → (∀ k, k < 100 → I' 156 k = nI (vF m v k)) → Tt (k143 (nI (m + 1)) I' L) R) : Tt (f_X12_spreads_151 k143 FU (nI m) 0 I L) R := by
  refine lp0 (fun fuel k (I : MI) => f_X12_spreads_151 k143 fuel (nI m) (nI k) I L) 10 (fun a I => only156 J I ∧ ∀ k, k < 100 → I 156 k = nI (if k / 10 < a then vF m v k else v k)) (by decide) ?_ ?_ ⟨h0, ?_⟩
  · intro fuel a I' ha ⟨i0, i1⟩ hn
    show Tt (f_X12_spreads_151 k143 (fuel + 1) (nI m) (nI a) I' L) R
    unfold f_X12_spreads_151
    rw [if_neg (by rw [show (10 : Int32) = nI 10 from rfl, zI_le (by decide) (by omega)]; omega)]
    exact r_159 hm ha hv i0 i1 (fun I2 j0 j1 => hn I2 ⟨j0, j1⟩)
  · intro fuel I' ⟨i0, i1⟩
    show Tt (f_X12_spreads_151 k143 (fuel + 1) (nI m) (nI 10) I' L) R
    unfold f_X12_spreads_151
    rw [if_pos (by decide), zI_1]
    refine hk I' i0 (fun k hk => ?_)
    rw [i1 k hk, if_pos (by omega)]
  · intro k hk
    rw [h1 k hk, if_neg (by omega)]
theorem r_143 {L : ML} {w : Nat → Int32} (hw : WFd w) {J I : MI} (h0 : only156 J I) (h1 : ∀ k, k < 100 → I 156 k = nI (csF w (nw w 1) 0 k)) : Tt (f_X12_spreads_143 FU 0 I L) (fun r => r.2 = L ∧ only156 J r.1 ∧ ∀ k, k < 100 → r.1 156 k = nI (cs w k)) := by
  refine lp0 (fun fuel k (I : MI) => f_X12_spreads_143 fuel (nI k) I L) 10 (fun m I => only156 J I ∧ ∀ k, k < 100 → I 156 k = nI (csF w (nw w 1) m k)) (by decide) ?_ ?_ ⟨h0, h1⟩
  · intro fuel m I' hm ⟨i0, i1⟩ hn
    show Tt (f_X12_spreads_143 (fuel + 1) (nI m) I' L) _
    unfold f_X12_spreads_143
    rw [if_neg (by rw [show (10 : Int32) = nI 10 from rfl, zI_le (by decide) (by omega)]; omega)]
    exact r_151 hm (VB_csF hw m (by omega)) i0 i1 (fun I2 j0 j1 => hn I2 ⟨j0, j1⟩)
  · intro fuel I' ⟨i0, i1⟩
    show Tt (f_X12_spreads_143 (fuel + 1) (nI 10) I' L) _
    unfold f_X12_spreads_143
    rw [if_pos (by decide)]
    exact Tt_some ⟨rfl, i0, i1⟩
theorem r_39 {L : ML} {J I : MI} (hw : WFd (J 150)) (h0 : only156 J I) (h1 : ∀ k, k < 100 → I 156 k = nI (v0 k)) : Tt (f_X12_spreads_39 FU 0 I L) (fun r => r.2 = L ∧ only156 J r.1 ∧ ∀ k, k < 100 → r.1 156 k = nI (cs (J 150) k)) := by
  refine lp0 (fun fuel k (I : MI) => f_X12_spreads_39 fuel (nI k) I L) (nw (J 150) 1) (fun d I => only156 J I ∧ ∀ k, k < 100 → I 156 k = nI (csD (J 150) d k)) (by have := hw.2.1.2; omega) ?_ ?_ ⟨h0, h1⟩
  · intro fuel d I' hd ⟨i0, i1⟩ hn
    have hd14 := hw.2.1.2
    have hr10 := hw.1.2
    obtain ⟨⟨a1, a2⟩, ⟨b1, b2⟩, hne, c1, c2⟩ := hw.2.2.2 d hd
    generalize ha : nw (J 150) (25 + 3 * d) = a at *
    generalize hb : nw (J 150) (26 + 3 * d) = b at *
    generalize hh : nw (J 150) (27 + 3 * d) = hd9 at *
    obtain ⟨ca1, ca2⟩ := hw.2.2.1 a (by omega)
    obtain ⟨cb1, cb2⟩ := hw.2.2.1 b (by omega)
    have hvb := VB_csD hw d (by omega)
    have bb1 := hvb.1 (10 * a + b) (by omega)
    have bb2 := hvb.1 (10 * b + a) (by omega)
    have w0 : I' 150 = J 150 := i0 150 (by decide)
    show Tt (f_X12_spreads_39 (fuel + 1) (nI d) I' L) _
    unfold f_X12_spreads_39
    rw [show (1 : Int32) = nI 1 from rfl, r_w (by decide), Option.bind_some, w0, hw.2.1.1, if_neg (by rw [zI_le (by omega) (by omega)]; omega)]
    rw [show (0 : Int32) = nI 0 from rfl, show (2 : Int32) = nI 2 from rfl, r_door (by omega) (by decide), Option.bind_some, r_door (by omega) (by decide), Option.bind_some, w0, show 25 + 3 * d + 0 = 25 + 3 * d from rfl, show 25 + 3 * d + 1 = 26 + 3 * d by omega, a1, b1]
    rw [r_cost (by omega) (by omega), Option.bind_some, r_door (by omega) (by decide), Option.bind_some, w0, show 25 + 3 * d + 2 = 27 + 3 * d by omega, c1, show (15 : Int32) = nI 15 from rfl, zI_add, r_w (by omega), Option.bind_some, w0, cb1]
    rw [show (10 : Int32) = nI 10 from rfl, zI_mul, zI_add, zI_add, stI_n (by omega) (by decide), Option.bind_some, i1 _ (by omega), zmin (by omega) (by omega)]
    rw [r_cost (by omega) (by omega), Option.bind_some, r_door (by omega) (by decide), Option.bind_some, zu_n _ _ _ (show 150 ≠ 156 by decide), w0, show 25 + 3 * d + 2 = 27 + 3 * d by omega, c1, zI_add, r_w (by omega), Option.bind_some, zu_n _ _ _ (show 150 ≠ 156 by decide), w0, ca1, zI_mul, zI_add, zI_add, stI_n (by omega) (by decide), Option.bind_some, zu_s, if_neg (show ¬ 10 * b + a = 10 * a + b by omega), i1 _ (by omega), zmin (by omega) (by omega), zI_add]
    refine hn _ ⟨fun q hq => by rw [zu_n _ _ _ hq, zu_n _ _ _ hq]; exact i0 q hq, fun k hk => ?_⟩
    rw [zu_s, zu_s]
    show _ = nI (vD (J 150) d (csD (J 150) d) k)
    unfold vD
    dsimp only
    rw [ha, hb, hh]
    by_cases k1 : k = 10 * b + a
    · subst k1
      rw [if_pos rfl, if_pos rfl, if_neg (by omega)]
    · rw [if_neg k1, if_neg k1]
      by_cases k2 : k = 10 * a + b
      · subst k2
        rw [if_pos rfl, if_pos rfl]
      · rw [if_neg k2, if_neg k2]
        exact i1 k hk
  · intro fuel I' ⟨i0, i1⟩
    have hd14 := hw.2.1.2
    have w0 : I' 150 = J 150 := i0 150 (by decide)
    show Tt (f_X12_spreads_39 (fuel + 1) (nI (nw (J 150) 1)) I' L) _
    unfold f_X12_spreads_39
    rw [show (1 : Int32) = nI 1 from rfl, r_w (by decide), Option.bind_some, w0, hw.2.1.1, if_pos (by rw [← hw.2.1.1]; exact Int32.le_refl _)]
    exact r_143 hw i0 i1
/-- the reference finds the costs -/
theorem r_spreads {J : MI} {L : ML} (hw : WFd (J 150)) : Tt (f_X12_spreads J L) (fun r => r.2 = L ∧ only156 J r.1 ∧ ∀ k, k < 100 → r.1 156 k = nI (cs (J 150) k)) := by
  unfold f_X12_spreads
  refine lp0 (fun fuel k (I : MI) => f_X12_spreads_2 fuel (nI k) I L) 100 (fun n I => only156 J I ∧ ∀ k, k < n → I 156 k = nI (v0 k)) (by decide) ?_ ?_ ⟨fun _ _ => rfl, fun k hk => absurd hk (by omega)⟩
  · intro fuel n I' hn9 ⟨i0, i1⟩ hn
    show Tt (f_X12_spreads_2 (fuel + 1) (nI n) I' L) _
    unfold f_X12_spreads_2
    rw [if_neg (by rw [show (100 : Int32) = nI 100 from rfl, zI_le (by decide) (by omega)]; omega)]
    rw [show (10 : Int32) = nI 10 from rfl, zI_mod (by omega) (by decide), zI_div (by omega) (by decide)]
    have key : ∀ x : Nat, x = v0 n → Tt (f_X12_spreads_30 (f_X12_spreads_2 fuel) (nI n) (nI n) (nI x) I' L) (fun r => r.2 = L ∧ only156 J r.1 ∧ ∀ k, k < 100 → r.1 156 k = nI (cs (J 150) k)) := by
      intro x hx
      unfold f_X12_spreads_30
      rw [stI_n (by omega) (by decide), Option.bind_some, zI_1]
      refine hn _ ⟨fun q hq => by rw [zu_n _ _ _ hq]; exact i0 q hq, fun k hk => ?_⟩
      rw [zu_s]
      by_cases h : k = n
      · rw [if_pos h, h, hx]
      · rw [if_neg h]; exact i1 k (by omega)
    refine Tt_ite (fun h => key 0 ?_) (fun h => key 1000000 ?_)
    · rw [zI_eq (by omega) (by omega)] at h
      unfold v0; rw [if_pos h]
    · rw [zI_eq (by omega) (by omega)] at h
      unfold v0; rw [if_neg h]
  · intro fuel I' ⟨i0, i1⟩
    show Tt (f_X12_spreads_2 (fuel + 1) (nI 100) I' L) _
    unfold f_X12_spreads_2
    rw [if_pos (by decide)]
    exact r_39 hw i0 i1
