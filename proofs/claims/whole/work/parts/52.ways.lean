/-- the class's number for a cost -/
def cw (x : Nat) : Nat := if 1000000 ≤ x then 100000 else x
/-- no way, or one that isn't long; no way out of the house -/
def VR (r m : Nat) (v : Nat → Nat) : Prop := (∀ k, k < 100 → v k = 1000000 ∨ v k ≤ 50 * 2 ^ m) ∧ ∀ a b, a < 10 → b < 10 → a ≠ b → (r ≤ a ∨ r ≤ b) → v (10 * a + b) = 1000000
theorem VR_0 (r : Nat) : VR r 0 v0 := ⟨fun k _ => by unfold v0; split <;> omega, fun a b ha hb h _ => by unfold v0; rw [if_neg (by omega)]⟩
theorem VR_D {w : Nat → Int32} (hw : WFd w) {d : Nat} (hd : d < nw w 1) {v : Nat → Nat} (h : VR (nw w 0) 0 v) : VR (nw w 0) 0 (vD w d v) := by
  obtain ⟨⟨-, a2⟩, ⟨-, b2⟩, hne, -, c2⟩ := hw.2.2.2 d hd
  have hr := hw.1.2
  have ca := (hw.2.2.1 (nw w (25 + 3 * d)) (by omega)).2
  have cb := (hw.2.2.1 (nw w (26 + 3 * d)) (by omega)).2
  refine ⟨fun k hk => ?_, fun a b ha hb h1 h2 => ?_⟩
  · have h9 := h.1 k hk
    unfold vD
    dsimp only
    split <;> split <;> omega
  · unfold vD
    dsimp only
    rw [if_neg (by omega), if_neg (by omega)]
    exact h.2 a b ha hb h1 h2
theorem VR_F {r m i : Nat} {v : Nat → Nat} (hi : i < 10) (hb : VB v) (h : VR r m v) : VR r (m + 1) (vF i v) := by
  have hp : 2 ^ (m + 1) = 2 * 2 ^ m := by rw [Nat.pow_succ, Nat.mul_comm]
  refine ⟨fun k hk => ?_, fun a b ha hb9 h1 h2 => ?_⟩
  · have h1 := h.1 k hk
    have h2 := h.1 (10 * (k / 10) + i) (by omega)
    have h3 := h.1 (10 * i + k % 10) (by omega)
    unfold vF
    rw [hp]
    generalize 2 ^ m = p at *
    omega
  · unfold vF
    rw [show 10 * ((10 * a + b) / 10) + i = 10 * a + i by omega, show 10 * i + (10 * a + b) % 10 = 10 * i + b by omega, h.2 a b ha hb9 h1 h2]
    have e1 := hb.1 (10 * a + i) (by omega)
    by_cases c1 : r ≤ a
    · by_cases c2 : a = i
      · rw [← c2, h.2 a b ha hb9 h1 (Or.inl c1)]; omega
      · rw [h.2 a i ha hi c2 (Or.inl c1)]; omega
    · by_cases c2 : i = b
      · rw [c2, h.2 a b ha hb9 h1 (Or.inr (by omega))]; omega
      · rw [h.2 i b hi hb9 c2 (Or.inr (by omega))]; omega
theorem VR_csD {w : Nat → Int32} (hw : WFd w) : ∀ d, d ≤ nw w 1 → VR (nw w 0) 0 (csD w d) := by
  intro d
  induction d with
  | zero => intro _; exact VR_0 _
  | succ d ih => intro hd; exact VR_D hw (by omega) (ih (by omega))
theorem VR_csF {w : Nat → Int32} (hw : WFd w) : ∀ m, m ≤ 10 → VR (nw w 0) m (csF w (nw w 1) m) := by
  intro m
  induction m with
  | zero => intro _; exact VR_csD hw _ (Nat.le_refl _)
  | succ m ih => intro hm; exact VR_F (by omega) (VB_csF hw m (by omega)) (ih (by omega))
theorem pw10 {m : Nat} (h : m ≤ 9) : 50 * 2 ^ m ≤ 25600 := by
  have h1 : 2 ^ m ≤ 2 ^ 9 := Nat.pow_le_pow_right (by decide) h
  omega
theorem cw_F {r m i : Nat} {v : Nat → Nat} (hm : m ≤ 9) (hb : VB v) (h : VR r m v) {a b : Nat} (ha : a < 10) (hb9 : b < 10) (hi : i < 10) : cw (vF i v (10 * a + b)) = min (cw (v (10 * a + b))) (cw (v (10 * a + i)) + cw (v (10 * i + b))) := by
  have p := pw10 hm
  have h1 := h.1 (10 * a + b) (by omega)
  have h2 := h.1 (10 * a + i) (by omega)
  have h3 := h.1 (10 * i + b) (by omega)
  have e1 := hb.1 (10 * a + b) (by omega)
  unfold vF
  rw [show 10 * ((10 * a + b) / 10) + i = 10 * a + i by omega, show 10 * i + (10 * a + b) % 10 = 10 * i + b by omega]
  unfold cw
  split <;> split <;> split <;> split <;> omega
/-- rounds by rooms that aren't there change nothing -/
theorem csF_stop {w : Nat → Int32} (hw : WFd w) : ∀ m, nw w 0 ≤ m → m ≤ 10 → ∀ a b, a < nw w 0 → b < nw w 0 → csF w (nw w 1) m (10 * a + b) = csF w (nw w 1) (nw w 0) (10 * a + b) := by
  intro m
  induction m with
  | zero => intro h1 _ a b ha; omega
  | succ m ih =>
    intro h1 h2 a b ha hb
    have hr := hw.1.2
    by_cases h3 : nw w 0 = m + 1
    · rw [h3]
    · rw [← ih (by omega) (by omega) a b ha hb]
      show vF m (csF w (nw w 1) m) (10 * a + b) = _
      have hv := VR_csF hw m (by omega)
      have hvb := (VB_csF hw m (by omega)).1 (10 * a + b) (by omega)
      unfold vF
      rw [show 10 * ((10 * a + b) / 10) + m = 10 * a + m by omega, hv.2 a m (by omega) (by omega) (by omega) (Or.inr (by omega))]
      omega
-- ===== the class's rows of ways
def onlyc (q : Nat) (J I : MI) : Prop := ∀ j, j ≠ q → I j = J j
/-- rooms, carpets, doors of a house are those of w -/
def CRd (h : Nat) (I : MI) (w : Nat → Int32) : Prop := I h 0 = w 0 ∧ I h 1 = w 1 ∧ (∀ k, k < 10 → I (h + 1) k = w (15 + k)) ∧ ∀ d, d < 14 → I (h + 13 + d) 0 = w (25 + 3 * d) ∧ I (h + 13 + d) 1 = w (26 + 3 * d) ∧ I (h + 13 + d) 2 = w (27 + 3 * d)
theorem c_shorten {h : Nat} {I : MI} {L : ML} {a b x y : Nat} (ha : a < 10) (hb : b < 10) (hx : x < 2 ^ 31) (hy : y < 2 ^ 31) (e : I (h + 11) (10 * a + b) = nI y) : Tt (f_X3_shorten h (nI a) (nI b) (nI x) I L) (fun r => r.2 = L ∧ onlyc (h + 11) I r.1 ∧ ∀ k, r.1 (h + 11) k = if k = 10 * a + b then nI (min y x) else I (h + 11) k) := by
  unfold f_X3_shorten f_X3_shorten_27
  rw [show (10 : Int32) = nI 10 from rfl, zI_mul, zI_add, show a * 10 + b = 10 * a + b by omega, ldI_n (by omega) (by decide), Option.bind_some, e]
  refine Tt_ite (fun h1 => ?_) (fun h1 => ?_)
  · rw [zI_le hy hx] at h1
    refine Tt_some ⟨rfl, fun _ _ => rfl, fun k => ?_⟩
    dsimp only
    by_cases hk : k = 10 * a + b
    · rw [if_pos hk, hk, e, Nat.min_eq_left h1]
    · rw [if_neg hk]
  · rw [zI_le hy hx] at h1
    rw [stI_n (by omega) (by decide), Option.bind_some]
    refine Tt_some ⟨rfl, fun j hj => zu_n _ _ _ hj, fun k => ?_⟩
    dsimp only
    rw [zu_s]
    by_cases hk : k = 10 * a + b
    · rw [if_pos hk, if_pos hk, Nat.min_eq_right (by omega)]
    · rw [if_neg hk, if_neg hk]
theorem c_way {h : Nat} {I : MI} {L : ML} {a b : Nat} (ha : a < 10) (hb : b < 10) : f_X3_way h (nI a) (nI b) I L = some (I (h + 11) (10 * a + b)) := by
  unfold f_X3_way
  rw [show (10 : Int32) = nI 10 from rfl, zI_mul, zI_add, show a * 10 + b = 10 * a + b by omega, ldI_n (by omega) (by decide)]; rfl
theorem onlyc_tr {q : Nat} {J I K : MI} (h1 : onlyc q J I) (h2 : onlyc q I K) : onlyc q J K := fun j hj => (h2 j hj).trans (h1 j hj)
theorem cw_le {v : Nat → Nat} (hb : VB v) {k : Nat} (hk : k < 100) : cw (v k) ≤ 1000000 := by
  have := hb.1 k hk
  unfold cw; split <;> omega
/-- one row of one round -/
theorem c_151 {R : MI × ML → Prop} {k141 : Nat → Int32 → Int32 → MI → ML → Option (MI × ML)} {h : Nat} {L : ML} {r m i a : Nat} (hr : r ≤ 10) (hi : i < r) (ha : a < r) (hm : m ≤ 9) {v : Nat → Nat} (hb : VB v) (hv : VR r m v) {J I : MI} (hJ : J h 0 = nI r) (h0 : onlyc (h + 11) J I)
    (h1 : ∀ c e, c < r → e < r → I (h + 11) (10 * c + e) = nI (cw (if c < a then vF i v (10 * c + e) else v (10 * c + e))))
    (hk : ∀ I', onlyc (h + 11) J I' → (∀ c e, c < r → e < r → I' (h + 11) (10 * c + e) = nI (cw (if c < a + 1 then vF i v (10 * c + e) else v (10 * c + e)))) → Tt (k141 h (nI i) (nI (a + 1)) I' L) R) : Tt (f_X3_findWays_151 k141 FU h (nI i) (nI a) 0 I L) R := by
  have fi : ∀ c, c < 10 → vF i v (10 * c + i) = v (10 * c + i) := fun c hc => by
    unfold vF
    have h9 := hb.2 i (by omega)
    rw [show 10 * ((10 * c + i) / 10) + i = 10 * c + i by omega, show 10 * i + (10 * c + i) % 10 = 11 * i by omega, h9]
    omega
  have fj : ∀ c, c < 10 → vF i v (10 * i + c) = v (10 * i + c) := fun c hc => by
    unfold vF
    have h9 := hb.2 i (by omega)
    rw [show 10 * ((10 * i + c) / 10) + i = 11 * i by omega, show 10 * i + (10 * i + c) % 10 = 10 * i + c by omega, h9]
    omega
  refine lp0 (fun fuel k (I : MI) => f_X3_findWays_151 k141 fuel h (nI i) (nI a) (nI k) I L) r (fun b I => onlyc (h + 11) J I ∧ ∀ c e, c < r → e < r → I (h + 11) (10 * c + e) = nI (cw (if c < a ∨ (c = a ∧ e < b) then vF i v (10 * c + e) else v (10 * c + e)))) (by omega) ?_ ?_ ⟨h0, ?_⟩
  · intro fuel b I' hb9 ⟨i0, i1⟩ hn
    have z0 : I' h 0 = nI r := by rw [i0 h (by omega)]; exact hJ
    have e1 : I' (h + 11) (10 * a + b) = nI (cw (v (10 * a + b))) := by rw [i1 a b ha (by omega), if_neg (by omega)]
    have e2 : I' (h + 11) (10 * a + i) = nI (cw (v (10 * a + i))) := by
      rw [i1 a i ha hi]
      split
      · rw [fi a (by omega)]
      · rfl
    have e3 : I' (h + 11) (10 * i + b) = nI (cw (v (10 * i + b))) := by
      rw [i1 i b hi (by omega)]
      split
      · rw [fj b (by omega)]
      · rfl
    have b1 := cw_le hb (k := 10 * a + b) (by omega)
    have b2 := cw_le hb (k := 10 * a + i) (by omega)
    have b3 := cw_le hb (k := 10 * i + b) (by omega)
    show Tt (f_X3_findWays_151 k141 (fuel + 1) h (nI i) (nI a) (nI b) I' L) R
    unfold f_X3_findWays_151
    rw [z0, if_neg (by rw [zI_le (by omega) (by omega)]; omega)]
    rw [c_way (by omega) (by omega), Option.bind_some, c_way (by omega) (by omega), Option.bind_some, e2, e3, zI_add]
    refine Tt_bind (Tt_mono (c_shorten (by omega) (by omega) (by omega) (by omega) e1) ?_)
    intro x ⟨x1, x2, x3⟩
    rw [x1, zI_1]
    refine hn _ ⟨onlyc_tr i0 x2, fun c e hc he => ?_⟩
    rw [x3]
    by_cases hce : 10 * c + e = 10 * a + b
    · have hc9 : c = a := by omega
      have he9 : e = b := by omega
      rw [if_pos hce, hc9, he9, if_pos (Or.inr ⟨rfl, by omega⟩), cw_F hm hb hv (by omega) (by omega) (by omega)]
    · rw [if_neg hce, i1 c e hc he]
      congr 2
      by_cases hcc : c < a ∨ (c = a ∧ e < b)
      · rw [if_pos hcc, if_pos (by omega)]
      · rw [if_neg hcc, if_neg (by omega)]
  · intro fuel I' ⟨i0, i1⟩
    have z0 : I' h 0 = nI r := by rw [i0 h (by omega)]; exact hJ
    show Tt (f_X3_findWays_151 k141 (fuel + 1) h (nI i) (nI a) (nI r) I' L) R
    unfold f_X3_findWays_151
    rw [z0, if_pos (Int32.le_refl _), zI_1]
    refine hk I' i0 (fun c e hc he => ?_)
    rw [i1 c e hc he]
    congr 2
    by_cases hcc : c < a ∨ (c = a ∧ e < r)
    · rw [if_pos hcc, if_pos (by omega)]
    · rw [if_neg hcc, if_neg (by omega)]
  · intro c e hc he
    rw [h1 c e hc he]
    congr 2
    by_cases hcc : c < a
    · rw [if_pos hcc, if_pos (by omega)]
    · rw [if_neg hcc, if_neg (by omega)]
theorem c_141 {R : MI × ML → Prop} {k131 : Nat → Int32 → MI → ML → Option (MI × ML)} {h : Nat} {L : ML} {r m i : Nat} (hr : r ≤ 10) (hi : i < r) (hm : m ≤ 9) {v : Nat → Nat} (hb : VB v) (hv : VR r m v) {J I : MI} (hJ : J h 0 = nI r) (h0 : onlyc (h + 11) J I)
    (h1 : ∀ c e, c < r → e < r → I (h + 11) (10 * c + e) = nI (cw (v (10 * c + e))))
    (hk : ∀ I', onlyc (h + 11) J I' → (∀ c e, c < r → e < r → I' (h + 11) (10 * c + e) = nI (cw (vF i v (10 * c + e)))) → Tt (k131 h (nI (i + 1)) I' L) R) : Tt (f_X3_findWays_141 k131 FU h (nI i) 0 I L) R := by
  refine lp0 (fun fuel k (I : MI) => f_X3_findWays_141 k131 fuel h (nI i) (nI k) I L) r (fun a I => onlyc (h + 11) J I ∧ ∀ c e, c < r → e < r → I (h + 11) (10 * c + e) = nI (cw (if c < a then vF i v (10 * c + e) else v (10 * c + e)))) (by omega) ?_ ?_ ⟨h0, ?_⟩
  · intro fuel a I' ha ⟨i0, i1⟩ hn
    have z0 : I' h 0 = nI r := by rw [i0 h (by omega)]; exact hJ
    show Tt (f_X3_findWays_141 k131 (fuel + 1) h (nI i) (nI a) I' L) R
    unfold f_X3_findWays_141
    rw [z0, if_neg (by rw [zI_le (by omega) (by omega)]; omega)]
    exact c_151 hr hi ha hm hb hv hJ i0 i1 (fun I2 j0 j1 => hn I2 ⟨j0, j1⟩)
  · intro fuel I' ⟨i0, i1⟩
    have z0 : I' h 0 = nI r := by rw [i0 h (by omega)]; exact hJ
    show Tt (f_X3_findWays_141 k131 (fuel + 1) h (nI i) (nI r) I' L) R
    unfold f_X3_findWays_141
    rw [z0, if_pos (Int32.le_refl _), zI_1]
    refine hk I' i0 (fun c e hc he => ?_)
    rw [i1 c e hc he, if_pos hc]
  · intro c e hc he
    rw [h1 c e hc he, if_neg (by omega)]
theorem c_131 {h : Nat} {L : ML} {w : Nat → Int32} (hw : WFd w) {J I : MI} (hJ : J h 0 = nI (nw w 0)) (h0 : onlyc (h + 11) J I)
    (h1 : ∀ c e, c < nw w 0 → e < nw w 0 → I (h + 11) (10 * c + e) = nI (cw (csF w (nw w 1) 0 (10 * c + e)))) : Tt (f_X3_findWays_131 FU h 0 I L) (fun r => r.2 = L ∧ onlyc (h + 11) J r.1 ∧ ∀ c e, c < nw w 0 → e < nw w 0 → r.1 (h + 11) (10 * c + e) = nI (cw (cs w (10 * c + e)))) := by
  have hr := hw.1.2
  refine lp0 (fun fuel k (I : MI) => f_X3_findWays_131 fuel h (nI k) I L) (nw w 0) (fun m I => onlyc (h + 11) J I ∧ ∀ c e, c < nw w 0 → e < nw w 0 → I (h + 11) (10 * c + e) = nI (cw (csF w (nw w 1) m (10 * c + e)))) (by omega) ?_ ?_ ⟨h0, h1⟩
  · intro fuel m I' hm ⟨i0, i1⟩ hn
    have z0 : I' h 0 = nI (nw w 0) := by rw [i0 h (by omega)]; exact hJ
    show Tt (f_X3_findWays_131 (fuel + 1) h (nI m) I' L) _
    unfold f_X3_findWays_131
    rw [z0, if_neg (by rw [zI_le (by omega) (by omega)]; omega)]
    exact c_141 hr hm (by omega) (VB_csF hw m (by omega)) (VR_csF hw m (by omega)) hJ i0 i1 (fun I2 j0 j1 => hn I2 ⟨j0, j1⟩)
  · intro fuel I' ⟨i0, i1⟩
    have z0 : I' h 0 = nI (nw w 0) := by rw [i0 h (by omega)]; exact hJ
    show Tt (f_X3_findWays_131 (fuel + 1) h (nI (nw w 0)) I' L) _
    unfold f_X3_findWays_131
    rw [z0, if_pos (Int32.le_refl _)]
    refine Tt_some ⟨rfl, i0, fun c e hc he => ?_⟩
    dsimp only
    rw [i1 c e hc he]
    unfold cs
    rw [csF_stop hw 10 hr (Nat.le_refl _) c e hc he]
theorem c_56 {h : Nat} {L : ML} {w : Nat → Int32} (hw : WFd w) {J I : MI} (hJ : CRd h J w) (h0 : onlyc (h + 11) J I)
    (h1 : ∀ c e, c < nw w 0 → e < nw w 0 → I (h + 11) (10 * c + e) = nI (cw (v0 (10 * c + e)))) : Tt (f_X3_findWays_56 FU h 0 I L) (fun r => r.2 = L ∧ onlyc (h + 11) J r.1 ∧ ∀ c e, c < nw w 0 → e < nw w 0 → r.1 (h + 11) (10 * c + e) = nI (cw (cs w (10 * c + e)))) := by
  have hr := hw.1.2
  have hd14 := hw.2.1.2
  have hJ0 : J h 0 = nI (nw w 0) := hJ.1.trans hw.1.1
  refine lp0 (fun fuel k (I : MI) => f_X3_findWays_56 fuel h (nI k) I L) (nw w 1) (fun d I => onlyc (h + 11) J I ∧ ∀ c e, c < nw w 0 → e < nw w 0 → I (h + 11) (10 * c + e) = nI (cw (csD w d (10 * c + e)))) (by omega) ?_ ?_ ⟨h0, h1⟩
  · intro fuel d I' hd ⟨i0, i1⟩ hn
    have z1 : I' h 1 = nI (nw w 1) := by rw [i0 h (by omega), hJ.2.1]; exact hw.2.1.1
    obtain ⟨⟨a1, a2⟩, ⟨b1, b2⟩, hne, c1, c2⟩ := hw.2.2.2 d hd
    obtain ⟨d0, d1, d2⟩ := hJ.2.2.2 d (by omega)
    have hvd : csD w (d + 1) = vD w d (csD w d) := rfl
    have hvb := VB_csD hw d (by omega)
    have hvr := VR_csD hw d (by omega)
    generalize ha : nw w (25 + 3 * d) = a at *
    generalize hb : nw w (26 + 3 * d) = b at *
    generalize hh : nw w (27 + 3 * d) = hd9 at *
    obtain ⟨ca1, ca2⟩ := hw.2.2.1 a (by omega)
    obtain ⟨cb1, cb2⟩ := hw.2.2.1 b (by omega)
    have q1 : ∀ {K : MI}, onlyc (h + 11) J K → K (h + 13 + d) = J (h + 13 + d) := fun hK => hK _ (by omega)
    have q2 : ∀ {K : MI}, onlyc (h + 11) J K → K (h + 1) = J (h + 1) := fun hK => hK _ (by omega)
    have bb1 := cw_le hvb (k := 10 * a + b) (by omega)
    have bb2 := cw_le hvb (k := 10 * b + a) (by omega)
    show Tt (f_X3_findWays_56 (fuel + 1) h (nI d) I' L) _
    unfold f_X3_findWays_56
    rw [z1, if_neg (by rw [zI_le (by omega) (by omega)]; omega), ldR_n (by omega) (by decide), Option.bind_some, q1 i0, d0, d1, d2, a1, b1, c1, ldI_n (by omega) (by decide), Option.bind_some, q2 i0, hJ.2.2.1 b (by omega), cb1, zI_add]
    refine Tt_bind (Tt_mono (c_shorten (by omega) (by omega) (by omega) (by omega) (i1 a b a2 b2)) ?_)
    intro x ⟨x1, x2, x3⟩
    have x2' := onlyc_tr i0 x2
    rw [q1 x2', d0, d1, d2, a1, b1, c1, ldI_n (by omega) (by decide), Option.bind_some, q2 x2', hJ.2.2.1 a (by omega), ca1, zI_add, x1]
    have e4 : x.1 (h + 11) (10 * b + a) = nI (cw (csD w d (10 * b + a))) := by rw [x3, if_neg (by omega)]; exact i1 b a b2 a2
    refine Tt_bind (Tt_mono (c_shorten (by omega) (by omega) (by omega) (by omega) e4) ?_)
    intro y ⟨y1, y2, y3⟩
    rw [y1, zI_1]
    refine hn _ ⟨onlyc_tr x2' y2, fun c e hc he => ?_⟩
    have s1 := hvb.1 (10 * c + e) (by omega)
    have s2 := hvr.1 (10 * c + e) (by omega)
    rw [y3, hvd]
    unfold vD
    dsimp only
    rw [ha, hb, hh]
    by_cases k1 : 10 * c + e = 10 * b + a
    · rw [if_pos k1, if_pos k1, if_neg (by omega), ← k1]
      congr 1
      unfold cw
      split <;> split <;> omega
    · rw [if_neg k1, if_neg k1, x3]
      by_cases k2 : 10 * c + e = 10 * a + b
      · rw [if_pos k2, if_pos k2, ← k2]
        congr 1
        unfold cw
        split <;> split <;> omega
      · rw [if_neg k2, if_neg k2]
        exact i1 c e hc he
  · intro fuel I' ⟨i0, i1⟩
    have z1 : I' h 1 = nI (nw w 1) := by rw [i0 h (by omega), hJ.2.1]; exact hw.2.1.1
    show Tt (f_X3_findWays_56 (fuel + 1) h (nI (nw w 1)) I' L) _
    unfold f_X3_findWays_56
    rw [z1, if_pos (Int32.le_refl _)]
    exact c_131 hw hJ0 i0 i1
theorem c_12 {R : MI × ML → Prop} {k2 : Nat → Int32 → MI → ML → Option (MI × ML)} {h : Nat} {L : ML} {r a : Nat} (hr : r ≤ 10) (ha : a < r) {J I : MI} (hJ : J h 0 = nI r) (h0 : onlyc (h + 11) J I) (h1 : ∀ c e, c < a → e < r → I (h + 11) (10 * c + e) = nI (cw (v0 (10 * c + e))))
    (hk : ∀ I', onlyc (h + 11) J I' → (∀ c e, c < a + 1 → e < r → I' (h + 11) (10 * c + e) = nI (cw (v0 (10 * c + e)))) → Tt (k2 h (nI (a + 1)) I' L) R) : Tt (f_X3_findWays_12 k2 FU h (nI a) 0 I L) R := by
  refine lp0 (fun fuel k (I : MI) => f_X3_findWays_12 k2 fuel h (nI a) (nI k) I L) r (fun b I => onlyc (h + 11) J I ∧ ∀ c e, (c < a ∧ e < r) ∨ (c = a ∧ e < b) → I (h + 11) (10 * c + e) = nI (cw (v0 (10 * c + e)))) (by omega) ?_ ?_ ⟨h0, fun c e hce => h1 c e (by omega) (by omega)⟩
  · intro fuel b I' hb ⟨i0, i1⟩ hn
    have z0 : I' h 0 = nI r := by rw [i0 h (by omega)]; exact hJ
    have key : ∀ x : Nat, x = cw (v0 (10 * a + b)) → Tt (f_X3_findWays_41 (f_X3_findWays_12 k2 fuel) h (nI a) (nI b) h (nI (10 * a + b)) (nI x) I' L) R := by
      intro x hx
      unfold f_X3_findWays_41
      rw [stI_n (by omega) (by decide), Option.bind_some, zI_1]
      refine hn _ ⟨fun j hj => by rw [zu_n _ _ _ hj]; exact i0 j hj, fun c e hce => ?_⟩
      rw [zu_s]
      by_cases hk9 : 10 * c + e = 10 * a + b
      · rw [if_pos hk9, hk9, hx]
      · rw [if_neg hk9]
        exact i1 c e (by omega)
    show Tt (f_X3_findWays_12 k2 (fuel + 1) h (nI a) (nI b) I' L) R
    unfold f_X3_findWays_12
    rw [z0, if_neg (by rw [zI_le (by omega) (by omega)]; omega), show (10 : Int32) = nI 10 from rfl, zI_mul, zI_add, show a * 10 + b = 10 * a + b by omega]
    refine Tt_ite (fun hab => key 0 ?_) (fun hab => key 100000 ?_)
    · rw [zI_eq (by omega) (by omega)] at hab
      unfold cw v0; rw [if_pos (show (10 * a + b) / 10 = (10 * a + b) % 10 by omega)]; rfl
    · rw [zI_eq (by omega) (by omega)] at hab
      unfold cw v0; rw [if_neg (show ¬ (10 * a + b) / 10 = (10 * a + b) % 10 by omega)]; rfl
  · intro fuel I' ⟨i0, i1⟩
    have z0 : I' h 0 = nI r := by rw [i0 h (by omega)]; exact hJ
    show Tt (f_X3_findWays_12 k2 (fuel + 1) h (nI a) (nI r) I' L) R
    unfold f_X3_findWays_12
    rw [z0, if_pos (Int32.le_refl _), zI_1]
    exact hk I' i0 (fun c e hc he => i1 c e (by omega))
/-- the class finds the ways -/
theorem c_findWays {h : Nat} {J : MI} {L : ML} {w : Nat → Int32} (hw : WFd w) (hJ : CRd h J w) : Tt (f_X3_findWays h J L) (fun r => r.2 = L ∧ onlyc (h + 11) J r.1 ∧ ∀ c e, c < nw w 0 → e < nw w 0 → r.1 (h + 11) (10 * c + e) = nI (cw (cs w (10 * c + e)))) := by
  have hr := hw.1.2
  have hJ0 : J h 0 = nI (nw w 0) := hJ.1.trans hw.1.1
  unfold f_X3_findWays
  refine lp0 (fun fuel k (I : MI) => f_X3_findWays_2 fuel h (nI k) I L) (nw w 0) (fun a I => onlyc (h + 11) J I ∧ ∀ c e, c < a → e < nw w 0 → I (h + 11) (10 * c + e) = nI (cw (v0 (10 * c + e)))) (by omega) ?_ ?_ ⟨fun _ _ => rfl, fun c e hc => absurd hc (by omega)⟩
  · intro fuel a I' ha ⟨i0, i1⟩ hn
    have z0 : I' h 0 = nI (nw w 0) := by rw [i0 h (by omega)]; exact hJ0
    show Tt (f_X3_findWays_2 (fuel + 1) h (nI a) I' L) _
    unfold f_X3_findWays_2
    rw [z0, if_neg (by rw [zI_le (by omega) (by omega)]; omega)]
    exact c_12 hr ha hJ0 i0 i1 (fun I2 j0 j1 => hn I2 ⟨j0, j1⟩)
  · intro fuel I' ⟨i0, i1⟩
    have z0 : I' h 0 = nI (nw w 0) := by rw [i0 h (by omega)]; exact hJ0
    show Tt (f_X3_findWays_2 (fuel + 1) h (nI (nw w 0)) I' L) _
    unfold f_X3_findWays_2
    rw [z0, if_pos (Int32.le_refl _)]
    exact c_56 hw hJ i0 i1
