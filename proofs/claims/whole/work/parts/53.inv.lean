-- ===== worlds: what holds of every one that comes up
/-- hours gone by -/
def tm (w : Nat → Int32) : Nat := 24 * nw w 6 + nw w 7
def okN (w : Nat → Int32) (k b : Nat) : Prop := w k = nI (nw w k) ∧ nw w k ≤ b
def WFh (w : Nat → Int32) : Prop := okN w 2 6 ∧ ∀ h, h < nw w 2 → (okN w (67 + 3 * h + 0) 9 ∧ nw w (67 + 3 * h + 0) < nw w 0) ∧ okN w (67 + 3 * h + 1) 50 ∧ 1 ≤ nw w (67 + 3 * h + 1)
/-- one noise: kind, place, pitch, loud, worth, oil, rate, latest, made -/
def WFn1 (w : Nat → Int32) (n : Nat) : Prop :=
  okN w (85 + 10 * n + 0) 3 ∧ (okN w (85 + 10 * n + 1) 9 ∧ nw w (85 + 10 * n + 1) < nw w 0) ∧ okN w (85 + 10 * n + 2) 99 ∧ okN w (85 + 10 * n + 3) 99 ∧ okN w (85 + 10 * n + 4) 99 ∧ okN w (85 + 10 * n + 5) 99 ∧ (okN w (85 + 10 * n + 6) 16777215 ∧ (nw w (85 + 10 * n + 0) = 2 → nw w (85 + 10 * n + 6) ≤ 100)) ∧
  (w (85 + 10 * n + 7) = -1 ∨ (okN w (85 + 10 * n + 7) (tm w) ∧ nw w (85 + 10 * n + 7) ≤ tm w)) ∧ (w (85 + 10 * n + 9) = 0 ∨ (w (85 + 10 * n + 9) = 1 ∧ nw w (85 + 10 * n + 0) = 3))
def WFn (w : Nat → Int32) : Prop := okN w 3 12 ∧ ∀ n, n < nw w 3 → WFn1 w n
def WFt (c : Nat) (w : Nat → Int32) : Prop := okN w 4 10 ∧ (w 5 = 0 ∨ w 5 = 1) ∧ w 6 = nI (nw w 6) ∧ okN w 7 23 ∧ tm w ≤ 240 * c ∧ okN w 8 100 ∧ (w 9 = 0 ∨ w 9 = 1) ∧ w 14 = nI (min 40 (tm w)) ∧ ∀ h, nw w 2 ≤ h → h < 6 → w (67 + 3 * h + 2) = 0
def WFp (w : Nat → Int32) : Prop := ∀ ago, ago < min 40 (tm w) → ∀ h, h < 6 → w (205 + 6 * ago + h) = -1 ∨ (okN w (205 + 6 * ago + h) 9 ∧ nw w (205 + 6 * ago + h) < nw w 0 ∧ h < nw w 2)
/-- steps of a will as types: true is a truth, false a number -/
def tyS (s : Nat) (st : List Bool) : Option (List Bool) :=
  if s ≤ 5 ∨ s = 9 then (if st.length < 17 then some (false :: st) else none)
  else if s ≤ 8 then (if st.length < 17 then some (true :: st) else none)
  else match st with
    | x :: y :: r => if s = 10 ∧ x = false ∧ y = false then some (false :: r) else if (s = 11 ∨ s = 12) ∧ x = false ∧ y = false then some (true :: r) else if s = 13 ∧ x = true then some (true :: y :: r) else if (s = 14 ∨ s = 15) ∧ x = true ∧ y = true then some (true :: r) else none
    | [x] => if s = 13 ∧ x = true then some [true] else none
    | [] => none
def tyR (w : Nat → Int32) : Nat → Nat → List Bool → Option (List Bool)
  | _, 0, st => some st
  | i, n + 1, st => (tyS (nw w (494 + 2 * i)) st).bind (tyR w (i + 1) n)
/-- one line of a will -/
def WFl1 (w : Nat → Int32) (l : Nat) : Prop :=
  okN w (446 + 4 * l) 5 ∧ (w (447 + 4 * l) = -1 ∨ okN w (447 + 4 * l) 999) ∧ okN w (448 + 4 * l) 400 ∧ okN w (449 + 4 * l) 400 ∧ nw w (448 + 4 * l) ≤ nw w (449 + 4 * l) ∧ (nw w (448 + 4 * l) = if l = 0 then 0 else nw w (445 + 4 * l)) ∧
  (∀ i, nw w (448 + 4 * l) ≤ i → i < nw w (449 + 4 * l) → okN w (494 + 2 * i) 15 ∧ (nw w (494 + 2 * i) = 6 → okN w (495 + 2 * i) 3) ∧ (nw w (494 + 2 * i) = 9 → okN w (495 + 2 * i) 999)) ∧
  (nw w (448 + 4 * l) = nw w (449 + 4 * l) ∨ tyR w (nw w (448 + 4 * l)) (nw w (449 + 4 * l) - nw w (448 + 4 * l)) [] = some [true])
def WFl (w : Nat → Int32) : Prop := w 5 = 1 → okN w 445 12 ∧ ∀ l, l < nw w 445 → WFl1 w l
def WF (c : Nat) (w : Nat → Int32) : Prop := WFd w ∧ WFh w ∧ WFn w ∧ WFt c w ∧ WFp w ∧ WFl w
-- ===== a house of the class for a world
def CRh (h : Nat) (I : MI) (w : Nat → Int32) : Prop := I h 2 = w 2 ∧ ∀ k, k < 6 → I (h + 27 + k) 0 = w (67 + 3 * k + 0) ∧ I (h + 27 + k) 1 = w (67 + 3 * k + 1) ∧ I (h + 27 + k) 2 = w (67 + 3 * k + 2)
def CRn1 (a : Nat) (I : MI) (w : Nat → Int32) (k : Nat) : Prop :=
  I a 0 = w (85 + 10 * k + 0) ∧ I a 1 = w (85 + 10 * k + 6) ∧ I a 2 = w (85 + 10 * k + 1) ∧ I a 3 = w (85 + 10 * k + 2) ∧ I a 4 = w (85 + 10 * k + 3) ∧ I a 5 = w (85 + 10 * k + 4) ∧ I a 6 = w (85 + 10 * k + 5) ∧ I a 7 = w (85 + 10 * k + 7) ∧ I a 8 = w (85 + 10 * k + 8) ∧ I a 9 = w (85 + 10 * k + 9)
def CRn (h : Nat) (I : MI) (w : Nat → Int32) : Prop := I h 3 = w 3 ∧ ∀ k, k < 12 → (k < nw w 3 → CRn1 (h + 33 + k) I w k) ∧ (nw w 3 ≤ k → I (h + 33 + k) 6 = 0 ∧ I (h + 33 + k) 7 = -1 ∧ I (h + 33 + k) 8 = 0 ∧ I (h + 33 + k) 9 = 0)
def CRt (h : Nat) (I : MI) (w : Nat → Int32) : Prop := I h 11 = w 4 ∧ I h 12 = nI (tm w) ∧ I h 13 = w 8 ∧ I h 14 = w 9 ∧ I h 15 = w 10 ∧ I h 16 = w 11 ∧ I h 17 = w 12 ∧ I h 18 = w 13
def CRv (h : Nat) (I : MI) (w : Nat → Int32) : Prop := ∀ a b, a < nw w 0 → b < nw w 0 → I (h + 11) (10 * a + b) = nI (cw (cs w (10 * a + b)))
/-- who sat where, so many hours ago, in bits -/
def seatsN (w : Nat → Int32) (ago : Nat) : Nat → Int64
  | 0 => 0
  | n + 1 => seatsN w ago n ||| (if w (205 + 6 * ago + n) = -1 then (0 : Int64) else (1 : Int64) <<< Int64.ofNat (6 * nw w (205 + 6 * ago + n) + n))
def CRp (h : Nat) (L : ML) (w : Nat → Int32) : Prop := ∀ ago, ago < min 40 (tm w) → L (h + 12) ((tm w - 1 - ago) % 40) = seatsN w ago 6
/-- a step of the reference's will as the class's code -/
def enc (s a : Int32) : Int32 := if s = 6 then a else if s = 7 then 4 else if s = 8 then 5 else if s = 9 then 18 + a else if s = 10 then 15 else if s = 11 then 16 else if s = 12 then 17 else if s = 13 then 12 else if s = 14 then 14 else if s = 15 then 13 else 6 + s
def CRl (h : Nat) (I : MI) (w : Nat → Int32) : Prop := I (h + 5) 4 = (if w 5 = 1 then w 445 else -1) ∧ (w 5 = 1 → ∀ l, l < nw w 445 → I (h + 6) l = w (446 + 4 * l) ∧ I (h + 7) l = w (447 + 4 * l) ∧ I (h + 8) l = w (449 + 4 * l) ∧ ∀ i, i < nw w (449 + 4 * l) → I (h + 9) i = enc (w (494 + 2 * i)) (w (495 + 2 * i)))
def CR (h : Nat) (I : MI) (L : ML) (w : Nat → Int32) : Prop := CRd h I w ∧ CRh h I w ∧ CRn h I w ∧ CRt h I w ∧ CRv h I w ∧ CRp h L w ∧ CRl h I w
theorem CR_cg {h : Nat} {I I' : MI} {L L' : ML} {w : Nat → Int32} (hI : ∀ k, k < 45 → k ≠ 10 → I' (h + k) = I (h + k)) (hL : L' (h + 12) = L (h + 12)) (c : CR h I L w) : CR h I' L' w := by
  have h0 : I' h = I h := hI 0 (by decide) (by decide)
  have h1 := hI 1 (by decide) (by decide)
  have h5 := hI 5 (by decide) (by decide)
  have h6 := hI 6 (by decide) (by decide)
  have h7 := hI 7 (by decide) (by decide)
  have h8 := hI 8 (by decide) (by decide)
  have h9 := hI 9 (by decide) (by decide)
  have h11 := hI 11 (by decide) (by decide)
  have hD : ∀ d, d < 14 → I' (h + 13 + d) = I (h + 13 + d) := fun d hd => by rw [show h + 13 + d = h + (13 + d) by omega]; exact hI _ (by omega) (by omega)
  have hE : ∀ d, d < 6 → I' (h + 27 + d) = I (h + 27 + d) := fun d hd => by rw [show h + 27 + d = h + (27 + d) by omega]; exact hI _ (by omega) (by omega)
  have hN : ∀ d, d < 12 → I' (h + 33 + d) = I (h + 33 + d) := fun d hd => by rw [show h + 33 + d = h + (33 + d) by omega]; exact hI _ (by omega) (by omega)
  obtain ⟨⟨a1, a2, a3, a4⟩, ⟨b1, b2⟩, ⟨c1, c2⟩, d1, e1, f1, ⟨g1, g2⟩⟩ := c
  refine ⟨⟨by rw [h0]; exact a1, by rw [h0]; exact a2, by rw [h1]; exact a3, fun d hd => by rw [hD d hd]; exact a4 d hd⟩, ⟨by rw [h0]; exact b1, fun d hd => by rw [hE d hd]; exact b2 d hd⟩, ⟨by rw [h0]; exact c1, fun k hk => ?_⟩, by unfold CRt; rw [h0]; exact d1, by unfold CRv; rw [h11]; exact e1, by unfold CRp; rw [hL]; exact f1, ⟨by rw [h5]; exact g1, by rw [h6, h7, h8, h9]; exact g2⟩⟩
  obtain ⟨p1, p2⟩ := c2 k hk
  refine ⟨fun hk9 => ?_, fun hk9 => ?_⟩
  · unfold CRn1; rw [hN k hk]; exact p1 hk9
  · rw [hN k hk]; exact p2 hk9
-- ===== the whole
/-- world, image, tape, its length, fault, acts (sort, which, before, seed; the latest first) -/
abbrev Act : Type := Nat × Nat × Int32 × Int32
abbrev AS : Type := (Nat → Int32) × Option (Nat → Int32) × (Nat → Int32) × Nat × Int32 × List Act
def setw (w : Nat → Int32) (k : Nat) (x : Int32) : Nat → Int32 := fun j => if j = k then x else w j
def actAt (s q : Nat) : Nat := if s = 0 then 67 + 3 * q + 0 else if s = 1 then 85 + 10 * q + 9 else if s = 2 then 85 + 10 * q + 5 else 15 + q
/-- one act undone -/
def undo1 (a : Act) (w : Nat → Int32) : Nat → Int32 := setw (setw w (actAt a.1 a.2.1) a.2.2.1) 13 a.2.2.2
def undoL : List Act → (Nat → Int32) → Nat → Int32
  | [], w => w
  | a :: r, w => undoL r (undo1 a w)
/-- an act that can be undone in w -/
def okA (w : Nat → Int32) (a : Act) : Prop :=
  (a.1 = 0 ∧ a.2.1 < nw w 2 ∧ ∃ x, a.2.2.1 = nI x ∧ x < nw w 0) ∨ (a.1 = 1 ∧ a.2.1 < nw w 3 ∧ nw w (85 + 10 * a.2.1 + 0) = 3 ∧ (a.2.2.1 = 0 ∨ a.2.2.1 = 1)) ∨ (a.1 = 2 ∧ a.2.1 < nw w 3 ∧ ∃ x, a.2.2.1 = nI x ∧ x ≤ 99) ∨ (a.1 = 3 ∧ a.2.1 < nw w 0 ∧ ∃ x, a.2.2.1 = nI x ∧ x ≤ 20)
def AI (c : Nat) (A : AS) : Prop := WF c A.1 ∧ (∀ v, A.2.1 = some v → WF c v) ∧ (∀ k, k < 400 → A.2.2.1 k = (A.2.2.1 k).toInt8.toInt32) ∧ A.2.2.2.1 ≤ 400 ∧ A.2.2.2.2.2.length ≤ 12 ∧ ∀ a ∈ A.2.2.2.2.2, okA A.1 a
/-- the class's cells, now at h, the draft at d -/
def CJ (h d : Nat) (I : MI) (L : ML) (A : AS) : Prop :=
  I 0 4 = nI h ∧ I 0 5 = nI d ∧ CR h I L A.1 ∧
  I 0 7 = bI A.2.1.isSome ∧ (∀ v, A.2.1 = some v → CR 104 I L v) ∧
  I 1 1 = nI A.2.2.2.1 ∧ (∀ k, k < 400 → I 2 k = A.2.2.1 k) ∧ I 1 7 = A.2.2.2.2.1 ∧
  I 3 4 = nI A.2.2.2.2.2.length ∧ ∃ x, x < 12 ∧ I 3 5 = nI x ∧ ∀ j a, A.2.2.2.2.2[j]? = some a → I 4 ((x + 11 - j) % 12) = nI a.1 ∧ I 5 ((x + 11 - j) % 12) = nI a.2.1 ∧ I 6 ((x + 11 - j) % 12) = a.2.2.1 ∧ I 7 ((x + 11 - j) % 12) = a.2.2.2
def HD (h d : Nat) : Prop := (h = 14 ∧ d = 59) ∨ (h = 59 ∧ d = 14)
def CI9 (I : MI) (L : ML) (A : AS) : Prop := ∃ h d, HD h d ∧ CJ h d I L A
/-- the reference's cells -/
def RI9 (I : MI) (L : ML) (A : AS) : Prop :=
  I 150 = A.1 ∧ I 149 5 = bI A.2.1.isSome ∧ (∀ v, A.2.1 = some v → ∀ k, k < 1294 → I 151 k = v k) ∧
  I 149 8 = nI A.2.2.2.1 ∧ (∀ k, k < 400 → I 154 k = A.2.2.1 k) ∧ I 149 13 = A.2.2.2.2.1 ∧
  I 149 6 = nI A.2.2.2.2.2.length ∧ ∀ j, j < A.2.2.2.2.2.length → ∀ k, k < 445 → I 153 (445 * j + k) = undoL (A.2.2.2.2.2.take (A.2.2.2.2.2.length - j)) A.1 k
def Inv9 (c : Nat) (I : MI) (L : ML) : Prop := ∃ A : AS, AI c A ∧ CI9 I L A ∧ RI9 I L A
/-- what may change without a trace: the rows of parting and quieting, the draft, the will's stack -/
def scr (h d q : Nat) : Prop := (8 ≤ q ∧ q ≤ 13) ∨ (d ≤ q ∧ q < d + 45) ∨ q = h + 10 ∨ q = 114
theorem CJ_cg {h d : Nat} (hd : HD h d) {I I' : MI} {L L' : ML} {A : AS} (hI : ∀ q, q < 149 → ¬ scr h d q → I' q = I q) (hL : ∀ q, q < 149 → ¬ scr h d q → L' q = L q) (c : CJ h d I L A) : CJ h d I' L' A := by
  obtain ⟨a1, a2, a3, b1, b2, c1, c2, c3, d1, d2⟩ := c
  have hs : ∀ q, q < 8 → ¬ scr h d q := fun q hq h9 => by unfold scr at h9; unfold HD at hd; omega
  have hh : ∀ k, k < 45 → k ≠ 10 → ¬ scr h d (h + k) := fun k hk h10 h9 => by unfold scr at h9; unfold HD at hd; omega
  have hk : ∀ k, k < 45 → k ≠ 10 → ¬ scr h d (104 + k) := fun k hk h10 h9 => by unfold scr at h9; unfold HD at hd; omega
  have hlt : h + 45 ≤ 104 := by unfold HD at hd; omega
  have e : ∀ q, q < 8 → I' q = I q := fun q hq => hI q (by omega) (hs q hq)
  refine ⟨by rw [e 0 (by decide)]; exact a1, by rw [e 0 (by decide)]; exact a2, CR_cg (fun k h1 h2 => hI _ (by omega) (hh k h1 h2)) (hL _ (by omega) (hh 12 (by decide) (by decide))) a3, by rw [e 0 (by decide)]; exact b1, fun v hv => CR_cg (fun k h1 h2 => hI _ (by omega) (hk k h1 h2)) (hL _ (by omega) (hk 12 (by decide) (by decide))) (b2 v hv), by rw [e 1 (by decide)]; exact c1, by rw [e 2 (by decide)]; exact c2, by rw [e 1 (by decide)]; exact c3, by rw [e 3 (by decide)]; exact d1, ?_⟩
  rw [e 3 (by decide), e 4 (by decide), e 5 (by decide), e 6 (by decide), e 7 (by decide)]
  exact d2
theorem CI9_cg {I I' : MI} {L L' : ML} {A : AS} (hI : ∀ q, q < 149 → I' q = I q) (hL : ∀ q, q < 149 → L' q = L q) (c : CI9 I L A) : CI9 I' L' A := by
  obtain ⟨h, d, hd, c⟩ := c
  exact ⟨h, d, hd, CJ_cg hd (fun q hq _ => hI q hq) (fun q hq _ => hL q hq) c⟩
theorem RI9_cg {I I' : MI} {L L' : ML} {A : AS} (hI : ∀ q, 149 ≤ q → q ≠ 156 → q ≠ 157 → q ≠ 158 → q ≠ 152 → q ≠ 155 → I' q = I q) (c : RI9 I L A) : RI9 I' L' A := by
  unfold RI9
  rw [hI 149 (by decide) (by decide) (by decide) (by decide) (by decide) (by decide), hI 150 (by decide) (by decide) (by decide) (by decide) (by decide) (by decide), hI 151 (by decide) (by decide) (by decide) (by decide) (by decide) (by decide), hI 154 (by decide) (by decide) (by decide) (by decide) (by decide) (by decide), hI 153 (by decide) (by decide) (by decide) (by decide) (by decide) (by decide)]
  exact c
/-- of the reference's own numbers only those that aren't kept differ -/
theorem RI9_149 {I I' : MI} {L L' : ML} {A : AS} (hI : ∀ q, 149 < q → q ≠ 156 → q ≠ 157 → q ≠ 158 → q ≠ 152 → q ≠ 155 → I' q = I q) (h5 : I' 149 5 = I 149 5) (h6 : I' 149 6 = I 149 6) (h8 : I' 149 8 = I 149 8) (h13 : I' 149 13 = I 149 13) (c : RI9 I L A) : RI9 I' L' A := by
  unfold RI9
  rw [h5, h6, h8, h13, hI 150 (by decide) (by decide) (by decide) (by decide) (by decide) (by decide), hI 151 (by decide) (by decide) (by decide) (by decide) (by decide) (by decide), hI 154 (by decide) (by decide) (by decide) (by decide) (by decide) (by decide), hI 153 (by decide) (by decide) (by decide) (by decide) (by decide) (by decide)]
  exact c
-- ===== one call, the two sides
/-- the class's end of a call that may throw: res is the throw's number, or the answer -/
def CpX {T : Type} (hs : List String) (I : MI) (A' : AS) (res : Nat ⊕ T) (r : (String ⊕ T) × MI × ML) : Prop :=
  (match res with
    | .inl n => ∃ e, r.1 = .inl e ∧ ∀ L, wkE hs e L = some (nI n, L)
    | .inr v => r.1 = .inr v) ∧ CI9 r.2.1 r.2.2 A' ∧ ∀ q, 149 ≤ q → r.2.1 q = I q
/-- the reference's -/
def RpX {T : Type} (I : MI) (L : ML) (A' : AS) (res : Nat ⊕ T) (r : T × MI × ML) : Prop :=
  (match res with
    | .inl n => r.2.1 149 0 = nI n ∧ nI n ≠ 0
    | .inr v => r.2.1 149 0 = 0 ∧ r.1 = v) ∧ RI9 r.2.1 r.2.2 A' ∧ (∀ q, q < 149 → r.2.1 q = I q ∧ r.2.2 q = L q) ∧ r.2.2 160 = L 160
theorem mkSI {hs : List String} {I : MI} {L : ML} {A A' : AS} {res : Nat ⊕ Int32} {ca : Option ((String ⊕ Int32) × MI × ML)} {cb : MI → ML → Option (Int32 × MI × ML)} (hR : RI9 I L A) (hc : Tt ca (CpX hs I A' res)) (hr : ∀ I' L', RI9 I' L' A → Tt (cb I' L') (RpX I' L' A' res)) : ∃ I' L', SI hs ca cb I' L' ∧ CI9 I' L' A' ∧ RI9 I' L' A' := by
  obtain ⟨ra, ha, h1, h2, h3⟩ := hc
  have key : ∃ k L1, wkI hs ra.1 ra.2.2 = some (k, L1) ∧ (∀ q, q < 149 → L1 q = ra.2.2 q) ∧ (match res with | .inl n => k = nI n | .inr v => k = 0 ∧ L1 160 0 = v.toInt64) := by
    cases res with
    | inl n =>
      obtain ⟨e, e1, e2⟩ := h1
      exact ⟨nI n, ra.2.2, by rw [e1]; exact e2 _, fun _ _ => rfl, rfl⟩
    | inr v =>
      have h1 : ra.1 = .inr v := h1
      exact ⟨0, upl ra.2.2 160 0 v.toInt64, by rw [h1]; rfl, fun q hq => zl_n _ _ _ (by omega), rfl, by rw [zl_s, if_pos rfl]⟩
  obtain ⟨k, L1, k1, k2, k3⟩ := key
  obtain ⟨rb, hb, r1, r2, r3, r4⟩ := hr ra.2.1 L1 (RI9_cg (fun q hq _ _ _ _ _ => h3 q hq) hR)
  refine ⟨rb.2.1, rb.2.2, ⟨ra, k, L1, rb, ha, k1, hb, ?_, ?_, rfl, rfl⟩, CI9_cg (fun q hq => (r3 q hq).1) (fun q hq => (r3 q hq).2.trans (k2 q hq)) h2, r2⟩
  · show some (rb.2.1 149 0) = some k
    cases res with
    | inl n => rw [r1.1]; exact congrArg some k3.symm
    | inr v => rw [r1.1]; exact congrArg some k3.1.symm
  · intro hk0
    cases res with
    | inl n => exact absurd (k3.symm.trans hk0) r1.2
    | inr v =>
      rw [r4, r1.2]; exact k3.2
theorem mkSJ {hs : List String} {I : MI} {L : ML} {A A' : AS} {res : Nat ⊕ Int64} {ca : Option ((String ⊕ Int64) × MI × ML)} {cb : MI → ML → Option (Int64 × MI × ML)} (hR : RI9 I L A) (hc : Tt ca (CpX hs I A' res)) (hr : ∀ I' L', RI9 I' L' A → Tt (cb I' L') (RpX I' L' A' res)) : ∃ I' L', SJ hs ca cb I' L' ∧ CI9 I' L' A' ∧ RI9 I' L' A' := by
  obtain ⟨ra, ha, h1, h2, h3⟩ := hc
  have key : ∃ k L1, wkJ hs ra.1 ra.2.2 = some (k, L1) ∧ (∀ q, q < 149 → L1 q = ra.2.2 q) ∧ (match res with | .inl n => k = nI n | .inr v => k = 0 ∧ L1 160 0 = v) := by
    cases res with
    | inl n =>
      obtain ⟨e, e1, e2⟩ := h1
      exact ⟨nI n, ra.2.2, by rw [e1]; exact e2 _, fun _ _ => rfl, rfl⟩
    | inr v =>
      have h1 : ra.1 = .inr v := h1
      exact ⟨0, upl ra.2.2 160 0 v, by rw [h1]; rfl, fun q hq => zl_n _ _ _ (by omega), rfl, by rw [zl_s, if_pos rfl]⟩
  obtain ⟨k, L1, k1, k2, k3⟩ := key
  obtain ⟨rb, hb, r1, r2, r3, r4⟩ := hr ra.2.1 L1 (RI9_cg (fun q hq _ _ _ _ _ => h3 q hq) hR)
  refine ⟨rb.2.1, rb.2.2, ⟨ra, k, L1, rb, ha, k1, hb, ?_, ?_, rfl, rfl⟩, CI9_cg (fun q hq => (r3 q hq).1) (fun q hq => (r3 q hq).2.trans (k2 q hq)) h2, r2⟩
  · show some (rb.2.1 149 0) = some k
    cases res with
    | inl n => rw [r1.1]; exact congrArg some k3.symm
    | inr v => rw [r1.1]; exact congrArg some k3.1.symm
  · intro hk0
    cases res with
    | inl n => exact absurd (k3.symm.trans hk0) r1.2
    | inr v =>
      rw [r4, r1.2]; exact k3.2
theorem mkSB {hs : List String} {I : MI} {L : ML} {A A' : AS} {res : Nat ⊕ Bool} {ca : Option ((String ⊕ Bool) × MI × ML)} {cb : MI → ML → Option (Bool × MI × ML)} (hR : RI9 I L A) (hc : Tt ca (CpX hs I A' res)) (hr : ∀ I' L', RI9 I' L' A → Tt (cb I' L') (RpX I' L' A' res)) : ∃ I' L', SB hs ca cb I' L' ∧ CI9 I' L' A' ∧ RI9 I' L' A' := by
  obtain ⟨ra, ha, h1, h2, h3⟩ := hc
  have key : ∃ k L1, wkB hs ra.1 ra.2.2 = some (k, L1) ∧ (∀ q, q < 149 → L1 q = ra.2.2 q) ∧ (match res with | .inl n => k = nI n | .inr v => k = 0 ∧ L1 160 0 = (if v = true then 1 else 0)) := by
    cases res with
    | inl n =>
      obtain ⟨e, e1, e2⟩ := h1
      exact ⟨nI n, ra.2.2, by rw [e1]; exact e2 _, fun _ _ => rfl, rfl⟩
    | inr v =>
      have h1 : ra.1 = .inr v := h1
      exact ⟨0, upl ra.2.2 160 0 (if v = true then 1 else 0), by rw [h1]; rfl, fun q hq => zl_n _ _ _ (by omega), rfl, by rw [zl_s, if_pos rfl]⟩
  obtain ⟨k, L1, k1, k2, k3⟩ := key
  obtain ⟨rb, hb, r1, r2, r3, r4⟩ := hr ra.2.1 L1 (RI9_cg (fun q hq _ _ _ _ _ => h3 q hq) hR)
  refine ⟨rb.2.1, rb.2.2, ⟨ra, k, L1, rb, ha, k1, hb, ?_, ?_, rfl, rfl⟩, CI9_cg (fun q hq => (r3 q hq).1) (fun q hq => (r3 q hq).2.trans (k2 q hq)) h2, r2⟩
  · show some (rb.2.1 149 0) = some k
    cases res with
    | inl n => rw [r1.1]; exact congrArg some k3.symm
    | inr v => rw [r1.1]; exact congrArg some k3.1.symm
  · intro hk0
    cases res with
    | inl n => exact absurd (k3.symm.trans hk0) r1.2
    | inr v =>
      rw [r4, r1.2]; exact k3.2
/-- calls that don't throw -/
def CpD {T : Type} (I : MI) (A' : AS) (v : T) (r : T × MI × ML) : Prop := r.1 = v ∧ CI9 r.2.1 r.2.2 A' ∧ ∀ q, 149 ≤ q → r.2.1 q = I q
def RpD {T : Type} (I : MI) (L : ML) (A' : AS) (v : T) (r : T × MI × ML) : Prop := r.1 = v ∧ RI9 r.2.1 r.2.2 A' ∧ ∀ q, q < 149 → r.2.1 q = I q ∧ r.2.2 q = L q
theorem mkSD {T : Type} {I : MI} {L : ML} {A A' : AS} {v : T} {ca : Option (T × MI × ML)} {cb : MI → ML → Option (T × MI × ML)} (hR : RI9 I L A) (hc : Tt ca (CpD I A' v)) (hr : ∀ I' L', RI9 I' L' A → Tt (cb I' L') (RpD I' L' A' v)) : ∃ I' L', SD ca cb I' L' ∧ CI9 I' L' A' ∧ RI9 I' L' A' := by
  obtain ⟨ra, ha, h1, h2, h3⟩ := hc
  obtain ⟨rb, hb, r1, r2, r3⟩ := hr ra.2.1 ra.2.2 (RI9_cg (fun q hq _ _ _ _ _ => h3 q hq) hR)
  exact ⟨rb.2.1, rb.2.2, ⟨ra, rb, ha, hb, h1.trans r1.symm, rfl, rfl⟩, CI9_cg (fun q hq => (r3 q hq).1) (fun q hq => (r3 q hq).2) h2, r2⟩
theorem mkSP {I : MI} {L : ML} {A : AS} {v : Int32} {ca : Option Int32} {cb : MI → ML → Option (Int32 × MI × ML)} (hC : CI9 I L A) (hR : RI9 I L A) (hc : ca = some v) (hr : ∀ I' L', RI9 I' L' A → Tt (cb I' L') (RpD I' L' A v)) : ∃ I' L', SP ca (cb I L) I' L' ∧ CI9 I' L' A ∧ RI9 I' L' A := by
  obtain ⟨rb, hb, r1, r2, r3⟩ := hr I L hR
  exact ⟨rb.2.1, rb.2.2, ⟨v, rb, hc, hb, r1.symm, rfl, rfl⟩, CI9_cg (fun q hq => (r3 q hq).1) (fun q hq => (r3 q hq).2) hC, r2⟩
