-- ===== bytes of the tape
theorem by_d : ∀ n, n < 256 → (n < 128 → (Int8.ofNat n).toInt32 = nI n ∧ (Int8.ofNat n).toInt32 &&& 255 = nI n) ∧ (128 ≤ n → (Int8.ofNat n).toInt32 < 0 ∧ (Int8.ofNat n).toInt32 &&& 255 = nI n) := by decide +kernel
theorem byte_c {x : Int32} (h : x = x.toInt8.toInt32) : (∃ k, k < 128 ∧ x = nI k ∧ x &&& 255 = nI k) ∨ (x < 0 ∧ ∃ k, 128 ≤ k ∧ k < 256 ∧ x &&& 255 = nI k) := by
  have hn : x.toInt8.toBitVec.toNat < 256 := x.toInt8.toBitVec.isLt
  have e : x.toInt8 = Int8.ofNat x.toInt8.toBitVec.toNat := by rw [Int8.ofNat_bitVecToNat, Int8.ofBitVec_toBitVec]
  have hd := by_d _ hn
  rw [← e, ← h] at hd
  by_cases h1 : x.toInt8.toBitVec.toNat < 128
  · exact Or.inl ⟨_, h1, hd.1 h1⟩
  · exact Or.inr ⟨(hd.2 (by omega)).1, _, by omega, hn, (hd.2 (by omega)).2⟩
def prP (R : Nat) (x : Int32) : Prop := ∃ r, r < R ∧ x = nI (97 + r)
def plP (x : Int32) : Prop := ∃ l, l ≤ 99 ∧ x = nI l
theorem c_hasR {h R : Nat} {I : MI} {L : ML} {x : Int32} (hb : x = x.toInt8.toInt32) (h0 : I h 0 = nI R) (hR : R ≤ 10) : ∃ b, f_X3_hasRoom h ((x &&& 255) - 97) I L = some b ∧ (b = true ↔ prP R x) := by
  have big : ∀ k, 97 + R ≤ k → k < 256 → x &&& 255 = nI k → f_X3_hasRoom h ((x &&& 255) - 97) I L = some false := by
    intro k h1 h2 h3
    unfold f_X3_hasRoom f_X3_hasRoom_16 f_X3_hasRoom_17
    rw [h3, show (97 : Int32) = nI 97 from rfl, zI_sub (by omega), if_neg (zI_nn (by omega)), h0, if_pos ((zI_le (by omega) (by omega)).mpr (by omega))]
  rcases byte_c hb with ⟨k, k1, k2, k3⟩ | ⟨k1, k, k2, k3, k4⟩
  · by_cases h1 : k < 97
    · refine ⟨false, ?_, fun h => absurd h Bool.false_ne_true, fun ⟨r, hr, e⟩ => ?_⟩
      · unfold f_X3_hasRoom f_X3_hasRoom_16 f_X3_hasRoom_17
        rw [k3, if_pos]
        have e97 : (97 : Int32).toInt = 97 := by decide
        have e0 : (0 : Int32).toInt = 0 := by decide
        rw [Int32.lt_iff_toInt_lt, ti_sub (by rw [zI_ti (by omega), e97]; omega) (by rw [zI_ti (by omega), e97]; omega), zI_ti (by omega), e97, e0]; omega
      · rw [k2, zI_eq (by omega) (by omega)] at e; omega
    · by_cases h2 : k < 97 + R
      · refine ⟨true, ?_, fun _ => ⟨k - 97, by omega, by rw [k2, show 97 + (k - 97) = k by omega]⟩, fun _ => rfl⟩
        unfold f_X3_hasRoom f_X3_hasRoom_16 f_X3_hasRoom_17
        rw [k3, show (97 : Int32) = nI 97 from rfl, zI_sub (by omega), if_neg (zI_nn (by omega)), h0, if_neg (fun h9 => by have := (zI_le (by omega) (by omega)).mp h9; omega)]
      · refine ⟨false, big k (by omega) (by omega) k3, fun h => absurd h Bool.false_ne_true, fun ⟨r, hr, e⟩ => ?_⟩
        rw [k2, zI_eq (by omega) (by omega)] at e; omega
  · refine ⟨false, big k (by omega) k3 k4, fun h => absurd h Bool.false_ne_true, fun ⟨r, hr, e⟩ => ?_⟩
    rw [e] at k1
    exact absurd k1 (zI_nn (by omega))
theorem r_noR {R : Nat} {I : MI} {L : ML} {x : Int32} (h0 : I 150 0 = nI R) (hR : R ≤ 10) : ∃ b, f_X12_noRoom (x - 97) I L = some b ∧ (b = false ↔ prP R x) := by
  by_cases h : prP R x
  · obtain ⟨r, hr, rfl⟩ := id h
    refine ⟨false, ?_, fun _ => h, fun _ => rfl⟩
    rw [show (97 : Int32) = nI 97 from rfl, zI_sub (by omega), show 97 + r - 97 = r by omega]
    exact r_noRoom_t h0 hR hr
  · refine ⟨true, r_noRoom_f h0 hR (fun k hk e => h ⟨k, hk, ?_⟩), fun h9 => (by cases h9), fun h9 => absurd h9 h⟩
    rw [← zI_add, ← e, show nI 97 = (97 : Int32) from rfl, Int32.add_comm, Int32.sub_add_cancel]
theorem c_lo {x : Int32} (hb : x = x.toInt8.toInt32) : (x &&& 255) ≤ 99 ↔ plP x := by
  rw [show (99 : Int32) = nI 99 from rfl]
  rcases byte_c hb with ⟨k, k1, k2, k3⟩ | ⟨k1, k, k2, k3, k4⟩
  · rw [k3, zI_le (by omega) (by decide)]
    constructor
    · intro h; exact ⟨k, h, k2⟩
    · rintro ⟨l, hl, e⟩
      rw [k2, zI_eq (by omega) (by omega)] at e; omega
  · rw [k4, zI_le (by omega) (by decide)]
    constructor
    · intro h; omega
    · rintro ⟨l, hl, e⟩
      rw [e] at k1
      exact absurd k1 (zI_nn (by omega))
theorem r_lo {x : Int32} : (¬ x < 0 ∧ ¬ 99 < x) ↔ plP x := by
  constructor
  · intro h
    obtain ⟨l, -, hl, e⟩ := rng_t (a := 0) (b := 99) (by decide) (by decide) h
    exact ⟨l, hl, e⟩
  · rintro ⟨l, hl, rfl⟩
    exact ⟨zI_nn (by omega), by rw [show (99 : Int32) = nI 99 from rfl, zI_lt (by decide) (by omega)]; omega⟩
theorem c_byte {I : MI} {L : ML} {k : Nat} (hk : k < 400) : f_X8_byteAt (nI k) I L = some (I 2 k &&& 255) := by
  unfold f_X8_byteAt f_X8_byteAt_25
  rw [if_neg (zI_nn (by omega)), if_pos (by rw [show (400 : Int32) = nI 400 from rfl, zI_lt (by omega) (by decide)]; exact hk), ldI_n hk (by decide), Option.bind_some]
theorem b_lo {x : Int32} (hb : x = x.toInt8.toInt32) {k : Nat} (hk : k < 128) (e : x = nI k) : x &&& 255 = nI k := by
  rcases byte_c hb with ⟨j, j1, j2, j3⟩ | ⟨j1, -⟩
  · rw [j3, zI_eq (by omega) (by omega)]
    rw [j2, zI_eq (by omega) (by omega)] at e; exact e
  · rw [e] at j1; exact absurd j1 (zI_nn (by omega))
/-- the tape tells of a ghost -/
def okT (R : Nat) (tp : Nat → Int32) (i : Nat) : Prop := (i % 2 = 0 → prP R (tp i)) ∧ (i % 2 = 1 → plP (tp i))
def VT (R : Nat) (tp : Nat → Int32) (T : Nat) : Prop := 2 ≤ T ∧ T ≤ 12 ∧ T % 2 = 0 ∧ ∀ i, i < T → okT R tp i
theorem c_tells {h d0 R T : Nat} {I : MI} {L : ML} {tp : Nat → Int32} (hd : HD h d0) (e : I 0 4 = nI h) (h0 : I h 0 = nI R) (hR : R ≤ 10) (h2 : ∀ k, k < 400 → I 2 k = tp k) (hb : ∀ k, k < 400 → tp k = (tp k).toInt8.toInt32) (hT : T ≤ 400) : ∃ b, f_X11_tellsGhost (nI T) I L = some b ∧ (b = true ↔ VT R tp T) := by
  unfold f_X11_tellsGhost f_X11_tellsGhost_17
  by_cases t1 : T < 2
  · rw [if_pos (by rw [show (2 : Int32) = nI 2 from rfl, zI_lt (by omega) (by decide)]; exact t1)]
    exact ⟨false, rfl, fun h => absurd h Bool.false_ne_true, fun h => absurd h.1 (by omega)⟩
  · rw [if_neg (by rw [show (2 : Int32) = nI 2 from rfl, zI_lt (by omega) (by decide)]; exact t1)]
    by_cases t2 : 12 < T
    · rw [if_pos (by rw [show (12 : Int32) = nI 12 from rfl, zI_lt (by decide) (by omega)]; exact t2)]
      exact ⟨false, rfl, fun h => absurd h Bool.false_ne_true, fun h => absurd h.2.1 (by omega)⟩
    · rw [if_neg (by rw [show (12 : Int32) = nI 12 from rfl, zI_lt (by decide) (by omega)]; exact t2), show (2 : Int32) = nI 2 from rfl, zI_mod (by omega) (by decide)]
      by_cases t3 : T % 2 = 0
      · rw [if_pos (by rw [t3]; rfl)]
        have key : Tt (f_X11_tellsGhost_21 FU (nI T) 0 I L) (fun b => (b = true ↔ VT R tp T)) := by
          refine lp0 (fun fuel k (_ : Unit) => f_X11_tellsGhost_21 fuel (nI T) (nI (2 * k)) I L) (T / 2) (fun k _ => ∀ i, i < 2 * k → okT R tp i) (by omega) ?_ ?_ (s := ()) (fun i hi => absurd hi (by omega))
          · intro fuel k _ hk hinv hnx
            obtain ⟨b, b1, b2⟩ := c_hasR (h := h) (I := I) (L := L) (hb (2 * k) (by omega)) h0 hR
            show Tt (f_X11_tellsGhost_21 (fuel + 1) (nI T) (nI (2 * k)) I L) _
            unfold f_X11_tellsGhost_21 f_X11_tellsGhost_66
            rw [zI_1 (2 * k), if_neg (le_n (by omega) (by omega) (by omega)), c_byte (by omega), Option.bind_some, hs_h hd e, Option.bind_some, h2 _ (by omega), b1, Option.bind_some, c_byte (by omega), Option.bind_some, h2 _ (by omega)]
            by_cases g1 : b = true
            · rw [if_pos g1]
              by_cases g2 : plP (tp (2 * k + 1))
              · rw [if_pos ((c_lo (hb _ (by omega))).mpr g2), show (2 : Int32) = nI 2 from rfl, zI_add, show 2 * k + 2 = 2 * (k + 1) by omega]
                refine hnx () (fun i hi => ?_)
                by_cases g3 : i < 2 * k
                · exact hinv i g3
                · by_cases g4 : i = 2 * k
                  · subst g4; exact ⟨fun _ => b2.mp g1, fun h => absurd h (by omega)⟩
                  · have g5 : i = 2 * k + 1 := by omega
                    subst g5; exact ⟨fun h => absurd h (by omega), fun _ => g2⟩
              · rw [if_neg (fun h => g2 ((c_lo (hb _ (by omega))).mp h))]
                exact Tt_some ⟨fun h => (by cases h), fun h => absurd ((h.2.2.2 (2 * k + 1) (by omega)).2 (by omega)) g2⟩
            · rw [if_neg g1]
              exact Tt_some ⟨fun h => (by cases h), fun h => absurd (b2.mpr ((h.2.2.2 (2 * k) (by omega)).1 (by omega))) g1⟩
          · intro fuel _ hinv
            show Tt (f_X11_tellsGhost_21 (fuel + 1) (nI T) (nI (2 * (T / 2))) I L) _
            unfold f_X11_tellsGhost_21
            rw [zI_1, if_pos ((zI_le (by omega) (by omega)).mpr (by omega))]
            exact Tt_some ⟨fun _ => ⟨by omega, by omega, t3, fun i hi => hinv i (by omega)⟩, fun _ => rfl⟩
        exact key
      · rw [if_neg (by rw [zI_0, zI_eq (by omega) (by decide)]; exact t3)]
        exact ⟨false, rfl, fun h => absurd h Bool.false_ne_true, fun h => absurd h.2.2.1 t3⟩
/-- how loud it would be there -/
def gvl (w tp : Nat → Int32) (r l j : Nat) : Nat := l - cs w (10 * r + (nw tp (2 * j) - 97)) - nw w (15 + r)
def gB (w tp : Nat → Int32) (r l : Nat) : Nat → Bool
  | 0 => true
  | j + 1 => gB w tp r l j && decide (gvl w tp r l j = nw tp (2 * j + 1))
theorem gB_f {w tp : Nat → Int32} {r l k : Nat} (h : gB w tp r l k = false) : ∀ m, gB w tp r l (k + m) = false := by
  intro m
  induction m with
  | zero => exact h
  | succ m ih =>
    show (gB w tp r l (k + m) && _) = false
    rw [ih, Bool.false_and]
theorem VT_at {R T j : Nat} {tp : Nat → Int32} (hV : VT R tp T) (hj : 2 * j < T) : (∃ r, r < R ∧ tp (2 * j) = nI (97 + r)) ∧ ∃ l, l ≤ 99 ∧ tp (2 * j + 1) = nI l :=
  ⟨(hV.2.2.2 (2 * j) hj).1 (by omega), (hV.2.2.2 (2 * j + 1) (by have := hV.2.2.1; omega)).2 (by omega)⟩
theorem c_isGhost {h d0 c T : Nat} {I : MI} {L : ML} {w tp : Nat → Int32} (hd : HD h d0) (hw : WF c w) (e : I 0 4 = nI h) (hcd : CRd h I w) (hcv : CRv h I w) (h2 : ∀ k, k < 400 → I 2 k = tp k) (hb : ∀ k, k < 400 → tp k = (tp k).toInt8.toInt32) (hV : VT (nw w 0) tp T) {r l : Nat} (hr : r < nw w 0) (hl : l ≤ 99) : f_X11_isGhost (nI T) (nI r) (nI l) I L = some (gB w tp r l (T / 2)) := by
  have h10 := hw.1.1.2
  have h0 : I h 0 = nI (nw w 0) := hcd.1.trans hw.1.1.1
  have hT12 := hV.2.1
  have hTe := hV.2.2.1
  have key : Tt (f_X11_isGhost (nI T) (nI r) (nI l) I L) (fun b => b = gB w tp r l (T / 2)) := by
    unfold f_X11_isGhost
    refine lp0 (fun fuel k (_ : Unit) => f_X11_isGhost_3 fuel (nI T) (nI r) (nI l) (nI (2 * k)) I L) (T / 2) (fun k _ => gB w tp r l k = true) (by omega) ?_ ?_ (s := ()) rfl
    · intro fuel k _ hk hinv hnx
      obtain ⟨⟨p, hp, ep⟩, q, hq, eq⟩ := VT_at hV (j := k) (by omega)
      obtain ⟨b, b1, b2⟩ := c_hasR (h := h) (I := I) (L := L) (hb (2 * k) (by omega)) h0 h10
      have bt : b = true := b2.mpr ⟨p, hp, ep⟩
      have np : nw tp (2 * k) = 97 + p := by unfold nw; rw [ep]; exact zI_cl (by omega)
      have nq : nw tp (2 * k + 1) = q := by unfold nw; rw [eq]; exact zI_cl (by omega)
      have er : f_X3_reach h (nI r) (nI l) (nI p) I L = some (nI (gvl w tp r l k)) := by
        have := c_reach (L := L) hw.1 hcd hcv (a := r) (b := p) (x := l) (y := 0) hr hp (by omega) (by omega)
        rw [show nI 0 = (0 : Int32) from rfl, Int32.sub_zero, Nat.sub_zero] at this
        unfold gvl
        rw [np, show 97 + p - 97 = p by omega]; exact this
      have gl : gvl w tp r l k ≤ 99 := by unfold gvl; omega
      show Tt (f_X11_isGhost_3 (fuel + 1) (nI T) (nI r) (nI l) (nI (2 * k)) I L) _
      unfold f_X11_isGhost_3 f_X11_isGhost_62
      rw [zI_1 (2 * k), if_neg (le_n (by omega) (by omega) (by omega)), c_byte (by omega), Option.bind_some, hs_h hd e, Option.bind_some, h2 _ (by omega), b1, Option.bind_some, if_pos bt, Option.bind_some, b_lo (hb _ (by omega)) (show 97 + p < 128 by omega) ep, show (97 : Int32) = nI 97 from rfl, zI_sub (by omega), show 97 + p - 97 = p by omega, er, Option.bind_some, c_byte (by omega), Option.bind_some, h2 _ (by omega), b_lo (hb _ (by omega)) (show q < 128 by omega) eq, show (2 : Int32) = nI 2 from rfl, zI_add, show 2 * k + 2 = 2 * (k + 1) by omega]
      have e9 : gB w tp r l (k + 1) = decide (gvl w tp r l k = q) := by
        show (gB w tp r l k && decide (gvl w tp r l k = nw tp (2 * k + 1))) = _
        rw [hinv, Bool.true_and, nq]
      by_cases g1 : gvl w tp r l k = q
      · rw [if_pos (by rw [g1])]
        exact hnx () (by rw [e9]; exact decide_eq_true g1)
      · rw [if_neg (by rw [zI_eq (by omega) (by omega)]; exact g1)]
        obtain ⟨m, hm⟩ : ∃ m, T / 2 = k + 1 + m := ⟨T / 2 - (k + 1), by omega⟩
        exact Tt_some (by rw [hm, gB_f (by rw [e9]; exact decide_eq_false g1)])
    · intro fuel _ hinv
      show Tt (f_X11_isGhost_3 (fuel + 1) (nI T) (nI r) (nI l) (nI (2 * (T / 2))) I L) _
      unfold f_X11_isGhost_3
      rw [zI_1, if_pos ((zI_le (by omega) (by omega)).mpr (by omega)), hinv]
      exact Tt_some rfl
  obtain ⟨x, e1, e2⟩ := key
  rw [e1, e2]
theorem r_isGhost {c T : Nat} {I : MI} {L : ML} {w tp : Nat → Int32} (hw : WF c w) (hI : RW I w) (h10' : I 149 10 = nI T) (h2 : ∀ k, k < 400 → I 154 k = tp k) (hV : VT (nw w 0) tp T) {r l : Nat} (hr : r < nw w 0) (hl : l ≤ 99) : f_X12_isGhost (nI r) (nI l) I L = some (gB w tp r l (T / 2)) := by
  have h10 := hw.1.1.2
  have hT12 := hV.2.1
  have hTe := hV.2.2.1
  have hc := hw.1.2.2.1 r (by omega)
  have hc1 := hc.1
  have hc2 := hc.2
  have key : Tt (f_X12_isGhost (nI r) (nI l) I L) (fun b => b = gB w tp r l (T / 2)) := by
    unfold f_X12_isGhost
    refine lp0 (fun fuel k (s : Bool) => f_X12_isGhost_5 fuel (nI r) (nI l) s (nI (2 * k)) I L) (T / 2) (fun k s => s = gB w tp r l k) (by omega) ?_ ?_ (s := true) rfl
    · intro fuel k s hk hs hnx
      obtain ⟨⟨p, hp, ep⟩, q, hq, eq⟩ := VT_at hV (j := k) (by omega)
      have np : nw tp (2 * k) = 97 + p := by unfold nw; rw [ep]; exact zI_cl (by omega)
      have nq : nw tp (2 * k + 1) = q := by unfold nw; rw [eq]; exact zI_cl (by omega)
      have hcs := cs_cases hw.1 (a := r) (b := p) (by omega) (by omega)
      have em : (if 0 < nI l - nI (cs w (10 * r + p)) - nI (nw w (15 + r)) then nI l - nI (cs w (10 * r + p)) - nI (nw w (15 + r)) else 0) = nI (gvl w tp r l k) := by
        have := zsub4 (a := l) (b := 0) (c := cs w (10 * r + p)) (d := nw w (15 + r)) (by omega) (by omega) (by omega) (by omega)
        rw [show nI 0 = (0 : Int32) from rfl, Int32.sub_zero, Nat.sub_zero] at this
        unfold gvl
        rw [np, show 97 + p - 97 = p by omega]; exact this
      have gl : gvl w tp r l k ≤ 99 := by unfold gvl; omega
      show Tt (f_X12_isGhost_5 (fuel + 1) (nI r) (nI l) s (nI (2 * k)) I L) _
      unfold f_X12_isGhost_5 f_X12_isGhost_65 f_X12_isGhost_66
      rw [h10', if_neg (le_n (by omega) (by omega) (by omega)), ldI_n (show 2 * k < 400 by omega) (by decide), Option.bind_some, h2 _ (by omega), ep, show (97 : Int32) = nI 97 from rfl, zI_sub (by omega), show 97 + p - 97 = p by omega, r_cost (by omega) (by omega), Option.bind_some, hI.2 _ (by omega), show (15 : Int32) = nI 15 from rfl, zI_add, r_w (by omega), Option.bind_some, hI.1, hc1, zI_1 (2 * k), ldI_n (show 2 * k + 1 < 400 by omega) (by decide), Option.bind_some, h2 _ (by omega), eq, em, show (2 : Int32) = nI 2 from rfl, zI_add, show 2 * k + 2 = 2 * (k + 1) by omega]
      have e9 : gB w tp r l (k + 1) = (s && decide (gvl w tp r l k = q)) := by
        show (gB w tp r l k && decide (gvl w tp r l k = nw tp (2 * k + 1))) = _
        rw [← hs, nq]
      by_cases g0 : s = true
      · rw [if_pos g0]
        by_cases g1 : gvl w tp r l k = q
        · rw [if_pos (by rw [g1])]
          exact hnx true (by rw [e9, g0, decide_eq_true g1]; rfl)
        · rw [if_neg (by rw [zI_eq (by omega) (by omega)]; exact g1)]
          exact hnx false (by rw [e9, decide_eq_false g1, Bool.and_false])
      · rw [if_neg g0]
        have g0' : s = false := by cases s; rfl; exact absurd rfl g0
        exact hnx false (by rw [e9, g0', Bool.false_and])
    · intro fuel s hs
      show Tt (f_X12_isGhost_5 (fuel + 1) (nI r) (nI l) s (nI (2 * (T / 2))) I L) _
      unfold f_X12_isGhost_5
      rw [h10', if_pos ((zI_le (by omega) (by omega)).mpr (by omega))]
      exact Tt_some hs
  obtain ⟨x, e1, e2⟩ := key
  rw [e1, e2]
-- ===== the search
abbrev GS : Type := Nat × Option (Nat × Nat)
def gst (b : Bool) (r l : Nat) (s : GS) : GS := if b = true then (s.1 + 1, some (s.2.getD (r, l))) else s
def gIn (w tp : Nat → Int32) (m r : Nat) (s : GS) : Nat → GS
  | 0 => s
  | k + 1 => gst (gB w tp r (k + 1) m) r (k + 1) (gIn w tp m r s k)
def gOut (w tp : Nat → Int32) (m : Nat) : Nat → GS
  | 0 => (0, none)
  | k + 1 => gIn w tp m k (gOut w tp m k) 99
def oR : Option (Nat × Nat) → Int32
  | none => -1
  | some p => nI p.1
def oL : Option (Nat × Nat) → Int32
  | none => -1
  | some p => nI p.2
def gOK (s : GS) (b : Nat) : Prop := s.1 ≤ b ∧ (s.1 = 0 ↔ s.2 = none) ∧ ∀ p, s.2 = some p → p.1 < 10 ∧ p.2 ≤ 99
theorem gst_ok {b : Bool} {r l n : Nat} {s : GS} (h : gOK s n) (hr : r < 10) (hl : l ≤ 99) : gOK (gst b r l s) (n + 1) := by
  obtain ⟨h1, h2, h3⟩ := h
  unfold gst
  split
  · refine ⟨by show s.1 + 1 ≤ n + 1; omega, ⟨fun h => absurd h (by show ¬ s.1 + 1 = 0; omega), fun h => by cases h⟩, fun p hp => ?_⟩
    cases hs : s.2 with
    | none =>
      have hp : some (s.2.getD (r, l)) = some p := hp
      rw [hs] at hp; cases hp; exact ⟨hr, hl⟩
    | some q =>
      have hp : some (s.2.getD (r, l)) = some p := hp
      rw [hs] at hp; cases hp; exact h3 q hs
  · exact ⟨by omega, h2, h3⟩
theorem gIn_ok {w tp : Nat → Int32} {m r n : Nat} {s : GS} (h : gOK s n) (hr : r < 10) : ∀ k, k ≤ 99 → gOK (gIn w tp m r s k) (n + k) := by
  intro k
  induction k with
  | zero => intro _; exact h
  | succ k ih => intro hk; exact gst_ok (ih (by omega)) hr hk
theorem gOut_ok {w tp : Nat → Int32} {m : Nat} : ∀ k, k ≤ 10 → gOK (gOut w tp m k) (99 * k) := by
  intro k
  induction k with
  | zero => intro _; exact ⟨Nat.le_refl _, ⟨fun _ => rfl, fun _ => rfl⟩, fun p h => by cases h⟩
  | succ k ih =>
    intro hk
    have := gIn_ok (w := w) (tp := tp) (m := m) (r := k) (ih (by omega)) (by omega) 99 (Nat.le_refl _)
    rw [show 99 * k + 99 = 99 * (k + 1) by omega] at this
    exact this
theorem c_gIn {h d0 c T : Nat} {I : MI} {L : ML} {w tp : Nat → Int32} (hd : HD h d0) (hw : WF c w) (e : I 0 4 = nI h) (hcd : CRd h I w) (hcv : CRv h I w) (h2 : ∀ k, k < 400 → I 2 k = tp k) (hb : ∀ k, k < 400 → tp k = (tp k).toInt8.toInt32) (hV : VT (nw w 0) tp T) {r n : Nat} (hr : r < nw w 0) {x1 : Int32} {s : GS} (hs : gOK s n) (hn : n ≤ 900) {k47 : Int32 → Int32 → Int32 → Int32 → Int32 → Int32 → MI → ML → Option ((String ⊕ Int32) × MI × ML)} {R : (String ⊕ Int32) × MI × ML → Prop}
    (hk : Tt (k47 x1 (nI T) (nI (gIn w tp (T / 2) r s 99).1) (oR (gIn w tp (T / 2) r s 99).2) (oL (gIn w tp (T / 2) r s 99).2) (nI (r + 1)) I L) R) : Tt (f_X11_ghost_62 k47 FU x1 (nI T) (nI s.1) (oR s.2) (oL s.2) (nI r) 1 I L) R := by
  have h10 := hw.1.1.2
  refine lp0 (fun fuel k (_ : Unit) => f_X11_ghost_62 k47 fuel x1 (nI T) (nI (gIn w tp (T / 2) r s k).1) (oR (gIn w tp (T / 2) r s k).2) (oL (gIn w tp (T / 2) r s k).2) (nI r) (nI (k + 1)) I L) 99 (fun _ _ => True) (by decide) ?_ ?_ (s := ()) trivial
  · intro fuel k _ hk99 _ hnx
    have ok := gIn_ok (w := w) (tp := tp) (m := T / 2) (r := r) hs (by omega) k (by omega)
    show Tt (f_X11_ghost_62 k47 (fuel + 1) x1 (nI T) (nI (gIn w tp (T / 2) r s k).1) (oR (gIn w tp (T / 2) r s k).2) (oL (gIn w tp (T / 2) r s k).2) (nI r) (nI (k + 1)) I L) _
    have nx := hnx () trivial
    have e9 : gIn w tp (T / 2) r s (k + 1) = gst (gB w tp r (k + 1) (T / 2)) r (k + 1) (gIn w tp (T / 2) r s k) := rfl
    rw [e9] at nx
    generalize gIn w tp (T / 2) r s k = g at ok nx ⊢
    unfold f_X11_ghost_62 f_X11_ghost_92 f_X11_ghost_105 f_X11_ghost_110
    rw [if_neg (by rw [show (99 : Int32) = nI 99 from rfl, zI_lt (by decide) (by omega)]; omega), c_isGhost hd hw e hcd hcv h2 hb hV hr (show k + 1 ≤ 99 by omega), Option.bind_some, zI_1 (k + 1), zI_1 g.1]
    by_cases g1 : gB w tp r (k + 1) (T / 2) = true
    · rw [if_pos g1]
      unfold gst at nx
      rw [if_pos g1] at nx
      by_cases g2 : g.1 = 0
      · have g3 := ok.2.1.mp g2
        rw [if_pos (by rw [g2]; rfl), if_pos (by rw [g2]; rfl)]
        rw [g3] at nx
        exact nx
      · rw [if_neg (by rw [zI_0, zI_eq (by have := ok.1; omega) (by decide)]; exact g2), if_neg (by rw [zI_0, zI_eq (by have := ok.1; omega) (by decide)]; exact g2)]
        cases h9 : g.2 with
        | none => exact absurd (ok.2.1.mpr h9) g2
        | some p => rw [h9] at nx; exact nx
    · rw [if_neg g1]
      unfold gst at nx
      rw [if_neg g1] at nx
      exact nx
  · intro fuel _ _
    show Tt (f_X11_ghost_62 k47 (fuel + 1) x1 (nI T) (nI (gIn w tp (T / 2) r s 99).1) (oR (gIn w tp (T / 2) r s 99).2) (oL (gIn w tp (T / 2) r s 99).2) (nI r) (nI 100) I L) _
    unfold f_X11_ghost_62
    rw [if_pos (by decide), zI_1 r]
    exact hk
def oX (x1 : Int32) (o : Option (Nat × Nat)) : Int32 := if x1 = 1 then oR o else oL o
theorem r_gIn {c T : Nat} {I : MI} {L : ML} {w tp : Nat → Int32} (hw : WF c w) (hI : RW I w) (h10' : I 149 10 = nI T) (h2 : ∀ k, k < 400 → I 154 k = tp k) (hV : VT (nw w 0) tp T) {r n : Nat} (hr : r < nw w 0) {x1 : Int32} {s : GS} (hs : gOK s n) (hn : n ≤ 900) {k156 : Int32 → Int32 → Int32 → Int32 → MI → ML → Option (Int32 × MI × ML)} {R : Int32 × MI × ML → Prop}
    (hk : Tt (k156 x1 (nI (gIn w tp (T / 2) r s 99).1) (oX x1 (gIn w tp (T / 2) r s 99).2) (nI (r + 1)) I L) R) : Tt (f_X12_ghost_168 k156 FU x1 (nI s.1) (oX x1 s.2) (nI r) 1 I L) R := by
  have h10 := hw.1.1.2
  refine lp0 (fun fuel k (_ : Unit) => f_X12_ghost_168 k156 fuel x1 (nI (gIn w tp (T / 2) r s k).1) (oX x1 (gIn w tp (T / 2) r s k).2) (nI r) (nI (k + 1)) I L) 99 (fun _ _ => True) (by decide) ?_ ?_ (s := ()) trivial
  · intro fuel k _ hk99 _ hnx
    have ok := gIn_ok (w := w) (tp := tp) (m := T / 2) (r := r) hs (by omega) k (by omega)
    show Tt (f_X12_ghost_168 k156 (fuel + 1) x1 (nI (gIn w tp (T / 2) r s k).1) (oX x1 (gIn w tp (T / 2) r s k).2) (nI r) (nI (k + 1)) I L) _
    have nx := hnx () trivial
    have e9 : gIn w tp (T / 2) r s (k + 1) = gst (gB w tp r (k + 1) (T / 2)) r (k + 1) (gIn w tp (T / 2) r s k) := rfl
    rw [e9] at nx
    generalize gIn w tp (T / 2) r s k = g at ok nx ⊢
    unfold f_X12_ghost_168 f_X12_ghost_211 f_X12_ghost_216
    rw [if_neg (by rw [show (99 : Int32) = nI 99 from rfl, zI_lt (by decide) (by omega)]; omega), r_isGhost hw hI h10' h2 hV hr (show k + 1 ≤ 99 by omega), Option.bind_some, zI_1 (k + 1), zI_1 g.1]
    by_cases g1 : gB w tp r (k + 1) (T / 2) = true
    · rw [if_pos g1]
      unfold gst at nx
      rw [if_pos g1] at nx
      cases h9 : g.2 with
      | none =>
        rw [h9] at nx
        have e8 : ¬ 0 ≤ oX x1 none := by unfold oX; split <;> decide
        rw [if_neg e8]
        by_cases h1 : x1 = 1
        · rw [if_pos h1]
          have e7 : oX x1 (some (Option.getD none (r, k + 1))) = nI r := by unfold oX; rw [if_pos h1]; rfl
          rw [e7] at nx; exact nx
        · rw [if_neg h1]
          have e7 : oX x1 (some (Option.getD none (r, k + 1))) = nI (k + 1) := by unfold oX; rw [if_neg h1]; rfl
          rw [e7] at nx; exact nx
      | some p =>
        rw [h9] at nx
        have hp := ok.2.2 p h9
        have e8 : 0 ≤ oX x1 (some p) := by
          unfold oX
          split
          · show (0 : Int32) ≤ nI p.1
            rw [zI_0, zI_le (by decide) (by omega)]; omega
          · show (0 : Int32) ≤ nI p.2
            rw [zI_0, zI_le (by decide) (by omega)]; omega
        rw [if_pos e8]
        exact nx
    · rw [if_neg g1]
      unfold gst at nx
      rw [if_neg g1] at nx
      exact nx
  · intro fuel _ _
    show Tt (f_X12_ghost_168 k156 (fuel + 1) x1 (nI (gIn w tp (T / 2) r s 99).1) (oX x1 (gIn w tp (T / 2) r s 99).2) (nI r) (nI 100) I L) _
    unfold f_X12_ghost_168
    rw [if_pos (by decide), zI_1 r]
    exact hk
def ghR (w tp : Nat → Int32) (T : Nat) (x1 : Int32) : Int32 := if x1 = 0 then nI (gOut w tp (T / 2) (nw w 0)).1 else oX x1 (gOut w tp (T / 2) (nw w 0)).2
theorem c_gOut {h d0 c T : Nat} {I : MI} {L : ML} {w tp : Nat → Int32} (hd : HD h d0) (hw : WF c w) (e : I 0 4 = nI h) (hcd : CRd h I w) (hcv : CRv h I w) (h2 : ∀ k, k < 400 → I 2 k = tp k) (hb : ∀ k, k < 400 → tp k = (tp k).toInt8.toInt32) (hV : VT (nw w 0) tp T) (x1 : Int32) : f_X11_ghost_47 FU x1 (nI T) 0 (-1) (-1) 0 I L = some (.inr (ghR w tp T x1), I, L) := by
  have h10 := hw.1.1.2
  have h0 : I h 0 = nI (nw w 0) := hcd.1.trans hw.1.1.1
  have key : Tt (f_X11_ghost_47 FU x1 (nI T) 0 (-1) (-1) 0 I L) (fun t => t = (.inr (ghR w tp T x1), I, L)) := by
    refine lp0 (fun fuel k (_ : Unit) => f_X11_ghost_47 fuel x1 (nI T) (nI (gOut w tp (T / 2) k).1) (oR (gOut w tp (T / 2) k).2) (oL (gOut w tp (T / 2) k).2) (nI k) I L) (nw w 0) (fun _ _ => True) (by omega) ?_ ?_ (s := ()) trivial
    · intro fuel k _ hk _ hnx
      show Tt (f_X11_ghost_47 (fuel + 1) x1 (nI T) (nI (gOut w tp (T / 2) k).1) (oR (gOut w tp (T / 2) k).2) (oL (gOut w tp (T / 2) k).2) (nI k) I L) _
      unfold f_X11_ghost_47
      rw [hs_h hd e, Option.bind_some, h0, if_neg (le_n (by omega) (by omega) hk)]
      exact c_gIn hd hw e hcd hcv h2 hb hV hk (gOut_ok k (by omega)) (by omega) (hnx () trivial)
    · intro fuel _ _
      show Tt (f_X11_ghost_47 (fuel + 1) x1 (nI T) (nI (gOut w tp (T / 2) (nw w 0)).1) (oR (gOut w tp (T / 2) (nw w 0)).2) (oL (gOut w tp (T / 2) (nw w 0)).2) (nI (nw w 0)) I L) _
      unfold f_X11_ghost_47 f_X11_ghost_142
      rw [hs_h hd e, Option.bind_some, h0, if_pos (Int32.le_refl _)]
      unfold ghR oX
      by_cases g0 : x1 = 0
      · rw [if_pos g0, if_pos g0]; exact Tt_some rfl
      · rw [if_neg g0, if_neg g0]
        by_cases g1 : x1 = 1
        · rw [if_pos g1, if_pos g1]; exact Tt_some rfl
        · rw [if_neg g1, if_neg g1]; exact Tt_some rfl
  obtain ⟨t, t1, t2⟩ := key
  rw [t1, t2]
theorem r_gOut {c T : Nat} {I : MI} {L : ML} {w tp : Nat → Int32} (hw : WF c w) (hI : RW I w) (h10' : I 149 10 = nI T) (h2 : ∀ k, k < 400 → I 154 k = tp k) (hV : VT (nw w 0) tp T) (x1 : Int32) : f_X12_ghost_156 FU x1 0 (-1) 0 I L = some (ghR w tp T x1, I, L) := by
  have h10 := hw.1.1.2
  have hm : oX x1 none = -1 := by unfold oX; split <;> rfl
  have key : Tt (f_X12_ghost_156 FU x1 0 (oX x1 none) 0 I L) (fun t => t = (ghR w tp T x1, I, L)) := by
    refine lp0 (fun fuel k (_ : Unit) => f_X12_ghost_156 fuel x1 (nI (gOut w tp (T / 2) k).1) (oX x1 (gOut w tp (T / 2) k).2) (nI k) I L) (nw w 0) (fun _ _ => True) (by omega) ?_ ?_ (s := ()) trivial
    · intro fuel k _ hk _ hnx
      show Tt (f_X12_ghost_156 (fuel + 1) x1 (nI (gOut w tp (T / 2) k).1) (oX x1 (gOut w tp (T / 2) k).2) (nI k) I L) _
      unfold f_X12_ghost_156
      rw [r_n0 hw hI.1, Option.bind_some, if_neg (le_n (by omega) (by omega) hk)]
      exact r_gIn hw hI h10' h2 hV hk (gOut_ok k (by omega)) (by omega) (hnx () trivial)
    · intro fuel _ _
      show Tt (f_X12_ghost_156 (fuel + 1) x1 (nI (gOut w tp (T / 2) (nw w 0)).1) (oX x1 (gOut w tp (T / 2) (nw w 0)).2) (nI (nw w 0)) I L) _
      unfold f_X12_ghost_156 f_X12_ghost_238
      rw [r_n0 hw hI.1, Option.bind_some, if_pos (Int32.le_refl _)]
      unfold ghR
      by_cases g0 : x1 = 0
      · rw [if_pos g0, if_pos g0]; exact Tt_some rfl
      · rw [if_neg g0, if_neg g0]; exact Tt_some rfl
  rw [hm] at key
  obtain ⟨t, t1, t2⟩ := key
  rw [t1, t2]
/-- the tape is looked through, byte by byte -/
theorem r_61 {R0 T : Nat} {I : MI} {L : ML} {tp : Nat → Int32} {x1 : Int32} {b : Bool} {R : Int32 × MI × ML → Prop} (h0 : I 150 0 = nI R0) (hR : R0 ≤ 10) (h10' : I 149 10 = nI T) (hT : T ≤ 400) (h2 : ∀ k, k < 400 → I 154 k = tp k)
    (hk : ∀ s : Bool, (s = true ↔ b = true ∧ ∀ i, i < T → okT R0 tp i) → Tt (if s = true then f_X12_ghost_135 x1 false I L else f_X12_ghost_135 x1 true I L) R) : Tt (f_X12_ghost_61 FU x1 b 0 I L) R := by
  refine lp0 (fun fuel k (s : Bool) => f_X12_ghost_61 fuel x1 s (nI k) I L) T (fun k s => (s = true ↔ b = true ∧ ∀ i, i < k → okT R0 tp i)) (by omega) ?_ ?_ (s := b) ⟨fun h => ⟨h, fun i hi => absurd hi (Nat.not_lt_zero _)⟩, fun h => h.1⟩
  · intro fuel k s hk9 hs hnx
    show Tt (f_X12_ghost_61 (fuel + 1) x1 s (nI k) I L) _
    unfold f_X12_ghost_61 f_X12_ghost_113 f_X12_ghost_117 f_X12_ghost_118
    rw [h10', if_neg (le_n (by omega) (by omega) hk9), show (2 : Int32) = nI 2 from rfl, zI_mod (by omega) (by decide), ldI_n (show k < 400 by omega) (by decide), Option.bind_some, h2 k (by omega), Option.bind_some, r_in, Option.bind_some, zI_1 k]
    have off : ¬ (s = true ∧ okT R0 tp k) → Tt (f_X12_ghost_61 fuel x1 false (nI (k + 1)) I L) R := fun h => hnx false ⟨fun h9 => (by cases h9), fun h9 => absurd ⟨hs.mpr ⟨h9.1, fun i hi => h9.2 i (by omega)⟩, h9.2 k (by omega)⟩ h⟩
    have on : s = true → okT R0 tp k → Tt (f_X12_ghost_61 fuel x1 true (nI (k + 1)) I L) R := fun g1 g2 => hnx true ⟨fun _ => ⟨(hs.mp g1).1, fun i hi => by
      by_cases g3 : i = k
      · rw [g3]; exact g2
      · exact (hs.mp g1).2 i (by omega)⟩, fun _ => rfl⟩
    by_cases g0 : s = true
    · rw [if_pos g0]
      by_cases g1 : k % 2 = 0
      · obtain ⟨c, c1, c2⟩ := r_noR (I := I) (L := L) (x := tp k) h0 hR
        rw [if_pos (by rw [g1]; rfl), c1, Option.bind_some]
        by_cases g2 : c = true
        · rw [if_pos g2]
          refine off (fun h9 => ?_)
          have := c2.mpr (h9.2.1 g1)
          rw [g2] at this; cases this
        · rw [if_neg g2]
          refine on g0 ⟨fun _ => c2.mp ?_, fun h => absurd h (by omega)⟩
          cases c; rfl; exact absurd rfl g2
      · rw [if_neg (by rw [zI_0, zI_eq (by omega) (by decide)]; exact g1)]
        by_cases g2 : plP (tp k)
        · rw [if_pos (decide_eq_true (r_lo.mpr g2))]
          exact on g0 ⟨fun h => absurd h g1, fun _ => g2⟩
        · rw [if_neg (by rw [decide_eq_true_iff]; exact fun h => g2 (r_lo.mp h))]
          exact off (fun h9 => g2 (h9.2.2 (by omega)))
    · rw [if_neg g0]
      exact off (fun h9 => g0 h9.1)
  · intro fuel s hs
    show Tt (f_X12_ghost_61 (fuel + 1) x1 s (nI T) I L) _
    unfold f_X12_ghost_61
    rw [h10', if_pos (Int32.le_refl _)]
    exact hk s hs
/-- the tape used up -/
def usR (I : MI) (T : Nat) : MI := up2 (up2 (up2 (th0 I) 149 10 (nI T)) 149 8 0) 149 9 0
theorem r_uses {I : MI} {L : ML} {T : Nat} (h8 : I 149 8 = nI T) : f_X12_uses I L = some (usR I T, L) := by
  have e8 : th0 I 149 8 = nI T := by unfold th0; rw [zu_s, if_neg (by decide)]; exact h8
  unfold f_X12_uses usR
  rw [pf0, Option.bind_some, e8, pfe, Option.bind_some, pfe, Option.bind_some, pfe, Option.bind_some]
theorem usR_n {I : MI} {T q : Nat} (h : q ≠ 149) : usR I T q = I q := by
  unfold usR; rw [zu_n _ _ _ h, zu_n _ _ _ h, zu_n _ _ _ h, th0_n h]
theorem usR_149 {I : MI} {T k : Nat} : usR I T 149 k = if k = 9 then 0 else if k = 8 then 0 else if k = 10 then nI T else if k = 0 then 0 else I 149 k := by
  unfold usR th0; rw [zu_s, zu_s, zu_s, zu_s]
def useA (A : AS) : AS := (A.1, A.2.1, A.2.2.1, 0, A.2.2.2.2.1, A.2.2.2.2.2)
theorem RI_use {I J : MI} {L M : ML} {A : AS} (hR : RI9 I L A) (hq : ∀ q, q ≠ 149 → q ≠ 156 → J q = I q) (h5 : J 149 5 = I 149 5) (h6 : J 149 6 = I 149 6) (h8 : J 149 8 = 0) (h13 : J 149 13 = I 149 13) : RI9 J M (useA A) :=
  RI_tp (M := M) hR (fun q hq9 => hq q (by omega) (by omega)) h5 h6 h8 (h13.trans hR.2.2.2.2.2.1) (fun k hk => by rw [hq 154 (by decide) (by decide)]; exact hR.2.2.2.2.1 k hk)
theorem C_ghost {c : Nat} {I : MI} {L : ML} {A : AS} (hA : AI c A) (hC : CI9 I L A) (hR : RI9 I L A) (x : Int32) : ∃ I' L', SI [NSE, IAE] (f_X11_ghost x I L) (f_X12_ghost x) I' L' ∧ Inv9 (c + 1) I' L' := by
  obtain ⟨h, d, hd, cj⟩ := id hC
  obtain ⟨e, cr, e0, e2, e3⟩ := C_n hA cj
  obtain ⟨b1, b2, b3, b4, b5⟩ := HD_b hd
  have h10 := AI_r hA
  have hT := hA.2.2.2.1
  have hbt := hA.2.2.1
  have i11 : I 1 1 = nI A.2.2.2.1 := cj.2.2.2.2.2.1
  have i2 : ∀ k, k < 400 → I 2 k = A.2.2.1 k := cj.2.2.2.2.2.2.1
  have i17 : I 1 7 = A.2.2.2.2.1 := cj.2.2.2.2.2.2.2.1
  have hA' : AI (c + 1) (useA A) := ⟨WF_up hA.1, fun v hv => WF_up (hA.2.1 v hv), hA.2.2.1, Nat.zero_le _, hA.2.2.2.2.1, hA.2.2.2.2.2⟩
  have jn : ∀ q, q ≠ 1 → up2 I 1 1 0 q = I q := fun q hq => zu_n _ _ _ hq
  have cj' : CJ h d (up2 I 1 1 0) L (useA A) := CJ_tp hd cj (fun q _ h1 _ _ => jn q h1) (fun _ _ _ => rfl) (by rw [zu_s, if_pos rfl]; rfl) (fun k hk => by rw [jn 2 (by decide)]; exact i2 k hk) (by rw [zu_s, if_neg (by decide)]; exact i17)
  have hC' : CI9 (up2 I 1 1 0) L (useA A) := ⟨h, d, hd, cj'⟩
  have e' : up2 I 1 1 0 0 4 = nI h := by rw [jn 0 (by decide)]; exact e
  have e0' : up2 I 1 1 0 h 0 = nI (nw A.1 0) := by rw [jn h (by omega)]; exact e0
  have i2' : ∀ k, k < 400 → up2 I 1 1 0 2 k = A.2.2.1 k := fun k hk => by rw [jn 2 (by decide)]; exact i2 k hk
  have cu : f_X8_useUp I L = some (nI A.2.2.2.1, up2 I 1 1 0, L) := by
    unfold f_X8_useUp; rw [pfe, Option.bind_some, i11]
  have cthr : ∀ (s : String) (n : Nat), (∀ L, wkE [NSE, IAE] s L = some (nI n, L)) → CpX (T := Int32) [NSE, IAE] I (useA A) (.inl n) (.inl s, up2 I 1 1 0, L) := fun s n hs => ⟨⟨s, rfl, hs⟩, hC', fun q hq => jn q (by omega)⟩
  have rthr : ∀ {I' : MI} {L' : ML} (n : Nat), RI9 I' L' A → nI n ≠ 0 → RpX (T := Int32) I' L' (useA A) (.inl n) (0, up2 (usR I' A.2.2.2.1) 149 0 (nI n), L') := by
    intro I' L' n hR' hn
    refine ⟨⟨by show up2 (usR I' A.2.2.2.1) 149 0 (nI n) 149 0 = nI n; rw [zu_s, if_pos rfl], hn⟩, RI_use hR' (fun q h1 _ => by show up2 (usR I' A.2.2.2.1) 149 0 (nI n) q = I' q; rw [zu_n _ _ _ h1, usR_n h1]) ?_ ?_ ?_ ?_, fun q hq => ⟨by show up2 (usR I' A.2.2.2.1) 149 0 (nI n) q = I' q; rw [zu_n _ _ _ (by omega), usR_n (by omega)], rfl⟩, rfl⟩
    · show up2 (usR I' A.2.2.2.1) 149 0 (nI n) 149 5 = _; rw [zu_s, if_neg (by decide), usR_149]; rfl
    · show up2 (usR I' A.2.2.2.1) 149 0 (nI n) 149 6 = _; rw [zu_s, if_neg (by decide), usR_149]; rfl
    · show up2 (usR I' A.2.2.2.1) 149 0 (nI n) 149 8 = _; rw [zu_s, if_neg (by decide), usR_149]; rfl
    · show up2 (usR I' A.2.2.2.1) 149 0 (nI n) 149 13 = _; rw [zu_s, if_neg (by decide), usR_149]; rfl
  have ru : ∀ {I' : MI} {L' : ML}, RI9 I' L' A → f_X12_uses I' L' = some (usR I' A.2.2.2.1, L') := fun hR' => r_uses hR'.2.2.2.1
  by_cases hx : ¬ x < 0 ∧ ¬ 2 < x
  · have hx2 : x ≤ 2 := Int32.not_lt.mp hx.2
    obtain ⟨b, tb1, tb2⟩ := c_tells (L := L) (tp := A.2.2.1) (T := A.2.2.2.1) hd e' e0' h10 i2' hbt hT
    -- the reference up to its check
    have rk : ∀ {I' : MI} {L' : ML} {Q : Int32 × MI × ML → Prop}, RI9 I' L' A → (∀ s : Bool, (s = true ↔ VT (nw A.1 0) A.2.2.1 A.2.2.2.1) → Tt (if s = true then f_X12_ghost_135 x false (usR I' A.2.2.2.1) L' else f_X12_ghost_135 x true (usR I' A.2.2.2.1) L') Q) → Tt (f_X12_ghost x I' L') Q := by
      intro I' L' Q hR' hk
      have u10 : usR I' A.2.2.2.1 149 10 = nI A.2.2.2.1 := by rw [usR_149]; rfl
      have u0 : usR I' A.2.2.2.1 150 0 = nI (nw A.1 0) := by rw [usR_n (by decide), hR'.1]; exact hA.1.1.1.1
      have u2 : ∀ k, k < 400 → usR I' A.2.2.2.1 154 k = A.2.2.1 k := fun k hk => by rw [usR_n (by decide)]; exact hR'.2.2.2.2.1 k hk
      unfold f_X12_ghost
      rw [ru hR', Option.bind_some]
      show Tt (Option.bind (f_X12_in x 0 2 (usR I' A.2.2.2.1) L') fun v2 => if v2 = true then f_X12_ghost_19 x false (usR I' A.2.2.2.1) L' else f_X12_ghost_19 x true (usR I' A.2.2.2.1) L') Q
      rw [r_in, Option.bind_some, if_pos (decide_eq_true hx)]
      unfold f_X12_ghost_19 f_X12_ghost_57 f_X12_ghost_58
      rw [r_thr_f, Option.bind_some]
      show Tt (if false = true then some (0, usR I' A.2.2.2.1, L') else if usR I' A.2.2.2.1 149 10 ≤ 0 then f_X12_ghost_61 FU x false 0 (usR I' A.2.2.2.1) L' else if (usR I' A.2.2.2.1 149 10 - usR I' A.2.2.2.1 149 10 / 2 * 2) = 0 then (if 12 < usR I' A.2.2.2.1 149 10 then f_X12_ghost_61 FU x false 0 (usR I' A.2.2.2.1) L' else f_X12_ghost_61 FU x true 0 (usR I' A.2.2.2.1) L') else f_X12_ghost_61 FU x false 0 (usR I' A.2.2.2.1) L') Q
      rw [if_neg (by decide), u10, show (2 : Int32) = nI 2 from rfl, zI_mod (by omega) (by decide)]
      have no : ¬ (2 ≤ A.2.2.2.1 ∧ A.2.2.2.1 ≤ 12 ∧ A.2.2.2.1 % 2 = 0) → Tt (f_X12_ghost_61 FU x false 0 (usR I' A.2.2.2.1) L') Q := fun hn => r_61 u0 h10 u10 hT u2 (fun s hs => hk s ⟨fun h9 => absurd (hs.mp h9).1 Bool.false_ne_true, fun h9 => absurd ⟨h9.1, h9.2.1, h9.2.2.1⟩ hn⟩)
      by_cases g1 : A.2.2.2.1 = 0
      · rw [if_pos (by rw [g1]; decide)]
        exact no (by omega)
      · rw [if_neg (by rw [zI_0, zI_le (by omega) (by decide)]; omega)]
        by_cases g2 : A.2.2.2.1 % 2 = 0
        · rw [if_pos (by rw [g2]; rfl)]
          by_cases g3 : 12 < A.2.2.2.1
          · rw [if_pos (by rw [show (12 : Int32) = nI 12 from rfl, zI_lt (by decide) (by omega)]; exact g3)]
            exact no (by omega)
          · rw [if_neg (by rw [show (12 : Int32) = nI 12 from rfl, zI_lt (by decide) (by omega)]; exact g3)]
            exact r_61 u0 h10 u10 hT u2 (fun s hs => hk s ⟨fun h9 => ⟨by omega, by omega, g2, (hs.mp h9).2⟩, fun h9 => hs.mpr ⟨rfl, h9.2.2.2⟩⟩)
        · rw [if_neg (by rw [zI_0, zI_eq (by omega) (by decide)]; exact g2)]
          exact no (by omega)
    have ck : f_X11_ghost x I L = Option.bind (f_X11_need b (up2 I 1 1 0) L) fun w5 => xc w5 fun _ => f_X11_ghost_47 FU x (nI A.2.2.2.1) 0 (-1) (-1) 0 w5.2.1 w5.2.2 := by
      unfold f_X11_ghost
      rw [cu, Option.bind_some, if_neg hx.1, if_pos hx2]
      show Option.bind (f_X11_tellsGhost (nI A.2.2.2.1) (up2 I 1 1 0) L) _ = _
      rw [tb1, Option.bind_some]
    by_cases hV : VT (nw A.1 0) A.2.2.1 A.2.2.2.1
    · have hbT : b = true := tb2.mpr hV
      refine fin hA' (mkSI (res := .inr (ghR A.1 A.2.2.1 A.2.2.2.1 x)) hR ?_ ?_)
      · rw [ck, hbT, c_need_t, Option.bind_some, xc_r]
        have cr' := cj'.2.2.1
        exact Tt_eq (c_gOut hd hA.1 e' cr'.1 cr'.2.2.2.2.1 i2' hbt hV x) (Cp_a hC' (fun q hq => jn q (by omega)))
      · intro I' L' hR'
        refine rk hR' (fun s hs => ?_)
        rw [if_pos (hs.mpr hV)]
        unfold f_X12_ghost_135
        rw [r_thr_f, Option.bind_some]
        show Tt (if false = true then some (0, usR I' A.2.2.2.1, L') else Option.bind (f_X12_spreads (usR I' A.2.2.2.1) L') fun w3 => f_X12_ghost_156 FU x 0 (-1) 0 w3.1 w3.2) _
        rw [if_neg (by decide)]
        refine Tt_bind (Tt_mono (r_sp hA.1 (show usR I' A.2.2.2.1 150 = A.1 by rw [usR_n (by decide)]; exact hR'.1)) ?_)
        intro t ⟨t1, t2, t3⟩
        have k149 : t.1 149 = usR I' A.2.2.2.1 149 := t2 149 (by decide)
        have kq : ∀ q, q ≠ 149 → q ≠ 156 → t.1 q = I' q := fun q h1 h2 => by rw [t2 q h2, usR_n h1]
        rw [t1]
        refine Tt_eq (r_gOut hA.1 t3 (by rw [k149, usR_149]; rfl) (fun k hk => by rw [kq 154 (by decide) (by decide)]; exact hR'.2.2.2.2.1 k hk) hV x) (Rp_a (RI_use hR' kq (by rw [k149, usR_149]; rfl) (by rw [k149, usR_149]; rfl) (by rw [k149, usR_149]; rfl) (by rw [k149, usR_149]; rfl)) (by rw [k149, usR_149]; rfl) (fun q hq => kq q (by omega) (by omega)) (fun _ _ => rfl))
    · have hbF : b = false := by cases hb9 : b; rfl; exact absurd (tb2.mp hb9) hV
      refine fin hA' (mkSI (res := .inl 2) hR ?_ ?_)
      · rw [ck, hbF, c_need_f, Option.bind_some, xc_l]
        exact Tt_some (cthr _ 2 (wk_2 (by decide)))
      · intro I' L' hR'
        refine rk hR' (fun s hs => ?_)
        rw [if_neg (fun h9 => hV (hs.mp h9))]
        unfold f_X12_ghost_135
        rw [r_thr_t, Option.bind_some, if_pos rfl]
        exact Tt_some (rthr 2 hR' (by decide))
  · refine fin hA' (mkSI (res := .inl 1) hR ?_ ?_)
    · unfold f_X11_ghost f_X11_ghost_17
      rw [cu, Option.bind_some]
      by_cases g1 : x < 0
      · rw [if_pos g1]; exact Tt_some (cthr _ 1 (wk_1 (by decide)))
      · rw [if_neg g1, if_neg (fun h9 => hx ⟨g1, Int32.not_lt.mpr h9⟩)]
        exact Tt_some (cthr _ 1 (wk_1 (by decide)))
    · intro I' L' hR'
      unfold f_X12_ghost
      rw [ru hR', Option.bind_some]
      show Tt (Option.bind (f_X12_in x 0 2 (usR I' A.2.2.2.1) L') fun v2 => if v2 = true then f_X12_ghost_19 x false (usR I' A.2.2.2.1) L' else f_X12_ghost_19 x true (usR I' A.2.2.2.1) L') _
      rw [r_in, Option.bind_some, if_neg (by rw [decide_eq_true_iff]; exact hx)]
      unfold f_X12_ghost_19
      rw [r_thr_t, Option.bind_some, if_pos rfl]
      exact Tt_some (rthr 1 hR' (by decide))
