-- ===== bits of a long
def btL (x : Int64) (i : Nat) : Bool := x.toBitVec.getLsbD i
theorem bL_or (x y : Int64) (i : Nat) : btL (x ||| y) i = (btL x i || btL y i) := by unfold btL; rw [Int64.toBitVec_or, BitVec.getLsbD_or]
theorem bL_0 (i : Nat) : btL 0 i = false := BitVec.getLsbD_zero
theorem bL_p : ∀ k, k < 64 → ((1 : Int64) <<< Int64.ofNat k).toBitVec = BitVec.twoPow 64 k := by decide +kernel
theorem bL_1 {k i : Nat} (hk : k < 64) : btL ((1 : Int64) <<< Int64.ofNat k) i = decide (k = i) := by
  unfold btL; rw [bL_p k hk, BitVec.getLsbD_twoPow]; simp [hk]
theorem bL_sm : ∀ k, k < 64 → ((Int64.ofNat k).toBitVec.smod 64).toNat = k := by decide +kernel
theorem bL_shr {x : Int64} {k i : Nat} (h : k + i < 64) : btL (x >>> Int64.ofNat k) i = btL x (k + i) := by
  unfold btL
  rw [Int64.toBitVec_shiftRight]
  show (x.toBitVec.sshiftRight ((Int64.ofNat k).toBitVec.smod 64).toNat).getLsbD i = _
  rw [bL_sm k (by omega), BitVec.getLsbD_sshiftRight]
  simp [h, show ¬ 64 ≤ i by omega]
theorem bL_32 {x : Int64} {i : Nat} (hi : i < 32) : bt x.toInt32 i = btL x i := by
  unfold bt btL
  rw [Int64.toBitVec_toInt32, BitVec.getLsbD_signExtend]
  simp [hi, show i < 64 by omega]
theorem b_63 : ∀ i, i < 32 → bt 63 i = decide (i < 6) := by decide +kernel
-- ===== doors between two rooms
def drC (w : Nat → Int32) (r p : Int32) (d : Nat) : Prop := (w (25 + 3 * d) = r ∧ w (26 + 3 * d) = p) ∨ (w (25 + 3 * d) = p ∧ w (26 + 3 * d) = r)
noncomputable def drB (w : Nat → Int32) (r p : Int32) : Nat → Bool
  | 0 => false
  | k + 1 => drB w r p k || @decide (drC w r p k) (Classical.propDecidable _)
theorem or4 {α : Type} {a b c d : Prop} [Decidable a] [Decidable b] [Decidable c] [Decidable d] {x y : α} (h : (a ∧ b) ∨ (c ∧ d)) : (if a then (if b then x else (if c then (if d then x else y) else y)) else (if c then (if d then x else y) else y)) = x := by
  by_cases ha : a <;> by_cases hb : b <;> by_cases hc : c <;> by_cases hd : d <;> simp_all
theorem or4n {α : Type} {a b c d : Prop} [Decidable a] [Decidable b] [Decidable c] [Decidable d] {x y : α} (h : ¬ ((a ∧ b) ∨ (c ∧ d))) : (if a then (if b then x else (if c then (if d then x else y) else y)) else (if c then (if d then x else y) else y)) = y := by
  by_cases ha : a <;> by_cases hb : b <;> by_cases hc : c <;> by_cases hd : d <;> simp_all
theorem c_hasDoor {h : Nat} {I : MI} {L : ML} {w : Nat → Int32} {c : Nat} (hw : WF c w) (hc : CR h I L w) (r p : Int32) : f_X3_hasDoor h r p I L = some (drB w r p (nw w 1)) := by
  have h14 := hw.1.2.1.2
  have z := C_z1 hw hc
  have mono : ∀ k m, drB w r p k = true → drB w r p (k + m) = true := by
    intro k m
    induction m with
    | zero => intro h; exact h
    | succ m ih =>
      intro h
      show (drB w r p (k + m) || _) = true
      rw [ih h, Bool.true_or]
  have key : Tt (f_X3_hasDoor h r p I L) (fun x => x = drB w r p (nw w 1)) := by
    unfold f_X3_hasDoor
    refine lp0 (fun fuel k (_ : Unit) => f_X3_hasDoor_2 fuel h r p (nI k) I L) (nw w 1) (fun k _ => drB w r p k = false) (by omega) ?_ ?_ (s := ()) rfl
    · intro fuel k _ hk hb hn
      obtain ⟨d0, d1, -⟩ := hc.1.2.2.2 k (by omega)
      show Tt (f_X3_hasDoor_2 (fuel + 1) h r p (nI k) I L) _
      unfold f_X3_hasDoor_2 f_X1_leads f_X1_leads_16 f_X1_leads_32 f_X1_leads_36 f_X1_leads_37
      rw [z, if_neg (le_n (by omega) (by omega) hk), ldR_n (show k < 14 by omega) (by decide), Option.bind_some, d0, d1, zI_1]
      by_cases h9 : drC w r p k
      · have e9 : drB w r p (k + 1) = true := by
          show (drB w r p k || @decide (drC w r p k) (Classical.propDecidable _)) = true
          rw [hb, Bool.false_or]; exact @decide_eq_true _ (Classical.propDecidable _) h9
        rw [or4 h9, Option.bind_some, if_pos rfl]
        obtain ⟨m, hm⟩ : ∃ m, nw w 1 = k + 1 + m := ⟨nw w 1 - (k + 1), by omega⟩
        exact Tt_some (by rw [hm]; exact (mono (k + 1) m e9).symm)
      · rw [or4n h9, Option.bind_some, if_neg (by decide)]
        refine hn () ?_
        show (drB w r p k || @decide (drC w r p k) (Classical.propDecidable _)) = false
        rw [hb, Bool.false_or]; exact @decide_eq_false _ (Classical.propDecidable _) h9
    · intro fuel _ hb
      show Tt (f_X3_hasDoor_2 (fuel + 1) h r p (nI (nw w 1)) I L) _
      unfold f_X3_hasDoor_2
      rw [z, if_pos (Int32.le_refl _), hb]
      exact Tt_some rfl
  obtain ⟨x, e1, e2⟩ := key
  rw [e1, e2]
theorem r_near {I : MI} {L : ML} {w : Nat → Int32} {c : Nat} (hw : WF c w) (hI : I 150 = w) (r p : Int32) : f_X12_isNear r p I L = some (decide (r = p) || drB w r p (nw w 1)) := by
  have h14 := hw.1.2.1.2
  have key : ∀ b : Bool, Tt (f_X12_isNear_14 FU r p b 0 I L) (fun x => x = (b || drB w r p (nw w 1))) := by
    intro b
    refine lp0 (fun fuel k (s : Bool) => f_X12_isNear_14 fuel r p s (nI k) I L) (nw w 1) (fun k s => s = (b || drB w r p k)) (by omega) ?_ ?_ (s := b) (Bool.or_false b).symm
    · intro fuel k s hk hs hn
      have d0 : f_X12_ofDoor (nI k) 0 I L = some (w (25 + 3 * k)) := r_dw (k := 0) hI (by omega) (by decide)
      have d1 : f_X12_ofDoor (nI k) 1 I L = some (w (26 + 3 * k)) := by
        rw [show 26 + 3 * k = 25 + 3 * k + 1 by omega]; exact r_dw (k := 1) hI (by omega) (by decide)
      show Tt (f_X12_isNear_14 (fuel + 1) r p s (nI k) I L) _
      unfold f_X12_isNear_14 f_X12_isNear_51 f_X12_isNear_73 f_X12_isNear_77 f_X12_isNear_78
      rw [show ldI I 150 2143 1 = some (I 150 1) from r_w (k := 1) (by decide), Option.bind_some, hI, hw.1.2.1.1, if_neg (le_n (by omega) (by omega) hk), d0, Option.bind_some, d1, Option.bind_some, Option.bind_some, Option.bind_some, zI_1]
      by_cases h8 : s = true
      · rw [if_pos h8]
        refine hn true ?_
        show true = (b || (drB w r p k || _))
        rw [← Bool.or_assoc, ← hs, h8, Bool.true_or]
      · have h8' : s = false := by cases s; rfl; exact absurd rfl h8
        rw [if_neg h8]
        have e9 : (b || drB w r p (k + 1)) = @decide (drC w r p k) (Classical.propDecidable _) := by
          show (b || (drB w r p k || _)) = _
          rw [← Bool.or_assoc, ← hs, h8', Bool.false_or]
        by_cases h9 : drC w r p k
        · rw [or4 h9]
          exact hn true (by rw [e9]; exact (@decide_eq_true _ (Classical.propDecidable _) h9).symm)
        · rw [or4n h9]
          exact hn false (by rw [e9]; exact (@decide_eq_false _ (Classical.propDecidable _) h9).symm)
    · intro fuel s hs
      show Tt (f_X12_isNear_14 (fuel + 1) r p s (nI (nw w 1)) I L) _
      unfold f_X12_isNear_14
      rw [show ldI I 150 2143 1 = some (I 150 1) from r_w (k := 1) (by decide), Option.bind_some, hI, ← hw.1.2.1.1, if_pos (Int32.le_refl _)]
      exact Tt_some hs
  unfold f_X12_isNear f_X12_isNear_10
  by_cases h : r = p
  · obtain ⟨x, e1, e2⟩ := key true
    rw [if_pos h, e1, e2, decide_eq_true h]
  · obtain ⟨x, e1, e2⟩ := key false
    rw [if_neg h, e1, e2, decide_eq_false h]
-- ===== who sat where
def atP (w : Nat → Int32) (ago i r : Nat) : Prop := w (205 + 6 * ago + i) ≠ -1 ∧ nw w (205 + 6 * ago + i) = r
theorem seat_b {w : Nat → Int32} {ago : Nat} (hp : ∀ h, h < 6 → w (205 + 6 * ago + h) = -1 ∨ nw w (205 + 6 * ago + h) ≤ 9) {i r : Nat} (hi : i < 6) : ∀ n, n ≤ 6 → (btL (seatsN w ago n) (6 * r + i) = true ↔ i < n ∧ atP w ago i r) := by
  intro n
  induction n with
  | zero =>
    intro _
    show btL 0 _ = true ↔ _
    rw [bL_0]
    exact ⟨fun h => absurd h Bool.false_ne_true, fun h => absurd h.1 (Nat.not_lt_zero _)⟩
  | succ n ih =>
    intro hn
    show btL (seatsN w ago n ||| (if w (205 + 6 * ago + n) = -1 then (0 : Int64) else (1 : Int64) <<< Int64.ofNat (6 * nw w (205 + 6 * ago + n) + n))) (6 * r + i) = true ↔ _
    rw [bL_or, Bool.or_eq_true, ih (by omega)]
    by_cases h9 : w (205 + 6 * ago + n) = -1
    · rw [if_pos h9, bL_0]
      constructor
      · rintro (h | h)
        · exact ⟨by omega, h.2⟩
        · cases h
      · rintro ⟨h1, h2⟩
        refine Or.inl ⟨?_, h2⟩
        have : i ≠ n := fun h => h2.1 (by rw [h]; exact h9)
        omega
    · rw [if_neg h9]
      have h8 := (hp n (by omega)).resolve_left h9
      rw [bL_1 (by omega), decide_eq_true_iff]
      constructor
      · rintro (h | h)
        · exact ⟨by omega, h.2⟩
        · have e1 : i = n := by omega
          exact ⟨by omega, by rw [e1]; exact h9, by rw [e1]; omega⟩
      · rintro ⟨h1, h2⟩
        by_cases e1 : i = n
        · right; subst e1; have := h2.2; omega
        · exact Or.inl ⟨by omega, h2⟩
theorem mxs {a t : Nat} (ha : a ≤ 1000000) (ht : t ≤ 1000000) : (if nI a < nI t - 40 then nI t - 40 else nI a) = nI (max a (t - 40)) := by
  have ea := zI_ti (n := a) (by omega)
  have et := zI_ti (n := t) (by omega)
  have e40 : (40 : Int32).toInt = 40 := by decide
  have e1 : (nI t - 40).toInt = (t : Int) - 40 := by rw [ti_sub] <;> rw [et, e40] <;> omega
  split
  · rename_i h
    rw [Int32.lt_iff_toInt_lt, e1, ea] at h
    apply zI_of_ti
    rw [e1]; omega
  · rename_i h
    rw [Int32.lt_iff_toInt_lt, e1, ea] at h
    rw [show max a (t - 40) = a by omega]
theorem c_sat {h c : Nat} {I : MI} {L : ML} {w : Nat → Int32} (hc6 : c ≤ 600) (hw : WF c w) (cr : CR h I L w) {la r : Nat} (hla : la ≤ tm w) (hr : r < 10) : ∃ x, f_X3_satSince h (nI la) (nI r) I L = some x ∧ ∀ i, i < 32 → (bt x i = true ↔ i < 6 ∧ ∃ ago, ago < min 40 (tm w - la) ∧ atP w ago i r) := by
  have t2 := cr.2.2.2.1.2.1
  have tb : tm w ≤ 144000 := by have := hw.2.2.2.1.2.2.2.2.1; omega
  have key : Tt (f_X3_satSince h (nI la) (nI r) I L) (fun x => ∀ i, i < 32 → (bt x i = true ↔ i < 6 ∧ ∃ ago, ago < min 40 (tm w - la) ∧ atP w ago i r)) := by
    unfold f_X3_satSince
    rw [t2, mxs (by omega) (by omega)]
    refine lp (fun fuel k (acc : Int64) => f_X3_satSince_15 fuel h (nI r) acc (nI k) I L) (tm w) (fun k acc => max la (tm w - 40) ≤ k ∧ ∀ i, i < 6 → (btL acc (6 * r + i) = true ↔ ∃ ago, tm w - k ≤ ago ∧ ago < tm w - max la (tm w - 40) ∧ atP w ago i r)) ?_ ?_ (tm w - max la (tm w - 40)) (max la (tm w - 40)) FU 0 (by omega) (by unfold FU; omega) ⟨Nat.le_refl _, fun i hi => ?_⟩
    · intro fuel k acc hk ⟨hB, hacc⟩ hnx
      have hp := cr.2.2.2.2.2.1 (tm w - 1 - k) (by omega)
      rw [show tm w - 1 - (tm w - 1 - k) = k by omega] at hp
      show Tt (f_X3_satSince_15 (fuel + 1) h (nI r) acc (nI k) I L) _
      unfold f_X3_satSince_15
      rw [t2, if_neg (le_n (by omega) (by omega) hk), sl_ok (by omega), Option.bind_some, ldL_n (Nat.mod_lt _ (by decide)) (by decide), Option.bind_some, hp, zI_1]
      refine hnx _ ⟨by omega, fun i hi => ?_⟩
      have hs := seat_b (w := w) (ago := tm w - 1 - k) (fun e he => by
        rcases hw.2.2.2.2.1 (tm w - 1 - k) (by omega) e he with h1 | h1
        · exact Or.inl h1
        · exact Or.inr h1.1.2) (i := i) (r := r) hi 6 (Nat.le_refl _)
      rw [bL_or, Bool.or_eq_true, hacc i hi, hs]
      constructor
      · rintro (⟨ago, g1, g2, g3⟩ | ⟨-, g3⟩)
        · exact ⟨ago, by omega, g2, g3⟩
        · exact ⟨tm w - 1 - k, by omega, by omega, g3⟩
      · rintro ⟨ago, g1, g2, g3⟩
        by_cases g4 : ago = tm w - 1 - k
        · right; rw [← g4]; exact ⟨hi, g3⟩
        · left; exact ⟨ago, by omega, g2, g3⟩
    · intro fuel acc ⟨hB, hacc⟩
      show Tt (f_X3_satSince_15 (fuel + 1) h (nI r) acc (nI (tm w)) I L) _
      unfold f_X3_satSince_15
      rw [t2, if_pos (Int32.le_refl _), show (6 : Int32) = nI 6 from rfl, zI_mul, sh63 _ (by omega)]
      refine Tt_some (fun i hi => ?_)
      rw [b_and, bL_32 hi, b_63 i hi]
      by_cases h6 : i < 6
      · rw [bL_shr (by omega), show r * 6 + i = 6 * r + i by omega, decide_eq_true h6, Bool.and_true, hacc i h6]
        constructor
        · rintro ⟨ago, g1, g2, g3⟩
          exact ⟨h6, ago, by omega, g3⟩
        · rintro ⟨-, ago, g1, g3⟩
          exact ⟨ago, by omega, by omega, g3⟩
      · rw [decide_eq_false h6, Bool.and_false]
        exact ⟨fun h => absurd h Bool.false_ne_true, fun h => absurd h.1 h6⟩
    · rw [bL_0]
      constructor
      · intro h; cases h
      · rintro ⟨ago, g1, g2, -⟩; omega
  obtain ⟨x, e1, e2⟩ := key
  exact ⟨x, e1, e2⟩
/-- room r is room p, or has a door to it -/
noncomputable def nrB (w : Nat → Int32) (r p : Nat) : Bool := decide (nI r = nI p) || drB w (nI r) (nI p) (nw w 1)
theorem c_susp {h d0 c : Nat} {I : MI} {L : ML} {w : Nat → Int32} (hc6 : c ≤ 600) (hd : HD h d0) (hw : WF c w) (cr : CR h I L w) (e : I 0 4 = nI h) {n la : Nat} (hn : n < nw w 3) (hla : w (85 + 10 * n + 7) = nI la) (hl2 : la ≤ tm w) : ∃ x, f_X11_suspects_40 FU (h + 33 + n) 0 0 I L = some (.inr x, I, L) ∧ ∀ i, i < 32 → (bt x i = true ↔ i < 6 ∧ ∃ r, r < nw w 0 ∧ nrB w r (nw w (85 + 10 * n + 1)) = true ∧ ∃ ago, ago < min 40 (tm w - la) ∧ atP w ago i r) := by
  have h12 := hw.2.2.1.1.2
  have h10 := hw.1.1.2
  have e0 : I h 0 = nI (nw w 0) := cr.1.1.trans hw.1.1.1
  obtain ⟨-, -, n2, -, -, -, -, n7, -, -⟩ := (cr.2.2.1.2 n (by omega)).1 hn
  have p1 := (hw.2.2.1.2 n hn).2.1.1.1
  rw [p1] at n2
  rw [hla] at n7
  have key : Tt (f_X11_suspects_40 FU (h + 33 + n) 0 0 I L) (fun t => ∃ x, t = (.inr x, I, L) ∧ ∀ i, i < 32 → (bt x i = true ↔ i < 6 ∧ ∃ r, r < nw w 0 ∧ nrB w r (nw w (85 + 10 * n + 1)) = true ∧ ∃ ago, ago < min 40 (tm w - la) ∧ atP w ago i r)) := by
    refine lp0 (fun fuel k (f : Int32) => f_X11_suspects_40 fuel (h + 33 + n) f (nI k) I L) (nw w 0) (fun k f => ∀ i, i < 32 → (bt f i = true ↔ i < 6 ∧ ∃ r, r < k ∧ nrB w r (nw w (85 + 10 * n + 1)) = true ∧ ∃ ago, ago < min 40 (tm w - la) ∧ atP w ago i r)) (by omega) ?_ ?_ (s := 0) ?_
    · intro fuel k f hk hf hnx
      obtain ⟨x, x1, x2⟩ := c_sat hc6 hw cr (la := la) (r := k) hl2 (by omega)
      show Tt (f_X11_suspects_40 (fuel + 1) (h + 33 + n) f (nI k) I L) _
      unfold f_X11_suspects_40 f_X11_suspects_77 f_X11_suspects_93
      simp -implicitDefEqProofs only [hs_h hd e, Option.bind_some, e0, n2, n7, x1, c_hasDoor hw cr]
      rw [if_neg (le_n (by omega) (by omega) hk), zI_1]
      have yes : nrB w k (nw w (85 + 10 * n + 1)) = true → Tt (f_X11_suspects_40 fuel (h + 33 + n) (f ||| x) (nI (k + 1)) I L) (fun t => ∃ x, t = (.inr x, I, L) ∧ ∀ i, i < 32 → (bt x i = true ↔ i < 6 ∧ ∃ r, r < nw w 0 ∧ nrB w r (nw w (85 + 10 * n + 1)) = true ∧ ∃ ago, ago < min 40 (tm w - la) ∧ atP w ago i r)) := by
        intro hnr
        refine hnx _ (fun i hi => ?_)
        rw [b_or, Bool.or_eq_true, hf i hi, x2 i hi]
        constructor
        · rintro (⟨g1, r, g2, g3⟩ | ⟨g1, g2⟩)
          · exact ⟨g1, r, by omega, g3⟩
          · exact ⟨g1, k, Nat.lt_succ_self _, hnr, g2⟩
        · rintro ⟨g1, r, g2, g3, g4⟩
          by_cases g5 : r = k
          · right; rw [g5] at g4; exact ⟨g1, g4⟩
          · left; exact ⟨g1, r, by omega, g3, g4⟩
      have no : ¬ nrB w k (nw w (85 + 10 * n + 1)) = true → Tt (f_X11_suspects_40 fuel (h + 33 + n) f (nI (k + 1)) I L) (fun t => ∃ x, t = (.inr x, I, L) ∧ ∀ i, i < 32 → (bt x i = true ↔ i < 6 ∧ ∃ r, r < nw w 0 ∧ nrB w r (nw w (85 + 10 * n + 1)) = true ∧ ∃ ago, ago < min 40 (tm w - la) ∧ atP w ago i r)) := by
        intro hnr
        refine hnx _ (fun i hi => ?_)
        rw [hf i hi]
        constructor
        · rintro ⟨g1, r, g2, g3⟩
          exact ⟨g1, r, by omega, g3⟩
        · rintro ⟨g1, r, g2, g3, g4⟩
          by_cases g5 : r = k
          · rw [g5] at g3; exact absurd g3 hnr
          · exact ⟨g1, r, by omega, g3, g4⟩
      by_cases h1 : nI k = nI (nw w (85 + 10 * n + 1))
      · rw [if_pos h1]
        exact yes (by unfold nrB; rw [decide_eq_true h1, Bool.true_or])
      · rw [if_neg h1]
        have e9 : nrB w k (nw w (85 + 10 * n + 1)) = drB w (nI k) (nI (nw w (85 + 10 * n + 1))) (nw w 1) := by unfold nrB; rw [decide_eq_false h1, Bool.false_or]
        rw [← e9]
        by_cases h2 : nrB w k (nw w (85 + 10 * n + 1)) = true
        · rw [if_pos h2]; exact yes h2
        · rw [if_neg h2]; exact no h2
    · intro fuel f hf
      show Tt (f_X11_suspects_40 (fuel + 1) (h + 33 + n) f (nI (nw w 0)) I L) _
      unfold f_X11_suspects_40
      rw [hs_h hd e, Option.bind_some, e0, if_pos (Int32.le_refl _)]
      exact Tt_some ⟨f, rfl, hf⟩
    · intro i hi
      rw [b_0]
      constructor
      · intro h; cases h
      · rintro ⟨-, r, g, -⟩; omega
  obtain ⟨t, t1, x, t2, t3⟩ := key
  exact ⟨x, by rw [t1, t2], t3⟩
theorem r_susp {c : Nat} {I : MI} {L : ML} {w : Nat → Int32} (hc6 : c ≤ 600) (hw : WF c w) (hI : I 150 = w) {n la : Nat} (hn : n < nw w 3) (hl2 : la ≤ tm w) : ∃ y, f_X12_suspects_71 FU (nI n) (nI (tm w - la)) 0 0 I L = some (y, I, L) ∧ ∀ i, i < 32 → (bt y i = true ↔ i < nw w 2 ∧ ∃ ago, ago < min 40 (tm w - la) ∧ ∃ r, atP w ago i r ∧ nrB w r (nw w (85 + 10 * n + 1)) = true) := by
  have h12 := hw.2.2.1.1.2
  have h6 := hw.2.1.1.2
  have tb : tm w ≤ 144000 := by have := hw.2.2.2.1.2.2.2.2.1; omega
  have t14 := hw.2.2.2.1.2.2.2.2.2.2.2.1
  have p1 := (hw.2.2.1.2 n hn).2.1.1.1
  have e14 : ldI I 150 2143 14 = some (nI (min 40 (tm w))) := by
    rw [show (14 : Int32) = nI 14 from rfl, r_w (by decide), hI, t14]
  have key : Tt (f_X12_suspects_71 FU (nI n) (nI (tm w - la)) 0 0 I L) (fun t => ∃ y, t = (y, I, L) ∧ ∀ i, i < 32 → (bt y i = true ↔ i < nw w 2 ∧ ∃ ago, ago < min 40 (tm w - la) ∧ ∃ r, atP w ago i r ∧ nrB w r (nw w (85 + 10 * n + 1)) = true)) := by
    refine lp0 (fun fuel k (b : Int32) => f_X12_suspects_71 fuel (nI n) (nI (tm w - la)) b (nI k) I L) (min 40 (tm w - la)) (fun k b => ∀ i, i < 32 → (bt b i = true ↔ i < nw w 2 ∧ ∃ ago, ago < k ∧ ∃ r, atP w ago i r ∧ nrB w r (nw w (85 + 10 * n + 1)) = true)) (by omega) ?_ ?_ (s := 0) ?_
    · intro fuel k b hk hb hnx
      show Tt (f_X12_suspects_71 (fuel + 1) (nI n) (nI (tm w - la)) b (nI k) I L) _
      unfold f_X12_suspects_71
      rw [e14, Option.bind_some, if_neg (le_n (by omega) (by omega) (by omega)), if_neg (le_n (by omega) (by omega) (by omega))]
      refine lp0 (fun fuel2 j (b2 : Int32) => f_X12_suspects_92 (f_X12_suspects_71 fuel) fuel2 (nI n) (nI (tm w - la)) b2 (nI k) (nI j) I L) (nw w 2) (fun j b2 => ∀ i, i < 32 → (bt b2 i = true ↔ bt b i = true ∨ (i < j ∧ ∃ r, atP w k i r ∧ nrB w r (nw w (85 + 10 * n + 1)) = true))) (by omega) ?_ ?_ (s := b) (fun i _ => ⟨fun h => Or.inl h, fun h => h.elim id (fun h => absurd h.1 (Nat.not_lt_zero _))⟩)
      · intro fuel2 j b2 hj hb2 hnx2
        show Tt (f_X12_suspects_92 (f_X12_suspects_71 fuel) (fuel2 + 1) (nI n) (nI (tm w - la)) b2 (nI k) (nI j) I L) _
        unfold f_X12_suspects_92 f_X12_suspects_148 f_X12_suspects_149
        have eix : (205 : Int32) + 6 * nI k + nI j = nI (205 + 6 * k + j) := by
          rw [show (205 : Int32) = nI 205 from rfl, show (6 : Int32) = nI 6 from rfl, zI_mul, zI_add, zI_add]
        rw [r_n2 hw hI, Option.bind_some, if_neg (le_n (by omega) (by omega) hj), eix, r_w (by omega), Option.bind_some, hI, show f_X12_of (nI n) 1 I L = some (w (85 + 10 * n + 1)) from r_ofw (k := 1) hI (by omega) (by decide), Option.bind_some, r_near hw hI, Option.bind_some, zI_1 j, Int32.or_zero]
        have off : (¬ ∃ r, atP w k j r ∧ nrB w r (nw w (85 + 10 * n + 1)) = true) → Tt (f_X12_suspects_92 (f_X12_suspects_71 fuel) fuel2 (nI n) (nI (tm w - la)) b2 (nI k) (nI (j + 1)) I L) (fun t => ∃ y, t = (y, I, L) ∧ ∀ i, i < 32 → (bt y i = true ↔ i < nw w 2 ∧ ∃ ago, ago < min 40 (tm w - la) ∧ ∃ r, atP w ago i r ∧ nrB w r (nw w (85 + 10 * n + 1)) = true)) := by
          intro hno
          refine hnx2 _ (fun i hi => ?_)
          rw [hb2 i hi]
          constructor
          · rintro (g | ⟨g1, g2⟩)
            · exact Or.inl g
            · exact Or.inr ⟨by omega, g2⟩
          · rintro (g | ⟨g1, g2⟩)
            · exact Or.inl g
            · by_cases g3 : i = j
              · rw [g3] at g2; exact absurd g2 hno
              · exact Or.inr ⟨by omega, g2⟩
        rcases hw.2.2.2.2.1 k (by omega) j (by omega) with h1 | h1
        · rw [h1, if_pos (by decide)]
          exact off (fun ⟨r, h2, _⟩ => h2.1 h1)
        · have a1 := h1.1.1
          have a2 := h1.1.2
          have hne : w (205 + 6 * k + j) ≠ -1 := by rw [a1]; exact nI_ne (by omega)
          have hat : atP w k j (nw w (205 + 6 * k + j)) := ⟨hne, rfl⟩
          have e9 : (decide (w (205 + 6 * k + j) = w (85 + 10 * n + 1)) || drB w (w (205 + 6 * k + j)) (w (85 + 10 * n + 1)) (nw w 1)) = nrB w (nw w (205 + 6 * k + j)) (nw w (85 + 10 * n + 1)) := by
            unfold nrB
            rw [← a1, ← p1]
          rw [e9, if_neg (by rw [a1]; exact zI_nn (by omega))]
          by_cases h2 : nrB w (nw w (205 + 6 * k + j)) (nw w (85 + 10 * n + 1)) = true
          · rw [if_pos h2]
            refine hnx2 _ (fun i hi => ?_)
            rw [b_set (by omega) hi, Bool.or_eq_true, hb2 i hi, decide_eq_true_iff]
            constructor
            · rintro ((g | ⟨g1, g2⟩) | g)
              · exact Or.inl g
              · exact Or.inr ⟨by omega, g2⟩
              · exact Or.inr ⟨by omega, _, by rw [g]; exact hat, h2⟩
            · rintro (g | ⟨g1, g2⟩)
              · exact Or.inl (Or.inl g)
              · by_cases g3 : i = j
                · exact Or.inr g3
                · exact Or.inl (Or.inr ⟨by omega, g2⟩)
          · rw [if_neg h2]
            refine off (fun ⟨r, g1, g2⟩ => ?_)
            rw [← g1.2] at g2
            exact h2 g2
      · intro fuel2 b2 hb2
        show Tt (f_X12_suspects_92 (f_X12_suspects_71 fuel) (fuel2 + 1) (nI n) (nI (tm w - la)) b2 (nI k) (nI (nw w 2)) I L) _
        unfold f_X12_suspects_92
        rw [r_n2 hw hI, Option.bind_some, if_pos (Int32.le_refl _), zI_1 k]
        refine hnx b2 (fun i hi => ?_)
        rw [hb2 i hi, hb i hi]
        constructor
        · rintro (⟨g1, ago, g2, g3⟩ | ⟨g1, g2⟩)
          · exact ⟨g1, ago, by omega, g3⟩
          · exact ⟨g1, k, Nat.lt_succ_self _, g2⟩
        · rintro ⟨g1, ago, g2, g3⟩
          by_cases g4 : ago = k
          · right; rw [g4] at g3; exact ⟨g1, g3⟩
          · left; exact ⟨g1, ago, by omega, g3⟩
    · intro fuel b hb
      show Tt (f_X12_suspects_71 (fuel + 1) (nI n) (nI (tm w - la)) b (nI (min 40 (tm w - la))) I L) _
      unfold f_X12_suspects_71 f_X12_suspects_163
      rw [e14, Option.bind_some]
      by_cases h1 : min 40 (tm w) ≤ min 40 (tm w - la)
      · rw [if_pos ((zI_le (by omega) (by omega)).mpr h1)]
        exact Tt_some ⟨b, rfl, hb⟩
      · rw [if_neg (fun h => h1 ((zI_le (by omega) (by omega)).mp h)), if_pos ((zI_le (by omega) (by omega)).mpr (by omega))]
        exact Tt_some ⟨b, rfl, hb⟩
    · intro i hi
      rw [b_0]
      constructor
      · intro h; cases h
      · rintro ⟨-, ago, g, -⟩; omega
  obtain ⟨t, t1, x, t2, t3⟩ := key
  exact ⟨x, by rw [t1, t2], t3⟩
theorem C_suspects {c : Nat} {I : MI} {L : ML} {A : AS} (hc6 : c ≤ 600) (hA : AI c A) (hC : CI9 I L A) (hR : RI9 I L A) (x : Int32) : ∃ I' L', SI [IOB] (f_X11_suspects x I L) (f_X12_suspects x) I' L' ∧ CI9 I' L' A ∧ RI9 I' L' A := by
  obtain ⟨h, d, hd, cj⟩ := id hC
  obtain ⟨e, cr, e0, e2, e3⟩ := C_n hA cj
  have h12 := AI_n hA
  have h6 := AI_h hA
  have tb : tm A.1 ≤ 144000 := by have := hA.1.2.2.2.1.2.2.2.2.1; omega
  by_cases hx : ∃ k, k < nw A.1 3 ∧ x = nI k
  · obtain ⟨n, hn, rfl⟩ := hx
    have n7 : I (h + 33 + n) 7 = A.1 (85 + 10 * n + 7) := ((cr.2.2.1.2 n (by omega)).1 hn).2.2.2.2.2.2.2.1
    have cF : f_X11_suspects (nI n) I L = if A.1 (85 + 10 * n + 7) = -1 then some (.inr ((1 <<< (nI (nw A.1 2) &&& 31)) - 1), I, L) else f_X11_suspects_40 FU (h + 33 + n) 0 0 I L := by
      simp -implicitDefEqProofs only [f_X11_suspects, c_needNoise_t hd e e3 h12 hn, Option.bind_some, xc_r, hs_h hd e, ldR_n (show n < 12 by omega) (show 12 < 2 ^ 31 by decide), n7, e2]
    have rF : ∀ {I' : MI} {L' : ML}, RI9 I' L' A → f_X12_suspects (nI n) I' L' = if 0 ≤ A.1 (85 + 10 * n + 7) then f_X12_suspects_71 FU (nI n) (nI (tm A.1) - A.1 (85 + 10 * n + 7)) 0 0 (th0 I') L' else some ((1 <<< (nI (nw A.1 2) &&& 31)) - 1, th0 I', L') := by
      intro I' L' hR'
      have i1 := R_w hR'
      have t6 := hA.1.2.2.2.1.2.2.1
      have t7 := hA.1.2.2.2.1.2.2.2.1.1
      have f7 : f_X12_of (nI n) 7 (th0 I') L' = some (A.1 (85 + 10 * n + 7)) := r_ofw (k := 7) i1 (by omega) (by decide)
      have g6 : ldI (th0 I') 150 2143 6 = some (nI (nw A.1 6)) := by rw [← t6, ← i1]; exact r_w (k := 6) (by decide)
      have g7 : ldI (th0 I') 150 2143 7 = some (nI (nw A.1 7)) := by rw [← t7, ← i1]; exact r_w (k := 7) (by decide)
      simp -implicitDefEqProofs only [f_X12_suspects, pf0, Option.bind_some, r_noNoise_t (R_3 hA hR') h12 hn, r_thr_f, bft, if_false, f7, g6, g7, r_n2 hA.1 i1]
      rw [show (24 : Int32) = nI 24 from rfl, zI_mul, zI_add]
      rfl
    rcases (hA.1.2.2.1.2 n hn).2.2.2.2.2.2.2.1 with h7 | h7
    · refine mkSI (res := .inr ((1 <<< (nI (nw A.1 2) &&& 31)) - 1)) hR ?_ ?_
      · rw [cF, if_pos h7]
        exact Tt_some (Cp_q hC)
      · intro I' L' hR'
        rw [rF hR', h7, if_neg (by decide)]
        exact Tt_some (Rp_q hR' (scR_rf _ _))
    · have a1 := h7.1.1
      have a2 := h7.2
      have hne : ¬ A.1 (85 + 10 * n + 7) = -1 := by rw [a1]; exact nI_ne (by omega)
      obtain ⟨y, y1, y2⟩ := c_susp hc6 hd hA.1 cr e hn a1 a2
      refine mkSI (res := .inr y) hR ?_ ?_
      · rw [cF, if_neg hne]
        exact Tt_eq y1 (Cp_q hC)
      · intro I' L' hR'
        obtain ⟨z, z1, z2⟩ := r_susp (L := L') hc6 hA.1 (R_w hR') hn a2
        have hzy : z = y := by
          apply b_ext
          intro i hi
          rw [Bool.eq_iff_iff, z2 i hi, y2 i hi]
          constructor
          · rintro ⟨g1, ago, g2, r, g3, g4⟩
            rcases hA.1.2.2.2.2.1 ago (by omega) i (by omega) with f1 | f1
            · exact absurd f1 g3.1
            · exact ⟨by omega, r, by rw [← g3.2]; exact f1.2.1, g4, ago, g2, g3⟩
          · rintro ⟨g1, r, g2, g3, ago, g4, g5⟩
            rcases hA.1.2.2.2.2.1 ago (by omega) i g1 with f1 | f1
            · exact absurd f1 g5.1
            · exact ⟨f1.2.2, ago, g4, r, g5, g3⟩
        rw [rF hR', if_pos (by rw [a1, zI_0, zI_le (by decide) (by omega)]; omega), a1, zI_sub a2, z1, hzy]
        exact Tt_some (Rp_q hR' (scR_rf _ _))
  · refine mkSI (res := .inl 1) hR ?_ ?_
    · simp -implicitDefEqProofs only [f_X11_suspects, c_needNoise_f hd e e3 h12 (no_ex hx), Option.bind_some, xc_l]
      exact Tt_some (Cp_t hC (wk_1 (by decide)))
    · intro I' L' hR'
      simp -implicitDefEqProofs only [f_X12_suspects, pf0, Option.bind_some, r_noNoise_f (R_3 hA hR') h12 (no_ex hx), r_thr_t, if_true]
      exact Tt_some (Rp_t hR' (by decide))
