-- ===== longs that are small numbers
def nL (n : Nat) : Int64 := Int64.ofNat n
theorem zL_ti {n : Nat} (h : n < 2 ^ 63) : (nL n).toInt = (n : Int) := Int64.toInt_ofNat_of_lt h
theorem zL_lt {a b : Nat} (ha : a < 2 ^ 63) (hb : b < 2 ^ 63) : nL a < nL b ↔ a < b := by
  rw [Int64.lt_iff_toInt_lt, zL_ti ha, zL_ti hb]; omega
theorem zL_le {a b : Nat} (ha : a < 2 ^ 63) (hb : b < 2 ^ 63) : nL a ≤ nL b ↔ a ≤ b := by
  rw [Int64.le_iff_toInt_le, zL_ti ha, zL_ti hb]; omega
theorem zL_eq {a b : Nat} (ha : a < 2 ^ 63) (hb : b < 2 ^ 63) : nL a = nL b ↔ a = b := by
  rw [← Int64.toInt_inj, zL_ti ha, zL_ti hb]; omega
theorem zL_add (a b : Nat) : nL a + nL b = nL (a + b) := (Int64.ofNat_add a b).symm
theorem zL_mul (a b : Nat) : nL a * nL b = nL (a * b) := (Int64.ofNat_mul a b).symm
theorem zL_sub {a b : Nat} (h : b ≤ a) : nL a - nL b = nL (a - b) := (Int64.ofNat_sub a b h).symm
theorem zL_div {a b : Nat} (ha : a < 2 ^ 63) (hb : b < 2 ^ 63) : nL a / nL b = nL (a / b) := (Int64.ofNat_div ha hb).symm
theorem zL_i {n : Nat} (h : n < 2 ^ 31) : (nI n).toInt64 = nL n := by
  rw [← Int64.toInt_inj, Int32.toInt_toInt64, zI_ti h, zL_ti (by omega)]
theorem zL_32 {n : Nat} (h : n < 2 ^ 31) : (nL n).toInt32 = nI n := by
  rw [← Int32.toInt_inj, Int64.toInt_toInt32, zL_ti (by omega), zI_ti h]
  exact Int.bmod_eq_of_le (by omega) (by omega)
theorem zL_0 : (0 : Int64) = nL 0 := rfl
theorem dvL_n {x : Int64} {s : Nat} (h : s ≠ 0) (hs : s < 2 ^ 63) : dvL x (nL s) = some (x / nL s) := by
  unfold dvL
  rw [if_neg (by rw [zL_0, zL_eq hs (by decide)]; exact h)]
-- ===== how many bits
theorem and63 (y : Int32) : ∃ n, n ≤ 63 ∧ y &&& 63 = nI n := by
  refine ⟨(y &&& 63).toBitVec.toNat, ?_, ?_⟩
  · rw [Int32.toBitVec_and, BitVec.toNat_and]
    exact Nat.le_trans Nat.and_le_right (by decide)
  · show _ = Int32.ofNat _
    rw [Int32.ofNat_bitVecToNat, Int32.ofBitVec_toBitVec]
theorem bc_ex (x : Int32) : ∃ n, n ≤ 63 ∧ ∀ (I : MI) (L : ML), f_J6_bitCount_0f7a4 x I L = some (nI n) := by
  unfold f_J6_bitCount_0f7a4
  exact (and63 _).imp fun n hn => ⟨hn.1, fun _ _ => congrArg some hn.2⟩
noncomputable def bcN (x : Int32) : Nat := Classical.choose (bc_ex x)
theorem bc_le (x : Int32) : bcN x ≤ 63 := (Classical.choose_spec (bc_ex x)).1
theorem bc_e (x : Int32) (I : MI) (L : ML) : f_J6_bitCount_0f7a4 x I L = some (nI (bcN x)) := (Classical.choose_spec (bc_ex x)).2 I L
-- ===== winter, due
noncomputable def wnN (w : Nat → Int32) (n d : Nat) : Nat := if w (85 + 10 * n + 0) = 0 then 100 * bcN (w (85 + 10 * n + 6)) * d else if w (85 + 10 * n + 0) = 1 then 24 * nw w 8 * d else if w (85 + 10 * n + 0) = 2 then 24 * nw w (85 + 10 * n + 6) * d else 0
theorem wn_le {w : Nat → Int32} {c : Nat} (hw : WF c w) {n d : Nat} (hn : n < nw w 3) (hd : d ≤ 200) : wnN w n d ≤ 1260000 := by
  have h8 := hw.2.2.2.1.2.2.2.2.2.1.2
  obtain ⟨k0, -, -, -, -, -, k6, -⟩ := hw.2.2.1.2 n hn
  have hb := bc_le (w (85 + 10 * n + 6))
  unfold wnN
  split
  · exact Nat.le_trans (Nat.mul_le_mul (Nat.mul_le_mul (Nat.le_refl 100) hb) hd) (by decide)
  · split
    · exact Nat.le_trans (Nat.mul_le_mul (Nat.mul_le_mul (Nat.le_refl 24) h8) hd) (by decide)
    · split
      · rename_i h
        have h2 : nw w (85 + 10 * n + 0) = 2 := by unfold nw; rw [h]; decide
        exact Nat.le_trans (Nat.mul_le_mul (Nat.mul_le_mul (Nat.le_refl 24) (k6.2 h2)) hd) (by decide)
      · omega
noncomputable def dueN (w : Nat → Int32) (n d : Nat) : Nat := if hrd w n = true then wnN w n d * nw w (85 + 10 * n + 4) else 0
theorem due_le {w : Nat → Int32} {c : Nat} (hw : WF c w) {n d : Nat} (hn : n < nw w 3) (hd : d ≤ 200) : dueN w n d ≤ 124740000 := by
  have h1 := wn_le hw hn hd
  have h4 := (hw.2.2.1.2 n hn).2.2.2.2.1.2
  unfold dueN
  split
  · exact Nat.le_trans (Nat.mul_le_mul h1 h4) (by decide)
  · omega
theorem c_winter {h : Nat} {I : MI} {L : ML} {w : Nat → Int32} {c : Nat} (hw : WF c w) (hc : CR h I L w) {n d : Nat} (hn : n < nw w 3) (hd : d ≤ 200) : f_X3_winter h (h + 33 + n) (nI d) I L = some (nL (wnN w n d)) := by
  have hn12 := hw.2.2.1.1.2
  have h8 := hw.2.2.2.1.2.2.2.2.2.1
  have h81 := h8.1
  have h82 := h8.2
  have k6 := (hw.2.2.1.2 n hn).2.2.2.2.2.2.1.1
  have k61 := k6.1
  have k62 := k6.2
  have hb := bc_le (w (85 + 10 * n + 6))
  obtain ⟨n0, n1, -⟩ := (hc.2.2.1.2 n (by omega)).1 hn
  have t3 := hc.2.2.2.1.2.2.1
  unfold f_X3_winter wnN
  rw [n0, n1, t3, bc_e, Option.bind_some, zL_i (by omega), zL_i (show d < 2 ^ 31 by omega), show (100 : Int64) = nL 100 from rfl, show (24 : Int64) = nL 24 from rfl]
  by_cases h0 : w (85 + 10 * n + 0) = 0
  · rw [if_pos h0, if_pos h0, zL_mul, zL_mul]
  · rw [if_neg h0, if_neg h0]
    by_cases h1 : w (85 + 10 * n + 0) = 1
    · rw [if_pos h1, if_pos h1, h81, zL_i (by omega), zL_mul, zL_mul, show nw w 8 * (d * 24) = 24 * nw w 8 * d by rw [Nat.mul_comm d 24, ← Nat.mul_assoc, Nat.mul_comm (nw w 8) 24]]
    · rw [if_neg h1, if_neg h1]
      by_cases h2 : w (85 + 10 * n + 0) = 2
      · rw [if_pos h2, if_pos h2, k61, zL_i (by omega), zL_mul, zL_mul, show nw w (85 + 10 * n + 6) * (d * 24) = 24 * nw w (85 + 10 * n + 6) * d by rw [Nat.mul_comm d 24, ← Nat.mul_assoc, Nat.mul_comm (nw w (85 + 10 * n + 6)) 24]]
      · rw [if_neg h2, if_neg h2]; rfl
theorem r_winter {I : MI} {L : ML} {w : Nat → Int32} {c : Nat} (hw : WF c w) (hI : I 150 = w) {n d : Nat} (hn : n < nw w 3) (hd : d ≤ 200) : f_X12_winterOf (nI n) (nI d) I L = some (nL (wnN w n d)) := by
  have hn12 := hw.2.2.1.1.2
  have h8 := hw.2.2.2.1.2.2.2.2.2.1
  have h81 := h8.1
  have h82 := h8.2
  have k6 := (hw.2.2.1.2 n hn).2.2.2.2.2.2.1
  have k61 := k6.1.1
  have k62 := k6.1.2
  have hb := bc_le (w (85 + 10 * n + 6))
  unfold f_X12_winterOf f_X12_winterOf_64 wnN
  rw [show f_X12_of (nI n) 0 I L = some (w (85 + 10 * n + 0)) from r_ofw (k := 0) hI (by omega) (by decide), show f_X12_of (nI n) 6 I L = some (w (85 + 10 * n + 6)) from r_ofw (k := 6) hI (by omega) (by decide), show ldI I 150 2143 8 = some (w 8) by rw [← hI]; exact r_w (k := 8) (by decide), Option.bind_some, Option.bind_some, bc_e, Option.bind_some, Option.bind_some, zL_i (show d < 2 ^ 31 by omega)]
  by_cases h0 : w (85 + 10 * n + 0) = 0
  · rw [if_pos h0, if_pos h0, show (100 : Int32) = nI 100 from rfl, zI_mul, zL_i (by omega), zL_mul]
  · rw [if_neg h0, if_neg h0]
    by_cases h1 : w (85 + 10 * n + 0) = 1
    · rw [if_pos h1, if_pos h1, h81, show (24 : Int32) = nI 24 from rfl, zI_mul, zL_i (by omega), zL_mul]
    · rw [if_neg h1, if_neg h1]
      by_cases h2 : w (85 + 10 * n + 0) = 2
      · rw [if_pos h2, if_pos h2, Option.bind_some, k61, show (24 : Int32) = nI 24 from rfl, zI_mul, zL_i (by have := k6.2 (by unfold nw; rw [h2]; decide); omega), zL_mul]
      · rw [if_neg h2, if_neg h2, show (0 : Int32).toInt64 = nL 0 from rfl, zL_mul, Nat.zero_mul]
theorem c_due {h : Nat} {I : MI} {L : ML} {w : Nat → Int32} {c : Nat} (hw : WF c w) (hc : CR h I L w) {n d : Nat} (hn : n < nw w 3) (hd : d ≤ 200) : f_X3_dueFor h (h + 33 + n) (nI d) I L = some (nL (dueN w n d)) := by
  have hn12 := hw.2.2.1.1.2
  have k4 := (hw.2.2.1.2 n hn).2.2.2.2.1
  have k41 := k4.1
  have k42 := k4.2
  obtain ⟨-, -, -, -, -, n5, -⟩ := (hc.2.2.1.2 n (by omega)).1 hn
  unfold f_X3_dueFor f_X3_dueFor_24 dueN
  rw [c_heard hw hc hn, Option.bind_some, c_winter hw hc hn hd, Option.bind_some, n5]
  by_cases h9 : hrd w n = true
  · rw [if_pos h9, if_pos h9, k41, zL_i (by omega), zL_mul]
  · rw [if_neg h9, if_neg h9]; rfl
theorem r_due {I : MI} {L : ML} {w : Nat → Int32} {c : Nat} (hw : WF c w) (hI : RW I w) {n d : Nat} (hn : n < nw w 3) (hd : d ≤ 200) : f_X12_dueOf (nI n) (nI d) I L = some (nL (dueN w n d)) := by
  have hn12 := hw.2.2.1.1.2
  have k4 := (hw.2.2.1.2 n hn).2.2.2.2.1
  have k41 := k4.1
  have k42 := k4.2
  unfold f_X12_dueOf f_X12_dueOf_26 dueN
  rw [r_heard hw hI hn, Option.bind_some, r_winter hw hI.1 hn hd, Option.bind_some, show f_X12_of (nI n) 4 I L = some (w (85 + 10 * n + 4)) from r_ofw (k := 4) hI.1 (by omega) (by decide), Option.bind_some]
  by_cases h9 : hrd w n = true
  · rw [if_pos h9, if_pos h9, k41, zL_i (by omega), zL_mul]
  · rw [if_neg h9, if_neg h9]; rfl
theorem c_days_t {y : Int32} {I : MI} {L : ML} (hy : ¬ y < 1 ∧ ¬ 200 < y) : f_X11_areDays y I L = some true := by
  unfold f_X11_areDays f_X11_areDays_17; rw [ite2_t hy]
theorem c_days_f {y : Int32} {I : MI} {L : ML} (hy : ¬ (¬ y < 1 ∧ ¬ 200 < y)) : f_X11_areDays y I L = some false := by
  unfold f_X11_areDays f_X11_areDays_16 f_X11_areDays_17; rw [ite2_f hy]
theorem r_days_t {y : Int32} {I : MI} {L : ML} (hy : ¬ y < 1 ∧ ¬ 200 < y) : f_X12_noDays y I L = some false := by
  unfold f_X12_noDays f_X12_noDays_16; rw [r_in, Option.bind_some, if_pos (decide_eq_true hy)]
theorem r_days_f {y : Int32} {I : MI} {L : ML} (hy : ¬ (¬ y < 1 ∧ ¬ 200 < y)) : f_X12_noDays y I L = some true := by
  unfold f_X12_noDays f_X12_noDays_16; rw [r_in, Option.bind_some, if_neg (by rw [decide_eq_true_iff]; exact hy)]
theorem C_due {c : Nat} {I : MI} {L : ML} {A : AS} (hA : AI c A) (hC : CI9 I L A) (hR : RI9 I L A) (x y : Int32) : ∃ I' L', SJ [IOB, IAE] (f_X11_due x y I L) (f_X12_due x y) I' L' ∧ CI9 I' L' A ∧ RI9 I' L' A := by
  obtain ⟨h, d, hd, cj⟩ := id hC
  obtain ⟨e, cr, e0, e2, e3⟩ := C_n hA cj
  have h12 := AI_n hA
  by_cases hx : ∃ k, k < nw A.1 3 ∧ x = nI k
  · obtain ⟨n, hn, rfl⟩ := hx
    by_cases hy : ¬ y < 1 ∧ ¬ 200 < y
    · obtain ⟨t, -, ht, rfl⟩ := rng_t (a := 1) (b := 200) (by decide) (by decide) hy
      refine mkSJ (res := .inr (nL (dueN A.1 n t))) hR ?_ ?_
      · simp -implicitDefEqProofs only [f_X11_due, c_needNoise_t hd e e3 h12 hn, c_days_t hy, c_need_t, Option.bind_some, xc_r, hs_h hd e, ldR_n (show n < 12 by omega) (show 12 < 2 ^ 31 by decide), c_due hA.1 cr hn ht]
        exact Tt_some (Cp_q hC)
      · intro I' L' hR'
        simp -implicitDefEqProofs only [f_X12_due, pf0, Option.bind_some, r_noNoise_t (R_3 hA hR') h12 hn, r_thr_f, bft, if_false, r_days_t hy]
        refine Tt_bind (Tt_mono (r_sp hA.1 (R_w hR')) ?_)
        intro s ⟨s1, s2, s3⟩
        rw [s1, r_due hA.1 s3 hn ht, Option.bind_some]
        exact Tt_some (Rp_q hR' (scR_156 s2))
    · refine mkSJ (res := .inl 2) hR ?_ ?_
      · simp -implicitDefEqProofs only [f_X11_due, c_needNoise_t hd e e3 h12 hn, c_days_f hy, c_need_f, Option.bind_some, xc_r, xc_l]
        exact Tt_some (Cp_t hC (wk_2 (by decide)))
      · intro I' L' hR'
        simp -implicitDefEqProofs only [f_X12_due, f_X12_due_30, pf0, Option.bind_some, r_noNoise_t (R_3 hA hR') h12 hn, r_thr_f, bft, if_false, r_days_f hy, r_thr_t, if_true]
        exact Tt_some (Rp_t hR' (by decide))
  · refine mkSJ (res := .inl 1) hR ?_ ?_
    · simp -implicitDefEqProofs only [f_X11_due, c_needNoise_f hd e e3 h12 (no_ex hx), Option.bind_some, xc_l]
      exact Tt_some (Cp_t hC (wk_1 (by decide)))
    · intro I' L' hR'
      simp -implicitDefEqProofs only [f_X12_due, f_X12_due_30, pf0, Option.bind_some, r_noNoise_f (R_3 hA hR') h12 (no_ex hx), r_thr_t, if_true]
      exact Tt_some (Rp_t hR' (by decide))
-- ===== silence
noncomputable def slq (w : Nat → Int32) (d s k : Nat) : Int64 := if (nL (dueN w k d) + nL s - 1) / nL s < 1 then 1 else (nL (dueN w k d) + nL s - 1) / nL s
noncomputable def slN (w : Nat → Int32) (r d s : Nat) : Nat → Int64 × Int64
  | 0 => (0, 0)
  | k + 1 => if atN w k r = 0 then slN w r d s k else (if slq w d s k < (slN w r d s k).1 then (slN w r d s k).1 else slq w d s k, (slN w r d s k).2 + slq w d s k * nL s)
noncomputable def slR (w : Nat → Int32) (r d s : Nat) (b : Bool) : Int64 := if (slN w r d s (nw w 3)).1 ≤ 9999 then (if b = true then (slN w r d s (nw w 3)).2 else (slN w r d s (nw w 3)).1) else -1
theorem c_silence {h d0 c : Nat} {I : MI} {L : ML} {w : Nat → Int32} (hd : HD h d0) (hw : WF c w) (cr : CR h I L w) (e : I 0 4 = nI h) {r d s : Nat} (hr : r < nw w 0) (hdd : d ≤ 200) (hs : s ≤ 999) (hs0 : s ≠ 0) (b : Bool) : f_X11_silence_41 FU (nI r) (nI d) (nI s) b 0 0 0 I L = some (.inr (slR w r d s b), I, L) := by
  have h12 := hw.2.2.1.1.2
  have e3 := C_z3 hw cr
  have key : Tt (f_X11_silence_41 FU (nI r) (nI d) (nI s) b 0 0 (nI 0) I L) (fun x => x = (.inr (slR w r d s b), I, L)) := by
    refine lp0 (fun fuel k (p : Int64 × Int64) => f_X11_silence_41 fuel (nI r) (nI d) (nI s) b p.1 p.2 (nI k) I L) (nw w 3) (fun k p => p = slN w r d s k) (by omega) ?_ ?_ (s := (0, 0)) rfl
    · intro fuel k p hk hb hnx
      have hat := at_le hw.2.2.1 (r := r) hk
      show Tt (f_X11_silence_41 (fuel + 1) (nI r) (nI d) (nI s) b p.1 p.2 (nI k) I L) _
      unfold f_X11_silence_41 f_X11_silence_121
      simp only [hs_h hd e, Option.bind_some, e3]
      rw [if_neg (le_n (by omega) (by omega) hk), ldR_n (show k < 12 by omega) (by decide), Option.bind_some, c_at hw cr hk hr, Option.bind_some, c_due hw cr hk hdd, Option.bind_some, zL_i (show s < 2 ^ 31 by omega), dvL_n hs0 (by omega), Option.bind_some, zI_1]
      by_cases h9 : atN w k r = 0
      · rw [if_pos (by rw [zI_0, zI_le (by omega) (by decide)]; omega)]
        refine hnx p ?_
        show _ = if atN w k r = 0 then _ else _
        rw [if_pos h9]; exact hb
      · rw [if_neg (by rw [zI_0, zI_le (by omega) (by decide)]; omega)]
        refine hnx (if slq w d s k < p.1 then p.1 else slq w d s k, p.2 + slq w d s k * nL s) ?_
        show _ = if atN w k r = 0 then _ else _
        rw [if_neg h9, hb]
    · intro fuel p hb
      show Tt (f_X11_silence_41 (fuel + 1) (nI r) (nI d) (nI s) b p.1 p.2 (nI (nw w 3)) I L) _
      unfold f_X11_silence_41 f_X11_silence_152
      simp only [hs_h hd e, Option.bind_some, e3]
      rw [if_pos (Int32.le_refl _), hb]
      unfold slR
      by_cases h8 : (slN w r d s (nw w 3)).1 ≤ 9999
      · rw [if_pos h8, if_pos h8]
        by_cases h7 : b = true
        · rw [if_pos h7, if_pos h7]; exact Tt_some rfl
        · rw [if_neg h7, if_neg h7]; exact Tt_some rfl
      · rw [if_neg h8, if_neg h8]; exact Tt_some rfl
  rw [← zI_0] at key
  obtain ⟨x, e1, e2⟩ := key
  rw [e1, e2]
theorem r_silence {c : Nat} {I : MI} {L : ML} {w : Nat → Int32} (hw : WF c w) (hI : RW I w) {r d s : Nat} (hr : r < 10) (hdd : d ≤ 200) (hs : s ≤ 999) (hs0 : s ≠ 0) (b : Bool) : f_X12_silence_64 FU (nI r) (nI d) (nI s) b 0 0 0 I L = some (slR w r d s b, I, L) := by
  have h12 := hw.2.2.1.1.2
  have key : Tt (f_X12_silence_64 FU (nI r) (nI d) (nI s) b 0 0 (nI 0) I L) (fun x => x = (slR w r d s b, I, L)) := by
    refine lp0 (fun fuel k (p : Int64 × Int64) => f_X12_silence_64 fuel (nI r) (nI d) (nI s) b p.1 p.2 (nI k) I L) (nw w 3) (fun k p => p = slN w r d s k) (by omega) ?_ ?_ (s := (0, 0)) rfl
    · intro fuel k p hk hb hnx
      have hat := at_le hw.2.2.1 (r := r) hk
      show Tt (f_X12_silence_64 (fuel + 1) (nI r) (nI d) (nI s) b p.1 p.2 (nI k) I L) _
      unfold f_X12_silence_64 f_X12_silence_126
      rw [r_n3 hw hI.1, Option.bind_some, if_neg (le_n (by omega) (by omega) hk), r_at hw hI hk hr, Option.bind_some, r_due hw hI hk hdd, Option.bind_some, zL_i (show s < 2 ^ 31 by omega), dvL_n hs0 (by omega), Option.bind_some, zI_1]
      by_cases h9 : atN w k r = 0
      · rw [if_pos (by rw [zI_0, zI_eq (by omega) (by decide)]; omega)]
        refine hnx p ?_
        show _ = if atN w k r = 0 then _ else _
        rw [if_pos h9]; exact hb
      · rw [if_neg (by rw [zI_0, zI_eq (by omega) (by decide)]; omega)]
        refine hnx (if slq w d s k < p.1 then p.1 else slq w d s k, p.2 + slq w d s k * nL s) ?_
        show _ = if atN w k r = 0 then _ else _
        rw [if_neg h9, hb]
    · intro fuel p hb
      show Tt (f_X12_silence_64 (fuel + 1) (nI r) (nI d) (nI s) b p.1 p.2 (nI (nw w 3)) I L) _
      unfold f_X12_silence_64 f_X12_silence_159
      rw [r_n3 hw hI.1, Option.bind_some, if_pos (Int32.le_refl _), hb]
      unfold slR
      by_cases h8 : (slN w r d s (nw w 3)).1 ≤ 9999
      · rw [if_pos h8, if_pos h8]
        by_cases h7 : b = true
        · rw [if_pos h7, if_pos h7]; exact Tt_some rfl
        · rw [if_neg h7, if_neg h7]; exact Tt_some rfl
      · rw [if_neg h8, if_neg h8]; exact Tt_some rfl
  rw [← zI_0] at key
  obtain ⟨x, e1, e2⟩ := key
  rw [e1, e2]
theorem C_silence {c : Nat} {I : MI} {L : ML} {A : AS} (hA : AI c A) (hC : CI9 I L A) (hR : RI9 I L A) (x y z : Int32) (b : Bool) : ∃ I' L', SJ [IOB, IAE] (f_X11_silence x y z b I L) (f_X12_silence x y z b) I' L' ∧ CI9 I' L' A ∧ RI9 I' L' A := by
  obtain ⟨h, d, hd, cj⟩ := id hC
  obtain ⟨e, cr, e0, e2, e3⟩ := C_n hA cj
  have h10 := AI_r hA
  by_cases hx : ∃ k, k < nw A.1 0 ∧ x = nI k
  · obtain ⟨r, hr, rfl⟩ := hx
    by_cases hy : ¬ y < 1 ∧ ¬ 200 < y
    · by_cases hz : ¬ z < 1 ∧ ¬ 999 < z
      · obtain ⟨t, -, ht, rfl⟩ := rng_t (a := 1) (b := 200) (by decide) (by decide) hy
        obtain ⟨s, hs1, hs, rfl⟩ := rng_t (a := 1) (b := 999) (by decide) (by decide) hz
        refine mkSJ (res := .inr (slR A.1 r t s b)) hR ?_ ?_
        · simp -implicitDefEqProofs only [f_X11_silence, f_X11_silence_29, c_needRoom_t hd e e0 h10 hr, c_days_t hy, ite2_t hz, c_need_t, Option.bind_some, xc_r, if_true]
          exact Tt_eq (c_silence hd hA.1 cr e hr ht hs (by omega) b) (Cp_q hC)
        · intro I' L' hR'
          simp -implicitDefEqProofs only [f_X12_silence, f_X12_silence_42, pf0, Option.bind_some, r_noRoom_t (R_0 hA hR') h10 hr, r_thr_f, bft, if_false, r_days_t hy, r_in, decide_eq_true hz, if_true]
          refine Tt_bind (Tt_mono (r_sp hA.1 (R_w hR')) ?_)
          intro s9 ⟨s1, s2, s3⟩
          rw [s1]
          exact Tt_eq (r_silence hA.1 s3 (by omega) ht hs (by omega) b) (Rp_q hR' (scR_156 s2))
      · refine mkSJ (res := .inl 2) hR ?_ ?_
        · simp -implicitDefEqProofs only [f_X11_silence, f_X11_silence_28, f_X11_silence_29, c_needRoom_t hd e e0 h10 hr, c_days_t hy, ite2_f hz, c_need_f, Option.bind_some, xc_r, xc_l, if_true]
          exact Tt_some (Cp_t hC (wk_2 (by decide)))
        · intro I' L' hR'
          simp -implicitDefEqProofs only [f_X12_silence, f_X12_silence_37, f_X12_silence_42, f_X12_silence_49, pf0, Option.bind_some, r_noRoom_t (R_0 hA hR') h10 hr, r_thr_f, bft, if_false, r_days_t hy, r_in, decide_eq_false hz, r_thr_t, if_true]
          exact Tt_some (Rp_t hR' (by decide))
    · refine mkSJ (res := .inl 2) hR ?_ ?_
      · simp -implicitDefEqProofs only [f_X11_silence, f_X11_silence_28, f_X11_silence_29, c_needRoom_t hd e e0 h10 hr, c_days_f hy, c_need_f, Option.bind_some, xc_r, xc_l, bft, if_false]
        exact Tt_some (Cp_t hC (wk_2 (by decide)))
      · intro I' L' hR'
        simp -implicitDefEqProofs only [f_X12_silence, f_X12_silence_37, f_X12_silence_42, f_X12_silence_49, pf0, Option.bind_some, r_noRoom_t (R_0 hA hR') h10 hr, r_thr_f, bft, if_false, r_days_f hy, r_thr_t, if_true]
        exact Tt_some (Rp_t hR' (by decide))
  · refine mkSJ (res := .inl 1) hR ?_ ?_
    · simp -implicitDefEqProofs only [f_X11_silence, c_needRoom_f hd e e0 h10 (no_ex hx), Option.bind_some, xc_l]
      exact Tt_some (Cp_t hC (wk_1 (by decide)))
    · intro I' L' hR'
      simp -implicitDefEqProofs only [f_X12_silence, f_X12_silence_49, pf0, Option.bind_some, r_noRoom_f (R_0 hA hR') h10 (no_ex hx), r_thr_t, if_true]
      exact Tt_some (Rp_t hR' (by decide))
-- ===== ears
def hlN (w : Nat → Int32) (e n : Nat) : Nat := if hrs w e n = true then atN w n (nw w (67 + 3 * e + 0)) else 0
def eaN (w : Nat → Int32) (n : Nat) : Nat → Nat
  | 0 => 0
  | k + 1 => eaN w n k + hlN w k n
theorem hl_le {w : Nat → Int32} (hw : WFn w) {e n : Nat} (hn : n < nw w 3) : hlN w e n ≤ 99 := by
  have := at_le hw (r := nw w (67 + 3 * e + 0)) hn
  unfold hlN; split <;> omega
theorem ea_le {w : Nat → Int32} (hw : WFn w) {n : Nat} (hn : n < nw w 3) : ∀ k, eaN w n k ≤ 99 * k := by
  intro k
  induction k with
  | zero => exact Nat.le_refl _
  | succ k ih =>
    have h2 := hl_le hw (e := k) hn
    show eaN w n k + hlN w k n ≤ _
    omega
theorem ea_pos {w : Nat → Int32} {n e : Nat} : ∀ k, e < k → hlN w e n ≤ eaN w n k := by
  intro k
  induction k with
  | zero => intro h; omega
  | succ k ih =>
    intro h
    show _ ≤ eaN w n k + hlN w k n
    by_cases h9 : e < k
    · have := ih h9; omega
    · have : e = k := by omega
      subst this; omega
def erN (w : Nat → Int32) (e n : Nat) : Int32 := if hrs w e n = true then 100 * nI (hlN w e n) / nI (eaN w n (nw w 2)) else 0
theorem hl_pos {w : Nat → Int32} {c : Nat} (hw : WF c w) {e n : Nat} (he : e < nw w 2) (h : hrs w e n = true) : 1 ≤ hlN w e n := by
  obtain ⟨e0, e1, e2⟩ := hw.2.1.2 e he
  unfold hlN
  rw [if_pos h]
  unfold hrs at h
  have := of_decide_eq_true h
  omega
theorem c_ears {h d0 c : Nat} {I : MI} {L : ML} {w : Nat → Int32} (hd : HD h d0) (hw : WF c w) (cr : CR h I L w) (e : I 0 4 = nI h) {q n : Nat} (hq : q < nw w 2) (hn : n < nw w 3) : f_X11_ears_26 FU (nI q) (h + 33 + n) 0 0 I L = some (.inr (erN w q n), I, L) := by
  have h6 := hw.2.1.1.2
  have e2 := C_z2 hw cr
  have hS := ea_le hw.2.2.1 hn (nw w 2)
  have key : Tt (f_X11_ears_26 FU (nI q) (h + 33 + n) (nI 0) (nI 0) I L) (fun x => x = (.inr (erN w q n), I, L)) := by
    refine lp0 (fun fuel k (b : Nat) => f_X11_ears_26 fuel (nI q) (h + 33 + n) (nI b) (nI k) I L) (nw w 2) (fun k b => b = eaN w n k) (by omega) ?_ ?_ (s := 0) rfl
    · intro fuel k b hk hb hnx
      show Tt (f_X11_ears_26 (fuel + 1) (nI q) (h + 33 + n) (nI b) (nI k) I L) _
      unfold f_X11_ears_26
      simp only [hs_h hd e, Option.bind_some, e2]
      rw [if_neg (le_n (by omega) (by omega) hk), ldR_n (show k < 6 by omega) (by decide), Option.bind_some, c_heardL hw cr hk hn, Option.bind_some, zI_add, zI_1]
      exact hnx _ (by rw [hb]; rfl)
    · intro fuel b hb
      show Tt (f_X11_ears_26 (fuel + 1) (nI q) (h + 33 + n) (nI b) (nI (nw w 2)) I L) _
      unfold f_X11_ears_26 f_X11_ears_99
      simp only [hs_h hd e, Option.bind_some, e2]
      rw [if_pos (Int32.le_refl _), hb, ldR_n (show q < 6 by omega) (by decide), Option.bind_some, c_heardL hw cr hq hn, Option.bind_some]
      show Tt (if 0 < nI (eaN w n (nw w 2)) then Option.bind (dvI (100 * nI (hlN w q n)) (nI (eaN w n (nw w 2)))) _ else _) _
      unfold erN
      by_cases h9 : hrs w q n = true
      · have h7 := hl_pos hw hq h9
        have h8 := ea_pos (w := w) (n := n) (nw w 2) hq
        rw [if_pos (by rw [zI_0, zI_lt (by decide) (by omega)]; omega), if_pos h9, dv_n (by omega) (by omega), Option.bind_some]
        exact Tt_some rfl
      · rw [if_neg h9]
        by_cases h8 : eaN w n (nw w 2) = 0
        · rw [if_neg (by rw [zI_0, zI_lt (by decide) (by omega)]; omega)]
          exact Tt_some rfl
        · rw [if_pos (by rw [zI_0, zI_lt (by decide) (by omega)]; omega), dv_n (by omega) (by omega), Option.bind_some]
          have e9 : hlN w q n = 0 := by unfold hlN; rw [if_neg h9]
          rw [e9, show (100 : Int32) * nI 0 = nI 0 from rfl, zI_div (by decide) (by omega), Nat.zero_div]
          exact Tt_some rfl
  rw [← zI_0] at key
  obtain ⟨x, e1, e2⟩ := key
  rw [e1, e2]
theorem r_ears {c : Nat} {I : MI} {L : ML} {w : Nat → Int32} (hw : WF c w) (hI : RW I w) {q n : Nat} (hq : q < nw w 2) (hn : n < nw w 3) : f_X12_ears_45 FU (nI q) (nI n) 0 0 I L = some (erN w q n, I, L) := by
  have h6 := hw.2.1.1.2
  have hS := ea_le hw.2.2.1 hn (nw w 2)
  have hat : ∀ k, k < nw w 2 → f_X12_ofHeir (nI k) 0 I L = some (nI (nw w (67 + 3 * k + 0))) ∧ f_X12_atOf (nI n) (nI (nw w (67 + 3 * k + 0))) I L = some (nI (atN w n (nw w (67 + 3 * k + 0)))) := by
    intro k hk
    obtain ⟨k0, -⟩ := hw.2.1.2 k hk
    refine ⟨?_, r_at hw hI hn (by have := k0.1.2; omega)⟩
    rw [← k0.1.1]
    exact r_hw (k := 0) hI.1 (by omega) (by decide)
  have key : Tt (f_X12_ears_45 FU (nI q) (nI n) (nI 0) (nI 0) I L) (fun x => x = (erN w q n, I, L)) := by
    refine lp0 (fun fuel k (b : Nat) => f_X12_ears_45 fuel (nI q) (nI n) (nI b) (nI k) I L) (nw w 2) (fun k b => b = eaN w n k) (by omega) ?_ ?_ (s := 0) rfl
    · intro fuel k b hk hb hnx
      show Tt (f_X12_ears_45 (fuel + 1) (nI q) (nI n) (nI b) (nI k) I L) _
      unfold f_X12_ears_45 f_X12_ears_81
      rw [r_n2 hw hI.1, Option.bind_some, if_neg (le_n (by omega) (by omega) hk), r_hears hw hI hk hn, Option.bind_some, (hat k hk).1, Option.bind_some, (hat k hk).2, Option.bind_some, zI_0, zI_add, zI_add, zI_1]
      by_cases h9 : hrs w k n = true
      · rw [if_pos h9]
        exact hnx _ (by rw [hb]; show _ = eaN w n k + hlN w k n; unfold hlN; rw [if_pos h9])
      · rw [if_neg h9]
        exact hnx _ (by rw [hb]; show _ = eaN w n k + hlN w k n; unfold hlN; rw [if_neg h9])
    · intro fuel b hb
      show Tt (f_X12_ears_45 (fuel + 1) (nI q) (nI n) (nI b) (nI (nw w 2)) I L) _
      unfold f_X12_ears_45 f_X12_ears_118
      rw [r_n2 hw hI.1, Option.bind_some, if_pos (Int32.le_refl _), hb, r_hears hw hI hq hn, Option.bind_some, (hat q hq).1, Option.bind_some, (hat q hq).2, Option.bind_some]
      unfold erN
      by_cases h9 : hrs w q n = true
      · have h7 := hl_pos hw hq h9
        have h8 := ea_pos (w := w) (n := n) (nw w 2) hq
        have e9 : hlN w q n = atN w n (nw w (67 + 3 * q + 0)) := by unfold hlN; rw [if_pos h9]
        rw [if_pos h9, if_pos h9, dv_n (by omega) (by omega), Option.bind_some, e9]
        exact Tt_some rfl
      · rw [if_neg h9, if_neg h9]
        exact Tt_some rfl
  rw [← zI_0] at key
  obtain ⟨x, e1, e2⟩ := key
  rw [e1, e2]
theorem C_ears {c : Nat} {I : MI} {L : ML} {A : AS} (hA : AI c A) (hC : CI9 I L A) (hR : RI9 I L A) (x y : Int32) : ∃ I' L', SI [IOB] (f_X11_ears x y I L) (f_X12_ears x y) I' L' ∧ CI9 I' L' A ∧ RI9 I' L' A := by
  obtain ⟨h, d, hd, cj⟩ := id hC
  obtain ⟨e, cr, e0, e2, e3⟩ := C_n hA cj
  have h6 := AI_h hA
  have h12 := AI_n hA
  by_cases hx : ∃ k, k < nw A.1 2 ∧ x = nI k
  · obtain ⟨q, hq, rfl⟩ := hx
    by_cases hy : ∃ k, k < nw A.1 3 ∧ y = nI k
    · obtain ⟨n, hn, rfl⟩ := hy
      refine mkSI (res := .inr (erN A.1 q n)) hR ?_ ?_
      · simp -implicitDefEqProofs only [f_X11_ears, c_needHeir_t hd e e2 h6 hq, c_needNoise_t hd e e3 h12 hn, Option.bind_some, xc_r, hs_h hd e, ldR_n (show n < 12 by omega) (show 12 < 2 ^ 31 by decide)]
        exact Tt_eq (c_ears hd hA.1 cr e hq hn) (Cp_q hC)
      · intro I' L' hR'
        simp -implicitDefEqProofs only [f_X12_ears, f_X12_ears_27, pf0, Option.bind_some, r_noHeir_t (R_2 hA hR') h6 hq, r_noNoise_t (R_3 hA hR') h12 hn, r_thr_f, bft, if_false]
        refine Tt_bind (Tt_mono (r_sp hA.1 (R_w hR')) ?_)
        intro s ⟨s1, s2, s3⟩
        rw [s1]
        exact Tt_eq (r_ears hA.1 s3 hq hn) (Rp_q hR' (scR_156 s2))
    · refine mkSI (res := .inl 1) hR ?_ ?_
      · simp -implicitDefEqProofs only [f_X11_ears, c_needHeir_t hd e e2 h6 hq, c_needNoise_f hd e e3 h12 (no_ex hy), Option.bind_some, xc_r, xc_l]
        exact Tt_some (Cp_t hC (wk_1 (by decide)))
      · intro I' L' hR'
        simp -implicitDefEqProofs only [f_X12_ears, f_X12_ears_22, f_X12_ears_27, pf0, Option.bind_some, r_noHeir_t (R_2 hA hR') h6 hq, r_noNoise_f (R_3 hA hR') h12 (no_ex hy), r_thr_t, bft, if_false, if_true]
        exact Tt_some (Rp_t hR' (by decide))
  · refine mkSI (res := .inl 1) hR ?_ ?_
    · simp -implicitDefEqProofs only [f_X11_ears, c_needHeir_f hd e e2 h6 (no_ex hx), Option.bind_some, xc_l]
      exact Tt_some (Cp_t hC (wk_1 (by decide)))
    · intro I' L' hR'
      simp -implicitDefEqProofs only [f_X12_ears, f_X12_ears_22, f_X12_ears_27, pf0, Option.bind_some, r_noHeir_f (R_2 hA hR') h6 (no_ex hx), r_thr_t, if_true]
      exact Tt_some (Rp_t hR' (by decide))
