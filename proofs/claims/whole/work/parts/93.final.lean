-- ===== the start, and every call
theorem jI1_n {q j : Nat} {I : MI} (h : j ≠ q) : jI_X1 q I j = I j := by unfold jI_X1; rw [zu_n _ _ _ h, zu_n _ _ _ h, zu_n _ _ _ h]
theorem jI2_n {q j : Nat} {I : MI} (h : j ≠ q) : jI_X2 q I j = I j := by unfold jI_X2; rw [zu_n _ _ _ h, zu_n _ _ _ h, zu_n _ _ _ h]
theorem jI5_n {q j : Nat} {I : MI} (h : j ≠ q) : jI_X5 q I j = I j := by unfold jI_X5; rw [zu_n _ _ _ h, zu_n _ _ _ h, zu_n _ _ _ h, zu_n _ _ _ h, zu_n _ _ _ h, zu_n _ _ _ h, zu_n _ _ _ h, zu_n _ _ _ h, zu_n _ _ _ h, zu_n _ _ _ h]
theorem jI9_n {q j : Nat} {I : MI} (h : j ≠ q + 5) : jI_X9 q I j = I j := by unfold jI_X9; rw [zu_n _ _ _ h, zu_n _ _ _ h]
theorem jI3_n {h j : Nat} {I : MI} (hj : j < h ∨ h + 45 ≤ j) : jI_X3 h I j = I j := by
  unfold jI_X3
  repeat (first | rw [jI5_n (by omega)] | rw [jI2_n (by omega)] | rw [jI1_n (by omega)] | rw [jI9_n (by omega)] | rw [zu_n _ _ _ (by omega)])
theorem jI11_n {j : Nat} {I : MI} (hj : j = 2 ∨ 149 ≤ j) : jI_X11 I j = I j := by
  unfold jI_X11
  rw [zu_n _ _ _ (by omega), jI3_n (by omega), zu_n _ _ _ (by omega), jI3_n (by omega), zu_n _ _ _ (by omega), jI3_n (by omega)]
  unfold jI_X7 jI_X6 jI_X0 jI_X8
  repeat rw [zu_n _ _ _ (by omega)]
theorem w0_n : ∀ k, k ≠ 13 → I0 150 k = 0 := fun k hk => by
  unfold I0 jI_X12
  rw [zu_s, if_neg hk, zu_n _ _ _ (by decide), jI11_n (by omega)]
  rfl
theorem i0_n {j : Nat} (hj : j = 2 ∨ 151 ≤ j) (k : Nat) : I0 j k = 0 := by
  unfold I0 jI_X12
  rw [zu_n _ _ _ (by omega), zu_n _ _ _ (by omega), jI11_n (by omega)]
  rfl
theorem nw0_n {k : Nat} (hk : k ≠ 13) : nw (I0 150) k = 0 := by
  unfold nw
  rw [w0_n k hk]; rfl
theorem tm_0 : tm (I0 150) = 0 := by
  unfold tm
  rw [nw0_n (by decide), nw0_n (by decide)]
theorem WF_0 : WF 0 (I0 150) := by
  have ok0 : ∀ {k b : Nat}, k ≠ 13 → okN (I0 150) k b := fun hk => ⟨by rw [nw0_n hk, w0_n _ hk]; rfl, by rw [nw0_n hk]; exact Nat.zero_le _⟩
  refine ⟨⟨ok0 (by decide), ok0 (by decide), fun k hk => ok0 (by omega), fun d hd => ?_⟩, ⟨ok0 (by decide), fun h hh => ?_⟩, ⟨ok0 (by decide), fun n hn => ?_⟩, ⟨ok0 (by decide), Or.inl (w0_n 5 (by decide)), by rw [nw0_n (by decide), w0_n 6 (by decide)]; rfl, ok0 (by decide), by rw [tm_0]; decide, ok0 (by decide), Or.inl (w0_n 9 (by decide)), by rw [tm_0, w0_n 14 (by decide)]; rfl, fun h _ _ => w0_n _ (by omega)⟩, fun ago ha => ?_, fun h5 => ?_⟩
  · rw [nw0_n (by decide)] at hd; exact absurd hd (Nat.not_lt_zero _)
  · rw [nw0_n (by decide)] at hh; exact absurd hh (Nat.not_lt_zero _)
  · rw [nw0_n (by decide)] at hn; exact absurd hn (Nat.not_lt_zero _)
  · rw [tm_0] at ha; omega
  · rw [w0_n 5 (by decide)] at h5; exact absurd h5 (by decide)
theorem CR_0 : CR 14 I0 L0 (I0 150) := by
  refine ⟨⟨by decide +kernel, by decide +kernel, by decide +kernel, by decide +kernel⟩, ⟨by decide +kernel, by decide +kernel⟩, ⟨by decide +kernel, fun k hk => ⟨fun h => ?_, fun _ => ?_⟩⟩, ?_, fun a b ha => ?_, fun ago ha => ?_, ?_, fun h5 => ?_⟩
  · rw [nw0_n (by decide)] at h; exact absurd h (Nat.not_lt_zero _)
  · have key : ∀ k, k < 12 → I0 (14 + 33 + k) 6 = 0 ∧ I0 (14 + 33 + k) 7 = -1 ∧ I0 (14 + 33 + k) 8 = 0 ∧ I0 (14 + 33 + k) 9 = 0 := by decide +kernel
    exact key k hk
  · unfold CRt
    rw [tm_0]
    decide +kernel
  · rw [nw0_n (by decide)] at ha; exact absurd ha (Nat.not_lt_zero _)
  · rw [tm_0] at ha; omega
  · rw [w0_n 5 (by decide)]; decide +kernel
  · rw [w0_n 5 (by decide)] at h5; exact absurd h5 (by decide)
theorem Inv_0 : Inv9 0 I0 L0 := by
  refine ⟨(I0 150, none, fun _ => 0, 0, -1, []), ⟨WF_0, fun v hv => absurd hv (by simp), fun k hk => ?_, Nat.zero_le _, Nat.zero_le _, fun a ha => absurd ha (List.not_mem_nil)⟩, ⟨14, 59, Or.inl ⟨rfl, rfl⟩, by decide +kernel, by decide +kernel, CR_0, by decide +kernel, fun v hv => absurd hv (by simp), by decide +kernel, fun k hk => ?_, by decide +kernel, by decide +kernel, 0, by decide, by decide +kernel, fun j a ha => absurd ha (by simp)⟩, ⟨Eq.refl (I0 150), by decide +kernel, fun v hv => absurd hv (by simp), by decide +kernel, fun k _ => i0_n (by omega) k, by decide +kernel, by decide +kernel, fun j hj => absurd hj (Nat.not_lt_zero _)⟩⟩
  · show (0 : Int32) = (0 : Int32).toInt8.toInt32
    rfl
  · exact i0_n (by omega) k
theorem all_steps : ∀ (c : Nat), c < 600 → ∀ (o a1 a2 a3 a4 a5 : Int32) (I : MI) (L : ML), Inv9 c I L → ∃ I' L', Step o a1 a2 a3 a4 a5 I L I' L' ∧ Inv9 (c + 1) I' L' := by
  intro c hc o a1 a2 a3 a4 a5 I L ⟨A, hA, hC, hR⟩
  unfold Step
  have h6 : c ≤ 600 := by omega
  by_cases c0 : o = 0
  · simp only [if_pos c0]; exact C_feed hA hC hR a1 a2 a3 a4 a5
  simp only [if_neg c0]
  by_cases c1 : o = 1
  · simp only [if_pos c1]; exact C_end hA hC hR a1
  simp only [if_neg c1]
  by_cases c2 : o = 2
  · simp only [if_pos c2]; exact C_house hA hC hR
  simp only [if_neg c2]
  by_cases c3 : o = 3
  · simp only [if_pos c3]; exact C_will hA hC hR
  simp only [if_neg c3]
  by_cases c4 : o = 4
  · simp only [if_pos c4]; exact fin_s hA (C_fault hA hC hR)
  simp only [if_neg c4]
  by_cases c5 : o = 5
  · simp only [if_pos c5]; exact fin_s hA (C_room hA hC hR a1 a2)
  simp only [if_neg c5]
  by_cases c6 : o = 6
  · simp only [if_pos c6]; exact fin_s hA (C_heir hA hC hR a1 a2)
  simp only [if_neg c6]
  by_cases c7 : o = 7
  · simp only [if_pos c7]; exact fin_s hA (C_noise hA hC hR a1 a2)
  simp only [if_neg c7]
  by_cases c8 : o = 8
  · simp only [if_pos c8]; exact fin_s hA (C_cost hA hC hR a1 a2)
  simp only [if_neg c8]
  by_cases c9 : o = 9
  · simp only [if_pos c9]; exact fin_s hA (C_at hA hC hR a1 a2)
  simp only [if_neg c9]
  by_cases c10 : o = 10
  · simp only [if_pos c10]; exact fin_s hA (C_title h6 hA hC hR a1 a2)
  simp only [if_neg c10]
  by_cases c11 : o = 11
  · simp only [if_pos c11]; exact fin_s hA (C_part h6 hA hC hR a1 a2 a3)
  simp only [if_neg c11]
  by_cases c12 : o = 12
  · simp only [if_pos c12]; exact C_hours (by omega) hA hC hR a1
  simp only [if_neg c12]
  by_cases c13 : o = 13
  · simp only [if_pos c13]; exact C_go hA hC hR a1 a2
  simp only [if_neg c13]
  by_cases c14 : o = 14
  · simp only [if_pos c14]; exact C_make hA hC hR a1
  simp only [if_neg c14]
  by_cases c15 : o = 15
  · simp only [if_pos c15]; exact C_oil hA hC hR a1 a2
  simp only [if_neg c15]
  by_cases c16 : o = 16
  · simp only [if_pos c16]; exact C_carpet hA hC hR a1 a2
  simp only [if_neg c16]
  by_cases c17 : o = 17
  · simp only [if_pos c17]; exact C_undo hA hC hR
  simp only [if_neg c17]
  by_cases c18 : o = 18
  · simp only [if_pos c18]; exact fin_s hA (C_odds hA hC hR a1 a2 a3)
  simp only [if_neg c18]
  by_cases c19 : o = 19
  · simp only [if_pos c19]; exact fin_s hA (C_likeliest hA hC hR a1 a2)
  simp only [if_neg c19]
  by_cases c20 : o = 20
  · simp only [if_pos c20]; exact fin_s hA (C_due hA hC hR a1 a2)
  simp only [if_neg c20]
  by_cases c21 : o = 21
  · simp only [if_pos c21]; exact fin_s hA (C_quiet hA hC hR a1 a2 a3)
  simp only [if_neg c21]
  by_cases c22 : o = 22
  · simp only [if_pos c22]; exact fin_s hA (C_suspects h6 hA hC hR a1)
  simp only [if_neg c22]
  by_cases c23 : o = 23
  · simp only [if_pos c23]; exact C_ghost hA hC hR a1
  simp only [if_neg c23]
  by_cases c24 : o = 24
  · simp only [if_pos c24]; exact fin_s hA (C_breach hA hC hR a1 a2)
  simp only [if_neg c24]
  by_cases c25 : o = 25
  · simp only [if_pos c25]; exact fin_s hA (C_silence hA hC hR a1 a2 a3 (a4 != 0))
  simp only [if_neg c25]
  by_cases c26 : o = 26
  · simp only [if_pos c26]; exact fin_s hA (C_ears hA hC hR a1 a2)
  simp only [if_neg c26]
  by_cases c27 : o = 27
  · simp only [if_pos c27]; exact fin_s hA (C_seat h6 hA hC hR a1)
  simp only [if_neg c27]
  by_cases c28 : o = 28
  · simp only [if_pos c28]; exact fin_s hA (C_value h6 hA hC hR a1)
  simp only [if_neg c28]
  by_cases c29 : o = 29
  · simp only [if_pos c29]; exact fin_s hA (C_sale h6 hA hC hR (a1 != 0))
  simp only [if_neg c29]
  by_cases c30 : o = 30
  · simp only [if_pos c30]; exact C_seed hA hC hR a1
  simp only [if_neg c30]
  by_cases c31 : o = 31
  · simp only [if_pos c31]; exact C_image hA hC hR
  simp only [if_neg c31]
  by_cases c32 : o = 32
  · simp only [if_pos c32]; exact C_back hA hC hR
  simp only [if_neg c32]
  by_cases c33 : o = 33
  · simp only [if_pos c33]; exact fin_s hA (C_count h6 hA hC hR a1)
  simp only [if_neg c33]
  exact ⟨I, L, ⟨rfl, rfl⟩, A, AI_up hA, hC, hR⟩
theorem whole_start {p : Program} {e : Env} {s : State} {m : MethodId} {below : List Frame} {meth : Method} {c : Code} (l : Launch) (hfl : l.stackTraces = false) {b L : Nat} {xs : Nat → Int32} (hL : L ≤ 3072) (C0 : lw_At p s m meth c b L xs) : W p l e room_1 s m #[Value.ref b] below meth c s.heap [] 0 0 (lw_Z below #[Value.ref b] s) (entryFrame m ([Value.ref b] : List Value).toArray 8) := whole_from Inv9 Inv_0 all_steps l hfl hL C0
