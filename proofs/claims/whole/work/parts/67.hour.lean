-- ===== an hour, as a step of worlds
theorem sw_comm {w : Nat → Int32} {p q : Nat} {x y : Int32} (h : p ≠ q) : setw (setw w p x) q y = setw (setw w q y) p x := by
  funext k
  unfold setw
  by_cases h1 : k = q
  · rw [if_pos h1, if_neg (show ¬ k = p by omega), if_pos h1]
  · rw [if_neg h1]
    by_cases h2 : k = p
    · rw [if_pos h2, if_pos h2]
    · rw [if_neg h2, if_neg h2, if_neg h1]
theorem sw_id {w : Nat → Int32} {p : Nat} {x : Int32} (h : w p = x) : setw w p x = w := by
  funext k
  unfold setw
  by_cases h1 : k = p
  · rw [if_pos h1, h1, h]
  · rw [if_neg h1]
-- a number of the house that no rule looks at
theorem WF_free {c p : Nat} {w : Nat → Int32} (x : Int32) (hp : 10 ≤ p ∧ p ≤ 13) (hw : WF c w) : WF c (setw w p x) := by
  obtain ⟨a, b, d, e, f, g⟩ := hw
  have s : ∀ k, k ≠ p → setw w p x k = w k := fun k hk => sw_n w x hk
  have ht := tm_cg (s 6 (by omega)) (s 7 (by omega))
  exact ⟨WFd_cg (s 0 (by omega)) (s 1 (by omega)) (fun k _ _ => s k (by omega)) a, WFh_cg (s 0 (by omega)) (s 2 (by omega)) (fun k _ _ => s k (by omega)) b, WFn_cg (s 0 (by omega)) (s 3 (by omega)) ht (fun k _ _ => s k (by omega)) d, WFt_cg (fun k _ _ => s k (by omega)) (s 14 (by omega)) (s 2 (by omega)) (fun k _ => s _ (by omega)) e, WFp_cg (s 0 (by omega)) (s 2 (by omega)) ht (fun k _ _ => s k (by omega)) f, WFl_cg (s 5 (by omega)) (fun k _ _ => s k (by omega)) g⟩
theorem WF_storm {c : Nat} {w : Nat → Int32} (b9 : Bool) (hw : WF c w) : WF c (setw w 9 (bI b9)) := by
  obtain ⟨a, b, d, e, f, g⟩ := hw
  have s : ∀ k, k ≠ 9 → setw w 9 (bI b9) k = w k := fun k hk => sw_n w _ hk
  have ht := tm_cg (s 6 (by omega)) (s 7 (by omega))
  refine ⟨WFd_cg (s 0 (by omega)) (s 1 (by omega)) (fun k _ _ => s k (by omega)) a, WFh_cg (s 0 (by omega)) (s 2 (by omega)) (fun k _ _ => s k (by omega)) b, WFn_cg (s 0 (by omega)) (s 3 (by omega)) ht (fun k _ _ => s k (by omega)) d, ?_, WFp_cg (s 0 (by omega)) (s 2 (by omega)) ht (fun k _ _ => s k (by omega)) f, WFl_cg (s 5 (by omega)) (fun k _ _ => s k (by omega)) g⟩
  obtain ⟨e1, e2, e3, e4, e5, e6, e7, e8, e9⟩ := e
  refine ⟨okN_cg (s 4 (by omega)) e1, by rw [s 5 (by omega)]; exact e2, by rw [s 6 (by omega), nwe (s 6 (by omega))]; exact e3, okN_cg (s 7 (by omega)) e4, by rw [ht]; exact e5, okN_cg (s 8 (by omega)) e6, by rw [sw_s]; exact bI_B b9, by rw [s 14 (by omega), ht]; exact e8, fun h h1 h2 => ?_⟩
  rw [nwe (s 2 (by omega))] at h1
  rw [s _ (by omega)]; exact e9 h h1 h2
theorem WF_coin {c k : Nat} {w : Nat → Int32} (x : Int32) (hk : k < nw w 2) (hw : WF c w) : WF c (setw w (67 + 3 * k + 2) x) := by
  obtain ⟨a, b, d, e, f, g⟩ := hw
  have h6 := b.1.2
  have s : ∀ j, j ≠ 67 + 3 * k + 2 → setw w (67 + 3 * k + 2) x j = w j := fun j hj => sw_n w _ hj
  have ht := tm_cg (s 6 (by omega)) (s 7 (by omega))
  refine ⟨WFd_cg (s 0 (by omega)) (s 1 (by omega)) (fun j _ _ => s j (by omega)) a, ⟨okN_cg (s 2 (by omega)) b.1, fun e9 he => ?_⟩, WFn_cg (s 0 (by omega)) (s 3 (by omega)) ht (fun j _ _ => s j (by omega)) d, ?_, WFp_cg (s 0 (by omega)) (s 2 (by omega)) ht (fun j _ _ => s j (by omega)) f, WFl_cg (s 5 (by omega)) (fun j _ _ => s j (by omega)) g⟩
  · rw [nwe (s 2 (by omega))] at he
    obtain ⟨⟨b1, b2⟩, b3, b4⟩ := b.2 e9 he
    have s0 := s (67 + 3 * e9 + 0) (by omega)
    have s1 := s (67 + 3 * e9 + 1) (by omega)
    exact ⟨⟨okN_cg s0 b1, by rw [nwe s0, nwe (s 0 (by omega))]; exact b2⟩, okN_cg s1 b3, by rw [nwe s1]; exact b4⟩
  · obtain ⟨e1, e2, e3, e4, e5, e6, e7, e8, e9⟩ := e
    refine ⟨okN_cg (s 4 (by omega)) e1, by rw [s 5 (by omega)]; exact e2, by rw [s 6 (by omega), nwe (s 6 (by omega))]; exact e3, okN_cg (s 7 (by omega)) e4, by rw [ht]; exact e5, okN_cg (s 8 (by omega)) e6, by rw [s 9 (by omega)]; exact e7, by rw [s 14 (by omega), ht]; exact e8, fun h h1 h2 => ?_⟩
    rw [nwe (s 2 (by omega))] at h1
    rw [s _ (by omega)]; exact e9 h h1 h2
/-- latest (7) and how often (8) -/
theorem WF_nz78 {c : Nat} {w : Nat → Int32} {k fd : Nat} {x : Int32} (hk : k < nw w 3) (hc6 : c ≤ 601) (hx : (fd = 7 ∧ x = nI (tm w)) ∨ fd = 8) (hw : WF c w) : WF c (setw w (85 + 10 * k + fd) x) := by
  obtain ⟨a, b, d, e, f, g⟩ := hw
  have h12 := d.1.2
  have s : ∀ j, j ≠ 85 + 10 * k + fd → setw w (85 + 10 * k + fd) x j = w j := fun j hj => sw_n w _ hj
  have ht := tm_cg (s 6 (by omega)) (s 7 (by omega))
  have htb : tm w < 2 ^ 31 := by have := e.2.2.2.2.1; omega
  refine ⟨WFd_cg (s 0 (by omega)) (s 1 (by omega)) (fun j _ _ => s j (by omega)) a, WFh_cg (s 0 (by omega)) (s 2 (by omega)) (fun k _ _ => s k (by omega)) b, ⟨okN_cg (s 3 (by omega)) d.1, fun n hn => ?_⟩, WFt_cg (fun k _ _ => s k (by omega)) (s 14 (by omega)) (s 2 (by omega)) (fun k _ => s _ (by omega)) e, WFp_cg (s 0 (by omega)) (s 2 (by omega)) ht (fun j _ _ => s j (by omega)) f, WFl_cg (s 5 (by omega)) (fun j _ _ => s j (by omega)) g⟩
  rw [nwe (s 3 (by omega))] at hn
  by_cases h9 : n = k
  · subst h9
    obtain ⟨n0, n1, n2, n3, n4, n5, n6, n7, n9⟩ := d.2 n hn
    have s0 := s (85 + 10 * n + 0) (by omega)
    have s1 := s (85 + 10 * n + 1) (by omega)
    have s6 := s (85 + 10 * n + 6) (by omega)
    have s9 := s (85 + 10 * n + 9) (by omega)
    refine ⟨okN_cg s0 n0, ⟨okN_cg s1 n1.1, by rw [nwe s1, nwe (s 0 (by omega))]; exact n1.2⟩, okN_cg (s _ (by omega)) n2, okN_cg (s _ (by omega)) n3, okN_cg (s _ (by omega)) n4, okN_cg (s _ (by omega)) n5, ⟨okN_cg s6 n6.1, by rw [nwe s0, nwe s6]; exact n6.2⟩, ?_, by rw [s9, nwe s0]; exact n9⟩
    rcases hx with ⟨rfl, rfl⟩ | rfl
    · refine Or.inr ?_
      rw [ht]
      exact ⟨okN_s htb (Nat.le_refl _), by rw [nw_s htb]; exact Nat.le_refl _⟩
    · have s7 := s (85 + 10 * n + 7) (by omega)
      rw [s7, ht, nwe s7]
      rcases n7 with n7 | n7
      · exact Or.inl n7
      · exact Or.inr ⟨okN_cg s7 n7.1, n7.2⟩
  · exact WFn1_cg (s 0 (by omega)) ht (fun j hj => s _ (by omega)) (d.2 n hn)
-- the class's cells for these
theorem CR_ht {c h s : Nat} {I : MI} {L : ML} {w : Nat → Int32} (hs : 14 ≤ s ∧ s ≤ 18) (x : Int32) (hw : WF c w) (y : CR h I L w) : CR h (up2 I h s x) L (setw w (s - 5) x) := by
  obtain ⟨a, b, d, f, g, i, j⟩ := y
  have t : ∀ k, k ≠ s - 5 → setw w (s - 5) x k = w k := fun k hk => sw_n w x hk
  have u : ∀ k, k ≠ s → up2 I h s x h k = I h k := fun k hk => by rw [zu_s, if_neg hk]
  have v : ∀ q, q ≠ h → up2 I h s x q = I q := fun q hq => zu_n _ _ _ hq
  have ht := tm_cg (t 6 (by omega)) (t 7 (by omega))
  refine ⟨CRd_cg (u 0 (by omega)) (u 1 (by omega)) (v _ (by omega)) (fun d _ => v _ (by omega)) (t 0 (by omega)) (t 1 (by omega)) (fun k _ _ => t k (by omega)) a, CRh_cg (u 2 (by omega)) (fun k _ => v _ (by omega)) (t 2 (by omega)) (fun k _ _ => t k (by omega)) b, CRn_cg (u 3 (by omega)) (fun k _ => v _ (by omega)) (t 3 (by omega)) (fun k _ _ => t k (by omega)) d, ?_, CRv_cg (v _ (by omega)) (t 0 (by omega)) (cs_cg hw.1 (t 1 (by omega)) (fun k _ _ => t k (by omega))) g, CRp_cg rfl ht (fun k _ _ => t k (by omega)) i, CRl_cg (by rw [v _ (by omega)]) (v _ (by omega)) (v _ (by omega)) (v _ (by omega)) (v _ (by omega)) hw.2.2.2.2.2 (t 5 (by omega)) (fun k _ _ => t k (by omega)) j⟩
  obtain ⟨f1, f2, f3, f4, f5, f6, f7, f8⟩ := f
  have one : ∀ k, 14 ≤ k → k ≤ 18 → I h k = w (k - 5) → up2 I h s x h k = setw w (s - 5) x (k - 5) := fun k h1 h2 hk => by
    by_cases h9 : k = s
    · rw [h9, zu_s, if_pos rfl, sw_s]
    · rw [u k h9, t (k - 5) (by omega)]; exact hk
  refine ⟨by rw [u 11 (by omega), t 4 (by omega)]; exact f1, by rw [u 12 (by omega), ht]; exact f2, by rw [u 13 (by omega), t 8 (by omega)]; exact f3, one 14 (by decide) (by decide) f4, one 15 (by decide) (by decide) f5, one 16 (by decide) (by decide) f6, one 17 (by decide) (by decide) f7, one 18 (by decide) (by decide) f8⟩
theorem CR_coin {c h : Nat} {I : MI} {L : ML} {w : Nat → Int32} {k : Nat} (hk : k < 6) (x : Int32) (hw : WF c w) (y : CR h I L w) : CR h (up2 I (h + 27 + k) 2 x) L (setw w (67 + 3 * k + 2) x) := by
  obtain ⟨a, b, d, f, g, i, j⟩ := y
  have s : ∀ j, j ≠ 67 + 3 * k + 2 → setw w (67 + 3 * k + 2) x j = w j := fun j hj => sw_n w _ hj
  have v : ∀ q, q ≠ h + 27 + k → up2 I (h + 27 + k) 2 x q = I q := fun q hq => zu_n _ _ _ hq
  have ht := tm_cg (s 6 (by omega)) (s 7 (by omega))
  refine ⟨CRd_cg (by rw [v _ (by omega)]) (by rw [v _ (by omega)]) (v _ (by omega)) (fun d _ => v _ (by omega)) (s 0 (by omega)) (s 1 (by omega)) (fun k _ _ => s k (by omega)) a, ⟨by rw [v _ (by omega), s 2 (by omega)]; exact b.1, fun e he => ?_⟩, CRn_cg (by rw [v _ (by omega)]) (fun k _ => v _ (by omega)) (s 3 (by omega)) (fun k _ _ => s k (by omega)) d, CRt_cg (fun k _ _ => by rw [v _ (by omega)]) ht (s 4 (by omega)) (fun k _ _ => s k (by omega)) f, CRv_cg (v _ (by omega)) (s 0 (by omega)) (cs_cg hw.1 (s 1 (by omega)) (fun k _ _ => s k (by omega))) g, CRp_cg rfl ht (fun k _ _ => s k (by omega)) i, CRl_cg (by rw [v _ (by omega)]) (v _ (by omega)) (v _ (by omega)) (v _ (by omega)) (v _ (by omega)) hw.2.2.2.2.2 (s 5 (by omega)) (fun k _ _ => s k (by omega)) j⟩
  obtain ⟨b0, b1, b2⟩ := b.2 e he
  by_cases h9 : e = k
  · subst h9
    rw [zu_s, zu_s, zu_s, if_neg (by decide), if_neg (by decide), if_pos rfl, sw_s, s (67 + 3 * e + 0) (by omega), s (67 + 3 * e + 1) (by omega)]
    exact ⟨b0, b1, rfl⟩
  · rw [v _ (by omega), s (67 + 3 * e + 0) (by omega), s (67 + 3 * e + 1) (by omega), s (67 + 3 * e + 2) (by omega)]
    exact ⟨b0, b1, b2⟩
theorem CR_nz78 {c h : Nat} {I : MI} {L : ML} {w : Nat → Int32} {k fd : Nat} (hsl : fd = 7 ∨ fd = 8) (hk : k < nw w 3) (x : Int32) (hw : WF c w) (y : CR h I L w) : CR h (up2 I (h + 33 + k) fd x) L (setw w (85 + 10 * k + fd) x) := by
  obtain ⟨a, b, d, f, g, i, j⟩ := y
  have h12 := hw.2.2.1.1.2
  have s : ∀ j, j ≠ 85 + 10 * k + fd → setw w (85 + 10 * k + fd) x j = w j := fun j hj => sw_n w _ hj
  have v : ∀ q, q ≠ h + 33 + k → up2 I (h + 33 + k) fd x q = I q := fun q hq => zu_n _ _ _ hq
  have ht := tm_cg (s 6 (by omega)) (s 7 (by omega))
  refine ⟨CRd_cg (by rw [v _ (by omega)]) (by rw [v _ (by omega)]) (v _ (by omega)) (fun d _ => v _ (by omega)) (s 0 (by omega)) (s 1 (by omega)) (fun k _ _ => s k (by omega)) a, CRh_cg (by rw [v _ (by omega)]) (fun k _ => v _ (by omega)) (s 2 (by omega)) (fun k _ _ => s k (by omega)) b, ⟨by rw [v _ (by omega), s 3 (by omega)]; exact d.1, fun n hn => ?_⟩, CRt_cg (fun k _ _ => by rw [v _ (by omega)]) ht (s 4 (by omega)) (fun k _ _ => s k (by omega)) f, CRv_cg (v _ (by omega)) (s 0 (by omega)) (cs_cg hw.1 (s 1 (by omega)) (fun k _ _ => s k (by omega))) g, CRp_cg rfl ht (fun k _ _ => s k (by omega)) i, CRl_cg (by rw [v _ (by omega)]) (v _ (by omega)) (v _ (by omega)) (v _ (by omega)) (v _ (by omega)) hw.2.2.2.2.2 (s 5 (by omega)) (fun k _ _ => s k (by omega)) j⟩
  obtain ⟨p, q⟩ := d.2 n hn
  rw [nwe (s 3 (by omega))]
  by_cases h9 : n = k
  · subst h9
    refine ⟨fun h8 => ?_, fun h8 => absurd h8 (by omega)⟩
    have p9 := p h8
    unfold CRn1 at p9 ⊢
    obtain ⟨n0, n1, n2, n3, n4, n5, n6, n7, n8, n9⟩ := p9
    rcases hsl with rfl | rfl
    · rw [s (85 + 10 * n + 0) (by omega), s (85 + 10 * n + 1) (by omega), s (85 + 10 * n + 2) (by omega), s (85 + 10 * n + 3) (by omega), s (85 + 10 * n + 4) (by omega), sw_s, s (85 + 10 * n + 5) (by omega), s (85 + 10 * n + 6) (by omega), s (85 + 10 * n + 8) (by omega), s (85 + 10 * n + 9) (by omega)]
      simp only [zu_s]
      exact ⟨n0, n1, n2, n3, n4, n5, n6, rfl, n8, n9⟩
    · rw [s (85 + 10 * n + 0) (by omega), s (85 + 10 * n + 1) (by omega), s (85 + 10 * n + 2) (by omega), s (85 + 10 * n + 3) (by omega), s (85 + 10 * n + 4) (by omega), sw_s, s (85 + 10 * n + 5) (by omega), s (85 + 10 * n + 6) (by omega), s (85 + 10 * n + 7) (by omega), s (85 + 10 * n + 9) (by omega)]
      simp only [zu_s]
      exact ⟨n0, n1, n2, n3, n4, n5, n6, n7, rfl, n9⟩
  · refine ⟨fun h8 => CRn1_cg (v _ (by omega)) (fun j hj => s _ (by omega)) (p h8), fun h8 => ?_⟩
    rw [v _ (by omega)]; exact q h8
-- ===== what hearing and titles look at
def EQt (w w' : Nat → Int32) : Prop := ∀ k, (k < 10 ∨ (14 ≤ k ∧ k < 67) ∨ (67 ≤ k ∧ k < 85 ∧ (k - 67) % 3 ≠ 2) ∨ (85 ≤ k ∧ k < 205 ∧ (k - 85) % 10 < 7) ∨ 445 ≤ k) → w' k = w k
theorem EQ_rf (w : Nat → Int32) : EQt w w := fun _ _ => rfl
theorem EQ_tr {u v w : Nat → Int32} (h1 : EQt u v) (h2 : EQt v w) : EQt u w := fun k hk => (h2 k hk).trans (h1 k hk)
theorem EQ_set {w : Nat → Int32} {p : Nat} {x : Int32} (hp : (10 ≤ p ∧ p ≤ 13) ∨ (67 ≤ p ∧ p < 85 ∧ (p - 67) % 3 = 2) ∨ (85 ≤ p ∧ p < 205 ∧ 7 ≤ (p - 85) % 10)) : EQt w (setw w p x) := fun k hk => sw_n w x (by omega)
theorem EQ_cs {w w' : Nat → Int32} (hw : WFd w) (h : EQt w w') : cs w' = cs w := cs_cg hw (h 1 (by omega)) (fun k h1 h2 => h k (by omega))
theorem EQ_at {w w' : Nat → Int32} (hw : WFd w) (h : EQt w w') {n r : Nat} (hn : n < 12) (hp : nw w (85 + 10 * n + 1) < 10) : atN w' n r = atN w n r := by
  unfold atN
  rw [EQ_cs hw h, nwe (h (85 + 10 * n + 3) (by omega)), nwe (h (85 + 10 * n + 5) (by omega)), nwe (h (85 + 10 * n + 1) (by omega)), nwe (h (15 + nw w (85 + 10 * n + 1)) (by omega))]
theorem EQ_hrs {w w' : Nat → Int32} {c : Nat} (hw : WF c w) (h : EQt w w') {e n : Nat} (he : e < 6) (hn : n < nw w 3) : hrs w' e n = hrs w e n := by
  have h12 := hw.2.2.1.1.2
  have h1 := (hw.2.2.1.2 n hn).2.1.1.2
  unfold hrs
  rw [nwe (h (67 + 3 * e + 1) (by omega)), nwe (h (67 + 3 * e + 0) (by omega)), EQ_at hw.1 h (by omega) (by omega)]
theorem any_cg {p q : Nat → Bool} : ∀ n, (∀ k, k < n → p k = q k) → (List.range n).any p = (List.range n).any q := by
  intro n
  induction n with
  | zero => intro _; rfl
  | succ n ih => intro h; rw [any_range, any_range, ih (fun k hk => h k (by omega)), h n (by omega)]
theorem EQ_hrd {w w' : Nat → Int32} {c : Nat} (hw : WF c w) (h : EQt w w') {n : Nat} (hn : n < nw w 3) : hrd w' n = hrd w n := by
  have h6 := hw.2.1.1.2
  unfold hrd
  rw [nwe (h 2 (by omega))]
  exact any_cg _ (fun k hk => EQ_hrs hw h (by omega) hn)
theorem EQ_fct {w w' : Nat → Int32} {c : Nat} (hw : WF c w) (h : EQt w w') {e n s : Nat} {a : Int32} (he : e < 6) (hn : n < nw w 3) : fctN w' e n s a = fctN w e n s a := by
  have h12 := hw.2.2.1.1.2
  unfold fctN
  rw [h (85 + 10 * n + 2) (by omega), h (85 + 10 * n + 3) (by omega), h 7 (by omega), h (85 + 10 * n + 1) (by omega), h (85 + 10 * n + 5) (by omega), h (85 + 10 * n + 0) (by omega), h 9 (by omega), EQ_hrs hw h he hn]
theorem EQ_ev {w w' : Nat → Int32} {c : Nat} (hw : WF c w) (h : EQt w w') {e n : Nat} (he : e < 6) (hn : n < nw w 3) : ∀ (m i : Nat) (st : List Int32), evR w' e n i m st = evR w e n i m st := by
  intro m
  induction m with
  | zero => intro i st; rfl
  | succ m ih =>
    intro i st
    show evR w' e n (i + 1) m (evS w' e n i st) = evR w e n (i + 1) m (evS w e n i st)
    have e1 : evS w' e n i st = evS w e n i st := by
      unfold evS
      rw [nwe (h (494 + 2 * i) (by omega)), h (495 + 2 * i) (by omega), EQ_fct hw h he hn]
    rw [e1]; exact ih _ _
theorem EQ_tt {w w' : Nat → Int32} {c : Nat} (hw : WF c w) (h : EQt w w') {e n : Nat} (he : e < 6) (hn : n < nw w 3) : ttN w' e n = ttN w e n := by
  have hh : ∀ l, hldN w' e n l = hldN w e n l := fun l => by
    unfold hldN
    rw [nwe (h (448 + 4 * l) (by omega)), nwe (h (449 + 4 * l) (by omega)), EQ_ev hw h he hn]
  have hF : ∀ (m k s : Nat), ttF w' e n k m s = ttF w e n k m s := by
    intro m
    induction m with
    | zero => intro k s; rfl
    | succ m ih =>
      intro k s
      show (if w' (446 + 4 * k) = nI e ∧ hldN w' e n k = true then (if w' (447 + 4 * k) = -1 then 0 else ttF w' e n (k + 1) m (s + nw w' (447 + 4 * k))) else ttF w' e n (k + 1) m s) = _
      rw [h (446 + 4 * k) (by omega), hh, h (447 + 4 * k) (by omega), nwe (h (447 + 4 * k) (by omega)), ih, ih]; rfl
  unfold ttN
  rw [h 5 (by omega), nwe (h 445 (by omega)), hF]
-- ===== the hour's steps
def nsd (s : Int32) : Int32 := 1103515245 * s + 12345
def drw (s : Int32) : Int32 := ((s >>> ((16 : Int32) &&& 31)) &&& 32767) - ((s >>> ((16 : Int32) &&& 31)) &&& 32767) / 100 * 100
def stW (w : Nat → Int32) : Nat → Int32 := setw (setw w 13 (nsd (w 13))) 9 (bI (decide (¬ w 8 ≤ drw (nsd (w 13)))))
def sdW (u : Nat → Int32) (n : Nat) : Nat → Int32 := if u (85 + 10 * n + 0) = 2 then setw u 13 (nsd (u 13)) else u
def sndB (u : Nat → Int32) (n : Nat) : Bool := if u (85 + 10 * n + 0) = 0 then bt (u (85 + 10 * n + 6)) (nw u 7) else if u (85 + 10 * n + 0) = 1 then decide (u 9 = 1) else if u (85 + 10 * n + 0) = 2 then decide (¬ u (85 + 10 * n + 6) ≤ drw (nsd (u 13))) else decide (u (85 + 10 * n + 9) = 1)
def noW (u : Nat → Int32) (n : Nat) : Nat → Int32 := setw (setw (setw u (85 + 10 * n + 7) (nI (tm u))) (85 + 10 * n + 8) (u (85 + 10 * n + 8) + 1)) 12 (u 12 + 1)
def payH (sh : Nat → Nat) (u : Nat → Int32) : Nat → Nat → Int32
  | 0 => u
  | k + 1 => setw (payH sh u k) (67 + 3 * k + 2) (payH sh u k (67 + 3 * k + 2) + nI (sh k))
def payP (sh : Nat → Nat) (m ch : Nat) (a : Int32) (u : Nat → Int32) : Nat → Int32 := setw (setw (payH sh u m) 10 (u 10 + nI ch)) 11 (u 11 + a)
noncomputable def payW (u : Nat → Int32) (n : Nat) : Nat → Int32 := payP (shN (fun e => ttN u e n) (nw u 2) (nw u (85 + 10 * n + 4))) (nw u 2) (chN (fun e => ttN u e n) (nw u 2) (nw u (85 + 10 * n + 4))) (u (85 + 10 * n + 4)) u
noncomputable def nstep (u : Nat → Int32) (n : Nat) : Nat → Int32 := if sndB u n = true then noW (if hrd (sdW u n) n = true then payW (sdW u n) n else sdW u n) n else sdW u n
noncomputable def noiW (u : Nat → Int32) : Nat → Nat → Int32
  | 0 => u
  | k + 1 => nstep (noiW u k) k
def endW (u : Nat → Int32) : Nat → Int32 := fun k => if k = 14 then nI (min 40 (tm u + 1)) else if k = 7 then (if nw u 7 = 23 then 0 else nI (nw u 7 + 1)) else if k = 6 then (if nw u 7 = 23 then nI (nw u 6 + 1) else u 6) else if 85 ≤ k ∧ k < 85 + 10 * nw u 3 ∧ (k - 85) % 10 = 9 then 0 else if 211 ≤ k ∧ k < 445 then u (k - 6) else if 205 ≤ k ∧ k < 211 then (if k - 205 < nw u 2 then u (67 + 3 * (k - 205) + 0) else -1) else u k
noncomputable def hourW (w : Nat → Int32) : Nat → Int32 := endW (noiW (stW w) (nw w 3))
/-- made is over for the first k noises -/
def clr (u : Nat → Int32) : Nat → Nat → Int32
  | 0 => u
  | k + 1 => setw (clr u k) (85 + 10 * k + 9) 0
theorem payH_at {sh : Nat → Nat} {u : Nat → Int32} {p : Nat} : ∀ m, (p < 67 ∨ 67 + 3 * m ≤ p ∨ (p - 67) % 3 ≠ 2) → payH sh u m p = u p := by
  intro m
  induction m with
  | zero => intro _; rfl
  | succ m ih =>
    intro h
    show setw (payH sh u m) (67 + 3 * m + 2) _ p = u p
    rw [sw_n _ _ (by omega)]; exact ih (by omega)
theorem payH_set {sh : Nat → Nat} {u : Nat → Int32} {p : Nat} {x : Int32} : ∀ m, (p < 67 ∨ 67 + 3 * m ≤ p) → payH sh (setw u p x) m = setw (payH sh u m) p x := by
  intro m
  induction m with
  | zero => intro _; rfl
  | succ m ih =>
    intro h
    show setw (payH sh (setw u p x) m) (67 + 3 * m + 2) (payH sh (setw u p x) m (67 + 3 * m + 2) + nI (sh m)) = setw (setw (payH sh u m) (67 + 3 * m + 2) (payH sh u m (67 + 3 * m + 2) + nI (sh m))) p x
    rw [ih (by omega), sw_n _ _ (by omega), sw_comm (by omega)]
theorem payP_at {sh : Nat → Nat} {m ch p : Nat} {a : Int32} {u : Nat → Int32} (h : p ≠ 10) (h1 : p ≠ 11) (h2 : p < 67 ∨ 67 + 3 * m ≤ p ∨ (p - 67) % 3 ≠ 2) : payP sh m ch a u p = u p := by
  unfold payP
  rw [sw_n _ _ h1, sw_n _ _ h]; exact payH_at m h2
theorem payP_set {sh : Nat → Nat} {m ch p : Nat} {a x : Int32} {u : Nat → Int32} (h : p ≠ 10) (h1 : p ≠ 11) (h2 : p < 67 ∨ 67 + 3 * m ≤ p) : payP sh m ch a (setw u p x) = setw (payP sh m ch a u) p x := by
  unfold payP
  rw [payH_set m h2, sw_n u x (show 10 ≠ p by omega), sw_n u x (show 11 ≠ p by omega), sw_comm h, sw_comm h1]
theorem no_pay {sh : Nat → Nat} {m ch n : Nat} {a : Int32} {u : Nat → Int32} (hm : m ≤ 6) : noW (payP sh m ch a u) n = payP sh m ch a (noW u n) := by
  unfold noW
  rw [payP_set (by decide) (by decide) (by omega), payP_set (by omega) (by omega) (by omega), payP_set (by omega) (by omega) (by omega)]
  rw [payP_at (p := 12) (by decide) (by decide) (by omega), payP_at (p := 85 + 10 * n + 8) (by omega) (by omega) (by omega), tm_cg (payP_at (p := 6) (by decide) (by decide) (by omega)) (payP_at (p := 7) (by decide) (by decide) (by omega))]
theorem clr_at {u : Nat → Int32} {p : Nat} : ∀ k, (p < 85 ∨ 85 + 10 * k ≤ p ∨ (p - 85) % 10 ≠ 9) → clr u k p = u p := by
  intro k
  induction k with
  | zero => intro _; rfl
  | succ k ih =>
    intro h
    show setw (clr u k) (85 + 10 * k + 9) 0 p = u p
    rw [sw_n _ _ (by omega)]; exact ih (by omega)
theorem clr_in {u : Nat → Int32} {n : Nat} : ∀ k, n < k → clr u k (85 + 10 * n + 9) = 0 := by
  intro k
  induction k with
  | zero => intro h; omega
  | succ k ih =>
    intro h
    show setw (clr u k) (85 + 10 * k + 9) 0 (85 + 10 * n + 9) = 0
    by_cases h9 : n = k
    · rw [h9, sw_s]
    · rw [sw_n _ _ (by omega)]; exact ih (by omega)
theorem clr_set {u : Nat → Int32} {p : Nat} {x : Int32} : ∀ k, (p < 85 ∨ 85 + 10 * k ≤ p ∨ (p - 85) % 10 ≠ 9) → clr (setw u p x) k = setw (clr u k) p x := by
  intro k
  induction k with
  | zero => intro _; rfl
  | succ k ih =>
    intro h
    show setw (clr (setw u p x) k) (85 + 10 * k + 9) 0 = setw (setw (clr u k) (85 + 10 * k + 9) 0) p x
    rw [ih (by omega), sw_comm (by omega)]
theorem EQ_clr {u : Nat → Int32} : ∀ k, k ≤ 12 → EQt u (clr u k) := fun k hk p hp => clr_at k (by omega)
theorem WF_clr {c : Nat} {u : Nat → Int32} (hw : WF c u) : ∀ k, k ≤ nw u 3 → WF c (clr u k) := by
  intro k
  induction k with
  | zero => intro _; exact hw
  | succ k ih =>
    intro hk
    have h1 := ih (by omega)
    have h3 : nw (clr u k) 3 = nw u 3 := nwe (clr_at k (by omega))
    show WF c (setw (clr u k) (85 + 10 * k + 9) 0)
    rcases (h1.2.2.1.2 k (by omega)).2.2.2.2.2.2.2.2 with h9 | h9
    · rw [sw_id h9]; exact h1
    · exact WF_nz (by omega) (Or.inr ⟨rfl, h9.2, Or.inl rfl⟩) h1
theorem clr_no {u : Nat → Int32} {n k : Nat} : clr (noW u n) k = noW (clr u k) n := by
  unfold noW
  rw [clr_set k (by omega), clr_set k (by omega), clr_set k (by omega), tm_cg (clr_at (p := 6) k (by omega)) (clr_at (p := 7) k (by omega)), clr_at (p := 85 + 10 * n + 8) k (by omega), clr_at (p := 12) k (by omega)]
theorem clr_payH {sh : Nat → Nat} {u : Nat → Int32} {k : Nat} : ∀ m, m ≤ 6 → clr (payH sh u m) k = payH sh (clr u k) m := by
  intro m
  induction m with
  | zero => intro _; rfl
  | succ m ih =>
    intro hm
    show clr (setw (payH sh u m) (67 + 3 * m + 2) _) k = setw (payH sh (clr u k) m) (67 + 3 * m + 2) (payH sh (clr u k) m (67 + 3 * m + 2) + nI (sh m))
    rw [clr_set k (by omega), ih (by omega), ← ih (by omega), clr_at (p := 67 + 3 * m + 2) k (by omega)]
theorem clr_payP {sh : Nat → Nat} {m ch k : Nat} {a : Int32} {u : Nat → Int32} (hm : m ≤ 6) : clr (payP sh m ch a u) k = payP sh m ch a (clr u k) := by
  unfold payP
  rw [clr_set k (by omega), clr_set k (by omega), clr_payH m hm, clr_at (p := 10) k (by omega), clr_at (p := 11) k (by omega)]
theorem EQ_payH {sh : Nat → Nat} {u : Nat → Int32} : ∀ m, m ≤ 6 → EQt u (payH sh u m) := by
  intro m
  induction m with
  | zero => intro _; exact EQ_rf u
  | succ m ih => intro hm; exact EQ_tr (ih (by omega)) (EQ_set (by omega))
theorem EQ_payP {sh : Nat → Nat} {m ch : Nat} {a : Int32} {u : Nat → Int32} (hm : m ≤ 6) : EQt u (payP sh m ch a u) := EQ_tr (EQ_payH m hm) (EQ_tr (EQ_set (by omega)) (EQ_set (by omega)))
theorem EQ_no {u : Nat → Int32} {n : Nat} (hn : n < 12) : EQt u (noW u n) := EQ_tr (EQ_set (by omega)) (EQ_tr (EQ_set (by omega)) (EQ_set (by omega)))
theorem EQ_sd {u : Nat → Int32} {n : Nat} : EQt u (sdW u n) := by
  unfold sdW
  split
  · exact EQ_set (by omega)
  · exact EQ_rf u
theorem WF_payH {c : Nat} {sh : Nat → Nat} {u : Nat → Int32} (hw : WF c u) : ∀ m, m ≤ nw u 2 → WF c (payH sh u m) := by
  intro m
  induction m with
  | zero => intro _; exact hw
  | succ m ih =>
    intro hm
    exact WF_coin _ (by rw [nwe (payH_at (p := 2) m (by omega))]; omega) (ih (by omega))
theorem WF_payP {c m ch : Nat} {sh : Nat → Nat} {a : Int32} {u : Nat → Int32} (hw : WF c u) (hm : m ≤ nw u 2) : WF c (payP sh m ch a u) := WF_free _ (by omega) (WF_free _ (by omega) (WF_payH hw m hm))
theorem WF_no {c n : Nat} {u : Nat → Int32} (hc6 : c ≤ 601) (hw : WF c u) (hn : n < nw u 3) : WF c (noW u n) := by
  have h12 := hw.2.2.1.1.2
  refine WF_free _ (by omega) (WF_nz78 ?_ hc6 (Or.inr rfl) (WF_nz78 hn hc6 (Or.inl ⟨rfl, rfl⟩) hw))
  rw [nwe (sw_n _ _ (by omega))]; exact hn
theorem WF_sd {c n : Nat} {u : Nat → Int32} (hw : WF c u) : WF c (sdW u n) := by
  unfold sdW
  split
  · exact WF_free _ (by omega) hw
  · exact hw
theorem WF_nstep {c n : Nat} {u : Nat → Int32} (hc6 : c ≤ 601) (hw : WF c u) (hn : n < nw u 3) : WF c (nstep u n) ∧ EQt u (nstep u n) := by
  have h6 := hw.2.1.1.2
  have h12 := hw.2.2.1.1.2
  have h1 := WF_sd (n := n) hw
  have h2 : EQt u (sdW u n) := EQ_sd
  have h3 : nw (sdW u n) 3 = nw u 3 := nwe (h2 3 (by omega))
  have h4 : nw (sdW u n) 2 = nw u 2 := nwe (h2 2 (by omega))
  unfold nstep
  split
  · split
    · have p1 : WF c (payW (sdW u n) n) := WF_payP h1 (Nat.le_refl _)
      have p2 : EQt (sdW u n) (payW (sdW u n) n) := EQ_payP (by rw [h4]; exact h6)
      exact ⟨WF_no hc6 p1 (by rw [nwe (p2 3 (by omega)), h3]; exact hn), EQ_tr h2 (EQ_tr p2 (EQ_no (by omega)))⟩
    · exact ⟨WF_no hc6 h1 (by rw [h3]; exact hn), EQ_tr h2 (EQ_no (by omega))⟩
  · exact ⟨h1, h2⟩
theorem WF_noi {c : Nat} {u : Nat → Int32} (hc6 : c ≤ 601) (hw : WF c u) : ∀ k, k ≤ nw u 3 → WF c (noiW u k) ∧ EQt u (noiW u k) := by
  intro k
  induction k with
  | zero => intro _; exact ⟨hw, EQ_rf u⟩
  | succ k ih =>
    intro hk
    obtain ⟨h1, h2⟩ := ih (by omega)
    obtain ⟨h3, h4⟩ := WF_nstep (n := k) hc6 h1 (by rw [nwe (h2 3 (by omega))]; omega)
    exact ⟨h3, EQ_tr h2 h4⟩
