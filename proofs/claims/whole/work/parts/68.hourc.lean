-- ===== the end of an hour
theorem nwe2 {w w' : Nat → Int32} {k j : Nat} (h : w' k = w j) : nw w' k = nw w j := by unfold nw; rw [h]
theorem en_at {u : Nat → Int32} {p : Nat} (h1 : p ≠ 14) (h2 : p ≠ 7) (h3 : p ≠ 6) (h4 : p < 85 ∨ 85 + 10 * nw u 3 ≤ p ∨ (p - 85) % 10 ≠ 9) (h5 : p < 205 ∨ 445 ≤ p) : endW u p = u p := by
  unfold endW
  rw [if_neg h1, if_neg h2, if_neg h3, if_neg (by omega), if_neg (by omega), if_neg (by omega)]
theorem en_md {u : Nat → Int32} {n : Nat} (hn : n < nw u 3) : endW u (85 + 10 * n + 9) = 0 := by
  unfold endW
  rw [if_neg (by omega), if_neg (by omega), if_neg (by omega), if_pos (by omega)]
theorem en_p0 {u : Nat → Int32} {e : Nat} (h12 : nw u 3 ≤ 12) (he : e < 6) : endW u (205 + 6 * 0 + e) = if e < nw u 2 then u (67 + 3 * e + 0) else -1 := by
  unfold endW
  rw [if_neg (by omega), if_neg (by omega), if_neg (by omega), if_neg (by omega), if_neg (by omega), if_pos (by omega), show 205 + 6 * 0 + e - 205 = e by omega]
theorem en_p1 {u : Nat → Int32} {a e : Nat} (h12 : nw u 3 ≤ 12) (ha : a < 39) (he : e < 6) : endW u (205 + 6 * (a + 1) + e) = u (205 + 6 * a + e) := by
  unfold endW
  rw [if_neg (by omega), if_neg (by omega), if_neg (by omega), if_neg (by omega), if_pos (by omega), show 205 + 6 * (a + 1) + e - 6 = 205 + 6 * a + e by omega]
theorem en_tm {c : Nat} {u : Nat → Int32} (hc6 : c ≤ 601) (hw : WFt c u) : tm (endW u) = tm u + 1 := by
  have h1 := hw.2.2.1
  have h2 := hw.2.2.2.1
  have h3 := hw.2.2.2.2.1
  have h6 : nw u 6 < 2 ^ 31 - 1 := by unfold tm at h3; omega
  have e6 : nw (endW u) 6 = if nw u 7 = 23 then nw u 6 + 1 else nw u 6 := by
    unfold nw
    show (endW u 6).toNatClampNeg = _
    unfold endW
    rw [if_neg (by decide), if_neg (by decide), if_pos rfl]
    show (if nw u 7 = 23 then nI (nw u 6 + 1) else u 6).toNatClampNeg = if nw u 7 = 23 then nw u 6 + 1 else nw u 6
    split
    · exact zI_cl (by omega)
    · rfl
  have e7 : nw (endW u) 7 = if nw u 7 = 23 then 0 else nw u 7 + 1 := by
    have h72 := h2.2
    unfold nw
    show (endW u 7).toNatClampNeg = _
    unfold endW
    rw [if_neg (by decide), if_pos rfl]
    show (if nw u 7 = 23 then 0 else nI (nw u 7 + 1)).toNatClampNeg = if nw u 7 = 23 then 0 else nw u 7 + 1
    split
    · rfl
    · exact zI_cl (by omega)
  have h72 := h2.2
  unfold tm
  rw [e6, e7]
  split <;> omega
theorem WF_end {c : Nat} {u : Nat → Int32} (hc6 : c ≤ 601) (hw : WF c u) (hT : tm u + 1 ≤ 240 * c) : WF c (endW u) := by
  obtain ⟨a, b, d, e, f, g⟩ := hw
  have h12 := d.1.2
  have h6 := b.1.2
  have ht := en_tm hc6 e
  have s : ∀ k, k ≠ 14 → k ≠ 7 → k ≠ 6 → (k < 85 ∨ 445 ≤ k) → endW u k = u k := fun k h1 h2 h3 h4 => en_at h1 h2 h3 (by omega) (by omega)
  refine ⟨WFd_cg (s 0 (by omega) (by omega) (by omega) (by omega)) (s 1 (by omega) (by omega) (by omega) (by omega)) (fun k _ _ => s k (by omega) (by omega) (by omega) (by omega)) a, WFh_cg (s 0 (by omega) (by omega) (by omega) (by omega)) (s 2 (by omega) (by omega) (by omega) (by omega)) (fun k _ _ => s k (by omega) (by omega) (by omega) (by omega)) b, ⟨okN_cg (s 3 (by omega) (by omega) (by omega) (by omega)) d.1, fun n hn => ?_⟩, ?_, ?_, WFl_cg (s 5 (by omega) (by omega) (by omega) (by omega)) (fun k _ _ => s k (by omega) (by omega) (by omega) (by omega)) g⟩
  · rw [nwe (s 3 (by omega) (by omega) (by omega) (by omega))] at hn
    obtain ⟨n0, n1, n2, n3, n4, n5, n6, n7, n9⟩ := d.2 n hn
    have q : ∀ j, j < 9 → endW u (85 + 10 * n + j) = u (85 + 10 * n + j) := fun j hj => en_at (by omega) (by omega) (by omega) (by omega) (by omega)
    have s0 := q 0 (by omega)
    have s1 := q 1 (by omega)
    have s6 := q 6 (by omega)
    have s7 := q 7 (by omega)
    refine ⟨okN_cg s0 n0, ⟨okN_cg s1 n1.1, by rw [nwe s1, nwe (s 0 (by omega) (by omega) (by omega) (by omega))]; exact n1.2⟩, okN_cg (q 2 (by omega)) n2, okN_cg (q 3 (by omega)) n3, okN_cg (q 4 (by omega)) n4, okN_cg (q 5 (by omega)) n5, ⟨okN_cg s6 n6.1, by rw [nwe s0, nwe s6]; exact n6.2⟩, ?_, Or.inl (en_md hn)⟩
    rw [s7, nwe s7, ht]
    rcases n7 with n7 | n7
    · exact Or.inl n7
    · refine Or.inr ⟨⟨?_, ?_⟩, by have := n7.2; omega⟩
      · rw [nwe s7, s7]; exact n7.1.1
      · rw [nwe s7]; have := n7.2; omega
  · obtain ⟨e1, e2, e3, e4, e5, e6, e7, e8, e9⟩ := e
    have b6 : nw u 6 < 2 ^ 31 - 1 := by unfold tm at e5; omega
    have e42 := e4.2
    refine ⟨okN_cg (s 4 (by omega) (by omega) (by omega) (by omega)) e1, by rw [s 5 (by omega) (by omega) (by omega) (by omega)]; exact e2, ?_, ?_, by rw [ht]; exact hT, okN_cg (s 8 (by omega) (by omega) (by omega) (by omega)) e6, by rw [s 9 (by omega) (by omega) (by omega) (by omega)]; exact e7, ?_, fun h h1 h2 => ?_⟩
    · by_cases h23 : nw u 7 = 23
      · have z : endW u 6 = nI (nw u 6 + 1) := by unfold endW; rw [if_neg (by decide), if_neg (by decide), if_pos rfl, if_pos h23]
        unfold nw
        rw [z, zI_cl (by omega)]
      · have z : endW u 6 = u 6 := by unfold endW; rw [if_neg (by decide), if_neg (by decide), if_pos rfl, if_neg h23]
        rw [nwe z, z]; exact e3
    · by_cases h23 : nw u 7 = 23
      · have z : endW u 7 = nI 0 := by unfold endW; rw [if_neg (by decide), if_pos rfl, if_pos h23]; rfl
        unfold okN nw
        rw [z, zI_cl (by decide)]; exact ⟨rfl, by decide⟩
      · have z : endW u 7 = nI (nw u 7 + 1) := by unfold endW; rw [if_neg (by decide), if_pos rfl, if_neg h23]
        unfold okN
        have z2 : nw (endW u) 7 = nw u 7 + 1 := by
          show (endW u 7).toNatClampNeg = _
          rw [z, zI_cl (by omega)]
        rw [z2, z]; exact ⟨rfl, by omega⟩
    · rw [ht]; unfold endW; rw [if_pos rfl]
    · rw [nwe (s 2 (by omega) (by omega) (by omega) (by omega))] at h1
      rw [s _ (by omega) (by omega) (by omega) (by omega)]; exact e9 h h1 h2
  · intro ago hago h hh
    rw [ht] at hago
    rw [nwe (s 0 (by omega) (by omega) (by omega) (by omega)), nwe (s 2 (by omega) (by omega) (by omega) (by omega))]
    by_cases h0 : ago = 0
    · subst h0
      have z := en_p0 (u := u) h12 hh
      by_cases hm : h < nw u 2
      · rw [if_pos hm] at z
        obtain ⟨⟨b1, b2⟩, -⟩ := b.2 h hm
        exact Or.inr ⟨⟨by rw [nwe2 z, z]; exact b1.1, by rw [nwe2 z]; exact b1.2⟩, by rw [nwe2 z]; exact b2, hm⟩
      · rw [if_neg hm] at z
        exact Or.inl z
    · obtain ⟨a9, rfl⟩ : ∃ a9, ago = a9 + 1 := ⟨ago - 1, by omega⟩
      have z := en_p1 (u := u) (a := a9) (e := h) h12 (by omega) hh
      rcases f a9 (by omega) h hh with h1 | h1
      · exact Or.inl (by rw [z]; exact h1)
      · exact Or.inr ⟨⟨by rw [nwe2 z, z]; exact h1.1.1, by rw [nwe2 z]; exact h1.1.2⟩, by rw [nwe2 z]; exact h1.2.1, h1.2.2⟩
/-- the seats of now, in bits -/
def stN (u : Nat → Int32) : Nat → Int64
  | 0 => 0
  | k + 1 => stN u k ||| ((1 : Int64) <<< Int64.ofNat (6 * nw u (67 + 3 * k + 0) + k))
theorem stN_cg {u v : Nat → Int32} : ∀ k, k ≤ 6 → (∀ e, e < 6 → v (67 + 3 * e + 0) = u (67 + 3 * e + 0)) → stN v k = stN u k := by
  intro k
  induction k with
  | zero => intro _ _; rfl
  | succ k ih =>
    intro hk h
    show stN v k ||| _ = stN u k ||| _
    rw [ih (by omega) h, nwe (h k (by omega))]
theorem seats_end {u : Nat → Int32} (h12 : nw u 3 ≤ 12) (hh : ∀ e, e < nw u 2 → u (67 + 3 * e + 0) = nI (nw u (67 + 3 * e + 0)) ∧ nw u (67 + 3 * e + 0) ≤ 9) (hm : nw u 2 ≤ 6) : ∀ n, n ≤ 6 → seatsN (endW u) 0 n = stN u (min n (nw u 2)) := by
  intro n
  induction n with
  | zero => intro _; rw [Nat.zero_min]; rfl
  | succ n ih =>
    intro hn
    have z := en_p0 (u := u) (e := n) h12 (by omega)
    show seatsN (endW u) 0 n ||| (if endW u (205 + 6 * 0 + n) = -1 then (0 : Int64) else (1 : Int64) <<< Int64.ofNat (6 * nw (endW u) (205 + 6 * 0 + n) + n)) = _
    rw [ih (by omega)]
    by_cases h9 : n < nw u 2
    · rw [if_pos h9] at z
      have h8 := hh n h9
      rw [nwe2 z, z, if_neg (by rw [h8.1]; exact nI_ne (by omega)), show min n (nw u 2) = n by omega, show min (n + 1) (nw u 2) = n + 1 by omega]
      rfl
    · rw [if_neg h9] at z
      rw [if_pos z, Int64.or_zero, show min n (nw u 2) = nw u 2 by omega, show min (n + 1) (nw u 2) = nw u 2 by omega]
theorem CR_end {c h : Nat} {J : MI} {M : ML} {u : Nat → Int32} (hc6 : c ≤ 601) (hw : WF c u) (y : CR h J M (clr u (nw u 3))) : CR h (up2 J h 12 (J h 12 + 1)) (upl M (h + 12) (tm u % 40) (stN u (nw u 2))) (endW u) := by
  have h12 := hw.2.2.1.1.2
  have h6 := hw.2.1.1.2
  have ht := en_tm hc6 hw.2.2.2.1
  have tb : tm u < 2 ^ 31 - 1 := by have := hw.2.2.2.1.2.2.2.2.1; omega
  obtain ⟨a, b, d, f, g, i, j⟩ := y
  have s : ∀ k, k ≠ 14 → k ≠ 7 → k ≠ 6 → (k < 85 ∨ 445 ≤ k) → endW u k = clr u (nw u 3) k := fun k h1 h2 h3 h4 => (en_at h1 h2 h3 (by omega) (by omega)).trans (clr_at (nw u 3) (by omega)).symm
  have v : ∀ q, q ≠ h → up2 J h 12 (J h 12 + 1) q = J q := fun q hq => zu_n _ _ _ hq
  have w : ∀ k, k ≠ 12 → up2 J h 12 (J h 12 + 1) h k = J h k := fun k hk => by rw [zu_s, if_neg hk]
  have tc : tm (clr u (nw u 3)) = tm u := tm_cg (clr_at (p := 6) _ (by omega)) (clr_at (p := 7) _ (by omega))
  have c3 : nw (clr u (nw u 3)) 3 = nw u 3 := nwe (clr_at (p := 3) _ (by omega))
  refine ⟨CRd_cg (w 0 (by decide)) (w 1 (by decide)) (v _ (by omega)) (fun d _ => v _ (by omega)) (s 0 (by omega) (by omega) (by omega) (by omega)) (s 1 (by omega) (by omega) (by omega) (by omega)) (fun k _ _ => s k (by omega) (by omega) (by omega) (by omega)) a, CRh_cg (w 2 (by decide)) (fun k _ => v _ (by omega)) (s 2 (by omega) (by omega) (by omega) (by omega)) (fun k _ _ => s k (by omega) (by omega) (by omega) (by omega)) b, ⟨by rw [w 3 (by decide), s 3 (by omega) (by omega) (by omega) (by omega)]; exact d.1, fun n hn => ?_⟩, ?_, CRv_cg (v _ (by omega)) (s 0 (by omega) (by omega) (by omega) (by omega)) (cs_cg (WF_clr hw _ (Nat.le_refl _)).1 (s 1 (by omega) (by omega) (by omega) (by omega)) (fun k _ _ => s k (by omega) (by omega) (by omega) (by omega))) g, ?_, CRl_cg (by rw [v _ (by omega)]) (v _ (by omega)) (v _ (by omega)) (v _ (by omega)) (v _ (by omega)) (WF_clr hw _ (Nat.le_refl _)).2.2.2.2.2 (s 5 (by omega) (by omega) (by omega) (by omega)) (fun k _ _ => s k (by omega) (by omega) (by omega) (by omega)) j⟩
  · obtain ⟨p, q⟩ := d.2 n hn
    rw [c3] at p q
    rw [nwe (en_at (u := u) (p := 3) (by omega) (by omega) (by omega) (by omega) (by omega))]
    refine ⟨fun h8 => CRn1_cg (v _ (by omega)) (fun j hj => ?_) (p h8), fun h8 => by rw [v _ (by omega)]; exact q h8⟩
    by_cases h9 : j = 9
    · subst h9
      rw [en_md h8, clr_in _ h8]
    · rw [en_at (by omega) (by omega) (by omega) (by omega) (by omega), clr_at _ (by omega)]
  · obtain ⟨f1, f2, f3, f4, f5, f6, f7, f8⟩ := f
    refine ⟨by rw [w 11 (by decide), s 4 (by omega) (by omega) (by omega) (by omega)]; exact f1, ?_, by rw [w 13 (by decide), s 8 (by omega) (by omega) (by omega) (by omega)]; exact f3, by rw [w 14 (by decide), s 9 (by omega) (by omega) (by omega) (by omega)]; exact f4, by rw [w 15 (by decide), s 10 (by omega) (by omega) (by omega) (by omega)]; exact f5, by rw [w 16 (by decide), s 11 (by omega) (by omega) (by omega) (by omega)]; exact f6, by rw [w 17 (by decide), s 12 (by omega) (by omega) (by omega) (by omega)]; exact f7, by rw [w 18 (by decide), s 13 (by omega) (by omega) (by omega) (by omega)]; exact f8⟩
    rw [zu_s, if_pos rfl, f2, tc, ht, zI_1]
  · intro ago hago
    rw [ht] at hago ⊢
    rw [zl_s]
    by_cases h0 : ago = 0
    · subst h0
      rw [if_pos (by rw [show tm u + 1 - 1 - 0 = tm u by omega]), seats_end h12 (fun e he => ⟨(hw.2.1.2 e he).1.1.1, (hw.2.1.2 e he).1.1.2⟩) h6 6 (Nat.le_refl _), show min 6 (nw u 2) = nw u 2 by omega]
    · obtain ⟨a9, rfl⟩ : ∃ a9, ago = a9 + 1 := ⟨ago - 1, by omega⟩
      have i9 := i a9 (by rw [tc]; omega)
      rw [tc] at i9
      rw [if_neg (by omega), show tm u + 1 - 1 - (a9 + 1) = tm u - 1 - a9 by omega, i9]
      have sg : ∀ n, n ≤ 6 → seatsN (endW u) (a9 + 1) n = seatsN u a9 n := by
        intro n
        induction n with
        | zero => intro _; rfl
        | succ n ih =>
          intro hn
          have z := en_p1 (u := u) (a := a9) (e := n) h12 (by omega) (by omega)
          show seatsN (endW u) (a9 + 1) n ||| (if endW u (205 + 6 * (a9 + 1) + n) = -1 then (0 : Int64) else (1 : Int64) <<< Int64.ofNat (6 * nw (endW u) (205 + 6 * (a9 + 1) + n) + n)) = seatsN u a9 n ||| (if u (205 + 6 * a9 + n) = -1 then (0 : Int64) else (1 : Int64) <<< Int64.ofNat (6 * nw u (205 + 6 * a9 + n) + n))
          rw [ih (by omega), nwe2 z, z]
      rw [sg 6 (Nat.le_refl _), seatsN_cg 6 (fun j hj => clr_at (p := 205 + 6 * a9 + j) (nw u 3) (by omega))]
-- ===== parting again: only those who are there
theorem sm_cg {t t' : Nat → Nat} : ∀ m, (∀ o, o < m → t o = t' o) → sm t m = sm t' m := by
  intro m
  induction m with
  | zero => intro _; rfl
  | succ m ih => intro h; show sm t m + t m = sm t' m + t' m; rw [ih (fun o ho => h o (by omega)), h m (by omega)]
theorem cnt_cg {p q : Nat → Bool} : ∀ m, (∀ o, o < m → p o = q o) → cnt p m = cnt q m := by
  intro m
  induction m with
  | zero => intro _; rfl
  | succ m ih => intro h; show cnt p m + (if p m = true then 1 else 0) = cnt q m + (if q m = true then 1 else 0); rw [ih (fun o ho => h o (by omega)), h m (by omega)]
theorem sh_cg {t t' : Nat → Nat} {m amt e : Nat} (h : ∀ o, o < m → t o = t' o) (he : e < m) : shN t m amt e = shN t' m amt e := by
  have h1 := sm_cg m h
  have hq : ∀ o, o < m → qN t m amt o = qN t' m amt o := fun o ho => by unfold qN; rw [h1, h o ho]
  have h2 : lfN t m amt = lfN t' m amt := by unfold lfN; rw [sm_cg m hq]
  have h3 : plN t m e = plN t' m e := cnt_cg m (fun o ho => by unfold ahd; rw [h o ho, h e he])
  unfold shN gvN
  rw [hq e he, h e he, h2, h3]
theorem ch_cg {t t' : Nat → Nat} {m amt : Nat} (h : ∀ o, o < m → t o = t' o) : chN t m amt = chN t' m amt := by
  unfold chN; rw [sm_cg m h]
theorem payH_cg {sh sh' : Nat → Nat} {u : Nat → Int32} : ∀ m, (∀ k, k < m → sh k = sh' k) → payH sh u m = payH sh' u m := by
  intro m
  induction m with
  | zero => intro _; rfl
  | succ m ih =>
    intro h
    show setw (payH sh u m) (67 + 3 * m + 2) (payH sh u m (67 + 3 * m + 2) + nI (sh m)) = setw (payH sh' u m) (67 + 3 * m + 2) (payH sh' u m (67 + 3 * m + 2) + nI (sh' m))
    rw [ih (fun k hk => h k (by omega)), h m (by omega)]
/-- the same parting, of a world that differs in what nobody looks at -/
theorem pay_cg {c n : Nat} {u v : Nat → Int32} (hw : WF c u) (hn : n < nw u 3) (h : EQt u v) : payW v n = payP (shN (fun e => ttN u e n) (nw u 2) (nw u (85 + 10 * n + 4))) (nw u 2) (chN (fun e => ttN u e n) (nw u 2) (nw u (85 + 10 * n + 4))) (u (85 + 10 * n + 4)) v := by
  have h6 := hw.2.1.1.2
  have h12 := hw.2.2.1.1.2
  have e2 : nw v 2 = nw u 2 := nwe (h 2 (by omega))
  have e4 : v (85 + 10 * n + 4) = u (85 + 10 * n + 4) := h _ (by omega)
  have ett : ∀ o, o < nw u 2 → (fun e => ttN v e n) o = (fun e => ttN u e n) o := fun o ho => EQ_tt hw h (by omega) hn
  unfold payW payP
  rw [e2, nwe e4, e4, ch_cg ett, payH_cg (nw u 2) (fun k hk => sh_cg ett hk)]
-- ===== the class: does it sound?
theorem md_0 {c k : Nat} {u : Nat → Int32} (hw : WF c u) (hk : k < nw u 3) (h3 : nw u (85 + 10 * k + 0) ≠ 3) : u (85 + 10 * k + 9) = 0 := by
  rcases (hw.2.2.1.2 k hk).2.2.2.2.2.2.2.2 with h | h
  · exact h
  · exact absurd h.2 h3
theorem c_sounds {c h k : Nat} {J : MI} {M : ML} {u : Nat → Int32} (hc6 : c ≤ 600) (hw : WF c u) (hk : k < nw u 3) (cr : CR h J M (clr u k)) : Tt (f_X3_soundsNow h (h + 33 + k) J M) (fun t => t.1 = sndB u k ∧ t.2.2 = M ∧ (∀ q, q ≠ h → q ≠ h + 33 + k → t.2.1 q = J q) ∧ CR h t.2.1 M (clr (sdW u k) (k + 1))) := by
  have h12 := hw.2.2.1.1.2
  have hwk := WF_clr hw k (by omega)
  have c3 : nw (clr u k) 3 = nw u 3 := nwe (clr_at (p := 3) _ (by omega))
  have hn := hw.2.2.1.2 k hk
  have k0 := hn.1
  have k01 := k0.1
  have k02 := k0.2
  obtain ⟨n0, n1, -, -, -, -, -, -, -, n9⟩ := (cr.2.2.1.2 k (by omega)).1 (by omega)
  rw [clr_at k (by omega)] at n0 n1 n9
  obtain ⟨-, t2, -, t4, -, -, -, t8⟩ := cr.2.2.2.1
  rw [tm_cg (clr_at (p := 6) k (by omega)) (clr_at (p := 7) k (by omega))] at t2
  rw [clr_at k (by omega)] at t4 t8
  have z2 := (zdiv24 hw.2.2.2.1 hc6).2
  have h7 := hw.2.2.2.1.2.2.2.1
  have h71 := h7.1
  have h72 := h7.2
  have stay : nw u (85 + 10 * k + 0) ≠ 3 → clr u (k + 1) = clr u k := fun h3 => sw_id (by rw [clr_at k (by omega)]; exact md_0 hw hk h3)
  unfold f_X3_soundsNow f_X3_soundsNow_51 f_X3_soundsNow_76 sndB
  rw [n0]
  by_cases g0 : u (85 + 10 * k + 0) = 0
  · have sd : sdW u k = u := by unfold sdW; rw [if_neg (by rw [g0]; decide)]
    rw [if_pos g0, if_pos g0]
    unfold f_X3_hourOfDay
    rw [Option.bind_some, t2, z2, h71, n1, b_at (by omega), sd, stay (by unfold nw; rw [g0]; decide)]
    have e9 : (bI (bt (u (85 + 10 * k + 6)) (nw u 7)) = 0) ↔ bt (u (85 + 10 * k + 6)) (nw u 7) = false := by cases bt (u (85 + 10 * k + 6)) (nw u 7) <;> decide
    by_cases h9 : bt (u (85 + 10 * k + 6)) (nw u 7) = false
    · rw [if_pos (e9.mpr h9)]
      exact Tt_some ⟨h9.symm, rfl, fun _ _ _ => rfl, cr⟩
    · rw [if_neg (fun h8 => h9 (e9.mp h8))]
      refine Tt_some ⟨?_, rfl, fun _ _ _ => rfl, cr⟩
      show true = _
      cases hx : bt (u (85 + 10 * k + 6)) (nw u 7)
      · exact absurd hx h9
      · rfl
  · rw [if_neg g0, if_neg g0]
    by_cases g1 : u (85 + 10 * k + 0) = 1
    · have sd : sdW u k = u := by unfold sdW; rw [if_neg (by rw [g1]; decide)]
      rw [if_pos g1, if_pos g1, t4, sd, stay (by unfold nw; rw [g1]; decide)]
      refine Tt_some ⟨?_, rfl, fun _ _ _ => rfl, cr⟩
      show (u 9 != 0) = _
      rcases hw.2.2.2.1.2.2.2.2.2.2.1 with h9 | h9 <;> rw [h9] <;> decide
    · rw [if_neg g1, if_neg g1]
      by_cases g2 : u (85 + 10 * k + 0) = 2
      · have sd : sdW u k = setw u 13 (nsd (u 13)) := by unfold sdW; rw [if_pos g2]
        have m9 := md_0 hw hk (by unfold nw; rw [g2]; decide)
        have ec : clr (setw u 13 (nsd (u 13))) (k + 1) = setw (clr u k) 13 (nsd (u 13)) := by
          show setw (clr (setw u 13 (nsd (u 13))) k) (85 + 10 * k + 9) 0 = _
          rw [clr_set k (by omega), sw_id]
          rw [sw_n _ _ (by omega), clr_at k (by omega)]; exact m9
        rw [if_pos g2, if_pos g2]
        unfold f_X3_draw
        rw [t8, sd, ec]
        show Tt (Option.bind (Option.bind (pfI J h 18 (nsd (u 13))) fun I1 => some (((I1 h 18) >>> ((16 : Int32) &&& 31)) &&& 32767, I1, M)) fun w6 => if (w6.2.1 (h + 33 + k) 1) ≤ (w6.1 - w6.1 / 100 * 100) then some (false, w6.2.1, w6.2.2) else some (true, w6.2.1, w6.2.2)) _
        rw [pfe, Option.bind_some, Option.bind_some]
        have cs9 := CR_seed (nsd (u 13)) hwk cr
        have un9 : ∀ q, q ≠ h → q ≠ h + 33 + k → up2 J h 18 (nsd (u 13)) q = J q := fun q h1 _ => zu_n _ _ _ h1
        have eA : up2 J h 18 (nsd (u 13)) (h + 33 + k) 1 = u (85 + 10 * k + 6) := by rw [zu_n _ _ _ (show h + 33 + k ≠ h by omega)]; exact n1
        have eB : (((up2 J h 18 (nsd (u 13)) h 18) >>> ((16 : Int32) &&& 31)) &&& 32767) - (((up2 J h 18 (nsd (u 13)) h 18) >>> ((16 : Int32) &&& 31)) &&& 32767) / 100 * 100 = drw (nsd (u 13)) := by rw [zu_s, if_pos rfl]; rfl
        have eC : (up2 J h 18 (nsd (u 13)) (h + 33 + k) 1 ≤ (((up2 J h 18 (nsd (u 13)) h 18) >>> ((16 : Int32) &&& 31)) &&& 32767) - (((up2 J h 18 (nsd (u 13)) h 18) >>> ((16 : Int32) &&& 31)) &&& 32767) / 100 * 100) ↔ u (85 + 10 * k + 6) ≤ drw (nsd (u 13)) := by rw [eA, eB]
        by_cases h9 : u (85 + 10 * k + 6) ≤ drw (nsd (u 13))
        · exact Tt_eq (if_pos (eC.mpr h9)) ⟨(decide_eq_false (fun h8 => h8 h9)).symm, rfl, un9, cs9⟩
        · exact Tt_eq (if_neg (fun h8 => h9 (eC.mp h8))) ⟨(decide_eq_true h9).symm, rfl, un9, cs9⟩
      · have sd : sdW u k = u := by unfold sdW; rw [if_neg g2]
        have k3 : nw u (85 + 10 * k + 0) = 3 := by
          have h0 : nw u (85 + 10 * k + 0) ≠ 0 := fun h9 => g0 (by rw [k01, h9]; rfl)
          have h1 : nw u (85 + 10 * k + 0) ≠ 1 := fun h9 => g1 (by rw [k01, h9]; rfl)
          have h2 : nw u (85 + 10 * k + 0) ≠ 2 := fun h9 => g2 (by rw [k01, h9]; rfl)
          omega
        rw [if_neg g2, if_neg g2, pfe, Option.bind_some, n9, sd]
        refine Tt_some ⟨?_, rfl, fun q _ h2 => zu_n _ _ _ h2, CR_nz (Or.inr ⟨rfl, rfl⟩) (by omega) 0 hwk cr⟩
        show (u (85 + 10 * k + 9) != 0) = _
        rcases hn.2.2.2.2.2.2.2.2 with h9 | h9
        · rw [h9]; decide
        · rw [h9.1]; decide
/-- what an hour may change of the class: the house that is now, and scratch -/
def hch (h : Nat) (I J : MI) (L M : ML) : Prop := (∀ q, q ≠ 8 → q ≠ 9 → (q < h ∨ h + 45 ≤ q) → J q = I q) ∧ ∀ q, q ≠ 8 → q ≠ 10 → (q < h ∨ h + 45 ≤ q) → M q = L q
theorem hch_rf (h : Nat) (I : MI) (L : ML) : hch h I I L L := ⟨fun _ _ _ _ => rfl, fun _ _ _ _ => rfl⟩
theorem hch_tr {h : Nat} {I J K : MI} {L M N : ML} (h1 : hch h I J L M) (h2 : hch h J K M N) : hch h I K L N := ⟨fun q a b c => (h2.1 q a b c).trans (h1.1 q a b c), fun q a b c => (h2.2 q a b c).trans (h1.2 q a b c)⟩
theorem hch_up {h q k : Nat} {I : MI} {L : ML} {x : Int32} (hq : h ≤ q ∧ q < h + 45) : hch h I (up2 I q k x) L L := ⟨fun j _ _ hj => zu_n _ _ _ (by omega), fun _ _ _ _ => rfl⟩
theorem c_let {c h d0 k : Nat} {J : MI} {M : ML} {v : Nat → Int32} (hc6 : c ≤ 600) (hd : HD h d0) (hw : WF c v) (hk : k < nw v 3) (cr : CR h J M v) (e : J 0 4 = nI h) : Tt (f_X11_letSound (nI k) J M) (fun t => hch h J t.1 M t.2 ∧ CR h t.1 t.2 (if hrd v k = true then payW (noW v k) k else noW v k)) := by
  obtain ⟨b1, b2, b3, b4, b5⟩ := HD_b hd
  have h6 := hw.2.1.1.2
  have h12 := hw.2.2.1.1.2
  obtain ⟨-, -, -, -, -, n5, -, -, n8, -⟩ := (cr.2.2.1.2 k (by omega)).1 hk
  obtain ⟨-, t2, -, -, -, -, t7, -⟩ := cr.2.2.2.1
  have u1 : ∀ q, q ≠ h → q ≠ h + 33 + k → up2 (up2 (up2 J (h + 33 + k) 7 (nI (tm v))) (h + 33 + k) 8 (v (85 + 10 * k + 8) + 1)) h 17 (v 12 + 1) q = J q := fun q h1 h2 => by rw [zu_n _ _ _ h1, zu_n _ _ _ h2, zu_n _ _ _ h2]
  have hw1 : WF c (setw v (85 + 10 * k + 7) (nI (tm v))) := WF_nz78 hk (by omega) (Or.inl ⟨rfl, rfl⟩) hw
  have hk1 : k < nw (setw v (85 + 10 * k + 7) (nI (tm v))) 3 := by rw [nwe (sw_n _ _ (by omega))]; exact hk
  have hw2 : WF c (setw (setw v (85 + 10 * k + 7) (nI (tm v))) (85 + 10 * k + 8) (v (85 + 10 * k + 8) + 1)) := WF_nz78 hk1 (by omega) (Or.inr rfl) hw1
  have cr3 : CR h (up2 (up2 (up2 J (h + 33 + k) 7 (nI (tm v))) (h + 33 + k) 8 (v (85 + 10 * k + 8) + 1)) h 17 (v 12 + 1)) M (noW v k) :=
    CR_ht (s := 17) (by omega) _ hw2 (CR_nz78 (Or.inr rfl) hk1 _ hw1 (CR_nz78 (Or.inl rfl) hk _ hw cr))
  have hwn : WF c (noW v k) := WF_no (by omega) hw hk
  have eqn : EQt v (noW v k) := EQ_no (by omega)
  have e3 : (up2 (up2 (up2 J (h + 33 + k) 7 (nI (tm v))) (h + 33 + k) 8 (v (85 + 10 * k + 8) + 1)) h 17 (v 12 + 1)) 0 4 = nI h := by rw [u1 0 (by omega) (by omega)]; exact e
  have e1 : up2 J (h + 33 + k) 7 (nI (tm v)) 0 4 = nI h := by rw [zu_n _ _ _ (by omega)]; exact e
  have e2 : up2 (up2 J (h + 33 + k) 7 (nI (tm v))) (h + 33 + k) 8 (v (85 + 10 * k + 8) + 1) 0 4 = nI h := by rw [zu_n _ _ _ (by omega)]; exact e1
  have hkn : k < nw (noW v k) 3 := by rw [nwe (eqn 3 (by omega))]; exact hk
  have hc3 : hch h J (up2 (up2 (up2 J (h + 33 + k) 7 (nI (tm v))) (h + 33 + k) 8 (v (85 + 10 * k + 8) + 1)) h 17 (v 12 + 1)) M M := ⟨fun q _ _ h3 => u1 q (by omega) (by omega), fun _ _ _ _ => rfl⟩
  have hrd9 : hrd (noW v k) k = hrd v k := EQ_hrd hw eqn hk
  unfold f_X11_letSound f_X11_letSound_161
  rw [hs_h hd e, Option.bind_some, ldR_n (show k < 12 by omega) (by decide), Option.bind_some, Option.bind_some, t2, pfe, Option.bind_some, zu_s, if_neg (by decide), n8, pfe, Option.bind_some, hs_h hd e2, Option.bind_some, zu_n _ _ _ (show h ≠ h + 33 + k by omega), zu_n _ _ _ (show h ≠ h + 33 + k by omega), t7, pfe, Option.bind_some]
  generalize up2 (up2 (up2 J (h + 33 + k) 7 (nI (tm v))) (h + 33 + k) 8 (v (85 + 10 * k + 8) + 1)) h 17 (v 12 + 1) = J3 at *
  rw [hs_h hd e3, Option.bind_some, c_heard hwn cr3 hkn, Option.bind_some, hrd9, Option.bind_some]
  by_cases hx : hrd v k = true
  · rw [if_pos hx, if_pos hx]
    refine Tt_bind (Tt_mono (c_weigh hc6 hwn cr3 b1 hkn) ?_)
    intro t ⟨t1, t2, t3⟩
    have crT : CR h t.1 M (noW v k) := CR_cg (fun k h1 h2 => t2 _ (by omega) (by omega) (by omega)) rfl cr3
    have k4 := (hwn.2.2.1.2 k hkn).2.2.2.2.1
    have k41 := k4.1
    have k42 := k4.2
    obtain ⟨-, -, -, -, -, m5, -⟩ := (crT.2.2.1.2 k (by omega)).1 hkn
    have w4 : (noW v k) (85 + 10 * k + 4) = v (85 + 10 * k + 4) := eqn _ (by omega)
    rw [m5, k41, zL_i (by omega), t1]
    refine Tt_bind (Tt_mono (c_prt (h := h) (n := k) hwn (show nw (noW v k) (85 + 10 * k + 4) ≤ 200000000 by omega) t3) ?_)
    intro s ⟨s1, s2, s3, s4⟩
    rw [s1]
    have crS : CR h t.1 s.2 (noW v k) := CR_cg (fun k h1 h2 => rfl) (s2 _ (by omega) (by omega)) crT
    have hcS : hch h J t.1 M s.2 := hch_tr hc3 ⟨fun q h8 h9 hq => t2 q h8 h9 (by omega), fun q h8 h10 hq => s2 q h8 h10⟩
    have eT : t.1 0 4 = nI h := by rw [t2 0 (by decide) (by decide) (by omega)]; exact e3
    have hm2 : nw (noW v k) 2 ≤ 6 := hwn.2.1.1.2
    have hch9 := ch_le (t := fun e => ttN (noW v k) e k) (m := nw (noW v k) 2) (amt := nw (noW v k) (85 + 10 * k + 4))
    refine lp0 (fun fuel j (K : MI) => f_X11_letSound_81 fuel (h + 33 + k) (nI j) K s.2) (nw (noW v k) 2) (fun j K => hch h t.1 K s.2 s.2 ∧ CR h K s.2 (payH (shN (fun e => ttN (noW v k) e k) (nw (noW v k) 2) (nw (noW v k) (85 + 10 * k + 4))) (noW v k) j)) (by omega) ?_ ?_ (s := t.1) ⟨hch_rf _ _ _, crS⟩
    · intro fuel j K hj ⟨K1, K2⟩ hnx
      have eK : K 0 4 = nI h := by rw [K1.1 0 (by decide) (by decide) (by omega)]; exact eT
      have hwK := WF_payH (sh := shN (fun e => ttN (noW v k) e k) (nw (noW v k) 2) (nw (noW v k) (85 + 10 * k + 4))) hwn j (by omega)
      have n2 : nw (payH (shN (fun e => ttN (noW v k) e k) (nw (noW v k) 2) (nw (noW v k) (85 + 10 * k + 4))) (noW v k) j) 2 = nw (noW v k) 2 := nwe (payH_at j (by omega))
      have e2K := C_z2 hwK K2
      rw [n2] at e2K
      obtain ⟨-, -, c2⟩ := K2.2.1.2 j (by omega)
      have hsh := sh_le (t := fun e => ttN (noW v k) e k) (amt := nw (noW v k) (85 + 10 * k + 4)) hj
      show Tt (f_X11_letSound_81 (fuel + 1) (h + 33 + k) (nI j) K s.2) _
      unfold f_X11_letSound_81
      simp -implicitDefEqProofs only [hs_h hd eK, Option.bind_some, e2K]
      rw [if_neg (le_n (by omega) (by omega) hj), ldR_n (show j < 6 by omega) (by decide), Option.bind_some, ldL_n (show j < 6 by omega) (by decide), Option.bind_some, s4 j hj, zL_32 (by omega), c2, pfe, Option.bind_some, zI_1 j]
      exact hnx _ ⟨hch_tr K1 (hch_up (by omega)), CR_coin (by omega) _ hwK K2⟩
    · intro fuel K ⟨K1, K2⟩
      have eK : K 0 4 = nI h := by rw [K1.1 0 (by decide) (by decide) (by omega)]; exact eT
      have hwK := WF_payH (sh := shN (fun e => ttN (noW v k) e k) (nw (noW v k) 2) (nw (noW v k) (85 + 10 * k + 4))) hwn (nw (noW v k) 2) (Nat.le_refl _)
      have n2 : nw (payH (shN (fun e => ttN (noW v k) e k) (nw (noW v k) 2) (nw (noW v k) (85 + 10 * k + 4))) (noW v k) (nw (noW v k) 2)) 2 = nw (noW v k) 2 := nwe (payH_at _ (by omega))
      have n3 : nw (payH (shN (fun e => ttN (noW v k) e k) (nw (noW v k) 2) (nw (noW v k) (85 + 10 * k + 4))) (noW v k) (nw (noW v k) 2)) 3 = nw (noW v k) 3 := nwe (payH_at _ (by omega))
      have e2K := C_z2 hwK K2
      rw [n2] at e2K
      obtain ⟨-, -, -, -, -, q5, -⟩ := (K2.2.2.1.2 k (by omega)).1 (by omega)
      rw [payH_at _ (by omega)] at q5
      obtain ⟨-, -, -, -, r5, r6, -⟩ := K2.2.2.2.1
      rw [payH_at _ (by omega)] at r5 r6
      show Tt (f_X11_letSound_81 (fuel + 1) (h + 33 + k) (nI (nw (noW v k) 2)) K s.2) _
      unfold f_X11_letSound_81 f_X11_letSound_161
      simp -implicitDefEqProofs only [hs_h hd eK, Option.bind_some, e2K]
      rw [if_pos (Int32.le_refl _), r5, s3, zL_32 (by omega), pfe, Option.bind_some]
      have eK2 : up2 K h 15 ((noW v k) 10 + nI (chN (fun e => ttN (noW v k) e k) (nw (noW v k) 2) (nw (noW v k) (85 + 10 * k + 4)))) 0 4 = nI h := by rw [zu_n _ _ _ (by omega)]; exact eK
      rw [hs_h hd eK2, Option.bind_some, zu_s, if_neg (by decide), r6, zu_n _ _ _ (show h + 33 + k ≠ h by omega), q5, pfe, Option.bind_some]
      exact Tt_some ⟨hch_tr hcS (hch_tr K1 (hch_tr (hch_up (by omega)) (hch_up (by omega)))), CR_ht (s := 16) (by omega) _ (WF_free _ (by omega) hwK) (CR_ht (s := 15) (by omega) _ hwK K2)⟩
  · rw [if_neg hx, if_neg hx]
    exact Tt_some ⟨hc3, cr3⟩
/-- the class's world behind noise k is the reference's, but for made -/
theorem clr_step {c k : Nat} {u : Nat → Int32} (hw : WF c u) (hk : k < nw u 3) (hs : sndB u k = true) : (if hrd (clr (sdW u k) (k + 1)) k = true then payW (noW (clr (sdW u k) (k + 1)) k) k else noW (clr (sdW u k) (k + 1)) k) = clr (nstep u k) (k + 1) := by
  have h12 := hw.2.2.1.1.2
  have hw1 := WF_sd (n := k) hw
  have q1 : EQt u (sdW u k) := EQ_sd
  have k1 : nw (sdW u k) 3 = nw u 3 := nwe (q1 3 (by omega))
  have h6 := hw1.2.1.1.2
  have qc : EQt (sdW u k) (clr (sdW u k) (k + 1)) := EQ_clr (k + 1) (by omega)
  have qn : EQt (sdW u k) (noW (clr (sdW u k) (k + 1)) k) := EQ_tr qc (EQ_no (by omega))
  rw [EQ_hrd hw1 qc (by omega)]
  unfold nstep
  rw [if_pos hs, clr_no]
  by_cases hx : hrd (sdW u k) k = true
  · rw [if_pos hx, if_pos hx, pay_cg hw1 (by omega) qn]
    unfold payW
    rw [clr_payP h6, no_pay h6]
  · rw [if_neg hx, if_neg hx]
theorem sh63 : ∀ k, k < 64 → ((nI k).toInt64 &&& 63) = Int64.ofNat k := by decide +kernel
-- ===== the slot of an hour: floorMod is % where nothing is below 0
theorem sl_x2 (a b : Nat) : nI a ^^^ nI b = nI (a ^^^ b) := by
  apply Int32.toBitVec_inj.1
  show BitVec.ofNat 32 a ^^^ BitVec.ofNat 32 b = BitVec.ofNat 32 (a ^^^ b)
  apply BitVec.eq_of_getLsbD_eq
  intro i hi
  simp [hi]
theorem sl_nn {a b : Nat} (ha : a < 2 ^ 31) (hb : b < 2 ^ 31) : (0 : Int32) ≤ nI a ^^^ nI b := by
  rw [sl_x2]
  exact (zI_le (a := 0) (by decide) (Nat.xor_lt_two_pow ha hb)).mpr (Nat.zero_le _)
theorem sl_ok {a : Nat} {I : MI} {L : ML} (h : a < 2 ^ 31) : f_X3_slotOf (nI a) I L = some (nI (a % 40)) := by
  unfold f_X3_slotOf f_J9_floorMod_7cf53 rmI
  rw [show (40 : Int32) = nI 40 from rfl, if_neg (show ¬ nI 40 = 0 by decide), Option.bind_some, if_pos (sl_nn h (by decide)), zI_mod h (by decide)]
  rfl
theorem c_seats {c h : Nat} {J : MI} {M : ML} {v : Nat → Int32} (hc6 : c ≤ 600) (hw : WF c v) (cr : CR h J M v) : f_X3_rememberSeats h J M = some (J, upl M (h + 12) (tm v % 40) (stN v (nw v 2))) := by
  have h6 := hw.2.1.1.2
  have e2 := C_z2 hw cr
  have t2 := cr.2.2.2.1.2.1
  have tb : tm v < 2 ^ 31 - 1 := by have := hw.2.2.2.1.2.2.2.2.1; omega
  have key : Tt (f_X3_rememberSeats h J M) (fun x => x = (J, upl M (h + 12) (tm v % 40) (stN v (nw v 2)))) := by
    unfold f_X3_rememberSeats
    refine lp0 (fun fuel k (_ : Unit) => f_X3_rememberSeats_4 fuel h (stN v k) (nI k) J M) (nw v 2) (fun k _ => True) (by omega) ?_ ?_ (s := ()) trivial
    · intro fuel k _ hk _ hnx
      obtain ⟨m0, -⟩ := cr.2.1.2 k (by omega)
      obtain ⟨⟨p1, p2⟩, -⟩ := hw.2.1.2 k hk
      have p11 := p1.1
      have p12 := p1.2
      show Tt (f_X3_rememberSeats_4 (fuel + 1) h (stN v k) (nI k) J M) _
      unfold f_X3_rememberSeats_4
      rw [e2, if_neg (le_n (by omega) (by omega) hk), ldR_n (show k < 6 by omega) (by decide), Option.bind_some, m0, p11, show (6 : Int32) = nI 6 from rfl, zI_mul, zI_add, sh63 _ (by omega), zI_1 k, show nw v (67 + 3 * k + 0) * 6 + k = 6 * nw v (67 + 3 * k + 0) + k by omega]
      exact hnx () trivial
    · intro fuel _ _
      show Tt (f_X3_rememberSeats_4 (fuel + 1) h (stN v (nw v 2)) (nI (nw v 2)) J M) _
      unfold f_X3_rememberSeats_4
      rw [e2, if_pos (Int32.le_refl _), t2, sl_ok (by omega), Option.bind_some, stL_n (Nat.mod_lt _ (by decide)) (by decide), Option.bind_some]
      exact Tt_some rfl
  obtain ⟨x, e1, e2⟩ := key
  rw [e1, e2]
theorem c_hour {c h d0 : Nat} {J : MI} {M : ML} {w : Nat → Int32} (hc6 : c ≤ 600) (hd : HD h d0) (hw : WF c w) (cr : CR h J M w) (e : J 0 4 = nI h) : Tt (f_X11_passHour J M) (fun t => hch h J t.1 M t.2 ∧ CR h t.1 t.2 (hourW w)) := by
  obtain ⟨b1, b2, b3, b4, b5⟩ := HD_b hd
  have h12 := hw.2.2.1.1.2
  obtain ⟨-, -, t3, -, -, -, -, t8⟩ := cr.2.2.2.1
  have e1 : up2 J h 18 (nsd (w 13)) 0 4 = nI h := by rw [zu_n _ _ _ (by omega)]; exact e
  have hw1 : WF c (setw w 13 (nsd (w 13))) := WF_free _ (by omega) hw
  have hws : WF c (stW w) := WF_storm _ hw1
  have q3 : nw (stW w) 3 = nw w 3 := nwe (by unfold stW; rw [sw_n _ _ (by decide), sw_n _ _ (by decide)])
  have start : Tt (f_X11_passHour_29 h (decide (¬ w 8 ≤ drw (nsd (w 13)))) (up2 J h 18 (nsd (w 13))) M) (fun t => hch h J t.1 M t.2 ∧ CR h t.1 t.2 (hourW w)) := by
    unfold f_X11_passHour_29
    rw [pfe, Option.bind_some]
    have crs : CR h (up2 (up2 J h 18 (nsd (w 13))) h 14 (bI (decide (¬ w 8 ≤ drw (nsd (w 13)))))) M (stW w) := CR_ht (s := 14) (by omega) _ hw1 (CR_seed _ hw cr)
    have hcs : hch h J (up2 (up2 J h 18 (nsd (w 13))) h 14 (bI (decide (¬ w 8 ≤ drw (nsd (w 13)))))) M M := hch_tr (hch_up (by omega)) (hch_up (by omega))
    generalize up2 (up2 J h 18 (nsd (w 13))) h 14 (bI (decide (¬ w 8 ≤ drw (nsd (w 13))))) = J2 at crs hcs ⊢
    refine lp0 (fun fuel k (s : MI × ML) => f_X11_passHour_34 fuel (nI k) s.1 s.2) (nw w 3) (fun k s => hch h J s.1 M s.2 ∧ CR h s.1 s.2 (clr (noiW (stW w) k) k)) (by omega) ?_ ?_ (s := (J2, M)) ⟨hcs, crs⟩
    · intro fuel k s hk ⟨s1, s2⟩ hnx
      obtain ⟨K, N⟩ := s
      dsimp only at s1 s2
      obtain ⟨hwu, equ⟩ := WF_noi (c := c) (by omega) hws k (by omega)
      have u3 : nw (noiW (stW w) k) 3 = nw w 3 := (nwe (equ 3 (by omega))).trans q3
      have hwc := WF_clr hwu k (by omega)
      have eK : K 0 4 = nI h := by rw [s1.1 0 (by decide) (by decide) (by omega)]; exact e
      have e3 := C_z3 hwc s2
      rw [nwe (clr_at (p := 3) k (by omega)), u3] at e3
      show Tt (f_X11_passHour_34 (fuel + 1) (nI k) K N) _
      unfold f_X11_passHour_34 f_X11_passHour_69
      simp -implicitDefEqProofs only [hs_h hd eK, Option.bind_some, e3]
      rw [if_neg (le_n (by omega) (by omega) hk), ldR_n (show k < 12 by omega) (by decide), Option.bind_some, zI_1 k]
      refine Tt_bind (Tt_mono (c_sounds hc6 hwu (by omega) s2) ?_)
      intro t ⟨t1, t2, t3, t4⟩
      have hct : hch h J t.2.1 M N := hch_tr s1 ⟨fun q _ _ hq => t3 q (by omega) (by omega), fun _ _ _ _ => rfl⟩
      rw [t1, t2]
      by_cases hx : sndB (noiW (stW w) k) k = true
      · rw [if_pos hx]
        have hw2 := WF_sd (n := k) hwu
        have k2 : nw (sdW (noiW (stW w) k) k) 3 = nw w 3 := (nwe (EQ_sd (u := noiW (stW w) k) (n := k) 3 (by omega))).trans u3
        have hw3 := WF_clr hw2 (k + 1) (by omega)
        have k3 : nw (clr (sdW (noiW (stW w) k) k) (k + 1)) 3 = nw w 3 := (nwe (clr_at (p := 3) (k + 1) (by omega))).trans k2
        have eT : t.2.1 0 4 = nI h := by rw [t3 0 (by omega) (by omega)]; exact eK
        refine Tt_bind (Tt_mono (c_let hc6 hd hw3 (by omega) t4 eT) ?_)
        intro r ⟨r1, r2⟩
        rw [clr_step hwu (by omega) hx] at r2
        exact hnx (r.1, r.2) ⟨hch_tr hct r1, r2⟩
      · rw [if_neg hx]
        have ns : nstep (noiW (stW w) k) k = sdW (noiW (stW w) k) k := by unfold nstep; rw [if_neg hx]
        refine hnx (t.2.1, N) ⟨hct, ?_⟩
        show CR h t.2.1 N (clr (nstep (noiW (stW w) k) k) (k + 1))
        rw [ns]; exact t4
    · intro fuel s ⟨s1, s2⟩
      obtain ⟨K, N⟩ := s
      dsimp only at s1 s2
      obtain ⟨hwu, equ⟩ := WF_noi (c := c) (by omega) hws (nw w 3) (by omega)
      have u3 : nw (noiW (stW w) (nw w 3)) 3 = nw w 3 := (nwe (equ 3 (by omega))).trans q3
      have hwc := WF_clr hwu (nw w 3) (by omega)
      have eK : K 0 4 = nI h := by rw [s1.1 0 (by decide) (by decide) (by omega)]; exact e
      have e3 := C_z3 hwc s2
      rw [nwe (clr_at (p := 3) _ (by omega)), u3] at e3
      show Tt (f_X11_passHour_34 (fuel + 1) (nI (nw w 3)) K N) _
      unfold f_X11_passHour_34
      simp -implicitDefEqProofs only [hs_h hd eK, Option.bind_some, e3]
      rw [if_pos (Int32.le_refl _), c_seats hc6 hwc s2, Option.bind_some, hs_h hd eK, Option.bind_some, pfe, Option.bind_some]
      have s2' : CR h K N (clr (noiW (stW w) (nw w 3)) (nw (noiW (stW w) (nw w 3)) 3)) := by rw [u3]; exact s2
      have ce := CR_end (by omega) hwu s2'
      have tc : tm (clr (noiW (stW w) (nw w 3)) (nw w 3)) = tm (noiW (stW w) (nw w 3)) := tm_cg (clr_at (p := 6) _ (by omega)) (clr_at (p := 7) _ (by omega))
      have sc : stN (clr (noiW (stW w) (nw w 3)) (nw w 3)) (nw (clr (noiW (stW w) (nw w 3)) (nw w 3)) 2) = stN (noiW (stW w) (nw w 3)) (nw (noiW (stW w) (nw w 3)) 2) := by
        rw [nwe (clr_at (p := 2) _ (by omega))]
        exact stN_cg _ hwu.2.1.1.2 (fun e he => clr_at _ (by omega))
      rw [tc, sc]
      refine Tt_some ⟨hch_tr s1 ⟨fun q _ _ hq => zu_n _ _ _ (by omega), fun q _ _ hq => zl_n _ _ _ (by omega)⟩, ce⟩
  unfold f_X11_passHour
  rw [hs_h hd e, Option.bind_some, Option.bind_some]
  unfold f_X3_draw
  rw [t8, pfe, Option.bind_some, Option.bind_some]
  show Tt (Option.bind (hsO (up2 J h 18 (nsd (w 13)) 0 4)) fun v5 => if up2 J h 18 (nsd (w 13)) v5 13 ≤ (((up2 J h 18 (nsd (w 13)) h 18) >>> ((16 : Int32) &&& 31)) &&& 32767) - (((up2 J h 18 (nsd (w 13)) h 18) >>> ((16 : Int32) &&& 31)) &&& 32767) / 100 * 100 then f_X11_passHour_29 h false (up2 J h 18 (nsd (w 13))) M else f_X11_passHour_29 h true (up2 J h 18 (nsd (w 13))) M) _
  rw [hs_h hd e1, Option.bind_some, zu_s, if_neg (show ¬ 13 = 18 by decide), t3, zu_s, if_pos (show 18 = 18 from rfl)]
  show Tt (if w 8 ≤ drw (nsd (w 13)) then _ else _) _
  by_cases h9 : w 8 ≤ drw (nsd (w 13))
  · rw [if_pos h9]
    rw [decide_eq_false (fun h8 => h8 h9)] at start
    exact start
  · rw [if_neg h9]
    rw [decide_eq_true h9] at start
    exact start
