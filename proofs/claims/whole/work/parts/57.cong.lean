-- ===== what depends on what
theorem nwe {w w' : Nat → Int32} {k : Nat} (h : w' k = w k) : nw w' k = nw w k := by unfold nw; rw [h]
theorem okN_cg {w w' : Nat → Int32} {k b : Nat} (h : w' k = w k) (c : okN w k b) : okN w' k b := by
  unfold okN at c ⊢
  rw [nwe h, h]; exact c
theorem tm_cg {w w' : Nat → Int32} (h6 : w' 6 = w 6) (h7 : w' 7 = w 7) : tm w' = tm w := by unfold tm; rw [nwe h6, nwe h7]
theorem WFd_cg {w w' : Nat → Int32} (h0 : w' 0 = w 0) (h1 : w' 1 = w 1) (hc : ∀ k, 15 ≤ k → k < 67 → w' k = w k) (c : WFd w) : WFd w' := by
  obtain ⟨a, b, d, e⟩ := c
  refine ⟨by rw [nwe h0, h0]; exact a, by rw [nwe h1, h1]; exact b, fun k hk => by rw [nwe (hc (15 + k) (by omega) (by omega)), hc (15 + k) (by omega) (by omega)]; exact d k hk, fun j hj => ?_⟩
  rw [nwe h1] at hj
  have hb := b.2
  rw [nwe (hc (25 + 3 * j) (by omega) (by omega)), hc (25 + 3 * j) (by omega) (by omega), nwe (hc (26 + 3 * j) (by omega) (by omega)), hc (26 + 3 * j) (by omega) (by omega), nwe (hc (27 + 3 * j) (by omega) (by omega)), hc (27 + 3 * j) (by omega) (by omega), nwe h0]
  exact e j hj
theorem csD_cg {w w' : Nat → Int32} (hw : WFd w) (hc : ∀ k, 15 ≤ k → k < 67 → w' k = w k) : ∀ d, d ≤ nw w 1 → csD w' d = csD w d := by
  intro d
  induction d with
  | zero => intro _; rfl
  | succ d ih =>
    intro hd
    obtain ⟨h1, h2, -⟩ := hw.2.2.2 d (by omega)
    have hr := hw.1.2
    have hdc := hw.2.1.2
    show vD w' d (csD w' d) = vD w d (csD w d)
    rw [ih (by omega)]
    unfold vD
    rw [nwe (hc (25 + 3 * d) (by omega) (by omega)), nwe (hc (26 + 3 * d) (by omega) (by omega)), nwe (hc (27 + 3 * d) (by omega) (by omega))]
    dsimp only
    rw [nwe (hc (15 + nw w (25 + 3 * d)) (by omega) (by omega)), nwe (hc (15 + nw w (26 + 3 * d)) (by omega) (by omega))]
theorem csF_cg {w w' : Nat → Int32} {dc : Nat} (h : csD w' dc = csD w dc) : ∀ m, csF w' dc m = csF w dc m := by
  intro m
  induction m with
  | zero => exact h
  | succ m ih =>
    show vF m (csF w' dc m) = vF m (csF w dc m)
    rw [ih]
theorem cs_cg {w w' : Nat → Int32} (hw : WFd w) (h1 : w' 1 = w 1) (hc : ∀ k, 15 ≤ k → k < 67 → w' k = w k) : cs w' = cs w := by
  unfold cs
  rw [nwe h1]
  exact csF_cg (csD_cg hw hc _ (Nat.le_refl _)) 10
theorem WFh_cg {w w' : Nat → Int32} (h0 : w' 0 = w 0) (h2 : w' 2 = w 2) (hh : ∀ k, 67 ≤ k → k < 85 → w' k = w k) (c : WFh w) : WFh w' := by
  obtain ⟨a, b⟩ := c
  refine ⟨okN_cg h2 a, fun h hh9 => ?_⟩
  rw [nwe h2] at hh9
  have h6 := a.2
  obtain ⟨⟨b1, b2⟩, b3, b4⟩ := b h hh9
  have e0 := hh (67 + 3 * h + 0) (by omega) (by omega)
  have e1 := hh (67 + 3 * h + 1) (by omega) (by omega)
  exact ⟨⟨okN_cg e0 b1, by rw [nwe e0, nwe h0]; exact b2⟩, okN_cg e1 b3, by rw [nwe e1]; exact b4⟩
theorem WFn1_cg {w w' : Nat → Int32} {n : Nat} (h0 : w' 0 = w 0) (ht : tm w' = tm w) (hn : ∀ k, k < 10 → w' (85 + 10 * n + k) = w (85 + 10 * n + k)) (c : WFn1 w n) : WFn1 w' n := by
  obtain ⟨a0, ⟨a1, a1'⟩, a2, a3, a4, a5, ⟨a6, a6'⟩, a7, a9⟩ := c
  have e0 := hn 0 (by decide)
  have e1 := hn 1 (by decide)
  have e6 := hn 6 (by decide)
  have e7 := hn 7 (by decide)
  have e9 := hn 9 (by decide)
  refine ⟨okN_cg e0 a0, ⟨okN_cg e1 a1, by rw [nwe e1, nwe h0]; exact a1'⟩, okN_cg (hn 2 (by decide)) a2, okN_cg (hn 3 (by decide)) a3, okN_cg (hn 4 (by decide)) a4, okN_cg (hn 5 (by decide)) a5, ⟨okN_cg e6 a6, by rw [nwe e0, nwe e6]; exact a6'⟩, ?_, ?_⟩
  · rcases a7 with h | ⟨h, h'⟩
    · exact Or.inl (e7.trans h)
    · exact Or.inr ⟨by rw [ht]; exact okN_cg e7 h, by rw [nwe e7, ht]; exact h'⟩
  · rcases a9 with h | ⟨h, h'⟩
    · exact Or.inl (e9.trans h)
    · exact Or.inr ⟨e9.trans h, by rw [nwe e0]; exact h'⟩
theorem WFn_cg {w w' : Nat → Int32} (h0 : w' 0 = w 0) (h3 : w' 3 = w 3) (ht : tm w' = tm w) (hn : ∀ k, 85 ≤ k → k < 205 → w' k = w k) (c : WFn w) : WFn w' := by
  obtain ⟨a, b⟩ := c
  refine ⟨okN_cg h3 a, fun n h9 => ?_⟩
  rw [nwe h3] at h9
  have := a.2
  exact WFn1_cg h0 ht (fun k hk => hn _ (by omega) (by omega)) (b n h9)
theorem WFt_cg {c : Nat} {w w' : Nat → Int32} (h : ∀ k, 4 ≤ k → k ≤ 9 → w' k = w k) (h14 : w' 14 = w 14) (h2 : w' 2 = w 2) (hc : ∀ e, e < 6 → w' (67 + 3 * e + 2) = w (67 + 3 * e + 2)) (x : WFt c w) : WFt c w' := by
  obtain ⟨a4, a5, a6, a7, at9, a8, a9, a14, ac⟩ := x
  have h6 := h 6 (by decide) (by decide)
  have h7 := h 7 (by decide) (by decide)
  have e := tm_cg h6 h7
  exact ⟨okN_cg (h 4 (by decide) (by decide)) a4, by rw [h 5 (by decide) (by decide)]; exact a5, by rw [h6, nwe h6]; exact a6, okN_cg h7 a7, by rw [e]; exact at9, okN_cg (h 8 (by decide) (by decide)) a8, by rw [h 9 (by decide) (by decide)]; exact a9, by rw [h14, e]; exact a14, fun q h1 h3 => by rw [hc q h3]; exact ac q (by rw [← nwe h2]; exact h1) h3⟩
theorem WFp_cg {w w' : Nat → Int32} (h0 : w' 0 = w 0) (h2 : w' 2 = w 2) (ht : tm w' = tm w) (hp : ∀ k, 205 ≤ k → k < 445 → w' k = w k) (c : WFp w) : WFp w' := by
  intro ago ha h hh
  rw [ht] at ha
  have e := hp (205 + 6 * ago + h) (by omega) (by omega)
  rcases c ago ha h hh with x | ⟨x, y, z⟩
  · exact Or.inl (e.trans x)
  · exact Or.inr ⟨okN_cg e x, by rw [nwe e, nwe h0]; exact y, by rw [nwe h2]; exact z⟩
theorem tyR_cg {w w' : Nat → Int32} : ∀ (n i : Nat) (st : List Bool), (∀ j, i ≤ j → j < i + n → w' (494 + 2 * j) = w (494 + 2 * j)) → tyR w' i n st = tyR w i n st := by
  intro n
  induction n with
  | zero => intro i st _; rfl
  | succ n ih =>
    intro i st h
    show (tyS (nw w' (494 + 2 * i)) st).bind (tyR w' (i + 1) n) = (tyS (nw w (494 + 2 * i)) st).bind (tyR w (i + 1) n)
    rw [nwe (h i (by omega) (by omega)), show tyR w' (i + 1) n = tyR w (i + 1) n from funext fun s9 => ih (i + 1) s9 (fun j h1 h2 => h j (by omega) (by omega))]
theorem WFl_cg {w w' : Nat → Int32} (h5 : w' 5 = w 5) (h : ∀ k, 445 ≤ k → k < 1294 → w' k = w k) (c : WFl w) : WFl w' := by
  intro h1
  rw [h5] at h1
  obtain ⟨a, b⟩ := c h1
  have e45 := h 445 (by decide) (by decide)
  refine ⟨okN_cg e45 a, fun l hl => ?_⟩
  rw [nwe e45] at hl
  have ha := a.2
  obtain ⟨p1, p2, p3, p4, p5, p6, p7, p8⟩ := b l hl
  have e46 := h (446 + 4 * l) (by omega) (by omega)
  have e47 := h (447 + 4 * l) (by omega) (by omega)
  have e48 := h (448 + 4 * l) (by omega) (by omega)
  have e49 := h (449 + 4 * l) (by omega) (by omega)
  have e4 := h (445 + 4 * l) (by omega) (by omega)
  have hp4 := p4.2
  refine ⟨okN_cg e46 p1, ?_, okN_cg e48 p3, okN_cg e49 p4, by rw [nwe e48, nwe e49]; exact p5, by rw [nwe e48, nwe e4]; exact p6, ?_, ?_⟩
  · rcases p2 with p2 | p2
    · exact Or.inl (e47.trans p2)
    · exact Or.inr (okN_cg e47 p2)
  · rw [nwe e48, nwe e49]
    intro i h2 h3
    obtain ⟨q1, q2, q3⟩ := p7 i h2 h3
    have e := h (494 + 2 * i) (by omega) (by omega)
    have e9 := h (495 + 2 * i) (by omega) (by omega)
    exact ⟨okN_cg e q1, by rw [nwe e]; exact fun z => okN_cg e9 (q2 z), by rw [nwe e]; exact fun z => okN_cg e9 (q3 z)⟩
  · rw [nwe e48, nwe e49, tyR_cg _ _ _ (fun j h2 h3 => h _ (by omega) (by omega))]
    exact p8
theorem WF_w {c : Nat} {w w' : Nat → Int32} (h : ∀ k, k < 1294 → w' k = w k) (x : WF c w) : WF c w' := by
  obtain ⟨a, b, d, e, f, g⟩ := x
  have ht := tm_cg (h 6 (by decide)) (h 7 (by decide))
  exact ⟨WFd_cg (h 0 (by decide)) (h 1 (by decide)) (fun k _ _ => h k (by omega)) a, WFh_cg (h 0 (by decide)) (h 2 (by decide)) (fun k _ _ => h k (by omega)) b, WFn_cg (h 0 (by decide)) (h 3 (by decide)) ht (fun k _ _ => h k (by omega)) d, WFt_cg (fun k _ _ => h k (by omega)) (h 14 (by decide)) (h 2 (by decide)) (fun k _ => h _ (by omega)) e, WFp_cg (h 0 (by decide)) (h 2 (by decide)) ht (fun k _ _ => h k (by omega)) f, WFl_cg (h 5 (by decide)) (fun k _ _ => h k (by omega)) g⟩
theorem WF_up {c : Nat} {w : Nat → Int32} (x : WF c w) : WF (c + 1) w := by
  obtain ⟨a, b, d, ⟨e1, e2, e3, e4, e5, e6⟩, f, g⟩ := x
  exact ⟨a, b, d, ⟨e1, e2, e3, e4, by omega, e6⟩, f, g⟩
-- the class's houses
theorem CRd_cg {h : Nat} {I I' : MI} {w w' : Nat → Int32} (i0 : I' h 0 = I h 0) (i1 : I' h 1 = I h 1) (ic : I' (h + 1) = I (h + 1)) (idr : ∀ d, d < 14 → I' (h + 13 + d) = I (h + 13 + d)) (w0 : w' 0 = w 0) (w1 : w' 1 = w 1) (wc : ∀ k, 15 ≤ k → k < 67 → w' k = w k) (c : CRd h I w) : CRd h I' w' :=
  ⟨i0.trans (c.1.trans w0.symm), i1.trans (c.2.1.trans w1.symm), fun k hk => by rw [ic, wc _ (by omega) (by omega)]; exact c.2.2.1 k hk, fun d hd => by rw [idr d hd, wc (25 + 3 * d) (by omega) (by omega), wc (26 + 3 * d) (by omega) (by omega), wc (27 + 3 * d) (by omega) (by omega)]; exact c.2.2.2 d hd⟩
theorem CRh_cg {h : Nat} {I I' : MI} {w w' : Nat → Int32} (i2 : I' h 2 = I h 2) (ie : ∀ k, k < 6 → I' (h + 27 + k) = I (h + 27 + k)) (w2 : w' 2 = w 2) (wh : ∀ k, 67 ≤ k → k < 85 → w' k = w k) (c : CRh h I w) : CRh h I' w' :=
  ⟨i2.trans (c.1.trans w2.symm), fun k hk => by rw [ie k hk, wh (67 + 3 * k + 0) (by omega) (by omega), wh (67 + 3 * k + 1) (by omega) (by omega), wh (67 + 3 * k + 2) (by omega) (by omega)]; exact c.2 k hk⟩
theorem CRn1_cg {a : Nat} {I I' : MI} {w w' : Nat → Int32} {k : Nat} (ia : I' a = I a) (wn : ∀ j, j < 10 → w' (85 + 10 * k + j) = w (85 + 10 * k + j)) (c : CRn1 a I w k) : CRn1 a I' w' k := by
  unfold CRn1 at c ⊢
  rw [ia, wn 0 (by decide), wn 1 (by decide), wn 2 (by decide), wn 3 (by decide), wn 4 (by decide), wn 5 (by decide), wn 6 (by decide), wn 7 (by decide), wn 8 (by decide), wn 9 (by decide)]
  exact c
theorem CRn_cg {h : Nat} {I I' : MI} {w w' : Nat → Int32} (i3 : I' h 3 = I h 3) (inn : ∀ k, k < 12 → I' (h + 33 + k) = I (h + 33 + k)) (w3 : w' 3 = w 3) (wn : ∀ k, 85 ≤ k → k < 205 → w' k = w k) (c : CRn h I w) : CRn h I' w' := by
  refine ⟨i3.trans (c.1.trans w3.symm), fun k hk => ?_⟩
  obtain ⟨p, q⟩ := c.2 k hk
  rw [nwe w3]
  refine ⟨fun h9 => CRn1_cg (inn k hk) (fun j hj => wn _ (by omega) (by omega)) (p h9), fun h9 => ?_⟩
  rw [inn k hk]; exact q h9
theorem CRt_cg {h : Nat} {I I' : MI} {w w' : Nat → Int32} (it : ∀ k, 11 ≤ k → k ≤ 18 → I' h k = I h k) (ht : tm w' = tm w) (w4 : w' 4 = w 4) (wt : ∀ k, 8 ≤ k → k ≤ 13 → w' k = w k) (c : CRt h I w) : CRt h I' w' := by
  unfold CRt at c ⊢
  rw [it 11 (by decide) (by decide), it 12 (by decide) (by decide), it 13 (by decide) (by decide), it 14 (by decide) (by decide), it 15 (by decide) (by decide), it 16 (by decide) (by decide), it 17 (by decide) (by decide), it 18 (by decide) (by decide), ht, w4, wt 8 (by decide) (by decide), wt 9 (by decide) (by decide), wt 10 (by decide) (by decide), wt 11 (by decide) (by decide), wt 12 (by decide) (by decide), wt 13 (by decide) (by decide)]
  exact c
theorem CRv_cg {h : Nat} {I I' : MI} {w w' : Nat → Int32} (i11 : I' (h + 11) = I (h + 11)) (w0 : w' 0 = w 0) (hcs : cs w' = cs w) (c : CRv h I w) : CRv h I' w' := by
  intro a b ha hb
  rw [nwe w0] at ha hb
  rw [i11, hcs]; exact c a b ha hb
theorem seatsN_cg {w w' : Nat → Int32} {ago : Nat} : ∀ n, (∀ j, j < n → w' (205 + 6 * ago + j) = w (205 + 6 * ago + j)) → seatsN w' ago n = seatsN w ago n := by
  intro n
  induction n with
  | zero => intro _; rfl
  | succ n ih =>
    intro h
    unfold seatsN
    rw [ih (fun j hj => h j (by omega)), nwe (h n (by omega)), h n (by omega)]
theorem CRp_cg {h : Nat} {L L' : ML} {w w' : Nat → Int32} (l12 : L' (h + 12) = L (h + 12)) (ht : tm w' = tm w) (wp : ∀ k, 205 ≤ k → k < 445 → w' k = w k) (c : CRp h L w) : CRp h L' w' := by
  intro ago ha
  rw [ht] at ha
  rw [l12, ht, seatsN_cg 6 (fun j hj => wp _ (by omega) (by omega))]
  exact c ago ha
theorem CRl_cg {h : Nat} {I I' : MI} {w w' : Nat → Int32} (i5 : I' (h + 5) 4 = I (h + 5) 4) (i6 : I' (h + 6) = I (h + 6)) (i7 : I' (h + 7) = I (h + 7)) (i8 : I' (h + 8) = I (h + 8)) (i9 : I' (h + 9) = I (h + 9)) (hw : WFl w) (w5 : w' 5 = w 5) (wl : ∀ k, 445 ≤ k → k < 1294 → w' k = w k) (c : CRl h I w) : CRl h I' w' := by
  have e45 := wl 445 (by decide) (by decide)
  refine ⟨by rw [i5, w5, e45]; exact c.1, fun h1 l hl => ?_⟩
  rw [w5] at h1
  rw [nwe e45] at hl
  have hw1 := hw h1
  have h12 := hw1.1.2
  have h49 := (hw1.2 l hl).2.2.2.1.2
  have e49 := wl (449 + 4 * l) (by omega) (by omega)
  rw [i6, i7, i8, i9, wl (446 + 4 * l) (by omega) (by omega), wl (447 + 4 * l) (by omega) (by omega), e49, nwe e49]
  obtain ⟨p1, p2, p3, p4⟩ := c.2 h1 l hl
  refine ⟨p1, p2, p3, fun i hi => ?_⟩
  rw [wl (494 + 2 * i) (by omega) (by omega), wl (495 + 2 * i) (by omega) (by omega)]
  exact p4 i hi
theorem CR_w {c h : Nat} {I : MI} {L : ML} {w w' : Nat → Int32} (hw : WF c w) (e : ∀ k, k < 1294 → w' k = w k) (x : CR h I L w) : CR h I L w' := by
  obtain ⟨a, b, d, f, g, i, j⟩ := x
  have ht := tm_cg (e 6 (by decide)) (e 7 (by decide))
  exact ⟨CRd_cg rfl rfl rfl (fun _ _ => rfl) (e 0 (by decide)) (e 1 (by decide)) (fun k _ _ => e k (by omega)) a, CRh_cg rfl (fun _ _ => rfl) (e 2 (by decide)) (fun k _ _ => e k (by omega)) b, CRn_cg rfl (fun _ _ => rfl) (e 3 (by decide)) (fun k _ _ => e k (by omega)) d, CRt_cg (fun _ _ _ => rfl) ht (e 4 (by decide)) (fun k _ _ => e k (by omega)) f, CRv_cg rfl (e 0 (by decide)) (cs_cg hw.1 (e 1 (by decide)) (fun k _ _ => e k (by omega))) g, CRp_cg rfl ht (fun k _ _ => e k (by omega)) i, CRl_cg rfl rfl rfl rfl rfl hw.2.2.2.2.2 (e 5 (by decide)) (fun k _ _ => e k (by omega)) j⟩
-- ===== one field of a world is given anew
theorem sw_s (w : Nat → Int32) (p : Nat) (x : Int32) : setw w p x p = x := if_pos rfl
theorem sw_n (w : Nat → Int32) {p k : Nat} (x : Int32) (h : k ≠ p) : setw w p x k = w k := if_neg h
theorem okN_s {w : Nat → Int32} {p b n : Nat} (hn : n < 2 ^ 31) (h : n ≤ b) : okN (setw w p (nI n)) p b := by
  unfold okN nw
  rw [sw_s, zI_cl hn]; exact ⟨rfl, h⟩
theorem nw_s {w : Nat → Int32} {p n : Nat} (hn : n < 2 ^ 31) : nw (setw w p (nI n)) p = n := by
  unfold nw; rw [sw_s, zI_cl hn]
theorem up_150 {I : MI} {w : Nat → Int32} {p : Nat} {x : Int32} (h : I 150 = w) : up2 I 150 p x 150 = setw w p x := by
  funext k
  rw [zu_s, h]; rfl
theorem WF_seed {c : Nat} {w : Nat → Int32} (x : Int32) (hw : WF c w) : WF c (setw w 13 x) := by
  obtain ⟨a, b, d, e, f, g⟩ := hw
  have s : ∀ k, k ≠ 13 → setw w 13 x k = w k := fun k hk => sw_n w x hk
  have ht := tm_cg (s 6 (by decide)) (s 7 (by decide))
  exact ⟨WFd_cg (s 0 (by decide)) (s 1 (by decide)) (fun k _ _ => s k (by omega)) a, WFh_cg (s 0 (by decide)) (s 2 (by decide)) (fun k _ _ => s k (by omega)) b, WFn_cg (s 0 (by decide)) (s 3 (by decide)) ht (fun k _ _ => s k (by omega)) d, WFt_cg (fun k _ _ => s k (by omega)) (s 14 (by decide)) (s 2 (by decide)) (fun k _ => s _ (by omega)) e, WFp_cg (s 0 (by decide)) (s 2 (by decide)) ht (fun k _ _ => s k (by omega)) f, WFl_cg (s 5 (by decide)) (fun k _ _ => s k (by omega)) g⟩
theorem CR_seed {c h : Nat} {I : MI} {L : ML} {w : Nat → Int32} (x : Int32) (hw : WF c w) (y : CR h I L w) : CR h (up2 I h 18 x) L (setw w 13 x) := by
  obtain ⟨a, b, d, f, g, i, j⟩ := y
  have s : ∀ k, k ≠ 13 → setw w 13 x k = w k := fun k hk => sw_n w x hk
  have u : ∀ k, k ≠ 18 → up2 I h 18 x h k = I h k := fun k hk => by rw [zu_s, if_neg hk]
  have v : ∀ q, q ≠ h → up2 I h 18 x q = I q := fun q hq => zu_n _ _ _ hq
  have ht := tm_cg (s 6 (by decide)) (s 7 (by decide))
  refine ⟨CRd_cg (u 0 (by decide)) (u 1 (by decide)) (v _ (by omega)) (fun d _ => v _ (by omega)) (s 0 (by decide)) (s 1 (by decide)) (fun k _ _ => s k (by omega)) a, CRh_cg (u 2 (by decide)) (fun k _ => v _ (by omega)) (s 2 (by decide)) (fun k _ _ => s k (by omega)) b, CRn_cg (u 3 (by decide)) (fun k _ => v _ (by omega)) (s 3 (by decide)) (fun k _ _ => s k (by omega)) d, ?_, CRv_cg (v _ (by omega)) (s 0 (by decide)) (cs_cg hw.1 (s 1 (by decide)) (fun k _ _ => s k (by omega))) g, CRp_cg rfl ht (fun k _ _ => s k (by omega)) i, CRl_cg (by rw [v _ (by omega)]) (v _ (by omega)) (v _ (by omega)) (v _ (by omega)) (v _ (by omega)) hw.2.2.2.2.2 (s 5 (by decide)) (fun k _ _ => s k (by omega)) j⟩
  unfold CRt at f ⊢
  rw [u 11 (by decide), u 12 (by decide), u 13 (by decide), u 14 (by decide), u 15 (by decide), u 16 (by decide), u 17 (by decide), ht, s 4 (by decide), s 8 (by decide), s 9 (by decide), s 10 (by decide), s 11 (by decide), s 12 (by decide), sw_s, zu_s, if_pos rfl]
  exact ⟨f.1, f.2.1, f.2.2.1, f.2.2.2.1, f.2.2.2.2.1, f.2.2.2.2.2.1, f.2.2.2.2.2.2.1, rfl⟩
-- an heir goes
theorem WF_go {c : Nat} {w : Nat → Int32} {k r : Nat} (hk : k < nw w 2) (hr : r < nw w 0) (hw : WF c w) : WF c (setw w (67 + 3 * k + 0) (nI r)) := by
  obtain ⟨a, b, d, e, f, g⟩ := hw
  have h6 := b.1.2
  have h10 := a.1.2
  have s : ∀ j, j ≠ 67 + 3 * k + 0 → setw w (67 + 3 * k + 0) (nI r) j = w j := fun j hj => sw_n w _ hj
  have ht := tm_cg (s 6 (by omega)) (s 7 (by omega))
  refine ⟨WFd_cg (s 0 (by omega)) (s 1 (by omega)) (fun j _ _ => s j (by omega)) a, ⟨okN_cg (s 2 (by omega)) b.1, fun e9 he => ?_⟩, WFn_cg (s 0 (by omega)) (s 3 (by omega)) ht (fun j _ _ => s j (by omega)) d, WFt_cg (fun j _ _ => s j (by omega)) (s 14 (by omega)) (s 2 (by omega)) (fun j _ => s _ (by omega)) e, WFp_cg (s 0 (by omega)) (s 2 (by omega)) ht (fun j _ _ => s j (by omega)) f, WFl_cg (s 5 (by omega)) (fun j _ _ => s j (by omega)) g⟩
  rw [nwe (s 2 (by omega))] at he
  obtain ⟨⟨b1, b2⟩, b3, b4⟩ := b.2 e9 he
  have s1 := s (67 + 3 * e9 + 1) (by omega)
  refine ⟨?_, okN_cg s1 b3, by rw [nwe s1]; exact b4⟩
  by_cases h9 : e9 = k
  · subst h9
    exact ⟨okN_s (by omega) (by omega), by rw [nw_s (by omega), nwe (s 0 (by omega))]; exact hr⟩
  · have s0 := s (67 + 3 * e9 + 0) (by omega)
    exact ⟨okN_cg s0 b1, by rw [nwe s0, nwe (s 0 (by omega))]; exact b2⟩
theorem CR_go {c h : Nat} {I : MI} {L : ML} {w : Nat → Int32} {k : Nat} (hk : k < 6) (x : Int32) (hw : WF c w) (y : CR h I L w) : CR h (up2 I (h + 27 + k) 0 x) L (setw w (67 + 3 * k + 0) x) := by
  obtain ⟨a, b, d, f, g, i, j⟩ := y
  have s : ∀ j, j ≠ 67 + 3 * k + 0 → setw w (67 + 3 * k + 0) x j = w j := fun j hj => sw_n w _ hj
  have v : ∀ q, q ≠ h + 27 + k → up2 I (h + 27 + k) 0 x q = I q := fun q hq => zu_n _ _ _ hq
  have ht := tm_cg (s 6 (by omega)) (s 7 (by omega))
  refine ⟨CRd_cg (by rw [v _ (by omega)]) (by rw [v _ (by omega)]) (v _ (by omega)) (fun d _ => v _ (by omega)) (s 0 (by omega)) (s 1 (by omega)) (fun k _ _ => s k (by omega)) a, ⟨by rw [v _ (by omega), s 2 (by omega)]; exact b.1, fun e he => ?_⟩, CRn_cg (by rw [v _ (by omega)]) (fun k _ => v _ (by omega)) (s 3 (by omega)) (fun k _ _ => s k (by omega)) d, CRt_cg (fun k _ _ => by rw [v _ (by omega)]) ht (s 4 (by omega)) (fun k _ _ => s k (by omega)) f, CRv_cg (v _ (by omega)) (s 0 (by omega)) (cs_cg hw.1 (s 1 (by omega)) (fun k _ _ => s k (by omega))) g, CRp_cg rfl ht (fun k _ _ => s k (by omega)) i, CRl_cg (by rw [v _ (by omega)]) (v _ (by omega)) (v _ (by omega)) (v _ (by omega)) (v _ (by omega)) hw.2.2.2.2.2 (s 5 (by omega)) (fun k _ _ => s k (by omega)) j⟩
  obtain ⟨b0, b1, b2⟩ := b.2 e he
  by_cases h9 : e = k
  · subst h9
    rw [zu_s, zu_s, zu_s, if_pos rfl, if_neg (by decide), if_neg (by decide), sw_s, s (67 + 3 * e + 1) (by omega), s (67 + 3 * e + 2) (by omega)]
    exact ⟨rfl, b1, b2⟩
  · rw [v _ (by omega), s (67 + 3 * e + 0) (by omega), s (67 + 3 * e + 1) (by omega), s (67 + 3 * e + 2) (by omega)]
    exact ⟨b0, b1, b2⟩
-- a noise is oiled (slot 6, field 5) or made (slot 9, field 9)
theorem CR_nz {c h : Nat} {I : MI} {L : ML} {w : Nat → Int32} {k sl fd : Nat} (hsl : (sl = 6 ∧ fd = 5) ∨ (sl = 9 ∧ fd = 9)) (hk : k < nw w 3) (x : Int32) (hw : WF c w) (y : CR h I L w) : CR h (up2 I (h + 33 + k) sl x) L (setw w (85 + 10 * k + fd) x) := by
  obtain ⟨a, b, d, f, g, i, j⟩ := y
  have h12 := hw.2.2.1.1.2
  have s : ∀ j, j ≠ 85 + 10 * k + fd → setw w (85 + 10 * k + fd) x j = w j := fun j hj => sw_n w _ hj
  have v : ∀ q, q ≠ h + 33 + k → up2 I (h + 33 + k) sl x q = I q := fun q hq => zu_n _ _ _ hq
  have ht := tm_cg (s 6 (by omega)) (s 7 (by omega))
  refine ⟨CRd_cg (by rw [v _ (by omega)]) (by rw [v _ (by omega)]) (v _ (by omega)) (fun d _ => v _ (by omega)) (s 0 (by omega)) (s 1 (by omega)) (fun k _ _ => s k (by omega)) a, CRh_cg (by rw [v _ (by omega)]) (fun k _ => v _ (by omega)) (s 2 (by omega)) (fun k _ _ => s k (by omega)) b, ⟨by rw [v _ (by omega), s 3 (by omega)]; exact d.1, fun n hn => ?_⟩, CRt_cg (fun k _ _ => by rw [v _ (by omega)]) ht (s 4 (by omega)) (fun k _ _ => s k (by omega)) f, CRv_cg (v _ (by omega)) (s 0 (by omega)) (cs_cg hw.1 (s 1 (by omega)) (fun k _ _ => s k (by omega))) g, CRp_cg rfl ht (fun k _ _ => s k (by omega)) i, CRl_cg (by rw [v _ (by omega)]) (v _ (by omega)) (v _ (by omega)) (v _ (by omega)) (v _ (by omega)) hw.2.2.2.2.2 (s 5 (by omega)) (fun k _ _ => s k (by omega)) j⟩
  obtain ⟨p, q⟩ := d.2 n hn
  rw [nwe (s 3 (by omega))]
  by_cases h9 : n = k
  · subst h9
    refine ⟨fun h8 => ?_, fun h8 => absurd h8 (by omega)⟩
    have p9 := p h8
    unfold CRn1 at p9 ⊢
    obtain ⟨n0, n1, n2, n3, n4, n5, n6, n7, n8, n9⟩ := p9
    rcases hsl with ⟨rfl, rfl⟩ | ⟨rfl, rfl⟩
    · rw [s (85 + 10 * n + 0) (by omega), s (85 + 10 * n + 1) (by omega), s (85 + 10 * n + 2) (by omega), s (85 + 10 * n + 3) (by omega), s (85 + 10 * n + 4) (by omega), sw_s, s (85 + 10 * n + 6) (by omega), s (85 + 10 * n + 7) (by omega), s (85 + 10 * n + 8) (by omega), s (85 + 10 * n + 9) (by omega)]
      simp only [zu_s]
      exact ⟨n0, n1, n2, n3, n4, n5, rfl, n7, n8, n9⟩
    · rw [s (85 + 10 * n + 0) (by omega), s (85 + 10 * n + 1) (by omega), s (85 + 10 * n + 2) (by omega), s (85 + 10 * n + 3) (by omega), s (85 + 10 * n + 4) (by omega), sw_s, s (85 + 10 * n + 5) (by omega), s (85 + 10 * n + 6) (by omega), s (85 + 10 * n + 7) (by omega), s (85 + 10 * n + 8) (by omega)]
      simp only [zu_s]
      exact ⟨n0, n1, n2, n3, n4, n5, n6, n7, n8, rfl⟩
  · refine ⟨fun h8 => CRn1_cg (v _ (by omega)) (fun j hj => s _ (by omega)) (p h8), fun h8 => ?_⟩
    rw [v _ (by omega)]; exact q h8
theorem WF_nz {c : Nat} {w : Nat → Int32} {k fd : Nat} {x : Int32} (hk : k < nw w 3) (hx : (fd = 5 ∧ ∃ n, x = nI n ∧ n ≤ 99) ∨ (fd = 9 ∧ nw w (85 + 10 * k + 0) = 3 ∧ (x = 0 ∨ x = 1))) (hw : WF c w) : WF c (setw w (85 + 10 * k + fd) x) := by
  obtain ⟨a, b, d, e, f, g⟩ := hw
  have h12 := d.1.2
  have s : ∀ j, j ≠ 85 + 10 * k + fd → setw w (85 + 10 * k + fd) x j = w j := fun j hj => sw_n w _ hj
  have ht := tm_cg (s 6 (by omega)) (s 7 (by omega))
  refine ⟨WFd_cg (s 0 (by omega)) (s 1 (by omega)) (fun j _ _ => s j (by omega)) a, WFh_cg (s 0 (by omega)) (s 2 (by omega)) (fun j _ _ => s j (by omega)) b, ⟨okN_cg (s 3 (by omega)) d.1, fun n hn => ?_⟩, WFt_cg (fun j _ _ => s j (by omega)) (s 14 (by omega)) (s 2 (by omega)) (fun j _ => s _ (by omega)) e, WFp_cg (s 0 (by omega)) (s 2 (by omega)) ht (fun j _ _ => s j (by omega)) f, WFl_cg (s 5 (by omega)) (fun j _ _ => s j (by omega)) g⟩
  rw [nwe (s 3 (by omega))] at hn
  have p := d.2 n hn
  by_cases h9 : n = k
  · subst h9
    obtain ⟨a0, ⟨a1, a1'⟩, a2, a3, a4, a5, ⟨a6, a6'⟩, a7, a9⟩ := p
    rcases hx with ⟨rfl, m, rfl, hm⟩ | ⟨rfl, h3, hx⟩
    · have e0 := s (85 + 10 * n + 0) (by omega)
      have e1 := s (85 + 10 * n + 1) (by omega)
      have e6 := s (85 + 10 * n + 6) (by omega)
      have e7 := s (85 + 10 * n + 7) (by omega)
      have e9 := s (85 + 10 * n + 9) (by omega)
      refine ⟨okN_cg e0 a0, ⟨okN_cg e1 a1, by rw [nwe e1, nwe (s 0 (by omega))]; exact a1'⟩, okN_cg (s (85 + 10 * n + 2) (by omega)) a2, okN_cg (s (85 + 10 * n + 3) (by omega)) a3, okN_cg (s (85 + 10 * n + 4) (by omega)) a4, okN_s (by omega) hm, ⟨okN_cg e6 a6, by rw [nwe e0, nwe e6]; exact a6'⟩, ?_, ?_⟩
      · rcases a7 with h | ⟨h, h'⟩
        · exact Or.inl (e7.trans h)
        · exact Or.inr ⟨by rw [ht]; exact okN_cg e7 h, by rw [nwe e7, ht]; exact h'⟩
      · rcases a9 with h | ⟨h, h'⟩
        · exact Or.inl (e9.trans h)
        · exact Or.inr ⟨e9.trans h, by rw [nwe e0]; exact h'⟩
    · have e0 := s (85 + 10 * n + 0) (by omega)
      have e1 := s (85 + 10 * n + 1) (by omega)
      have e6 := s (85 + 10 * n + 6) (by omega)
      have e7 := s (85 + 10 * n + 7) (by omega)
      refine ⟨okN_cg e0 a0, ⟨okN_cg e1 a1, by rw [nwe e1, nwe (s 0 (by omega))]; exact a1'⟩, okN_cg (s (85 + 10 * n + 2) (by omega)) a2, okN_cg (s (85 + 10 * n + 3) (by omega)) a3, okN_cg (s (85 + 10 * n + 4) (by omega)) a4, okN_cg (s (85 + 10 * n + 5) (by omega)) a5, ⟨okN_cg e6 a6, by rw [nwe e0, nwe e6]; exact a6'⟩, ?_, ?_⟩
      · rcases a7 with h | ⟨h, h'⟩
        · exact Or.inl (e7.trans h)
        · exact Or.inr ⟨by rw [ht]; exact okN_cg e7 h, by rw [nwe e7, ht]; exact h'⟩
      · rw [sw_s, nwe e0]
        rcases hx with hx | hx
        · exact Or.inl hx
        · exact Or.inr ⟨hx, h3⟩
  · exact WFn1_cg (s 0 (by omega)) ht (fun j hj => s _ (by omega)) p
-- a carpet
theorem WFd_lay {w : Nat → Int32} {r n : Nat} (hr : r < 10) (hn : n ≤ 20) (hw : WFd w) : WFd (setw w (15 + r) (nI n)) := by
  obtain ⟨a, b, d, e⟩ := hw
  have s : ∀ j, j ≠ 15 + r → setw w (15 + r) (nI n) j = w j := fun j hj => sw_n w _ hj
  have s0 := s 0 (by omega)
  have s1 := s 1 (by omega)
  refine ⟨by rw [nwe s0, s0]; exact a, by rw [nwe s1, s1]; exact b, fun k hk => ?_, fun j hj => ?_⟩
  · by_cases h9 : k = r
    · subst h9
      exact okN_s (by omega) hn
    · rw [nwe (s (15 + k) (by omega)), s (15 + k) (by omega)]; exact d k hk
  · rw [nwe s1] at hj
    have hb := b.2
    rw [nwe (s (25 + 3 * j) (by omega)), s (25 + 3 * j) (by omega), nwe (s (26 + 3 * j) (by omega)), s (26 + 3 * j) (by omega), nwe (s (27 + 3 * j) (by omega)), s (27 + 3 * j) (by omega), nwe s0]
    exact e j hj
theorem WF_lay {c : Nat} {w : Nat → Int32} {r n : Nat} (hr : r < 10) (hn : n ≤ 20) (hw : WF c w) : WF c (setw w (15 + r) (nI n)) := by
  obtain ⟨a, b, d, e, f, g⟩ := hw
  have s : ∀ j, j ≠ 15 + r → setw w (15 + r) (nI n) j = w j := fun j hj => sw_n w _ hj
  have ht := tm_cg (s 6 (by omega)) (s 7 (by omega))
  exact ⟨WFd_lay hr hn a, WFh_cg (s 0 (by omega)) (s 2 (by omega)) (fun j _ _ => s j (by omega)) b, WFn_cg (s 0 (by omega)) (s 3 (by omega)) ht (fun j _ _ => s j (by omega)) d, WFt_cg (fun j _ _ => s j (by omega)) (s 14 (by omega)) (s 2 (by omega)) (fun j _ => s _ (by omega)) e, WFp_cg (s 0 (by omega)) (s 2 (by omega)) ht (fun j _ _ => s j (by omega)) f, WFl_cg (s 5 (by omega)) (fun j _ _ => s j (by omega)) g⟩
theorem c_lay {c h : Nat} {I : MI} {L : ML} {w : Nat → Int32} {r n : Nat} (hr : r < 10) (hn : n ≤ 20) (hw : WF c w) (y : CR h I L w) : Tt (f_X3_lay h (nI r) (nI n) I L) (fun t => t.2 = L ∧ (∀ q, q ≠ h + 1 → q ≠ h + 11 → t.1 q = I q) ∧ CR h t.1 L (setw w (15 + r) (nI n))) := by
  obtain ⟨a, b, d, f, g, i, j⟩ := y
  have s : ∀ j, j ≠ 15 + r → setw w (15 + r) (nI n) j = w j := fun j hj => sw_n w _ hj
  have v : ∀ q, q ≠ h + 1 → up2 I (h + 1) r (nI n) q = I q := fun q hq => zu_n _ _ _ hq
  have ht := tm_cg (s 6 (by omega)) (s 7 (by omega))
  have hwd := WFd_lay (r := r) hr hn hw.1
  have hcr : CRd h (up2 I (h + 1) r (nI n)) (setw w (15 + r) (nI n)) := by
    refine ⟨by rw [v _ (by omega), s 0 (by omega)]; exact a.1, by rw [v _ (by omega), s 1 (by omega)]; exact a.2.1, fun k hk => ?_, fun d9 hd9 => by rw [v _ (by omega), s (25 + 3 * d9) (by omega), s (26 + 3 * d9) (by omega), s (27 + 3 * d9) (by omega)]; exact a.2.2.2 d9 hd9⟩
    rw [zu_s]
    by_cases h9 : k = r
    · rw [if_pos h9, h9, sw_s]
    · rw [if_neg h9, s (15 + k) (by omega)]; exact a.2.2.1 k hk
  unfold f_X3_lay
  rw [stI_n hr (by decide), Option.bind_some]
  refine Tt_bind (Tt_mono (c_findWays hwd hcr) ?_)
  intro t ⟨t1, t2, t3⟩
  have z : ∀ q, q ≠ h + 1 → q ≠ h + 11 → t.1 q = I q := fun q h1 h2 => (t2 q h2).trans (v q h1)
  refine Tt_some ⟨t1, z, ?_⟩
  refine ⟨CRd_cg (by rw [t2 h (by omega)]) (by rw [t2 h (by omega)]) (t2 _ (by omega)) (fun d9 _ => t2 _ (by omega)) rfl rfl (fun _ _ _ => rfl) hcr, CRh_cg (by rw [z _ (by omega) (by omega)]) (fun k _ => z _ (by omega) (by omega)) (s 2 (by omega)) (fun k _ _ => s k (by omega)) b, CRn_cg (by rw [z _ (by omega) (by omega)]) (fun k _ => z _ (by omega) (by omega)) (s 3 (by omega)) (fun k _ _ => s k (by omega)) d, CRt_cg (fun k _ _ => by rw [z _ (by omega) (by omega)]) ht (s 4 (by omega)) (fun k _ _ => s k (by omega)) f, fun a9 b9 h1 h2 => t3 a9 b9 h1 h2, CRp_cg rfl ht (fun k _ _ => s k (by omega)) i, CRl_cg (by rw [z _ (by omega) (by omega)]) (z _ (by omega) (by omega)) (z _ (by omega) (by omega)) (z _ (by omega) (by omega)) (z _ (by omega) (by omega)) hw.2.2.2.2.2 (s 5 (by omega)) (fun k _ _ => s k (by omega)) j⟩
