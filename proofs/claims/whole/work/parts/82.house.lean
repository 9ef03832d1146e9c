-- ===== a house is read
theorem DW_texts {c d n : Nat} {I : MI} {L : ML} {w : Nat → Int32} (h : DW c d I L w) (hn : n ≤ 10) : DW c d (up2 I d 11 (nI n)) L (setw w 4 (nI n)) := by
  have s : ∀ k, k ≠ 4 → setw w 4 (nI n) k = w k := fun k hk => sw_n w _ hk
  have u : ∀ k, k ≠ 11 → up2 I d 11 (nI n) d k = I d k := fun k hk => by rw [zu_s, if_neg hk]
  have v : ∀ q, q ≠ d → up2 I d 11 (nI n) q = I q := fun q hq => zu_n _ _ _ hq
  have ht := tm_cg (s 6 (by decide)) (s 7 (by decide))
  obtain ⟨⟨h1, h2, h3, ⟨t4, t5, t6, t7, tt, t8, t9, t14, tc⟩, h5, h6⟩, k2, k3, k4, k5, k6, k7⟩ := h
  refine ⟨⟨WFd_cg (s 0 (by omega)) (s 1 (by omega)) (fun k _ _ => s k (by omega)) h1, WFh_cg (s 0 (by omega)) (s 2 (by omega)) (fun k _ _ => s k (by omega)) h2, WFn_cg (s 0 (by omega)) (s 3 (by omega)) ht (fun k _ _ => s k (by omega)) h3, ⟨okN_s (by omega) hn, by rw [s 5 (by omega)]; exact t5, by rw [s 6 (by omega), nwe (s 6 (by omega))]; exact t6, okN_cg (s 7 (by omega)) t7, by rw [ht]; exact tt, okN_cg (s 8 (by omega)) t8, by rw [s 9 (by omega)]; exact t9, by rw [s 14 (by omega), ht]; exact t14, fun g x1 x2 => by rw [s (67 + 3 * g + 2) (by omega)]; exact tc g (by rw [← nwe (s 2 (by omega))]; exact x1) x2⟩, WFp_cg (s 0 (by omega)) (s 2 (by omega)) ht (fun k _ _ => s k (by omega)) h5, WFl_cg (s 5 (by omega)) (fun k _ _ => s k (by omega)) h6⟩, CRd_cg (u 0 (by decide)) (u 1 (by decide)) (v _ (by omega)) (fun k _ => v _ (by omega)) (s 0 (by omega)) (s 1 (by omega)) (fun k _ _ => s k (by omega)) k2, CRh_cg (u 2 (by decide)) (fun k _ => v _ (by omega)) (s 2 (by omega)) (fun k _ _ => s k (by omega)) k3, CRn_cg (u 3 (by decide)) (fun k _ => v _ (by omega)) (s 3 (by omega)) (fun k _ _ => s k (by omega)) k4, ?_, CRp_cg rfl ht (fun k _ _ => s k (by omega)) k6, CRl_cg (by rw [v (d + 5) (by omega)]) (v _ (by omega)) (v _ (by omega)) (v _ (by omega)) (v _ (by omega)) h6 (s 5 (by omega)) (fun k _ _ => s k (by omega)) k7⟩
  unfold CRt at k5 ⊢
  rw [u 12 (by decide), u 13 (by decide), u 14 (by decide), u 15 (by decide), u 16 (by decide), u 17 (by decide), u 18 (by decide), ht, sw_s, s 8 (by decide), s 9 (by decide), s 10 (by decide), s 11 (by decide), s 12 (by decide), s 13 (by decide), zu_s, if_pos rfl]
  exact ⟨rfl, k5.2⟩
theorem DW_CR {c d : Nat} {I I' : MI} {L : ML} {w : Nat → Int32} (h : DW c d I L w) (o : ∀ q, q ≠ d + 11 → I' q = I q) (hv : CRv d I' w) : CR d I' L w := by
  obtain ⟨h1, h2, h3, h4, h5, h6, h7⟩ := h
  have e := o d (by omega)
  exact ⟨CRd_cg (by rw [e]) (by rw [e]) (o _ (by omega)) (fun k _ => o _ (by omega)) rfl rfl (fun _ _ _ => rfl) h2, CRh_cg (by rw [e]) (fun k _ => o _ (by omega)) rfl (fun _ _ _ => rfl) h3, CRn_cg (by rw [e]) (fun k _ => o _ (by omega)) rfl (fun _ _ _ => rfl) h4, CRt_cg (fun k _ _ => by rw [e]) rfl rfl (fun _ _ _ => rfl) h5, hv, h6, CRl_cg (by rw [o (d + 5) (by omega)]) (o _ (by omega)) (o _ (by omega)) (o _ (by omega)) (o _ (by omega)) h1.2.2.2.2.2 rfl (fun _ _ _ => rfl) h7⟩
theorem HD_y {h d : Nat} (hd : HD h d) : HD d h := by unfold HD at *; omega
/-- a text is opened, and the draft is the house as it stands -/
theorem c_openText {c h d : Nat} {I : MI} {L : ML} {A : AS} (hA : AI c A) (hd : HD h d) (cj : CJ h d I L A) : Tt (f_X11_openText I L) (fun r => CT A.2.2.1 A.2.2.2.1 (sk A.2.2.1 A.2.2.2.1 0) r.1 ∧ (∀ q, q ≠ 1 → (q < d ∨ d + 45 ≤ q) → r.1 q = I q) ∧ (∀ q, (q < d ∨ d + 45 ≤ q) → r.2 q = L q) ∧ r.1 1 1 = 0 ∧ r.1 1 7 = -1 ∧ CR d r.1 r.2 A.1) := by
  obtain ⟨a1, a2, a3, b1, b2, c1, c2, c3, d1, d2⟩ := cj
  unfold f_X11_openText
  obtain ⟨⟨I1, L1⟩, s1, s2, s3, s4, s5, s6⟩ := c_open (L := L) hA.2.2.2.1 c1 c2
  have s2 : L1 = L := s2
  subst s2
  dsimp only at s3 s4 s5 s6
  have hb : 14 ≤ h ∧ 14 ≤ d ∧ (h + 45 ≤ d ∨ d + 45 ≤ h) := by unfold HD at hd; omega
  rw [s1, Option.bind_some]
  dsimp only
  rw [s4 0 (by decide), hs_h (HD_y hd) a2, Option.bind_some, hs_h hd a1, Option.bind_some]
  refine Tt_bind (Tt_mono (c_copy hb.2.2 hA.1 (CR_cg (fun k _ _ => s4 _ (by omega)) rfl a3)) ?_)
  intro r ⟨r1, r2⟩
  refine Tt_some ⟨?_, fun q h1 h2 => ((r1 q h2).1).trans (s4 q h1), fun q h2 => (r1 q h2).2, ?_, ?_, r2⟩
  · exact CT_w s3 (r1 1 (by omega)).1 (r1 2 (by omega)).1
  · dsimp only; rw [(r1 1 (by omega)).1]; exact s5
  · dsimp only; rw [(r1 1 (by omega)).1]; exact s6
/-- the reference keeps what was before -/
theorem r_h2 {J : MI} {M : ML} : ∀ (m k fuel : Nat) (K : MI), 1294 - k = m → k ≤ 1294 → m < fuel → (∀ q, q ≠ 152 → K q = J q) → (∀ j, j < k → K 152 j = J 150 j) → ∃ J1 : MI, (∀ q, q ≠ 152 → J1 q = J q) ∧ (∀ j, j < 1294 → J1 152 j = J 150 j) ∧ f_X12_house_2 fuel (nI k) K M = Option.bind (f_X12_readAll true J1 M) fun w2 => if 0 ≤ w2.1 then (f_X12_house_46 w2.1 ((-1)) w2.2.1 w2.2.2) else (f_X12_house_46 w2.1 (w2.2.1 149 11) w2.2.1 w2.2.2) := by
  intro m
  induction m with
  | zero =>
    intro k fuel K hm hk hf h1 h2
    obtain ⟨f, rfl⟩ : ∃ f, fuel = f + 1 := ⟨fuel - 1, by omega⟩
    refine ⟨K, h1, fun j hj => h2 j (by omega), ?_⟩
    show f_X12_house_2 (f + 1) (nI k) K M = _
    rw [f_X12_house_2, show (1294 : Int32) = nI 1294 from rfl, if_pos ((zI_le (by decide) (by omega)).mpr (by omega))]
  | succ m ih =>
    intro k fuel K hm hk hf h1 h2
    obtain ⟨f, rfl⟩ : ∃ f, fuel = f + 1 := ⟨fuel - 1, by omega⟩
    obtain ⟨J1, j1, j2, j3⟩ := ih (k + 1) f (up2 K 152 k (J 150 k)) (by omega) (by omega) (by omega) (fun q hq => by rw [zu_n _ _ _ hq]; exact h1 q hq) (fun j hj => by
      rw [zu_s]
      by_cases h9 : j = k
      · rw [if_pos h9, h9]
      · rw [if_neg h9]; exact h2 j (by omega))
    refine ⟨J1, j1, j2, ?_⟩
    rw [← j3, f_X12_house_2, show (1294 : Int32) = nI 1294 from rfl, if_neg (le_n (by decide) (by omega) (by omega)), ldI_n (by omega) (by decide), Option.bind_some, stI_n (by omega) (by decide), Option.bind_some, zI_1, h1 150 (by decide)]
theorem r_90 {K : MI} {M : ML} : Tt (f_X12_house_90 K M) (fun r => r.1 = 0 ∧ r.2.2 = M ∧ (∀ q, q ≠ 150 → r.2.1 q = K q) ∧ ∀ k, r.2.1 150 k = if k < 1294 then K 152 k else K 150 k) := by
  unfold f_X12_house_90
  refine lp0 (fun fuel k (s : MI) => f_X12_house_92 fuel (nI k) s M) 1294 (fun k s => (∀ q, q ≠ 150 → s q = K q) ∧ ∀ j, s 150 j = if j < k then K 152 j else K 150 j) (by decide) ?_ ?_ (s := K) ⟨fun _ _ => rfl, fun j => by rw [if_neg (by omega)]⟩
  · intro fuel k s hk ⟨s1, s2⟩ hnx
    show Tt (f_X12_house_92 (fuel + 1) (nI k) s M) _
    unfold f_X12_house_92
    rw [show (1294 : Int32) = nI 1294 from rfl, if_neg (le_n (by decide) (by omega) hk), ldI_n (by omega) (by decide), Option.bind_some, stI_n (by omega) (by decide), Option.bind_some, zI_1]
    refine hnx (up2 s 150 k (s 152 k)) ⟨fun q hq => by rw [zu_n _ _ _ hq]; exact s1 q hq, fun j => ?_⟩
    rw [zu_s, s1 152 (by decide), s2 j]
    by_cases h9 : j = k
    · rw [if_pos h9, if_pos (by omega), h9]
    · rw [if_neg h9]
      by_cases h8 : j < k
      · rw [if_pos h8, if_pos (by omega)]
      · rw [if_neg h8, if_neg (by omega)]
  · intro fuel s ⟨s1, s2⟩
    show Tt (f_X12_house_92 (fuel + 1) (nI 1294) s M) _
    unfold f_X12_house_92
    rw [if_pos (by decide)]
    exact Tt_some ⟨rfl, rfl, s1, s2⟩
