-- ===== heirs, storms, carpets
theorem rr_heirs {J : MI} {M : ML} : f_X12_heirs J M = some (J 150 2) := by unfold f_X12_heirs; rw [ld_2, Option.bind_some]
theorem rr_sh {J : MI} {M : ML} {n j : Nat} {v : Int32} (hn : n < 6) (hj : j < 3) : f_X12_setsHeir (nI n) (nI j) v J M = some (up2 J 150 (67 + 3 * n + j) v, M) := by
  unfold f_X12_setsHeir
  rw [z67, stI_n (by omega) (by decide), Option.bind_some]
theorem rr_sh0 {J : MI} {M : ML} {n : Nat} {v : Int32} (hn : n < 6) : f_X12_setsHeir (nI n) 0 v J M = some (up2 J 150 (67 + 3 * n + 0) v, M) := rr_sh (j := 0) hn (by decide)
theorem rr_sh1 {J : MI} {M : ML} {n : Nat} {v : Int32} (hn : n < 6) : f_X12_setsHeir (nI n) 1 v J M = some (up2 J 150 (67 + 3 * n + 1) v, M) := rr_sh (j := 1) hn (by decide)
theorem rr_sh2 {J : MI} {M : ML} {n : Nat} {v : Int32} (hn : n < 6) : f_X12_setsHeir (nI n) 2 v J M = some (up2 J 150 (67 + 3 * n + 2) v, M) := rr_sh (j := 2) hn (by decide)
theorem c_addHeir {d n2 : Nat} {a e : Int32} {I : MI} {L : ML} (h : I d 2 = nI n2) (hn : n2 < 6) : f_X3_addHeir d a e I L = some (up2 (up2 (up2 I (d + 27 + n2) 0 a) (d + 27 + n2) 1 e) d 2 (nI (n2 + 1)), L) := by
  unfold f_X3_addHeir f_X3_addHeir_45
  rw [h, show (6 : Int32) = nI 6 from rfl, if_neg (le_n (by decide) (by omega) hn), ldR_n hn (by decide), Option.bind_some, pfe, Option.bind_some, zu_n _ _ _ (show d ≠ d + 27 + n2 by omega), h, ldR_n hn (by decide), Option.bind_some, pfe, Option.bind_some, zu_n _ _ _ (show d ≠ d + 27 + n2 by omega), zu_n _ _ _ (show d ≠ d + 27 + n2 by omega), h, zI_1, pfe, Option.bind_some]
theorem DW_heir {c d n a e : Nat} {I : MI} {L : ML} {w : Nat → Int32} (h : DW c d I L w) (e2 : w 2 = nI n) (hn : n < 6) (ha : a < nw w 0) (he1 : 1 ≤ e) (he : e ≤ 50) : DW c d (up2 (up2 (up2 I (d + 27 + n) 0 (nI a)) (d + 27 + n) 1 (nI e)) d 2 (nI (n + 1))) L (setw (setw (setw (setw w (67 + 3 * n + 0) (nI a)) (67 + 3 * n + 1) (nI e)) (67 + 3 * n + 2) 0) 2 (nI (n + 1))) := by
  have hr := h.1.1.1.2
  have s : ∀ k, k ≠ 2 → (k < 67 + 3 * n ∨ 69 + 3 * n < k) → setw (setw (setw (setw w (67 + 3 * n + 0) (nI a)) (67 + 3 * n + 1) (nI e)) (67 + 3 * n + 2) 0) 2 (nI (n + 1)) k = w k := fun k h1 h2 => by rw [sw_n _ _ h1, sw_n _ _ (by omega), sw_n _ _ (by omega), sw_n _ _ (by omega)]
  have s2 : setw (setw (setw (setw w (67 + 3 * n + 0) (nI a)) (67 + 3 * n + 1) (nI e)) (67 + 3 * n + 2) 0) 2 (nI (n + 1)) 2 = nI (n + 1) := sw_s _ _ _
  have sa : setw (setw (setw (setw w (67 + 3 * n + 0) (nI a)) (67 + 3 * n + 1) (nI e)) (67 + 3 * n + 2) 0) 2 (nI (n + 1)) (67 + 3 * n + 0) = nI a := by rw [sw_n _ _ (by omega), sw_n _ _ (by omega), sw_n _ _ (by omega), sw_s]
  have se : setw (setw (setw (setw w (67 + 3 * n + 0) (nI a)) (67 + 3 * n + 1) (nI e)) (67 + 3 * n + 2) 0) 2 (nI (n + 1)) (67 + 3 * n + 1) = nI e := by rw [sw_n _ _ (by omega), sw_n _ _ (by omega), sw_s]
  have sx : setw (setw (setw (setw w (67 + 3 * n + 0) (nI a)) (67 + 3 * n + 1) (nI e)) (67 + 3 * n + 2) 0) 2 (nI (n + 1)) (67 + 3 * n + 2) = 0 := by rw [sw_n _ _ (by omega), sw_s]
  have w2 : nw w 2 = n := by unfold nw; rw [e2, zI_cl (by omega)]
  generalize setw (setw (setw (setw w (67 + 3 * n + 0) (nI a)) (67 + 3 * n + 1) (nI e)) (67 + 3 * n + 2) 0) 2 (nI (n + 1)) = w' at s s2 sa se sx ⊢
  have w2' : nw w' 2 = n + 1 := by unfold nw; rw [s2, zI_cl (by omega)]
  have wa : nw w' (67 + 3 * n + 0) = a := by unfold nw; rw [sa, zI_cl (by omega)]
  have we : nw w' (67 + 3 * n + 1) = e := by unfold nw; rw [se, zI_cl (by omega)]
  have w0 := nwe (s 0 (by omega) (by omega))
  have ht := tm_cg (s 6 (by omega) (by omega)) (s 7 (by omega) (by omega))
  obtain ⟨⟨h1, h2, h3, ⟨t4, t5, t6, t7, tt, t8, t9, t14, tc⟩, h5, h6⟩, k2, k3, k4, k5, k6, k7⟩ := h
  have i0 : ∀ k, k ≠ 2 → up2 (up2 (up2 I (d + 27 + n) 0 (nI a)) (d + 27 + n) 1 (nI e)) d 2 (nI (n + 1)) d k = I d k := fun k hk => by rw [zu_s, if_neg hk, zu_n _ _ _ (by omega), zu_n _ _ _ (by omega)]
  have i1 : ∀ q, q ≠ d → q ≠ d + 27 + n → up2 (up2 (up2 I (d + 27 + n) 0 (nI a)) (d + 27 + n) 1 (nI e)) d 2 (nI (n + 1)) q = I q := fun q x1 x2 => by rw [zu_n _ _ _ x1, zu_n _ _ _ x2, zu_n _ _ _ x2]
  refine ⟨⟨WFd_cg (s 0 (by omega) (by omega)) (s 1 (by omega) (by omega)) (fun k _ _ => s k (by omega) (by omega)) h1, ⟨⟨by rw [w2', s2], by omega⟩, fun g hg => ?_⟩, WFn_cg (s 0 (by omega) (by omega)) (s 3 (by omega) (by omega)) ht (fun k _ _ => s k (by omega) (by omega)) h3, ⟨okN_cg (s 4 (by omega) (by omega)) t4, by rw [s 5 (by omega) (by omega)]; exact t5, by rw [s 6 (by omega) (by omega), nwe (s 6 (by omega) (by omega))]; exact t6, okN_cg (s 7 (by omega) (by omega)) t7, by rw [ht]; exact tt, okN_cg (s 8 (by omega) (by omega)) t8, by rw [s 9 (by omega) (by omega)]; exact t9, by rw [s 14 (by omega) (by omega), ht]; exact t14, fun g x1 x2 => by rw [s (67 + 3 * g + 2) (by omega) (by omega)]; exact tc g (by omega) x2⟩, fun ago ha9 g hg => ?_, WFl_cg (s 5 (by omega) (by omega)) (fun k _ _ => s k (by omega) (by omega)) h6⟩, CRd_cg (i0 0 (by decide)) (i0 1 (by decide)) (i1 _ (by omega) (by omega)) (fun k _ => i1 _ (by omega) (by omega)) (s 0 (by omega) (by omega)) (s 1 (by omega) (by omega)) (fun k _ _ => s k (by omega) (by omega)) k2, ⟨by rw [zu_s, if_pos rfl, s2], fun k hk => ?_⟩, CRn_cg (i0 3 (by decide)) (fun k _ => i1 _ (by omega) (by omega)) (s 3 (by omega) (by omega)) (fun k _ _ => s k (by omega) (by omega)) k4, CRt_cg (fun k _ _ => i0 k (by omega)) ht (s 4 (by omega) (by omega)) (fun k _ _ => s k (by omega) (by omega)) k5, CRp_cg rfl ht (fun k _ _ => s k (by omega) (by omega)) k6, CRl_cg (by rw [i1 (d + 5) (by omega) (by omega)]) (i1 _ (by omega) (by omega)) (i1 _ (by omega) (by omega)) (i1 _ (by omega) (by omega)) (i1 _ (by omega) (by omega)) h6 (s 5 (by omega) (by omega)) (fun k _ _ => s k (by omega) (by omega)) k7⟩
  · by_cases h9 : g = n
    · rw [h9]
      exact ⟨⟨⟨by rw [wa, sa], by omega⟩, by rw [wa, w0]; exact ha⟩, ⟨by rw [we, se], by omega⟩, by omega⟩
    · obtain ⟨⟨p1, p2⟩, p3, p4⟩ := h2.2 g (by omega)
      have x0 := s (67 + 3 * g + 0) (by omega) (by omega)
      have x1 := s (67 + 3 * g + 1) (by omega) (by omega)
      exact ⟨⟨okN_cg x0 p1, by rw [nwe x0, w0]; exact p2⟩, okN_cg x1 p3, by rw [nwe x1]; exact p4⟩
  · rw [ht] at ha9
    have x0 := s (205 + 6 * ago + g) (by omega) (by omega)
    rcases h5 ago ha9 g hg with x | ⟨x, y, z⟩
    · exact Or.inl (x0.trans x)
    · exact Or.inr ⟨okN_cg x0 x, by rw [nwe x0, w0]; exact y, by omega⟩
  · rw [zu_n _ _ _ (by omega)]
    by_cases h9 : k = n
    · rw [h9, sa, se, sx, zu_s, if_neg (by decide), zu_s, if_pos rfl, zu_s, if_pos rfl, zu_s, if_neg (by decide), zu_s, if_neg (by decide), (k3.2 n hn).2.2, tc n (by omega) hn]
      exact ⟨rfl, rfl, rfl⟩
    · rw [zu_n _ _ _ (by omega), zu_n _ _ _ (by omega), s (67 + 3 * k + 0) (by omega) (by omega), s (67 + 3 * k + 1) (by omega) (by omega), s (67 + 3 * k + 2) (by omega) (by omega)]
      exact k3.2 k hk
theorem jHeir {c d : Nat} {tp : Nat → Int32} {T b : Nat} {I0 J0 I J : MI} {L M : ML} (hT : T ≤ 400) (hd : 14 ≤ d) (ls : LSt c d tp T L b I0 J0 I J) (hn : nw (J 150) 2 < 6) : JX L M false (FCd d I0) (FRd J0) (SLn c d tp T L I0 J0) (f_X4_readHeir d I L) (f_X12_readHeir J M) := by
  have h2 := ls.2.2.2.2.2.1.1.2.1.1
  have hr := ls.2.2.2.2.2.1.1.1.1.2
  unfold f_X4_readHeir f_X12_readHeir
  rw [rr_heirs, Option.bind_some, h2.1, if_neg (by rw [show (6 : Int32) = nI 6 from rfl, zI_eq (by omega) (by decide)]; omega)]
  refine JX_bind (xWord hT (by decide) (by decide) rfl ls.1 ls.2.1) (fun I' o => FCd_x ls.2.2.2.1 o) (fun J' o => ⟨J', by dsimp only; rw [if_neg (by decide)]; rfl, rfl, FRd_o ls.2.2.2.2.1 o⟩) ?_
  intro _ v1 I1 J1 ⟨e, c1, r1, o1, o2, _⟩
  subst e
  have ls1 := LSt_t hd ls c1 r1 o1 o2
  have e150 := o2.1 150 (by decide)
  dsimp only
  rw [if_pos rfl]
  refine JX_bind (xRoom hT ls1) (fun I' o => FCd_x ls1.2.2.2.1 o) (fun J' o => ⟨J', by dsimp only; rw [if_neg (by decide)]; unfold f_X12_readHeir_44; rw [if_neg (by decide)], rfl, FRd_o ls1.2.2.2.2.1 o⟩) ?_
  intro v v2 I2 J2 ⟨a, ha, e1, e2, c2, r2, p1, p2, _, _⟩
  subst e1; subst e2
  rw [e150] at ha
  have ls2 := LSt_t hd ls1 c2 r2 p1 p2
  have e151 := (p2.1 150 (by decide)).trans e150
  dsimp only
  rw [if_pos (nn_n (by omega))]
  refine jAfter (i := 5) (j := 44) hT (by decide) (by decide) rfl (by decide) c2 r2 (fun I' o => FCd_x ls2.2.2.2.1 o) (fun J' o => ⟨J', by dsimp only; unfold f_X12_readHeir_44; rw [if_neg (by decide)], rfl, FRd_o ls2.2.2.2.2.1 o⟩) ?_
  intro n I3 J3 n1 n2 n3 c3 r3 p3 p4
  have ls3 := LSt_t hd ls2 c3 r3 p3 p4
  have e152 := (p4.1 150 (by decide)).trans e151
  have w2 : J3 150 2 = nI (nw (J 150) 2) := by rw [e152]; exact h2.1
  have i2 : I3 d 2 = nI (nw (J 150) 2) := ls3.2.2.2.2.2.1.2.2.1.1.trans w2
  have h50 := SN_hi (H := 50) n3 n1 (by decide)
  have h1 := SN_lo (H := 1) n2 n1 (by decide)
  unfold f_X12_readHeir_44
  dsimp only
  rw [c_addHeir i2 hn, Option.bind_some, if_pos (nn_n (by omega)), rr_sh0 hn, Option.bind_some, rr_sh1 hn, Option.bind_some, rr_sh2 hn, Option.bind_some]
  dsimp only
  rw [ld_2, Option.bind_some, zu_s, if_neg (by omega), zu_s, if_neg (by omega), zu_s, if_neg (by omega), w2, zI_1, st_2, Option.bind_some]
  refine JX_ok ⟨rfl, _, LSt_w hd ls3 (fun q hq => by rw [zu_n _ _ _ (by omega), zu_n _ _ _ (by omega), zu_n _ _ _ (by omega)]) (fun q hq => by rw [zu_n _ _ _ hq, zu_n _ _ _ hq, zu_n _ _ _ hq, zu_n _ _ _ hq]) (fun k hk => by rw [zu_s, if_neg (by omega), zu_s, if_neg (by omega), zu_s, if_neg (by omega), zu_s, if_neg (by omega)]) (by rw [zu_s, if_neg (by decide), zu_s, if_neg (by omega), zu_s, if_neg (by omega), zu_s, if_neg (by omega)]) ?_⟩
  rw [up_150 (up_150 (up_150 (up_150 rfl)))]
  exact DW_heir ls3.2.2.2.2.2.1 w2 hn (by rw [e152]; exact ha) h1 h50
theorem DW_storm {c d n : Nat} {I : MI} {L : ML} {w : Nat → Int32} (h : DW c d I L w) (hn : n ≤ 100) : DW c d (up2 I d 13 (nI n)) L (setw w 8 (nI n)) := by
  have s : ∀ k, k ≠ 8 → setw w 8 (nI n) k = w k := fun k hk => sw_n w _ hk
  have u : ∀ k, k ≠ 13 → up2 I d 13 (nI n) d k = I d k := fun k hk => by rw [zu_s, if_neg hk]
  have v : ∀ q, q ≠ d → up2 I d 13 (nI n) q = I q := fun q hq => zu_n _ _ _ hq
  have ht := tm_cg (s 6 (by decide)) (s 7 (by decide))
  obtain ⟨⟨h1, h2, h3, ⟨t4, t5, t6, t7, tt, t8, t9, t14, tc⟩, h5, h6⟩, k2, k3, k4, k5, k6, k7⟩ := h
  refine ⟨⟨WFd_cg (s 0 (by omega)) (s 1 (by omega)) (fun k _ _ => s k (by omega)) h1, WFh_cg (s 0 (by omega)) (s 2 (by omega)) (fun k _ _ => s k (by omega)) h2, WFn_cg (s 0 (by omega)) (s 3 (by omega)) ht (fun k _ _ => s k (by omega)) h3, ⟨okN_cg (s 4 (by omega)) t4, by rw [s 5 (by omega)]; exact t5, by rw [s 6 (by omega), nwe (s 6 (by omega))]; exact t6, okN_cg (s 7 (by omega)) t7, by rw [ht]; exact tt, okN_s (by omega) hn, by rw [s 9 (by omega)]; exact t9, by rw [s 14 (by omega), ht]; exact t14, fun g x1 x2 => by rw [s (67 + 3 * g + 2) (by omega)]; exact tc g (by rw [← nwe (s 2 (by omega))]; exact x1) x2⟩, WFp_cg (s 0 (by omega)) (s 2 (by omega)) ht (fun k _ _ => s k (by omega)) h5, WFl_cg (s 5 (by omega)) (fun k _ _ => s k (by omega)) h6⟩, CRd_cg (u 0 (by decide)) (u 1 (by decide)) (v _ (by omega)) (fun k _ => v _ (by omega)) (s 0 (by omega)) (s 1 (by omega)) (fun k _ _ => s k (by omega)) k2, CRh_cg (u 2 (by decide)) (fun k _ => v _ (by omega)) (s 2 (by omega)) (fun k _ _ => s k (by omega)) k3, CRn_cg (u 3 (by decide)) (fun k _ => v _ (by omega)) (s 3 (by omega)) (fun k _ _ => s k (by omega)) k4, ?_, CRp_cg rfl ht (fun k _ _ => s k (by omega)) k6, CRl_cg (by rw [v (d + 5) (by omega)]) (v _ (by omega)) (v _ (by omega)) (v _ (by omega)) (v _ (by omega)) h6 (s 5 (by omega)) (fun k _ _ => s k (by omega)) k7⟩
  unfold CRt at k5 ⊢
  rw [u 11 (by decide), u 12 (by decide), u 14 (by decide), u 15 (by decide), u 16 (by decide), u 17 (by decide), u 18 (by decide), ht, s 4 (by decide), sw_s, s 9 (by decide), s 10 (by decide), s 11 (by decide), s 12 (by decide), s 13 (by decide), zu_s, if_pos rfl]
  exact ⟨k5.1, k5.2.1, rfl, k5.2.2.2⟩
theorem jStorm {c d : Nat} {tp : Nat → Int32} {T b : Nat} {I0 J0 I J : MI} {L M : ML} (hT : T ≤ 400) (hd : 14 ≤ d) (ls : LSt c d tp T L b I0 J0 I J) : JX L M false (FCd d I0) (FRd J0) (SLn c d tp T L I0 J0) (Option.bind (f_X8_needNumber 0 100 I L) fun w19 => xc w19 fun v21 => Option.bind (pfI w19.2.1 d 13 v21) fun I22 => f_X4_readLine_179 I22 w19.2.2) (Option.bind (f_X12_number 0 100 J M) fun w16 => Option.bind (stI w16.2.1 150 2143 8 w16.1) fun I17 => if w16.1 < 0 then (f_X12_readHouseLine_90 false I17 w16.2.2) else (f_X12_readHouseLine_90 true I17 w16.2.2)) := by
  refine JX_bind (xNum hT (by decide) ls.1 ls.2.1) (fun I' o => FCd_x ls.2.2.2.1 o) (fun J' o => ⟨up2 J' 150 8 (-1), ?_, by rw [zu_n _ _ _ (by decide)], FRd_w (FRd_o ls.2.2.2.2.1 o) (by decide)⟩) ?_
  · dsimp only
    rw [st_8, Option.bind_some, if_pos (by decide)]; rfl
  · intro v v2 I2 J2 ⟨n, n1, n2, n3, e1, e2, c2, r2, p1, p2, _⟩
    subst e1; subst e2
    have ls2 := LSt_t hd ls c2 r2 p1 p2
    have h100 := SN_hi (H := 100) n3 n1 (by decide)
    unfold f_X12_readHouseLine_90
    dsimp only
    rw [st_8, Option.bind_some, if_neg (ng_n (by omega)), pfe, Option.bind_some]
    refine JX_ok ⟨rfl, _, LSt_w hd ls2 (fun q hq => by rw [zu_n _ _ _ (by omega)]) (fun q hq => by rw [zu_n _ _ _ hq]) (fun k hk => by rw [zu_s, if_neg (by omega)]) (by rw [zu_s, if_neg (by decide)]) ?_⟩
    rw [up_150 rfl]
    exact DW_storm ls2.2.2.2.2.2.1 h100
theorem DW_carp {c d r n : Nat} {I : MI} {L : ML} {w : Nat → Int32} (h : DW c d I L w) (hr : r < 10) (hn : n ≤ 20) : DW c d (up2 I (d + 1) r (nI n)) L (setw w (15 + r) (nI n)) := by
  have s : ∀ k, k ≠ 15 + r → setw w (15 + r) (nI n) k = w k := fun k hk => sw_n w _ hk
  have s1 : setw w (15 + r) (nI n) (15 + r) = nI n := sw_s _ _ _
  generalize setw w (15 + r) (nI n) = w' at s s1 ⊢
  have w1' : nw w' (15 + r) = n := by unfold nw; rw [s1, zI_cl (by omega)]
  have w0 := nwe (s 0 (by omega))
  obtain ⟨⟨a1, b1, c1, d1⟩, -⟩ := h.1
  obtain ⟨x1, x2, x3, x4⟩ := h.2.1
  refine DW_d h ⟨by rw [w0, s 0 (by omega)]; exact a1, by rw [nwe (s 1 (by omega)), s 1 (by omega)]; exact b1, fun k hk => ?_, fun j hj => ?_⟩ (by omega) (fun k hk => s k (by omega)) ⟨?_, ?_, fun k hk => ?_, fun j hj => ?_⟩ (fun k hk => ?_) (fun k h1 h2 h3 => ?_)
  · by_cases h9 : k = r
    · rw [h9, w1', s1]; exact ⟨rfl, hn⟩
    · rw [nwe (s (15 + k) (by omega)), s (15 + k) (by omega)]; exact c1 k hk
  · rw [nwe (s 1 (by omega))] at hj
    have hb := b1.2
    rw [nwe (s (25 + 3 * j) (by omega)), s (25 + 3 * j) (by omega), nwe (s (26 + 3 * j) (by omega)), s (26 + 3 * j) (by omega), nwe (s (27 + 3 * j) (by omega)), s (27 + 3 * j) (by omega), w0]
    exact d1 j hj
  · rw [zu_n _ _ _ (by omega), s 0 (by omega)]; exact x1
  · rw [zu_n _ _ _ (by omega), s 1 (by omega)]; exact x2
  · rw [zu_s]
    by_cases h9 : k = r
    · rw [if_pos h9, h9, s1]
    · rw [if_neg h9, s (15 + k) (by omega)]; exact x3 k hk
  · rw [zu_n _ _ _ (by omega), s (25 + 3 * j) (by omega), s (26 + 3 * j) (by omega), s (27 + 3 * j) (by omega)]
    exact x4 j hj
  · rw [zu_n _ _ _ (by omega)]
  · rw [zu_n _ _ _ (by omega)]
theorem jCarp {c d : Nat} {tp : Nat → Int32} {T b : Nat} {I0 J0 I J : MI} {L M : ML} (hT : T ≤ 400) (hd : 14 ≤ d) (ls : LSt c d tp T L b I0 J0 I J) : JX L M false (FCd d I0) (FRd J0) (SLn c d tp T L I0 J0) (Option.bind (f_X4_readRoom d I L) fun w12 => xc w12 fun v14 => Option.bind (f_X8_needNumber 0 20 w12.2.1 w12.2.2) fun w15 => xc w15 fun v17 => Option.bind (stI w15.2.1 (d + 1) 10 v14 v17) fun I18 => f_X4_readLine_179 I18 w15.2.2) (Option.bind (f_X12_roomTold J M) fun w13 => if 0 ≤ w13.1 then (Option.bind (f_X12_number 0 20 w13.2.1 w13.2.2) fun w15 => f_X12_readHouseLine_122 w13.1 w15.1 w15.2.1 w15.2.2) else (f_X12_readHouseLine_122 w13.1 ((-1)) w13.2.1 w13.2.2)) := by
  have hr := ls.2.2.2.2.2.1.1.1.1.2
  have bad : ∀ x (J' : MI), f_X12_readHouseLine_122 x (-1) J' M = some (false, J', M) := fun x J' => by
    unfold f_X12_readHouseLine_122 f_X12_readHouseLine_137
    rw [if_pos (by decide), if_pos (by decide)]; rfl
  refine JX_bind (xRoom hT ls) (fun I' o => FCd_x ls.2.2.2.1 o) (fun J' o => ⟨J', by dsimp only; rw [if_neg (by decide)]; exact bad _ _, rfl, FRd_o ls.2.2.2.2.1 o⟩) ?_
  intro v v2 I2 J2 ⟨a, ha, e1, e2, c2, r2, p1, p2, _, _⟩
  subst e1; subst e2
  have ls2 := LSt_t hd ls c2 r2 p1 p2
  dsimp only
  rw [if_pos (nn_n (by omega))]
  refine JX_bind (xNum hT (by decide) c2 r2) (fun I' o => FCd_x ls2.2.2.2.1 o) (fun J' o => ⟨J', bad _ _, rfl, FRd_o ls2.2.2.2.2.1 o⟩) ?_
  intro v v2 I3 J3 ⟨n, n1, n2, n3, e1, e2, c3, r3, p3, p4, _⟩
  subst e1; subst e2
  have ls3 := LSt_t hd ls2 c3 r3 p3 p4
  have h20 := SN_hi (H := 20) n3 n1 (by decide)
  unfold f_X12_readHouseLine_122 f_X12_readHouseLine_137
  dsimp only
  rw [if_neg (ng_n (by omega)), z15, stI_n (by omega) (by decide), Option.bind_some, stI_n (by omega) (by decide), Option.bind_some, if_neg (ng_n (by omega))]
  refine JX_ok ⟨rfl, _, LSt_w hd ls3 (fun q hq => by rw [zu_n _ _ _ (by omega)]) (fun q hq => by rw [zu_n _ _ _ hq]) (fun k hk => by rw [zu_s, if_neg (by omega)]) (by rw [zu_s, if_neg (by omega)]) ?_⟩
  rw [up_150 rfl]
  exact DW_carp ls3.2.2.2.2.2.1 (by omega) h20
