-- ===== a noise read
theorem DW_noise {c d n k r p pi lo wo : Nat} {I I1 : MI} {L : ML} {w w' : Nat → Int32} (hd : 14 ≤ d) (h : DW c d I1 L w) (e3 : w 3 = nI n) (hn : n < 12) (hk : k ≤ 3) (hr : r < 2 ^ 24) (hr2 : k = 2 → r ≤ 100) (hp : p < nw w 0) (hpi : pi ≤ 99) (hlo : lo ≤ 99) (hwo : wo ≤ 99)
    (i0 : ∀ q, q ≠ 1 → q ≠ d → q ≠ d + 33 + n → I q = I1 q) (i1 : ∀ k, k ≠ 3 → I d k = I1 d k) (i3 : I d 3 = nI (n + 1)) (f0 : I (d + 33 + n) 0 = nI k) (f1 : I (d + 33 + n) 1 = nI r) (f2 : I (d + 33 + n) 2 = nI p) (f3 : I (d + 33 + n) 3 = nI pi) (f4 : I (d + 33 + n) 4 = nI lo) (f5 : I (d + 33 + n) 5 = nI wo) (f6 : ∀ j, 6 ≤ j → I (d + 33 + n) j = I1 (d + 33 + n) j)
    (s : ∀ k, k ≠ 3 → (k < 85 + 10 * n ∨ 94 + 10 * n < k) → w' k = w k) (s3 : w' 3 = nI (n + 1)) (v0 : w' (85 + 10 * n + 0) = nI k) (v1 : w' (85 + 10 * n + 1) = nI p) (v2 : w' (85 + 10 * n + 2) = nI pi) (v3 : w' (85 + 10 * n + 3) = nI lo) (v4 : w' (85 + 10 * n + 4) = nI wo) (v5 : w' (85 + 10 * n + 5) = 0) (v6 : w' (85 + 10 * n + 6) = nI r) (v7 : w' (85 + 10 * n + 7) = -1) (v8 : w' (85 + 10 * n + 8) = 0) (v9 : w' (85 + 10 * n + 9) = 0) : DW c d I L w' := by
  have hr0 := h.1.1.1.2
  have nwv : ∀ {q x : Nat}, w' q = nI x → x < 2 ^ 31 → nw w' q = x := fun e hx => by unfold nw; rw [e, zI_cl hx]
  have okv : ∀ {q x b : Nat}, w' q = nI x → x < 2 ^ 31 → x ≤ b → okN w' q b := fun e hx hb => ⟨by rw [nwv e hx]; exact e, by rw [nwv e hx]; exact hb⟩
  have w3 : nw w 3 = n := by unfold nw; rw [e3, zI_cl (by omega)]
  have w3' := nwv s3 (by omega)
  have w0 := nwe (s 0 (by omega) (by omega))
  have ht := tm_cg (s 6 (by omega) (by omega)) (s 7 (by omega) (by omega))
  obtain ⟨⟨h1, h2, h3, h4, h5, h6⟩, k2, k3, k4, k5, k6, k7⟩ := h
  refine ⟨⟨WFd_cg (s 0 (by omega) (by omega)) (s 1 (by omega) (by omega)) (fun k _ _ => s k (by omega) (by omega)) h1, WFh_cg (s 0 (by omega) (by omega)) (s 2 (by omega) (by omega)) (fun k _ _ => s k (by omega) (by omega)) h2, ⟨okv s3 (by omega) (by omega), fun m hm => ?_⟩, WFt_cg (fun k _ _ => s k (by omega) (by omega)) (s 14 (by omega) (by omega)) (s 2 (by omega) (by omega)) (fun k _ => s _ (by omega) (by omega)) h4, WFp_cg (s 0 (by omega) (by omega)) (s 2 (by omega) (by omega)) ht (fun k _ _ => s k (by omega) (by omega)) h5, WFl_cg (s 5 (by omega) (by omega)) (fun k _ _ => s k (by omega) (by omega)) h6⟩, CRd_cg (i1 0 (by decide)) (i1 1 (by decide)) (i0 _ (by omega) (by omega) (by omega)) (fun k _ => i0 _ (by omega) (by omega) (by omega)) (s 0 (by omega) (by omega)) (s 1 (by omega) (by omega)) (fun k _ _ => s k (by omega) (by omega)) k2, CRh_cg (i1 2 (by decide)) (fun k _ => i0 _ (by omega) (by omega) (by omega)) (s 2 (by omega) (by omega)) (fun k _ _ => s k (by omega) (by omega)) k3, ⟨i3.trans s3.symm, fun m hm => ?_⟩, CRt_cg (fun k _ _ => i1 k (by omega)) ht (s 4 (by omega) (by omega)) (fun k _ _ => s k (by omega) (by omega)) k5, CRp_cg rfl ht (fun k _ _ => s k (by omega) (by omega)) k6, CRl_cg (by rw [i0 (d + 5) (by omega) (by omega) (by omega)]) (i0 _ (by omega) (by omega) (by omega)) (i0 _ (by omega) (by omega) (by omega)) (i0 _ (by omega) (by omega) (by omega)) (i0 _ (by omega) (by omega) (by omega)) h6 (s 5 (by omega) (by omega)) (fun k _ _ => s k (by omega) (by omega)) k7⟩
  · by_cases h9 : m = n
    · subst h9
      refine ⟨okv v0 (by omega) hk, ⟨okv v1 (by omega) (by omega), by rw [nwv v1 (by omega), w0]; exact hp⟩, okv v2 (by omega) hpi, okv v3 (by omega) hlo, okv v4 (by omega) hwo, okv (x := 0) v5 (by decide) (by decide), ⟨okv v6 (by omega) (by omega), by rw [nwv v0 (by omega), nwv v6 (by omega)]; exact hr2⟩, Or.inl v7, Or.inl v9⟩
    · exact WFn1_cg (s 0 (by omega) (by omega)) ht (fun k _ => s _ (by omega) (by omega)) (h3.2 m (by omega))
  · rw [w3']
    by_cases h9 : m = n
    · subst h9
      obtain ⟨m6, m7, m8, m9⟩ := (k4.2 m hm).2 (by omega)
      refine ⟨fun _ => ?_, fun h9 => by omega⟩
      unfold CRn1
      rw [v0, v1, v2, v3, v4, v5, v6, v7, v8, v9, f0, f1, f2, f3, f4, f5, f6 6 (by decide), f6 7 (by decide), f6 8 (by decide), f6 9 (by decide), m6, m7, m8, m9]
      exact ⟨rfl, rfl, rfl, rfl, rfl, rfl, rfl, rfl, rfl, rfl⟩
    · have e := i0 (d + 33 + m) (by omega) (by omega) (by omega)
      refine ⟨fun hm9 => CRn1_cg e (fun j _ => s _ (by omega) (by omega)) ((k4.2 m hm).1 (by omega)), fun hm9 => ?_⟩
      rw [e]; exact (k4.2 m hm).2 (by omega)
theorem b184 {x1 x2 x3 x4 x5 x6 : Int32} {J : MI} {M : ML} : f_X12_readNoise_184 x1 x2 x3 x4 x5 x6 (-1) J M = some (false, J, M) := by
  unfold f_X12_readNoise_184; rw [if_neg (by decide)]
theorem b164 {x1 x2 x3 x4 x5 : Int32} {J : MI} {M : ML} : f_X12_readNoise_164 x1 x2 x3 x4 x5 (-1) J M = some (false, J, M) := by
  unfold f_X12_readNoise_164; rw [if_neg (by decide)]; exact b184
theorem b144 {x1 x2 x3 x4 : Int32} {J : MI} {M : ML} : f_X12_readNoise_144 x1 x2 x3 x4 (-1) J M = some (false, J, M) := by
  unfold f_X12_readNoise_144; rw [if_neg (by decide)]; exact b164
theorem b104 {x1 x2 : Int32} {J : MI} {M : ML} : f_X12_readNoise_104 x1 x2 (-1) J M = some (false, J, M) := by
  unfold f_X12_readNoise_104; rw [if_pos (by decide)]; rfl
theorem jRest {c d n3 k r b b1 : Nat} {tp : Nat → Int32} {T : Nat} {I0 J0 I1 J1 I J : MI} {L M : ML} (hT : T ≤ 400) (hd : 14 ≤ d) (ls : LSt c d tp T L b1 I0 J0 I1 J1) (e3 : J1 150 3 = nI n3) (hn : n3 < 12) (hk : k ≤ 3) (hr : r < 2 ^ 24) (hr2 : k = 2 → r ≤ 100) (hs : HS tp T n3 d b (setw (setw (I1 (d + 33 + n3)) 0 (nI k)) 1 (nI r)) I1 J1 I J) :
    JX L M false (FCd d I0) (FRd J0) (SLn c d tp T L I0 J0) (Option.bind (f_X8_needWord 4 I L) fun w11 => xc w11 fun _ => Option.bind (f_X4_readRoom d w11.2.1 w11.2.2) fun w14 => xc w14 fun v16 => Option.bind (pfI w14.2.1 (d + 33 + n3) 2 v16) fun I17 => Option.bind (f_X8_needWord 11 I17 w14.2.2) fun w18 => xc w18 fun _ => Option.bind (f_X8_needNumber 0 99 w18.2.1 w18.2.2) fun w21 => xc w21 fun v23 => Option.bind (pfI w21.2.1 (d + 33 + n3) 3 v23) fun I24 => Option.bind (f_X8_needWord 12 I24 w21.2.2) fun w25 => xc w25 fun _ => Option.bind (f_X8_needNumber 1 99 w25.2.1 w25.2.2) fun w28 => xc w28 fun v30 => Option.bind (pfI w28.2.1 (d + 33 + n3) 4 v30) fun I31 => Option.bind (f_X8_needWord 13 I31 w28.2.2) fun w32 => xc w32 fun _ => Option.bind (f_X8_needNumber 0 99 w32.2.1 w32.2.2) fun w35 => xc w35 fun v37 => Option.bind (pfI w35.2.1 (d + 33 + n3) 5 v37) fun I38 => some (.inr (), I38, w35.2.2)) (f_X12_readNoise_104 (nI n3) (nI k) (nI r) J M) := by
  have hw := ls.2.2.2.2.2.1.1
  have hr0 := hw.1.1.2
  have fc := ls.2.2.2.1
  have fr := ls.2.2.2.2.1
  unfold f_X12_readNoise_104
  rw [if_neg (ng_n (by omega))]
  refine JX_bind (xWord hT (by decide) (by decide) rfl hs.1 hs.2.1) (fun I' o => FCd_x (HS_F hn hs fc) o) (fun J' o => ⟨J', by dsimp only; rw [if_neg (by decide)]; rfl, rfl, FRd_o (HS_R hs fr) o⟩) ?_
  intro _ v' I2 J2 ⟨e, c2, r2, o1, o2, _⟩
  subst e
  have hs2 := HS_t hd hs c2 r2 o1 o2
  have e150 := hs2.2.2.2.2.2.2.2.2.1 150 (by decide)
  dsimp only
  rw [if_pos rfl]
  refine JX_bind (xRoomH hT c2 r2 (by rw [e150]; exact hw.1) (by rw [hs2.2.2.2.2.2.1 0 (by decide), e150]; exact ls.2.2.2.2.2.1.2.1.1)) (fun I' o => FCd_x (HS_F hn hs2 fc) o) (fun J' o => ⟨J', by dsimp only; rw [if_neg (by decide)]; exact b144, rfl, FRd_o (HS_R hs2 fr) o⟩) ?_
  intro v v2 I3 J3 ⟨p, hp, e1, e2, c3, r3, p1, p2⟩
  subst e1; subst e2
  rw [e150] at hp
  have hs3 := HS_w (j := 2) (x := nI p) hd (HS_t hd hs2 c3 r3 p1 p2)
  dsimp only
  rw [if_pos (nn_n (by omega)), pfe, Option.bind_some]
  refine jAfter (i := 11) (j := 50) hT (by decide) (by decide) rfl (by decide) hs3.1 hs3.2.1 (fun I' o => FCd_x (HS_F hn hs3 fc) o) (fun J' o => ⟨J', b144, rfl, FRd_o (HS_R hs3 fr) o⟩) ?_
  intro pi I4 J4 m1 m2 m3 c4 r4 p3 p4
  have hpi := SN_hi (H := 99) m3 m1 (by decide)
  have hs4 := HS_w (j := 3) (x := nI pi) hd (HS_t hd hs3 c4 r4 p3 p4)
  unfold f_X12_readNoise_144
  dsimp only
  rw [if_pos (nn_n (by omega)), pfe, Option.bind_some]
  refine jAfter (i := 12) (j := 51) hT (by decide) (by decide) rfl (by decide) hs4.1 hs4.2.1 (fun I' o => FCd_x (HS_F hn hs4 fc) o) (fun J' o => ⟨J', b164, rfl, FRd_o (HS_R hs4 fr) o⟩) ?_
  intro lo I5 J5 m4 m5 m6 c5 r5 p5 p6
  have hlo := SN_hi (H := 99) m6 m4 (by decide)
  have hs5 := HS_w (j := 4) (x := nI lo) hd (HS_t hd hs4 c5 r5 p5 p6)
  unfold f_X12_readNoise_164
  dsimp only
  rw [if_pos (nn_n (by omega)), pfe, Option.bind_some]
  refine jAfter (i := 13) (j := 52) hT (by decide) (by decide) rfl (by decide) hs5.1 hs5.2.1 (fun I' o => FCd_x (HS_F hn hs5 fc) o) (fun J' o => ⟨J', b184, rfl, FRd_o (HS_R hs5 fr) o⟩) ?_
  intro wo I6 J6 m7 m8 m9 c6 r6 p7 p8
  have hwo := SN_hi (H := 99) m9 m7 (by decide)
  have hs6 := HS_w (j := 5) (x := nI wo) hd (HS_t hd hs5 c6 r6 p7 p8)
  have e156 := hs6.2.2.2.2.2.2.2.2.1 150 (by decide)
  unfold f_X12_readNoise_184
  dsimp only
  rw [if_pos (nn_n (by omega)), pfe, Option.bind_some]
  obtain ⟨⟨y, J7, M7⟩, t1, t2, t3, t4, t5, t6, v0, v1, v2, v3, v4, v5, v6, v7, v8, v9⟩ := r_196 (J := J6) (M := M) (n := n3) (x2 := nI k) (x3 := nI r) (x4 := nI p) (x5 := nI pi) (x6 := nI lo) (x7 := nI wo) hn (by rw [e156]; exact e3)
  have t2 : y = true := t2
  have t3 : M7 = M := t3
  subst t2; subst t3
  rw [t1]
  have hF := hs6.2.2.2.2.2.2.2.1
  have fR := HS_R hs6 fr
  have fC := HS_F hn hs6 fc
  dsimp only at t4 t5 t6 v0 v1 v2 v3 v4 v5 v6 v7 v8 v9
  refine JX_ok ⟨rfl, _, hs6.1, RT_w hs6.2.1 (t4 149 (by decide)) (t4 154 (by decide)), hs6.2.2.2.2.1.trans ls.2.2.1, fC, ⟨fun q h1 h2 => (t4 q h2).trans (fR.1 q h1 h2), fun q h1 h2 => by rw [t4 149 (by decide)]; exact fR.2.1 q h1 h2, fun q hq => (t5 q (by omega) (by omega)).trans (fR.2.2 q hq)⟩, ?_, by rw [t5 4 (by decide) (by omega), e156]; exact ls.2.2.2.2.2.2⟩
  rw [e156] at t5
  refine DW_noise hd ls.2.2.2.2.2.1 e3 hn hk hr hr2 hp hpi hlo hwo hs6.2.2.1 hs6.2.2.2.2.2.1 hs6.2.2.2.2.2.2.1 ((hF 0).trans rfl) ((hF 1).trans rfl) ((hF 2).trans rfl) ((hF 3).trans rfl) ((hF 4).trans rfl) ((hF 5).trans rfl) (fun j hj => ?_) t5 t6 v0 v1 v2 v3 v4 v5 v6 v7 v8 v9
  rw [hF j, sw_n _ _ (by omega), sw_n _ _ (by omega), sw_n _ _ (by omega), sw_n _ _ (by omega), sw_n _ _ (by omega), sw_n _ _ (by omega)]
theorem c_addNoise {d n3 : Nat} {I : MI} {L : ML} (h : I d 3 = nI n3) (hn : n3 < 12) : f_X3_addNoise d I L = some (d + 33 + n3, up2 I d 3 (nI (n3 + 1)), L) := by
  unfold f_X3_addNoise
  rw [h, if_neg (by rw [show (11 : Int32) = nI 11 from rfl, zI_lt (by decide) (by omega)]; omega), zI_1, pfe, Option.bind_some, ldR_n hn (by decide), Option.bind_some]
/-- the noise's rest, its kind being known -/
theorem jKind {c d n3 k b : Nat} {tp : Nat → Int32} {T : Nat} {I0 J0 I J : MI} {L M : ML} (hT : T ≤ 400) (hd : 14 ≤ d) (ls : LSt c d tp T L b I0 J0 I J) (e3 : J 150 3 = nI n3) (hn : n3 < 12) (hk : k ≤ 3) :
    JX L M false (FCd d I0) (FRd J0) (SLn c d tp T L I0 J0) (Option.bind (f_X3_addNoise d I L) fun w5 => Option.bind (pfI w5.2.1 w5.1 0 (nI k)) fun I6 => Option.bind (f_X4_readRate (nI k) I6 w5.2.2) fun w7 => xc w7 fun v9 => Option.bind (pfI w7.2.1 w5.1 1 v9) fun I10 => Option.bind (f_X8_needWord 4 I10 w7.2.2) fun w11 => xc w11 fun _ => Option.bind (f_X4_readRoom d w11.2.1 w11.2.2) fun w14 => xc w14 fun v16 => Option.bind (pfI w14.2.1 w5.1 2 v16) fun I17 => Option.bind (f_X8_needWord 11 I17 w14.2.2) fun w18 => xc w18 fun _ => Option.bind (f_X8_needNumber 0 99 w18.2.1 w18.2.2) fun w21 => xc w21 fun v23 => Option.bind (pfI w21.2.1 w5.1 3 v23) fun I24 => Option.bind (f_X8_needWord 12 I24 w21.2.2) fun w25 => xc w25 fun _ => Option.bind (f_X8_needNumber 1 99 w25.2.1 w25.2.2) fun w28 => xc w28 fun v30 => Option.bind (pfI w28.2.1 w5.1 4 v30) fun I31 => Option.bind (f_X8_needWord 13 I31 w28.2.2) fun w32 => xc w32 fun _ => Option.bind (f_X8_needNumber 0 99 w32.2.1 w32.2.2) fun w35 => xc w35 fun v37 => Option.bind (pfI w35.2.1 w5.1 5 v37) fun I38 => some (.inr (), I38, w35.2.2)) (f_X12_readNoise_70 (nI n3) (nI k) J M) := by
  have fc := ls.2.2.2.1
  have fr := ls.2.2.2.2.1
  have i3 : I d 3 = nI n3 := ls.2.2.2.2.2.1.2.2.2.1.1.trans e3
  rw [c_addNoise i3 hn, Option.bind_some]
  dsimp only
  rw [pfe, Option.bind_some]
  have hs : HS tp T n3 d b (setw (I (d + 33 + n3)) 0 (nI k)) I J (up2 (up2 I d 3 (nI (n3 + 1))) (d + 33 + n3) 0 (nI k)) J := by
    refine HS_w hd ⟨CT_w ls.1 (zu_n _ _ _ (by omega)) (zu_n _ _ _ (by omega)), ls.2.1, fun q x1 x2 x3 => zu_n _ _ _ x2, by rw [zu_n _ _ _ (by omega)], by rw [zu_n _ _ _ (by omega)], fun k hk => by rw [zu_s, if_neg hk], by rw [zu_s, if_pos rfl], fun j => by rw [zu_n _ _ _ (by omega)], o149_rf J⟩
  generalize up2 (up2 I d 3 (nI (n3 + 1))) (d + 33 + n3) 0 (nI k) = I6 at hs ⊢
  unfold f_X12_readNoise_70
  rw [if_pos (nn_n (by omega))]
  have hk4 : k = 0 ∨ k = 2 ∨ k = 1 ∨ k = 3 := by omega
  rcases hk4 with rfl | rfl | hk4
  · rw [if_pos (by decide)]
    refine JX_bind (xHours hT hs.1 hs.2.1) (fun I' o => FCd_x (HS_F hn hs fc) o) (fun J' o => ⟨J', b104, rfl, FRd_o (HS_R hs fr) o⟩) ?_
    intro v v2 I7 J7 ⟨r, b', hr, e1, e2, c7, r7, p1, p2⟩
    subst e1; subst e2
    dsimp only
    rw [pfe, Option.bind_some]
    exact jRest hT hd ls e3 hn hk hr (fun h => absurd h (by decide)) (HS_w hd (HS_t hd hs c7 r7 p1 p2))
  · rw [if_neg (by decide), if_pos (by decide)]
    refine JX_bind (x100 hT hs.1 hs.2.1) (fun I' o => FCd_x (HS_F hn hs fc) o) (fun J' o => ⟨J', b104, rfl, FRd_o (HS_R hs fr) o⟩) ?_
    intro v v2 I7 J7 ⟨r, m1, m2, m3, e1, e2, c7, r7, p1, p2, _⟩
    subst e1; subst e2
    have h100 := SN_hi (H := 100) m3 m1 (by decide)
    dsimp only
    rw [pfe, Option.bind_some]
    exact jRest hT hd ls e3 hn hk (by omega) (fun _ => h100) (HS_w hd (HS_t hd hs c7 r7 p1 p2))
  · have g2 : ¬ nI k = 2 := by rw [show (2 : Int32) = nI 2 from rfl, zI_eq (by omega) (by decide)]; omega
    have g0 : ¬ nI k = 0 := by rw [show (0 : Int32) = nI 0 from rfl, zI_eq (by omega) (by decide)]; omega
    rw [if_neg g0, if_neg g2]
    unfold f_X4_readRate f_X4_readRate_63
    rw [if_neg g2, if_neg g0, Option.bind_some, xc_r]
    dsimp only
    rw [pfe, Option.bind_some]
    exact jRest (r := 0) hT hd ls e3 hn hk (by decide) (fun h => by omega) (HS_w hd hs)
