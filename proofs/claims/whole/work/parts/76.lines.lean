-- ===== the lines of a house, side by side
theorem rr_rooms {J : MI} {M : ML} : f_X12_rooms J M = some (J 150 0) := by
  unfold f_X12_rooms
  rw [show (0 : Int32) = nI 0 from rfl, ldI_n (by decide) (by decide), Option.bind_some]
theorem rr_ld {J : MI} {k : Nat} {x : Int32} (e : x = nI k) (hk : k < 2143) : ldI J 150 2143 x = some (J 150 k) := by rw [e, ldI_n hk (by decide)]
theorem rr_st {J : MI} {k : Nat} {x v : Int32} (e : x = nI k) (hk : k < 2143) : stI J 150 2143 x v = some (up2 J 150 k v) := by rw [e, stI_n hk (by decide)]
theorem ld_0 {J : MI} : ldI J 150 2143 0 = some (J 150 0) := ldI_n (k := 0) (by decide) (by decide)
theorem st_0 {J : MI} {v : Int32} : stI J 150 2143 0 v = some (up2 J 150 0 v) := stI_n (k := 0) (by decide) (by decide)
theorem ld_1 {J : MI} : ldI J 150 2143 1 = some (J 150 1) := ldI_n (k := 1) (by decide) (by decide)
theorem st_1 {J : MI} {v : Int32} : stI J 150 2143 1 v = some (up2 J 150 1 v) := stI_n (k := 1) (by decide) (by decide)
theorem ld_2 {J : MI} : ldI J 150 2143 2 = some (J 150 2) := ldI_n (k := 2) (by decide) (by decide)
theorem st_2 {J : MI} {v : Int32} : stI J 150 2143 2 v = some (up2 J 150 2 v) := stI_n (k := 2) (by decide) (by decide)
theorem ld_3 {J : MI} : ldI J 150 2143 3 = some (J 150 3) := ldI_n (k := 3) (by decide) (by decide)
theorem st_3 {J : MI} {v : Int32} : stI J 150 2143 3 v = some (up2 J 150 3 v) := stI_n (k := 3) (by decide) (by decide)
theorem ld_4 {J : MI} : ldI J 150 2143 4 = some (J 150 4) := ldI_n (k := 4) (by decide) (by decide)
theorem st_4 {J : MI} {v : Int32} : stI J 150 2143 4 v = some (up2 J 150 4 v) := stI_n (k := 4) (by decide) (by decide)
theorem ld_5 {J : MI} : ldI J 150 2143 5 = some (J 150 5) := ldI_n (k := 5) (by decide) (by decide)
theorem st_5 {J : MI} {v : Int32} : stI J 150 2143 5 v = some (up2 J 150 5 v) := stI_n (k := 5) (by decide) (by decide)
theorem ld_8 {J : MI} : ldI J 150 2143 8 = some (J 150 8) := ldI_n (k := 8) (by decide) (by decide)
theorem st_8 {J : MI} {v : Int32} : stI J 150 2143 8 v = some (up2 J 150 8 v) := stI_n (k := 8) (by decide) (by decide)
theorem z15 (n : Nat) : (15 : Int32) + nI n = nI (15 + n) := zI_add 15 n
theorem z25 (n : Nat) : (25 : Int32) + 3 * nI n = nI (25 + 3 * n) := by rw [show (3 : Int32) = nI 3 from rfl, zI_mul]; exact zI_add 25 _
theorem z67 (n j : Nat) : (67 : Int32) + 3 * nI n + nI j = nI (67 + 3 * n + j) := by rw [show (3 : Int32) = nI 3 from rfl, zI_mul, show (67 : Int32) = nI 67 from rfl, zI_add, zI_add]
theorem z85 (n j : Nat) : (85 : Int32) + 10 * nI n + nI j = nI (85 + 10 * n + j) := by rw [show (10 : Int32) = nI 10 from rfl, zI_mul, show (85 : Int32) = nI 85 from rfl, zI_add, zI_add]
theorem ng_n {n : Nat} (h : n < 2 ^ 31) : ¬ nI n < (0 : Int32) := zI_nn h
theorem nn_n {n : Nat} (h : n < 2 ^ 31) : (0 : Int32) ≤ nI n := by rw [show (0 : Int32) = nI 0 from rfl, zI_le (by decide) h]; omega
theorem c_addRoom {d n0 n : Nat} {I : MI} {L : ML} (h : I d 0 = nI n0) (hn : n0 < 10) : f_X3_addRoom d (nI n) I L = some (up2 (up2 I (d + 1) n0 (nI n)) d 0 (nI (n0 + 1)), L) := by
  unfold f_X3_addRoom f_X3_addRoom_29
  rw [h, show (10 : Int32) = nI 10 from rfl, if_neg (le_n (by decide) (by omega) hn), stI_n hn (by decide), Option.bind_some, zu_n _ _ _ (show d ≠ d + 1 by omega), h, zI_1, pfe, Option.bind_some]
theorem DW_room {c d n0 n : Nat} {I : MI} {L : ML} {w : Nat → Int32} (h : DW c d I L w) (e0 : w 0 = nI n0) (hn0 : n0 < 10) (hn : n ≤ 20) : DW c d (up2 (up2 I (d + 1) n0 (nI n)) d 0 (nI (n0 + 1))) L (setw (setw w (15 + n0) (nI n)) 0 (nI (n0 + 1))) := by
  have s : ∀ k, k ≠ 0 → k ≠ 15 + n0 → setw (setw w (15 + n0) (nI n)) 0 (nI (n0 + 1)) k = w k := fun k h1 h2 => by rw [sw_n _ _ h1, sw_n _ _ h2]
  have s0 : setw (setw w (15 + n0) (nI n)) 0 (nI (n0 + 1)) 0 = nI (n0 + 1) := sw_s _ _ _
  have s1 : setw (setw w (15 + n0) (nI n)) 0 (nI (n0 + 1)) (15 + n0) = nI n := by rw [sw_n _ _ (by omega), sw_s]
  have w0 : nw w 0 = n0 := by unfold nw; rw [e0, zI_cl (by omega)]
  generalize setw (setw w (15 + n0) (nI n)) 0 (nI (n0 + 1)) = w' at s s0 s1 ⊢
  have w0' : nw w' 0 = n0 + 1 := by unfold nw; rw [s0, zI_cl (by omega)]
  have w1' : nw w' (15 + n0) = n := by unfold nw; rw [s1, zI_cl (by omega)]
  obtain ⟨⟨⟨a1, a2⟩, b1, c1, d1⟩, -⟩ := h.1
  obtain ⟨x1, x2, x3, x4⟩ := h.2.1
  refine DW_d h ⟨⟨by rw [w0', s0], by omega⟩, ?_, fun k hk => ?_, fun j hj => ?_⟩ (by omega) (fun k hk => s k (by omega) (by omega)) ⟨?_, ?_, fun k hk => ?_, fun j hj => ?_⟩ (fun k hk => ?_) (fun k h1 h2 h3 => ?_)
  · rw [nwe (s 1 (by omega) (by omega)), s 1 (by omega) (by omega)]; exact b1
  · by_cases h9 : k = n0
    · rw [h9, w1', s1]; exact ⟨rfl, hn⟩
    · rw [nwe (s (15 + k) (by omega) (by omega)), s (15 + k) (by omega) (by omega)]; exact c1 k hk
  · rw [nwe (s 1 (by omega) (by omega))] at hj
    have hb := b1.2
    rw [nwe (s (25 + 3 * j) (by omega) (by omega)), s (25 + 3 * j) (by omega) (by omega), nwe (s (26 + 3 * j) (by omega) (by omega)), s (26 + 3 * j) (by omega) (by omega), nwe (s (27 + 3 * j) (by omega) (by omega)), s (27 + 3 * j) (by omega) (by omega)]
    obtain ⟨⟨y1, y2⟩, ⟨y3, y4⟩, y5⟩ := d1 j hj
    exact ⟨⟨y1, by omega⟩, ⟨y3, by omega⟩, y5⟩
  · rw [zu_s, if_pos rfl, s0]
  · rw [zu_s, if_neg (by decide), zu_n _ _ _ (by omega), s 1 (by omega) (by omega)]; exact x2
  · rw [zu_n _ _ _ (by omega), zu_s]
    by_cases h9 : k = n0
    · rw [if_pos h9, h9, s1]
    · rw [if_neg h9, s (15 + k) (by omega) (by omega)]; exact x3 k hk
  · rw [zu_n _ _ _ (by omega), zu_n _ _ _ (by omega), s (25 + 3 * j) (by omega) (by omega), s (26 + 3 * j) (by omega) (by omega), s (27 + 3 * j) (by omega) (by omega)]
    exact x4 j hj
  · rw [zu_s, if_neg (by omega), zu_n _ _ _ (by omega)]
  · rw [zu_n _ _ _ (by omega), zu_n _ _ _ (by omega)]
theorem jRoom {c d : Nat} {tp : Nat → Int32} {T b : Nat} {I0 J0 I J : MI} {L M : ML} (hT : T ≤ 400) (hd : 14 ≤ d) (ls : LSt c d tp T L b I0 J0 I J) (hn : nw (J 150) 0 < 10) : JX L M false (FCd d I0) (FRd J0) (SLn c d tp T L I0 J0) (Option.bind (f_X8_needNumber 0 20 I L) fun w6 => xc w6 fun v8 => Option.bind (f_X3_addRoom d v8 w6.2.1 w6.2.2) fun w9 => f_X4_readLine_179 w9.1 w9.2) (f_X12_readRoom J M) := by
  have ls' := ls
  obtain ⟨a1, a2, a3, a4, a5, a6, a7⟩ := ls
  have h0 := a6.1.1.1
  unfold f_X12_readRoom
  rw [rr_rooms, Option.bind_some, h0.1, if_neg (by rw [show (10 : Int32) = nI 10 from rfl, zI_eq (by omega) (by decide)]; omega)]
  refine JX_bind (xNum hT (by decide) a1 a2) (fun I' o => FCd_x a4 o) (fun J' o => ?_) ?_
  · have e0 : J' 150 0 = nI (nw (J 150) 0) := by rw [o.1 150 (by decide)]; exact h0.1
    refine ⟨up2 J' 150 (15 + nw (J 150) 0) (-1), ?_, by rw [zu_n _ _ _ (by decide)], FRd_w (FRd_o a5 o) (by omega)⟩
    dsimp only
    rw [rr_rooms, Option.bind_some, e0, z15, stI_n (by omega) (by decide), Option.bind_some, if_pos (by decide)]
    rfl
  · intro v v2 I2 J2 ⟨n, n1, n2, n3, e1, e2, c2, r2, p1, p2, _⟩
    subst e1; subst e2
    have ls2 := LSt_t hd ls' c2 r2 p1 p2
    have e0 : J2 150 0 = nI (nw (J 150) 0) := by rw [p2.1 150 (by decide)]; exact h0.1
    have i0 : I2 d 0 = nI (nw (J 150) 0) := ls2.2.2.2.2.2.1.2.1.1.trans e0
    have h20 := SN_hi (H := 20) n3 n1 (by decide)
    unfold f_X4_readLine_179
    dsimp only
    rw [c_addRoom i0 hn, Option.bind_some, rr_rooms, Option.bind_some, e0, z15, stI_n (by omega) (by decide), Option.bind_some, if_neg (ng_n (by omega)), ld_0, Option.bind_some, zu_s, if_neg (by omega), e0, zI_1, st_0, Option.bind_some]
    unfold f_X12_readRoom_46
    rw [if_neg (ng_n (by omega))]
    refine JX_ok ⟨rfl, _, LSt_w hd ls2 (fun q hq => by dsimp only; rw [zu_n _ _ _ (by omega), zu_n _ _ _ (by omega)]) (fun q hq => by rw [zu_n _ _ _ hq, zu_n _ _ _ hq]) (fun k hk => by rw [zu_s, if_neg (by omega), zu_s, if_neg (by omega)]) (by rw [zu_s, if_neg (by decide), zu_s, if_neg (by omega)]) ?_⟩
    rw [up_150 (up_150 rfl)]
    exact DW_room ls2.2.2.2.2.2.1 e0 hn h20
theorem DW_door {c d n1 a e x : Nat} {I : MI} {L : ML} {w : Nat → Int32} (h : DW c d I L w) (e1 : w 1 = nI n1) (hn1 : n1 < 14) (ha : a < nw w 0) (he : e < nw w 0) (hae : a ≠ e) (hx : x ≤ 30) : DW c d (up2 (up2 (up2 (up2 I (d + 13 + n1) 0 (nI a)) (d + 13 + n1) 1 (nI e)) (d + 13 + n1) 2 (nI x)) d 1 (nI (n1 + 1))) L (setw (setw (setw (setw w (25 + 3 * n1) (nI a)) (25 + 3 * n1 + 1) (nI e)) (25 + 3 * n1 + 2) (nI x)) 1 (nI (n1 + 1))) := by
  have hr := h.1.1.1.2
  have s : ∀ k, k ≠ 1 → (k < 25 + 3 * n1 ∨ 27 + 3 * n1 < k) → setw (setw (setw (setw w (25 + 3 * n1) (nI a)) (25 + 3 * n1 + 1) (nI e)) (25 + 3 * n1 + 2) (nI x)) 1 (nI (n1 + 1)) k = w k := fun k h1 h2 => by rw [sw_n _ _ h1, sw_n _ _ (by omega), sw_n _ _ (by omega), sw_n _ _ (by omega)]
  have s1 : setw (setw (setw (setw w (25 + 3 * n1) (nI a)) (25 + 3 * n1 + 1) (nI e)) (25 + 3 * n1 + 2) (nI x)) 1 (nI (n1 + 1)) 1 = nI (n1 + 1) := sw_s _ _ _
  have sa : setw (setw (setw (setw w (25 + 3 * n1) (nI a)) (25 + 3 * n1 + 1) (nI e)) (25 + 3 * n1 + 2) (nI x)) 1 (nI (n1 + 1)) (25 + 3 * n1) = nI a := by rw [sw_n _ _ (by omega), sw_n _ _ (by omega), sw_n _ _ (by omega), sw_s]
  have se : setw (setw (setw (setw w (25 + 3 * n1) (nI a)) (25 + 3 * n1 + 1) (nI e)) (25 + 3 * n1 + 2) (nI x)) 1 (nI (n1 + 1)) (26 + 3 * n1) = nI e := by rw [sw_n _ _ (by omega), sw_n _ _ (by omega), show 26 + 3 * n1 = 25 + 3 * n1 + 1 by omega, sw_s]
  have sx : setw (setw (setw (setw w (25 + 3 * n1) (nI a)) (25 + 3 * n1 + 1) (nI e)) (25 + 3 * n1 + 2) (nI x)) 1 (nI (n1 + 1)) (27 + 3 * n1) = nI x := by rw [sw_n _ _ (by omega), show 27 + 3 * n1 = 25 + 3 * n1 + 2 by omega, sw_s]
  have w1 : nw w 1 = n1 := by unfold nw; rw [e1, zI_cl (by omega)]
  generalize setw (setw (setw (setw w (25 + 3 * n1) (nI a)) (25 + 3 * n1 + 1) (nI e)) (25 + 3 * n1 + 2) (nI x)) 1 (nI (n1 + 1)) = w' at s s1 sa se sx ⊢
  have w1' : nw w' 1 = n1 + 1 := by unfold nw; rw [s1, zI_cl (by omega)]
  have wa : nw w' (25 + 3 * n1) = a := by unfold nw; rw [sa, zI_cl (by omega)]
  have we : nw w' (26 + 3 * n1) = e := by unfold nw; rw [se, zI_cl (by omega)]
  have wx : nw w' (27 + 3 * n1) = x := by unfold nw; rw [sx, zI_cl (by omega)]
  have w0 := nwe (s 0 (by omega) (by omega))
  obtain ⟨⟨a1, b1, c1, d1⟩, -⟩ := h.1
  obtain ⟨x1, x2, x3, x4⟩ := h.2.1
  refine DW_d h ⟨by rw [w0, s 0 (by omega) (by omega)]; exact a1, ⟨by rw [w1', s1], by omega⟩, fun k hk => ?_, fun j hj => ?_⟩ (by omega) (fun k hk => s k (by omega) (by omega)) ⟨?_, ?_, fun k hk => ?_, fun j hj => ?_⟩ (fun k hk => ?_) (fun k h1 h2 h3 => ?_)
  · rw [nwe (s (15 + k) (by omega) (by omega)), s (15 + k) (by omega) (by omega)]; exact c1 k hk
  · by_cases h9 : j = n1
    · rw [h9, wa, we, wx, w0, sa, se, sx]
      exact ⟨⟨rfl, ha⟩, ⟨rfl, he⟩, hae, rfl, hx⟩
    · rw [nwe (s (25 + 3 * j) (by omega) (by omega)), s (25 + 3 * j) (by omega) (by omega), nwe (s (26 + 3 * j) (by omega) (by omega)), s (26 + 3 * j) (by omega) (by omega), nwe (s (27 + 3 * j) (by omega) (by omega)), s (27 + 3 * j) (by omega) (by omega), w0]
      exact d1 j (by omega)
  · rw [zu_s, if_neg (by decide), zu_n _ _ _ (by omega), zu_n _ _ _ (by omega), zu_n _ _ _ (by omega), s 0 (by omega) (by omega)]; exact x1
  · rw [zu_s, if_pos rfl, s1]
  · rw [zu_n _ _ _ (by omega), zu_n _ _ _ (by omega), zu_n _ _ _ (by omega), zu_n _ _ _ (by omega), s (15 + k) (by omega) (by omega)]; exact x3 k hk
  · rw [zu_n _ _ _ (by omega)]
    by_cases h9 : j = n1
    · rw [h9, sa, se, sx, zu_s, if_neg (by decide), zu_s, if_neg (by decide), zu_s, if_pos rfl, zu_s, if_neg (by decide), zu_s, if_pos rfl, zu_s, if_pos rfl]
      exact ⟨rfl, rfl, rfl⟩
    · rw [zu_n _ _ _ (by omega), zu_n _ _ _ (by omega), zu_n _ _ _ (by omega), s (25 + 3 * j) (by omega) (by omega), s (26 + 3 * j) (by omega) (by omega), s (27 + 3 * j) (by omega) (by omega)]
      exact x4 j hj
  · rw [zu_s, if_neg (by omega), zu_n _ _ _ (by omega), zu_n _ _ _ (by omega), zu_n _ _ _ (by omega)]
  · rw [zu_n _ _ _ (by omega), zu_n _ _ _ (by omega), zu_n _ _ _ (by omega), zu_n _ _ _ (by omega)]
theorem c_addDoor {d n1 : Nat} {a e x : Int32} {I : MI} {L : ML} (h : I d 1 = nI n1) (hn : n1 < 14) : f_X3_addDoor d a e x I L = some (up2 (up2 (up2 (up2 I (d + 13 + n1) 0 a) (d + 13 + n1) 1 e) (d + 13 + n1) 2 x) d 1 (nI (n1 + 1)), L) := by
  unfold f_X3_addDoor f_X3_addDoor_48
  rw [h, show (14 : Int32) = nI 14 from rfl, if_neg (le_n (by decide) (by omega) hn), ldR_n hn (by decide), Option.bind_some, pfe, Option.bind_some, pfe, Option.bind_some, pfe, Option.bind_some, zu_n _ _ _ (show d ≠ d + 13 + n1 by omega), zu_n _ _ _ (show d ≠ d + 13 + n1 by omega), zu_n _ _ _ (show d ≠ d + 13 + n1 by omega), h, zI_1, pfe, Option.bind_some]
theorem r_told {tp : Nat → Int32} {T b : Nat} {J : MI} {M : ML} (hT : T ≤ 400) (h : RT tp T b J) : Tt (f_X12_roomTold J M) (fun r => r.2.2 = M ∧ o149 J r.2.1 ∧ r.2.1 149 11 = nI b ∧ (r.1 = nu tp T b ∨ r.1 = -1)) := by
  unfold f_X12_roomTold
  rw [rr_rooms, Option.bind_some]
  refine Tt_bind (Tt_mono (r_number (lo := 0) hT (by decide) h) ?_)
  intro r ⟨r1, r2, r3, r4, r5⟩
  refine Tt_some ⟨r1, r2, r3, ?_⟩
  by_cases hv : vN tp T 0 (J 150 0 - 1) b
  · exact Or.inl (r4 hv).1
  · exact Or.inr (r5 hv)
theorem jDoor {c d : Nat} {tp : Nat → Int32} {T b : Nat} {I0 J0 I J : MI} {L M : ML} (hT : T ≤ 400) (hd : 14 ≤ d) (ls : LSt c d tp T L b I0 J0 I J) (hn : nw (J 150) 1 < 14) : JX L M false (FCd d I0) (FRd J0) (SLn c d tp T L I0 J0) (f_X4_readDoor d I L) (f_X12_readDoor J M) := by
  have h1 := ls.2.2.2.2.2.1.1.1.2.1
  have hr := ls.2.2.2.2.2.1.1.1.1.2
  unfold f_X4_readDoor f_X12_readDoor
  rw [ld_1, Option.bind_some, h1.1, if_neg (by rw [show (14 : Int32) = nI 14 from rfl, zI_eq (by omega) (by decide)]; omega)]
  refine JX_bind (xRoom hT ls) (fun I' o => FCd_x ls.2.2.2.1 o) (fun J' o => ?_) ?_
  · refine ⟨J', ?_, rfl, FRd_o ls.2.2.2.2.1 o⟩
    dsimp only
    rw [if_neg (by decide)]
    unfold f_X12_readDoor_32
    rw [if_pos (by decide)]; rfl
  · intro v v2 I2 J2 ⟨a, ha, e1, e2, c2, r2, p1, p2, _, _⟩
    subst e1; subst e2
    have ls2 := LSt_t hd ls c2 r2 p1 p2
    have e150 := p2.1 150 (by decide)
    dsimp only
    rw [if_pos (nn_n (by omega))]
    by_cases he : nu tp T (nx tp T b) = nI a
    · rw [if_pos (c2.2.2.2.2.1.trans he)]
      obtain ⟨rb, b1, b2, b3, b4, b5⟩ := r_told (M := M) hT r2
      obtain ⟨y, J3, M3⟩ := rb
      have b2 : M3 = M := b2
      subst b2
      obtain ⟨I3, i1, i2⟩ := c_chk_f (L := L) c2
      unfold f_X4_readDoor_20
      rw [i1, Option.bind_some, xc_l, b1, Option.bind_some]
      have e : f_X12_readDoor_32 (nI (nw (J 150) 1)) (nI a) y J3 M3 = some (false, J3, M3) := by
        unfold f_X12_readDoor_32 f_X12_readDoor_42
        rcases b5 with b5 | b5
        · have b5 : y = nI a := b5.trans he
          rw [b5, if_neg (ng_n (by omega)), if_pos rfl]
        · have b5 : y = -1 := b5
          rw [b5, if_pos (by decide)]
      dsimp only
      rw [e]
      exact JX_no (f := nx tp T b) i2.2.2 b4 ⟨fun q h8 h9 => (i2.1 q h8).trans (ls2.2.2.2.1.1 q h8 h9), i2.2.1.trans ls2.2.2.2.1.2⟩ (FRd_o ls2.2.2.2.2.1 b3)
    · rw [if_neg (fun h9 => he (c2.2.2.2.2.1.symm.trans h9))]
      unfold f_X4_readDoor_20
      rw [c_chk_t, Option.bind_some, xc_r]
      refine JX_bind (xRoom hT ls2) (fun I' o => FCd_x ls2.2.2.2.1 o) (fun J' o => ?_) ?_
      · refine ⟨J', ?_, rfl, FRd_o ls2.2.2.2.2.1 o⟩
        unfold f_X12_readDoor_32
        dsimp only
        rw [if_pos (by decide)]; rfl
      · intro v v2 I3 J3 ⟨e, he9, e1, e2, c3, r3, p3, p4, q1, _⟩
        subst e1; subst e2
        rw [e150] at he9
        have hae : a ≠ e := fun h9 => he (by rw [q1, h9])
        have ls3 := LSt_t hd ls2 c3 r3 p3 p4
        have e151 := (p4.1 150 (by decide)).trans e150
        unfold f_X12_readDoor_32
        dsimp only
        rw [if_neg (ng_n (by omega)), if_neg (by rw [zI_eq (by omega) (by omega)]; exact hae)]
        refine JX_bind (xNum hT (by decide) c3 r3) (fun I' o => FCd_x ls3.2.2.2.1 o) (fun J' o => ⟨J', rfl, rfl, FRd_o ls3.2.2.2.2.1 o⟩) ?_
        intro v v2 I4 J4 ⟨n, n1, n2, n3, e1, e2, c4, r4, p5, p6, _⟩
        subst e1; subst e2
        have ls4 := LSt_t hd ls3 c4 r4 p5 p6
        have e152 := (p6.1 150 (by decide)).trans e151
        have w1 : J4 150 1 = nI (nw (J 150) 1) := by rw [e152]; exact h1.1
        have i1 : I4 d 1 = nI (nw (J 150) 1) := ls4.2.2.2.2.2.1.2.1.2.1.trans w1
        have h30 := SN_hi (H := 30) n3 n1 (by decide)
        dsimp only
        rw [c_addDoor i1 hn, Option.bind_some, if_pos (nn_n (by omega)), z25, stI_n (by omega) (by decide), Option.bind_some, zI_1, stI_n (by omega) (by decide), Option.bind_some, show (2 : Int32) = nI 2 from rfl, zI_add, stI_n (by omega) (by decide), Option.bind_some, ld_1, Option.bind_some, zu_s, if_neg (by omega), zu_s, if_neg (by omega), zu_s, if_neg (by omega), w1, zI_1, st_1, Option.bind_some]
        refine JX_ok ⟨rfl, _, LSt_w hd ls4 (fun q hq => by dsimp only; rw [zu_n _ _ _ (by omega), zu_n _ _ _ (by omega), zu_n _ _ _ (by omega), zu_n _ _ _ (by omega)]) (fun q hq => by rw [zu_n _ _ _ hq, zu_n _ _ _ hq, zu_n _ _ _ hq, zu_n _ _ _ hq]) (fun k hk => by rw [zu_s, if_neg (by omega), zu_s, if_neg (by omega), zu_s, if_neg (by omega), zu_s, if_neg (by omega)]) (by rw [zu_s, if_neg (by decide), zu_s, if_neg (by omega), zu_s, if_neg (by omega), zu_s, if_neg (by omega)]) ?_⟩
        rw [up_150 (up_150 (up_150 (up_150 rfl)))]
        exact DW_door ls4.2.2.2.2.2.1 w1 hn (by rw [e152]; exact ha) (by rw [e152]; exact he9) hae h30
