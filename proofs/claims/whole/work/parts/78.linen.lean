-- ===== a noise's line
theorem or24 {x n : Nat} (hn : n ≤ 23) : nI x ||| (1 <<< (nI n &&& 31)) = nI (x ||| 2 ^ n) := by
  apply b_ext
  intro i hi
  rw [b_set (by omega) hi, bt_nI hi, bt_nI hi, Nat.testBit_or, Nat.testBit_two_pow]
  congr 1
  by_cases h : i = n
  · rw [decide_eq_true h, decide_eq_true h.symm]
  · rw [decide_eq_false h, decide_eq_false (fun h9 => h h9.symm)]
theorem or24_lt {x n : Nat} (hx : x < 2 ^ 24) (hn : n ≤ 23) : x ||| 2 ^ n < 2 ^ 24 := Nat.or_lt_two_pow hx (Nat.pow_lt_pow_right (by decide) (by omega))
theorem ob {α : Type} (o : Option α) : Option.bind o (fun w => some w) = o := by cases o <;> rfl
theorem so2 {tp : Nat → Int32} {T b : Nat} : so tp T b = 2 ↔ (decide (b < T) && decide (¬ tp b < 48 ∧ ¬ 57 < tp b)) = true := by
  constructor
  · intro h
    obtain ⟨h1, h2, -⟩ := te_di h
    rw [decide_eq_true h1, show decide (¬ tp b < 48 ∧ ¬ 57 < tp b) = true from h2]; rfl
  · intro h
    rw [Bool.and_eq_true, decide_eq_true_iff] at h
    exact di_so h.1 h.2
def SH (tp : Nat → Int32) (T : Nat) (I J : MI) (v v' : Int32) (I' J' : MI) : Prop := ∃ r b', r < 2 ^ 24 ∧ v = nI r ∧ v' = nI r ∧ CT tp T b' I' ∧ RT tp T b' J' ∧ only1 I I' ∧ o149 J J'
theorem xHl {tp : Nat → Int32} {T : Nat} {L M : ML} (hT : T ≤ 400) : ∀ (m b x k fc fr : Nat) (I J : MI), T - b ≤ m → b ≤ T → k < b → x < 2 ^ 24 → CT tp T b I → RT tp T b J → m < fc → m < fr →
    JX L M (-1) (o1x I) (o149 J) (SH tp T I J) (f_X4_readRate_31 fc (nI x) (nI k) I L) (Option.bind (f_X12_blanks J M) fun w3 => Option.bind (f_X12_isAt 48 57 w3.1 w3.2) fun v4 => if v4 = true then (f_X12_readHours_2 fr (nI x) w3.1 w3.2) else (some (nI x, w3.1, w3.2))) := by
  intro m
  induction m with
  | zero =>
    intro b x k fc fr I J hm hbT hk hx hc hr hfc hfr
    obtain ⟨f, rfl⟩ : ∃ f, fc = f + 1 := ⟨fc - 1, by omega⟩
    obtain ⟨⟨J1, M1⟩, j1, j2, j3, j4⟩ := r_blanks (L := M) hT hr
    have j2 : M1 = M := j2
    subst j2
    have hso : ¬ so tp T b = 2 := fun h => by have := (te_di h).1; omega
    rw [j1, Option.bind_some]
    dsimp only
    rw [r_isAt hT hbT j3.1 j3.2.1, Option.bind_some, if_neg (fun h => hso (so2.mpr h))]
    unfold f_X4_readRate_31 f_X8_isNumber f_X8_isNumber_13 f_X4_readRate_63
    rw [show (400 : Int32) = nI 400 from rfl, if_neg (le_n (by decide) (by omega) (by omega)), if_neg (by rw [hc.2.2.2.1]; exact hso), Option.bind_some, if_neg (by decide)]
    exact JX_ok ⟨x, b, hx, rfl, rfl, hc, RLe_RT (RT_ok hr) j3, only1_rf I, j4⟩
  | succ m ih =>
    intro b x k fc fr I J hm hbT hk hx hc hr hfc hfr
    obtain ⟨f, rfl⟩ : ∃ f, fc = f + 1 := ⟨fc - 1, by omega⟩
    obtain ⟨⟨J1, M1⟩, j1, j2, j3, j4⟩ := r_blanks (L := M) hT hr
    have j2 : M1 = M := j2
    subst j2
    rw [j1, Option.bind_some]
    dsimp only
    rw [r_isAt hT hbT j3.1 j3.2.1, Option.bind_some]
    unfold f_X4_readRate_31 f_X8_isNumber f_X8_isNumber_13
    rw [show (400 : Int32) = nI 400 from rfl, if_neg (le_n (by decide) (by omega) (by omega))]
    have hr1 := RLe_RT (RT_ok hr) j3
    by_cases hso : so tp T b = 2
    · rw [if_pos (hc.2.2.2.1.trans hso), Option.bind_some, if_pos rfl, if_pos (so2.mp hso)]
      obtain ⟨g, rfl⟩ : ∃ g, fr = g + 1 := ⟨fr - 1, by omega⟩
      unfold f_X12_readHours_2
      refine JX_bind (xNum hT (by decide) hc hr1) (fun _ o => o) (fun J' o => ⟨J', by dsimp only; rw [if_neg (by decide)], rfl, o149_tr j4 o⟩) ?_
      intro v v2 I2 J2 ⟨n, n1, n2, n3, e1, e2, c2, r2, p1, p2, hbl, _, _⟩
      subst e1; subst e2
      have h23 := SN_hi (H := 23) n3 n1 (by decide)
      have hnx := nx_lt (tp := tp) hbl
      dsimp only
      rw [if_pos (nn_n (by omega)), or24 h23, zI_1]
      refine JX_mono (ih (nx tp T b) (x ||| 2 ^ n) (k + 1) f g I2 J2 (by omega) hnx.2 (by omega) (or24_lt hx h23) c2 r2 (by omega) (by omega)) (fun _ o => o1x_x p1 o) (fun _ o => o149_tr j4 (o149_tr p2 o)) ?_
      intro v v2 I3 J3 ⟨r, b', s1, s2, s3, s4, s5, s6, s7⟩
      exact ⟨r, b', s1, s2, s3, s4, s5, only1_tr p1 s6, o149_tr j4 (o149_tr p2 s7)⟩
    · rw [if_neg (fun h9 => hso (hc.2.2.2.1.symm.trans h9)), Option.bind_some, if_neg (by decide), if_neg (fun h => hso (so2.mpr h))]
      exact JX_ok ⟨x, b, hx, rfl, rfl, hc, hr1, only1_rf I, j4⟩
theorem xHours {tp : Nat → Int32} {T b : Nat} {I J : MI} {L M : ML} (hT : T ≤ 400) (hc : CT tp T b I) (hr : RT tp T b J) : JX L M (-1) (o1x I) (o149 J) (SH tp T I J) (f_X4_readRate 0 I L) (f_X12_readHours J M) := by
  unfold f_X4_readRate f_X12_readHours
  rw [if_neg (by decide), if_pos rfl, show FU = 999999 + 1 from rfl]
  unfold f_X12_readHours_2
  refine JX_bind (xNum hT (by decide) hc hr) (fun _ o => o) (fun J' o => ⟨J', by dsimp only; rw [if_neg (by decide)], rfl, o⟩) ?_
  intro v v2 I2 J2 ⟨n, n1, n2, n3, e1, e2, c2, r2, p1, p2, hbl, _, _⟩
  subst e1; subst e2
  have h23 := SN_hi (H := 23) n3 n1 (by decide)
  have hnx := nx_lt (tp := tp) hbl
  have e0 : (1 : Int32) <<< (nI n &&& 31) = nI (0 ||| 2 ^ n) := by rw [← or24 h23, show nI 0 = (0 : Int32) from rfl, Int32.zero_or]
  dsimp only
  rw [if_pos (nn_n (by omega)), Int32.zero_or, e0]
  refine JX_mono (xHl hT (T - nx tp T b) (nx tp T b) (0 ||| 2 ^ n) 0 (999999 + 1) 999999 I2 J2 (Nat.le_refl _) hnx.2 (by omega) (or24_lt (by decide) h23) c2 r2 (by omega) (by omega)) (fun _ o => o1x_x p1 o) (fun _ o => o149_tr p2 o) ?_
  intro v v2 I3 J3 ⟨r, b', s1, s2, s3, s4, s5, s6, s7⟩
  exact ⟨r, b', s1, s2, s3, s4, s5, only1_tr p1 s6, o149_tr p2 s7⟩
theorem x100 {tp : Nat → Int32} {T b : Nat} {I J : MI} {L M : ML} (hT : T ≤ 400) (hc : CT tp T b I) (hr : RT tp T b J) : JX L M (-1) (o1x I) (o149 J) (SN tp T b 0 100 I J) (f_X4_readRate 2 I L) (f_X12_number 0 100 J M) := by
  unfold f_X4_readRate
  rw [if_pos rfl, ← ob (f_X12_number 0 100 J M)]
  exact JX_bind (xNum hT (by decide) hc hr) (fun _ o => o) (fun J' o => ⟨J', rfl, rfl, o⟩) (fun v v2 I2 J2 h => JX_ok h)
/-- the number of a room -/
theorem xRoomH {d : Nat} {tp : Nat → Int32} {T b : Nat} {I J : MI} {L M : ML} (hT : T ≤ 400) (a1 : CT tp T b I) (a2 : RT tp T b J) (hw : WFd (J 150)) (hd : I d 0 = J 150 0) : JX L M (-1) (o1x I) (o149 J) (fun v v' I' J' => ∃ n, n < nw (J 150) 0 ∧ v = nI n ∧ v' = nI n ∧ CT tp T (nx tp T b) I' ∧ RT tp T (nx tp T b) J' ∧ only1 I I' ∧ o149 J J') (f_X4_readRoom d I L) (f_X12_roomTold J M) := by
  have h0 := hw.1
  unfold f_X4_readRoom f_X12_roomTold f_X12_rooms
  rw [show (0 : Int32) = nI 0 from rfl, ldI_n (by decide) (by decide), Option.bind_some, Option.bind_some, hd]
  refine JX_bind (S := SN tp T b (nI 0) (J 150 0 - 1) I J) (xNum hT (by decide) a1 a2) (fun _ o => o) (fun J' o => ⟨J', rfl, rfl, o⟩) ?_
  intro v v2 I2 J2 ⟨n, n1, n2, n3, e1, e2, c2, r2, p1, p2, _⟩
  subst e1; subst e2
  refine JX_ok ⟨n, ?_, rfl, rfl, c2, r2, p1, p2⟩
  rw [h0.1] at n3
  by_cases h9 : nw (J 150) 0 = 0
  · rw [h9] at n3
    exfalso
    apply n3
    rw [Int32.lt_iff_toInt_lt, zI_ti (by omega)]
    have : (nI 0 - 1 : Int32).toInt = -1 := by decide
    rw [this]; omega
  · obtain ⟨m, hm⟩ : ∃ m, nw (J 150) 0 = m + 1 := ⟨nw (J 150) 0 - 1, by omega⟩
    have := h0.2
    rw [hm, zI_p1] at n3
    have := SN_hi n3 n1 (by omega)
    omega
-- the noise that is being read
def HS (tp : Nat → Int32) (T n3 d b : Nat) (F : Nat → Int32) (I1 J1 I J : MI) : Prop := CT tp T b I ∧ RT tp T b J ∧ (∀ q, q ≠ 1 → q ≠ d → q ≠ d + 33 + n3 → I q = I1 q) ∧ I 1 1 = I1 1 1 ∧ I 1 7 = I1 1 7 ∧ (∀ k, k ≠ 3 → I d k = I1 d k) ∧ I d 3 = nI (n3 + 1) ∧ (∀ j, I (d + 33 + n3) j = F j) ∧ o149 J1 J
theorem HS_t {tp : Nat → Int32} {T n3 d b b' : Nat} {F : Nat → Int32} {I1 J1 I J I' J' : MI} (hd : 14 ≤ d) (h : HS tp T n3 d b F I1 J1 I J) (h1 : CT tp T b' I') (h2 : RT tp T b' J') (h3 : only1 I I') (h4 : o149 J J') : HS tp T n3 d b' F I1 J1 I' J' := by
  obtain ⟨-, -, a3, a4, a5, a6, a7, a8, a9⟩ := h
  exact ⟨h1, h2, fun q x1 x2 x3 => (h3.1 q x1).trans (a3 q x1 x2 x3), h3.2.1.trans a4, h3.2.2.trans a5, fun k hk => by rw [h3.1 d (by omega)]; exact a6 k hk, by rw [h3.1 d (by omega)]; exact a7, fun j => by rw [h3.1 _ (by omega)]; exact a8 j, o149_tr a9 h4⟩
theorem HS_w {tp : Nat → Int32} {T n3 d b j : Nat} {x : Int32} {F : Nat → Int32} {I1 J1 I J : MI} (hd : 14 ≤ d) (h : HS tp T n3 d b F I1 J1 I J) : HS tp T n3 d b (setw F j x) I1 J1 (up2 I (d + 33 + n3) j x) J := by
  obtain ⟨a1, a2, a3, a4, a5, a6, a7, a8, a9⟩ := h
  exact ⟨CT_w a1 (zu_n _ _ _ (by omega)) (zu_n _ _ _ (by omega)), a2, fun q x1 x2 x3 => by rw [zu_n _ _ _ x3]; exact a3 q x1 x2 x3, by rw [zu_n _ _ _ (by omega)]; exact a4, by rw [zu_n _ _ _ (by omega)]; exact a5, fun k hk => by rw [zu_n _ _ _ (by omega)]; exact a6 k hk, by rw [zu_n _ _ _ (by omega)]; exact a7, fun i => by rw [zu_s, a8 i]; rfl, a9⟩
theorem HS_F {tp : Nat → Int32} {T n3 d b : Nat} {F : Nat → Int32} {I0 I1 J1 I J : MI} (hn : n3 < 12) (h : HS tp T n3 d b F I1 J1 I J) (f : FCd d I0 I1) : FCd d I0 I := ⟨fun q x1 x2 => (h.2.2.1 q x1 (by omega) (by omega)).trans (f.1 q x1 x2), h.2.2.2.1.trans f.2⟩
theorem HS_R {tp : Nat → Int32} {T n3 d b : Nat} {F : Nat → Int32} {J0 I1 J1 I J : MI} (h : HS tp T n3 d b F I1 J1 I J) (f : FRd J0 J1) : FRd J0 J := FRd_o f h.2.2.2.2.2.2.2.2
theorem rr_s {J : MI} {M : ML} {n j : Nat} {v : Int32} (hn : n < 12) (hj : j < 10) : f_X12_sets (nI n) (nI j) v J M = some (up2 J 150 (85 + 10 * n + j) v, M) := by
  unfold f_X12_sets
  rw [z85, stI_n (by omega) (by decide), Option.bind_some]
theorem r_196 {J : MI} {M : ML} {n : Nat} {x2 x3 x4 x5 x6 x7 : Int32} (hn : n < 12) (e3 : J 150 3 = nI n) : Tt (f_X12_readNoise_196 FU (nI n) x2 x3 x4 x5 x6 x7 0 J M) (fun r => r.1 = true ∧ r.2.2 = M ∧ (∀ q, q ≠ 150 → r.2.1 q = J q) ∧ (∀ k, k ≠ 3 → (k < 85 + 10 * n ∨ 94 + 10 * n < k) → r.2.1 150 k = J 150 k) ∧ r.2.1 150 3 = nI (n + 1) ∧ r.2.1 150 (85 + 10 * n + 0) = x2 ∧ r.2.1 150 (85 + 10 * n + 1) = x4 ∧ r.2.1 150 (85 + 10 * n + 2) = x5 ∧ r.2.1 150 (85 + 10 * n + 3) = x6 ∧ r.2.1 150 (85 + 10 * n + 4) = x7 ∧ r.2.1 150 (85 + 10 * n + 5) = 0 ∧ r.2.1 150 (85 + 10 * n + 6) = x3 ∧ r.2.1 150 (85 + 10 * n + 7) = -1 ∧ r.2.1 150 (85 + 10 * n + 8) = 0 ∧ r.2.1 150 (85 + 10 * n + 9) = 0) := by
  refine lp0 (fun fuel k (K : MI) => f_X12_readNoise_196 fuel (nI n) x2 x3 x4 x5 x6 x7 (nI k) K M) 10 (fun k K => (∀ q, q ≠ 150 → K q = J q) ∧ (∀ j, (j < 85 + 10 * n ∨ 85 + 10 * n + k ≤ j) → K 150 j = J 150 j) ∧ ∀ i, i < k → K 150 (85 + 10 * n + i) = 0) (by decide) ?_ ?_ (s := J) ⟨fun _ _ => rfl, fun _ _ => rfl, fun i hi => absurd hi (Nat.not_lt_zero _)⟩
  · intro fuel k K hk ⟨k1, k2, k3⟩ hnx
    show Tt (f_X12_readNoise_196 (fuel + 1) (nI n) x2 x3 x4 x5 x6 x7 (nI k) K M) _
    unfold f_X12_readNoise_196
    rw [show (10 : Int32) = nI 10 from rfl, if_neg (le_n (by decide) (by omega) hk), rr_s hn hk, Option.bind_some, zI_1]
    refine hnx (up2 K 150 (85 + 10 * n + k) 0) ⟨fun q hq => by rw [zu_n _ _ _ hq]; exact k1 q hq, fun j hj => by rw [zu_s, if_neg (by omega)]; exact k2 j (by omega), fun i hi => ?_⟩
    rw [zu_s]
    by_cases h9 : i = k
    · rw [if_pos (by omega)]
    · rw [if_neg (by omega)]; exact k3 i (by omega)
  · intro fuel K ⟨k1, k2, k3⟩
    show Tt (f_X12_readNoise_196 (fuel + 1) (nI n) x2 x3 x4 x5 x6 x7 (nI 10) K M) _
    have z0 := fun (J : MI) v => rr_s (J := J) (M := M) (n := n) (j := 0) (v := v) hn (by decide)
    have z1 := fun (J : MI) v => rr_s (J := J) (M := M) (n := n) (j := 1) (v := v) hn (by decide)
    have z2 := fun (J : MI) v => rr_s (J := J) (M := M) (n := n) (j := 2) (v := v) hn (by decide)
    have z3 := fun (J : MI) v => rr_s (J := J) (M := M) (n := n) (j := 3) (v := v) hn (by decide)
    have z4 := fun (J : MI) v => rr_s (J := J) (M := M) (n := n) (j := 4) (v := v) hn (by decide)
    have z6 := fun (J : MI) v => rr_s (J := J) (M := M) (n := n) (j := 6) (v := v) hn (by decide)
    have z7 := fun (J : MI) v => rr_s (J := J) (M := M) (n := n) (j := 7) (v := v) hn (by decide)
    unfold f_X12_readNoise_196
    rw [if_pos (by decide), show f_X12_sets (nI n) 0 x2 K M = _ from z0 K x2, Option.bind_some]
    dsimp only
    rw [show ∀ J, f_X12_sets (nI n) 1 x4 J M = some (up2 J 150 (85 + 10 * n + 1) x4, M) from fun J => z1 J x4, Option.bind_some]
    dsimp only
    rw [show ∀ J, f_X12_sets (nI n) 2 x5 J M = some (up2 J 150 (85 + 10 * n + 2) x5, M) from fun J => z2 J x5, Option.bind_some]
    dsimp only
    rw [show ∀ J, f_X12_sets (nI n) 3 x6 J M = some (up2 J 150 (85 + 10 * n + 3) x6, M) from fun J => z3 J x6, Option.bind_some]
    dsimp only
    rw [show ∀ J, f_X12_sets (nI n) 4 x7 J M = some (up2 J 150 (85 + 10 * n + 4) x7, M) from fun J => z4 J x7, Option.bind_some]
    dsimp only
    rw [show ∀ J, f_X12_sets (nI n) 6 x3 J M = some (up2 J 150 (85 + 10 * n + 6) x3, M) from fun J => z6 J x3, Option.bind_some]
    dsimp only
    rw [show ∀ J, f_X12_sets (nI n) 7 (-1) J M = some (up2 J 150 (85 + 10 * n + 7) (-1), M) from fun J => z7 J (-1), Option.bind_some]
    dsimp only
    rw [ld_3, Option.bind_some, st_3, Option.bind_some]
    refine Tt_some ⟨rfl, rfl, fun q hq => ?_, fun k h1 h2 => ?_, ?_, ?_, ?_, ?_, ?_, ?_, ?_, ?_, ?_, ?_, ?_⟩
    · dsimp only
      rw [zu_n _ _ _ hq, zu_n _ _ _ hq, zu_n _ _ _ hq, zu_n _ _ _ hq, zu_n _ _ _ hq, zu_n _ _ _ hq, zu_n _ _ _ hq, zu_n _ _ _ hq]; exact k1 q hq
    · dsimp only
      rw [zu_s, if_neg h1, zu_s, if_neg (by omega), zu_s, if_neg (by omega), zu_s, if_neg (by omega), zu_s, if_neg (by omega), zu_s, if_neg (by omega), zu_s, if_neg (by omega), zu_s, if_neg (by omega)]; exact k2 k (by omega)
    · dsimp only
      rw [zu_s, if_pos rfl, zu_s, if_neg (by omega), zu_s, if_neg (by omega), zu_s, if_neg (by omega), zu_s, if_neg (by omega), zu_s, if_neg (by omega), zu_s, if_neg (by omega), zu_s, if_neg (by omega), k2 3 (by omega), e3, zI_1]
    all_goals dsimp only
    · rw [zu_s, if_neg (by omega), zu_s, if_neg (by omega), zu_s, if_neg (by omega), zu_s, if_neg (by omega), zu_s, if_neg (by omega), zu_s, if_neg (by omega), zu_s, if_neg (by omega), zu_s, if_pos rfl]
    · rw [zu_s, if_neg (by omega), zu_s, if_neg (by omega), zu_s, if_neg (by omega), zu_s, if_neg (by omega), zu_s, if_neg (by omega), zu_s, if_neg (by omega), zu_s, if_pos rfl]
    · rw [zu_s, if_neg (by omega), zu_s, if_neg (by omega), zu_s, if_neg (by omega), zu_s, if_neg (by omega), zu_s, if_neg (by omega), zu_s, if_pos rfl]
    · rw [zu_s, if_neg (by omega), zu_s, if_neg (by omega), zu_s, if_neg (by omega), zu_s, if_neg (by omega), zu_s, if_pos rfl]
    · rw [zu_s, if_neg (by omega), zu_s, if_neg (by omega), zu_s, if_neg (by omega), zu_s, if_pos rfl]
    · rw [zu_s, if_neg (by omega), zu_s, if_neg (by omega), zu_s, if_neg (by omega), zu_s, if_neg (by omega), zu_s, if_neg (by omega), zu_s, if_neg (by omega), zu_s, if_neg (by omega), zu_s, if_neg (by omega)]; exact k3 5 (by decide)
    · rw [zu_s, if_neg (by omega), zu_s, if_neg (by omega), zu_s, if_pos rfl]
    · rw [zu_s, if_neg (by omega), zu_s, if_pos rfl]
    · rw [zu_s, if_neg (by omega), zu_s, if_neg (by omega), zu_s, if_neg (by omega), zu_s, if_neg (by omega), zu_s, if_neg (by omega), zu_s, if_neg (by omega), zu_s, if_neg (by omega), zu_s, if_neg (by omega)]; exact k3 8 (by decide)
    · rw [zu_s, if_neg (by omega), zu_s, if_neg (by omega), zu_s, if_neg (by omega), zu_s, if_neg (by omega), zu_s, if_neg (by omega), zu_s, if_neg (by omega), zu_s, if_neg (by omega), zu_s, if_neg (by omega)]; exact k3 9 (by decide)
