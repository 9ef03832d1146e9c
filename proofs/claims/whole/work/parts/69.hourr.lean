-- ===== an hour of the reference
theorem r_draw {I : MI} {L : ML} {u : Nat → Int32} (hI : I 150 = u) : f_X12_draw 100 I L = some (drw (nsd (u 13)), up2 I 150 13 (nsd (u 13)), L) := by
  unfold f_X12_draw
  rw [show (13 : Int32) = nI 13 from rfl, r_w (by decide), Option.bind_some, hI]
  show Option.bind (stI I 150 2143 (nI 13) (nsd (u 13))) (fun I2 => Option.bind (ldI I2 150 2143 (nI 13)) fun v3 => Option.bind (rmI ((v3 >>> ((16 : Int32) &&& 31)) &&& 32767) 100) fun v4 => some (v4, I2, L)) = _
  rw [stI_n (by decide) (by decide), Option.bind_some, r_w (by decide), Option.bind_some, zu_s, if_pos rfl]
  unfold rmI
  rw [if_neg (by decide), Option.bind_some]
  rfl
theorem r_sounds {c k : Nat} {I : MI} {L : ML} {u : Nat → Int32} (hw : WF c u) (hk : k < nw u 3) (hI : I 150 = u) : Tt (f_X12_sounds (nI k) I L) (fun t => t.1 = sndB u k ∧ t.2.2 = L ∧ t.2.1 150 = sdW u k ∧ ∀ q, q ≠ 150 → t.2.1 q = I q) := by
  have h12 := hw.2.2.1.1.2
  have h7 := hw.2.2.2.1.2.2.2.1
  have h71 := h7.1
  have h72 := h7.2
  have o : ∀ (J : MI), J 150 = u → ∀ j, j < 10 → f_X12_of (nI k) (nI j) J L = some (u (85 + 10 * k + j)) := fun J hJ j hj => r_ofw hJ (by omega) hj
  unfold f_X12_sounds f_X12_sounds_100 sndB
  rw [show f_X12_of (nI k) 0 I L = some (u (85 + 10 * k + 0)) from o I hI 0 (by decide), Option.bind_some]
  by_cases g0 : u (85 + 10 * k + 0) = 0
  · have sd : sdW u k = u := by unfold sdW; rw [if_neg (by rw [g0]; decide)]
    rw [if_pos g0, if_pos g0, show f_X12_of (nI k) 6 I L = some (u (85 + 10 * k + 6)) from o I hI 6 (by decide), Option.bind_some, show ldI I 150 2143 7 = some (u 7) by rw [← hI]; exact r_w (k := 7) (by decide), Option.bind_some, h71, r_has (by omega), Option.bind_some]
    exact Tt_some ⟨rfl, rfl, by rw [sd]; exact hI, fun _ _ => rfl⟩
  · rw [if_neg g0, if_neg g0]
    by_cases g1 : u (85 + 10 * k + 0) = 1
    · have sd : sdW u k = u := by unfold sdW; rw [if_neg (by rw [g1]; decide)]
      rw [if_pos g1, if_pos g1, show ldI I 150 2143 9 = some (u 9) by rw [← hI]; exact r_w (k := 9) (by decide), Option.bind_some]
      by_cases h9 : u 9 = 1
      · rw [if_pos h9, decide_eq_true h9]; exact Tt_some ⟨rfl, rfl, by rw [sd]; exact hI, fun _ _ => rfl⟩
      · rw [if_neg h9, decide_eq_false h9]; exact Tt_some ⟨rfl, rfl, by rw [sd]; exact hI, fun _ _ => rfl⟩
    · rw [if_neg g1, if_neg g1]
      by_cases g2 : u (85 + 10 * k + 0) = 2
      · have sd : sdW u k = setw u 13 (nsd (u 13)) := by unfold sdW; rw [if_pos g2]
        have e150 : up2 I 150 13 (nsd (u 13)) 150 = setw u 13 (nsd (u 13)) := up_150 hI
        have o6 : f_X12_of (nI k) 6 (up2 I 150 13 (nsd (u 13))) L = some (u (85 + 10 * k + 6)) := by
          have := r_of (I := up2 I 150 13 (nsd (u 13))) (L := L) (n := k) (k := 6) (by omega) (by decide)
          rw [e150, sw_n _ _ (by omega)] at this
          exact this
        rw [if_pos g2, if_pos g2, r_draw hI, Option.bind_some]
        show Tt (Option.bind (f_X12_of (nI k) 6 (up2 I 150 13 (nsd (u 13))) L) fun v8 => if v8 ≤ drw (nsd (u 13)) then some (false, up2 I 150 13 (nsd (u 13)), L) else some (true, up2 I 150 13 (nsd (u 13)), L)) _
        rw [o6, Option.bind_some]
        by_cases h9 : u (85 + 10 * k + 6) ≤ drw (nsd (u 13))
        · rw [if_pos h9, decide_eq_false (fun h8 => h8 h9)]
          exact Tt_some ⟨rfl, rfl, by rw [sd]; exact e150, fun q hq => zu_n _ _ _ hq⟩
        · rw [if_neg h9, decide_eq_true h9]
          exact Tt_some ⟨rfl, rfl, by rw [sd]; exact e150, fun q hq => zu_n _ _ _ hq⟩
      · have sd : sdW u k = u := by unfold sdW; rw [if_neg g2]
        rw [if_neg g2, if_neg g2, show f_X12_of (nI k) 9 I L = some (u (85 + 10 * k + 9)) from o I hI 9 (by decide), Option.bind_some]
        by_cases h9 : u (85 + 10 * k + 9) = 1
        · rw [if_pos h9, decide_eq_true h9]; exact Tt_some ⟨rfl, rfl, by rw [sd]; exact hI, fun _ _ => rfl⟩
        · rw [if_neg h9, decide_eq_false h9]; exact Tt_some ⟨rfl, rfl, by rw [sd]; exact hI, fun _ _ => rfl⟩
/-- what an hour may change of the reference -/
def rch (I J : MI) (L M : ML) : Prop := (∀ q, q ≠ 150 → q ≠ 157 → q ≠ 158 → J q = I q) ∧ ∀ q, q ≠ 159 → M q = L q
theorem rch_rf (I : MI) (L : ML) : rch I I L L := ⟨fun _ _ _ _ => rfl, fun _ _ => rfl⟩
theorem rch_tr {I J K : MI} {L M N : ML} (h1 : rch I J L M) (h2 : rch J K M N) : rch I K L N := ⟨fun q a b c => (h2.1 q a b c).trans (h1.1 q a b c), fun q a => (h2.2 q a).trans (h1.2 q a)⟩
theorem rch_up {k : Nat} {I : MI} {L : ML} {x : Int32} : rch I (up2 I 150 k x) L L := ⟨fun j h _ _ => zu_n _ _ _ h, fun _ _ => rfl⟩
theorem r_p27 {m : Nat} {sh : Nat → Nat} {v : Nat → Int32} {a : Int32} {J : MI} {L : ML} (hm : m ≤ 6) (hv : v 2 = nI m) (hJ : J 150 = v) (hL : ∀ e, e < m → L 159 e = nL (sh e)) (hsh : ∀ e, e < m → sh e < 2 ^ 31) : Tt (f_X12_pays_27 FU a 0 J L) (fun t => t.1 150 = setw (payH sh v m) 11 (v 11 + a) ∧ t.2 = L ∧ ∀ q, q ≠ 150 → t.1 q = J q) := by
  refine lp0 (fun fuel k (K : MI) => f_X12_pays_27 fuel a (nI k) K L) m (fun k K => K 150 = payH sh v k ∧ ∀ q, q ≠ 150 → K q = J q) (by omega) ?_ ?_ (s := J) ⟨hJ, fun _ _ => rfl⟩
  · intro fuel k K hk ⟨K1, K2⟩ hnx
    have h2 : K 150 2 = nI m := by rw [K1, payH_at k (by omega)]; exact hv
    show Tt (f_X12_pays_27 (fuel + 1) a (nI k) K L) _
    unfold f_X12_pays_27
    rw [r_m2 h2, Option.bind_some, if_neg (le_n (by omega) (by omega) hk), show f_X12_ofHeir (nI k) 2 K L = some (K 150 (67 + 3 * k + 2)) from r_heir (k := 2) (by omega) (by decide), Option.bind_some, ldL_n (show k < 6 by omega) (by decide), Option.bind_some, hL k hk, zL_32 (hsh k hk), show f_X12_setsHeir (nI k) 2 (K 150 (67 + 3 * k + 2) + nI (sh k)) K L = some (up2 K 150 (67 + 3 * k + 2) (K 150 (67 + 3 * k + 2) + nI (sh k)), L) from r_sth (k := 2) (by omega) (by decide), Option.bind_some, zI_1 k]
    refine hnx (up2 K 150 (67 + 3 * k + 2) (K 150 (67 + 3 * k + 2) + nI (sh k))) ⟨?_, fun q hq => by rw [zu_n _ _ _ hq]; exact K2 q hq⟩
    rw [up_150 K1, K1]; rfl
  · intro fuel K ⟨K1, K2⟩
    have h2 : K 150 2 = nI m := by rw [K1, payH_at m (by omega)]; exact hv
    show Tt (f_X12_pays_27 (fuel + 1) a (nI m) K L) _
    unfold f_X12_pays_27
    rw [r_m2 h2, Option.bind_some, if_pos (Int32.le_refl _), show ldI K 150 2143 11 = some (K 150 11) from r_w (k := 11) (by decide), Option.bind_some, show stI K 150 2143 11 (K 150 11 + a) = some (up2 K 150 11 (K 150 11 + a)) from stI_n (k := 11) (by decide) (by decide), Option.bind_some]
    refine Tt_some ⟨?_, rfl, fun q hq => ?_⟩
    · show up2 K 150 11 (K 150 11 + a) 150 = _
      rw [up_150 K1, K1, payH_at (p := 11) m (by omega)]
    · show up2 K 150 11 (K 150 11 + a) q = _
      rw [zu_n _ _ _ hq]; exact K2 q hq
theorem r_pays {c k : Nat} {I : MI} {L : ML} {u : Nat → Int32} (hw : WF c u) (hk : k < nw u 3) (hI : RW I u) : Tt (f_X12_pays (nI k) I L) (fun t => t.1 150 = payW u k ∧ rch I t.1 L t.2) := by
  have h12 := hw.2.2.1.1.2
  have h6 := hw.2.1.1.2
  have k4 := (hw.2.2.1.2 k hk).2.2.2.2.1
  have k41 := k4.1
  have k42 := k4.2
  have hch9 := ch_le (t := fun e => ttN u e k) (m := nw u 2) (amt := nw u (85 + 10 * k + 4))
  unfold f_X12_pays
  rw [show f_X12_of (nI k) 4 I L = some (u (85 + 10 * k + 4)) from r_ofw (k := 4) hI.1 (by omega) (by decide), Option.bind_some, show ldI I 150 2143 10 = some (u 10) by rw [← hI.1]; exact r_w (k := 10) (by decide), Option.bind_some]
  have hamt : (u (85 + 10 * k + 4)).toInt64 = nL (nw u (85 + 10 * k + 4)) := by rw [k41]; exact zL_i (by omega)
  rw [hamt]
  refine Tt_bind (Tt_mono (r_prt hw hI hk (show nw u (85 + 10 * k + 4) ≤ 200000000 by omega)) ?_)
  intro t ⟨t1, t2, t3, t4⟩
  have i1 : t.2.1 150 = u := (t2 150 (by decide) (by decide)).trans hI.1
  rw [t1, zL_32 (by omega), show stI t.2.1 150 2143 10 (u 10 + nI (chN (fun e => ttN u e k) (nw u 2) (nw u (85 + 10 * k + 4)))) = some (up2 t.2.1 150 10 (u 10 + nI (chN (fun e => ttN u e k) (nw u 2) (nw u (85 + 10 * k + 4))))) from stI_n (k := 10) (by decide) (by decide), Option.bind_some]
  refine Tt_mono (r_p27 (m := nw u 2) (sh := shN (fun e => ttN u e k) (nw u 2) (nw u (85 + 10 * k + 4))) h6 ?_ (up_150 i1) t4 (fun e he => ?_)) ?_
  · rw [sw_n _ _ (by decide)]; exact hw.2.1.1.1
  · have := sh_le (t := fun e => ttN u e k) (amt := nw u (85 + 10 * k + 4)) he
    omega
  · intro r ⟨r1, r2, r3⟩
    refine ⟨?_, ⟨fun q h1 h2 h3 => ?_, fun q hq => ?_⟩⟩
    · rw [r1]
      unfold payW payP
      rw [payH_set _ (by omega), sw_n u _ (show 11 ≠ 10 by decide)]
    · rw [r3 q h1, zu_n _ _ _ h1]; exact t2 q h2 h3
    · rw [r2]; exact t3 q hq
theorem r_no62 {k : Nat} {J : MI} {L : ML} {v : Nat → Int32} {k30 : Int32 → MI → ML → Option (MI × ML)} (hJ : J 150 = v) (hk : k < 12) (h6 : v 6 = nI (nw v 6)) (h7 : v 7 = nI (nw v 7)) : ∃ K, f_X12_hour_62 k30 (nI k) J L = k30 (nI (k + 1)) K L ∧ K 150 = noW v k ∧ ∀ q, q ≠ 150 → K q = J q := by
  refine ⟨up2 (up2 (up2 J 150 (85 + 10 * k + 7) (nI (tm v))) 150 (85 + 10 * k + 8) (v (85 + 10 * k + 8) + 1)) 150 12 (v 12 + 1), ?_, ?_, fun q hq => by rw [zu_n _ _ _ hq, zu_n _ _ _ hq, zu_n _ _ _ hq]⟩
  · unfold f_X12_hour_62 f_X12_hour_114
    have e1 := up_150 (p := 85 + 10 * k + 7) (x := nI (tm v)) hJ
    have e2 := up_150 (p := 85 + 10 * k + 8) (x := v (85 + 10 * k + 8) + 1) e1
    rw [show ldI J 150 2143 6 = some (v 6) by rw [← hJ]; exact r_w (k := 6) (by decide), Option.bind_some, show ldI J 150 2143 7 = some (v 7) by rw [← hJ]; exact r_w (k := 7) (by decide), Option.bind_some, h6, h7, show (24 : Int32) = nI 24 from rfl, zI_mul, zI_add, show 24 * nw v 6 + nw v 7 = tm v from rfl, show f_X12_sets (nI k) 7 (nI (tm v)) J L = some (up2 J 150 (85 + 10 * k + 7) (nI (tm v)), L) from r_st (k := 7) hk (by decide), Option.bind_some]
    dsimp only
    rw [show f_X12_of (nI k) 8 (up2 J 150 (85 + 10 * k + 7) (nI (tm v))) L = some (v (85 + 10 * k + 8)) by
      rw [show (8 : Int32) = nI 8 from rfl, r_of hk (by decide), e1, sw_n _ _ (by omega)], Option.bind_some, show f_X12_sets (nI k) 8 (v (85 + 10 * k + 8) + 1) (up2 J 150 (85 + 10 * k + 7) (nI (tm v))) L = some (up2 (up2 J 150 (85 + 10 * k + 7) (nI (tm v))) 150 (85 + 10 * k + 8) (v (85 + 10 * k + 8) + 1), L) from r_st (k := 8) hk (by decide), Option.bind_some]
    dsimp only
    rw [show ldI (up2 (up2 J 150 (85 + 10 * k + 7) (nI (tm v))) 150 (85 + 10 * k + 8) (v (85 + 10 * k + 8) + 1)) 150 2143 12 = some (v 12) by
      rw [show (12 : Int32) = nI 12 from rfl, r_w (by decide), e2, sw_n _ _ (by omega), sw_n _ _ (by omega)], Option.bind_some, show stI (up2 (up2 J 150 (85 + 10 * k + 7) (nI (tm v))) 150 (85 + 10 * k + 8) (v (85 + 10 * k + 8) + 1)) 150 2143 12 (v 12 + 1) = some _ from stI_n (k := 12) (by decide) (by decide), Option.bind_some, zI_1 k]
  · exact up_150 (up_150 (up_150 hJ))
theorem clr_eq {u : Nat → Int32} {k j : Nat} : clr u k j = if 85 ≤ j ∧ j < 85 + 10 * k ∧ (j - 85) % 10 = 9 then 0 else u j := by
  by_cases h : 85 ≤ j ∧ j < 85 + 10 * k ∧ (j - 85) % 10 = 9
  · rw [if_pos h, show j = 85 + 10 * ((j - 85) / 10) + 9 by omega]
    exact clr_in k (by omega)
  · rw [if_neg h]; exact clr_at k (by omega)
/-- the end of an hour, the reference -/
theorem r_185 {c : Nat} {J : MI} {L : ML} {u : Nat → Int32} (hc6 : c ≤ 601) (hw : WF c u) (hJ : ∀ j, J 150 j = if 211 ≤ j ∧ j < 445 then clr u (nw u 3) (j - 6) else clr u (nw u 3) j) : Tt (f_X12_hour_185 FU 0 J L) (fun t => t.1 150 = endW u ∧ (∀ q, q ≠ 150 → t.1 q = J q) ∧ t.2 = L) := by
  have h12 := hw.2.2.1.1.2
  have h6 := hw.2.1.1.2
  have z2 := hw.2.1.1.1
  have ht := hw.2.2.2.1
  have t6 := ht.2.2.1
  have t7 := ht.2.2.2.1.1
  have t72 := ht.2.2.2.1.2
  have tb := ht.2.2.2.2.1
  have b6 : nw u 6 < 2 ^ 31 - 1 := by unfold tm at tb; omega
  have t14 := ht.2.2.2.2.2.2.2.1
  refine lp0 (fun fuel k (K : MI) => f_X12_hour_185 fuel (nI k) K L) 6 (fun k K => (∀ q, q ≠ 150 → K q = J q) ∧ ∀ j, K 150 j = if 205 ≤ j ∧ j < 205 + k then (if j - 205 < nw u 2 then u (67 + 3 * (j - 205) + 0) else -1) else J 150 j) (by decide) ?_ ?_ (s := J) ⟨fun _ _ => rfl, fun j => by rw [if_neg (by omega)]⟩
  · intro fuel k K hk ⟨K1, K2⟩ hnx
    have e2 : K 150 2 = nI (nw u 2) := by
      rw [K2 2, if_neg (by omega), hJ 2, if_neg (by omega), clr_at _ (by omega)]; exact z2
    have eh : K 150 (67 + 3 * k + 0) = u (67 + 3 * k + 0) := by
      rw [K2, if_neg (by omega), hJ, if_neg (by omega), clr_at _ (by omega)]
    show Tt (f_X12_hour_185 (fuel + 1) (nI k) K L) _
    unfold f_X12_hour_185 f_X12_hour_218
    rw [show (6 : Int32) = nI 6 from rfl, if_neg (le_n (by decide) (by omega) hk), r_m2 e2, Option.bind_some, show (205 : Int32) = nI 205 from rfl, zI_add, stI_n (show 205 + k < 2143 by omega) (by decide), Option.bind_some, show f_X12_ofHeir (nI k) 0 K L = some (K 150 (67 + 3 * k + 0)) from r_heir (k := 0) (by omega) (by decide), Option.bind_some, stI_n (show 205 + k < 2143 by omega) (by decide), Option.bind_some, eh, zI_1 k]
    have nx : ∀ x, (x = if k < nw u 2 then u (67 + 3 * k + 0) else -1) → Tt (f_X12_hour_185 fuel (nI (k + 1)) (up2 K 150 (205 + k) x) L) (fun t => t.1 150 = endW u ∧ (∀ q, q ≠ 150 → t.1 q = J q) ∧ t.2 = L) := by
      intro x hx
      refine hnx _ ⟨fun q hq => by rw [zu_n _ _ _ hq]; exact K1 q hq, fun j => ?_⟩
      rw [zu_s]
      by_cases h9 : j = 205 + k
      · rw [if_pos h9, if_pos (by omega), hx, show j - 205 = k by omega]
      · rw [if_neg h9, K2 j]
        by_cases h8 : 205 ≤ j ∧ j < 205 + k
        · rw [if_pos h8, if_pos (show 205 ≤ j ∧ j < 205 + (k + 1) by omega)]
        · rw [if_neg h8, if_neg (show ¬ (205 ≤ j ∧ j < 205 + (k + 1)) by omega)]
    by_cases h9 : nw u 2 ≤ k
    · rw [if_pos ((zI_le (by omega) (by omega)).mpr h9)]
      exact nx _ (by rw [if_neg (by omega)])
    · rw [if_neg (fun h8 => h9 ((zI_le (by omega) (by omega)).mp h8))]
      exact nx _ (by rw [if_pos (by omega)])
  · intro fuel K ⟨K1, K2⟩
    have lo : ∀ j, j < 85 → K 150 j = u j := fun j hj => by rw [K2, if_neg (by omega), hJ, if_neg (by omega), clr_at _ (by omega)]
    show Tt (f_X12_hour_185 (fuel + 1) (nI 6) K L) _
    unfold f_X12_hour_185
    rw [show (6 : Int32) = nI 6 from rfl, if_pos (Int32.le_refl _), show ldI K 150 2143 14 = some (K 150 14) from r_w (k := 14) (by decide), Option.bind_some, lo 14 (by decide), t14, zI_1, show (40 : Int32) = nI 40 from rfl]
    have g14 : (if nI (min 40 (tm u) + 1) < nI 40 then nI (min 40 (tm u) + 1) else nI 40) = nI (min 40 (tm u + 1)) := by
      by_cases h9 : min 40 (tm u) + 1 < 40
      · rw [if_pos ((zI_lt (by omega) (by decide)).mpr h9)]; congr 1; omega
      · rw [if_neg (fun h8 => h9 ((zI_lt (by omega) (by decide)).mp h8))]; congr 1; omega
    rw [g14, show stI K 150 2143 14 (nI (min 40 (tm u + 1))) = some (up2 K 150 14 (nI (min 40 (tm u + 1)))) from stI_n (k := 14) (by decide) (by decide), Option.bind_some]
    have f7 : up2 K 150 14 (nI (min 40 (tm u + 1))) 150 7 = nI (nw u 7) := by rw [zu_s, if_neg (by decide), lo 7 (by decide)]; exact t7
    rw [show ldI (up2 K 150 14 (nI (min 40 (tm u + 1)))) 150 2143 7 = some (up2 K 150 14 (nI (min 40 (tm u + 1))) 150 7) from r_w (k := 7) (by decide), Option.bind_some, f7, zI_1, show stI (up2 K 150 14 (nI (min 40 (tm u + 1)))) 150 2143 7 (nI (nw u 7 + 1)) = some (up2 (up2 K 150 14 (nI (min 40 (tm u + 1)))) 150 7 (nI (nw u 7 + 1))) from stI_n (k := 7) (by decide) (by decide), Option.bind_some, show ldI (up2 (up2 K 150 14 (nI (min 40 (tm u + 1)))) 150 7 (nI (nw u 7 + 1))) 150 2143 7 = some (up2 (up2 K 150 14 (nI (min 40 (tm u + 1)))) 150 7 (nI (nw u 7 + 1)) 150 7) from r_w (k := 7) (by decide), Option.bind_some, zu_s, if_pos (show 7 = 7 from rfl), show (24 : Int32) = nI 24 from rfl]
    have fin9 : ∀ (x6 x7 : Int32) (R : MI), (∀ j, R 150 j = if j = 14 then nI (min 40 (tm u + 1)) else if j = 7 then x7 else if j = 6 then x6 else K 150 j) → (x7 = if nw u 7 = 23 then 0 else nI (nw u 7 + 1)) → (x6 = if nw u 7 = 23 then nI (nw u 6 + 1) else u 6) → R 150 = endW u := by
      intro x6 x7 R hR h7 h6'
      funext j
      rw [hR j]
      unfold endW
      by_cases a14 : j = 14
      · rw [if_pos a14, if_pos a14]
      · rw [if_neg a14, if_neg a14]
        by_cases a7 : j = 7
        · rw [if_pos a7, if_pos a7, h7]
        · rw [if_neg a7, if_neg a7]
          by_cases a6 : j = 6
          · rw [if_pos a6, if_pos a6, h6']
          · rw [if_neg a6, if_neg a6, K2 j, hJ j, clr_eq, clr_eq]
            by_cases m9 : 85 ≤ j ∧ j < 85 + 10 * nw u 3 ∧ (j - 85) % 10 = 9
            · rw [if_neg (show ¬ (205 ≤ j ∧ j < 205 + 6) by omega), if_neg (show ¬ (211 ≤ j ∧ j < 445) by omega), if_pos m9, if_pos m9]
            · by_cases p1 : 211 ≤ j ∧ j < 445
              · rw [if_neg (show ¬ (205 ≤ j ∧ j < 205 + 6) by omega), if_pos p1, if_neg (show ¬ (85 ≤ j - 6 ∧ j - 6 < 85 + 10 * nw u 3 ∧ (j - 6 - 85) % 10 = 9) by omega), if_neg m9, if_pos p1]
              · by_cases p0 : 205 ≤ j ∧ j < 211
                · rw [if_pos (show 205 ≤ j ∧ j < 205 + 6 by omega), if_neg m9, if_neg p1, if_pos p0]
                · rw [if_neg (show ¬ (205 ≤ j ∧ j < 205 + 6) by omega), if_neg p1, if_neg m9, if_neg m9, if_neg p1, if_neg p0]
    by_cases h23 : nw u 7 = 23
    · rw [if_pos (by rw [zI_le (by decide) (by omega)]; omega), show stI (up2 (up2 K 150 14 (nI (min 40 (tm u + 1)))) 150 7 (nI (nw u 7 + 1))) 150 2143 7 0 = some (up2 (up2 (up2 K 150 14 (nI (min 40 (tm u + 1)))) 150 7 (nI (nw u 7 + 1))) 150 7 0) from stI_n (k := 7) (by decide) (by decide), Option.bind_some]
      have f6 : up2 (up2 (up2 K 150 14 (nI (min 40 (tm u + 1)))) 150 7 (nI (nw u 7 + 1))) 150 7 0 150 6 = nI (nw u 6) := by
        rw [zu_s, if_neg (by decide), zu_s, if_neg (by decide), zu_s, if_neg (by decide), lo 6 (by decide)]; exact t6
      rw [show ldI (up2 (up2 (up2 K 150 14 (nI (min 40 (tm u + 1)))) 150 7 (nI (nw u 7 + 1))) 150 7 0) 150 2143 (nI 6) = some _ from r_w (k := 6) (by decide), Option.bind_some, f6, zI_1, stI_n (k := 6) (by decide) (by decide), Option.bind_some]
      refine Tt_some ⟨fin9 (nI (nw u 6 + 1)) 0 _ (fun j => ?_) (by rw [if_pos h23]) (by rw [if_pos h23]), fun q hq => ?_, rfl⟩
      · show up2 (up2 (up2 (up2 K 150 14 (nI (min 40 (tm u + 1)))) 150 7 (nI (nw u 7 + 1))) 150 7 0) 150 6 (nI (nw u 6 + 1)) 150 j = _
        rw [zu_s, zu_s, zu_s, zu_s]
        by_cases a14 : j = 14
        · rw [if_neg (by omega), if_neg (by omega), if_neg (by omega), if_pos a14, if_pos a14]
        · by_cases a7 : j = 7
          · rw [if_neg (by omega), if_pos a7, if_neg a14, if_pos a7]
          · by_cases a6 : j = 6
            · rw [if_pos a6, if_neg a14, if_neg a7, if_pos a6]
            · rw [if_neg a6, if_neg a7, if_neg a7, if_neg a14, if_neg a14, if_neg a7, if_neg a6]
      · show up2 (up2 (up2 (up2 K 150 14 _) 150 7 _) 150 7 _) 150 6 _ q = _
        rw [zu_n _ _ _ hq, zu_n _ _ _ hq, zu_n _ _ _ hq, zu_n _ _ _ hq]; exact K1 q hq
    · rw [if_neg (by rw [zI_le (by decide) (by omega)]; omega)]
      refine Tt_some ⟨fin9 (u 6) (nI (nw u 7 + 1)) _ (fun j => ?_) (by rw [if_neg h23]) (by rw [if_neg h23]), fun q hq => ?_, rfl⟩
      · show up2 (up2 K 150 14 (nI (min 40 (tm u + 1)))) 150 7 (nI (nw u 7 + 1)) 150 j = _
        rw [zu_s, zu_s]
        by_cases a14 : j = 14
        · rw [if_neg (by omega), if_pos a14, if_pos a14]
        · by_cases a7 : j = 7
          · rw [if_pos a7, if_neg a14, if_pos a7]
          · rw [if_neg a7, if_neg a14, if_neg a14, if_neg a7]
            by_cases a6 : j = 6
            · rw [if_pos a6, a6]; exact lo 6 (by decide)
            · rw [if_neg a6]
      · show up2 (up2 K 150 14 _) 150 7 _ q = _
        rw [zu_n _ _ _ hq, zu_n _ _ _ hq]; exact K1 q hq
theorem r_148 {c : Nat} {J : MI} {L : ML} {u : Nat → Int32} (hc6 : c ≤ 601) (hw : WF c u) (hJ : J 150 = clr u (nw u 3)) : Tt (f_X12_hour_148 FU 239 J L) (fun t => t.1 150 = endW u ∧ (∀ q, q ≠ 150 → t.1 q = J q) ∧ t.2 = L) := by
  refine lp0 (fun fuel k (K : MI) => f_X12_hour_148 fuel (nI (239 - k)) K L) 234 (fun k K => (∀ q, q ≠ 150 → K q = J q) ∧ ∀ j, K 150 j = if 444 - k < j ∧ j < 445 then J 150 (j - 6) else J 150 j) (by decide) ?_ ?_ (s := J) ⟨fun _ _ => rfl, fun j => by rw [if_neg (by omega)]⟩
  · intro fuel k K hk ⟨K1, K2⟩ hnx
    obtain ⟨i, hi⟩ : ∃ i, 239 - k = i + 6 := ⟨233 - k, by omega⟩
    have hi2 : 239 - (k + 1) = i + 5 := by omega
    show Tt (f_X12_hour_148 (fuel + 1) (nI (239 - k)) K L) _
    unfold f_X12_hour_148
    have e6 : (205 : Int32) + nI (i + 6) - 6 = nI (205 + i) := by
      rw [show (205 : Int32) = nI 205 from rfl, show (6 : Int32) = nI 6 from rfl, zI_add, zI_sub (by omega), show 205 + (i + 6) - 6 = 205 + i by omega]
    rw [hi, if_neg (by rw [show (6 : Int32) = nI 6 from rfl, zI_lt (by omega) (by decide)]; omega), e6, r_w (by omega), Option.bind_some, show (205 : Int32) + nI (i + 6) = nI (205 + (i + 6)) from zI_add 205 (i + 6), stI_n (by omega) (by decide), Option.bind_some, show nI (i + 6) + (-1) = nI (i + 5) from zI_m1 (i + 5), ← hi2]
    refine hnx _ ⟨fun q hq => by rw [zu_n _ _ _ hq]; exact K1 q hq, fun j => ?_⟩
    rw [zu_s]
    by_cases h9 : j = 205 + (i + 6)
    · rw [if_pos h9, if_pos (by omega), K2, if_neg (by omega), show j - 6 = 205 + i by omega]
    · rw [if_neg h9, K2 j]
      by_cases h8 : 444 - k < j ∧ j < 445
      · rw [if_pos h8, if_pos (by omega)]
      · rw [if_neg h8, if_neg (by omega)]
  · intro fuel K ⟨K1, K2⟩
    show Tt (f_X12_hour_148 (fuel + 1) (nI 5) K L) _
    unfold f_X12_hour_148
    rw [if_pos (by decide)]
    refine Tt_mono (r_185 hc6 hw (J := K) (fun j => ?_)) ?_
    · rw [K2 j, hJ]
      by_cases h8 : 211 ≤ j ∧ j < 445
      · rw [if_pos h8, if_pos (by omega)]
      · rw [if_neg h8, if_neg (by omega)]
    · intro t ⟨t1, t2, t3⟩
      exact ⟨t1, fun q hq => (t2 q hq).trans (K1 q hq), t3⟩
theorem r_122 {c : Nat} {J : MI} {L : ML} {u : Nat → Int32} (hc6 : c ≤ 601) (hw : WF c u) (hJ : J 150 = u) : Tt (f_X12_hour_122 FU 0 J L) (fun t => t.1 150 = endW u ∧ (∀ q, q ≠ 150 → t.1 q = J q) ∧ t.2 = L) := by
  have h12 := hw.2.2.1.1.2
  have n3 : ∀ (K : MI) k, K 150 = clr u k → f_X12_noises K L = some (nI (nw u 3)) := fun K k hK => by
    unfold f_X12_noises
    rw [show (3 : Int32) = nI 3 from rfl, r_w (by decide), Option.bind_some, hK, clr_at k (by omega), ← hw.2.2.1.1.1]
  refine lp0 (fun fuel k (K : MI) => f_X12_hour_122 fuel (nI k) K L) (nw u 3) (fun k K => (∀ q, q ≠ 150 → K q = J q) ∧ K 150 = clr u k) (by omega) ?_ ?_ (s := J) ⟨fun _ _ => rfl, hJ⟩
  · intro fuel k K hk ⟨K1, K2⟩ hnx
    show Tt (f_X12_hour_122 (fuel + 1) (nI k) K L) _
    unfold f_X12_hour_122
    rw [n3 K k K2, Option.bind_some, if_neg (le_n (by omega) (by omega) hk), show f_X12_sets (nI k) 9 0 K L = some (up2 K 150 (85 + 10 * k + 9) 0, L) from r_st (k := 9) (by omega) (by decide), Option.bind_some, zI_1 k]
    exact hnx (up2 K 150 (85 + 10 * k + 9) 0) ⟨fun q hq => by rw [zu_n _ _ _ hq]; exact K1 q hq, up_150 K2⟩
  · intro fuel K ⟨K1, K2⟩
    show Tt (f_X12_hour_122 (fuel + 1) (nI (nw u 3)) K L) _
    unfold f_X12_hour_122
    rw [n3 K _ K2, Option.bind_some, if_pos (Int32.le_refl _)]
    refine Tt_mono (r_148 hc6 hw K2) ?_
    intro t ⟨t1, t2, t3⟩
    exact ⟨t1, fun q hq => (t2 q hq).trans (K1 q hq), t3⟩
theorem r_hour {c : Nat} {I : MI} {L : ML} {w : Nat → Int32} (hc6 : c ≤ 601) (hw : WF c w) (hI : RW I w) : Tt (f_X12_hour I L) (fun t => t.1 150 = hourW w ∧ rch I t.1 L t.2) := by
  have h12 := hw.2.2.1.1.2
  have hw1 : WF c (setw w 13 (nsd (w 13))) := WF_free _ (by omega) hw
  have hws : WF c (stW w) := WF_storm _ hw1
  have s9 : ∀ k, k ≠ 13 → k ≠ 9 → stW w k = w k := fun k h1 h2 => by unfold stW; rw [sw_n _ _ h2, sw_n _ _ h1]
  have q3 : nw (stW w) 3 = nw w 3 := nwe (s9 3 (by decide) (by decide))
  have csS : cs (stW w) = cs w := cs_cg hw.1 (s9 1 (by decide) (by decide)) (fun k _ _ => s9 k (by omega) (by omega))
  have start : Tt (f_X12_hour_27 9 (decide (¬ w 8 ≤ drw (nsd (w 13)))) (up2 I 150 13 (nsd (w 13))) L) (fun t => t.1 150 = hourW w ∧ rch I t.1 L t.2) := by
    unfold f_X12_hour_27
    rw [show stI (up2 I 150 13 (nsd (w 13))) 150 2143 9 (bI (decide (¬ w 8 ≤ drw (nsd (w 13))))) = some (up2 (up2 I 150 13 (nsd (w 13))) 150 9 (bI (decide (¬ w 8 ≤ drw (nsd (w 13)))))) from stI_n (k := 9) (by decide) (by decide), Option.bind_some]
    have e0 : up2 (up2 I 150 13 (nsd (w 13))) 150 9 (bI (decide (¬ w 8 ≤ drw (nsd (w 13))))) 150 = stW w := up_150 (up_150 hI.1)
    have c0 : rch I (up2 (up2 I 150 13 (nsd (w 13))) 150 9 (bI (decide (¬ w 8 ≤ drw (nsd (w 13)))))) L L := rch_tr rch_up rch_up
    generalize up2 (up2 I 150 13 (nsd (w 13))) 150 9 (bI (decide (¬ w 8 ≤ drw (nsd (w 13))))) = J2 at e0 c0 ⊢
    refine lp0 (fun fuel k (s : MI × ML) => f_X12_hour_30 fuel (nI k) s.1 s.2) (nw w 3) (fun k s => s.1 150 = noiW (stW w) k ∧ rch I s.1 L s.2) (by omega) ?_ ?_ (s := (J2, L)) ⟨e0, c0⟩
    · intro fuel k s hk ⟨s1, s2⟩ hnx
      obtain ⟨K, N⟩ := s
      dsimp only at s1 s2
      obtain ⟨hwu, equ⟩ := WF_noi (c := c) hc6 hws k (by omega)
      have u3 : nw (noiW (stW w) k) 3 = nw w 3 := (nwe (equ 3 (by omega))).trans q3
      have rw_of : ∀ (X : MI) (v : Nat → Int32), X 150 = v → X 156 = K 156 → EQt (noiW (stW w) k) v → RW X v := fun X v h1 h2 h3 => ⟨h1, fun j hj => by
        rw [h2, s2.1 156 (by decide) (by decide) (by decide), hI.2 j hj, EQ_cs hwu.1 h3, EQ_cs hws.1 equ, csS]⟩
      show Tt (f_X12_hour_30 (fuel + 1) (nI k) K N) _
      unfold f_X12_hour_30
      rw [r_n3 hwu s1, Option.bind_some, u3, if_neg (le_n (by omega) (by omega) hk)]
      refine Tt_bind (Tt_mono (r_sounds hwu (by omega) s1) ?_)
      intro t ⟨t1, t2, t3, t4⟩
      have ct : rch I t.2.1 L N := rch_tr s2 ⟨fun q h1 _ _ => t4 q h1, fun _ _ => rfl⟩
      rw [t1, t2]
      by_cases hx : sndB (noiW (stW w) k) k = true
      · have hw2 := WF_sd (n := k) hwu
        have q2 : EQt (noiW (stW w) k) (sdW (noiW (stW w) k) k) := EQ_sd
        have k2 : nw (sdW (noiW (stW w) k) k) 3 = nw w 3 := (nwe (q2 3 (by omega))).trans u3
        have hRT : RW t.2.1 (sdW (noiW (stW w) k) k) := rw_of _ _ t3 (t4 156 (by decide)) q2
        rw [if_pos hx, r_heard hw2 hRT (by omega), Option.bind_some]
        by_cases hy : hrd (sdW (noiW (stW w) k) k) k = true
        · have ns : nstep (noiW (stW w) k) k = noW (payW (sdW (noiW (stW w) k) k) k) k := by unfold nstep; rw [if_pos hx, if_pos hy]
          rw [if_pos hy]
          refine Tt_bind (Tt_mono (r_pays hw2 (by omega) hRT) ?_)
          intro r ⟨r1, r2⟩
          have hw3 : WF c (payW (sdW (noiW (stW w) k) k) k) := WF_payP hw2 (Nat.le_refl _)
          obtain ⟨R, z1, z2, z3⟩ := r_no62 (k := k) (J := r.1) (L := r.2) (k30 := f_X12_hour_30 fuel) r1 (by omega) hw3.2.2.2.1.2.2.1 hw3.2.2.2.1.2.2.2.1.1
          rw [z1]
          refine hnx (R, r.2) ⟨?_, rch_tr ct (rch_tr r2 ⟨fun q h1 _ _ => z3 q h1, fun _ _ => rfl⟩)⟩
          show R 150 = nstep (noiW (stW w) k) k
          rw [ns, z2]
        · have ns : nstep (noiW (stW w) k) k = noW (sdW (noiW (stW w) k) k) k := by unfold nstep; rw [if_pos hx, if_neg hy]
          rw [if_neg hy]
          obtain ⟨R, z1, z2, z3⟩ := r_no62 (k := k) (J := t.2.1) (L := N) (k30 := f_X12_hour_30 fuel) t3 (by omega) hw2.2.2.2.1.2.2.1 hw2.2.2.2.1.2.2.2.1.1
          rw [z1]
          refine hnx (R, N) ⟨?_, rch_tr ct ⟨fun q h1 _ _ => z3 q h1, fun _ _ => rfl⟩⟩
          show R 150 = nstep (noiW (stW w) k) k
          rw [ns, z2]
      · have ns : nstep (noiW (stW w) k) k = sdW (noiW (stW w) k) k := by unfold nstep; rw [if_neg hx]
        rw [if_neg hx]
        unfold f_X12_hour_114
        rw [zI_1 k]
        refine hnx (t.2.1, N) ⟨?_, ct⟩
        show t.2.1 150 = nstep (noiW (stW w) k) k
        rw [ns]; exact t3
    · intro fuel s ⟨s1, s2⟩
      obtain ⟨K, N⟩ := s
      dsimp only at s1 s2
      obtain ⟨hwu, equ⟩ := WF_noi (c := c) hc6 hws (nw w 3) (by omega)
      have u3 : nw (noiW (stW w) (nw w 3)) 3 = nw w 3 := (nwe (equ 3 (by omega))).trans q3
      show Tt (f_X12_hour_30 (fuel + 1) (nI (nw w 3)) K N) _
      unfold f_X12_hour_30
      rw [r_n3 hwu s1, Option.bind_some, u3, if_pos (Int32.le_refl _)]
      refine Tt_mono (r_122 hc6 hwu s1) ?_
      intro t ⟨t1, t2, t3⟩
      exact ⟨t1, rch_tr s2 ⟨fun q h1 _ _ => t2 q h1, fun q _ => by rw [t3]⟩⟩
  unfold f_X12_hour
  rw [r_draw hI.1, Option.bind_some]
  have e8 : ldI (up2 I 150 13 (nsd (w 13))) 150 2143 8 = some (w 8) := by
    rw [show (8 : Int32) = nI 8 from rfl, r_w (by decide), up_150 hI.1, sw_n _ _ (by decide)]
  show Tt (Option.bind (ldI (up2 I 150 13 (nsd (w 13))) 150 2143 8) fun v2 => if v2 ≤ drw (nsd (w 13)) then f_X12_hour_27 9 false (up2 I 150 13 (nsd (w 13))) L else f_X12_hour_27 9 true (up2 I 150 13 (nsd (w 13))) L) _
  rw [e8, Option.bind_some]
  by_cases h9 : w 8 ≤ drw (nsd (w 13))
  · rw [if_pos h9]
    rw [decide_eq_false (fun h8 => h8 h9)] at start
    exact start
  · rw [if_neg h9]
    rw [decide_eq_true h9] at start
    exact start
-- ===== hours
noncomputable def itr (w : Nat → Int32) : Nat → Nat → Int32
  | 0 => w
  | k + 1 => hourW (itr w k)
theorem WF_hour {c : Nat} {w : Nat → Int32} (hc6 : c ≤ 601) (hw : WF c w) (hT : tm w + 1 ≤ 240 * c) : WF c (hourW w) ∧ tm (hourW w) = tm w + 1 ∧ cs (hourW w) = cs w := by
  have h12 := hw.2.2.1.1.2
  have hws : WF c (stW w) := WF_storm _ (WF_free _ (by omega) hw)
  have s9 : ∀ k, k ≠ 13 → k ≠ 9 → stW w k = w k := fun k h1 h2 => by unfold stW; rw [sw_n _ _ h2, sw_n _ _ h1]
  have q3 : nw (stW w) 3 = nw w 3 := nwe (s9 3 (by decide) (by decide))
  obtain ⟨hwu, equ⟩ := WF_noi (c := c) hc6 hws (nw w 3) (by omega)
  have tu : tm (noiW (stW w) (nw w 3)) = tm w := (tm_cg (equ 6 (by omega)) (equ 7 (by omega))).trans (tm_cg (s9 6 (by decide) (by decide)) (s9 7 (by decide) (by decide)))
  have u12 := hwu.2.2.1.1.2
  refine ⟨WF_end hc6 hwu (by omega), (en_tm hc6 hwu.2.2.2.1).trans (by rw [tu]), ?_⟩
  have c1 : cs (hourW w) = cs (noiW (stW w) (nw w 3)) := cs_cg hwu.1 (en_at (by omega) (by omega) (by omega) (by omega) (by omega)) (fun k _ _ => en_at (by omega) (by omega) (by omega) (by omega) (by omega))
  rw [c1, EQ_cs hws.1 equ]
  exact cs_cg hw.1 (s9 1 (by decide) (by decide)) (fun k _ _ => s9 k (by omega) (by omega))
theorem WF_itr {c : Nat} {w : Nat → Int32} (hc6 : c + 1 ≤ 601) (hw : WF c w) : ∀ k, k ≤ 240 → WF (c + 1) (itr w k) ∧ tm (itr w k) = tm w + k ∧ cs (itr w k) = cs w := by
  have ht := hw.2.2.2.1.2.2.2.2.1
  intro k
  induction k with
  | zero => intro _; exact ⟨WF_up hw, rfl, rfl⟩
  | succ k ih =>
    intro hk
    obtain ⟨h1, h2, h3⟩ := ih (by omega)
    obtain ⟨g1, g2, g3⟩ := WF_hour hc6 h1 (by omega)
    exact ⟨g1, by show tm (hourW (itr w k)) = _; omega, g3.trans h3⟩
theorem C_hours {c : Nat} {I : MI} {L : ML} {A : AS} (hc6 : c + 1 ≤ 600) (hA : AI c A) (hC : CI9 I L A) (hR : RI9 I L A) (x : Int32) : ∃ I' L', SI [IAE] (f_X11_hours x I L) (f_X12_hours x) I' L' ∧ Inv9 (c + 1) I' L' := by
  obtain ⟨h, d, hd, cj⟩ := id hC
  obtain ⟨e, cr, e0, e2, e3⟩ := C_n hA cj
  obtain ⟨b1, b2, b3, b4, b5⟩ := HD_b hd
  by_cases hx : ¬ x < 1 ∧ ¬ 240 < x
  · obtain ⟨n, hn1, hn, rfl⟩ := rng_t (a := 1) (b := 240) (by decide) (by decide) hx
    obtain ⟨hwn, -⟩ := WF_itr (by omega) hA.1 n hn
    have hA' : AI (c + 1) (nwA A (itr A.1 n) []) := ⟨hwn, fun v hv => WF_up (hA.2.1 v hv), hA.2.2.1, hA.2.2.2.1, Nat.zero_le _, fun a ha => absurd ha List.not_mem_nil⟩
    refine fin hA' (mkSI (res := .inr (itr A.1 n 12 - A.1 12)) hR ?_ ?_)
    · have e4 : up2 I 3 4 0 0 4 = nI h := by rw [zu_n _ _ _ (by decide)]; exact e
      have e17 : up2 I 3 4 0 h 17 = A.1 12 := by rw [zu_n _ _ _ (by omega)]; exact cr.2.2.2.1.2.2.2.2.2.2.1
      have cr0 : CR h (up2 I 3 4 0) L A.1 := CR_cg (fun k h1 h2 => zu_n _ _ _ (by omega)) rfl cr
      unfold f_X11_hours
      rw [ite2_t hx]
      unfold f_X11_hours_17 f_X0_forget
      rw [c_need_t, Option.bind_some, xc_r, pfe, Option.bind_some, Option.bind_some, hs_h hd e4, Option.bind_some]
      show Tt (f_X11_hours_37 FU (nI n) (up2 I 3 4 0 h 17) 0 (up2 I 3 4 0) L) _
      rw [e17]
      refine lp0 (fun fuel k (s : MI × ML) => f_X11_hours_37 fuel (nI n) (A.1 12) (nI k) s.1 s.2) n (fun k s => hch h (up2 I 3 4 0) s.1 L s.2 ∧ CR h s.1 s.2 (itr A.1 k)) (by omega) ?_ ?_ (s := (up2 I 3 4 0, L)) ⟨hch_rf _ _ _, cr0⟩
      · intro fuel k s hk ⟨s1, s2⟩ hnx
        obtain ⟨K, N⟩ := s
        dsimp only at s1 s2
        obtain ⟨hwk, -⟩ := WF_itr (by omega) hA.1 k (by omega)
        have eK : K 0 4 = nI h := by rw [s1.1 0 (by decide) (by decide) (by omega)]; exact e4
        show Tt (f_X11_hours_37 (fuel + 1) (nI n) (A.1 12) (nI k) K N) _
        unfold f_X11_hours_37
        rw [if_neg (le_n (by omega) (by omega) hk), zI_1 k]
        refine Tt_bind (Tt_mono (c_hour hc6 hd hwk s2 eK) ?_)
        intro t ⟨t1, t2⟩
        exact hnx (t.1, t.2) ⟨hch_tr s1 t1, t2⟩
      · intro fuel s ⟨s1, s2⟩
        obtain ⟨K, N⟩ := s
        dsimp only at s1 s2
        have eK : K 0 4 = nI h := by rw [s1.1 0 (by decide) (by decide) (by omega)]; exact e4
        have z17 := s2.2.2.2.1.2.2.2.2.2.2.1
        have nK : ∀ q, q ≠ 3 → q ≠ 8 → q ≠ 9 → (q < h ∨ h + 45 ≤ q) → K q = I q := fun q h3 h8 h9 hq => by rw [s1.1 q h8 h9 hq, zu_n _ _ _ h3]
        show Tt (f_X11_hours_37 (fuel + 1) (nI n) (A.1 12) (nI n) K N) _
        unfold f_X11_hours_37
        rw [if_pos (Int32.le_refl _), hs_h hd eK, Option.bind_some, z17]
        have k3 : K 3 = up2 I 3 4 0 3 := s1.1 3 (by decide) (by decide) (by omega)
        obtain ⟨-, -, -, -, -, -, -, -, -, x9, hx9, d3, -⟩ := id cj
        refine Tt_some (Cp_a ⟨h, d, hd, CJ_act hd cj (nK 0 (by decide) (by decide) (by decide) (by omega)) (nK 1 (by decide) (by decide) (by decide) (by omega)) (nK 2 (by decide) (by decide) (by decide) (by omega)) (fun k h1 h2 => nK _ (by omega) (by omega) (by omega) (by omega)) (s1.2 116 (by decide) (by decide) (by omega)) s2 ⟨?_, x9, hx9, ?_, fun j a ha => absurd ha (by simp)⟩⟩ (fun q hq => nK q (by omega) (by omega) (by omega) (by omega)))
        · rw [k3, zu_s, if_pos rfl]; rfl
        · rw [k3, zu_s, if_neg (by decide)]; exact d3
    · intro I' L' hR'
      simp -implicitDefEqProofs only [f_X12_hours, f_X12_hours_22, pf0, Option.bind_some, r_in, decide_eq_true hx, if_true, r_thr_f, bft, if_false]
      refine Tt_bind (Tt_mono (r_sp hA.1 (R_w hR')) ?_)
      intro s ⟨s1, s2, s3⟩
      rw [s1, show ldI s.1 150 2143 12 = some (A.1 12) by rw [← s3.1]; exact r_w (k := 12) (by decide), Option.bind_some]
      refine lp0 (fun fuel k (p : MI × ML) => f_X12_hours_45 fuel (nI n) (A.1 12) (nI k) p.1 p.2) n (fun k p => p.1 150 = itr A.1 k ∧ rch s.1 p.1 L' p.2) (by omega) ?_ ?_ (s := (s.1, L')) ⟨s3.1, rch_rf _ _⟩
      · intro fuel k p hk ⟨p1, p2⟩ hnx
        obtain ⟨K, N⟩ := p
        dsimp only at p1 p2
        obtain ⟨hwk, -, csk⟩ := WF_itr (by omega) hA.1 k (by omega)
        have hRW : RW K (itr A.1 k) := ⟨p1, fun j hj => by rw [p2.1 156 (by decide) (by decide) (by decide), s3.2 j hj, csk]⟩
        show Tt (f_X12_hours_45 (fuel + 1) (nI n) (A.1 12) (nI k) K N) _
        unfold f_X12_hours_45
        rw [if_neg (le_n (by omega) (by omega) hk), zI_1 k]
        refine Tt_bind (Tt_mono (r_hour (by omega) hwk hRW) ?_)
        intro t ⟨t1, t2⟩
        exact hnx (t.1, t.2) ⟨t1, rch_tr p2 t2⟩
      · intro fuel p ⟨p1, p2⟩
        obtain ⟨K, N⟩ := p
        dsimp only at p1 p2
        have z12 : up2 K 149 6 0 150 12 = itr A.1 n 12 := by rw [zu_n _ _ _ (by decide), p1]
        have z149 : K 149 = th0 I' 149 := (p2.1 149 (by decide) (by decide) (by decide)).trans (s2 149 (by decide))
        have zq : ∀ q, q ≠ 150 → q ≠ 156 → q ≠ 157 → q ≠ 158 → K q = th0 I' q := fun q h1 h2 h3 h4 => (p2.1 q h1 h3 h4).trans (s2 q h2)
        show Tt (f_X12_hours_45 (fuel + 1) (nI n) (A.1 12) (nI n) K N) _
        unfold f_X12_hours_45
        rw [if_pos (Int32.le_refl _), pfe, Option.bind_some, show ldI (up2 K 149 6 0) 150 2143 12 = some (up2 K 149 6 0 150 12) from r_w (k := 12) (by decide), Option.bind_some, z12]
        obtain ⟨w1, w2, w3, w4, w5, w6, w7, w8⟩ := RI_th hR'
        refine Tt_some (Rp_a ⟨?_, ?_, ?_, ?_, ?_, ?_, ?_, ?_⟩ ?_ (fun q hq => ?_) (fun q hq => ?_))
        · show up2 K 149 6 0 150 = itr A.1 n
          rw [zu_n _ _ _ (by decide)]; exact p1
        · rw [zu_s, if_neg (by decide), z149]; exact w2
        · intro v hv k hk
          rw [zu_n _ _ _ (by decide), zq 151 (by decide) (by decide) (by decide) (by decide)]; exact w3 v hv k hk
        · rw [zu_s, if_neg (by decide), z149]; exact w4
        · rw [zu_n _ _ _ (by decide), zq 154 (by decide) (by decide) (by decide) (by decide)]; exact w5
        · rw [zu_s, if_neg (by decide), z149]; exact w6
        · rw [zu_s, if_pos rfl]; rfl
        · intro j hj; exact absurd hj (Nat.not_lt_zero _)
        · rw [zu_s, if_neg (by decide), z149]; exact th0_0
        · rw [zu_n _ _ _ (by omega), zq q (by omega) (by omega) (by omega) (by omega)]; exact th0_n (by omega)
        · exact p2.2 q (by omega)
  · refine fin_s hA (mkSI (res := .inl 1) hR ?_ ?_)
    · unfold f_X11_hours
      rw [ite2_f hx]
      unfold f_X11_hours_16 f_X11_hours_17
      rw [c_need_f, Option.bind_some, xc_l]
      exact Tt_some (Cp_t hC (wk_1 (by decide)))
    · intro I' L' hR'
      simp -implicitDefEqProofs only [f_X12_hours, f_X12_hours_22, pf0, Option.bind_some, r_in, decide_eq_false hx, bft, if_false, r_thr_t, if_true]
      exact Tt_some (Rp_t hR' (by decide))
