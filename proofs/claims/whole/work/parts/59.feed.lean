-- ===== the tape
theorem CJ_tp {h d : Nat} {I J : MI} {L M : ML} {A : AS} {tp : Nat → Int32} {tl : Nat} {fl : Int32} (hd : HD h d) (cj : CJ h d I L A) (hI : ∀ q, q < 149 → q ≠ 1 → q ≠ 2 → ¬ scr h d q → J q = I q) (hL : ∀ q, q < 149 → ¬ scr h d q → M q = L q) (h1 : J 1 1 = nI tl) (h2 : ∀ k, k < 400 → J 2 k = tp k) (h7 : J 1 7 = fl) : CJ h d J M (A.1, A.2.1, tp, tl, fl, A.2.2.2.2.2) := by
  obtain ⟨a1, a2, a3, b1, b2, c1, c2, c3, d1⟩ := cj
  have hb := HD_b hd
  have s0 : ∀ q, q < 8 → ¬ scr h d q := fun q hq h9 => by unfold scr at h9; omega
  have e : ∀ q, q < 8 → q ≠ 1 → q ≠ 2 → J q = I q := fun q hq n1 n2 => hI q (by omega) n1 n2 (s0 q hq)
  have hh : ∀ k, k < 45 → k ≠ 10 → ¬ scr h d (h + k) := fun k hk h10 h9 => by unfold scr at h9; omega
  have hk : ∀ k, k < 45 → k ≠ 10 → ¬ scr h d (104 + k) := fun k hk h10 h9 => by unfold scr at h9; omega
  refine ⟨by rw [e 0 (by decide) (by decide) (by decide)]; exact a1, by rw [e 0 (by decide) (by decide) (by decide)]; exact a2, CR_cg (fun k h3 h4 => hI _ (by omega) (by omega) (by omega) (hh k h3 h4)) (hL _ (by omega) (hh 12 (by decide) (by decide))) a3, by rw [e 0 (by decide) (by decide) (by decide)]; exact b1, fun v hv => CR_cg (fun k h3 h4 => hI _ (by omega) (by omega) (by omega) (hk k h3 h4)) (hL _ (by omega) (hk 12 (by decide) (by decide))) (b2 v hv), h1, h2, h7, ?_⟩
  have d1 : ACT I A.2.2.2.2.2 := d1
  exact ACT_cg (fun q h3 h4 => e q (by omega) (by omega) (by omega)) d1
theorem RI_tp {I J : MI} {L M : ML} {A : AS} {tp : Nat → Int32} {tl : Nat} {fl : Int32} (hR : RI9 I L A) (hI : ∀ q, q = 150 ∨ q = 151 ∨ q = 153 → J q = I q) (h5 : J 149 5 = I 149 5) (h6 : J 149 6 = I 149 6) (h8 : J 149 8 = nI tl) (h13 : J 149 13 = fl) (h154 : ∀ k, k < 400 → J 154 k = tp k) : RI9 J M (A.1, A.2.1, tp, tl, fl, A.2.2.2.2.2) := by
  obtain ⟨q1, q2, q3, q4, q5, q6, q7, q8⟩ := hR
  exact ⟨by rw [hI 150 (by omega)]; exact q1, by rw [h5]; exact q2, by rw [hI 151 (by omega)]; exact q3, h8, h154, h13, by rw [h6]; exact q7, by rw [hI 153 (by omega)]; exact q8⟩
-- ===== end
theorem C_end {c : Nat} {I : MI} {L : ML} {A : AS} (hA : AI c A) (hC : CI9 I L A) (hR : RI9 I L A) (x : Int32) : ∃ I' L', SD (f_X11_end x I L) (f_X12_end x) I' L' ∧ Inv9 (c + 1) I' L' := by
  obtain ⟨h, d, hd, cj⟩ := id hC
  have hb := HD_b hd
  have e1 : I 1 1 = nI A.2.2.2.1 := cj.2.2.2.2.2.1
  have ht := hA.2.2.2.1
  have e8 : ∀ {I' : MI} {L' : ML}, RI9 I' L' A → th0 I' 149 8 = nI A.2.2.2.1 := fun hR' => by unfold th0; rw [zu_s]; exact hR'.2.2.2.1
  by_cases hx : ∃ k, k ≤ A.2.2.2.1 ∧ x = nI k
  · obtain ⟨k, hk, rfl⟩ := hx
    have n0 : ¬ nI k < 0 := zI_nn (by omega)
    have n1 : nI k ≤ nI A.2.2.2.1 := (zI_le (by omega) (by omega)).mpr hk
    have hAI : AI (c + 1) (A.1, A.2.1, A.2.2.1, k, A.2.2.2.2.1, A.2.2.2.2.2) := by
      obtain ⟨h1, h2, h3, h4, h5⟩ := AI_up hA
      exact ⟨h1, h2, h3, Nat.le_trans hk ht, h5⟩
    refine fin hAI (mkSD (v := true) hR ?_ ?_)
    · unfold f_X11_end
      rw [e1, if_neg n0, if_pos n1, pfe, Option.bind_some]
      refine Tt_some (Cp_e ⟨h, d, hd, CJ_tp hd cj (fun q _ h1 _ _ => zu_n _ _ _ h1) (fun _ _ _ => rfl) rfl ?_ ?_⟩ (fun q hq => zu_n I 1 (nI k) (show q ≠ 1 by omega)))
      · intro j hj
        show up2 I 1 1 (nI k) 2 j = _
        rw [zu_n _ _ _ (by decide)]; exact cj.2.2.2.2.2.2.1 j hj
      · exact cj.2.2.2.2.2.2.2.1
    · intro I' L' hR'
      simp only [f_X12_end, pf0, Option.bind_some, e8 hR', if_neg n0, if_pos n1]
      rw [pfe, Option.bind_some]
      have hq := RI_th hR'
      refine Tt_some (Rp_e (RI_tp hq (fun q h9 => zu_n (th0 I') 8 (nI k) (show q ≠ 149 by omega)) ?_ ?_ ?_ ?_ ?_) (fun q h9 => ?_) (fun _ _ => rfl))
      · show up2 (th0 I') 149 8 (nI k) 149 5 = _
        rw [zu_s, if_neg (by decide)]
      · show up2 (th0 I') 149 8 (nI k) 149 6 = _
        rw [zu_s, if_neg (by decide)]
      · show up2 (th0 I') 149 8 (nI k) 149 8 = _
        rw [zu_s, if_pos rfl]
      · show up2 (th0 I') 149 8 (nI k) 149 13 = _
        rw [zu_s, if_neg (by decide)]; exact hq.2.2.2.2.2.1
      · intro j hj
        show up2 (th0 I') 149 8 (nI k) 154 j = _
        rw [zu_n _ _ _ (by decide)]; exact hq.2.2.2.2.1 j hj
      · show up2 (th0 I') 149 8 (nI k) q = _
        rw [zu_n _ _ _ (by omega), th0_n (by omega)]
  · refine fin_s hA (mkSD (v := false) hR ?_ ?_)
    · unfold f_X11_end f_X11_end_15
      rw [e1]
      by_cases n0 : x < 0
      · rw [if_pos n0]; exact Tt_some (Cp_e hC (fun _ _ => rfl))
      · by_cases n1 : x ≤ nI A.2.2.2.1
        · obtain ⟨k, hk, ek⟩ := vld_le (x := x) (r := A.2.2.2.1) n0 (Int32.not_lt.mpr n1) (by omega)
          exact absurd ⟨k, hk, ek⟩ hx
        · rw [if_neg n0, if_neg n1]; exact Tt_some (Cp_e hC (fun _ _ => rfl))
    · intro I' L' hR'
      simp only [f_X12_end, f_X12_end_17, pf0, Option.bind_some, e8 hR']
      by_cases n0 : x < 0
      · rw [if_pos n0]; exact Tt_some (Rp_d hR' (scR_rf _ _))
      · by_cases n1 : x ≤ nI A.2.2.2.1
        · obtain ⟨k, hk, ek⟩ := vld_le (x := x) (r := A.2.2.2.1) n0 (Int32.not_lt.mpr n1) (by omega)
          exact absurd ⟨k, hk, ek⟩ hx
        · rw [if_neg n0, if_neg n1]; exact Tt_some (Rp_d hR' (scR_rf _ _))
-- ===== feed
def byteOf (x : Int32) (i : Nat) : Int32 := (x >>> ((24 - 8 * nI i) &&& 31)).toInt8.toInt32
theorem b8 {x : Int32} {i : Nat} : (byteOf x i).toInt8.toInt32 = byteOf x i := by unfold byteOf; rw [Int8.toInt8_toInt32]
theorem c_put {I : MI} {L : ML} {s : Nat} {x : Int32} (hs : s + 4 ≤ 400) (e : I 1 1 = nI s) : Tt (f_X8_put x I L) (fun r => r.2 = L ∧ (∀ j, j ≠ 1 → j ≠ 2 → r.1 j = I j) ∧ (∀ k, k ≠ 1 → r.1 1 k = I 1 k) ∧ r.1 1 1 = nI (s + 4) ∧ ∀ k, r.1 2 k = if s ≤ k ∧ k < s + 4 then byteOf x (k - s) else I 2 k) := by
  unfold f_X8_put
  rw [show (24 : Int32) = 24 - 8 * nI 0 by decide]
  refine lp0 (fun fuel k (J : MI) => f_X8_put_3 fuel x (24 - 8 * nI k) J L) 4 (fun n J => (∀ j, j ≠ 1 → j ≠ 2 → J j = I j) ∧ (∀ k, k ≠ 1 → J 1 k = I 1 k) ∧ J 1 1 = nI (s + n) ∧ ∀ k, J 2 k = if s ≤ k ∧ k < s + n then byteOf x (k - s) else I 2 k) (by decide) ?_ ?_ ⟨fun _ _ _ => rfl, fun _ _ => rfl, e, fun k => by rw [if_neg (by omega)]⟩
  · intro fuel n J hn ⟨i0, i1, i2, i3⟩ hnx
    have hsh : ¬ (24 - 8 * nI n : Int32) < 0 ∧ (24 - 8 * nI n + (-8) : Int32) = 24 - 8 * nI (n + 1) := by
      have : n = 0 ∨ n = 1 ∨ n = 2 ∨ n = 3 := by omega
      rcases this with rfl | rfl | rfl | rfl <;> exact ⟨by decide, by decide⟩
    show Tt (f_X8_put_3 (fuel + 1) x (24 - 8 * nI n) J L) _
    unfold f_X8_put_3
    rw [if_neg hsh.1, i2, if_neg (by rw [show (400 : Int32) = nI 400 from rfl, zI_le (by decide) (by omega)]; omega), stB_n (by omega) (by decide), Option.bind_some, zu_n _ _ _ (by decide), i2, zI_1, pfe, Option.bind_some, hsh.2]
    have e9 : (x >>> ((24 - 8 * nI n) &&& 31)).toInt8.toInt32.toInt8.toInt32 = byteOf x n := b8
    rw [e9]
    refine hnx _ ⟨fun j h1 h2 => by rw [zu_n _ _ _ h1, zu_n _ _ _ h2]; exact i0 j h1 h2, fun k hk => ?_, ?_, fun k => ?_⟩
    · rw [zu_s, if_neg hk, zu_n _ _ _ (by decide)]; exact i1 k hk
    · rw [zu_s, if_pos rfl]; rfl
    · rw [zu_n _ _ _ (by decide), zu_s, i3]
      by_cases h9 : k = s + n
      · rw [if_pos h9, if_pos (by omega), h9, show s + n - s = n by omega]
      · rw [if_neg h9]
        by_cases h8 : s ≤ k ∧ k < s + n
        · rw [if_pos h8, if_pos (by omega)]
        · rw [if_neg h8, if_neg (by omega)]
  · intro fuel J ⟨i0, i1, i2, i3⟩
    show Tt (f_X8_put_3 (fuel + 1) x (24 - 8 * nI 4) J L) _
    unfold f_X8_put_3 f_X8_put_46
    rw [if_pos (by decide)]
    exact Tt_some ⟨rfl, i0, i1, i2, i3⟩
def fv5 (x1 x2 x3 x4 x5 : Int32) (i : Nat) : Int32 := if i = 4 then x5 else if i = 3 then x4 else if i = 2 then x3 else if i = 1 then x2 else x1
def tpF (tp : Nat → Int32) (s : Nat) (x1 x2 x3 x4 x5 : Int32) : Nat → Int32 := fun k => if s ≤ k ∧ k < s + 20 then byteOf (fv5 x1 x2 x3 x4 x5 ((k - s) / 4)) ((k - s) % 4) else tp k
theorem r_feed {I : MI} {L : ML} {s : Nat} (hs : s + 20 ≤ 400) (e : I 149 8 = nI s) : Tt (f_X12_feed_60 FU 0 I L) (fun r => r.1 = nI (s + 20) ∧ r.2.2 = L ∧ (∀ j, j ≠ 149 → j ≠ 154 → r.2.1 j = I j) ∧ (∀ k, k ≠ 8 → r.2.1 149 k = I 149 k) ∧ r.2.1 149 8 = nI (s + 20) ∧ ∀ i, r.2.1 154 i = if s ≤ i ∧ i < s + 20 then byteOf (I 155 ((i - s) / 4)) ((i - s) % 4) else I 154 i) := by
  refine lp0 (fun fuel k (J : MI) => f_X12_feed_60 fuel (nI k) J L) 20 (fun k J => (∀ j, j ≠ 154 → J j = I j) ∧ ∀ i, J 154 i = if s ≤ i ∧ i < s + k then byteOf (I 155 ((i - s) / 4)) ((i - s) % 4) else I 154 i) (by decide) ?_ ?_ ⟨fun _ _ => rfl, fun i => by rw [if_neg (by omega)]⟩
  · intro fuel k J hk ⟨i0, i1⟩ hn
    show Tt (f_X12_feed_60 (fuel + 1) (nI k) J L) _
    unfold f_X12_feed_60
    rw [if_neg (by rw [show (20 : Int32) = nI 20 from rfl, zI_le (by decide) (by omega)]; omega), show (4 : Int32) = nI 4 from rfl, zI_mod (by omega) (by decide), zI_div (by omega) (by decide), ldI_n (show k / 4 < 5 by omega) (by decide), Option.bind_some, i0 149 (by decide), e, zI_add, stB_n (by omega) (by decide), Option.bind_some, zI_1, i0 155 (by decide)]
    have e9 : (I 155 (k / 4) >>> ((24 - 8 * nI (k % 4)) &&& 31)).toInt8.toInt32.toInt8.toInt32 = byteOf (I 155 (k / 4)) (k % 4) := b8
    rw [e9]
    refine hn _ ⟨fun j hj => by rw [zu_n _ _ _ hj]; exact i0 j hj, fun i => ?_⟩
    rw [zu_s, i1]
    by_cases h9 : i = s + k
    · rw [if_pos h9, if_pos (by omega), h9, show s + k - s = k by omega]
    · rw [if_neg h9]
      by_cases h8 : s ≤ i ∧ i < s + k
      · rw [if_pos h8, if_pos (by omega)]
      · rw [if_neg h8, if_neg (by omega)]
  · intro fuel J ⟨i0, i1⟩
    show Tt (f_X12_feed_60 (fuel + 1) (nI 20) J L) _
    unfold f_X12_feed_60
    have z : J 149 8 + 20 = nI (s + 20) := by rw [i0 149 (by decide), e]; exact zI_add s 20
    rw [if_pos (by decide), z, pfe, Option.bind_some]
    have k8 : up2 J 149 8 (nI (s + 20)) 149 8 = nI (s + 20) := by rw [zu_s, if_pos rfl]
    refine Tt_some ⟨k8, rfl, fun j h1 h2 => ?_, fun k hk => ?_, k8, fun i => ?_⟩
    · show up2 J 149 8 (nI (s + 20)) j = _
      rw [zu_n _ _ _ h1]; exact i0 j h2
    · show up2 J 149 8 (nI (s + 20)) 149 k = _
      rw [zu_s, if_neg hk, i0 149 (by decide)]
    · show up2 J 149 8 (nI (s + 20)) 154 i = _
      rw [zu_n _ _ _ (by decide)]; exact i1 i
theorem C_feed {c : Nat} {I : MI} {L : ML} {A : AS} (hA : AI c A) (hC : CI9 I L A) (hR : RI9 I L A) (x1 x2 x3 x4 x5 : Int32) : ∃ I' L', SD (f_X11_feed x1 x2 x3 x4 x5 I L) (f_X12_feed x1 x2 x3 x4 x5) I' L' ∧ Inv9 (c + 1) I' L' := by
  obtain ⟨h, d, hd, cj⟩ := id hC
  have hb := HD_b hd
  have e1 : I 1 1 = nI A.2.2.2.1 := cj.2.2.2.2.2.1
  have ht := hA.2.2.2.1
  have e8 : ∀ {I' : MI} {L' : ML}, RI9 I' L' A → th0 I' 149 8 = nI A.2.2.2.1 := fun hR' => by unfold th0; rw [zu_s]; exact hR'.2.2.2.1
  generalize hs : A.2.2.2.1 = s at e1 ht e8
  by_cases hs9 : s ≤ 380
  · have hAI : AI (c + 1) (A.1, A.2.1, tpF A.2.2.1 s x1 x2 x3 x4 x5, s + 20, A.2.2.2.2.1, A.2.2.2.2.2) := by
      obtain ⟨h1, h2, h3, h4, h5⟩ := AI_up hA
      refine ⟨h1, h2, fun k hk => ?_, show s + 20 ≤ 400 by omega, h5⟩
      show tpF A.2.2.1 s x1 x2 x3 x4 x5 k = (tpF A.2.2.1 s x1 x2 x3 x4 x5 k).toInt8.toInt32
      unfold tpF
      split
      · exact b8.symm
      · exact h3 k hk
    refine fin hAI (mkSD (v := nI (s + 20)) hR ?_ ?_)
    · unfold f_X11_feed
      rw [e1, if_pos (by rw [show (380 : Int32) = nI 380 from rfl, zI_le (by omega) (by decide)]; exact hs9)]
      refine Tt_bind (Tt_mono (c_put (s := s) (by omega) e1) ?_)
      intro r1 ⟨a1, a2, a3, a4, a5⟩
      refine Tt_bind (Tt_mono (c_put (s := s + 4) (by omega) a4) ?_)
      intro r2 ⟨b1, b2, b3, b4, b5⟩
      refine Tt_bind (Tt_mono (c_put (s := s + 4 + 4) (by omega) b4) ?_)
      intro r3 ⟨c1, c2, c3, c4, c5⟩
      refine Tt_bind (Tt_mono (c_put (s := s + 4 + 4 + 4) (by omega) c4) ?_)
      intro r4 ⟨d1, d2, d3, d4, d5⟩
      refine Tt_bind (Tt_mono (c_put (s := s + 4 + 4 + 4 + 4) (by omega) d4) ?_)
      intro r5 ⟨f1, f2, f3, f4, f5⟩
      have z : ∀ q, q ≠ 1 → q ≠ 2 → r5.1 q = I q := fun q n1 n2 => by rw [f2 q n1 n2, d2 q n1 n2, c2 q n1 n2, b2 q n1 n2, a2 q n1 n2]
      have zL : r5.2 = L := by rw [f1, d1, c1, b1, a1]
      refine Tt_some ⟨?_, ⟨h, d, hd, CJ_tp hd cj (fun q _ n1 n2 _ => z q n1 n2) (fun q _ _ => by show r5.2 q = L q; rw [zL]) ?_ ?_ ?_⟩, fun q hq => z q (by omega) (by omega)⟩
      · show r5.1 1 1 = _
        rw [f4]
      · show r5.1 1 1 = _
        rw [f4]
      · intro k hk
        show r5.1 2 k = tpF A.2.2.1 s x1 x2 x3 x4 x5 k
        rw [f5, d5, c5, b5, a5, cj.2.2.2.2.2.2.1 k hk]
        unfold tpF
        by_cases g : s ≤ k ∧ k < s + 20
        · rw [if_pos g]
          by_cases g5 : s + 4 + 4 + 4 + 4 ≤ k ∧ k < s + 4 + 4 + 4 + 4 + 4
          · rw [if_pos g5, show (k - s) / 4 = 4 by omega, show (k - s) % 4 = k - (s + 4 + 4 + 4 + 4) by omega]; rfl
          · rw [if_neg g5]
            by_cases g4 : s + 4 + 4 + 4 ≤ k ∧ k < s + 4 + 4 + 4 + 4
            · rw [if_pos g4, show (k - s) / 4 = 3 by omega, show (k - s) % 4 = k - (s + 4 + 4 + 4) by omega]; rfl
            · rw [if_neg g4]
              by_cases g3 : s + 4 + 4 ≤ k ∧ k < s + 4 + 4 + 4
              · rw [if_pos g3, show (k - s) / 4 = 2 by omega, show (k - s) % 4 = k - (s + 4 + 4) by omega]; rfl
              · rw [if_neg g3]
                by_cases g2 : s + 4 ≤ k ∧ k < s + 4 + 4
                · rw [if_pos g2, show (k - s) / 4 = 1 by omega, show (k - s) % 4 = k - (s + 4) by omega]; rfl
                · rw [if_neg g2, if_pos (by omega), show (k - s) / 4 = 0 by omega, show (k - s) % 4 = k - s by omega]; rfl
        · rw [if_neg g, if_neg (by omega), if_neg (by omega), if_neg (by omega), if_neg (by omega), if_neg (by omega)]
      · show r5.1 1 7 = _
        rw [f3 7 (by decide), d3 7 (by decide), c3 7 (by decide), b3 7 (by decide), a3 7 (by decide)]
        exact cj.2.2.2.2.2.2.2.1
    · intro I' L' hR'
      have hq := RI_th hR'
      have z0 : (0 : Int32) = nI 0 := rfl
      simp only [f_X12_feed, pf0, Option.bind_some, e8 hR']
      rw [if_pos (by rw [show (20 : Int32) = nI 20 from rfl, show (400 : Int32) = nI 400 from rfl, zI_add, zI_le (by omega) (by decide)]; omega)]
      have t5 : (5 : Nat) < 2 ^ 31 := by decide
      rw [show stI (th0 I') 155 5 0 x1 = some (up2 (th0 I') 155 0 x1) from stI_n (k := 0) (by decide) t5, Option.bind_some, show ∀ J : MI, stI J 155 5 1 x2 = some (up2 J 155 1 x2) from fun J => stI_n (k := 1) (by decide) t5, Option.bind_some, show ∀ J : MI, stI J 155 5 2 x3 = some (up2 J 155 2 x3) from fun J => stI_n (k := 2) (by decide) t5, Option.bind_some, show ∀ J : MI, stI J 155 5 3 x4 = some (up2 J 155 3 x4) from fun J => stI_n (k := 3) (by decide) t5, Option.bind_some, show ∀ J : MI, stI J 155 5 4 x5 = some (up2 J 155 4 x5) from fun J => stI_n (k := 4) (by decide) t5, Option.bind_some]
      generalize hJ : up2 (up2 (up2 (up2 (up2 (th0 I') 155 0 x1) 155 1 x2) 155 2 x3) 155 3 x4) 155 4 x5 = J
      have jn : ∀ q, q ≠ 155 → J q = th0 I' q := fun q hq9 => by rw [← hJ, zu_n _ _ _ hq9, zu_n _ _ _ hq9, zu_n _ _ _ hq9, zu_n _ _ _ hq9, zu_n _ _ _ hq9]
      have j5 : ∀ i, i < 5 → J 155 i = fv5 x1 x2 x3 x4 x5 i := by
        intro i hi
        rw [← hJ, zu_s, zu_s, zu_s, zu_s, zu_s]
        unfold fv5
        by_cases g4 : i = 4
        · rw [if_pos g4, if_pos g4]
        · rw [if_neg g4, if_neg g4]
          by_cases g3 : i = 3
          · rw [if_pos g3, if_pos g3]
          · rw [if_neg g3, if_neg g3]
            by_cases g2 : i = 2
            · rw [if_pos g2, if_pos g2]
            · rw [if_neg g2, if_neg g2]
              by_cases g1 : i = 1
              · rw [if_pos g1, if_pos g1]
              · rw [if_neg g1, if_neg g1, if_pos (by omega)]
      refine Tt_mono (r_feed (s := s) (by omega) (by rw [jn 149 (by decide)]; exact e8 hR')) ?_
      rintro ⟨rv, rI, rL⟩ ⟨r1, r2, r3, r4, r5, r6⟩
      have r2 : rL = L' := r2
      have r3 : ∀ j, j ≠ 149 → j ≠ 154 → rI j = J j := r3
      have r4 : ∀ k, k ≠ 8 → rI 149 k = J 149 k := r4
      have r6 : ∀ i, rI 154 i = if s ≤ i ∧ i < s + 20 then byteOf (J 155 ((i - s) / 4)) ((i - s) % 4) else J 154 i := r6
      refine ⟨r1, RI_tp hq (fun q h9 => ?_) ?_ ?_ r5 ?_ ?_, fun q h9 => ⟨?_, by show rL q = L' q; rw [r2]⟩⟩
      · show rI q = th0 I' q
        rw [r3 q (by omega) (by omega)]; exact jn q (by omega)
      · show rI 149 5 = _
        rw [r4 5 (by decide), jn 149 (by decide)]
      · show rI 149 6 = _
        rw [r4 6 (by decide), jn 149 (by decide)]
      · show rI 149 13 = _
        rw [r4 13 (by decide), jn 149 (by decide)]; exact hq.2.2.2.2.2.1
      · intro k hk
        show rI 154 k = tpF A.2.2.1 s x1 x2 x3 x4 x5 k
        rw [r6, jn 154 (by decide), hq.2.2.2.2.1 k hk]
        unfold tpF
        by_cases g : s ≤ k ∧ k < s + 20
        · rw [if_pos g, if_pos g, j5 _ (by omega)]
        · rw [if_neg g, if_neg g]
      · show rI q = I' q
        rw [r3 q (by omega) (by omega), jn q (by omega), th0_n (by omega)]
  · refine fin_s hA (mkSD (v := -1) hR ?_ ?_)
    · unfold f_X11_feed
      rw [e1, if_neg (by rw [show (380 : Int32) = nI 380 from rfl, zI_le (by omega) (by decide)]; exact hs9)]
      exact Tt_some (Cp_e hC (fun _ _ => rfl))
    · intro I' L' hR'
      simp only [f_X12_feed, pf0, Option.bind_some, e8 hR']
      rw [if_neg (by rw [show (20 : Int32) = nI 20 from rfl, show (400 : Int32) = nI 400 from rfl, zI_add, zI_le (by omega) (by decide)]; omega)]
      exact Tt_some (Rp_d hR' (scR_rf _ _))
