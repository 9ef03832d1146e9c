-- ===== what the reference asks of its text
theorem r_needs {tp : Nat → Int32} {T i b : Nat} {J : MI} {L : ML} (hT : T ≤ 400) (hs : 1 ≤ sLen i ∧ sLen i ≤ 8) (h : RT tp T b J) : Tt (f_X12_needs i J L) (fun r => r.1 = wdB tp T i b ∧ r.2.2 = L ∧ o149 J r.2.1 ∧ r.2.1 149 11 = nI b ∧ (wdB tp T i b = true → RT tp T (nx tp T b) r.2.1)) := by
  have hok := RT_ok h
  unfold f_X12_needs
  refine Tt_bind (Tt_mono (r_letters hT h) ?_)
  intro s ⟨s1, s2, s3⟩
  rw [s1, r_isWord hT hok.1 hs s2, Option.bind_some]
  refine Tt_some ⟨rfl, rfl, s3, s2.2.2, fun hw => ?_⟩
  have e := (wd_te hs.1 hw).2.1
  rw [← e] at s2
  exact RLe_nx hok.1 s2
theorem r_passes {tp : Nat → Int32} {T i b : Nat} {J : MI} {L : ML} (hT : T ≤ 400) (hs : 1 ≤ sLen i ∧ sLen i ≤ 8) (h : RT tp T b J) : Tt (f_X12_passes i J L) (fun r => r.1 = wdB tp T i b ∧ r.2.2 = L ∧ o149 J r.2.1 ∧ r.2.1 149 11 = nI b ∧ (wdB tp T i b = true → RT tp T (nx tp T b) r.2.1) ∧ (wdB tp T i b = false → RT tp T b r.2.1)) := by
  have hok := RT_ok h
  unfold f_X12_passes
  refine Tt_bind (Tt_mono (r_letters hT h) ?_)
  intro s ⟨s1, s2, s3⟩
  rw [s1, r_isWord hT hok.1 hs s2, Option.bind_some]
  cases hw : wdB tp T i b
  · rw [if_neg (by decide), s2.2.2, pfe, Option.bind_some]
    exact Tt_some ⟨rfl, rfl, o149_tr s3 o149_9, by show up2 s.1 149 9 (nI b) 149 11 = _; rw [zu_s, if_neg (by decide)]; exact s2.2.2, fun h9 => absurd h9 Bool.false_ne_true, fun _ => ⟨RTx_o s2.1 o149_9, b, by show up2 s.1 149 9 (nI b) 149 9 = _; rw [zu_s, if_pos rfl], hok.1, hok.2⟩⟩
  · rw [if_pos rfl]
    have e := (wd_te hs.1 hw).2.1
    rw [← e] at s2
    exact Tt_some ⟨rfl, rfl, s3, s2.2.2, fun _ => RLe_nx hok.1 s2, fun h9 => absurd h9.symm Bool.false_ne_true⟩
theorem sg_eq {tp : Nat → Int32} {T b : Nat} {c : Int32} : (decide (b < T) && decide (¬ tp b < c ∧ ¬ c < tp b)) = sgB tp T c b := by
  unfold sgB
  by_cases h1 : b < T
  · by_cases h2 : tp b = c
    · have : ¬ c < c := by rw [Int32.lt_iff_toInt_lt]; omega
      rw [decide_eq_true h1, decide_eq_true (show b < T ∧ tp b = c from ⟨h1, h2⟩), h2, decide_eq_true ⟨this, this⟩]; rfl
    · rw [decide_eq_false (show ¬ (b < T ∧ tp b = c) from fun h => h2 h.2)]
      have h9 : ¬ (¬ tp b < c ∧ ¬ c < tp b) := by
        rintro ⟨h3, h4⟩
        rw [Int32.lt_iff_toInt_lt] at h3 h4
        exact h2 (by rw [← Int32.toInt_inj]; omega)
      rw [decide_eq_false h9, Bool.and_false]
  · rw [decide_eq_false h1, Bool.false_and, decide_eq_false (show ¬ (b < T ∧ tp b = c) from fun h => h1 h.1)]
theorem r_sign {tp : Nat → Int32} {T b : Nat} {c : Int32} {J : MI} {L : ML} (hT : T ≤ 400) (hc : isSg c) (h : RT tp T b J) : Tt (f_X12_sign c J L) (fun r => r.1 = sgB tp T c b ∧ r.2.2 = L ∧ o149 J r.2.1 ∧ r.2.1 149 11 = nI b ∧ (sgB tp T c b = true → RT tp T (nx tp T b) r.2.1) ∧ (sgB tp T c b = false → RT tp T b r.2.1)) := by
  have hok := RT_ok h
  unfold f_X12_sign
  refine Tt_bind (Tt_mono (r_blanks hT h) ?_)
  intro s ⟨s1, s2, s3⟩
  rw [s1, r_isAt hT hok.1 s2.1 s2.2.1, Option.bind_some, sg_eq]
  cases hg : sgB tp T c b
  · rw [if_neg (by decide)]
    exact Tt_some ⟨rfl, rfl, s3, s2.2.2, fun h9 => absurd h9 Bool.false_ne_true, fun _ => RLe_RT hok s2⟩
  · rw [if_pos rfl, s2.2.1, pfe, Option.bind_some, zI_1 b]
    have e := (sg_te hc hg).2.1
    refine Tt_some ⟨rfl, rfl, o149_tr s3 o149_9, ?_, fun _ => RLe_nx hok.1 ⟨RTx_o s2.1 o149_9, ?_, ?_⟩, fun h9 => absurd h9.symm Bool.false_ne_true⟩
    · show up2 s.1 149 9 (nI (b + 1)) 149 11 = _; rw [zu_s, if_neg (by decide)]; exact s2.2.2
    · show up2 s.1 149 9 (nI (b + 1)) 149 9 = _; rw [zu_s, if_pos rfl, e]
    · show up2 s.1 149 9 (nI (b + 1)) 149 11 = _; rw [zu_s, if_neg (by decide)]; exact s2.2.2
theorem te_di {tp : Nat → Int32} {T b : Nat} (h : so tp T b = 2) : b < T ∧ isDi tp b = true ∧ te tp T b = rn (isDi tp) T b := by
  unfold so at h
  by_cases h1 : T ≤ b
  · rw [if_pos h1] at h; exact absurd h (by decide)
  · rw [if_neg h1] at h
    by_cases h2 : isLe tp b = true
    · rw [if_pos h2] at h; exact absurd h (by decide)
    · rw [if_neg h2] at h
      by_cases h3 : isDi tp b = true
      · exact ⟨by omega, h3, by unfold te; rw [if_neg h1, if_neg h2, if_pos h3]⟩
      · rw [if_neg h3] at h; exact absurd h (by decide)
theorem di_so {tp : Nat → Int32} {T b : Nat} (h : b < T) (h3 : isDi tp b = true) : so tp T b = 2 := by
  unfold so
  rw [if_neg (by omega), le_di h3, if_neg (by decide), if_pos h3]
theorem nu_m1 {tp : Nat → Int32} {T b : Nat} (h : rn (isDi tp) T b = b) (hb : b ≤ T) : nu tp T b = -1 := by
  unfold nu
  rw [if_neg]
  rintro ⟨h1, -⟩
  obtain ⟨h2, h3, h4⟩ := te_di h1
  rw [rn_step h2 h3] at h
  have := (rn_ge (p := isDi tp) (T := T) (T - (b + 1)) (b + 1) rfl).1
  omega
theorem r_number {tp : Nat → Int32} {T b : Nat} {lo hi : Int32} {J : MI} {L : ML} (hT : T ≤ 400) (hlo : -1 < lo) (h : RT tp T b J) : Tt (f_X12_number lo hi J L) (fun r => r.2.2 = L ∧ o149 J r.2.1 ∧ r.2.1 149 11 = nI b ∧ (vN tp T lo hi b → r.1 = nu tp T b ∧ RT tp T (nx tp T b) r.2.1) ∧ (¬ vN tp T lo hi b → r.1 = -1)) := by
  have hok := RT_ok h
  have hbT := hok.1
  unfold f_X12_number
  refine Tt_bind (Tt_mono (r_blanks hT h) ?_)
  intro s ⟨s1, s2, s3⟩
  rw [s1]
  refine lpR (fun fuel (q : MI × Int32) => f_X12_number_6 fuel lo hi q.2 q.1 L) (isDi tp) T (fun k q => b ≤ k ∧ k ≤ T ∧ o149 J q.1 ∧ RLe tp T b k q.1 ∧ q.2 = dv tp b (min (k - b) 3)) ?_ (T - b) b FU (s.1, 0) rfl (by unfold FU; omega) ⟨Nat.le_refl _, hbT, s3, s2, by rw [Nat.sub_self]; rfl⟩ ?_
  · intro fuel k q hk hpk ⟨k0, k1, k2, k3, k4⟩ hnx
    obtain ⟨K, x⟩ := q
    dsimp only at k2 k3 k4
    show Tt (f_X12_number_6 (fuel + 1) lo hi x K L) _
    unfold f_X12_number_6 f_X12_number_51
    rw [r_isAt hT k1 k3.1 k3.2.1, Option.bind_some, show decide (¬ tp k < 48 ∧ ¬ 57 < tp k) = true from hpk, decide_eq_true hk, if_pos (show (true && true) = true from rfl), k3.2.1, k3.2.2, zI_sub k0, ldI_n (show k < 400 by omega) (by decide), Option.bind_some, k3.1.2 k (by omega), pfe, Option.bind_some, Option.bind_some, zI_1 k]
    have go : ∀ y, y = dv tp b (min (k + 1 - b) 3) → Tt (f_X12_number_6 fuel lo hi y (up2 K 149 9 (nI (k + 1))) L) (fun r => r.2.2 = L ∧ o149 J r.2.1 ∧ r.2.1 149 11 = nI b ∧ (vN tp T lo hi b → r.1 = nu tp T b ∧ RT tp T (nx tp T b) r.2.1) ∧ (¬ vN tp T lo hi b → r.1 = -1)) := fun y hy =>
      hnx (up2 K 149 9 (nI (k + 1)), y) ⟨by omega, by omega, o149_tr k2 o149_9, ⟨RTx_o k3.1 o149_9, by show up2 K 149 9 (nI (k + 1)) 149 9 = _; rw [zu_s, if_pos rfl], by show up2 K 149 9 (nI (k + 1)) 149 11 = _; rw [zu_s, if_neg (by decide)]; exact k3.2.2⟩, hy⟩
    by_cases g : 3 ≤ k - b
    · rw [if_pos (by rw [show (3 : Int32) = nI 3 from rfl, zI_le (by decide) (by omega)]; exact g)]
      exact go x (by rw [k4, show min (k - b) 3 = 3 by omega, show min (k + 1 - b) 3 = 3 by omega])
    · rw [if_neg (by rw [show (3 : Int32) = nI 3 from rfl, zI_le (by decide) (by omega)]; exact g)]
      refine go _ ?_
      rw [k4, show min (k - b) 3 = k - b by omega, show min (k + 1 - b) 3 = (k - b) + 1 by omega]
      show _ = 10 * dv tp b (k - b) + tp (b + (k - b)) - 48
      rw [show b + (k - b) = k by omega]
  · intro f q hend ⟨k0, k1, k2, k3, k4⟩
    obtain ⟨K, x⟩ := q
    dsimp only at k2 k3 k4
    generalize he : rn (isDi tp) T b = e at *
    have hf : ¬ (decide (e < T) && decide (¬ tp e < 48 ∧ ¬ 57 < tp e)) = true := by
      rw [Bool.and_eq_true, decide_eq_true_iff]
      rintro ⟨g1, g2⟩
      rcases hend with h9 | h9
      · omega
      · have : isDi tp e = true := g2
        rw [h9] at this; cases this
    have bad : ¬ vN tp T lo hi b → Tt (f_X12_number_99 K L) (fun r => r.2.2 = L ∧ o149 J r.2.1 ∧ r.2.1 149 11 = nI b ∧ (vN tp T lo hi b → r.1 = nu tp T b ∧ RT tp T (nx tp T b) r.2.1) ∧ (¬ vN tp T lo hi b → r.1 = -1)) := fun hv => Tt_some ⟨rfl, k2, k3.2.2, fun h9 => absurd h9 hv, fun _ => rfl⟩
    show Tt (f_X12_number_6 (f + 1) lo hi x K L) _
    unfold f_X12_number_6
    rw [r_isAt hT k1 k3.1 k3.2.1, Option.bind_some, if_neg hf, k3.2.1, k3.2.2, zI_sub k0]
    by_cases g1 : e = b
    · rw [if_pos (by rw [g1])]
      refine bad (fun h9 => h9.1 ?_)
      rw [nu_m1 (by rw [he, g1]) hbT]; exact hlo
    · rw [if_neg (by rw [zI_eq (by omega) (by omega)]; exact g1)]
      have hbl : b < T := by omega
      have hdi : isDi tp b = true := by
        cases hx : isDi tp b
        · exact absurd (he.symm.trans (rn_stop (Or.inr hx))) g1
        · rfl
      have hso := di_so hbl hdi
      have hte := (te_di hso).2.2
      rw [he] at hte
      by_cases g2 : 3 < e - b
      · rw [if_pos (by rw [show (3 : Int32) = nI 3 from rfl, zI_lt (by decide) (by omega)]; exact g2)]
        refine bad (fun h9 => h9.1 ?_)
        have : nu tp T b = -1 := by unfold nu; rw [if_neg (fun h8 => by have := h8.2; omega)]
        rw [this]; exact hlo
      · rw [if_neg (by rw [show (3 : Int32) = nI 3 from rfl, zI_lt (by decide) (by omega)]; exact g2)]
        have hnu : x = nu tp T b := by
          rw [k4, show min (e - b) 3 = e - b by omega]
          unfold nu; rw [if_pos ⟨hso, by omega⟩, hte]
        rw [hnu]
        by_cases g3 : nu tp T b < lo
        · rw [if_pos g3]; exact bad (fun h9 => h9.1 g3)
        · rw [if_neg g3]
          by_cases g4 : nu tp T b ≤ hi
          · rw [if_pos g4]
            refine Tt_some ⟨rfl, k2, k3.2.2, fun _ => ⟨rfl, ?_⟩, fun h9 => absurd ⟨g3, Int32.not_lt.mpr g4⟩ h9⟩
            rw [← hte] at k3
            exact RLe_nx hbT k3
          · rw [if_neg g4]; exact bad (fun h9 => g4 (Int32.not_lt.mp h9.2))
theorem r_after {tp : Nat → Int32} {T i b : Nat} {lo hi : Int32} {J : MI} {L : ML} (hT : T ≤ 400) (hs : 1 ≤ sLen i ∧ sLen i ≤ 8) (hlo : -1 < lo) (h : RT tp T b J) : Tt (f_X12_after i lo hi J L) (fun r => r.2.2 = L ∧ o149 J r.2.1 ∧ (wdB tp T i b = false → r.1 = -1 ∧ r.2.1 149 11 = nI b) ∧ (wdB tp T i b = true → r.2.1 149 11 = nI (nx tp T b) ∧ (vN tp T lo hi (nx tp T b) → r.1 = nu tp T (nx tp T b) ∧ RT tp T (nx tp T (nx tp T b)) r.2.1) ∧ (¬ vN tp T lo hi (nx tp T b) → r.1 = -1))) := by
  unfold f_X12_after f_X12_after_18
  refine Tt_bind (Tt_mono (r_needs hT hs h) ?_)
  intro s ⟨s1, s2, s3, s4, s5⟩
  rw [s1, s2]
  cases hw : wdB tp T i b
  · rw [if_neg (by decide)]
    exact Tt_some ⟨rfl, s3, fun _ => ⟨rfl, s4⟩, fun h9 => absurd h9 Bool.false_ne_true⟩
  · rw [if_pos rfl]
    refine Tt_bind (Tt_mono (r_number hT hlo (s5 hw)) ?_)
    intro u ⟨u1, u2, u3, u4, u5⟩
    rw [u1]
    exact Tt_some ⟨rfl, o149_tr s3 u2, fun h9 => absurd h9.symm Bool.false_ne_true, fun _ => ⟨u3, u4, u5⟩⟩
-- ===== numbers are small
theorem rn_all {p : Nat → Bool} {T : Nat} : ∀ (m k : Nat), T - k = m → ∀ j, k ≤ j → j < rn p T k → p j = true := by
  intro m
  induction m with
  | zero => intro k hm j h1 h2; rw [rn_stop (Or.inl (by omega))] at h2; omega
  | succ m ih =>
    intro k hm j h1 h2
    cases hp : p k with
    | false => rw [rn_stop (Or.inr hp)] at h2; omega
    | true =>
      rw [rn_step (by omega) hp] at h2
      by_cases h3 : j = k
      · rw [h3]; exact hp
      · exact ih (k + 1) (by omega) j (by omega) h2
theorem dv_n9 {tp : Nat → Int32} {b : Nat} : ∀ m, m ≤ 3 → (∀ j, j < m → isDi tp (b + j) = true) → ∃ n, n < 10 ^ m ∧ dv tp b m = nI n := by
  intro m
  induction m with
  | zero => intro _ _; exact ⟨0, by decide, rfl⟩
  | succ m ih =>
    intro hm h
    obtain ⟨n, hn, e⟩ := ih (by omega) (fun j hj => h j (by omega))
    obtain ⟨g, hg1, hg2, eg⟩ := rng_t (x := tp (b + m)) (a := 48) (b := 57) (by decide) (by decide) (of_decide_eq_true (h m (by omega)))
    have hp : 10 ^ m ≤ 100 := Nat.le_trans (Nat.pow_le_pow_right (by decide) (show m ≤ 2 by omega)) (by decide)
    refine ⟨10 * n + (g - 48), by rw [Nat.pow_succ]; omega, ?_⟩
    show 10 * dv tp b m + tp (b + m) - 48 = _
    rw [e, eg, show (10 : Int32) = nI 10 from rfl, zI_mul, zI_add, show (48 : Int32) = nI 48 from rfl, zI_sub (by omega), show 10 * n + g - 48 = 10 * n + (g - 48) by omega]
/-- a number is none, or at most 999 -/
theorem nu_c {tp : Nat → Int32} {T b : Nat} : nu tp T b = -1 ∨ (so tp T b = 2 ∧ ∃ n, n ≤ 999 ∧ nu tp T b = nI n) := by
  unfold nu
  by_cases h : so tp T b = 2 ∧ te tp T b - b ≤ 3
  · rw [if_pos h]
    obtain ⟨h1, h2, h3⟩ := te_di h.1
    have hall := rn_all (p := isDi tp) (T := T) (T - b) b rfl
    rw [← h3] at hall
    obtain ⟨n, hn, e⟩ := dv_n9 (tp := tp) (b := b) (te tp T b - b) h.2 (fun j hj => hall (b + j) (by omega) (by omega))
    have hp : 10 ^ (te tp T b - b) ≤ 1000 := Nat.le_trans (Nat.pow_le_pow_right (by decide) h.2) (by decide)
    exact Or.inr ⟨h.1, n, by omega, e⟩
  · rw [if_neg h]; exact Or.inl rfl
