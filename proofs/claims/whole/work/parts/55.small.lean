-- ===== the reference: what it keeps, ends of its calls
theorem r_in {x a b : Int32} {I : MI} {L : ML} : f_X12_in x a b I L = some (decide (¬ x < a ∧ ¬ b < x)) := by
  unfold f_X12_in f_X12_in_14 f_X12_in_15
  by_cases h1 : x < a
  · rw [if_pos h1, decide_eq_false (fun h => h.1 h1)]
  · rw [if_neg h1]
    by_cases h2 : b < x
    · rw [if_pos h2, decide_eq_false (fun h => h.2 h2)]
    · rw [if_neg h2, decide_eq_true ⟨h1, h2⟩]
theorem r_no {x : Int32} {r : Nat} (hr : r < 2 ^ 31) : (∀ k, k < r → x = nI k → (¬ x < 0 ∧ ¬ nI r - 1 < x)) ∧ ((∀ k, k < r → x ≠ nI k) → ¬ (¬ x < 0 ∧ ¬ nI r - 1 < x)) := by
  have e1 : (nI r - 1).toInt = (r : Int) - 1 := by
    have e9 : (1 : Int32).toInt = 1 := by decide
    rw [ti_sub] <;> rw [zI_ti hr, e9] <;> omega
  constructor
  · intro k hk hx
    subst hx
    refine ⟨zI_nn (by omega), ?_⟩
    rw [Int32.lt_iff_toInt_lt, e1, zI_ti (by omega)]; omega
  · intro hx ⟨h1, h2⟩
    rw [Int32.lt_iff_toInt_lt, e1] at h2
    obtain ⟨k, hk, e⟩ := vld_of (x := x) (r := r) h1 (by rw [Int32.lt_iff_toInt_lt, zI_ti hr]; omega) hr
    exact hx k hk e
theorem r_noRoom_t {I : MI} {L : ML} {r k : Nat} (h : I 150 0 = nI r) (hr : r ≤ 10) (hk : k < r) : f_X12_noRoom (nI k) I L = some false := by
  unfold f_X12_noRoom f_X12_rooms f_X12_noRoom_19
  rw [show ldI I 150 2143 0 = some (I 150 0) from r_w (k := 0) (by decide), Option.bind_some, Option.bind_some, h, r_in, Option.bind_some, if_pos (decide_eq_true ((r_no (by omega)).1 k hk rfl))]
theorem r_noRoom_f {I : MI} {L : ML} {r : Nat} {x : Int32} (h : I 150 0 = nI r) (hr : r ≤ 10) (hx : ∀ k, k < r → x ≠ nI k) : f_X12_noRoom x I L = some true := by
  unfold f_X12_noRoom f_X12_rooms f_X12_noRoom_19
  rw [show ldI I 150 2143 0 = some (I 150 0) from r_w (k := 0) (by decide), Option.bind_some, Option.bind_some, h, r_in, Option.bind_some, if_neg (by rw [decide_eq_true_iff]; exact (r_no (by omega)).2 hx)]
theorem r_noHeir_t {I : MI} {L : ML} {r k : Nat} (h : I 150 2 = nI r) (hr : r ≤ 6) (hk : k < r) : f_X12_noHeir (nI k) I L = some false := by
  unfold f_X12_noHeir f_X12_heirs f_X12_noHeir_19
  rw [show (2 : Int32) = nI 2 from rfl, r_w (by decide), Option.bind_some, Option.bind_some, h, r_in, Option.bind_some, if_pos (decide_eq_true ((r_no (by omega)).1 k hk rfl))]
theorem r_noHeir_f {I : MI} {L : ML} {r : Nat} {x : Int32} (h : I 150 2 = nI r) (hr : r ≤ 6) (hx : ∀ k, k < r → x ≠ nI k) : f_X12_noHeir x I L = some true := by
  unfold f_X12_noHeir f_X12_heirs f_X12_noHeir_19
  rw [show (2 : Int32) = nI 2 from rfl, r_w (by decide), Option.bind_some, Option.bind_some, h, r_in, Option.bind_some, if_neg (by rw [decide_eq_true_iff]; exact (r_no (by omega)).2 hx)]
theorem r_noNoise_t {I : MI} {L : ML} {r k : Nat} (h : I 150 3 = nI r) (hr : r ≤ 12) (hk : k < r) : f_X12_noNoise (nI k) I L = some false := by
  unfold f_X12_noNoise f_X12_noises f_X12_noNoise_19
  rw [show (3 : Int32) = nI 3 from rfl, r_w (by decide), Option.bind_some, Option.bind_some, h, r_in, Option.bind_some, if_pos (decide_eq_true ((r_no (by omega)).1 k hk rfl))]
theorem r_noNoise_f {I : MI} {L : ML} {r : Nat} {x : Int32} (h : I 150 3 = nI r) (hr : r ≤ 12) (hx : ∀ k, k < r → x ≠ nI k) : f_X12_noNoise x I L = some true := by
  unfold f_X12_noNoise f_X12_noises f_X12_noNoise_19
  rw [show (3 : Int32) = nI 3 from rfl, r_w (by decide), Option.bind_some, Option.bind_some, h, r_in, Option.bind_some, if_neg (by rw [decide_eq_true_iff]; exact (r_no (by omega)).2 hx)]
theorem r_thr_t {x : Int32} {I : MI} {L : ML} : f_X12_throwsIf true x I L = some (true, up2 I 149 0 x, L) := rfl
theorem r_thr_f {x : Int32} {I : MI} {L : ML} : f_X12_throwsIf false x I L = some (false, I, L) := rfl
/-- thrown is set to 0 -/
def th0 (I : MI) : MI := up2 I 149 0 0
theorem pf0 {I : MI} : pfI I 149 0 0 = some (th0 I) := rfl
theorem bft : ((false : Bool) = true) = False := by decide
theorem th0_n {I : MI} {q : Nat} (h : q ≠ 149) : th0 I q = I q := zu_n _ _ _ h
/-- what the reference changes besides: its scratch -/
def scR (I J : MI) (L M : ML) : Prop := (∀ q, q ≠ 156 → q ≠ 157 → q ≠ 158 → J q = I q) ∧ ∀ q, q ≠ 159 → M q = L q
theorem scR_rf (I : MI) (L : ML) : scR I I L L := ⟨fun _ _ _ _ => rfl, fun _ _ => rfl⟩
theorem scR_tr {I J K : MI} {L M N : ML} (h1 : scR I J L M) (h2 : scR J K M N) : scR I K L N := ⟨fun q a b c => (h2.1 q a b c).trans (h1.1 q a b c), fun q a => (h2.2 q a).trans (h1.2 q a)⟩
theorem scR_156 {I J : MI} {L : ML} (h : only156 I J) : scR I J L L := ⟨fun q a _ _ => h q a, fun _ _ => rfl⟩
theorem RI_thr {I : MI} {L L' : ML} {A : AS} {x : Int32} (h : RI9 I L A) : RI9 (up2 I 149 0 x) L' A :=
  RI9_149 (fun q h1 _ _ _ _ _ => zu_n _ _ _ (by omega)) (by rw [zu_s]; rfl) (by rw [zu_s]; rfl) (by rw [zu_s]; rfl) (by rw [zu_s]; rfl) h
theorem RI_sc {I J : MI} {L L' M : ML} {A : AS} (h : RI9 I L A) (hs : scR I J L' M) : RI9 J M A := RI9_cg (fun q _ h1 h2 h3 _ _ => hs.1 q h1 h2 h3) h
theorem Rp_q {T : Type} {I J : MI} {L M : ML} {A : AS} {v : T} (h : RI9 I L A) (hs : scR (th0 I) J L M) : RpX I L A (.inr v) (v, J, M) := by
  refine ⟨⟨?_, rfl⟩, RI_sc (RI_thr (L' := L) h) hs, fun q hq => ⟨?_, hs.2 q (by omega)⟩, hs.2 160 (by decide)⟩
  · show J 149 0 = 0
    rw [hs.1 149 (by decide) (by decide) (by decide)]
    show up2 I 149 0 0 149 0 = 0
    rw [zu_s, if_pos rfl]
  · show J q = I q
    rw [hs.1 q (by omega) (by omega) (by omega)]
    exact th0_n (by omega)
theorem Rp_t {T : Type} {I : MI} {L : ML} {A : AS} {x : T} {n : Nat} (h : RI9 I L A) (hn : nI n ≠ 0) : RpX I L A (.inl n) (x, up2 (th0 I) 149 0 (nI n), L) := by
  refine ⟨⟨?_, hn⟩, RI_thr (L := L) (RI_thr (L' := L) h), fun q hq => ⟨?_, rfl⟩, rfl⟩
  · show up2 (th0 I) 149 0 (nI n) 149 0 = nI n
    rw [zu_s, if_pos rfl]
  · show up2 (th0 I) 149 0 (nI n) q = I q
    rw [zu_n _ _ _ (by omega)]
    exact th0_n (by omega)
theorem Rp_d {T : Type} {I J : MI} {L M : ML} {A : AS} {v : T} (h : RI9 I L A) (hs : scR (th0 I) J L M) : RpD I L A v (v, J, M) :=
  ⟨rfl, RI_sc (RI_thr (L' := L) h) hs, fun q hq => ⟨by show J q = I q; rw [hs.1 q (by omega) (by omega) (by omega)]; exact th0_n (by omega), hs.2 q (by omega)⟩⟩
/-- the costs, at the beginning of a call -/
theorem r_sp {I : MI} {L : ML} {w : Nat → Int32} {c : Nat} (hw : WF c w) (hI : I 150 = w) : Tt (f_X12_spreads I L) (fun r => r.2 = L ∧ only156 I r.1 ∧ RW r.1 w) := by
  refine Tt_mono (r_spreads (by rw [hI]; exact hw.1)) ?_
  intro r ⟨h1, h2, h3⟩
  exact ⟨h1, h2, by rw [h2 150 (by decide)]; exact hI, by rw [← hI]; exact h3⟩
-- ===== the class: the house that is now
theorem hs_h {h d : Nat} {x : Int32} (hd : HD h d) (e : x = nI h) : hsO x = some h := by
  subst e
  unfold hsO
  rcases hd with ⟨rfl, -⟩ | ⟨rfl, -⟩ <;> rfl
theorem c_needRoom_t {h d : Nat} {I : MI} {L : ML} {r k : Nat} (hd : HD h d) (e : I 0 4 = nI h) (h0 : I h 0 = nI r) (hr : r ≤ 10) (hk : k < r) : f_X11_needRoom (nI k) I L = some (.inr (), I, L) := by
  unfold f_X11_needRoom f_X3_hasRoom f_X3_hasRoom_17
  rw [hs_h hd e, Option.bind_some, if_neg (zI_nn (by omega)), h0, if_neg (by rw [zI_le (by omega) (by omega)]; omega)]; rfl
theorem c_needRoom_f {h d : Nat} {I : MI} {L : ML} {r : Nat} {x : Int32} (hd : HD h d) (e : I 0 4 = nI h) (h0 : I h 0 = nI r) (hr : r ≤ 10) (hx : ∀ k, k < r → x ≠ nI k) : f_X11_needRoom x I L = some (.inl "java/lang/IndexOutOfBoundsException", I, L) := by
  unfold f_X11_needRoom f_X3_hasRoom f_X3_hasRoom_16 f_X3_hasRoom_17
  rw [hs_h hd e, Option.bind_some, h0]
  by_cases h1 : x < 0
  · rw [if_pos h1]; rfl
  · by_cases h2 : nI r ≤ x
    · rw [if_neg h1, if_pos h2]; rfl
    · obtain ⟨k, hk, ek⟩ := vld_of (r := r) h1 (Int32.not_le.mp h2) (by omega)
      exact absurd ek (hx k hk)
theorem c_needHeir_t {h d : Nat} {I : MI} {L : ML} {r k : Nat} (hd : HD h d) (e : I 0 4 = nI h) (h0 : I h 2 = nI r) (hr : r ≤ 6) (hk : k < r) : f_X11_needHeir (nI k) I L = some (.inr (), I, L) := by
  unfold f_X11_needHeir
  rw [if_neg (zI_nn (by omega)), hs_h hd e, Option.bind_some, h0, if_pos (by rw [zI_lt (by omega) (by omega)]; omega)]
theorem c_needHeir_f {h d : Nat} {I : MI} {L : ML} {r : Nat} {x : Int32} (hd : HD h d) (e : I 0 4 = nI h) (h0 : I h 2 = nI r) (hr : r ≤ 6) (hx : ∀ k, k < r → x ≠ nI k) : f_X11_needHeir x I L = some (.inl "java/lang/IndexOutOfBoundsException", I, L) := by
  unfold f_X11_needHeir f_X11_needHeir_15
  by_cases h1 : x < 0
  · rw [if_pos h1]
  · rw [if_neg h1, hs_h hd e, Option.bind_some, h0]
    by_cases h2 : x < nI r
    · obtain ⟨k, hk, ek⟩ := vld_of (r := r) h1 h2 (by omega)
      exact absurd ek (hx k hk)
    · rw [if_neg h2]
theorem c_needNoise_t {h d : Nat} {I : MI} {L : ML} {r k : Nat} (hd : HD h d) (e : I 0 4 = nI h) (h0 : I h 3 = nI r) (hr : r ≤ 12) (hk : k < r) : f_X11_needNoise (nI k) I L = some (.inr (), I, L) := by
  unfold f_X11_needNoise
  rw [if_neg (zI_nn (by omega)), hs_h hd e, Option.bind_some, h0, if_pos (by rw [zI_lt (by omega) (by omega)]; omega)]
theorem c_needNoise_f {h d : Nat} {I : MI} {L : ML} {r : Nat} {x : Int32} (hd : HD h d) (e : I 0 4 = nI h) (h0 : I h 3 = nI r) (hr : r ≤ 12) (hx : ∀ k, k < r → x ≠ nI k) : f_X11_needNoise x I L = some (.inl "java/lang/IndexOutOfBoundsException", I, L) := by
  unfold f_X11_needNoise f_X11_needNoise_15
  by_cases h1 : x < 0
  · rw [if_pos h1]
  · rw [if_neg h1, hs_h hd e, Option.bind_some, h0]
    by_cases h2 : x < nI r
    · obtain ⟨k, hk, ek⟩ := vld_of (r := r) h1 h2 (by omega)
      exact absurd ek (hx k hk)
    · rw [if_neg h2]
theorem xc_r {T R : Type} {v : T} {I : MI} {L : ML} {f : T → Option ((String ⊕ R) × MI × ML)} : xc ((.inr v : String ⊕ T), I, L) f = f v := rfl
theorem xc_l {T R : Type} {e : String} {I : MI} {L : ML} {f : T → Option ((String ⊕ R) × MI × ML)} : xc ((.inl e : String ⊕ T), I, L) f = some (.inl e, I, L) := rfl
theorem Cp_q {T : Type} {hs : List String} {I : MI} {L : ML} {A : AS} {v : T} (h : CI9 I L A) : CpX hs I A (.inr v) (.inr v, I, L) := ⟨rfl, h, fun _ _ => rfl⟩
theorem Cp_t {T : Type} {hs : List String} {e : String} {n : Nat} {I : MI} {L : ML} {A : AS} (h : CI9 I L A) (he : ∀ L, wkE hs e L = some (nI n, L)) : CpX (T := T) hs I A (.inl n) (.inl e, I, L) := ⟨⟨e, rfl, he⟩, h, fun _ _ => rfl⟩
/-- what the class's cells give of the house that is now -/
theorem CJ_now {h d : Nat} {I : MI} {L : ML} {A : AS} (c : CJ h d I L A) : I 0 4 = nI h ∧ CR h I L A.1 := ⟨c.1, c.2.2.1⟩
theorem r_w5 {I : MI} {L : ML} {A : AS} (h : RI9 I L A) : I 150 = A.1 := h.1
abbrev IOB : String := "java/lang/IndexOutOfBoundsException"
abbrev IAE : String := "java/lang/IllegalArgumentException"
abbrev NSE : String := "java/util/NoSuchElementException"
abbrev UOE : String := "java/lang/UnsupportedOperationException"
theorem wk_1 {a : String} {r : List String} : r.length ≤ 1 → ∀ L, wkE (a :: r) a L = some (nI 1, L) := by
  intro _ L
  match r with
  | [] =>
    show (if a = a then some ((1 : Int32), L) else none) = _
    rw [if_pos rfl]; rfl
  | b :: r =>
    show (if a = a then some ((1 : Int32), L) else if a = b then some (2, L) else none) = _
    rw [if_pos rfl]; rfl
theorem wk_2 {a b : String} (h : b ≠ a) : ∀ L, wkE [a, b] b L = some (nI 2, L) := by
  intro L
  show (if b = a then some ((1 : Int32), L) else if b = b then some (2, L) else none) = _
  rw [if_neg h, if_pos rfl]; rfl
-- ===== cost
theorem C_cost {c : Nat} {I : MI} {L : ML} {A : AS} (hA : AI c A) (hC : CI9 I L A) (hR : RI9 I L A) (x y : Int32) : ∃ I' L', SI [IOB] (f_X11_cost x y I L) (f_X12_cost x y) I' L' ∧ CI9 I' L' A ∧ RI9 I' L' A := by
  obtain ⟨h, d, hd, cj⟩ := id hC
  have hw := hA.1
  have hr10 := hw.1.1.2
  obtain ⟨e, cr⟩ := CJ_now cj
  have e0 : I h 0 = nI (nw A.1 0) := cr.1.1.trans hw.1.1.1
  have e1 : ∀ {I' : MI} {L' : ML}, RI9 I' L' A → (th0 I') 150 0 = nI (nw A.1 0) := fun hR' => by rw [th0_n (by decide), hR'.1]; exact hw.1.1.1
  by_cases hx : ∃ k, k < nw A.1 0 ∧ x = nI k
  · by_cases hy : ∃ k, k < nw A.1 0 ∧ y = nI k
    · obtain ⟨a, ha, rfl⟩ := hx
      obtain ⟨b, hb, rfl⟩ := hy
      have hcs := cs_cases hw.1 (a := a) (b := b) (by omega) (by omega)
      refine mkSI (res := .inr (if cs A.1 (10 * a + b) = 1000000 then -1 else nI (cs A.1 (10 * a + b)))) hR ?_ ?_
      · simp only [f_X11_cost, f_X11_cost_31, c_needRoom_t hd e e0 hr10 ha, c_needRoom_t hd e e0 hr10 hb, Option.bind_some, xc_r, hs_h hd e, c_way (show a < 10 by omega) (show b < 10 by omega), cr.2.2.2.2.1 a b ha hb]
        rcases hcs with e9 | e9
        · rw [e9, if_pos rfl, if_neg (by decide)]
          exact Tt_some (Cp_q hC)
        · rw [if_neg (show ¬ cs A.1 (10 * a + b) = 1000000 by omega)]
          unfold cw
          rw [if_neg (show ¬ 1000000 ≤ cs A.1 (10 * a + b) by omega), if_pos (by rw [show (100000 : Int32) = nI 100000 from rfl, zI_lt (by omega) (by decide)]; omega)]
          exact Tt_some (Cp_q hC)
      · intro I' L' hR'
        simp only [f_X12_cost, f_X12_cost_27, f_X12_cost_61, pf0, Option.bind_some, r_noRoom_t (e1 hR') hr10 ha, r_noRoom_t (e1 hR') hr10 hb, r_thr_f, bft, if_false]
        refine Tt_bind (Tt_mono (r_sp hw (by rw [th0_n (by decide)]; exact hR'.1)) ?_)
        intro s ⟨s1, s2, s3⟩
        rw [r_cost (by omega) (by omega), Option.bind_some, s3.2 _ (by omega), show (1000000 : Int32) = nI 1000000 from rfl, s1]
        rcases hcs with e9 | e9
        · rw [e9, if_pos rfl, if_neg (by rw [zI_lt (by decide) (by decide)]; decide)]
          exact Tt_some (Rp_q hR' (scR_156 s2))
        · rw [if_neg (show ¬ cs A.1 (10 * a + b) = 1000000 by omega), if_pos (by rw [zI_lt (by omega) (by decide)]; omega), Option.bind_some]
          exact Tt_some (Rp_q hR' (scR_156 s2))
    · obtain ⟨a, ha, rfl⟩ := hx
      have hy' : ∀ k, k < nw A.1 0 → y ≠ nI k := fun k hk e => hy ⟨k, hk, e⟩
      refine mkSI (res := .inl 1) hR ?_ ?_
      · simp only [f_X11_cost, c_needRoom_t hd e e0 hr10 ha, Option.bind_some, xc_r, c_needRoom_f hd e e0 hr10 hy', xc_l]
        exact Tt_some (Cp_t hC (wk_1 (by decide)))
      · intro I' L' hR'
        simp only [f_X12_cost, f_X12_cost_22, f_X12_cost_27, pf0, Option.bind_some, r_noRoom_t (e1 hR') hr10 ha, bft, if_false, r_noRoom_f (e1 hR') hr10 hy', if_true, r_thr_t]
        exact Tt_some (Rp_t hR' (by decide))
  · have hx' : ∀ k, k < nw A.1 0 → x ≠ nI k := fun k hk e => hx ⟨k, hk, e⟩
    refine mkSI (res := .inl 1) hR ?_ ?_
    · simp only [f_X11_cost, c_needRoom_f hd e e0 hr10 hx', Option.bind_some, xc_l]
      exact Tt_some (Cp_t hC (wk_1 (by decide)))
    · intro I' L' hR'
      simp only [f_X12_cost, f_X12_cost_22, f_X12_cost_27, pf0, Option.bind_some, r_noRoom_f (e1 hR') hr10 hx', if_true, r_thr_t]
      exact Tt_some (Rp_t hR' (by decide))
