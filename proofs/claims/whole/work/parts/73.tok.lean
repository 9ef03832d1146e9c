-- ===== the text, thing by thing
def run (p : Nat → Bool) (T : Nat) : Nat → Nat → Nat
  | 0, k => k
  | f + 1, k => if k < T ∧ p k = true then run p T f (k + 1) else k
def rn (p : Nat → Bool) (T k : Nat) : Nat := run p T (T - k) k
theorem rn_step {p : Nat → Bool} {T k : Nat} (h : k < T) (hp : p k = true) : rn p T k = rn p T (k + 1) := by
  unfold rn
  obtain ⟨m, hm⟩ : ∃ m, T - k = m + 1 := ⟨T - k - 1, by omega⟩
  rw [hm, show T - (k + 1) = m by omega]
  show (if k < T ∧ p k = true then run p T m (k + 1) else k) = _
  rw [if_pos ⟨h, hp⟩]
theorem rn_stop {p : Nat → Bool} {T k : Nat} (h : T ≤ k ∨ p k = false) : rn p T k = k := by
  unfold rn
  cases hm : T - k with
  | zero => rfl
  | succ m =>
    show (if k < T ∧ p k = true then run p T m (k + 1) else k) = k
    rw [if_neg]
    rintro ⟨h1, h2⟩
    rcases h with h | h
    · omega
    · rw [h] at h2; cases h2
/-- a loop that goes on as long as the text does so -/
theorem lpR {σ R : Type} {Q : R → Prop} (loop : Nat → σ → Option R) (p : Nat → Bool) (T : Nat) (Inv : Nat → σ → Prop)
    (hstep : ∀ (fuel k : Nat) (s : σ), k < T → p k = true → Inv k s → (∀ s', Inv (k + 1) s' → Tt (loop fuel s') Q) → Tt (loop (fuel + 1) s) Q) :
    ∀ (m k fuel : Nat) (s : σ), T - k = m → m < fuel → Inv k s → (∀ (f : Nat) (s : σ), (T ≤ rn p T k ∨ p (rn p T k) = false) → Inv (rn p T k) s → Tt (loop (f + 1) s) Q) → Tt (loop fuel s) Q := by
  intro m
  induction m with
  | zero =>
    intro k fuel s hm hf h hex
    obtain ⟨f, rfl⟩ : ∃ f, fuel = f + 1 := ⟨fuel - 1, by omega⟩
    have e : rn p T k = k := rn_stop (Or.inl (by omega))
    exact hex f s (Or.inl (by rw [e]; omega)) (by rw [e]; exact h)
  | succ m ih =>
    intro k fuel s hm hf h hex
    obtain ⟨f, rfl⟩ : ∃ f, fuel = f + 1 := ⟨fuel - 1, by omega⟩
    cases hp : p k with
    | false =>
      have e : rn p T k = k := rn_stop (Or.inr hp)
      exact hex f s (Or.inr (by rw [e]; exact hp)) (by rw [e]; exact h)
    | true =>
      have e : rn p T k = rn p T (k + 1) := rn_step (by omega) hp
      exact hstep f k s (by omega) hp h (fun s' h' => ih (k + 1) f s' (by omega) (by omega) h' (by rw [← e]; exact hex))
theorem rn_end {p : Nat → Bool} {T : Nat} : ∀ (m k : Nat), T - k = m → T ≤ rn p T k ∨ p (rn p T k) = false := by
  intro m
  induction m with
  | zero => intro k hm; left; rw [rn_stop (Or.inl (by omega))]; omega
  | succ m ih =>
    intro k hm
    cases hp : p k with
    | false => right; rw [rn_stop (Or.inr hp)]; exact hp
    | true => rw [rn_step (by omega) hp]; exact ih (k + 1) (by omega)
theorem rn_ge {p : Nat → Bool} {T : Nat} : ∀ (m k : Nat), T - k = m → k ≤ rn p T k ∧ (k ≤ T → rn p T k ≤ T) := by
  intro m
  induction m with
  | zero => intro k hm; rw [rn_stop (Or.inl (by omega))]; exact ⟨Nat.le_refl _, fun h => h⟩
  | succ m ih =>
    intro k hm
    cases hp : p k with
    | false => rw [rn_stop (Or.inr hp)]; exact ⟨Nat.le_refl _, fun h => h⟩
    | true =>
      rw [rn_step (by omega) hp]
      have := ih (k + 1) (by omega)
      exact ⟨by omega, fun _ => this.2 (by omega)⟩
theorem rn_id {p : Nat → Bool} {T k : Nat} : rn p T (rn p T k) = rn p T k := rn_stop (rn_end (T - k) k rfl)
def isBl (tp : Nat → Int32) (k : Nat) : Bool := decide (tp k = 32)
def isLe (tp : Nat → Int32) (k : Nat) : Bool := decide (¬ tp k < 97 ∧ ¬ 122 < tp k)
def isDi (tp : Nat → Int32) (k : Nat) : Bool := decide (¬ tp k < 48 ∧ ¬ 57 < tp k)
def sk (tp : Nat → Int32) (T k : Nat) : Nat := rn (isBl tp) T k
def te (tp : Nat → Int32) (T b : Nat) : Nat := if T ≤ b then b else if isLe tp b = true then rn (isLe tp) T b else if isDi tp b = true then rn (isDi tp) T b else b + 1
def so (tp : Nat → Int32) (T b : Nat) : Int32 := if T ≤ b then 0 else if isLe tp b = true then 1 else if isDi tp b = true then 2 else 3
def dv (tp : Nat → Int32) (b : Nat) : Nat → Int32
  | 0 => 0
  | m + 1 => 10 * dv tp b m + tp (b + m) - 48
def nu (tp : Nat → Int32) (T b : Nat) : Int32 := if so tp T b = 2 ∧ te tp T b - b ≤ 3 then dv tp b (te tp T b - b) else -1
def nx (tp : Nat → Int32) (T b : Nat) : Nat := sk tp T (te tp T b)
theorem le_di {tp : Nat → Int32} {k : Nat} (h : isDi tp k = true) : isLe tp k = false := by
  have h1 := of_decide_eq_true h
  refine decide_eq_false ?_
  rintro ⟨h2, -⟩
  apply h2
  have h3 := h1.2
  rw [Int32.lt_iff_toInt_lt] at h3 ⊢
  have e1 : (57 : Int32).toInt = 57 := by decide
  have e2 : (97 : Int32).toInt = 97 := by decide
  rw [e1] at h3; rw [e2]; omega
theorem te_b {tp : Nat → Int32} {T b : Nat} (h : b < T) : b < te tp T b ∧ te tp T b ≤ T := by
  unfold te
  rw [if_neg (by omega)]
  split
  · rename_i h1
    rw [rn_step h h1]
    have := rn_ge (p := isLe tp) (T := T) (T - (b + 1)) (b + 1) rfl
    exact ⟨by omega, this.2 (by omega)⟩
  · split
    · rename_i h1
      rw [rn_step h h1]
      have := rn_ge (p := isDi tp) (T := T) (T - (b + 1)) (b + 1) rfl
      exact ⟨by omega, this.2 (by omega)⟩
    · omega
theorem te_T {tp : Nat → Int32} {T b : Nat} (h : b ≤ T) : b ≤ te tp T b ∧ te tp T b ≤ T := by
  by_cases h1 : b < T
  · have := te_b (tp := tp) h1; omega
  · unfold te; rw [if_pos (by omega)]; omega
theorem sk_T {tp : Nat → Int32} {T k : Nat} (h : k ≤ T) : k ≤ sk tp T k ∧ sk tp T k ≤ T := by
  have := rn_ge (p := isBl tp) (T := T) (T - k) k rfl
  exact ⟨this.1, this.2 h⟩
theorem nx_T {tp : Nat → Int32} {T b : Nat} (h : b ≤ T) : te tp T b ≤ nx tp T b ∧ nx tp T b ≤ T := by
  have h1 := te_T (tp := tp) h
  exact sk_T h1.2
theorem nx_lt {tp : Nat → Int32} {T b : Nat} (h : b < T) : b < nx tp T b ∧ nx tp T b ≤ T := by
  have h1 := te_b (tp := tp) h
  have h2 := nx_T (tp := tp) (T := T) (b := b) (by omega)
  omega
theorem sk_nx {tp : Nat → Int32} {T b : Nat} : sk tp T (nx tp T b) = nx tp T b := rn_id
theorem sk_sk {tp : Nat → Int32} {T b : Nat} : sk tp T (sk tp T b) = sk tp T b := rn_id
/-- the class's tape stands at the thing that begins at b -/
def CT (tp : Nat → Int32) (T b : Nat) (I : MI) : Prop := I 1 2 = nI T ∧ I 1 3 = nI b ∧ I 1 4 = nI (te tp T b) ∧ I 1 5 = so tp T b ∧ I 1 6 = nu tp T b ∧ ∀ k, k < 400 → I 2 k = tp k
def only1 (I J : MI) : Prop := (∀ q, q ≠ 1 → J q = I q) ∧ J 1 1 = I 1 1 ∧ J 1 7 = I 1 7
theorem only1_tr {I J K : MI} (h1 : only1 I J) (h2 : only1 J K) : only1 I K := ⟨fun q hq => (h2.1 q hq).trans (h1.1 q hq), h2.2.1.trans h1.2.1, h2.2.2.trans h1.2.2⟩
theorem only1_rf (I : MI) : only1 I I := ⟨fun _ _ => rfl, rfl, rfl⟩
theorem c_sort {tp : Nat → Int32} {T k : Nat} {I : MI} {L : ML} (hT : T ≤ 400) (h2 : I 1 2 = nI T) (ht : ∀ k, k < 400 → I 2 k = tp k) (hk : k ≤ 400) : f_X8_sortOf (nI k) I L = some (so tp T k) := by
  unfold f_X8_sortOf f_X8_sortOf_33 f_X8_sortOf_49 f_X8_sortOf_50 so
  rw [h2]
  by_cases h : T ≤ k
  · rw [if_neg (fun h9 => by have := (zI_lt (by omega) (by omega)).mp h9; omega), if_pos h]
  · rw [if_pos ((zI_lt (by omega) (by omega)).mpr (by omega)), if_neg h, ldI_n (show k < 400 by omega) (by decide), Option.bind_some, ht k (by omega)]
    unfold isLe isDi
    by_cases l1 : ¬ tp k < 97 ∧ ¬ 122 < tp k
    · rw [ite2_t l1, if_pos (decide_eq_true l1)]
    · rw [ite2_f l1, if_neg (show ¬ decide (¬ tp k < 97 ∧ ¬ 122 < tp k) = true by rw [decide_eq_true_iff]; exact l1)]
      by_cases l2 : ¬ tp k < 48 ∧ ¬ 57 < tp k
      · rw [ite2_t l2, if_pos (show decide (¬ tp k < 48 ∧ ¬ 57 < tp k) = true from decide_eq_true l2)]
      · rw [ite2_f l2, if_neg (show ¬ decide (¬ tp k < 48 ∧ ¬ 57 < tp k) = true by rw [decide_eq_true_iff]; exact l2)]
theorem c_144 {tp : Nat → Int32} {T b : Nat} {I J : MI} {L : ML} (hT : T ≤ 400) (hb : b ≤ T) (h2 : J 1 2 = nI T) (h3 : J 1 3 = nI b) (h4 : J 1 4 = nI (te tp T b)) (h5 : J 1 5 = so tp T b) (h6 : J 1 6 = -1) (ht : ∀ k, k < 400 → J 2 k = tp k) (ho : only1 I J) : Tt (f_X8_step_144 J L) (fun r => r.2 = L ∧ CT tp T b r.1 ∧ only1 I r.1) := by
  have hte := te_T (tp := tp) hb
  unfold f_X8_step_144 f_X8_step_210
  rw [h3, h4, h5, zI_sub hte.1]
  by_cases s2 : so tp T b = 2
  · rw [if_pos s2]
    by_cases s3 : te tp T b - b ≤ 3
    · rw [if_neg (by rw [show (3 : Int32) = nI 3 from rfl, zI_lt (by decide) (by omega)]; omega), pfe, Option.bind_some]
      have e3 : up2 J 1 6 0 1 3 = nI b := by rw [zu_s, if_neg (by decide)]; exact h3
      rw [e3]
      refine lp (fun fuel k (K : MI) => f_X8_step_175 fuel (nI k) K L) (te tp T b) (fun k K => b ≤ k ∧ (∀ q, q ≠ 1 → K q = J q) ∧ (∀ j, j ≠ 6 → K 1 j = J 1 j) ∧ K 1 6 = dv tp b (k - b)) ?_ ?_ (te tp T b - b) b FU (up2 J 1 6 0) (by omega) (by unfold FU; omega) ⟨Nat.le_refl _, fun q hq => zu_n _ _ _ hq, fun j hj => by rw [zu_s, if_neg hj], by rw [zu_s, if_pos rfl, Nat.sub_self]; rfl⟩
      · intro fuel k K hk ⟨k1, k2, k3, k4⟩ hnx
        show Tt (f_X8_step_175 (fuel + 1) (nI k) K L) _
        unfold f_X8_step_175
        rw [k3 4 (by decide), h4, if_neg (le_n (by omega) (by omega) hk), ldI_n (show k < 400 by omega) (by decide), Option.bind_some, k2 2 (by decide), ht k (by omega), k4, pfe, Option.bind_some, zI_1 k]
        refine hnx _ ⟨by omega, fun q hq => by rw [zu_n _ _ _ hq]; exact k2 q hq, fun j hj => by rw [zu_s, if_neg hj]; exact k3 j hj, ?_⟩
        rw [zu_s, if_pos rfl, show k + 1 - b = (k - b) + 1 by omega]
        show _ = 10 * dv tp b (k - b) + tp (b + (k - b)) - 48
        rw [show b + (k - b) = k by omega]
      · intro fuel K ⟨k1, k2, k3, k4⟩
        show Tt (f_X8_step_175 (fuel + 1) (nI (te tp T b)) K L) _
        unfold f_X8_step_175 f_X8_step_210
        rw [k3 4 (by decide), h4, if_pos (Int32.le_refl _)]
        refine Tt_some ⟨rfl, ⟨(k3 2 (by decide)).trans h2, (k3 3 (by decide)).trans h3, (k3 4 (by decide)).trans h4, (k3 5 (by decide)).trans h5, ?_, fun k hk => by show K 2 k = _; rw [k2 2 (by decide)]; exact ht k hk⟩, only1_tr ho ⟨k2, k3 1 (by decide), k3 7 (by decide)⟩⟩
        show K 1 6 = _
        rw [k4]; unfold nu; rw [if_pos ⟨s2, s3⟩]
    · rw [if_pos (by rw [show (3 : Int32) = nI 3 from rfl, zI_lt (by decide) (by omega)]; omega)]
      exact Tt_some ⟨rfl, ⟨h2, h3, h4, h5, by show J 1 6 = _; rw [h6]; unfold nu; rw [if_neg (fun h => s3 h.2)], ht⟩, ho⟩
  · rw [if_neg s2]
    exact Tt_some ⟨rfl, ⟨h2, h3, h4, h5, by show J 1 6 = _; rw [h6]; unfold nu; rw [if_neg (fun h => s2 h.1)], ht⟩, ho⟩
theorem c_87 {tp : Nat → Int32} {T b : Nat} {p : Nat → Bool} {I J : MI} {L : ML} (hT : T ≤ 400) (hb : b ≤ T) (hp : ∀ k, k < T → (so tp T k = so tp T b ↔ p k = true)) (hte : te tp T b = rn p T b) (h2 : J 1 2 = nI T) (h3 : J 1 3 = nI b) (h4 : J 1 4 = nI b) (h5 : J 1 5 = so tp T b) (h6 : J 1 6 = -1) (ht : ∀ k, k < 400 → J 2 k = tp k) (ho : only1 I J) : Tt (f_X8_step_87 FU J L) (fun r => r.2 = L ∧ CT tp T b r.1 ∧ only1 I r.1) := by
  refine lpR (fun fuel (K : MI) => f_X8_step_87 fuel K L) p T (fun k K => k ≤ T ∧ (∀ q, q ≠ 1 → K q = J q) ∧ (∀ j, j ≠ 4 → K 1 j = J 1 j) ∧ K 1 4 = nI k) ?_ (T - b) b FU J rfl (by unfold FU; omega) ⟨hb, fun _ _ => rfl, fun _ _ => rfl, h4⟩ ?_
  · intro fuel k K hk hpk ⟨k1, k2, k3, k4⟩ hnx
    show Tt (f_X8_step_87 (fuel + 1) K L) _
    unfold f_X8_step_87
    rw [k3 2 (by decide), h2, k4, if_neg (le_n (by omega) (by omega) hk), c_sort (tp := tp) hT ((k3 2 (by decide)).trans h2) (fun j hj => by rw [k2 2 (by decide)]; exact ht j hj) (by omega), Option.bind_some, k3 5 (by decide), h5, if_pos ((hp k hk).mpr hpk), pfe, Option.bind_some, zI_1 k]
    exact hnx _ ⟨by omega, fun q hq => by rw [zu_n _ _ _ hq]; exact k2 q hq, fun j hj => by rw [zu_s, if_neg hj]; exact k3 j hj, by rw [zu_s, if_pos rfl]⟩
  · intro f K hend ⟨k1, k2, k3, k4⟩
    have hgo : Tt (f_X8_step_144 K L) (fun r => r.2 = L ∧ CT tp T b r.1 ∧ only1 I r.1) := c_144 hT hb ((k3 2 (by decide)).trans h2) ((k3 3 (by decide)).trans h3) (by rw [hte]; exact k4) ((k3 5 (by decide)).trans h5) ((k3 6 (by decide)).trans h6) (fun k hk => by rw [k2 2 (by decide)]; exact ht k hk) (only1_tr ho ⟨k2, k3 1 (by decide), k3 7 (by decide)⟩)
    show Tt (f_X8_step_87 (f + 1) K L) _
    unfold f_X8_step_87
    rw [k3 2 (by decide), h2, k4]
    by_cases g1 : T ≤ rn p T b
    · rw [if_pos ((zI_le (by omega) (by omega)).mpr g1)]
      exact hgo
    · have g2 := hend.resolve_left g1
      rw [if_neg (le_n (by omega) (by omega) (by omega)), c_sort (tp := tp) hT ((k3 2 (by decide)).trans h2) (fun j hj => by rw [k2 2 (by decide)]; exact ht j hj) (by omega), Option.bind_some, k3 5 (by decide), h5, if_neg (fun h9 => by have := (hp _ (by omega)).mp h9; rw [g2] at this; cases this)]
      exact hgo
theorem c_46 {tp : Nat → Int32} {T b : Nat} {I J : MI} {L : ML} (hT : T ≤ 400) (hb : b ≤ T) (h2 : J 1 2 = nI T) (h3 : J 1 3 = nI b) (ht : ∀ k, k < 400 → J 2 k = tp k) (ho : only1 I J) : Tt (f_X8_step_46 J L) (fun r => r.2 = L ∧ CT tp T b r.1 ∧ only1 I r.1) := by
  unfold f_X8_step_46
  rw [h3, pfe, Option.bind_some, pfe, Option.bind_some]
  have n1 : ∀ q, q ≠ 1 → up2 (up2 J 1 4 (nI b)) 1 6 (-1) q = J q := fun q hq => by rw [zu_n _ _ _ hq, zu_n _ _ _ hq]
  have n2 : ∀ j, j ≠ 4 → j ≠ 6 → up2 (up2 J 1 4 (nI b)) 1 6 (-1) 1 j = J 1 j := fun j h4 h6 => by rw [zu_s, if_neg h6, zu_s, if_neg h4]
  rw [n2 3 (by decide) (by decide), h3, c_sort (tp := tp) hT ((n2 2 (by decide) (by decide)).trans h2) (fun k hk => by rw [n1 2 (by decide)]; exact ht k hk) (by omega), Option.bind_some, pfe, Option.bind_some]
  have m1 : ∀ q, q ≠ 1 → up2 (up2 (up2 J 1 4 (nI b)) 1 6 (-1)) 1 5 (so tp T b) q = J q := fun q hq => by rw [zu_n _ _ _ hq]; exact n1 q hq
  have m2 : ∀ j, j ≠ 4 → j ≠ 6 → j ≠ 5 → up2 (up2 (up2 J 1 4 (nI b)) 1 6 (-1)) 1 5 (so tp T b) 1 j = J 1 j := fun j h4 h6 h5 => by rw [zu_s, if_neg h5]; exact n2 j h4 h6
  have m4 : up2 (up2 (up2 J 1 4 (nI b)) 1 6 (-1)) 1 5 (so tp T b) 1 4 = nI b := by rw [zu_s, if_neg (by decide), zu_s, if_neg (by decide), zu_s, if_pos rfl]
  have m6 : up2 (up2 (up2 J 1 4 (nI b)) 1 6 (-1)) 1 5 (so tp T b) 1 6 = -1 := by rw [zu_s, if_neg (by decide), zu_s, if_pos rfl]
  have m5 : up2 (up2 (up2 J 1 4 (nI b)) 1 6 (-1)) 1 5 (so tp T b) 1 5 = so tp T b := by rw [zu_s, if_pos rfl]
  generalize up2 (up2 (up2 J 1 4 (nI b)) 1 6 (-1)) 1 5 (so tp T b) = K at m1 m2 m4 m5 m6 ⊢
  have hoK : only1 I K := only1_tr ho ⟨m1, m2 1 (by decide) (by decide) (by decide), m2 7 (by decide) (by decide) (by decide)⟩
  have k2 := (m2 2 (by decide) (by decide) (by decide)).trans h2
  have k3 := (m2 3 (by decide) (by decide) (by decide)).trans h3
  have kt : ∀ k, k < 400 → K 2 k = tp k := fun k hk => by rw [m1 2 (by decide)]; exact ht k hk
  rw [m5, m4]
  by_cases hT2 : T ≤ b
  · have s0 : so tp T b = 0 := by unfold so; rw [if_pos hT2]
    have t0 : te tp T b = b := by unfold te; rw [if_pos hT2]
    rw [s0, if_neg (by decide), if_neg (by decide), if_neg (by decide)]
    exact c_144 hT hb k2 k3 (by rw [t0]; exact m4) m5 m6 kt hoK
  · by_cases l1 : isLe tp b = true
    · have s0 : so tp T b = 1 := by unfold so; rw [if_neg hT2, if_pos l1]
      rw [s0, if_pos rfl]
      refine c_87 (p := isLe tp) hT hb (fun k hk => ?_) (by unfold te; rw [if_neg hT2, if_pos l1]) k2 k3 m4 m5 m6 kt hoK
      rw [s0]; unfold so; rw [if_neg (by omega)]
      by_cases g : isLe tp k = true
      · rw [if_pos g]; exact ⟨fun _ => g, fun _ => rfl⟩
      · rw [if_neg g]
        refine ⟨fun h => ?_, fun h => absurd h g⟩
        split at h <;> exact absurd h (by decide)
    · by_cases l2 : isDi tp b = true
      · have s0 : so tp T b = 2 := by unfold so; rw [if_neg hT2, if_neg l1, if_pos l2]
        rw [s0, if_neg (by decide), if_pos rfl]
        refine c_87 (p := isDi tp) hT hb (fun k hk => ?_) (by unfold te; rw [if_neg hT2, if_neg l1, if_pos l2]) k2 k3 m4 m5 m6 kt hoK
        rw [s0]; unfold so; rw [if_neg (by omega)]
        by_cases g : isLe tp k = true
        · rw [if_pos g]
          refine ⟨fun h => absurd h (by decide), fun h => ?_⟩
          rw [le_di h] at g; cases g
        · rw [if_neg g]
          by_cases g2 : isDi tp k = true
          · rw [if_pos g2]; exact ⟨fun _ => g2, fun _ => rfl⟩
          · rw [if_neg g2]; exact ⟨fun h => absurd h (by decide), fun h => absurd h g2⟩
      · have s0 : so tp T b = 3 := by unfold so; rw [if_neg hT2, if_neg l1, if_neg l2]
        have t0 : te tp T b = b + 1 := by unfold te; rw [if_neg hT2, if_neg l1, if_neg l2]
        rw [s0, if_neg (by decide), if_neg (by decide), if_pos rfl, pfe, Option.bind_some, zI_1 b]
        refine c_144 hT hb ?_ ?_ ?_ ?_ ?_ (fun k hk => ?_) (only1_tr hoK ⟨fun q hq => zu_n _ _ _ hq, by rw [zu_s, if_neg (by decide)], by rw [zu_s, if_neg (by decide)]⟩)
        · rw [zu_s, if_neg (by decide)]; exact k2
        · rw [zu_s, if_neg (by decide)]; exact k3
        · rw [zu_s, if_pos rfl, t0]
        · rw [zu_s, if_neg (by decide)]; exact m5
        · rw [zu_s, if_neg (by decide)]; exact m6
        · rw [zu_n _ _ _ (by decide)]; exact kt k hk
/-- a step from where the last thing ended -/
theorem c_step0 {tp : Nat → Int32} {T p : Nat} {I : MI} {L : ML} (hT : T ≤ 400) (hp : p ≤ T) (h2 : I 1 2 = nI T) (h4 : I 1 4 = nI p) (ht : ∀ k, k < 400 → I 2 k = tp k) : Tt (f_X8_step I L) (fun r => r.2 = L ∧ CT tp T (sk tp T p) r.1 ∧ only1 I r.1) := by
  unfold f_X8_step
  rw [h4, pfe, Option.bind_some]
  refine lpR (fun fuel (K : MI) => f_X8_step_8 fuel K L) (isBl tp) T (fun k K => k ≤ T ∧ (∀ q, q ≠ 1 → K q = I q) ∧ (∀ j, j ≠ 3 → K 1 j = I 1 j) ∧ K 1 3 = nI k) ?_ (T - p) p FU (up2 I 1 3 (nI p)) rfl (by unfold FU; omega) ⟨hp, fun q hq => zu_n _ _ _ hq, fun j hj => by rw [zu_s, if_neg hj], by rw [zu_s, if_pos rfl]⟩ ?_
  · intro fuel k K hk hpk ⟨k1, k2, k3, k4⟩ hnx
    show Tt (f_X8_step_8 (fuel + 1) K L) _
    unfold f_X8_step_8
    rw [k3 2 (by decide), h2, k4, if_neg (le_n (by omega) (by omega) hk), ldI_n (show k < 400 by omega) (by decide), Option.bind_some, k2 2 (by decide), ht k (by omega), if_pos (of_decide_eq_true hpk), pfe, Option.bind_some, zI_1 k]
    exact hnx _ ⟨by omega, fun q hq => by rw [zu_n _ _ _ hq]; exact k2 q hq, fun j hj => by rw [zu_s, if_neg hj]; exact k3 j hj, by rw [zu_s, if_pos rfl]⟩
  · intro f K hend ⟨k1, k2, k3, k4⟩
    have hgo : Tt (f_X8_step_46 K L) (fun r => r.2 = L ∧ CT tp T (sk tp T p) r.1 ∧ only1 I r.1) := c_46 hT k1 ((k3 2 (by decide)).trans h2) k4 (fun k hk => by rw [k2 2 (by decide)]; exact ht k hk) ⟨k2, k3 1 (by decide), k3 7 (by decide)⟩
    show Tt (f_X8_step_8 (f + 1) K L) _
    unfold f_X8_step_8
    rw [k3 2 (by decide), h2, k4]
    by_cases g1 : T ≤ rn (isBl tp) T p
    · rw [if_pos ((zI_le (by omega) (by omega)).mpr g1)]
      exact hgo
    · have g2 := hend.resolve_left g1
      rw [if_neg (le_n (by omega) (by omega) (by omega)), ldI_n (show rn (isBl tp) T p < 400 by omega) (by decide), Option.bind_some, k2 2 (by decide), ht _ (by omega), if_neg (of_decide_eq_false g2)]
      exact hgo
theorem c_step {tp : Nat → Int32} {T b : Nat} {I : MI} {L : ML} (hT : T ≤ 400) (hb : b ≤ T) (h : CT tp T b I) : Tt (f_X8_step I L) (fun r => r.2 = L ∧ CT tp T (nx tp T b) r.1 ∧ only1 I r.1) :=
  c_step0 hT (te_T hb).2 h.1 h.2.2.1 h.2.2.2.2.2
-- ===== words
def wEq (tp : Nat → Int32) (i b : Nat) : Nat → Bool
  | 0 => true
  | k + 1 => wEq tp i b k && decide (tp (b + k) = sChr i k)
theorem wEq_f {tp : Nat → Int32} {i b k : Nat} (h : wEq tp i b k = false) : ∀ m, wEq tp i b (k + m) = false := by
  intro m
  induction m with
  | zero => exact h
  | succ m ih => show (wEq tp i b (k + m) && _) = false; rw [ih, Bool.false_and]
def wdB (tp : Nat → Int32) (T i b : Nat) : Bool := decide (rn (isLe tp) T b - b = sLen i) && wEq tp i b (sLen i)
theorem wd_cg {tp : Nat → Int32} {T i j b : Nat} (h : bytT.getD i [] = bytT.getD j []) : wdB tp T i b = wdB tp T j b := by
  have h1 : sLen i = sLen j := by unfold sLen; rw [h]
  have h2 : ∀ k, sChr i k = sChr j k := fun k => by unfold sChr; rw [h]
  have h3 : ∀ k, wEq tp i b k = wEq tp j b k := by
    intro k
    induction k with
    | zero => rfl
    | succ k ih => show (wEq tp i b k && decide (tp (b + k) = sChr i k)) = _; rw [ih, h2]; rfl
  unfold wdB; rw [h1, h3]
theorem chr_n {i k : Nat} (h : k < sLen i) (hs : sLen i ≤ 8) : chrAt i (nI k) = some (sChr i k) := by
  unfold chrAt; rw [if_neg (zI_in h (by omega)), zI_cl (by omega)]
theorem wd_te {tp : Nat → Int32} {T i b : Nat} (hs : 1 ≤ sLen i) (h : wdB tp T i b = true) : b < T ∧ te tp T b = rn (isLe tp) T b ∧ so tp T b = 1 ∧ te tp T b = b + sLen i := by
  unfold wdB at h
  rw [Bool.and_eq_true, decide_eq_true_iff] at h
  have h1 := h.1
  have hge := (rn_ge (p := isLe tp) (T := T) (T - b) b rfl).1
  have h2 : ¬ (T ≤ b ∨ isLe tp b = false) := fun h9 => by rw [rn_stop h9] at h1; omega
  have h3 : isLe tp b = true := by cases hx : isLe tp b; exact absurd (Or.inr hx) h2; rfl
  have h4 : b < T := by omega
  have e : te tp T b = rn (isLe tp) T b := by unfold te; rw [if_neg (by omega), if_pos h3]
  exact ⟨h4, e, by unfold so; rw [if_neg (by omega), if_pos h3], by omega⟩
theorem c_isWord {tp : Nat → Int32} {T i b : Nat} {I : MI} {L : ML} (hT : T ≤ 400) (hb : b ≤ T) (hs : 1 ≤ sLen i ∧ sLen i ≤ 8) (h : CT tp T b I) : f_X8_isWord i I L = some (wdB tp T i b) := by
  obtain ⟨c2, c3, c4, c5, c6, ct⟩ := h
  have hte := te_T (tp := tp) hb
  unfold f_X8_isWord f_X8_isWord_24
  rw [c5, c4, c3, zI_sub hte.1]
  by_cases s1 : so tp T b = 1
  · have h3 : ¬ T ≤ b := fun h9 => by unfold so at s1; rw [if_pos h9] at s1; exact absurd s1 (by decide)
    have h4 : isLe tp b = true := by
      unfold so at s1
      rw [if_neg h3] at s1
      by_cases h9 : isLe tp b = true
      · exact h9
      · rw [if_neg h9] at s1; split at s1 <;> exact absurd s1 (by decide)
    have e : te tp T b = rn (isLe tp) T b := by unfold te; rw [if_neg h3, if_pos h4]
    rw [if_pos s1]
    by_cases g1 : te tp T b - b = sLen i
    · rw [if_pos (by rw [g1])]
      have key : Tt (f_X8_isWord_28 FU i 0 I L) (fun r => r = wEq tp i b (sLen i)) := by
        refine lp0 (fun fuel k (_ : Unit) => f_X8_isWord_28 fuel i (nI k) I L) (sLen i) (fun k _ => wEq tp i b k = true) (by omega) ?_ ?_ (s := ()) rfl
        · intro fuel k _ hk hw hnx
          show Tt (f_X8_isWord_28 (fuel + 1) i (nI k) I L) _
          unfold f_X8_isWord_28
          rw [if_neg (le_n (by omega) (by omega) hk), c3, zI_add, ldI_n (show b + k < 400 by omega) (by decide), Option.bind_some, ct _ (by omega), chr_n hk hs.2, Option.bind_some, zI_1 k]
          by_cases g : tp (b + k) = sChr i k
          · rw [if_pos g]
            exact hnx () (by show (wEq tp i b k && _) = true; rw [hw, decide_eq_true g]; rfl)
          · rw [if_neg g]
            obtain ⟨m, hm⟩ : ∃ m, sLen i = k + 1 + m := ⟨sLen i - (k + 1), by omega⟩
            have e9 : wEq tp i b (k + 1) = false := by show (wEq tp i b k && _) = false; rw [decide_eq_false g, Bool.and_false]
            exact Tt_some (by rw [hm, wEq_f e9])
        · intro fuel _ hw
          show Tt (f_X8_isWord_28 (fuel + 1) i (nI (sLen i)) I L) _
          unfold f_X8_isWord_28
          rw [if_pos (Int32.le_refl _)]
          exact Tt_some hw.symm
      obtain ⟨r, r1, r2⟩ := key
      rw [r1, r2]; unfold wdB; rw [← e, decide_eq_true g1, Bool.true_and]
    · rw [if_neg (by rw [zI_eq (by omega) (by omega)]; exact g1)]
      unfold wdB; rw [← e, decide_eq_false g1, Bool.false_and]
  · rw [if_neg s1]
    cases hx : wdB tp T i b
    · rfl
    · exact absurd (wd_te hs.1 hx).2.2.1 s1
def sgB (tp : Nat → Int32) (T : Nat) (c : Int32) (b : Nat) : Bool := decide (b < T ∧ tp b = c)
/-- a sign that is no letter and no digit -/
def isSg (c : Int32) : Prop := ¬ (¬ c < 97 ∧ ¬ 122 < c) ∧ ¬ (¬ c < 48 ∧ ¬ 57 < c)
theorem sg_te {tp : Nat → Int32} {T b : Nat} {c : Int32} (hc : isSg c) (h : sgB tp T c b = true) : b < T ∧ te tp T b = b + 1 ∧ so tp T b = 3 := by
  obtain ⟨h1, h2⟩ := of_decide_eq_true h
  have l1 : isLe tp b = false := decide_eq_false (by rw [h2]; exact hc.1)
  have l2 : isDi tp b = false := decide_eq_false (by rw [h2]; exact hc.2)
  refine ⟨h1, ?_, ?_⟩
  · unfold te; rw [if_neg (by omega), l1, l2, if_neg (by decide), if_neg (by decide)]
  · unfold so; rw [if_neg (by omega), l1, l2, if_neg (by decide), if_neg (by decide)]
theorem c_isSign {tp : Nat → Int32} {T b : Nat} {c : Int32} {I : MI} {L : ML} (hT : T ≤ 400) (hb : b ≤ T) (hc : isSg c) (h : CT tp T b I) : f_X8_isSign c I L = some (sgB tp T c b) := by
  obtain ⟨c2, c3, c4, c5, c6, ct⟩ := h
  unfold f_X8_isSign f_X8_isSign_25 f_X8_isSign_26
  rw [c5]
  by_cases s3 : so tp T b = 3
  · have h3 : ¬ T ≤ b := fun h9 => by unfold so at s3; rw [if_pos h9] at s3; exact absurd s3 (by decide)
    rw [if_pos s3, c3, ldI_n (show b < 400 by omega) (by decide), Option.bind_some, ct b (by omega)]
    unfold sgB
    by_cases g : tp b = c
    · rw [if_pos g, decide_eq_true ⟨by omega, g⟩]
    · rw [if_neg g, decide_eq_false (fun h9 => g h9.2)]
  · rw [if_neg s3]
    cases hx : sgB tp T c b
    · rfl
    · exact absurd (sg_te hc hx).2.2 s3
/-- the class's failure at b -/
def CFl (b : Nat) (I J : MI) : Prop := (∀ q, q ≠ 1 → J q = I q) ∧ J 1 1 = I 1 1 ∧ J 1 7 = nI b
theorem c_chk_f {tp : Nat → Int32} {T b : Nat} {I : MI} {L : ML} (h : CT tp T b I) : ∃ J, f_X8_check false I L = some (.inl IAE, J, L) ∧ CFl b I J := by
  refine ⟨up2 I 1 7 (I 1 3), by unfold f_X8_check; rw [if_neg (by decide), pfe, Option.bind_some], fun q hq => zu_n _ _ _ hq, by rw [zu_s, if_neg (by decide)], by rw [zu_s, if_pos rfl]; exact h.2.1⟩
theorem c_chk_t {I : MI} {L : ML} : f_X8_check true I L = some (.inr (), I, L) := rfl
/-- a word that must come -/
theorem c_needWord {tp : Nat → Int32} {T i b : Nat} {I : MI} {L : ML} (hT : T ≤ 400) (hb : b ≤ T) (hs : 1 ≤ sLen i ∧ sLen i ≤ 8) (h : CT tp T b I) : Tt (f_X8_needWord i I L) (fun r => r.2.2 = L ∧ (wdB tp T i b = true → r.1 = .inr () ∧ CT tp T (nx tp T b) r.2.1 ∧ only1 I r.2.1) ∧ (wdB tp T i b = false → r.1 = .inl IAE ∧ CFl b I r.2.1)) := by
  unfold f_X8_needWord
  rw [c_isWord hT hb hs h, Option.bind_some]
  cases hx : wdB tp T i b
  · obtain ⟨J, j1, j2⟩ := c_chk_f (L := L) h
    rw [j1, Option.bind_some, xc_l]
    exact Tt_some ⟨rfl, fun h9 => absurd h9 Bool.false_ne_true, fun _ => ⟨rfl, j2⟩⟩
  · rw [c_chk_t, Option.bind_some, xc_r]
    refine Tt_bind (Tt_mono (c_step hT hb h) ?_)
    intro r ⟨r1, r2, r3⟩
    rw [r1]
    exact Tt_some ⟨rfl, fun _ => ⟨rfl, r2, r3⟩, fun h9 => absurd h9.symm Bool.false_ne_true⟩
theorem c_needSign {tp : Nat → Int32} {T b : Nat} {c : Int32} {I : MI} {L : ML} (hT : T ≤ 400) (hb : b ≤ T) (hc : isSg c) (h : CT tp T b I) : Tt (f_X8_needSign c I L) (fun r => r.2.2 = L ∧ (sgB tp T c b = true → r.1 = .inr () ∧ CT tp T (nx tp T b) r.2.1 ∧ only1 I r.2.1) ∧ (sgB tp T c b = false → r.1 = .inl IAE ∧ CFl b I r.2.1)) := by
  unfold f_X8_needSign
  rw [c_isSign hT hb hc h, Option.bind_some]
  cases hx : sgB tp T c b
  · obtain ⟨J, j1, j2⟩ := c_chk_f (L := L) h
    rw [j1, Option.bind_some, xc_l]
    exact Tt_some ⟨rfl, fun h9 => absurd h9 Bool.false_ne_true, fun _ => ⟨rfl, j2⟩⟩
  · rw [c_chk_t, Option.bind_some, xc_r]
    refine Tt_bind (Tt_mono (c_step hT hb h) ?_)
    intro r ⟨r1, r2, r3⟩
    rw [r1]
    exact Tt_some ⟨rfl, fun _ => ⟨rfl, r2, r3⟩, fun h9 => absurd h9.symm Bool.false_ne_true⟩
/-- a number within its bounds -/
def vN (tp : Nat → Int32) (T : Nat) (lo hi : Int32) (b : Nat) : Prop := ¬ nu tp T b < lo ∧ ¬ hi < nu tp T b
theorem c_needNum {tp : Nat → Int32} {T b : Nat} {lo hi : Int32} {I : MI} {L : ML} (hT : T ≤ 400) (hb : b ≤ T) (hlo : -1 < lo) (h : CT tp T b I) : Tt (f_X8_needNumber lo hi I L) (fun r => r.2.2 = L ∧ (vN tp T lo hi b → r.1 = .inr (nu tp T b) ∧ CT tp T (nx tp T b) r.2.1 ∧ only1 I r.2.1) ∧ (¬ vN tp T lo hi b → r.1 = .inl IAE ∧ CFl b I r.2.1)) := by
  have h6 : I 1 6 = nu tp T b := h.2.2.2.2.1
  have bad : ¬ vN tp T lo hi b → Tt (f_X8_needNumber_30 false I L) (fun r => r.2.2 = L ∧ (vN tp T lo hi b → r.1 = .inr (nu tp T b) ∧ CT tp T (nx tp T b) r.2.1 ∧ only1 I r.2.1) ∧ (¬ vN tp T lo hi b → r.1 = .inl IAE ∧ CFl b I r.2.1)) := by
    intro hv
    obtain ⟨J, j1, j2⟩ := c_chk_f (L := L) h
    unfold f_X8_needNumber_30
    rw [j1, Option.bind_some, xc_l]
    exact Tt_some ⟨rfl, fun h9 => absurd h9 hv, fun _ => ⟨rfl, j2⟩⟩
  unfold f_X8_needNumber f_X8_needNumber_29
  rw [h6]
  by_cases g1 : nu tp T b = -1
  · rw [if_pos g1]
    exact bad (fun h9 => h9.1 (by rw [g1]; exact hlo))
  · rw [if_neg g1]
    by_cases g2 : nu tp T b < lo
    · rw [if_pos g2]; exact bad (fun h9 => h9.1 g2)
    · rw [if_neg g2]
      by_cases g3 : hi < nu tp T b
      · rw [if_pos g3]; exact bad (fun h9 => h9.2 g3)
      · rw [if_neg g3]
        unfold f_X8_needNumber_30
        rw [c_chk_t, Option.bind_some, xc_r]
        refine Tt_bind (Tt_mono (c_step hT hb h) ?_)
        intro r ⟨r1, r2, r3⟩
        rw [r1]
        refine Tt_some ⟨rfl, fun _ => ⟨?_, r2, r3⟩, fun h9 => absurd ⟨g2, g3⟩ h9⟩
        show Sum.inr (I 1 6) = _
        rw [h6]
-- ===== the reference's text
def RTx (tp : Nat → Int32) (T : Nat) (J : MI) : Prop := J 149 10 = nI T ∧ ∀ k, k < 400 → J 154 k = tp k
def RT (tp : Nat → Int32) (T b : Nat) (J : MI) : Prop := RTx tp T J ∧ ∃ p, J 149 9 = nI p ∧ p ≤ T ∧ sk tp T p = b
def RLe (tp : Nat → Int32) (T b e : Nat) (J : MI) : Prop := RTx tp T J ∧ J 149 9 = nI e ∧ J 149 11 = nI b
def o149 (I J : MI) : Prop := (∀ q, q ≠ 149 → J q = I q) ∧ ∀ k, k ≠ 9 → k ≠ 11 → J 149 k = I 149 k
theorem o149_rf (I : MI) : o149 I I := ⟨fun _ _ => rfl, fun _ _ _ => rfl⟩
theorem o149_tr {I J K : MI} (h1 : o149 I J) (h2 : o149 J K) : o149 I K := ⟨fun q hq => (h2.1 q hq).trans (h1.1 q hq), fun k h9 h11 => (h2.2 k h9 h11).trans (h1.2 k h9 h11)⟩
theorem o149_9 {I : MI} {x : Int32} : o149 I (up2 I 149 9 x) := ⟨fun q hq => zu_n _ _ _ hq, fun k h9 _ => by rw [zu_s, if_neg h9]⟩
theorem o149_11 {I : MI} {x : Int32} : o149 I (up2 I 149 11 x) := ⟨fun q hq => zu_n _ _ _ hq, fun k _ h11 => by rw [zu_s, if_neg h11]⟩
theorem RTx_o {tp : Nat → Int32} {T : Nat} {I J : MI} (h : RTx tp T I) (o : o149 I J) : RTx tp T J := ⟨(o.2 10 (by decide) (by decide)).trans h.1, fun k hk => by rw [o.1 154 (by decide)]; exact h.2 k hk⟩
theorem r_isAt {tp : Nat → Int32} {T k : Nat} {lo hi : Int32} {J : MI} {L : ML} (hT : T ≤ 400) (hk : k ≤ T) (h : RTx tp T J) (h9 : J 149 9 = nI k) : f_X12_isAt lo hi J L = some (decide (k < T) && decide (¬ tp k < lo ∧ ¬ hi < tp k)) := by
  unfold f_X12_isAt f_X12_isAt_41 f_X12_isAt_42
  rw [h.1, h9]
  by_cases g : T ≤ k
  · rw [if_pos ((zI_le (by omega) (by omega)).mpr g), decide_eq_false (by omega), Bool.false_and]
  · rw [if_neg (fun h8 => g ((zI_le (by omega) (by omega)).mp h8)), ldI_n (show k < 400 by omega) (by decide), Option.bind_some, Option.bind_some, h.2 k (by omega), decide_eq_true (by omega), Bool.true_and]
    by_cases g2 : ¬ tp k < lo ∧ ¬ hi < tp k
    · rw [ite2_t g2, decide_eq_true g2]
    · rw [ite2_f g2, decide_eq_false g2]
theorem bl_32 {tp : Nat → Int32} {k : Nat} : decide (¬ tp k < 32 ∧ ¬ 32 < tp k) = isBl tp k := by
  unfold isBl
  by_cases h : tp k = 32
  · rw [h]; decide
  · rw [decide_eq_false h]
    refine decide_eq_false (fun h9 => h ?_)
    have h1 := h9.1
    have h2 := h9.2
    rw [Int32.lt_iff_toInt_lt] at h1 h2
    rw [← Int32.toInt_inj]; omega
theorem r_blanks {tp : Nat → Int32} {T b : Nat} {J : MI} {L : ML} (hT : T ≤ 400) (h : RT tp T b J) : Tt (f_X12_blanks J L) (fun r => r.2 = L ∧ RLe tp T b b r.1 ∧ o149 J r.1) := by
  obtain ⟨hx, p, p1, p2, p3⟩ := h
  unfold f_X12_blanks
  refine lpR (fun fuel (K : MI) => f_X12_blanks_0 fuel K L) (isBl tp) T (fun k K => k ≤ T ∧ o149 J K ∧ K 149 9 = nI k) ?_ (T - p) p FU J rfl (by unfold FU; omega) ⟨p2, o149_rf J, p1⟩ ?_
  · intro fuel k K hk hpk ⟨k1, k2, k3⟩ hnx
    show Tt (f_X12_blanks_0 (fuel + 1) K L) _
    unfold f_X12_blanks_0
    rw [r_isAt hT k1 (RTx_o hx k2) k3, Option.bind_some, bl_32, hpk, decide_eq_true hk, if_pos (show (true && true) = true from rfl), k3, pfe, Option.bind_some, zI_1 k]
    exact hnx _ ⟨by omega, o149_tr k2 o149_9, by rw [zu_s, if_pos rfl]⟩
  · intro f K hend ⟨k1, k2, k3⟩
    have e : rn (isBl tp) T p = b := p3
    rw [e] at k3 k1 hend
    show Tt (f_X12_blanks_0 (f + 1) K L) _
    unfold f_X12_blanks_0
    have hf : ¬ (decide (b < T) && isBl tp b) = true := by
      rw [Bool.and_eq_true, decide_eq_true_iff]
      rintro ⟨g1, g2⟩
      rcases hend with h9 | h9
      · omega
      · rw [h9] at g2; cases g2
    rw [r_isAt hT k1 (RTx_o hx k2) k3, Option.bind_some, bl_32, if_neg hf, k3, pfe, Option.bind_some]
    exact Tt_some ⟨rfl, ⟨RTx_o hx (o149_tr k2 o149_11), by show up2 K 149 11 (nI b) 149 9 = _; rw [zu_s, if_neg (by decide)]; exact k3, by show up2 K 149 11 (nI b) 149 11 = _; rw [zu_s, if_pos rfl]⟩, o149_tr k2 o149_11⟩
/-- where a thing begins -/
def okb (tp : Nat → Int32) (T b : Nat) : Prop := b ≤ T ∧ sk tp T b = b
theorem RT_ok {tp : Nat → Int32} {T b : Nat} {J : MI} (h : RT tp T b J) : okb tp T b := by
  obtain ⟨hx, p, p1, p2, p3⟩ := h
  have := sk_T (tp := tp) p2
  exact ⟨by omega, by rw [← p3]; exact sk_sk⟩
theorem RLe_RT {tp : Nat → Int32} {T b : Nat} {J : MI} (hb : okb tp T b) (h : RLe tp T b b J) : RT tp T b J := ⟨h.1, b, h.2.1, hb.1, hb.2⟩
theorem RLe_nx {tp : Nat → Int32} {T b : Nat} {J : MI} (hb : b ≤ T) (h : RLe tp T b (te tp T b) J) : RT tp T (nx tp T b) J := ⟨h.1, te tp T b, h.2.1, (te_T hb).2, rfl⟩
theorem r_letters {tp : Nat → Int32} {T b : Nat} {J : MI} {L : ML} (hT : T ≤ 400) (h : RT tp T b J) : Tt (f_X12_letters J L) (fun r => r.2 = L ∧ RLe tp T b (rn (isLe tp) T b) r.1 ∧ o149 J r.1) := by
  have hok := RT_ok h
  unfold f_X12_letters
  refine Tt_bind (Tt_mono (r_blanks hT h) ?_)
  intro s ⟨s1, s2, s3⟩
  rw [s1]
  refine lpR (fun fuel (K : MI) => f_X12_letters_4 fuel K L) (isLe tp) T (fun k K => k ≤ T ∧ o149 J K ∧ RLe tp T b k K) ?_ (T - b) b FU s.1 rfl (by unfold FU; omega) ⟨hok.1, s3, s2⟩ ?_
  · intro fuel k K hk hpk ⟨k1, k2, k3⟩ hnx
    show Tt (f_X12_letters_4 (fuel + 1) K L) _
    unfold f_X12_letters_4
    rw [r_isAt hT k1 k3.1 k3.2.1, Option.bind_some, show decide (¬ tp k < 97 ∧ ¬ 122 < tp k) = true from hpk, decide_eq_true hk, if_pos (show (true && true) = true from rfl), k3.2.1, pfe, Option.bind_some, zI_1 k]
    exact hnx _ ⟨by omega, o149_tr k2 o149_9, RTx_o k3.1 o149_9, by rw [zu_s, if_pos rfl], by rw [zu_s, if_neg (by decide)]; exact k3.2.2⟩
  · intro f K hend ⟨k1, k2, k3⟩
    show Tt (f_X12_letters_4 (f + 1) K L) _
    unfold f_X12_letters_4
    have hf : ¬ (decide (rn (isLe tp) T b < T) && decide (¬ tp (rn (isLe tp) T b) < 97 ∧ ¬ 122 < tp (rn (isLe tp) T b))) = true := by
      rw [Bool.and_eq_true, decide_eq_true_iff]
      rintro ⟨g1, g2⟩
      rcases hend with h9 | h9
      · omega
      · have : isLe tp (rn (isLe tp) T b) = true := g2
        rw [h9] at this; cases this
    rw [r_isAt hT k1 k3.1 k3.2.1, Option.bind_some, if_neg hf]
    exact Tt_some ⟨rfl, k3, k2⟩
theorem r_isWord {tp : Nat → Int32} {T i b : Nat} {J : MI} {L : ML} (hT : T ≤ 400) (hb : b ≤ T) (hs : 1 ≤ sLen i ∧ sLen i ≤ 8) (h : RLe tp T b (rn (isLe tp) T b) J) : f_X12_isWord i J L = some (wdB tp T i b) := by
  obtain ⟨hx, h9, h11⟩ := h
  have hge := rn_ge (p := isLe tp) (T := T) (T - b) b rfl
  have hle := hge.2 hb
  have key : ∀ s0 : Bool, (s0 = true → rn (isLe tp) T b - b = sLen i) → Tt (f_X12_isWord_24 FU i s0 0 J L) (fun r => r = (s0 && wEq tp i b (sLen i))) := by
    intro s0 hsb
    refine lp0 (fun fuel k (s : Bool) => f_X12_isWord_24 fuel i s (nI k) J L) (sLen i) (fun k s => s = (s0 && wEq tp i b k)) (by omega) ?_ ?_ (s := s0) (Bool.and_true s0).symm
    · intro fuel k s hk hw hnx
      show Tt (f_X12_isWord_24 (fuel + 1) i s (nI k) J L) _
      unfold f_X12_isWord_24 f_X12_isWord_60 f_X12_isWord_67
      by_cases gs : s = true
      · have hs0 : s0 = true := by rw [gs] at hw; cases s0; exact hw.symm; rfl
        have hlen := hsb hs0
        have hwk : wEq tp i b k = true := by rw [gs, hs0] at hw; exact hw.symm
        rw [if_pos gs, if_neg (le_n (by omega) (by omega) hk), h11, zI_add, ldI_n (show b + k < 400 by omega) (by decide), Option.bind_some, hx.2 _ (by omega), chr_n hk hs.2, Option.bind_some, zI_1 k]
        by_cases g : tp (b + k) = sChr i k
        · rw [if_pos g]
          exact hnx true (by show true = (s0 && (wEq tp i b k && _)); rw [hs0, hwk, decide_eq_true g]; rfl)
        · rw [if_neg g]
          exact hnx false (by show false = (s0 && (wEq tp i b k && _)); rw [decide_eq_false g, Bool.and_false, Bool.and_false])
      · have gs' : s = false := by cases s; rfl; exact absurd rfl gs
        rw [if_neg gs]
        refine Tt_some ?_
        rw [gs']
        rw [gs'] at hw
        cases hs0 : s0
        · rfl
        · rw [hs0] at hw
          obtain ⟨m, hm⟩ : ∃ m, sLen i = k + m := ⟨sLen i - k, by omega⟩
          rw [hm, wEq_f (show wEq tp i b k = false from hw.symm)]; rfl
    · intro fuel s hw
      show Tt (f_X12_isWord_24 (fuel + 1) i s (nI (sLen i)) J L) _
      unfold f_X12_isWord_24 f_X12_isWord_67
      rw [if_pos (Int32.le_refl _), ite_self]
      exact Tt_some hw
  unfold f_X12_isWord f_X12_isWord_21
  rw [h9, h11, zI_sub hge.1]
  unfold wdB
  by_cases g1 : rn (isLe tp) T b - b = sLen i
  · rw [if_pos (by rw [g1])]
    obtain ⟨r, r1, r2⟩ := key true (fun _ => g1)
    rw [r1, r2, decide_eq_true g1]
  · rw [if_neg (by rw [zI_eq (by omega) (by omega)]; exact g1)]
    obtain ⟨r, r1, r2⟩ := key false (fun h8 => absurd h8 Bool.false_ne_true)
    rw [r1, r2, decide_eq_false g1]
