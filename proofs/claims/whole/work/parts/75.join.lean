-- ===== the two readings, side by side
/-- the class's frame while a text is read into the draft -/
def FCd (d : Nat) (I0 I : MI) : Prop := (∀ q, q ≠ 1 → (q < d ∨ d + 45 ≤ q) → I q = I0 q) ∧ I 1 1 = I0 1 1
def FRd (J0 J : MI) : Prop := (∀ q, q ≠ 149 → q ≠ 150 → J q = J0 q) ∧ (∀ k, k ≠ 9 → k ≠ 11 → J 149 k = J0 149 k) ∧ ∀ k, 1294 ≤ k → J 150 k = J0 150 k
def o1x (I J : MI) : Prop := (∀ q, q ≠ 1 → J q = I q) ∧ J 1 1 = I 1 1
theorem FCd_rf (d : Nat) (I : MI) : FCd d I I := ⟨fun _ _ _ => rfl, rfl⟩
theorem FRd_rf (I : MI) : FRd I I := ⟨fun _ _ _ => rfl, fun _ _ _ => rfl, fun _ _ => rfl⟩
theorem FCd_x {d : Nat} {I0 I J : MI} (h : FCd d I0 I) (o : o1x I J) : FCd d I0 J := ⟨fun q h1 h2 => (o.1 q h1).trans (h.1 q h1 h2), o.2.trans h.2⟩
theorem FRd_o {J0 J K : MI} (h : FRd J0 J) (o : o149 J K) : FRd J0 K := ⟨fun q h1 h2 => (o.1 q h1).trans (h.1 q h1 h2), fun k h1 h2 => (o.2 k h1 h2).trans (h.2.1 k h1 h2), fun k hk => by rw [o.1 150 (by decide)]; exact h.2.2 k hk⟩
theorem FRd_w {J0 J : MI} {k : Nat} {x : Int32} (h : FRd J0 J) (hk : k < 1294) : FRd J0 (up2 J 150 k x) := ⟨fun q h1 h2 => by rw [zu_n _ _ _ h2]; exact h.1 q h1 h2, fun j h1 h2 => by rw [zu_n _ _ _ (by decide)]; exact h.2.1 j h1 h2, fun j hj => by rw [zu_s, if_neg (by omega)]; exact h.2.2 j hj⟩
theorem FCd_w {d q k : Nat} {I0 I : MI} {x : Int32} (h : FCd d I0 I) (h1 : d ≤ q) (h2 : q < d + 45) (hd : 14 ≤ d) : FCd d I0 (up2 I q k x) := ⟨fun p h3 h4 => by rw [zu_n _ _ _ (by omega)]; exact h.1 p h3 h4, by rw [zu_n _ _ _ (by omega)]; exact h.2⟩
theorem only1_x {I J : MI} (h : only1 I J) : o1x I J := ⟨h.1, h.2.1⟩
def JX {α β : Type} (L M : ML) (fv : β) (FC FR : MI → Prop) (S : α → β → MI → MI → Prop) (ca : Option ((String ⊕ α) × MI × ML)) (cb : Option (β × MI × ML)) : Prop :=
  ∃ ra rb, ca = some ra ∧ cb = some rb ∧ ra.2.2 = L ∧ rb.2.2 = M ∧ ((ra.1 = .inl IAE ∧ rb.1 = fv ∧ (∃ f, ra.2.1 1 7 = nI f ∧ rb.2.1 149 11 = nI f) ∧ FC ra.2.1 ∧ FR rb.2.1) ∨ ∃ v, ra.1 = .inr v ∧ S v rb.1 ra.2.1 rb.2.1)
theorem JX_bind {α β α' β' : Type} {L M : ML} {fv : β} {fv' : β'} {FC FR FC' FR' : MI → Prop} {S : α → β → MI → MI → Prop} {S' : α' → β' → MI → MI → Prop} {ca : Option ((String ⊕ α) × MI × ML)} {cb : Option (β × MI × ML)} {ka : ((String ⊕ α) × MI × ML) → α → Option ((String ⊕ α') × MI × ML)} {kb : β × MI × ML → Option (β' × MI × ML)} (h : JX L M fv FC FR S ca cb) (hC : ∀ I', FC I' → FC' I') (hf : ∀ J', FR J' → ∃ J'', kb (fv, J', M) = some (fv', J'', M) ∧ J'' 149 11 = J' 149 11 ∧ FR' J'') (hk : ∀ v v' I' J', S v v' I' J' → JX L M fv' FC' FR' S' (ka (.inr v, I', L) v) (kb (v', J', M))) : JX L M fv' FC' FR' S' (Option.bind ca fun w => xc w fun v => ka w v) (Option.bind cb kb) := by
  obtain ⟨⟨x, I1, L1⟩, ⟨y, J1, M1⟩, rfl, rfl, h1, h2, h⟩ := h
  have h1 : L1 = L := h1
  have h2 : M1 = M := h2
  subst h1; subst h2
  rcases h with ⟨h1, h2, ⟨f, h3, h4⟩, h5, h6⟩ | ⟨v, h1, h2⟩
  · have h1 : x = .inl IAE := h1
    have h2 : y = fv := h2
    subst h1; subst h2
    obtain ⟨J2, j1, j2, j3⟩ := hf J1 h6
    exact ⟨(.inl IAE, I1, L1), (fv', J2, M1), rfl, j1, rfl, rfl, Or.inl ⟨rfl, rfl, ⟨f, h3, j2.trans h4⟩, hC _ h5, j3⟩⟩
  · have h1 : x = .inr v := h1
    subst h1
    exact hk v y I1 J1 h2
theorem JX_mono {α β : Type} {L M : ML} {fv : β} {FC FR FC' FR' : MI → Prop} {S S' : α → β → MI → MI → Prop} {ca : Option ((String ⊕ α) × MI × ML)} {cb : Option (β × MI × ML)} (h : JX L M fv FC FR S ca cb) (hC : ∀ I', FC I' → FC' I') (hR : ∀ J', FR J' → FR' J') (hS : ∀ v v' I' J', S v v' I' J' → S' v v' I' J') : JX L M fv FC' FR' S' ca cb := by
  obtain ⟨ra, rb, h1, h2, h3, h4, h⟩ := h
  refine ⟨ra, rb, h1, h2, h3, h4, ?_⟩
  rcases h with ⟨h1, h2, h3, h5, h6⟩ | ⟨v, h1, h2⟩
  · exact Or.inl ⟨h1, h2, h3, hC _ h5, hR _ h6⟩
  · exact Or.inr ⟨v, h1, hS _ _ _ _ h2⟩
theorem JX_ok {α β : Type} {L M : ML} {fv : β} {FC FR : MI → Prop} {S : α → β → MI → MI → Prop} {v : α} {v' : β} {I J : MI} (h : S v v' I J) : JX L M fv FC FR S (some (.inr v, I, L)) (some (v', J, M)) := ⟨_, _, rfl, rfl, rfl, rfl, Or.inr ⟨v, rfl, h⟩⟩
theorem JX_no {α β : Type} {L M : ML} {fv : β} {FC FR : MI → Prop} {S : α → β → MI → MI → Prop} {I J : MI} {f : Nat} (h1 : I 1 7 = nI f) (h2 : J 149 11 = nI f) (h3 : FC I) (h4 : FR J) : JX L M fv FC FR S (some ((.inl IAE : String ⊕ α), I, L)) (some (fv, J, M)) := ⟨_, _, rfl, rfl, rfl, rfl, Or.inl ⟨rfl, rfl, ⟨f, h1, h2⟩, h3, h4⟩⟩
/-- a number -/
def SN (tp : Nat → Int32) (T b : Nat) (lo hi : Int32) (I J : MI) (v v' : Int32) (I' J' : MI) : Prop := ∃ n, n ≤ 999 ∧ ¬ nI n < lo ∧ ¬ hi < nI n ∧ v = nI n ∧ v' = nI n ∧ CT tp T (nx tp T b) I' ∧ RT tp T (nx tp T b) J' ∧ only1 I I' ∧ o149 J J' ∧ b < T ∧ nu tp T b = nI n ∧ J' 149 11 = nI b
theorem xNum {tp : Nat → Int32} {T b : Nat} {lo hi : Int32} {I J : MI} {L M : ML} (hT : T ≤ 400) (hlo : -1 < lo) (hc : CT tp T b I) (hr : RT tp T b J) : JX L M (-1) (o1x I) (o149 J) (SN tp T b lo hi I J) (f_X8_needNumber lo hi I L) (f_X12_number lo hi J M) := by
  obtain ⟨ra, a1, a2, a3, a4⟩ := c_needNum (hi := hi) (L := L) hT (RT_ok hr).1 hlo hc
  obtain ⟨rb, b1, b2, b3, b4, b5, b6⟩ := r_number (hi := hi) (L := M) hT hlo hr
  refine ⟨ra, rb, a1, b1, a2, b2, ?_⟩
  by_cases hv : vN tp T lo hi b
  · obtain ⟨p1, p2, p3⟩ := a3 hv
    obtain ⟨q1, q2⟩ := b5 hv
    rcases nu_c (tp := tp) (T := T) (b := b) with h9 | ⟨h8, n, h9, e⟩
    · exact absurd (by rw [h9]; exact hlo) hv.1
    · unfold vN at hv
      rw [e] at p1 q1 hv
      exact Or.inr ⟨nI n, p1, n, h9, hv.1, hv.2, rfl, q1, p2, q2, p3, b3, (te_di h8).1, e, b4⟩
  · obtain ⟨p1, p2, p3, p4⟩ := a4 hv
    exact Or.inl ⟨p1, b6 hv, ⟨b, p4, b4⟩, ⟨p2, p3⟩, b3⟩
theorem SN_hi {n H : Nat} (h : ¬ nI H < nI n) (hn : n ≤ 999) (hH : H < 2 ^ 31) : n ≤ H := by
  rw [zI_lt hH (by omega)] at h; omega
theorem SN_lo {n H : Nat} (h : ¬ nI n < nI H) (hn : n ≤ 999) (hH : H < 2 ^ 31) : H ≤ n := by
  rw [zI_lt (by omega) hH] at h; omega
/-- a word -/
def SW (tp : Nat → Int32) (T b : Nat) (I J : MI) (_ : Unit) (v' : Bool) (I' J' : MI) : Prop := v' = true ∧ CT tp T (nx tp T b) I' ∧ RT tp T (nx tp T b) J' ∧ only1 I I' ∧ o149 J J' ∧ b < T
theorem xWord {tp : Nat → Int32} {T i j b : Nat} {I J : MI} {L M : ML} (hT : T ≤ 400) (hs : 1 ≤ sLen i ∧ sLen i ≤ 8) (hs' : 1 ≤ sLen j ∧ sLen j ≤ 8) (hij : bytT.getD i [] = bytT.getD j []) (hc : CT tp T b I) (hr : RT tp T b J) : JX L M false (o1x I) (o149 J) (SW tp T b I J) (f_X8_needWord i I L) (f_X12_needs j J M) := by
  obtain ⟨ra, a1, a2, a3, a4⟩ := c_needWord (L := L) hT (RT_ok hr).1 hs hc
  obtain ⟨rb, b1, b2, b3, b4, b5, b6⟩ := r_needs (L := M) hT hs' hr
  refine ⟨ra, rb, a1, b1, a2, b3, ?_⟩
  have e := wd_cg (tp := tp) (T := T) (b := b) hij
  cases hv : wdB tp T i b
  · obtain ⟨p1, p2, p3, p4⟩ := a4 hv
    rw [← e, hv] at b2
    exact Or.inl ⟨p1, b2, ⟨b, p4, b5⟩, ⟨p2, p3⟩, b4⟩
  · obtain ⟨p1, p2, p3⟩ := a3 hv
    rw [← e, hv] at b2
    exact Or.inr ⟨(), p1, b2, p2, b6 (by rw [← e]; exact hv), p3, b4, (wd_te hs.1 hv).1⟩
theorem o149_x {J J' J'' : MI} (h : o149 J J') (h' : o149 J' J'') : o149 J J'' := o149_tr h h'
theorem o1x_x {J J' J'' : MI} (h : only1 J J') (h' : o1x J' J'') : o1x J J'' := ⟨fun q hq => (h'.1 q hq).trans (h.1 q hq), h'.2.trans h.2.1⟩
/-- a word and a number behind it -/
theorem jAfter {α' β' : Type} {tp : Nat → Int32} {T i j b : Nat} {lo hi : Int32} {I J : MI} {L M : ML} {fv' : β'} {FC' FR' : MI → Prop} {S' : α' → β' → MI → MI → Prop} {ka : ((String ⊕ Int32) × MI × ML) → Int32 → Option ((String ⊕ α') × MI × ML)} {kb : Int32 × MI × ML → Option (β' × MI × ML)} (hT : T ≤ 400) (hs : 1 ≤ sLen i ∧ sLen i ≤ 8) (hs' : 1 ≤ sLen j ∧ sLen j ≤ 8) (hij : bytT.getD i [] = bytT.getD j []) (hlo : -1 < lo) (hc : CT tp T b I) (hr : RT tp T b J)
    (hC : ∀ I', o1x I I' → FC' I') (hf : ∀ J', o149 J J' → ∃ J'', kb (-1, J', M) = some (fv', J'', M) ∧ J'' 149 11 = J' 149 11 ∧ FR' J'')
    (hk : ∀ n I' J', n ≤ 999 → ¬ nI n < lo → ¬ hi < nI n → CT tp T (nx tp T (nx tp T b)) I' → RT tp T (nx tp T (nx tp T b)) J' → only1 I I' → o149 J J' → JX L M fv' FC' FR' S' (ka (.inr (nI n), I', L) (nI n)) (kb (nI n, J', M))) :
    JX L M fv' FC' FR' S' (Option.bind (f_X8_needWord i I L) fun w1 => xc w1 fun _ => Option.bind (f_X8_needNumber lo hi w1.2.1 w1.2.2) fun w2 => xc w2 fun v => ka w2 v) (Option.bind (f_X12_after j lo hi J M) kb) := by
  unfold f_X12_after f_X12_after_18
  rw [Option.bind_assoc]
  refine JX_bind (xWord hT hs hs' hij hc hr) hC (fun J' o => ?_) ?_
  · obtain ⟨J2, j1, j2⟩ := hf J' o
    refine ⟨J2, ?_, j2⟩
    show Option.bind (if false = true then _ else some (-1, J', M)) kb = _
    rw [if_neg (by decide)]; exact j1
  · intro _ v' I1 J1 ⟨e, c1, r1, o1, o2, hb⟩
    subst e
    show JX L M fv' FC' FR' S' (Option.bind (f_X8_needNumber lo hi I1 L) fun w2 => xc w2 fun v => ka w2 v) (Option.bind (if true = true then (Option.bind (f_X12_number lo hi J1 M) fun w3 => some (w3.1, w3.2.1, w3.2.2)) else _) kb)
    rw [if_pos rfl, Option.bind_assoc]
    refine JX_bind (xNum hT hlo c1 r1) (fun I' o => hC I' (o1x_x o1 o)) (fun J' o => hf J' (o149_tr o2 o)) ?_
    intro v v2 I2 J2 ⟨n, n1, n2, n3, e1, e2, c2, r2, p1, p2, _⟩
    subst e1; subst e2
    exact hk n I2 J2 n1 n2 n3 c2 r2 (only1_tr o1 p1) (o149_tr o2 p2)
-- ===== the draft for a world, its ways aside
def DW (c d : Nat) (I : MI) (L : ML) (w : Nat → Int32) : Prop := WF c w ∧ CRd d I w ∧ CRh d I w ∧ CRn d I w ∧ CRt d I w ∧ CRp d L w ∧ CRl d I w
theorem DW_x {c d : Nat} {I I' : MI} {L : ML} {w : Nat → Int32} (hd : 14 ≤ d) (o : ∀ q, q ≠ 1 → I' q = I q) (h : DW c d I L w) : DW c d I' L w := by
  obtain ⟨h1, h2, h3, h4, h5, h6, h7⟩ := h
  have e := o d (by omega)
  exact ⟨h1, CRd_cg (by rw [e]) (by rw [e]) (o _ (by omega)) (fun k _ => o _ (by omega)) rfl rfl (fun _ _ _ => rfl) h2, CRh_cg (by rw [e]) (fun k _ => o _ (by omega)) rfl (fun _ _ _ => rfl) h3, CRn_cg (by rw [e]) (fun k _ => o _ (by omega)) rfl (fun _ _ _ => rfl) h4, CRt_cg (fun k _ _ => by rw [e]) rfl rfl (fun _ _ _ => rfl) h5, h6, CRl_cg (by rw [o (d + 5) (by omega)]) (o _ (by omega)) (o _ (by omega)) (o _ (by omega)) (o _ (by omega)) h1.2.2.2.2.2 rfl (fun _ _ _ => rfl) h7⟩
/-- rooms, carpets and doors given anew -/
theorem DW_d {c d : Nat} {I I' : MI} {L : ML} {w w' : Nat → Int32} (h : DW c d I L w) (hwd : WFd w') (hm : nw w 0 ≤ nw w' 0) (s : ∀ k, (2 ≤ k ∧ k < 15) ∨ 67 ≤ k → w' k = w k) (hC : CRd d I' w') (i0 : ∀ k, 2 ≤ k → I' d k = I d k) (i1 : ∀ k, 1 < k → k < 45 → (k < 13 ∨ 27 ≤ k) → I' (d + k) = I (d + k)) : DW c d I' L w' := by
  obtain ⟨⟨-, h2, h3, h4, h5, h6⟩, -, k3, k4, k5, k6, k7⟩ := h
  have ht := tm_cg (s 6 (by omega)) (s 7 (by omega))
  have j1 : ∀ a k, 1 < a + k → a + k < 45 → (a + k < 13 ∨ 27 ≤ a + k) → I' (d + a + k) = I (d + a + k) := fun a k x1 x2 x3 => by rw [Nat.add_assoc]; exact i1 _ x1 x2 x3
  refine ⟨⟨hwd, ⟨okN_cg (s 2 (by omega)) h2.1, fun e he => ?_⟩, ⟨okN_cg (s 3 (by omega)) h3.1, fun n hn => ?_⟩, WFt_cg (fun k _ _ => s k (by omega)) (s 14 (by omega)) (s 2 (by omega)) (fun k _ => s _ (by omega)) h4, fun ago ha e he => ?_, WFl_cg (s 5 (by omega)) (fun k _ _ => s k (by omega)) h6⟩, hC, CRh_cg (i0 2 (by omega)) (fun k hk => j1 27 k (by omega) (by omega) (by omega)) (s 2 (by omega)) (fun k _ _ => s k (by omega)) k3, CRn_cg (i0 3 (by omega)) (fun k hk => j1 33 k (by omega) (by omega) (by omega)) (s 3 (by omega)) (fun k _ _ => s k (by omega)) k4, CRt_cg (fun k _ _ => i0 k (by omega)) ht (s 4 (by omega)) (fun k _ _ => s k (by omega)) k5, CRp_cg rfl ht (fun k _ _ => s k (by omega)) k6, CRl_cg (by rw [i1 5 (by omega) (by omega) (by omega)]) (i1 6 (by omega) (by omega) (by omega)) (i1 7 (by omega) (by omega) (by omega)) (i1 8 (by omega) (by omega) (by omega)) (i1 9 (by omega) (by omega) (by omega)) h6 (s 5 (by omega)) (fun k _ _ => s k (by omega)) k7⟩
  · rw [nwe (s 2 (by omega))] at he
    obtain ⟨⟨p1, p2⟩, p3, p4⟩ := h2.2 e he
    have e0 := s (67 + 3 * e + 0) (by omega)
    have e1 := s (67 + 3 * e + 1) (by omega)
    exact ⟨⟨okN_cg e0 p1, by rw [nwe e0]; omega⟩, okN_cg e1 p3, by rw [nwe e1]; exact p4⟩
  · rw [nwe (s 3 (by omega))] at hn
    have hs : ∀ k, k < 10 → w' (85 + 10 * n + k) = w (85 + 10 * n + k) := fun k _ => s _ (by omega)
    obtain ⟨a0, ⟨a1, a1'⟩, a2, a3, a4, a5, ⟨a6, a6'⟩, a7, a9⟩ := h3.2 n hn
    have e0 := hs 0 (by decide)
    have e1 := hs 1 (by decide)
    have e6 := hs 6 (by decide)
    have e7 := hs 7 (by decide)
    have e9 := hs 9 (by decide)
    refine ⟨okN_cg e0 a0, ⟨okN_cg e1 a1, by rw [nwe e1]; omega⟩, okN_cg (hs 2 (by decide)) a2, okN_cg (hs 3 (by decide)) a3, okN_cg (hs 4 (by decide)) a4, okN_cg (hs 5 (by decide)) a5, ⟨okN_cg e6 a6, by rw [nwe e0, nwe e6]; exact a6'⟩, ?_, ?_⟩
    · rcases a7 with h | ⟨h, h'⟩
      · exact Or.inl (e7.trans h)
      · exact Or.inr ⟨by rw [ht]; exact okN_cg e7 h, by rw [nwe e7, ht]; exact h'⟩
    · rcases a9 with h | ⟨h, h'⟩
      · exact Or.inl (e9.trans h)
      · exact Or.inr ⟨e9.trans h, by rw [nwe e0]; exact h'⟩
  · rw [ht] at ha
    have e9 := s (205 + 6 * ago + e) (by omega)
    rcases h5 ago ha e he with x | ⟨x, y, z⟩
    · exact Or.inl (e9.trans x)
    · exact Or.inr ⟨okN_cg e9 x, by rw [nwe e9]; omega, by rw [nwe (s 2 (by omega))]; exact z⟩
/-- where a reading stands -/
def LSt (c d : Nat) (tp : Nat → Int32) (T : Nat) (L : ML) (b : Nat) (I0 J0 I J : MI) : Prop := CT tp T b I ∧ RT tp T b J ∧ I 1 7 = I0 1 7 ∧ FCd d I0 I ∧ FRd J0 J ∧ DW c d I L (J 150) ∧ J 150 4 = J0 150 4
def SLn (c d : Nat) (tp : Nat → Int32) (T : Nat) (L : ML) (I0 J0 : MI) (_ : Unit) (v' : Bool) (I' J' : MI) : Prop := v' = true ∧ ∃ b', LSt c d tp T L b' I0 J0 I' J'
theorem LSt_t {c d : Nat} {tp : Nat → Int32} {T : Nat} {L : ML} {b b' : Nat} {I0 J0 I J I' J' : MI} (hd : 14 ≤ d) (h : LSt c d tp T L b I0 J0 I J) (h1 : CT tp T b' I') (h2 : RT tp T b' J') (h3 : only1 I I') (h4 : o149 J J') : LSt c d tp T L b' I0 J0 I' J' := by
  obtain ⟨-, -, a3, a4, a5, a6, a7⟩ := h
  have e := h4.1 150 (by decide)
  exact ⟨h1, h2, h3.2.2.trans a3, FCd_x a4 (only1_x h3), FRd_o a5 h4, by rw [e]; exact DW_x hd h3.1 a6, by rw [e]; exact a7⟩
theorem CT_w {tp : Nat → Int32} {T b : Nat} {I I' : MI} (h : CT tp T b I) (h1 : I' 1 = I 1) (h2 : I' 2 = I 2) : CT tp T b I' := by unfold CT; rw [h1, h2]; exact h
theorem RT_w {tp : Nat → Int32} {T b : Nat} {J J' : MI} (h : RT tp T b J) (h1 : J' 149 = J 149) (h2 : J' 154 = J 154) : RT tp T b J' := by unfold RT RTx; rw [h1, h2]; exact h
/-- a line's end: fields of the draft and of the world are given anew -/
theorem LSt_w {c d : Nat} {tp : Nat → Int32} {T : Nat} {L : ML} {b : Nat} {I0 J0 I J I' J' : MI} (hd : 14 ≤ d) (h : LSt c d tp T L b I0 J0 I J) (hI : ∀ q, (q < d ∨ d + 45 ≤ q) → I' q = I q) (hJ : ∀ q, q ≠ 150 → J' q = J q) (hw : ∀ k, 1294 ≤ k → J' 150 k = J 150 k) (h4 : J' 150 4 = J 150 4) (hDW : DW c d I' L (J' 150)) : LSt c d tp T L b I0 J0 I' J' := by
  obtain ⟨a1, a2, a3, a4, a5, a6, a7⟩ := h
  refine ⟨CT_w a1 (hI 1 (by omega)) (hI 2 (by omega)), RT_w a2 (hJ 149 (by decide)) (hJ 154 (by decide)), by rw [hI 1 (by omega)]; exact a3, ⟨fun q h1 h2 => (hI q h2).trans (a4.1 q h1 h2), by rw [hI 1 (by omega)]; exact a4.2⟩, ⟨fun q h1 h2 => (hJ q h2).trans (a5.1 q h1 h2), fun k h1 h2 => by rw [hJ 149 (by decide)]; exact a5.2.1 k h1 h2, fun k hk => (hw k hk).trans (a5.2.2 k hk)⟩, hDW, h4.trans a7⟩
/-- the number of a room -/
theorem xRoom {c d : Nat} {tp : Nat → Int32} {T b : Nat} {I0 J0 I J : MI} {L M : ML} (hT : T ≤ 400) (ls : LSt c d tp T L b I0 J0 I J) : JX L M (-1) (o1x I) (o149 J) (fun v v' I' J' => ∃ n, n < nw (J 150) 0 ∧ v = nI n ∧ v' = nI n ∧ CT tp T (nx tp T b) I' ∧ RT tp T (nx tp T b) J' ∧ only1 I I' ∧ o149 J J' ∧ nu tp T b = nI n ∧ J' 149 11 = nI b) (f_X4_readRoom d I L) (f_X12_roomTold J M) := by
  obtain ⟨a1, a2, a3, a4, a5, a6, a7⟩ := ls
  obtain ⟨hw, hd, -⟩ := a6
  have h0 := hw.1.1
  unfold f_X4_readRoom f_X12_roomTold f_X12_rooms
  rw [show (0 : Int32) = nI 0 from rfl, ldI_n (by decide) (by decide), Option.bind_some, Option.bind_some, hd.1]
  refine JX_bind (S := SN tp T b (nI 0) (J 150 0 - 1) I J) (xNum hT (by decide) a1 a2) (fun _ o => o) (fun J' o => ⟨J', rfl, rfl, o⟩) ?_
  intro v v2 I2 J2 ⟨n, n1, n2, n3, e1, e2, c2, r2, p1, p2, _, q1, q2⟩
  subst e1; subst e2
  refine JX_ok ⟨n, ?_, rfl, rfl, c2, r2, p1, p2, q1, q2⟩
  rw [h0.1] at n3
  by_cases h9 : nw (J 150) 0 = 0
  · rw [h9] at n3
    exfalso
    apply n3
    rw [Int32.lt_iff_toInt_lt, zI_ti (by omega)]
    have : (nI 0 - 1 : Int32).toInt = -1 := by decide
    rw [this]; omega
  · obtain ⟨m, hm⟩ : ∃ m, nw (J 150) 0 = m + 1 := ⟨nw (J 150) 0 - 1, by omega⟩
    have := h0.2
    rw [hm, zI_p1] at n3
    have := SN_hi n3 n1 (by omega)
    omega
