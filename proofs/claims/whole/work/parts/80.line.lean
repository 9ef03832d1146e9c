-- ===== one line of a house
theorem jK {c d n3 k i b : Nat} {tp : Nat → Int32} {T : Nat} {I0 J0 I J J1 : MI} {L M : ML} (hT : T ≤ 400) (hd : 14 ≤ d) (ls : LSt c d tp T L b I0 J0 I J) (e3 : J 150 3 = nI n3) (hn : n3 < 12) (hk : k ≤ 3) (hs : 1 ≤ sLen i) (hw : wdB tp T i b = true) (hl : RLe tp T b (rn (isLe tp) T b) J1) (ho : o149 J J1) : JX L M false (FCd d I0) (FRd J0) (SLn c d tp T L I0 J0) (f_X4_readNoise_16 d (nI k) true I L) (f_X12_readNoise_70 (nI n3) (nI k) J1 M) := by
  have hok := RT_ok ls.2.1
  rw [← (wd_te hs hw).2.1] at hl
  unfold f_X4_readNoise_16
  rw [c_chk_t, Option.bind_some, xc_r]
  obtain ⟨⟨I2, L2⟩, s1, s2, s3, s4⟩ := c_step (L := L) hT hok.1 ls.1
  have s2 : L2 = L := s2
  subst s2
  dsimp only
  rw [s1, Option.bind_some]
  exact jKind hT hd (LSt_t hd ls s3 (RLe_nx hok.1 hl) s4 ho) (by rw [ho.1 150 (by decide)]; exact e3) hn hk
theorem rr_noises {J : MI} {M : ML} : f_X12_noises J M = some (J 150 3) := by unfold f_X12_noises; rw [ld_3, Option.bind_some]
def kd (tp : Nat → Int32) (T b : Nat) : Int32 := if wdB tp T 7 b = true then 0 else if wdB tp T 8 b = true then 1 else if wdB tp T 9 b = true then 2 else if wdB tp T 10 b = true then 3 else -1
theorem kd_c {tp : Nat → Int32} {T b : Nat} : kd tp T b = -1 ∨ ∃ k i, k ≤ 3 ∧ 1 ≤ sLen i ∧ kd tp T b = nI k ∧ wdB tp T i b = true := by
  unfold kd
  cases g0 : wdB tp T 7 b
  · cases g1 : wdB tp T 8 b
    · cases g2 : wdB tp T 9 b
      · cases g3 : wdB tp T 10 b
        · exact Or.inl rfl
        · exact Or.inr ⟨3, 10, by decide, by decide, rfl, g3⟩
      · exact Or.inr ⟨2, 9, by decide, by decide, rfl, g2⟩
    · exact Or.inr ⟨1, 8, by decide, by decide, rfl, g1⟩
  · exact Or.inr ⟨0, 7, by decide, by decide, rfl, g0⟩
theorem c_kind {tp : Nat → Int32} {T b : Nat} {I : MI} {L : ML} (hT : T ≤ 400) (hb : b ≤ T) (h : CT tp T b I) : f_X8_kindHere I L = some (kd tp T b) := by
  unfold f_X8_kindHere f_X8_kindHere_53 kd
  rw [c_isWord hT hb (by decide) h, c_isWord hT hb (by decide) h, c_isWord hT hb (by decide) h, c_isWord hT hb (by decide) h]
  cases wdB tp T 7 b <;> cases wdB tp T 8 b <;> cases wdB tp T 9 b <;> cases wdB tp T 10 b <;> rfl
theorem r_kind {tp : Nat → Int32} {T b : Nat} {x : Int32} {J : MI} {M : ML} : (Option.bind (some (wdB tp T 46 b)) fun v4 => if v4 = true then (f_X12_readNoise_70 x 0 J M) else (Option.bind (some (wdB tp T 47 b)) fun v6 => if v6 = true then (f_X12_readNoise_70 x 1 J M) else (Option.bind (some (wdB tp T 48 b)) fun v8 => if v8 = true then (f_X12_readNoise_70 x 2 J M) else (Option.bind (some (wdB tp T 49 b)) fun v10 => if v10 = true then (f_X12_readNoise_70 x 3 J M) else (f_X12_readNoise_70 x ((-1)) J M))))) = f_X12_readNoise_70 x (kd tp T b) J M := by
  rw [show wdB tp T 46 b = wdB tp T 7 b from wd_cg rfl, show wdB tp T 47 b = wdB tp T 8 b from wd_cg rfl, show wdB tp T 48 b = wdB tp T 9 b from wd_cg rfl, show wdB tp T 49 b = wdB tp T 10 b from wd_cg rfl]
  unfold kd
  cases wdB tp T 7 b <;> cases wdB tp T 8 b <;> cases wdB tp T 9 b <;> cases wdB tp T 10 b <;> rfl
theorem nI_nem {n : Nat} (h : n < 2 ^ 31) : ¬ nI n = -1 := fun e => by
  have := zI_ti h
  rw [e] at this
  have h2 : (-1 : Int32).toInt = -1 := by decide
  rw [h2] at this; omega
theorem jNoise {c d b : Nat} {tp : Nat → Int32} {T : Nat} {I0 J0 I J : MI} {L M : ML} (hT : T ≤ 400) (hd : 14 ≤ d) (ls : LSt c d tp T L b I0 J0 I J) (hn : nw (J 150) 3 < 12) : JX L M false (FCd d I0) (FRd J0) (SLn c d tp T L I0 J0) (f_X4_readNoise d I L) (f_X12_readNoise J M) := by
  have h3 := ls.2.2.2.2.2.1.1.2.2.1.1
  have hok := RT_ok ls.2.1
  obtain ⟨⟨J1, M1⟩, j1, j2, j3, j4⟩ := r_letters (L := M) hT ls.2.1
  have j2 : M1 = M := j2
  subst j2
  unfold f_X12_readNoise
  rw [rr_noises, Option.bind_some, h3.1, if_neg (by rw [show (12 : Int32) = nI 12 from rfl, zI_eq (by omega) (by decide)]; omega), j1, Option.bind_some]
  have j3 : RLe tp T b (rn (isLe tp) T b) J1 := j3
  have j4 : o149 J J1 := j4
  dsimp only
  rw [r_isWord hT hok.1 (by decide) j3, r_isWord hT hok.1 (by decide) j3, r_isWord hT hok.1 (by decide) j3, r_isWord hT hok.1 (by decide) j3, r_kind]
  unfold f_X4_readNoise
  rw [c_kind hT hok.1 ls.1, Option.bind_some]
  rcases kd_c (tp := tp) (T := T) (b := b) with e | ⟨k, i, hk, hi, e, g⟩
  · rw [e, if_pos rfl]
    obtain ⟨I3, i1, i2⟩ := c_chk_f (L := L) ls.1
    unfold f_X4_readNoise_16 f_X12_readNoise_70
    rw [i1, Option.bind_some, xc_l, if_neg (by decide)]
    exact JX_no (f := b) i2.2.2 j3.2.2 ⟨fun q h8 h9 => (i2.1 q h8).trans (ls.2.2.2.1.1 q h8 h9), i2.2.1.trans ls.2.2.2.1.2⟩ (FRd_o ls.2.2.2.2.1 j4)
  · rw [e, if_neg (nI_nem (by omega))]
    exact jK hT hd ls h3.1 hn hk hi g j3 j4
theorem c_beg_f {tp : Nat → Int32} {T i b : Nat} {y : Bool} {I : MI} {L : ML} (hT : T ≤ 400) (hb : b ≤ T) (hs : 1 ≤ sLen i ∧ sLen i ≤ 8) (h : CT tp T b I) (hw : wdB tp T i b = false) : f_X4_begins i y I L = some (.inr false, I, L) := by
  unfold f_X4_begins f_X4_begins_19
  rw [c_isWord hT hb hs h, Option.bind_some, hw, if_neg (by decide)]
theorem c_beg_n {tp : Nat → Int32} {T i b : Nat} {I : MI} {L : ML} (hT : T ≤ 400) (hb : b ≤ T) (hs : 1 ≤ sLen i ∧ sLen i ≤ 8) (h : CT tp T b I) (hw : wdB tp T i b = true) : ∃ J, f_X4_begins i false I L = some (.inl IAE, J, L) ∧ CFl b I J := by
  obtain ⟨J, j1, j2⟩ := c_chk_f (L := L) h
  refine ⟨J, ?_, j2⟩
  unfold f_X4_begins f_X4_begins_19
  rw [c_isWord hT hb hs h, Option.bind_some, hw, if_pos rfl, j1, Option.bind_some, xc_l]
theorem c_beg_t {tp : Nat → Int32} {T i b : Nat} {I : MI} {L : ML} (hT : T ≤ 400) (hb : b ≤ T) (hs : 1 ≤ sLen i ∧ sLen i ≤ 8) (h : CT tp T b I) (hw : wdB tp T i b = true) : ∃ J, f_X4_begins i true I L = some (.inr true, J, L) ∧ CT tp T (nx tp T b) J ∧ only1 I J := by
  obtain ⟨⟨I2, L2⟩, s1, s2, s3, s4⟩ := c_step (L := L) hT hb h
  have s2 : L2 = L := s2
  subst s2
  refine ⟨I2, ?_, s3, s4⟩
  unfold f_X4_begins f_X4_begins_19
  rw [c_isWord hT hb hs h, Option.bind_some, hw, if_pos rfl, c_chk_t, Option.bind_some, xc_r]
  dsimp only
  rw [s1, Option.bind_some]
theorem ob3 {α : Type} (o : Option (α × MI × ML)) : Option.bind o (fun w => some (w.1, w.2.1, w.2.2)) = o := ob o
theorem JX_179 {L M : ML} {FC FR : MI → Prop} {S : Unit → Bool → MI → MI → Prop} {ca : Option ((String ⊕ Unit) × MI × ML)} {cb : Option (Bool × MI × ML)} (h : JX L M false FC FR S ca cb) : JX L M false FC FR S (Option.bind ca fun w6 => xc w6 fun _ => f_X4_readLine_179 w6.2.1 w6.2.2) cb := by
  rw [← ob cb]
  exact JX_bind h (fun _ o => o) (fun J' o => ⟨J', rfl, rfl, o⟩) (fun v v2 I2 J2 h => JX_ok h)
theorem jLine {c d b : Nat} {tp : Nat → Int32} {T : Nat} {I0 J0 I J J1 : MI} {L M : ML} (hT : T ≤ 400) (hd : 14 ≤ d) (ls : LSt c d tp T L b I0 J0 I J) (hl : RLe tp T b (rn (isLe tp) T b) J1) (ho : o149 J J1) : JX L M false (FCd d I0) (FRd J0) (SLn c d tp T L I0 J0) (f_X4_readLine d I L) (f_X12_readHouseLine J1 M) := by
  have hok := RT_ok ls.2.1
  have hb := hok.1
  have hc := ls.1
  have e150 := ho.1 150 (by decide)
  have fr := FRd_o ls.2.2.2.2.1 ho
  have fc : ∀ {I3 : MI}, CFl b I I3 → FCd d I0 I3 := fun i2 => ⟨fun q h8 h9 => (i2.1 q h8).trans (ls.2.2.2.1.1 q h8 h9), i2.2.1.trans ls.2.2.2.1.2⟩
  have nxt : ∀ {i : Nat} {I2 : MI}, 1 ≤ sLen i → wdB tp T i b = true → CT tp T (nx tp T b) I2 → only1 I I2 → LSt c d tp T L (nx tp T b) I0 J0 I2 J1 := fun hs hw c2 o2 => LSt_t hd ls c2 (RLe_nx hb (by rw [(wd_te hs hw).2.1]; exact hl)) o2 ho
  obtain ⟨⟨⟨h0, h1, -⟩, h2, h3, -⟩, k0, k2, k3, -⟩ := ls.2.2.2.2.2.1
  have hbd1 := h1.2
  have hbd2 := h2.1.2
  have hbd3 := h3.1.2
  have q1 : wdB tp T 40 b = wdB tp T 1 b := wd_cg rfl
  have q2 : wdB tp T 41 b = wdB tp T 2 b := wd_cg rfl
  have q3 : wdB tp T 42 b = wdB tp T 3 b := wd_cg rfl
  have q6 : wdB tp T 45 b = wdB tp T 6 b := wd_cg rfl
  have q14 : wdB tp T 53 b = wdB tp T 14 b := wd_cg rfl
  have q15 : wdB tp T 54 b = wdB tp T 15 b := wd_cg rfl
  unfold f_X12_readHouseLine
  rw [r_isWord hT hb (by decide) hl, Option.bind_some, q1]
  unfold f_X4_readLine
  rw [k0.1, h0.1, show (10 : Int32) = nI 10 from rfl]
  cases g1 : wdB tp T 1 b
  case true =>
    rw [if_pos (rfl : true = true), ob3]
    unfold f_X4_readLine_17
    by_cases hn : nw (J 150) 0 < 10
    · rw [if_neg (le_n (by decide) (by omega) hn)]
      obtain ⟨I2, i1, i2, i3⟩ := c_beg_t (L := L) hT hb (by decide) hc g1
      rw [i1, Option.bind_some, xc_r, if_pos (rfl : true = true)]
      exact jRoom hT hd (nxt (by decide) g1 i2 i3) (by rw [e150]; exact hn)
    · rw [if_pos ((zI_le (by decide) (by omega)).mpr (by omega))]
      obtain ⟨I2, i1, i2⟩ := c_beg_n (L := L) hT hb (by decide) hc g1
      have e : f_X12_readRoom J1 M = some (false, J1, M) := by
        unfold f_X12_readRoom
        rw [rr_rooms, Option.bind_some, e150, h0.1, if_pos (by rw [show nw (J 150) 0 = 10 by omega]; rfl)]
      rw [i1, Option.bind_some, xc_l, e]
      exact JX_no i2.2.2 hl.2.2 (fc i2) fr
  case false =>
  rw [if_neg Bool.false_ne_true, r_isWord hT hb (by decide) hl, Option.bind_some, q2]
  unfold f_X4_readLine_17
  rw [c_beg_f hT hb (by decide) hc g1, c_beg_f hT hb (by decide) hc g1, ite_self, Option.bind_some, xc_r, if_neg Bool.false_ne_true]
  dsimp only
  have lt1 : nw (J 150) 1 < 14 → ¬ (14 : Int32) ≤ I d 1 := fun h => by rw [k0.2.1, h1.1]; exact le_n (a := 14) (by decide) (by omega) h
  have ge1 : ¬ nw (J 150) 1 < 14 → (14 : Int32) ≤ I d 1 := fun h => by rw [k0.2.1, h1.1]; exact (zI_le (a := 14) (by decide) (by have := (hbd1); omega)).mpr (by omega)
  cases g2 : wdB tp T 2 b
  case true =>
    rw [if_pos (rfl : true = true), ob3]
    unfold f_X4_readLine_54
    by_cases hn : nw (J 150) 1 < 14
    · rw [if_neg (lt1 hn)]
      obtain ⟨I2, i1, i2, i3⟩ := c_beg_t (L := L) hT hb (by decide) hc g2
      rw [i1, Option.bind_some, xc_r, if_pos (rfl : true = true)]
      exact JX_179 (jDoor hT hd (nxt (by decide) g2 i2 i3) (by rw [e150]; exact hn))
    · rw [if_pos (ge1 hn)]
      obtain ⟨I2, i1, i2⟩ := c_beg_n (L := L) hT hb (by decide) hc g2
      have e : f_X12_readDoor J1 M = some (false, J1, M) := by
        unfold f_X12_readDoor
        rw [ld_1, Option.bind_some, e150, h1.1, if_pos (by rw [show nw (J 150) 1 = 14 by omega]; rfl)]
      rw [i1, Option.bind_some, xc_l, e]
      exact JX_no i2.2.2 hl.2.2 (fc i2) fr
  case false =>
  rw [if_neg Bool.false_ne_true, r_isWord hT hb (by decide) hl, Option.bind_some, q3]
  unfold f_X4_readLine_54
  rw [c_beg_f hT hb (by decide) hc g2, c_beg_f hT hb (by decide) hc g2, ite_self, Option.bind_some, xc_r, if_neg Bool.false_ne_true]
  dsimp only
  have lt2 : nw (J 150) 2 < 6 → ¬ (6 : Int32) ≤ I d 2 := fun h => by rw [k2.1, h2.1.1]; exact le_n (a := 6) (by decide) (by omega) h
  have ge2 : ¬ nw (J 150) 2 < 6 → (6 : Int32) ≤ I d 2 := fun h => by rw [k2.1, h2.1.1]; exact (zI_le (a := 6) (by decide) (by have := (hbd2); omega)).mpr (by omega)
  have l2 := h2.1.2
  cases g3 : wdB tp T 3 b
  case true =>
    rw [if_pos (rfl : true = true), ob3]
    unfold f_X4_readLine_85
    by_cases hn : nw (J 150) 2 < 6
    · rw [if_neg (lt2 hn)]
      obtain ⟨I2, i1, i2, i3⟩ := c_beg_t (L := L) hT hb (by decide) hc g3
      rw [i1, Option.bind_some, xc_r, if_pos (rfl : true = true)]
      exact JX_179 (jHeir hT hd (nxt (by decide) g3 i2 i3) (by rw [e150]; exact hn))
    · rw [if_pos (ge2 hn)]
      obtain ⟨I2, i1, i2⟩ := c_beg_n (L := L) hT hb (by decide) hc g3
      have e : f_X12_readHeir J1 M = some (false, J1, M) := by
        unfold f_X12_readHeir
        rw [rr_heirs, Option.bind_some, e150, h2.1.1, if_pos (by rw [show nw (J 150) 2 = 6 by omega]; rfl)]; rfl
      rw [i1, Option.bind_some, xc_l, e]
      exact JX_no i2.2.2 hl.2.2 (fc i2) fr
  case false =>
  rw [if_neg Bool.false_ne_true, r_isWord hT hb (by decide) hl, Option.bind_some, q6]
  unfold f_X4_readLine_85
  rw [c_beg_f hT hb (by decide) hc g3, c_beg_f hT hb (by decide) hc g3, ite_self, Option.bind_some, xc_r, if_neg Bool.false_ne_true]
  dsimp only
  have lt3 : nw (J 150) 3 < 12 → ¬ (12 : Int32) ≤ I d 3 := fun h => by rw [k3.1, h3.1.1]; exact le_n (a := 12) (by decide) (by omega) h
  have ge3 : ¬ nw (J 150) 3 < 12 → (12 : Int32) ≤ I d 3 := fun h => by rw [k3.1, h3.1.1]; exact (zI_le (a := 12) (by decide) (by have := (hbd3); omega)).mpr (by omega)
  have l3 := h3.1.2
  cases g6 : wdB tp T 6 b
  case true =>
    rw [if_pos (rfl : true = true), ob3]
    unfold f_X4_readLine_116
    by_cases hn : nw (J 150) 3 < 12
    · rw [if_neg (lt3 hn)]
      obtain ⟨I2, i1, i2, i3⟩ := c_beg_t (L := L) hT hb (by decide) hc g6
      rw [i1, Option.bind_some, xc_r, if_pos (rfl : true = true)]
      exact JX_179 (jNoise hT hd (nxt (by decide) g6 i2 i3) (by rw [e150]; exact hn))
    · rw [if_pos (ge3 hn)]
      obtain ⟨I2, i1, i2⟩ := c_beg_n (L := L) hT hb (by decide) hc g6
      have e : f_X12_readNoise J1 M = some (false, J1, M) := by
        unfold f_X12_readNoise
        rw [rr_noises, Option.bind_some, e150, h3.1.1, if_pos (by rw [show nw (J 150) 3 = 12 by omega]; rfl)]
      rw [i1, Option.bind_some, xc_l, e]
      exact JX_no i2.2.2 hl.2.2 (fc i2) fr
  case false =>
  rw [if_neg Bool.false_ne_true, r_isWord hT hb (by decide) hl, Option.bind_some, q14]
  unfold f_X4_readLine_116
  rw [c_beg_f hT hb (by decide) hc g6, c_beg_f hT hb (by decide) hc g6, ite_self, Option.bind_some, xc_r, if_neg Bool.false_ne_true]
  dsimp only
  cases g14 : wdB tp T 14 b
  case true =>
    rw [if_pos (rfl : true = true)]
    obtain ⟨I2, i1, i2, i3⟩ := c_beg_t (L := L) hT hb (by decide) hc g14
    rw [i1, Option.bind_some, xc_r, if_pos (rfl : true = true)]
    exact jStorm hT hd (nxt (by decide) g14 i2 i3)
  case false =>
  rw [if_neg Bool.false_ne_true, r_isWord hT hb (by decide) hl, Option.bind_some, q15, c_beg_f hT hb (by decide) hc g14, Option.bind_some, xc_r, if_neg Bool.false_ne_true]
  dsimp only
  obtain ⟨⟨x, I3, L3⟩, s1, s2, s3, s4⟩ := c_needWord (L := L) (i := 15) hT hb (by decide) hc
  have s2 : L3 = L := s2
  subst s2
  rw [s1, Option.bind_some]
  cases g15 : wdB tp T 15 b
  · obtain ⟨t1, t2⟩ := s4 g15
    have t1 : x = .inl IAE := t1
    subst t1
    rw [xc_l, if_neg Bool.false_ne_true]
    exact JX_no t2.2.2 hl.2.2 (fc t2) fr
  · obtain ⟨t1, t2, t3⟩ := s3 g15
    have t1 : x = .inr () := t1
    subst t1
    rw [xc_r, if_pos (rfl : true = true)]
    exact jCarp hT hd (nxt (by decide) g15 t2 t3)
