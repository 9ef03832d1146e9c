def GC (P : Pz) (Q : Qz) (g : Gx) (d bc bs : Nat) (M : Mth) (pc : Nat) (lv : List (Nat × Value)) (st : List Value) (c0 : CS) : Prop :=
  ∀ (p : Program) (l : Launch) (e : Env) (R : Room) (u : State) (m : MethodId) (args : Array Value) (below : List Frame) (meth : Method) (c : Code) (H : Heap) (locs : List Loc) (cells slots : Nat) (ls : Array Slot),
    Cg P g d M p l R u m args meth c → (True ∧ NS u) → HC g c0 H → va_S (Ag g) u.heap H locs → lv_has ls M.2.2.1 (lv.map (cq g)) → cells + bc ≤ R.cells → slots + bs ≤ R.slots →
    W p l e R u m args below meth c H locs cells slots (Q R u args below) (F0 m pc ls (st.map (cv g)))
section
variable {P : Pz} {Q : Qz} {g : Gx} {d bc bs : Nat} {M : Mth} {pc : Nat} {lv lv' : List (Nat × Value)} {st : List Value} {I : MI} {L : ML} {S : MS} {n : Nat} {c0 : CS}
theorem GC_iconst {n : Int} {v : Int32} (q : Nat) (hq : pc + 1 = q) (hd : decode M.2.1 pc = .ok (.iconst n, 1)) (hv : Int32.ofInt n = v) (k : GC P Q g d bc bs M q lv (.int v :: st) c0) : GC P Q g d bc bs M pc lv (st) c0 := by
  subst hq
  intro p l e R u m args below meth c H locs cells slots ls C hn hW hS hl h1 h2
  exact lv_iconst C.1 C.2.1 hd hv (k p l e R u m args below meth c H locs cells slots ls C hn hW hS hl h1 h2)
theorem GC_dup {va : Value} (q : Nat) (hq : pc + 1 = q) (hd : decode M.2.1 pc = .ok (.dup, 1)) (h : va.category = 1) (k : GC P Q g d bc bs M q lv (va :: va :: st) c0) : GC P Q g d bc bs M pc lv (va :: st) c0 := by
  subst hq
  intro p l e R u m args below meth c H locs cells slots ls C hn hW hS hl h1 h2
  exact lv_dup C.1 C.2.1 hd (by rw [cv_cat]; exact h) (k p l e R u m args below meth c H locs cells slots ls C hn hW hS hl h1 h2)
theorem GC_new {ci idx N : Nat} (q : Nat) (hq : pc + 3 = q) (hd : decode M.2.1 pc = .ok (.new idx, 3)) (hsh : shp n = (0, ci)) (nw : NW M.1.cls idx ci N) (kk : GC P Q g d bc bs M q lv (.ref n :: st) (I, L, S, n + 1)) : GC P Q g d (bc + 1) (bs + N) M pc lv st (I, L, S, n) := by
  subst hq
  intro p l e R u m args below meth c H locs cells slots ls C hn hW hS hl h1 h2
  obtain ⟨hx, hb, hr, hml, hown, hts, hlk, hno, htr, hK, hf, hlo⟩ := id C
  obtain ⟨C0, T, t0, ⟨hc, hin, hty, hnm, hN⟩, w1, w2, w3, hdf⟩ := nw
  have h161 := shp_lt hsh (by decide)
  have hKn := hK.1.1 ci _ hc
  obtain ⟨hP, hz, hfr⟩ := hW
  have hz' : H.size = g.1 + n := hz
  refine W.newcK hx hb hown (hts _ w1) (hts _ w2) (hts _ w3) rfl hd (by omega) (by omega) hKn.2.1 hz' fun H1 kC hkC e1 z1 o1 => ?_
  have k9 := kk p l e R u m args below meth c H1 locs (cells + 1) (slots + N) ls C hn (HC_push ⟨hP, hz, hfr⟩ (by rw [z1, hz']) (fun q hq => o1 q (by omega)) ?_) ⟨Nat.le_trans hS.1 (by omega), fun x a1 a2 => (o1 x (by have := hS.1; omega)).trans (hS.2.1 x a1 a2), hS.2.2⟩ hl (by omega) (by omega)
  · rw [List.map_cons, show cv g (.ref n) = .ref (loc g n) from rfl, loc_lo g (show n < 100000 by omega)] at k9
    exact k9
  · rw [celC_o g _ hsh, hN]
    refine ⟨_, hc, (u_born t0 hts hin hKn hkC e1 hty).to (fun k hk => ?_)⟩
    rw [hdf k hk]
    show _ = vp_V ((List.range N).map (fvC g (I, L, S, n + 1) n ci)) k
    simp only [vp_V, List.getD_eq_getElem?_getD, List.getElem?_map, List.getElem?_range hk, Option.map_some, Option.getD_some]
    exact (fvC_0 (fun k => (hfr n (Nat.le_refl _) k).1) (fun k => (hfr n (Nat.le_refl _) k).2.1) (fun k => (hfr n (Nat.le_refl _) k).2.2)).symm
theorem GC_nal {N : Nat} {v : Int32} (q : Nat) (hq : pc + 2 = q) (hd : decode M.2.1 pc = .ok (.newarray .long, 2)) (hsh : shp n = (3, N)) (hv0 : ¬ v < 0) (hv : v.toNatClampNeg = N) (hb8 : N * 8 ≤ 536870912) (w : Cond.arrayClass .long ∈ lw_good) (kk : GC P Q g d bc bs M q lv (.ref n :: st) (I, L, S, n + 1)) : GC P Q g d (bc + 1) (bs + N) M pc lv (.int v :: st) (I, L, S, n) := by
  subst hq
  intro p l e R u m args below meth c H locs cells slots ls C hn hW hS hl h1 h2
  obtain ⟨hx, hb, hr, hml, hown, hts, hlk, hno, htr, hK, hf, hlo⟩ := id C
  have h161 := shp_lt hsh (by decide)
  obtain ⟨hP, hz, hfr⟩ := hW
  have hz' : H.size = g.1 + n := hz
  refine va_newaK hx hb (atype := .long) (hts _ w) rfl hd rfl hv0 hv (by show N * 8 ≤ _; omega) (by omega) (by omega) hz' fun H1 cA e1 z1 o1 _ hfc => ?_
  have hcA : cA = g.2.2.1 3 := Option.some.inj (hfc.symm.trans (hK.1.2 2 _ rfl).2)
  have k9 := kk p l e R u m args below meth c H1 locs (cells + 1) (slots + N) ls C hn (HC_push ⟨hP, hz, hfr⟩ (by rw [z1, hz']) (fun q hq => o1 q (by omega)) ?_) ⟨Nat.le_trans hS.1 (by omega), fun x a1 a2 => (o1 x (by have := hS.1; omega)).trans (hS.2.1 x a1 a2), hS.2.2⟩ hl (by omega) (by omega)
  · rw [List.map_cons, show cv g (.ref n) = .ref (loc g n) from rfl, loc_lo g (show n < 100000 by omega)] at k9
    exact k9
  · rw [celC_l g _ hsh]
    show H1[g.1 + n]? = some (vp_cell _ _)
    rw [e1, vp_cell_l, hcA]
    congr 2
    funext j
    rw [(hfr n (Nat.le_refl _) j).2.1]
    rfl
theorem GC_cI {M' : Mth} {q0 d' mc ms idx : Nat} {c1 : CS} (q : Nat) (hq : pc + 3 = q) (hd : decode M.2.1 pc = .ok (.invokespecial idx, 3)) (ci : CI M.1.cls idx M') (hdd : d' + 1 ≤ d) (hst : cats st ≤ 8) (h9 : q0 < 100000) (hc : EntC g d' mc ms M' q0 c0 c1) (kk : GC P Q g d bc bs M q lv st c1) : GC P Q g d (bc + mc) (bs + ms) M pc lv (.ref q0 :: st) c0 := by
  subst hq
  intro p l e R u m args below meth c H locs cells slots ls C hn hW hS hl h1 h2
  obtain ⟨hx, hb, hr, hml, hown, hts, hlk, hno, htr, hK, hf, hlo⟩ := id C
  obtain ⟨⟨k1, k2, k3, k4, k5, k6⟩, n7, n8, n9⟩ := ci
  intro T hT X
  have hM := hc l htr
  have hcb : CallB R u args M.1.cls idx M'.1 M'.2.1 M'.2.2.1 none (wsM M') (rmC d' mc ms) mc ms 0 := by
    refine ⟨rfl, rfl, ?_, ?_, ?_, ?_, ?_, hts _ k2, k4, fun sig h => ?_, hts _ k1⟩
    · show d' + 1 ≤ R.frames
      omega
    · show 8 + (M'.2.2.1 + 11) + 64 * d' ≤ R.locals
      omega
    · intro w hw a' U hWm
      rcases List.mem_cons.mp hw with rfl | hw
      · exact word_at hWm (lw_good_ok k3) (hts _ k3)
      · exact word_at hWm (lw_good_ok hw) (hts _ hw)
    · rw [← n7]; exact List.mem_cons_self
    · rw [← n7]; exact hts _ k3
    · rw [h] at k5
      exact (Option.some.inj k5).symm
  obtain ⟨v', st₀, t, T', L9, h0', X', hL, e1, e2, ⟨ho, hHW, hF⟩, stp⟩ := va_runI (As := []) (rest := st.map (cv g)) (b := g.1 + q0) (g := F0 m pc ls ((Value.ref q0 :: st).map (cv g))) (locs := locs) (cells := cells) (slots := slots) (e := e) (below := below) (meth := meth) (H := H) ⟨hx, hb, hml, hown, hts⟩ hM ⟨hcb, n8, hts _ n9⟩ ⟨HC_blind, preC_of hK hn.2 hW hS⟩ rfl rfl hl.1 (by show (Value.ref (loc g q0) :: st.map (cv g)) = _; rw [loc_lo g h9]; rfl) (by show 2 * 0 + _ ≤ 8; rw [cats_cv]; omega) hd ⟨by omega, by omega⟩ T hT X
  cases ho
  obtain ⟨k1, k2, k3⟩ := vx_keep h0' e1 hS (fun q _ h => h) (fun q h => h) hL hF
  obtain ⟨t2, a1, b1⟩ := kk p l e R u m args below meth c T'.heap (locs ++ L9) (cells + mc) (slots + ms) ls C hn (by rw [e1]; exact hHW) k3 hl (by omega) (by omega) T' rfl X'
  exact ⟨t2, stp t2 a1, b1⟩
theorem GC_astore_n {k : Fin 4} {i : Nat} {x : Nat} (q : Nat) (hq : pc + 1 = q) (hd : decode M.2.1 pc = .ok (.astore_n k, 1)) (hi : (k : Nat) = i) (hn' : i < M.2.2.1) (h : (i, Value.ref x) :: lv.filter (pf1 i) = lv') (kk : GC P Q g d bc bs M q lv' st c0) : GC P Q g d bc bs M pc lv (.ref x :: st) c0 := by
  subst hq
  intro p l e R u m args below meth c H locs cells slots ls C hn hW hS hl h1 h2
  exact lv_astore_n C.1 C.2.1 hd hi hl hn' (pf1_map h) (fun ls' hl' => kk p l e R u m args below meth c H locs cells slots ls' C hn hW hS hl' h1 h2)
theorem GC_istore {i : Nat} {x : Int32} (q : Nat) (hq : pc + 2 = q) (hd : decode M.2.1 pc = .ok (.istore i, 2)) (hn' : i < M.2.2.1) (h : (i, Value.int x) :: lv.filter (pf1 i) = lv') (kk : GC P Q g d bc bs M q lv' st c0) : GC P Q g d bc bs M pc lv (.int x :: st) c0 := by
  subst hq
  intro p l e R u m args below meth c H locs cells slots ls C hn hW hS hl h1 h2
  exact lv_istore C.1 C.2.1 hd hl hn' (pf1_map h) (fun ls' hl' => kk p l e R u m args below meth c H locs cells slots ls' C hn hW hS hl' h1 h2)
end
/-- all reference fields and rows are laid -/
def fullB (S : MS) : Bool := (List.range 161).all fun q => match shp q with
  | (0, ci) => (List.range (fkT.getD ci []).length).all fun k => !(fkd ci k == 2 || fkd ci k == 3) || S q k
  | (1, _) => true
  | (2, _) => true
  | (3, _) => true
  | (_, n) => (List.range n).all fun k => S q k
theorem fvC_full {g : Gx} {I : MI} {L : ML} {S : MS} {n q ci k : Nat} (h : fkd ci k = 2 ∨ fkd ci k = 3 → S q k = true) : fvC g (I, L, S, n) q ci k = fv g (I, L) q ci k := by
  unfold fvC fv
  generalize fkd ci k = z at h ⊢
  match z, h with
  | 0, _ => rfl
  | 1, _ => rfl
  | 2, h => have h9 := h (Or.inl rfl); simp only [h9, if_pos]
  | 3, h => have h9 := h (Or.inr rfl); simp only [h9, if_pos]
  | z + 4, _ => rfl
theorem vcq {cA : ClassId} {n : Nat} {f f' : Nat → Option Nat} (h : ∀ i, i < n → f i = f' i) : vp_cell cA (n, .inr (.inr (.inr (.inr f)))) = vp_cell cA (n, .inr (.inr (.inr (.inr f')))) := by
  show arrV cA n (fun j => va_rf (f j)) = arrV cA n (fun j => va_rf (f' j))
  unfold arrV
  congr 1
  apply Array.ext
  · simp
  · intro i h1 h2
    simp at h1 ⊢
    rw [h i h1]
theorem HC_full {g : Gx} {I : MI} {L : ML} {S : MS} {H : Heap} (hf : fullB S = true) (h : HC g (I, L, S, 161) H) : HW g (I, L) H := by
  intro k q hk
  have hk' : k < 161 := by
    have := (List.getElem?_eq_some_iff.mp hk).1
    simpa [wsO, nP] using this
  have e1 := wsO_at g (I, L) hk'
  rw [e1] at hk
  cases hk
  have h0 := h.1 k _ (wsC_at g (I, L, S, 161) hk')
  have hf' := List.all_eq_true.mp hf k (List.mem_range.mpr hk')
  unfold va_at at h0 ⊢
  unfold cel
  unfold celC at h0
  generalize shp k = z at h0 hf' ⊢
  obtain ⟨a, n⟩ := z
  match a, hf', h0 with
  | 0, hf', h0 =>
    have e : (List.range (fkT.getD n []).length).map (fvC g (I, L, S, 161) k n) = (List.range (fkT.getD n []).length).map (fv g (I, L) k n) := by
      apply List.map_congr_left
      intro j hj
      apply fvC_full
      intro h9
      have h8 := List.all_eq_true.mp hf' j hj
      rcases h9 with h9 | h9 <;> simpa [h9] using h8
    simp only [] at h0 ⊢
    rw [e] at h0
    exact h0
  | 1, _, h0 => exact h0
  | 2, _, h0 => exact h0
  | 3, _, h0 => exact h0
  | a + 4, hf', h0 =>
    simp only [] at h0 ⊢
    rw [h0]
    congr 1
    apply vcq
    intro i hi
    have h8 : S k i = true := List.all_eq_true.mp hf' i (List.mem_range.mpr hi)
    simp [h8]
theorem GC_go {P : Pz} {Q : Qz} {g : Gx} {d b : Nat} {M : Mth} {pc : Nat} {lv : List (Nat × Value)} {st : List Value} {I : MI} {L : ML} {S : MS} (hf : fullB S = true) (k : EG P Q g d b M pc lv st (I, L)) : GC P Q g d b (8 * b) M pc lv st (I, L, S, 161) := by
  intro p l e R u m args below meth c H locs cells slots ls C hn hW hS hl h1 h2
  exact k p l e R u m args below meth c H locs cells slots ls C (HC_full hf hW) hS hl h1 h2
def I00 : MI := fun _ _ => 0
def L00 : ML := fun _ _ => 0
def S00 : MS := fun _ _ => false
def I0 : MI := jI_X12 (jI_X11 I00)
def L0 : ML := jL_X11 L00
def S0 : MS := jS_X12 (jS_X11 S00)
theorem S0_full : fullB S0 = true := by decide +kernel
theorem ini_L11 : Cond.initialized RX11 ∈ lw_good := tg1 1 rfl rfl
theorem ini_L12 : Cond.initialized RX12 ∈ lw_good := tg1 11 rfl rfl
theorem nwL_8 : NW RL 8 9 8 := ⟨_, _, _, kc_9, tg1 28 rfl rfl, tg1 29 rfl rfl, ini_L11, by decide⟩
theorem nwL_101 : NW RL 101 10 20 := ⟨_, _, _, kc_10, tg6 76 rfl rfl, tg6 77 rfl rfl, ini_L12, by decide⟩
theorem ciL_100 : CI RL 100 mX11_init := ⟨⟨tg1 30 rfl rfl, ini_L11, tg1 32 rfl rfl, ⟨by decide, by decide⟩, by decide +kernel, by decide⟩, rfl, rfl, tg1 31 rfl rfl⟩
theorem ciL_103 : CI RL 103 mX12_init := ⟨⟨tg6 78 rfl rfl, ini_L12, tg6 80 rfl rfl, ⟨by decide, by decide⟩, by decide +kernel, by decide⟩, rfl, rfl, tg6 79 rfl rfl⟩
theorem law_begin {g : Gx} {b : Nat} {P : Pz} {Q : Qz} (k : EG P Q g 53 b mLaw 23 (lv5 (nI 0)) [] (I0, L0)) : GC P Q g 53 (b + 1 + 10 + 1 + 148 + 1) (8 * b + 1 + 10988 + 20 + 3032 + 8) mLaw 0 [(0, .ref 200067)] [] (I00, L00, S00, 0) := by
  refine GC_new (M := mLaw) (idx := 8) (N := 8) (bc := b + 1 + 10 + 1 + 148) (bs := 8 * b + 1 + 10988 + 20 + 3032) 3 rfl dL_law_0 shz0 nwL_8 ?_
  refine GC_dup (M := mLaw) 4 rfl dL_law_3 rfl ?_
  refine GC_cI (M := mLaw) (bc := b + 1 + 10 + 1) (bs := 8 * b + 1 + 10988 + 20) (mc := 148) (ms := 3032) 7 rfl dL_law_4 ciL_100 (by decide) (by decide) (by decide) D_X11 ?_
  refine GC_astore_n (M := mLaw) (lv' := [(1, .ref 0), (0, .ref 200067)]) 8 rfl dL_law_7 rfl (by decide) rfl ?_
  refine GC_new (M := mLaw) (idx := 101) (N := 20) (bc := b + 1 + 10) (bs := 8 * b + 1 + 10988) 11 rfl dL_law_8 shz149 nwL_101 ?_
  refine GC_dup (M := mLaw) 12 rfl dL_law_11 rfl ?_
  refine GC_cI (M := mLaw) (bc := b + 1) (bs := 8 * b + 1) (mc := 10) (ms := 10988) 15 rfl dL_law_12 ciL_103 (by decide) (by decide) (by decide) D_X12 ?_
  refine GC_astore_n (M := mLaw) (lv' := [(2, .ref 149), (1, .ref 0), (0, .ref 200067)]) 16 rfl dL_law_15 rfl (by decide) rfl ?_
  refine GC_iconst (M := mLaw) (v := 1) 17 rfl dL_law_16 (by decide) ?_
  refine GC_nal (M := mLaw) (N := 1) (bc := b) (bs := 8 * b) 19 rfl dL_law_17 sh160 (by decide) (by decide) (by decide) acL ?_
  refine GC_astore_n (M := mLaw) (lv' := [(3, .ref 160), (2, .ref 149), (1, .ref 0), (0, .ref 200067)]) 20 rfl dL_law_19 rfl (by decide) rfl ?_
  refine GC_iconst (M := mLaw) (v := 0) 21 rfl dL_law_20 (by decide) ?_
  refine GC_istore (M := mLaw) (lv' := [(4, .int 0), (3, .ref 160), (2, .ref 149), (1, .ref 0), (0, .ref 200067)]) 23 rfl dL_law_21 (by decide) rfl ?_
  exact GC_go S0_full (G_sub [0, 1, 2, 3, 4] rfl (G_sub (lv' := lv5 (nI 0)) [4, 3, 2, 1, 0] rfl k))
/-! what the Statement gives of the start -/
theorem arr_prim {s : State} {args : Array Value} {ty : FieldType} (h : (Cond.arrayClass ty).before args s = true) (hp : ∀ C, ty ≠ .object C) : ∃ cA, ArrOfT s cA ty ∧ va_RA s cA ty := by
  obtain ⟨c, k, comp, h1, h2, h3⟩ := Cond.arrayClass_spec h
  refine ⟨c, fun N z => ⟨(fun k h => by cases h), k, h2, comp, h3⟩, ?_⟩
  unfold va_RA
  split
  · rename_i C; exact absurd rfl (hp C)
  · exact h1
theorem arr_ref {s : State} {C : String} (h : va_AO C s) : ∃ cA, ArrOfT s cA (.object C) ∧ va_RA s cA (.object C) := by
  obtain ⟨comp, c, k, h1, h2, h3, h4, h5⟩ := Cond.arrayOver_spec h
  exact ⟨c, fun N z => ⟨(fun k h => by cases h), k, h3, comp, h4⟩, k, comp, h3, h4, h1, h5⟩
theorem str_at {args : Array Value} {s : State} {tm : Term} {len : Nat} {byt : Nat → Int32} {A : Nat → Prop} (hN : len < 2 ^ 31) (hex : (Cond.exactly tm "java/lang/String").before args s = true) (hco : (Cond.eq (.field tm "java/lang/String" "coder" "B") (.int 0)).before args s = true) (har : (Cond.arrayOf (.field tm "java/lang/String" "value" "[B") .byte).before args s = true) (hle : (Cond.eq (.length (.field tm "java/lang/String" "value" "[B")) (.int (Int32.ofNat len))).before args s = true)
    (hel : ∀ j : Nat, j < len → (Cond.eq (.elem (.field tm "java/lang/String" "value" "[B") (.int (Int32.ofNat j))) (.int (byt j))).before args s = true) (hA : ∀ a : Nat, a < s.heap.size → ¬ A a) :
    ∃ q : Nat × Nat, tm.eval args s none [] s = some (.ref q.1) ∧ va_O "java/lang/String" q.1 A s s.heap ∧ va_OF "java/lang/String" "coder" "B" (.int 0) q.1 A s s.heap ∧ va_OF "java/lang/String" "value" "[B" (.ref q.2) q.1 A s s.heap ∧ va_T .byte q.2 len (fun j => .int (byt j)) A s s.heap := by
  obtain ⟨a, c, cA, kA, q1, q2, q3, q4, q5, q6, -⟩ := Cond.exactly_spec (args := args) (first := s) (o := none) (s := s) (idx := []) (t := tm) (cls := "java/lang/String") hex
  obtain ⟨t, ht, hT⟩ := va_Tof (f := fun j => .int (byt j)) (A := A) hN har (va_eqt hle) (fun j hj => va_eqt (hel j hj)) hA
  exact ⟨(a, t), q1, ⟨cA, q3, q5, by rw [q6]; exact q2, hA a (Array.getElem?_eq_some_iff.mp q3).1⟩, vk_OFof q1 (va_eqt hco) hA, vk_OFof q1 ht hA, hT⟩
def strO (i : Nat) : Term := .string (strT.getD i ("", 0, "")).1 (strT.getD i ("", 0, "")).2.1
def strW (i : Nat) : List Cond := [.exactly (strO i) "java/lang/String", .eq (.field (strO i) "java/lang/String" "coder" "B") (.int 0), .arrayOf (.field (strO i) "java/lang/String" "value" "[B") .byte, .eq (.length (.field (strO i) "java/lang/String" "value" "[B")) (.int (Int32.ofNat (sLen i)))] ++ (List.range (sLen i)).map (fun j => .eq (.elem (.field (strO i) "java/lang/String" "value" "[B") (.int (Int32.ofNat j))) (.int (sChr i j)))
def strP : List Nat := [115, 136, 144, 152, 160, 166, 173, 182, 191, 202, 211, 219, 228, 236, 245, 255, 265, 301, 308, 314, 322, 328, 335, 344, 353, 363, 372, 380, 389, 399, 406, 413, 419, 444, 472, 497, 526, 552, 581, 610, 639, 649, 658, 667, 674, 682, 693, 703, 715, 725, 734, 745, 755, 765, 776, 787, 794, 802, 811, 818, 826, 836, 846, 855, 863, 871]
def gvL : List Cond := Jvm.Free.XT.flat (Jvm.Cond.and given_1 narrow_1)
theorem strW_ok : (List.range 66).all (fun i => decide ((gvL.drop (strP.getD i 0)).take (4 + sLen i) = strW i)) = true := by decide +kernel
theorem strW_in {i : Nat} (h : i < 66) : ∀ w ∈ strW i, w ∈ gvL := by
  intro w hw
  have h1 := of_decide_eq_true (List.all_eq_true.mp strW_ok i (List.mem_range.mpr h))
  rw [← h1] at hw
  exact List.mem_of_mem_drop (List.mem_of_mem_take hw)
theorem strLen_ok : (List.range 66).all (fun i => decide (sLen i < 2 ^ 31)) = true := by decide +kernel
theorem strR_ok : strT.all (fun q => lw_tbl.contains (.stringRef q.1 q.2.1 q.2.2)) = true := by decide +kernel
theorem exW_ok : exW.all (fun w => lw_tbl.contains w) = true := by decide +kernel
theorem nestW_ok : nestW.all (fun w => lw_tbl.contains w) = true := by decide +kernel
theorem nest_on : ∀ w ∈ nestW, w.onTables = true := by
  intro w hw
  simp only [nestW, List.mem_cons, List.not_mem_nil, or_false] at hw
  rcases hw with rfl | rfl | rfl | rfl | rfl | rfl | rfl | rfl <;> rfl
theorem nc4_ok : (nc4.all fun a => nc4.all fun b => decide (a = b) || gvL.contains (.not (.castable a b))) = true := by decide +kernel

