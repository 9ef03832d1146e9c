section
variable {g : Gx} {d b : Nat} {M : Mth} {pc : Nat} {lv lv' : List (Nat × Value)} {st : List Value} {s s' : St} {r : Rs}
theorem HW_blind {As : List Value} {s : St} : FrameBlind (va_Pc (As.map (cv g)) (fun U => HK g U U.heap ∧ HW g s U.heap)) := by
  intro a' U g' mk h
  obtain ⟨h1, h2, h3⟩ := h
  exact ⟨h1, HK_same (U := U.calling g' mk a') h2 rfl rfl, h3⟩
theorem pre_of {As : List Value} {u : State} {H : Heap} {locs : List Loc} (hK : HK g u u.heap) (hW : HW g s H) (hS : va_S (Ag g) u.heap H locs) : ∀ U : State, U.heap = H → u.WarmedH U.vm → va_Pc (As.map (cv g)) (fun U => HK g U U.heap ∧ HW g s U.heap) (As.map (cv g)).toArray U :=
  fun U hU hWm => ⟨rfl, HK_at hK hWm (locs := locs) (by rw [hU]; exact hS), by rw [hU]; exact hW⟩
theorem tl_map (v : Option Value) (st : List Value) : (v.toList ++ st).map (cv g) = (v.map (cv g)).toList ++ st.map (cv g) := by
  cases v <;> rfl
/-- words of a call by name: the entry, the method, its class -/
def CK (own : String) (idx : Nat) (M' : Mth) (n : Nat) : Prop :=
  Cond.methodLink own idx M'.1 ∈ lw_good ∧ Cond.initialized M'.1.cls ∈ lw_good ∧ Cond.code M'.1 M'.2.1 M'.2.2.1 M'.2.2.2 ∈ lw_good ∧ (M'.1.cls ≠ "java/lang/invoke/MethodHandle" ∧ M'.1.cls ≠ "java/lang/invoke/VarHandle") ∧ (parseMethodDescriptor M'.1.desc).map (fun d => d.parameters.length) = some n ∧ M'.2.2.1 ≤ 40
def CV (M' : Mth) (ci : Nat) : Prop := Cond.instanceMethod M'.1 ∈ lw_good ∧ Cond.selects M'.1.cls M'.1 M'.1 ∈ lw_good ∧ ∃ q : vw_C, vwCl[ci]? = some q ∧ q.1 = M'.1.cls
theorem callB_mk {M' : Mth} {own : String} {idx n d' b' : Nat} {R : Room} {u : State} {args : Array Value} (hts : ∀ w ∈ lw_good, w.before args u = true) (ck : CK own idx M' n) (hd : d' + 1 ≤ d) (hf : d ≤ R.frames) (hlo : 64 * d ≤ R.locals) : CallB R u args own idx M'.1 M'.2.1 M'.2.2.1 M'.2.2.2 (wsM M') (rmM d' b') b' (8 * b') n := by
  obtain ⟨k1, k2, k3, k4, k5, k6⟩ := ck
  refine ⟨rfl, rfl, ?_, ?_, ?_, List.mem_cons_self, hts _ k3, hts _ k2, k4, fun sig h => ?_, hts _ k1⟩
  · show d' + 1 ≤ R.frames
    omega
  · show 8 + (M'.2.2.1 + 11) + 64 * d' ≤ R.locals
    omega
  · intro w hw a' U hWm
    rcases List.mem_cons.mp hw with rfl | hw
    · exact word_at hWm (lw_good_ok k3) (hts _ k3)
    · exact word_at hWm (lw_good_ok hw) (hts _ hw)
  · rw [h] at k5
    exact (Option.some.inj k5).symm
def cats (st : List Value) : Nat := (st.map (fun v => v.category)).sum
theorem cats_cv (st : List Value) : ((st.map (cv g)).map fun v => v.category).sum = cats st := by
  unfold cats
  rw [List.map_map]
  congr 2
  funext v
  exact cv_cat g v
theorem rcv_of {u : State} {H : Heap} {q0 ci : Nat} {M' : Mth} (hK : HK g u u.heap) (hW : HW g s H) (hsh : shp q0 = (0, ci)) (cw : CV M' ci) : ∃ cellB : Cell, H[g.1 + q0]? = some cellB ∧ cellB.vm.isStatics = false ∧ u.vm.findClass M'.1.cls = some cellB.cls := by
  obtain ⟨-, -, q, hc, hq⟩ := cw
  have he := wsO_at g s (shp_lt hsh (by decide))
  rw [cel_o g s hsh] at he
  have h := va_recv hK.1 hW hc he
  rw [hq] at h
  exact h
theorem E_callV {M' : Mth} {As : List Value} {q0 d' ci idx n : Nat} {v : Option Value} {s1 : St} (q : Nat) (hq : pc + 3 = q) (hd : decode M.2.1 pc = .ok (.invokevirtual idx, 3)) (hsh : shp q0 = (0, ci)) (ck : CK M.1.cls idx M' n) (cw : CV M' ci) (hn : As.length = n) (hdd : d' + 1 ≤ d) (hst : cats st ≤ 8) (hc : Ent g d' 0 M' (.ref q0 :: As) s (.inl v) s1) {st0 : List Value} (h0 : st0 = As.reverse ++ .ref q0 :: st) (kk : E g d b M q lv (v.toList ++ st) s1 r s') : E g d b M pc lv st0 s r s' := by
  subst hq
  subst h0
  intro p l e R u m args below meth c H locs cells slots ls C hW hS hl h1 h2
  obtain ⟨hx, hb, hr, hml, hown, hts, hlk, hno, htr, hK, hf, hlo⟩ := id C
  have hlt := shp_lt hsh (by decide)
  have hl9 : loc g q0 = g.1 + q0 := loc_lo g (show q0 < 100000 by omega)
  intro T hT X
  have hM := hc l htr
  rcases vx_runV (As := As.map (cv g)) (rest := st.map (cv g)) (b := g.1 + q0) (C := M'.1.cls) (n := n) (g := F0 m pc ls ((As.reverse ++ .ref q0 :: st).map (cv g))) (locs := locs) (cells := cells) (slots := slots) (e := e) (below := below) (meth := meth) (H := H) ⟨hx, hb, hml, hown, hts⟩ hM ⟨callB_mk hts ck hdd hf hlo, hts _ cw.1, hts _ cw.2.1⟩ ⟨HW_blind, rcv_of hK hW hsh cw, by have h := pre_of (As := .ref q0 :: As) hK hW hS; rw [List.map_cons, show cv g (.ref q0) = .ref (loc g q0) from rfl, hl9] at h; simpa only [List.map_cons, show cv g (.ref q0) = .ref (loc g q0) from rfl, hl9] using h⟩ rfl (by rw [List.length_map]; exact hn) hl.1 (by show ((As.reverse ++ .ref q0 :: st).map (cv g)) = _; rw [List.map_append, List.map_cons, List.map_reverse, show cv g (.ref q0) = .ref (loc g q0) from rfl, hl9]) (by show 2 * 0 + _ ≤ 8; rw [cats_cv]; omega) hd ⟨by show cells + 0 ≤ R.cells; omega, by show slots + 8 * 0 ≤ R.slots; omega⟩ T hT X with ⟨v', st₀, t, T', L, h0', X', hL, e1, e2, ⟨v0, hv0, ho, hHW, hF⟩, stp⟩ | ⟨q', st₀, t, T', L, ex, ce, h0', X', hL, e1, e2, ⟨hbad, -⟩, -⟩
  · cases hv0
    cases ho
    obtain ⟨k1, k2, k3⟩ := vx_keep h0' e1 hS (fun q _ h => h) (fun q h => h) hL hF
    obtain ⟨t2, a1, b1⟩ := kk p l e R u m args below meth c T'.heap (locs ++ L) (cells + 0) (slots + 8 * 0) ls C (by rw [e1]; exact hHW) k3 hl (by omega) (by omega) T' rfl X'
    rw [tl_map] at a1
    exact ⟨t2, stp t2 a1, b1⟩
  · cases hbad
theorem E_callVX {M' : Mth} {As : List Value} {q0 d' ci idx n : Nat} {ex : String} {s1 : St} (hd : decode M.2.1 pc = .ok (.invokevirtual idx, 3)) (hsh : shp q0 = (0, ci)) (ck : CK M.1.cls idx M' n) (cw : CV M' ci) (hn : As.length = n) (hdd : d' + 1 ≤ d) (hst : cats st ≤ 8) (hc : Ent g d' 1 M' (.ref q0 :: As) s (.inr ex) s1) {st0 : List Value} (h0 : st0 = As.reverse ++ .ref q0 :: st) : E g d 1 M pc lv st0 s (.inr ex) s1 := by
  subst h0
  intro p l e R u m args below meth c H locs cells slots ls C hW hS hl h1 h2
  obtain ⟨hx, hb, hr, hml, hown, hts, hlk, hno, htr, hK, hf, hlo⟩ := id C
  have hlt := shp_lt hsh (by decide)
  have hl9 : loc g q0 = g.1 + q0 := loc_lo g (show q0 < 100000 by omega)
  intro T hT X
  have hM := hc l htr
  rcases vx_runV (As := As.map (cv g)) (rest := st.map (cv g)) (b := g.1 + q0) (C := M'.1.cls) (n := n) (g := F0 m pc ls ((As.reverse ++ .ref q0 :: st).map (cv g))) (locs := locs) (cells := cells) (slots := slots) (e := e) (below := below) (meth := meth) (H := H) ⟨hx, hb, hml, hown, hts⟩ hM ⟨callB_mk hts ck hdd hf hlo, hts _ cw.1, hts _ cw.2.1⟩ ⟨HW_blind, rcv_of hK hW hsh cw, by have h := pre_of (As := .ref q0 :: As) hK hW hS; rw [List.map_cons, show cv g (.ref q0) = .ref (loc g q0) from rfl, hl9] at h; simpa only [List.map_cons, show cv g (.ref q0) = .ref (loc g q0) from rfl, hl9] using h⟩ rfl (by rw [List.length_map]; exact hn) hl.1 (by show ((As.reverse ++ .ref q0 :: st).map (cv g)) = _; rw [List.map_append, List.map_cons, List.map_reverse, show cv g (.ref q0) = .ref (loc g q0) from rfl, hl9]) (by show 2 * 0 + _ ≤ 8; rw [cats_cv]; omega) hd ⟨by show cells + 1 ≤ R.cells; omega, by show slots + 8 * 1 ≤ R.slots; omega⟩ T hT X with ⟨v', st₀, t, T', L, h0', X', hL, e1, e2, ⟨v0, hv0, ho, hHW, hF⟩, stp⟩ | ⟨q', st₀, t, T', L, ex', ce, h0', X', hL, e1, e2, ⟨hex, hHW, hF⟩, hce, hcv, hcl, stp⟩
  · cases hv0
  · cases hex
    obtain ⟨k1, k2, k3⟩ := vx_keep h0' e1 hS (fun q _ h => h) (fun q h => h) hL hF
    obtain ⟨t2, a1, b1⟩ := vx_out (p := p) (e := e) (l := l) (R := R) (s := u) (m := m) (args := args) (below := below) (meth := meth) (c := c) (Qc := Qr g (.inr ex) s1) (XC := Xr g (.inr ex) s1) (free := Ag g) (mc := R.cells) (ms := R.slots) (pc := pc) (ls := ls) (rest := st.map (cv g)) (H := T'.heap) (locs := locs ++ L) (cells := cells + 1) (slots := slots + 8 * 1) (fun x hx9 => (hno x hx9).elim) hlk (by rw [e1]; exact hce) hcv hcl (fun t9 ht9 _ => ⟨rfl, by rw [ht9, e1]; exact hHW, by rw [show va_F (Ag g) u t9 = (u.heap.size ≤ t9.heap.size ∧ ∀ q : Nat, q < u.heap.size → ¬ Ag g q → t9.heap[q]? = u.heap[q]?) from rfl, ht9]; exact ⟨k3.1, k3.2.1⟩⟩) k3.2.2 (by omega) (by omega) T' rfl X'
    exact ⟨t2, stp.trans a1, b1⟩
theorem E_callS {M' : Mth} {As : List Value} {d' idx n : Nat} {v : Option Value} {s1 : St} (q : Nat) (hq : pc + 3 = q) (hd : decode M.2.1 pc = .ok (.invokestatic idx, 3)) (ck : CK M.1.cls idx M' n) (hss : Cond.static M'.1 ∈ lw_good) (hn : As.length = n) (hdd : d' + 1 ≤ d) (hst : cats st ≤ 8) (hc : Ent g d' 0 M' As s (.inl v) s1) {st0 : List Value} (h0 : st0 = As.reverse ++ st) (kk : E g d b M q lv (v.toList ++ st) s1 r s') : E g d b M pc lv st0 s r s' := by
  subst hq
  subst h0
  intro p l e R u m args below meth c H locs cells slots ls C hW hS hl h1 h2
  obtain ⟨hx, hb, hr, hml, hown, hts, hlk, hno, htr, hK, hf, hlo⟩ := id C
  intro T hT X
  have hM := hc l htr
  rcases vx_runS (As := As.map (cv g)) (rest := st.map (cv g)) (n := n) (g := F0 m pc ls ((As.reverse ++ st).map (cv g))) (locs := locs) (cells := cells) (slots := slots) (e := e) (below := below) (meth := meth) (H := H) ⟨hx, hb, hml, hown, hts⟩ hM ⟨callB_mk hts ck hdd hf hlo, hts _ hss⟩ ⟨HW_blind, pre_of hK hW hS⟩ rfl (by rw [List.length_map]; exact hn) hl.1 (by show ((As.reverse ++ st).map (cv g)) = _; rw [List.map_append, List.map_reverse]) (by show 2 * 0 + _ ≤ 8; rw [cats_cv]; omega) hd ⟨by show cells + 0 ≤ R.cells; omega, by show slots + 8 * 0 ≤ R.slots; omega⟩ T hT X with ⟨v', st₀, t, T', L, h0', X', hL, e1, e2, ⟨v0, hv0, ho, hHW, hF⟩, stp⟩ | ⟨q', st₀, t, T', L, ex, ce, h0', X', hL, e1, e2, ⟨hbad, -⟩, -⟩
  · cases hv0
    cases ho
    obtain ⟨k1, k2, k3⟩ := vx_keep h0' e1 hS (fun q _ h => h) (fun q h => h) hL hF
    obtain ⟨t2, a1, b1⟩ := kk p l e R u m args below meth c T'.heap (locs ++ L) (cells + 0) (slots + 8 * 0) ls C (by rw [e1]; exact hHW) k3 hl (by omega) (by omega) T' rfl X'
    rw [tl_map] at a1
    exact ⟨t2, stp t2 a1, b1⟩
  · cases hbad
theorem E_callSX {M' : Mth} {As : List Value} {d' idx n : Nat} {ex : String} {s1 : St} (hd : decode M.2.1 pc = .ok (.invokestatic idx, 3)) (ck : CK M.1.cls idx M' n) (hss : Cond.static M'.1 ∈ lw_good) (hn : As.length = n) (hdd : d' + 1 ≤ d) (hst : cats st ≤ 8) (hc : Ent g d' 1 M' As s (.inr ex) s1) {st0 : List Value} (h0 : st0 = As.reverse ++ st) : E g d 1 M pc lv st0 s (.inr ex) s1 := by
  subst h0
  intro p l e R u m args below meth c H locs cells slots ls C hW hS hl h1 h2
  obtain ⟨hx, hb, hr, hml, hown, hts, hlk, hno, htr, hK, hf, hlo⟩ := id C
  intro T hT X
  have hM := hc l htr
  rcases vx_runS (As := As.map (cv g)) (rest := st.map (cv g)) (n := n) (g := F0 m pc ls ((As.reverse ++ st).map (cv g))) (locs := locs) (cells := cells) (slots := slots) (e := e) (below := below) (meth := meth) (H := H) ⟨hx, hb, hml, hown, hts⟩ hM ⟨callB_mk hts ck hdd hf hlo, hts _ hss⟩ ⟨HW_blind, pre_of hK hW hS⟩ rfl (by rw [List.length_map]; exact hn) hl.1 (by show ((As.reverse ++ st).map (cv g)) = _; rw [List.map_append, List.map_reverse]) (by show 2 * 0 + _ ≤ 8; rw [cats_cv]; omega) hd ⟨by show cells + 1 ≤ R.cells; omega, by show slots + 8 * 1 ≤ R.slots; omega⟩ T hT X with ⟨v', st₀, t, T', L, h0', X', hL, e1, e2, ⟨v0, hv0, ho, hHW, hF⟩, stp⟩ | ⟨q', st₀, t, T', L, ex', ce, h0', X', hL, e1, e2, ⟨hex, hHW, hF⟩, hce, hcv, hcl, stp⟩
  · cases hv0
  · cases hex
    obtain ⟨k1, k2, k3⟩ := vx_keep h0' e1 hS (fun q _ h => h) (fun q h => h) hL hF
    obtain ⟨t2, a1, b1⟩ := vx_out (p := p) (e := e) (l := l) (R := R) (s := u) (m := m) (args := args) (below := below) (meth := meth) (c := c) (Qc := Qr g (.inr ex) s1) (XC := Xr g (.inr ex) s1) (free := Ag g) (mc := R.cells) (ms := R.slots) (pc := pc) (ls := ls) (rest := st.map (cv g)) (H := T'.heap) (locs := locs ++ L) (cells := cells + 1) (slots := slots + 8 * 1) (fun x hx9 => (hno x hx9).elim) hlk (by rw [e1]; exact hce) hcv hcl (fun t9 ht9 _ => ⟨rfl, by rw [ht9, e1]; exact hHW, by rw [show va_F (Ag g) u t9 = (u.heap.size ≤ t9.heap.size ∧ ∀ q : Nat, q < u.heap.size → ¬ Ag g q → t9.heap[q]? = u.heap[q]?) from rfl, ht9]; exact ⟨k3.1, k3.2.1⟩⟩) k3.2.2 (by omega) (by omega) T' rfl X'
    exact ⟨t2, stp.trans a1, b1⟩
-- ===== ends
theorem end_q {u : State} {H : Heap} {locs : List Loc} {args : Array Value} {v : Option Value} (hW : HW g s H) (hS : va_S (Ag g) u.heap H locs) : ∀ t : State, t.heap = H → u.WarmedH t.vm → Qr g (.inl v) s args u (.returned (v.map (cv g))) t := by
  intro t ht _
  refine ⟨v, rfl, rfl, by rw [ht]; exact hW, ?_⟩
  rw [show va_F (Ag g) u t = (u.heap.size ≤ t.heap.size ∧ ∀ q : Nat, q < u.heap.size → ¬ Ag g q → t.heap[q]? = u.heap[q]?) from rfl, ht]
  exact ⟨hS.1, hS.2.1⟩
theorem E_iret {x : Int32} (hr : M.2.2.2 = some .int) (hd : decode M.2.1 pc = .ok (.ireturn, 1)) : E g d b M pc lv [.int x] s (.inl (some (.int x))) s := by
  intro p l e R u m args below meth c H locs cells slots ls C hW hS hl h1 h2
  have hlk : meth.locks = false := C.2.2.2.2.2.2.1
  refine vx_ret (W.widen (k := R.cells) (n := R.slots) (by omega) (by omega) ?_)
  exact W.iret C.1 C.2.1 (C.2.2.1.trans hr) (end_q hW hS) hS.2.2 hd
theorem E_lret {x : Int64} (hr : M.2.2.2 = some .long) (hd : decode M.2.1 pc = .ok (.lreturn, 1)) : E g d b M pc lv [.long x] s (.inl (some (.long x))) s := by
  intro p l e R u m args below meth c H locs cells slots ls C hW hS hl h1 h2
  have hlk : meth.locks = false := C.2.2.2.2.2.2.1
  refine vx_ret (W.widen (k := R.cells) (n := R.slots) (by omega) (by omega) ?_)
  exact W.lret C.1 C.2.1 (C.2.2.1.trans hr) (end_q hW hS) hS.2.2 hd
theorem E_vret (hr : M.2.2.2 = none) (hd : decode M.2.1 pc = .ok (.return_, 1)) : E g d b M pc lv [] s (.inl none) s := by
  intro p l e R u m args below meth c H locs cells slots ls C hW hS hl h1 h2
  have hlk : meth.locks = false := C.2.2.2.2.2.2.1
  refine vx_ret (W.widen (k := R.cells) (n := R.slots) (by omega) (by omega) ?_)
  exact W.vret C.1 C.2.1 (C.2.2.1.trans hr) (end_q hW hS) hS.2.2 hd
theorem E_zret {x : Bool} (hr : M.2.2.2 = some .boolean) (hd : decode M.2.1 pc = .ok (.ireturn, 1)) : E g d b M pc lv [.int (bI x)] s (.inl (some (.int (bI x)))) s := by
  intro p l e R u m args below meth c H locs cells slots ls C hW hS hl h1 h2
  have hlk : meth.locks = false := C.2.2.2.2.2.2.1
  refine vx_ret (W.widen (k := R.cells) (n := R.slots) (by omega) (by omega) ?_)
  exact W.zret C.1 C.2.1 (C.2.2.1.trans hr) (by cases x <;> rfl) (end_q hW hS) hS.2.2 hd
theorem E_aret {x : Nat} {cn : String} (hr : M.2.2.2 = some (.object cn)) (hd : decode M.2.1 pc = .ok (.areturn, 1)) : E g d b M pc lv [.ref x] s (.inl (some (.ref x))) s := by
  intro p l e R u m args below meth c H locs cells slots ls C hW hS hl h1 h2
  have hlk : meth.locks = false := C.2.2.2.2.2.2.1
  refine vx_ret (W.widen (k := R.cells) (n := R.slots) (by omega) (by omega) ?_)
  exact W.aret C.1 C.2.1 (C.2.2.1.trans hr) (Or.inl ⟨cn, rfl⟩) (Or.inr ⟨_, rfl⟩) (end_q (v := some (.ref x)) hW hS) hS.2.2 hd
-- ===== throws
/-- words of 'throw new X("..")' -/
def TK (own : String) (ik ic : Nat) (cls : String) (names : List String) : Prop :=
  Bundle.fit cls = true ∧ (∀ n ∈ names, Bundle.fit n = true) ∧ Cond.classLink own ik cls ∈ lw_good ∧ Cond.initialized cls ∈ lw_good ∧ (∀ w ∈ vx_atS own ic cls names, w ∈ lw_good ∨ w ∈ exW) ∧ names.length = 2
theorem E_throw {cls tx : String} {names : List String} {ik is ic i : Nat} (tk : TK M.1.cls ik ic cls names) (hstr : strT[i]? = some (M.1.cls, is, tx)) (d0 : decode M.2.1 pc = .ok (.new ik, 3)) (d3 : decode M.2.1 (pc + 3) = .ok (.dup, 1)) (d4 : decode M.2.1 (pc + 4) = .ok (.ldc is, 2)) (d6 : decode M.2.1 (pc + 6) = .ok (.invokespecial ic, 3)) (d9 : decode M.2.1 (pc + 9) = .ok (.athrow, 1)) (h6 : 6 ≤ d) : E g d 1 M pc lv [] s (.inr cls) s := by
  intro p l e R u m args below meth c H locs cells slots ls C hW hS hl h1 h2
  obtain ⟨hx, hb, hr, hml, hown, hts, hlk, hno, htr, hK, hf, hlo⟩ := id C
  obtain ⟨t1, t2, t3, t4, t5, t6⟩ := tk
  refine vx_throwS hx hb htr hown t1 t2 (hts _ t3) (hts _ t4) (hK.2.2.1 i _ _ _ hstr) (fun w hw => (t5 w hw).elim (hts w) (fun e9 => va_Nw.use (exW_on w e9) (hK.2.2.2.2.2.2.1 w e9))) ?_ hK.2.2.2.1 hK.2.2.2.2.1 hS (hl.1.trans hml.symm) d0 d3 d4 d6 d9 (fun x hx9 => (hno x hx9).elim) (by rw [t6]; omega) (by rw [t6]; show 0 + (13 * (2 + 1) + 43) ≤ R.locals; omega) (by omega) (by omega) hlk ?_ hS.2.2 (by omega) (by omega)
  · intro w hw
    have hw' : w ∈ lw_good ∨ w ∈ exW := by
      rcases List.mem_cons.mp hw with rfl | hw
      · exact Or.inl t3
      · rcases List.mem_cons.mp hw with rfl | hw
        · exact Or.inl t4
        · exact t5 w hw
    show (w.onTables || goodWord w) = true
    rcases hw' with hw' | hw'
    · rw [(List.mem_filter.mp hw').2, Bool.or_true]
    · rw [exW_on w hw', Bool.true_or]
  · intro t _ hz hk
    refine ⟨rfl, hW.kept (fun k q hq => hk q.1 (hW k q hq).lt), Nat.le_trans hS.1 hz, fun q h3 h4 => ?_⟩
    rw [hk q (Nat.lt_of_lt_of_le h3 hS.1)]
    exact hS.2.1 q h3 h4
theorem E_throwW {cls tx : String} {names : List String} {ik is ic i : Nat} (tk : TK M.1.cls ik ic cls names) (hstr : strT[i]? = some (M.1.cls, is, tx)) (d0 : decode M.2.1 pc = .ok (.new ik, 3)) (d3 : decode M.2.1 (pc + 3) = .ok (.dup, 1)) (d4 : decode M.2.1 (pc + 4) = .ok (.ldc_w is, 3)) (d7 : decode M.2.1 (pc + 7) = .ok (.invokespecial ic, 3)) (d10 : decode M.2.1 (pc + 10) = .ok (.athrow, 1)) (h6 : 6 ≤ d) : E g d 1 M pc lv [] s (.inr cls) s := by
  intro p l e R u m args below meth c H locs cells slots ls C hW hS hl h1 h2
  obtain ⟨hx, hb, hr, hml, hown, hts, hlk, hno, htr, hK, hf, hlo⟩ := id C
  obtain ⟨t1, t2, t3, t4, t5, t6⟩ := tk
  refine vx_throwSW hx hb htr hown t1 t2 (hts _ t3) (hts _ t4) (hK.2.2.1 i _ _ _ hstr) (fun w hw => (t5 w hw).elim (hts w) (fun e9 => va_Nw.use (exW_on w e9) (hK.2.2.2.2.2.2.1 w e9))) ?_ hK.2.2.2.1 hK.2.2.2.2.1 hS (hl.1.trans hml.symm) d0 d3 d4 d7 d10 (fun x hx9 => (hno x hx9).elim) (by rw [t6]; omega) (by rw [t6]; show 0 + (13 * (2 + 1) + 43) ≤ R.locals; omega) (by omega) (by omega) hlk ?_ hS.2.2 (by omega) (by omega)
  · intro w hw
    have hw' : w ∈ lw_good ∨ w ∈ exW := by
      rcases List.mem_cons.mp hw with rfl | hw
      · exact Or.inl t3
      · rcases List.mem_cons.mp hw with rfl | hw
        · exact Or.inl t4
        · exact t5 w hw
    show (w.onTables || goodWord w) = true
    rcases hw' with hw' | hw'
    · rw [(List.mem_filter.mp hw').2, Bool.or_true]
    · rw [exW_on w hw', Bool.true_or]
  · intro t _ hz hk
    refine ⟨rfl, hW.kept (fun k q hq => hk q.1 (hW k q hq).lt), Nat.le_trans hS.1 hz, fun q h3 h4 => ?_⟩
    rw [hk q (Nat.lt_of_lt_of_le h3 hS.1)]
    exact hS.2.1 q h3 h4
-- ===== Math and System
def JM (own : String) (idx : Nat) (y : MethodName) (cc : ByteArray) (n : Nat) (rt : FieldType) : Prop :=
  Cond.methodLink own idx y ∈ lw_good ∧ Cond.static y ∈ lw_good ∧ Cond.initialized "java/lang/Math" ∈ lw_good ∧ Cond.code y cc n (some rt) ∈ lw_good
theorem E_max {x y : Int32} {idx : Nat} (q : Nat) (hq : pc + 3 = q) (hd : decode M.2.1 pc = .ok (.invokestatic idx, 3)) (jm : JM M.1.cls idx Lib.Math.max.name Lib.Math.max.code 2 .int) (h2' : 2 ≤ d) (hst : cats st ≤ 8) (kk : E g d b M q lv (.int (if x < y then y else x) :: st) s r s') : E g d b M pc lv (.int y :: .int x :: st) s r s' := by
  subst hq
  intro p l e R u m args below meth c H locs cells slots ls C hW hS hl h1 h2
  obtain ⟨hx, hb, hr, hml, hown, hts, hlk, hno, htr, hK, hf, hlo⟩ := id C
  exact va_mmax hx hb (hml.trans hl.1.symm) hown (hts _ jm.1) (hts _ jm.2.1) (hts _ jm.2.2.1) (hts _ jm.2.2.2) (by omega) (by rw [cats_cv]; omega) (by omega) (by omega) hd (kk p l e R u m args below meth c H locs cells slots ls C hW hS hl h1 h2)
theorem E_min {x y : Int32} {idx : Nat} (q : Nat) (hq : pc + 3 = q) (hd : decode M.2.1 pc = .ok (.invokestatic idx, 3)) (jm : JM M.1.cls idx Lib.Math.min.name Lib.Math.min.code 2 .int) (h2' : 2 ≤ d) (hst : cats st ≤ 8) (kk : E g d b M q lv (.int (if y < x then y else x) :: st) s r s') : E g d b M pc lv (.int y :: .int x :: st) s r s' := by
  subst hq
  intro p l e R u m args below meth c H locs cells slots ls C hW hS hl h1 h2
  obtain ⟨hx, hb, hr, hml, hown, hts, hlk, hno, htr, hK, hf, hlo⟩ := id C
  exact va_mmin hx hb (hml.trans hl.1.symm) hown (hts _ jm.1) (hts _ jm.2.1) (hts _ jm.2.2.1) (hts _ jm.2.2.2) (by omega) (by rw [cats_cv]; omega) (by omega) (by omega) hd (kk p l e R u m args below meth c H locs cells slots ls C hW hS hl h1 h2)
theorem E_abs {x : Int32} {idx : Nat} (q : Nat) (hq : pc + 3 = q) (hd : decode M.2.1 pc = .ok (.invokestatic idx, 3)) (jm : JM M.1.cls idx Lib.Math.abs.name Lib.Math.abs.code 1 .int) (h2' : 2 ≤ d) (hst : cats st ≤ 8) (kk : E g d b M q lv (.int (if 0 ≤ x then x else 0 - x) :: st) s r s') : E g d b M pc lv (.int x :: st) s r s' := by
  subst hq
  intro p l e R u m args below meth c H locs cells slots ls C hW hS hl h1 h2
  obtain ⟨hx, hb, hr, hml, hown, hts, hlk, hno, htr, hK, hf, hlo⟩ := id C
  exact va_mabs hx hb (hml.trans hl.1.symm) hown (hts _ jm.1) (hts _ jm.2.1) (hts _ jm.2.2.1) (hts _ jm.2.2.2) (by omega) (by rw [cats_cv]; omega) (by omega) (by omega) hd (kk p l e R u m args below meth c H locs cells slots ls C hW hS hl h1 h2)
theorem E_maxl {x y : Int64} {idx : Nat} (q : Nat) (hq : pc + 3 = q) (hd : decode M.2.1 pc = .ok (.invokestatic idx, 3)) (jm : JM M.1.cls idx Lib.MathLoose.max_long.x Lib.MathLoose.max_long.code 4 .long) (h2' : 2 ≤ d) (hst : cats st ≤ 8) (kk : E g d b M q lv (.long (if y < x then x else y) :: st) s r s') : E g d b M pc lv (.long y :: .long x :: st) s r s' := by
  subst hq
  intro p l e R u m args below meth c H locs cells slots ls C hW hS hl h1 h2
  obtain ⟨hx, hb, hr, hml, hown, hts, hlk, hno, htr, hK, hf, hlo⟩ := id C
  exact va_mmax_long hx hb (hml.trans hl.1.symm) hown (hts _ jm.1) (hts _ jm.2.1) (hts _ jm.2.2.1) (hts _ jm.2.2.2) (by omega) (by rw [cats_cv]; omega) (by omega) (by omega) hd (kk p l e R u m args below meth c H locs cells slots ls C hW hS hl h1 h2)
def AC (own : String) (idx : Nat) : Prop := Cond.methodLink own idx arraycopyName ∈ lw_good ∧ Cond.native arraycopyName ∈ lw_good ∧ Cond.static arraycopyName ∈ lw_good ∧ Cond.initialized "java/lang/System" ∈ lw_good
def cpI (I : Nat → Nat → Int32) (q0 q1 n : Nat) : Nat → Nat → Int32 := fun j => if j = q1 then va_cpy (I q0) (I q1) 0 0 n else I j
def cpL (I : Nat → Nat → Int64) (q0 q1 n : Nat) : Nat → Nat → Int64 := fun j => if j = q1 then va_cpy (I q0) (I q1) 0 0 n else I j
theorem E_copyI {q0 q1 n0 n1 idx : Nat} {n : Int32} (q : Nat) (hq : pc + 3 = q) (hd : decode M.2.1 pc = .ok (.invokestatic idx, 3)) (ac : AC M.1.cls idx) (hs0 : shp q0 = (1, n0)) (hs1 : shp q1 = (1, n1)) (h3 : ¬ n < 0) (h4 : n.toNatClampNeg ≤ n0) (h5 : n.toNatClampNeg ≤ n1) (h2' : 2 ≤ d) (hst : cats st ≤ 8) (kk : E g d b M q lv st (cpI s.1 q0 q1 n.toNatClampNeg, s.2) r s') : E g d b M pc lv (.int n :: .int 0 :: .ref q1 :: .int 0 :: .ref q0 :: st) s r s' := by
  subst hq
  intro p l e R u m args below meth c H locs cells slots ls C hW hS hl h1 h2
  obtain ⟨hx, hb, hr, hml, hown, hts, hlk, hno, htr, hK, hf, hlo⟩ := id C
  have hl0 := shp_lt hs0 (by decide)
  have hl1 := shp_lt hs1 (by decide)
  have he0 := wsO_at g s hl0
  have he1 := wsO_at g s hl1
  rw [cel_i g s hs0] at he0
  rw [cel_i g s hs1] at he1
  show W p l e R u m args below meth c H locs cells slots _ (F0 m pc ls (.int n :: .int 0 :: .ref (loc g q1) :: .int 0 :: .ref (loc g q0) :: st.map (cv g)))
  rw [loc_lo g (show q0 < 100000 by omega), loc_lo g (show q1 < 100000 by omega)]
  refine va_copyi (ty := .int) hx hb (hml.trans hl.1.symm) hown (hts _ ac.1) (hts _ ac.2.1) (hts _ ac.2.2.1) (hts _ ac.2.2.2) hK.1 hW (wsO_D g s) hS q0 q1 0 0 he0 he1 rfl rfl rfl (by decide) (by decide) h3 (by simpa using h4) (by simpa using h5) (fun i _ => rfl) (by omega) ?_ hd ?_
  · rw [cats_cv]
    have e9 : nativeFrameWords "java/lang/System" "arraycopy" 5 + 11 ≤ 100 := by decide +kernel
    omega
  · intro H1 locs1 hP1 hD1 hS1
    refine kk p l e R u m args below meth c H1 locs1 cells slots ls C ?_ hS1 hl h1 h2
    unfold HW
    rw [← wsO_set g (s := s) (t := (cpI s.1 q0 q1 n.toNatClampNeg, s.2)) (q := q1) (by rw [cel_i g _ hs1]) (fun j h => ⟨(if_neg h).symm, rfl⟩)]
    have e8 : cpI s.1 q0 q1 n.toNatClampNeg q1 = va_cpy (s.1 q0) (s.1 q1) 0 0 n.toNatClampNeg := if_pos rfl
    simp only [e8]
    exact hP1
theorem E_copyL {q0 q1 n0 n1 idx : Nat} {n : Int32} (q : Nat) (hq : pc + 3 = q) (hd : decode M.2.1 pc = .ok (.invokestatic idx, 3)) (ac : AC M.1.cls idx) (hs0 : shp q0 = (3, n0)) (hs1 : shp q1 = (3, n1)) (h3 : ¬ n < 0) (h4 : n.toNatClampNeg ≤ n0) (h5 : n.toNatClampNeg ≤ n1) (h2' : 2 ≤ d) (hst : cats st ≤ 8) (kk : E g d b M q lv st (s.1, cpL s.2 q0 q1 n.toNatClampNeg) r s') : E g d b M pc lv (.int n :: .int 0 :: .ref q1 :: .int 0 :: .ref q0 :: st) s r s' := by
  subst hq
  intro p l e R u m args below meth c H locs cells slots ls C hW hS hl h1 h2
  obtain ⟨hx, hb, hr, hml, hown, hts, hlk, hno, htr, hK, hf, hlo⟩ := id C
  have hl0 := shp_lt hs0 (by decide)
  have hl1 := shp_lt hs1 (by decide)
  have he0 := wsO_at g s hl0
  have he1 := wsO_at g s hl1
  rw [cel_l g s hs0] at he0
  rw [cel_l g s hs1] at he1
  show W p l e R u m args below meth c H locs cells slots _ (F0 m pc ls (.int n :: .int 0 :: .ref (loc g q1) :: .int 0 :: .ref (loc g q0) :: st.map (cv g)))
  rw [loc_lo g (show q0 < 100000 by omega), loc_lo g (show q1 < 100000 by omega)]
  refine va_copyl (ty := .long) hx hb (hml.trans hl.1.symm) hown (hts _ ac.1) (hts _ ac.2.1) (hts _ ac.2.2.1) (hts _ ac.2.2.2) hK.1 hW (wsO_D g s) hS q0 q1 2 2 he0 he1 rfl rfl rfl (by decide) (by decide) h3 (by simpa using h4) (by simpa using h5) (fun i _ => rfl) (by omega) ?_ hd ?_
  · rw [cats_cv]
    have e9 : nativeFrameWords "java/lang/System" "arraycopy" 5 + 11 ≤ 100 := by decide +kernel
    omega
  · intro H1 locs1 hP1 hD1 hS1
    refine kk p l e R u m args below meth c H1 locs1 cells slots ls C ?_ hS1 hl h1 h2
    unfold HW
    rw [← wsO_set g (s := s) (t := (s.1, cpL s.2 q0 q1 n.toNatClampNeg)) (q := q1) (by rw [cel_l g _ hs1]) (fun j h => ⟨rfl, (if_neg h).symm⟩)]
    have e8 : cpL s.2 q0 q1 n.toNatClampNeg q1 = va_cpy (s.2 q0) (s.2 q1) 0 0 n.toNatClampNeg := if_pos rfl
    simp only [e8]
    exact hP1
end
