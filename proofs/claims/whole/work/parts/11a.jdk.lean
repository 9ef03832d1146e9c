abbrev nsN : String := "java/util/NoSuchElementException"
abbrev nsR : String := "java/lang/RuntimeException"
abbrev nsE : String := "java/lang/Exception"
/-- the words of the constructor chain from this class, whose entry is 13 -/
def nsAt (own : String) (ic : Nat) : List Cond :=
  Bundle.throwableAtoms ++ Bundle.throwableSAtoms ++ Bundle.passSAtoms nsN nsR 13 prog_32_method_4_code ++ Bundle.chainSAtoms nsR [nsE] ++
  [.methodLink own ic (Bundle.initS nsN), .instantiable nsN 6, .castable nsN nsN, .selects nsN Bundle.tFill0 Bundle.tFill0, .selects nsN Bundle.tFill Bundle.tFill,
   .lays nsN Bundle.tN "cause" "Ljava/lang/Throwable;", .lays nsN Bundle.tN "stackTrace" Bundle.steD, .lays nsN Bundle.tN "suppressedExceptions" Bundle.listD, .lays nsN Bundle.tN "detailMessage" "Ljava/lang/String;",
   .isRef (.static Bundle.tN "UNASSIGNED_STACK" Bundle.steD), .isRef (.static Bundle.tN "SUPPRESSED_SENTINEL" Bundle.listD),
   .fieldLink Bundle.tN 198 Bundle.tN "backtrace" "Ljava/lang/Object;", .lays Bundle.tN Bundle.tN "backtrace" "Ljava/lang/Object;", .lays nsN Bundle.tN "backtrace" "Ljava/lang/Object;"]
theorem ns0 : decode prog_32_method_4_code 0 = .ok (.aload_n 0, 1) := by decide +kernel
theorem ns1 : decode prog_32_method_4_code 1 = .ok (.aload_n 1, 1) := by decide +kernel
theorem ns2 : decode prog_32_method_4_code 2 = .ok (.invokespecial 13, 3) := by decide +kernel
theorem ns5 : decode prog_32_method_4_code 5 = .ok (.return_, 1) := by decide +kernel
section
variable {p : Program} {l : Launch} {e : Env} {R : Room} {s : State} {m₀ : MethodId} {args : Array Value} {below : List Frame} {meth : Method} {c : Code} {W9 : State} {locs : List Loc} {cells slots : Nat}
set_option maxHeartbeats 1000000 in
theorem nsCtor (X : Stand p l e R s m₀ args below meth c W9 locs cells slots) (hexec : p.tables.exec = Jvm.exec) (htr : e.platform.stackTraces = false) {own : String} {ic : Nat}
    (hown : s.vm.findClass own = some m₀.cls)
    (h : ∀ a ∈ nsAt own ic, a.before args s = true)
    (hlocs : ∀ x ∈ locs, ∀ cell, s.heap[x.base]? = some cell → cell.vm.isStatics = false)
    {a : Addr} {cX : ClassId} {kX : Class} (hfoundX : s.vm.findClass nsN = some cX) (hkX : s.vm.classes[cX]? = some kX) (hcell : W9.heap[a]? = some (freshCell cX kX)) (hnew : s.heap.size ≤ a)
    {msg : Value} (hmsg : msg.isRef = true)
    {g : JFrame} (hg : g.method = m₀) (hsize : g.locals.size = c.maxLocals) (hlocked : g.locked = none) (hentered : g.entered = []) {rest : List Value} (hstack : g.stack = msg :: .ref a :: .ref a :: rest)
    (hd6 : decode c.code g.pc = .ok (.invokespecial ic, 3)) (hd9 : decode c.code (g.pc + 3) = .ok (.athrow, 1)) (hout : ∀ x ∈ c.exceptionTable.toList, covers x (g.pc + 3) = false)
    (hRframes : 2 + 3 < R.frames) (hRlocals : 2 * g.monitorRoom + ((Value.ref a :: rest).map fun v => v.category).sum + (13 * (2 + 1) + 42) ≤ R.locals) (hlocks : meth.locks = false) :
    ∃ U : State, Steps p.tables e below (W9.setTop g) U ∧ U.status = .running ∧ Ended U below (.threw a) ∧ s.WarmedH U.vm ∧ s.sameButNew ({ U with vm := s.vm } : State) locs cells slots ∧
      ∃ ce, U.heap[a]? = some ce ∧ s.vm.findClass nsN = some ce.cls ∧ ce.vm = .none := by
  have howns : e.platform.frameOwnsMonitors = true := by rw [X.admits.platform]
  have hfin : e.platform.finalization = false := by rw [X.admits.platform]
  have hpl : e.platform.magicAccessors = ({} : Platform).magicAccessors := by rw [X.admits.platform]
  have a' : ∀ x, x ∈ nsAt own ic → x.holds args s none s [] = true := fun x hx => h x hx
  obtain ⟨T, Z0, L, -, Y⟩ := ThrowableC.of_atoms (args := args) howns hfin hpl (fun x hx => h x (by simp [nsAt, hx]))
  obtain ⟨Z, M, LZ, LM, hnZ⟩ := Init0T.ofS_atoms (args := args) hpl L Y (fun x hx => h x (by simp [nsAt, hx]))
  obtain ⟨P1, L1, hP1m, hs1⟩ := PassC.ofS_atoms (args := args) (s := s) hpl (X := nsN) (Y := nsR) (by decide +kernel) ⟨by decide, by decide⟩ ns0 ns1 ns2 ns5 (fun x hx => h x (by simp [nsAt, hx]))
  obtain ⟨P2, Ps, hlen, L2, hL, hP2m, hlink2, hlink⟩ := Bundle.chainS (args := args) hpl hnZ [nsE] nsR (by decide +kernel) (by decide +kernel) (fun x hx => h x (by simp [nsAt, hx]))
  have hlink1 : P1.sup = P2.m := Option.some.inj (hs1.symm.trans hP2m)
  have hfound : s.vm.findClass nsN = some P1.m.cls := findClass_of_methodNamed hP1m
  cases Option.some.inj (hfoundX.symm.trans hfound)
  obtain ⟨c1, kX', hc1, hk, hord, -, -, hn6⟩ := Cond.instantiable_spec (a' (.instantiable nsN 6) (by simp [nsAt]))
  cases Option.some.inj (hc1.symm.trans hfound)
  cases Option.some.inj (hkX.symm.trans hk)
  have hsel0 : selectMethod e.platform s.vm P1.m.cls T.fill0 = .method T.fill0 := by
    obtain ⟨c2, r2, m2, q1, q2, q3, q4, -⟩ := Cond.selects_spec (a' (.selects nsN Bundle.tFill0 Bundle.tFill0) (by simp [nsAt]))
    cases Option.some.inj (q1.symm.trans hfound)
    cases Option.some.inj (q2.symm.trans (State.methodFound?_of_named Y.fill0 (by decide)))
    cases Option.some.inj (q3.symm.trans Y.fill0)
    rw [Launch.admits_selectMethod X.admits]; exact q4
  have hselF : selectMethod e.platform s.vm P1.m.cls T.fill = .method T.fill := by
    obtain ⟨c2, r2, m2, q1, q2, q3, q4, -⟩ := Cond.selects_spec (a' (.selects nsN Bundle.tFill Bundle.tFill) (by simp [nsAt]))
    cases Option.some.inj (q1.symm.trans hfound)
    cases Option.some.inj (q2.symm.trans (State.methodFound?_of_named Y.fill (by decide)))
    cases Option.some.inj (q3.symm.trans Y.fill)
    rw [Launch.admits_selectMethod X.admits]; exact q4
  obtain ⟨cellS0, hcS0, hiss⟩ := Y.statics
  obtain ⟨u0, hu0⟩ := Cond.staticRefV Y.unassigned L.unassignedStatic L.statics hcS0 hiss (a' (.isRef (.static Bundle.tN "UNASSIGNED_STACK" Bundle.steD)) (by simp [nsAt]))
  obtain ⟨sen, hsen⟩ := Cond.staticRefV Y.sentinel L.sentinelStatic L.statics hcS0 hiss (a' (.isRef (.static Bundle.tN "SUPPRESSED_SENTINEL" Bundle.listD)) (by simp [nsAt]))
  obtain ⟨ci198, i198, fB, hk198, hg198, ha198, hsB, -, hnB, htB, hffB⟩ := Cond.ownField (t := .object "java/lang/Object") Y.found L.cls (by decide +kernel) (a' (.fieldLink Bundle.tN 198 Bundle.tN "backtrace" "Ljava/lang/Object;") (by simp [nsAt])) (a' (.lays Bundle.tN Bundle.tN "backtrace" "Ljava/lang/Object;") (by simp [nsAt])) e.platform hpl
  obtain ⟨cellS, hcS', heS, -, hkeep⟩ := X.same.2.2.2.2.2 T.aS cellS0 hcS0
  have hcellS : W9.heap[T.aS]? = some cellS := hcS'
  have hout' : ∀ i, (⟨T.aS, i⟩ : Loc) ∉ locs := fun i hmem => by
    have := hlocs _ hmem cellS0 hcS0
    rw [hiss] at this; cases this
  have hknownS : cellS.vm ≠ .unknown := by
    rw [heS]; intro hu
    rw [show cellS0.vm = .unknown from hu] at hiss
    cases hiss
  have hneS : T.aS ≠ a := Nat.ne_of_lt (Nat.lt_of_lt_of_le (Array.getElem?_eq_some_iff.mp hcS0).1 hnew)
  obtain ⟨iM, hffM⟩ := Y.msg
  obtain ⟨tyC, dC, hdC, hdnC⟩ := Cond.laysAt hfound hk Y.cause (a' (.lays nsN Bundle.tN "cause" "Ljava/lang/Throwable;") (by simp [nsAt]))
  obtain ⟨tyS, dS, hdS, hdnS⟩ := Cond.laysAt hfound hk Y.stack (a' (.lays nsN Bundle.tN "stackTrace" Bundle.steD) (by simp [nsAt]))
  obtain ⟨tyP, dP, hdP, hdnP⟩ := Cond.laysAt hfound hk Y.supp (a' (.lays nsN Bundle.tN "suppressedExceptions" Bundle.listD) (by simp [nsAt]))
  obtain ⟨tyM, dM, hdM, hdnM⟩ := Cond.laysAt hfound hk hffM (a' (.lays nsN Bundle.tN "detailMessage" "Ljava/lang/String;") (by simp [nsAt]))
  obtain ⟨tyB, dB, hdB, hdnB⟩ := Cond.laysAt hfound hk hffB (a' (.lays nsN Bundle.tN "backtrace" "Ljava/lang/Object;") (by simp [nsAt]))
  have bC := Cond.laysApart hdB hdC hdnB hdnC (by rw [hnB, Y.causeName]; decide)
  have bS := Cond.laysApart hdB hdS hdnB hdnS (by rw [hnB, Y.stackName]; decide)
  have bP := Cond.laysApart hdB hdP hdnB hdnP (by rw [hnB, Y.suppName]; decide)
  have hskip : SkipFacts T e.platform s (fun u => u) u0 ((preparedCellV T.toThrowableT (freshCell P1.m.cls kX) a u0 sen).withEntry W9.cur) :=
    ⟨{ ci198 := ci198, i198 := i198, fBack := fB }, ⟨hk198, hg198, ha198, hsB⟩, by
      have := fresh_default (c := P1.m.cls) tyB
      rw [htB] at this
      simpa [preparedCellV, Cell.setSlot, Cell.withEntry, Array.getElem?_setIfInBounds, bC, bS, bP, bC.symm, bS.symm, bP.symm, defaultValue] using this, fun _ _ => rfl⟩
  obtain ⟨tm, methC, cdC, kC, vm₁, hnC, -, -, -, -, -, -, -, hW₁, st1⟩ := Steps.initColdS (tb := p.tables) (e := e) (below := below) (s := s) (U := W9) X.here hexec X.warmed hpl hown (t := Bundle.initS nsN) rfl rfl ⟨by decide, by decide⟩
    (a' (.methodLink own ic (Bundle.initS nsN)) (by simp [nsAt])) (h (.instanceMethod (Bundle.initS nsN)) (by simp [nsAt, Bundle.passSAtoms])) (bytes := prog_32_method_4_code) (maxL := 2) (h (.code (Bundle.initS nsN) prog_32_method_4_code 2 none) (by simp [nsAt, Bundle.passSAtoms]))
    (f := g) hg (a := a) (msg := msg) (rest := .ref a :: rest) hstack hd6
  cases Option.some.inj (hnC.symm.trans hP1m)
  have X₁ := X.noted hW₁
  obtain ⟨vm₂, X₂, st2⟩ := X₁.ctorMessageOffV hexec (g := { g with stack := .ref a :: rest }) hg hsize T L Z LZ M LM (P1 :: P2 :: Ps)
    (fun P hP => by rcases List.mem_cons.mp hP with rfl | hP; exact L1; rcases List.mem_cons.mp hP with rfl | hP; exact L2; exact hL P hP) ⟨hlink1, hlink2, hlink⟩ (u0 := u0) (sen := sen) (self := a) hmsg (cell := freshCell P1.m.cls kX) (cellS := cellS)
    hcell (fun _ => by simp) (by simp) rfl rfl hsel0 hselF hcellS hneS hknownS (by rw [hkeep _ (hout' _)]; exact hu0) (by rw [hkeep _ (hout' _)]; exact hsen)
    (Takes.of_laid hk hord tyC (by rw [Y.causeType]; rfl)) (Takes.of_laid hk hord tyS (by rw [Y.stackType]; exact fits_refV_array _ u0)) (Takes.of_laid hk hord tyP (by rw [Y.suppType]; exact fits_refV_object _ sen))
    (Takes.of_laid hk hord tyM (by rw [Y.msgType]; exact fits_refV_object _ ⟨msg, hmsg⟩)) Y.objLocals hskip htr [] hd6
    (by simp only [List.length_cons, hlen, List.length_nil]; omega) (by simp only [List.length_cons, hlen, List.length_nil]; exact hRlocals)
  obtain ⟨hwalk, hrun, hended, hWU, hsame⟩ := X₂.athrowLeaves hexec (g := { g with stack := .ref a :: rest, pc := g.pc + 3 }) hg hlocked hentered hout (a := a) (rest := rest) rfl hd9
  have hlt : a < ((W9.setVm vm₁).setVm vm₂).heap.size := (Array.getElem?_eq_some_iff.mp hcell).1
  have hU := heapAt_setCell_self (s := (W9.setVm vm₁).setVm vm₂) (plainBareV T.toThrowableT (freshCell P1.m.cls kX) a u0 sen msg) hlt
  refine ⟨_, st1 _ (fun acts => ?_), hrun, hended, hWU, hsame.weaken (fun y hy hlt' => ?_) (Nat.le_refl _) (Nat.le_refl _), _, hU, hfound, rfl⟩
  · rw [doInvoke_state]
    exact st2 _ hwalk
  · rcases List.mem_append.mp hy with h1 | h1
    · exact h1
    · exfalso
      have hb : y.base = a := by
        simp only [List.mem_cons, List.not_mem_nil, or_false] at h1
        rcases h1 with rfl | rfl | rfl | rfl | rfl <;> rfl
      rw [hb] at hlt'
      exact Nat.not_lt.mpr hnew hlt'
end
def nsA (own : String) (ic : Nat) : List Cond := (nsAt own ic).filter vx_no
def NK (own : String) (ik ic : Nat) : Prop := Cond.classLink own ik nsN ∈ lw_good ∧ Cond.initialized nsN ∈ lw_good ∧ ∀ w ∈ nsA own ic, w ∈ lw_good ∨ w ∈ exW
section
variable {g : Gx} {d b : Nat} {M : Mth} {pc : Nat} {lv lv' : List (Nat × Value)} {st : List Value} {s s' : St} {r : Rs}
set_option maxHeartbeats 1000000 in
theorem E_throwN {tx : String} {ik is ic i : Nat} (tk : NK M.1.cls ik ic) (hstr0 : strT[i]? = some (M.1.cls, is, tx)) (d0 : decode M.2.1 pc = .ok (.new ik, 3)) (d3 : decode M.2.1 (pc + 3) = .ok (.dup, 1)) (d4 : decode M.2.1 (pc + 4) = .ok (.ldc is, 2)) (d6 : decode M.2.1 (pc + 6) = .ok (.invokespecial ic, 3)) (d9 : decode M.2.1 (pc + 9) = .ok (.athrow, 1)) (h6 : 6 ≤ d) : E g d 1 M pc lv [] s (.inr nsN) s := by
  intro p l e R u m args below meth c H locs cells slots ls C hW hS hl h1 h2
  obtain ⟨hx, hb, hr, hml, hown, hts, hlk, hno, htr0, hK, hf, hlo⟩ := id C
  obtain ⟨t3, t4, t5⟩ := tk
  have hwb : ∀ w ∈ nsA M.1.cls ic, w.before args u = true := fun w hw => (t5 w hw).elim (hts w) (fun e9 => va_Nw.use (exW_on w e9) (hK.2.2.2.2.2.2.1 w e9))
  have hot : ∀ w, w ∈ lw_good ∨ w ∈ exW → vx_ot w = true := by
    intro w hw'
    show (w.onTables || goodWord w) = true
    rcases hw' with hw' | hw'
    · rw [(List.mem_filter.mp hw').2, Bool.or_true]
    · rw [exW_on w hw', Bool.true_or]
  intro T hT X
  have htr : e.platform.stackTraces = false := (show e.platform.stackTraces = l.stackTraces by rw [X.admits.platform]).trans htr0
  have Y := vx_rebase X (R' := { frames := R.frames, locals := R.locals, cells := 1, slots := 6 }) (Nat.le_refl _) (Nat.le_refl _) (show cells + 1 ≤ R.cells by omega) (show slots + 6 ≤ R.slots by omega)
  obtain ⟨s', hA⟩ : ∃ z, z = (T.setVm u.vm).setFrames (.invoking m args :: below) := ⟨_, rfl⟩
  rw [← hA] at Y
  have hvm : s'.vm = u.vm := by rw [hA]; rfl
  have hhp : s'.heap = H := by rw [hA]; exact hT
  have hW0 : u.WarmedH s'.vm := by rw [hvm]; exact State.WarmedH.refl u
  have hat' : ∀ w ∈ nsA M.1.cls ic, w.before args s' = true := fun w hw => vx_ot_at hW0 hvm.symm (hot w (t5 w hw)) (hwb w hw)
  have hk' : (Cond.classLink M.1.cls ik nsN).before args s' = true := vx_ot_at hW0 hvm.symm (hot _ (Or.inl t3)) (hts _ t3)
  have hini' : (Cond.initialized nsN).before args s' = true := vx_ot_at hW0 hvm.symm (hot _ (Or.inl t4)) (hts _ t4)
  have hU' : vx_Zq Bundle.tN "UNASSIGNED_STACK" Bundle.steD (Ag g) s' s'.heap := by rw [hhp]; exact vx_Zq.moved hW0.alike (hK.2.2.2.1.kept hS.2.1)
  have hN' : vx_Zq Bundle.tN "SUPPRESSED_SENTINEL" Bundle.listD (Ag g) s' s'.heap := by rw [hhp]; exact vx_Zq.moved hW0.alike (hK.2.2.2.2.1.kept hS.2.1)
  have h : ∀ w ∈ nsAt M.1.cls ic, w.before args s' = true := vx_own hat' (vx_isRefq hU'.1) (vx_isRefq hN'.1) hU'.2.word hN'.2.word
  have hown' : s'.vm.findClass M.1.cls = some m.cls := by rw [hvm]; exact hown
  have hins : (Cond.instantiable nsN 6).before args s' = true := h _ (by simp [nsAt])
  obtain ⟨vm₁, cX, kX, hfX, hkX, -, -, X₁, st1⟩ := Y.newCold hx (own := M.1.cls) (C := nsN) (index := ik) (n := 6) hown' hk' hins hini'
    (g := F0 m pc ls []) rfl (by rw [hb]; exact d0) (Nat.le_refl _) (Nat.le_refl _)
  generalize hT1 : (T.setVm vm₁).pushCell { cls := cX, slots := kX.instanceTypes.map defaultValue, vm := .none } = T1 at X₁ st1
  have hcellA : T1.heap[T.heap.size]? = some (freshCell cX kX) := by rw [← hT1]; exact State.heap_pushCell_size _ _
  have d3' : decode c.code (pc + 3) = .ok (.dup, 1) := by rw [hb]; exact d3
  have d4' : decode c.code (pc + 4) = .ok (.ldc is, 2) := by rw [hb]; exact d4
  have hstr' : vk_R M.1.cls is tx (g.2.2.2.1 i) s' := vk_R.warm hW0 (hK.2.2.1 i _ _ _ hstr0)
  obtain ⟨U, hsteps, hrun, hend, hWU, hsame, ce, hce, hcls, hcv⟩ := nsCtor X₁ hx htr (own := M.1.cls) (ic := ic) hown' h (fun x hx => nomatch hx) hfX hkX hcellA (by rw [hhp, hT]; exact Nat.le_refl _) (msg := .ref (g.2.2.2.1 i)) rfl
    (g := { method := m, pc := pc + 6, locals := ls, stack := .ref (g.2.2.2.1 i) :: .ref T.heap.size :: .ref T.heap.size :: [], locked := none }) rfl (hl.1.trans hml.symm) rfl rfl (rest := []) rfl
    (by rw [hb]; exact d6) (by rw [hb]; exact d9) (fun x hx9 => (hno x hx9).elim) (by show 2 + 3 < R.frames; omega) (by show 2 * 0 + (1 + 0) + (13 * (2 + 1) + 42) ≤ R.locals; omega) hlk
  obtain ⟨f1, f2⟩ := vx_frame hsame
  rw [hhp] at f1 f2
  have hWs : u.WarmedH U.vm := State.WarmedH.trans hW0 hWU
  have hcl : u.vm.findClass nsN = some ce.cls := by rw [hvm] at hcls; exact hcls
  have hall : u.sameButNew ({ U with vm := u.vm } : State) locs R.cells R.slots := by
    subst hA
    obtain ⟨e1, e2⟩ := hsame
    rw [State.setFrames_setFrames] at e1
    have h2 : (T.setVm u.vm).sameButNew ({ U with vm := u.vm } : State) [] (0 + 1) (0 + 6) := ⟨e1, e2⟩
    have h3 := X.same.trans h2
    rw [List.append_nil] at h3
    exact h3.mono (by omega) (by omega)
  have hxx : Xr g (.inr nsN) s nsN u U := by
    have hk : ∀ q : Nat, q < H.size → U.heap[q]? = H[q]? := fun q hq => f2 q hq (fun z hz => nomatch hz)
    refine ⟨rfl, hW.kept (fun k q hq => hk q.1 (hW k q hq).lt), Nat.le_trans hS.1 f1, fun q h3 h4 => ?_⟩
    rw [hk q (Nat.lt_of_lt_of_le h3 hS.1)]
    exact hS.2.1 q h3 h4
  refine ⟨U, ?_, .threw T.heap.size, hrun, hend, Or.inr ⟨T.heap.size, rfl, nsN, ce, locs, hxx, hce, hcv, hcl, hWs, hall, hS.2.2⟩⟩
  refine st1 _ ?_
  show Steps p.tables e below (T1.setTop { method := m, pc := pc + 3, locals := ls, stack := .ref T.heap.size :: [], locked := none }) _
  jvm_step X₁.here [X₁.here.top, hx, d3', Value.category]
  exact X₁.ldcString hx (own := M.1.cls) (text := tx) (index := is) (a := g.2.2.2.1 i) hown' hstr'.1 hstr'.2
    (g := { method := m, pc := pc + 4, locals := ls, stack := .ref T.heap.size :: .ref T.heap.size :: [], locked := none }) rfl d4' _ hsteps
set_option maxHeartbeats 1000000 in
theorem E_throwNW {tx : String} {ik is ic i : Nat} (tk : NK M.1.cls ik ic) (hstr0 : strT[i]? = some (M.1.cls, is, tx)) (d0 : decode M.2.1 pc = .ok (.new ik, 3)) (d3 : decode M.2.1 (pc + 3) = .ok (.dup, 1)) (d4 : decode M.2.1 (pc + 4) = .ok (.ldc_w is, 3)) (d6 : decode M.2.1 (pc + 7) = .ok (.invokespecial ic, 3)) (d9 : decode M.2.1 (pc + 10) = .ok (.athrow, 1)) (h6 : 6 ≤ d) : E g d 1 M pc lv [] s (.inr nsN) s := by
  intro p l e R u m args below meth c H locs cells slots ls C hW hS hl h1 h2
  obtain ⟨hx, hb, hr, hml, hown, hts, hlk, hno, htr0, hK, hf, hlo⟩ := id C
  obtain ⟨t3, t4, t5⟩ := tk
  have hwb : ∀ w ∈ nsA M.1.cls ic, w.before args u = true := fun w hw => (t5 w hw).elim (hts w) (fun e9 => va_Nw.use (exW_on w e9) (hK.2.2.2.2.2.2.1 w e9))
  have hot : ∀ w, w ∈ lw_good ∨ w ∈ exW → vx_ot w = true := by
    intro w hw'
    show (w.onTables || goodWord w) = true
    rcases hw' with hw' | hw'
    · rw [(List.mem_filter.mp hw').2, Bool.or_true]
    · rw [exW_on w hw', Bool.true_or]
  intro T hT X
  have htr : e.platform.stackTraces = false := (show e.platform.stackTraces = l.stackTraces by rw [X.admits.platform]).trans htr0
  have Y := vx_rebase X (R' := { frames := R.frames, locals := R.locals, cells := 1, slots := 6 }) (Nat.le_refl _) (Nat.le_refl _) (show cells + 1 ≤ R.cells by omega) (show slots + 6 ≤ R.slots by omega)
  obtain ⟨s', hA⟩ : ∃ z, z = (T.setVm u.vm).setFrames (.invoking m args :: below) := ⟨_, rfl⟩
  rw [← hA] at Y
  have hvm : s'.vm = u.vm := by rw [hA]; rfl
  have hhp : s'.heap = H := by rw [hA]; exact hT
  have hW0 : u.WarmedH s'.vm := by rw [hvm]; exact State.WarmedH.refl u
  have hat' : ∀ w ∈ nsA M.1.cls ic, w.before args s' = true := fun w hw => vx_ot_at hW0 hvm.symm (hot w (t5 w hw)) (hwb w hw)
  have hk' : (Cond.classLink M.1.cls ik nsN).before args s' = true := vx_ot_at hW0 hvm.symm (hot _ (Or.inl t3)) (hts _ t3)
  have hini' : (Cond.initialized nsN).before args s' = true := vx_ot_at hW0 hvm.symm (hot _ (Or.inl t4)) (hts _ t4)
  have hU' : vx_Zq Bundle.tN "UNASSIGNED_STACK" Bundle.steD (Ag g) s' s'.heap := by rw [hhp]; exact vx_Zq.moved hW0.alike (hK.2.2.2.1.kept hS.2.1)
  have hN' : vx_Zq Bundle.tN "SUPPRESSED_SENTINEL" Bundle.listD (Ag g) s' s'.heap := by rw [hhp]; exact vx_Zq.moved hW0.alike (hK.2.2.2.2.1.kept hS.2.1)
  have h : ∀ w ∈ nsAt M.1.cls ic, w.before args s' = true := vx_own hat' (vx_isRefq hU'.1) (vx_isRefq hN'.1) hU'.2.word hN'.2.word
  have hown' : s'.vm.findClass M.1.cls = some m.cls := by rw [hvm]; exact hown
  have hins : (Cond.instantiable nsN 6).before args s' = true := h _ (by simp [nsAt])
  obtain ⟨vm₁, cX, kX, hfX, hkX, -, -, X₁, st1⟩ := Y.newCold hx (own := M.1.cls) (C := nsN) (index := ik) (n := 6) hown' hk' hins hini'
    (g := F0 m pc ls []) rfl (by rw [hb]; exact d0) (Nat.le_refl _) (Nat.le_refl _)
  generalize hT1 : (T.setVm vm₁).pushCell { cls := cX, slots := kX.instanceTypes.map defaultValue, vm := .none } = T1 at X₁ st1
  have hcellA : T1.heap[T.heap.size]? = some (freshCell cX kX) := by rw [← hT1]; exact State.heap_pushCell_size _ _
  have d3' : decode c.code (pc + 3) = .ok (.dup, 1) := by rw [hb]; exact d3
  have d4' : decode c.code (pc + 4) = .ok (.ldc_w is, 3) := by rw [hb]; exact d4
  have hstr' : vk_R M.1.cls is tx (g.2.2.2.1 i) s' := vk_R.warm hW0 (hK.2.2.1 i _ _ _ hstr0)
  obtain ⟨U, hsteps, hrun, hend, hWU, hsame, ce, hce, hcls, hcv⟩ := nsCtor X₁ hx htr (own := M.1.cls) (ic := ic) hown' h (fun x hx => nomatch hx) hfX hkX hcellA (by rw [hhp, hT]; exact Nat.le_refl _) (msg := .ref (g.2.2.2.1 i)) rfl
    (g := { method := m, pc := pc + 7, locals := ls, stack := .ref (g.2.2.2.1 i) :: .ref T.heap.size :: .ref T.heap.size :: [], locked := none }) rfl (hl.1.trans hml.symm) rfl rfl (rest := []) rfl
    (by rw [hb]; exact d6) (by rw [hb]; exact d9) (fun x hx9 => (hno x hx9).elim) (by show 2 + 3 < R.frames; omega) (by show 2 * 0 + (1 + 0) + (13 * (2 + 1) + 42) ≤ R.locals; omega) hlk
  obtain ⟨f1, f2⟩ := vx_frame hsame
  rw [hhp] at f1 f2
  have hWs : u.WarmedH U.vm := State.WarmedH.trans hW0 hWU
  have hcl : u.vm.findClass nsN = some ce.cls := by rw [hvm] at hcls; exact hcls
  have hall : u.sameButNew ({ U with vm := u.vm } : State) locs R.cells R.slots := by
    subst hA
    obtain ⟨e1, e2⟩ := hsame
    rw [State.setFrames_setFrames] at e1
    have h2 : (T.setVm u.vm).sameButNew ({ U with vm := u.vm } : State) [] (0 + 1) (0 + 6) := ⟨e1, e2⟩
    have h3 := X.same.trans h2
    rw [List.append_nil] at h3
    exact h3.mono (by omega) (by omega)
  have hxx : Xr g (.inr nsN) s nsN u U := by
    have hk : ∀ q : Nat, q < H.size → U.heap[q]? = H[q]? := fun q hq => f2 q hq (fun z hz => nomatch hz)
    refine ⟨rfl, hW.kept (fun k q hq => hk q.1 (hW k q hq).lt), Nat.le_trans hS.1 f1, fun q h3 h4 => ?_⟩
    rw [hk q (Nat.lt_of_lt_of_le h3 hS.1)]
    exact hS.2.1 q h3 h4
  refine ⟨U, ?_, .threw T.heap.size, hrun, hend, Or.inr ⟨T.heap.size, rfl, nsN, ce, locs, hxx, hce, hcv, hcl, hWs, hall, hS.2.2⟩⟩
  refine st1 _ ?_
  show Steps p.tables e below (T1.setTop { method := m, pc := pc + 3, locals := ls, stack := .ref T.heap.size :: [], locked := none }) _
  jvm_step X₁.here [X₁.here.top, hx, d3', Value.category]
  exact X₁.ldcStringW hx (own := M.1.cls) (text := tx) (index := is) (a := g.2.2.2.1 i) hown' hstr'.1 hstr'.2
    (g := { method := m, pc := pc + 4, locals := ls, stack := .ref T.heap.size :: .ref T.heap.size :: [], locked := none }) rfl d4' _ hsteps
theorem loc_K (g : Gx) {i : Nat} (hi : i < 66) : loc g (100000 + i) = g.2.2.2.1 i := by unfold loc; rw [if_neg (by omega), if_pos (by omega), Nat.add_sub_cancel_left]
theorem loc_V (g : Gx) (i : Nat) : loc g (200000 + i) = g.2.2.2.2 i := by unfold loc; rw [if_neg (by omega), if_neg (by omega), Nat.add_sub_cancel_left]
theorem E_sgV {i idx : Nat} (hi : i < 66) (q : Nat) (hq : pc + 3 = q) (hd : decode M.2.1 pc = .ok (.getfield idx, 3)) (lk : Cond.fieldLink M.1.cls idx "java/lang/String" "value" "[B" ∈ lw_good) (kk : E g d b M q lv (.ref (200000 + i) :: st) s r s') : E g d b M pc lv (.ref (100000 + i) :: st) s r s' := by
  subst hq
  intro p l e R u m args below meth c H locs cells slots ls C hW hS hl h1 h2
  have k9 := kk p l e R u m args below meth c H locs cells slots ls C hW hS hl h1 h2
  have hs := C.2.2.2.2.2.2.2.2.2.1.2.1 i hi
  show W p l e R u m args below meth c H locs cells slots _ (F0 m pc ls (.ref (loc g (100000 + i)) :: st.map (cv g)))
  rw [loc_K g hi]
  refine vk_getf C.1 C.2.1 hs.2.2.1 hS C.2.2.2.2.1 (C.2.2.2.2.2.1 _ lk) (fun x h => h) hd ?_
  rw [← loc_V g i]
  exact k9
theorem E_sgC {i idx : Nat} (hi : i < 66) (q : Nat) (hq : pc + 3 = q) (hd : decode M.2.1 pc = .ok (.getfield idx, 3)) (lk : Cond.fieldLink M.1.cls idx "java/lang/String" "coder" "B" ∈ lw_good) (kk : E g d b M q lv (.int 0 :: st) s r s') : E g d b M pc lv (.ref (100000 + i) :: st) s r s' := by
  subst hq
  intro p l e R u m args below meth c H locs cells slots ls C hW hS hl h1 h2
  have k9 := kk p l e R u m args below meth c H locs cells slots ls C hW hS hl h1 h2
  have hs := C.2.2.2.2.2.2.2.2.2.1.2.1 i hi
  show W p l e R u m args below meth c H locs cells slots _ (F0 m pc ls (.ref (loc g (100000 + i)) :: st.map (cv g)))
  rw [loc_K g hi]
  exact vk_getf C.1 C.2.1 hs.2.1 hS C.2.2.2.2.1 (C.2.2.2.2.2.1 _ lk) (fun x h => h) hd k9
theorem E_salen {i : Nat} (hi : i < 66) (q : Nat) (hq : pc + 1 = q) (hd : decode M.2.1 pc = .ok (.arraylength, 1)) (kk : E g d b M q lv (.int (nI (sLen i)) :: st) s r s') : E g d b M pc lv (.ref (200000 + i) :: st) s r s' := by
  subst hq
  intro p l e R u m args below meth c H locs cells slots ls C hW hS hl h1 h2
  have k9 := kk p l e R u m args below meth c H locs cells slots ls C hW hS hl h1 h2
  have hs := C.2.2.2.2.2.2.2.2.2.1.2.1 i hi
  show W p l e R u m args below meth c H locs cells slots _ (F0 m pc ls (.ref (loc g (200000 + i)) :: st.map (cv g)))
  rw [loc_V g i]
  exact va_tlen C.1 C.2.1 hs.2.2.2 hS rfl hd k9
theorem E_sbald {i : Nat} (hi : i < 66) {k : Int32} (q : Nat) (hq : pc + 1 = q) (hd : decode M.2.1 pc = .ok (.baload, 1)) (hk : vp_in k (sLen i)) (kk : E g d b M q lv (.int (sChr i k.toNatClampNeg) :: st) s r s') : E g d b M pc lv (.int k :: .ref (200000 + i) :: st) s r s' := by
  subst hq
  intro p l e R u m args below meth c H locs cells slots ls C hW hS hl h1 h2
  have k9 := kk p l e R u m args below meth c H locs cells slots ls C hW hS hl h1 h2
  have hs := C.2.2.2.2.2.2.2.2.2.1.2.1 i hi
  show W p l e R u m args below meth c H locs cells slots _ (F0 m pc ls (.int k :: .ref (loc g (200000 + i)) :: st.map (cv g)))
  rw [loc_V g i]
  exact va_tb C.1 C.2.1 hs.2.2.2 hS hk rfl hd k9
theorem E_gsC {idx : Nat} (q : Nat) (hq : pc + 3 = q) (hd : decode M.2.1 pc = .ok (.getstatic idx, 3)) (lk : Cond.fieldLink M.1.cls idx "java/lang/String" "COMPACT_STRINGS" "Z" ∈ lw_good) (kk : E g d b M q lv (.int 1 :: st) s r s') : E g d b M pc lv st s r s' := by
  subst hq
  intro p l e R u m args below meth c H locs cells slots ls C hW hS hl h1 h2
  have k9 := kk p l e R u m args below meth c H locs cells slots ls C hW hS hl h1 h2
  exact va_gets C.1 C.2.1 C.2.2.2.2.2.2.2.2.2.1.2.2.2.2.2.1 hS C.2.2.2.2.1 (C.2.2.2.2.2.1 _ lk) (fun x h => h) hd k9
theorem E_gsF {idx : Nat} (q : Nat) (hq : pc + 3 = q) (hd : decode M.2.1 pc = .ok (.getstatic idx, 3)) (lk : Cond.fieldLink M.1.cls idx "jdk/internal/util/Preconditions" "SIOOBE_FORMATTER" "Ljava/util/function/BiFunction;" ∈ lw_good) (kk : ∀ v : Value, v.category = 1 → E g d b M q lv (v :: st) s r s') : E g d b M pc lv st s r s' := by
  subst hq
  intro p l e R u m args below meth c H locs cells slots ls C hW hS hl h1 h2
  obtain ⟨v, hv, hz⟩ := C.2.2.2.2.2.2.2.2.2.1.2.2.2.2.2.2.2
  rcases hv with rfl | rfl
  · exact va_gets C.1 C.2.1 hz hS C.2.2.2.2.1 (C.2.2.2.2.2.1 _ lk) (fun x h => h) hd (kk .null rfl p l e R u m args below meth c H locs cells slots ls C hW hS hl h1 h2)
  · have k9 := kk (.ref 200066) rfl p l e R u m args below meth c H locs cells slots ls C hW hS hl h1 h2
    rw [List.map_cons, show cv g (.ref 200066) = .ref (loc g (200000 + 66)) from rfl, loc_V g 66] at k9
    exact va_gets C.1 C.2.1 hz hS C.2.2.2.2.1 (C.2.2.2.2.2.1 _ lk) (fun x h => h) hd k9
theorem E_i2c {x : Int32} (q : Nat) (hq : pc + 1 = q) (hd : decode M.2.1 pc = .ok (.i2c, 1)) (k : E g d b M q lv (.int (x.toUInt32 % 65536).toInt32 :: st) s r s') : E g d b M pc lv (.int x :: st) s r s' := by
  subst hq
  intro p l e R u m args below meth c H locs cells slots ls C hW hS hl h1 h2
  exact lv_i2c C.1 C.2.1 hd rfl (k p l e R u m args below meth c H locs cells slots ls C hW hS hl h1 h2)
theorem E_pop {va : Value} (q : Nat) (hq : pc + 1 = q) (hd : decode M.2.1 pc = .ok (.pop, 1)) (h : va.category = 1) (k : E g d b M q lv st s r s') : E g d b M pc lv (va :: st) s r s' := by
  subst hq
  intro p l e R u m args below meth c H locs cells slots ls C hW hS hl h1 h2
  exact lv_pop C.1 C.2.1 hd (by rw [cv_cat]; exact h) (k p l e R u m args below meth c H locs cells slots ls C hW hS hl h1 h2)
theorem E_nret {x : Int32} {ty : FieldType} (hr : M.2.2.2 = some ty) (hn : narrow ty (.int x) = .int x) (hd : decode M.2.1 pc = .ok (.ireturn, 1)) : E g d b M pc lv [.int x] s (.inl (some (.int x))) s := by
  intro p l e R u m args below meth c H locs cells slots ls C hW hS hl h1 h2
  have hlk : meth.locks = false := C.2.2.2.2.2.2.1
  refine vx_ret (W.widen (k := R.cells) (n := R.slots) (by omega) (by omega) ?_)
  exact W.zret C.1 C.2.1 (C.2.2.1.trans hr) hn (end_q hW hS) hS.2.2 hd
/-- a call on a literal -/
theorem E_sV1 {M' : Mth} {As : List Value} {i d' idx n : Nat} {v : Value} {s1 : St} (hi : i < 66) (q : Nat) (hq : pc + 3 = q) (hd : decode M.2.1 pc = .ok (.invokevirtual idx, 3)) (ck : CK M.1.cls idx M' n) (hM : M'.1.cls = "java/lang/String") (ci : Cond.instanceMethod M'.1 ∈ lw_good) (cs : Cond.selects M'.1.cls M'.1 M'.1 ∈ lw_good) (hn : As.length = n) (hdd : d' + 1 ≤ d) (hst : cats st ≤ 8) (hc : Ent g d' 0 M' (.ref (100000 + i) :: As) s (.inl (some v)) s1) {st0 : List Value} (h0 : st0 = As.reverse ++ .ref (100000 + i) :: st) (kk : E g d b M q lv (v :: st) s1 r s') : E g d b M pc lv st0 s r s' := by
  subst hq
  subst h0
  intro p l e R u m args below meth c H locs cells slots ls C hW hS hl h1 h2
  obtain ⟨hx, hb, hr, hml, hown, hts, hlk, hno, htr, hK, hf, hlo⟩ := id C
  have hl9 := loc_K g hi
  have hrec : ∃ cellB : Cell, H[g.2.2.2.1 i]? = some cellB ∧ cellB.vm.isStatics = false ∧ u.vm.findClass M'.1.cls = some cellB.cls := by
    obtain ⟨cell, g1, g2, g3, -⟩ := (hK.2.1 i hi).1.kept hS.2.1
    rw [hM]
    exact ⟨cell, g1, g2, g3⟩
  intro T hT X
  have hM := hc l htr
  rcases vx_runV (As := As.map (cv g)) (rest := st.map (cv g)) (b := g.2.2.2.1 i) (C := M'.1.cls) (n := n) (g := F0 m pc ls ((As.reverse ++ .ref (100000 + i) :: st).map (cv g))) (locs := locs) (cells := cells) (slots := slots) (e := e) (below := below) (meth := meth) (H := H) ⟨hx, hb, hml, hown, hts⟩ hM ⟨callB_mk hts ck hdd hf hlo, hts _ ci, hts _ cs⟩ ⟨HW_blind, hrec, by have h := pre_of (As := .ref (100000 + i) :: As) hK hW hS; simpa only [List.map_cons, show cv g (.ref (100000 + i)) = .ref (loc g (100000 + i)) from rfl, hl9] using h⟩ rfl (by rw [List.length_map]; exact hn) hl.1 (by show ((As.reverse ++ .ref (100000 + i) :: st).map (cv g)) = _; rw [List.map_append, List.map_cons, List.map_reverse, show cv g (.ref (100000 + i)) = .ref (loc g (100000 + i)) from rfl, hl9]) (by show 2 * 0 + _ ≤ 8; rw [cats_cv]; omega) hd ⟨by show cells + 0 ≤ R.cells; omega, by show slots + 8 * 0 ≤ R.slots; omega⟩ T hT X with ⟨v', st₀, t, T', L, h0', X', hL, e1, e2, ⟨v0, hv0, ho, hHW, hF⟩, stp⟩ | ⟨q', st₀, t, T', L, ex, ce, h0', X', hL, e1, e2, ⟨hbad, -⟩, -⟩
  · cases hv0
    cases ho
    obtain ⟨k1, k2, k3⟩ := vx_keep h0' e1 hS (fun q _ h => h) (fun q h => h) hL hF
    obtain ⟨t2, a1, b1⟩ := kk p l e R u m args below meth c T'.heap (locs ++ L) (cells + 0) (slots + 8 * 0) ls C (by rw [e1]; exact hHW) k3 hl (by omega) (by omega) T' rfl X'
    exact ⟨t2, stp t2 a1, b1⟩
  · cases hbad
end
abbrev mS_len : Mth := (yJ0_length_8abf5, cJ0_length_8abf5, 1, some .int)
abbrev mS_chr : Mth := (yJ0_charAt_5068e, cJ0_charAt_5068e, 2, some .char)
abbrev mS_cod : Mth := (yJ0_coder_7d493, cJ0_coder_7d493, 1, some .byte)
abbrev mS_lat : Mth := (yJ0_isLatin1_aae02, cJ0_isLatin1_aae02, 1, some .boolean)
abbrev mS_cki : Mth := (yJ0_checkIndex_df160, cJ0_checkIndex_df160, 2, none)
abbrev mL_chr : Mth := (yJ1_charAt_3b067, cJ1_charAt_3b067, 2, some .char)
abbrev mP_cki : Mth := (yJ3_checkIndex_8e157, cJ3_checkIndex_8e157, 3, some .int)
theorem wS1 : Cond.fieldLink RJ0 9 "java/lang/String" "value" "[B" ∈ lw_good := tg8 112 rfl rfl
theorem wS2 : Cond.fieldLink RJ0 15 "java/lang/String" "coder" "B" ∈ lw_good := tg8 113 rfl rfl
theorem wS3 : Cond.fieldLink RJ0 38 "java/lang/String" "COMPACT_STRINGS" "Z" ∈ lw_good := tg3 216 rfl rfl
theorem wS4 : Cond.fieldLink RJ0 1053 "jdk/internal/util/Preconditions" "SIOOBE_FORMATTER" "Ljava/util/function/BiFunction;" ∈ lw_good := tg3 232 rfl rfl
theorem iniS : Cond.initialized RJ0 ∈ lw_good := tg1 18 rfl rfl
theorem iniL : Cond.initialized RJ1 ∈ lw_good := tg1 19 rfl rfl
theorem iniP : Cond.initialized RJ3 ∈ lw_good := tg1 20 rfl rfl
theorem ckS_cod : CK RJ0 335 mS_cod 0 := ⟨tg3 212 rfl rfl, iniS, tg3 215 rfl rfl, ⟨by decide, by decide⟩, by decide +kernel, by decide⟩
theorem ckS_lat : CK RJ0 492 mS_lat 0 := ⟨tg3 222 rfl rfl, iniS, tg3 225 rfl rfl, ⟨by decide, by decide⟩, by decide +kernel, by decide⟩
theorem ckL_chr : CK RJ0 495 mL_chr 2 := ⟨tg3 226 rfl rfl, iniL, tg3 228 rfl rfl, ⟨by decide, by decide⟩, by decide +kernel, by decide⟩
theorem ckS_cki : CK RJ1 9 mS_cki 2 := ⟨tg3 229 rfl rfl, iniS, tg3 231 rfl rfl, ⟨by decide, by decide⟩, by decide +kernel, by decide⟩
theorem ckP_cki : CK RJ0 1059 mP_cki 3 := ⟨tg3 234 rfl rfl, iniP, tg3 236 rfl rfl, ⟨by decide, by decide⟩, by decide +kernel, by decide⟩
section
variable {g : Gx} {s : St}
theorem C_cod {i : Nat} (hi : i < 66) : Ent g 1 0 mS_cod [.ref (100000 + i)] s (.inl (some (.int 0))) s := by
  refine Ent_of (by decide +kernel) (Nat.le_of_ble_eq_true rfl) ?_
  refine E_gsC 3 rfl dJ0_coder_7d493_0 wS3 ?_
  refine E_if_eq 13 6 (by decide) rfl dJ0_coder_7d493_3 (fun h => absurd h (by decide)) (fun _ => ?_)
  refine E_aload_n 7 rfl dJ0_coder_7d493_6 rfl 0 rfl ?_
  refine E_sgC hi 10 rfl dJ0_coder_7d493_7 wS2 ?_
  refine E_goto 14 (by decide) dJ0_coder_7d493_10 ?_
  exact E_nret rfl rfl dJ0_coder_7d493_14
theorem C_lat {i : Nat} (hi : i < 66) : Ent g 1 0 mS_lat [.ref (100000 + i)] s (.inl (some (.int 1))) s := by
  refine Ent_of (by decide +kernel) (Nat.le_of_ble_eq_true rfl) ?_
  refine E_gsC 3 rfl dJ0_isLatin1_aae02_0 wS3 ?_
  refine E_if_eq 17 6 (by decide) rfl dJ0_isLatin1_aae02_3 (fun h => absurd h (by decide)) (fun _ => ?_)
  refine E_aload_n 7 rfl dJ0_isLatin1_aae02_6 rfl 0 rfl ?_
  refine E_sgC hi 10 rfl dJ0_isLatin1_aae02_7 wS2 ?_
  refine E_if_ne 17 13 (by decide) rfl dJ0_isLatin1_aae02_10 (fun h => absurd rfl h) (fun _ => ?_)
  refine E_iconst (v := 1) 14 rfl dJ0_isLatin1_aae02_13 (by decide) ?_
  refine E_goto 18 (by decide) dJ0_isLatin1_aae02_14 ?_
  exact E_nret rfl rfl dJ0_isLatin1_aae02_18
theorem C_slen {i : Nat} (hi : i < 66) : Ent g 2 0 mS_len [.ref (100000 + i)] s (.inl (some (.int (nI (sLen i))))) s := by
  refine Ent_of (by decide +kernel) (Nat.le_of_ble_eq_true rfl) ?_
  refine E_aload_n 1 rfl dJ0_length_8abf5_0 rfl 0 rfl ?_
  refine E_sgV hi 4 rfl dJ0_length_8abf5_1 wS1 ?_
  refine E_salen hi 5 rfl dJ0_length_8abf5_4 ?_
  refine E_aload_n 6 rfl dJ0_length_8abf5_5 rfl 0 rfl ?_
  refine E_sV1 (As := []) hi 9 rfl dJ0_length_8abf5_6 ckS_cod rfl (tg3 213 rfl rfl) (tg3 214 rfl rfl) rfl (by decide) (Nat.le_of_ble_eq_true rfl) (C_cod hi) rfl ?_
  refine E_ishr 10 rfl dJ0_length_8abf5_9 ?_
  rw [sb_shr0]
  exact E_iret rfl dJ0_length_8abf5_10
theorem C_pcki {k n : Int32} {v : Value} (hv : v.category = 1) (h0 : ¬ k < 0) (h1 : k < n) : Ent g 1 0 mP_cki [.int k, .int n, v] s (.inl (some (.int k))) s := by
  refine Ent_of (by decide +kernel) (by cases v <;> simp [lg_sl, Value.category] at hv ⊢) ?_
  have e0 : lv_args 0 [.int k, .int n, v] = [(0, .int k), (1, .int n), (2, v)] := rfl
  rw [e0]
  refine E_iload_n 1 rfl dJ3_checkIndex_8e157_0 rfl 0 rfl ?_
  refine E_if_lt 9 4 (by decide) rfl dJ3_checkIndex_8e157_1 (fun h => absurd h h0) (fun _ => ?_)
  refine E_iload_n 5 rfl dJ3_checkIndex_8e157_4 rfl 0 rfl ?_
  refine E_iload_n 6 rfl dJ3_checkIndex_8e157_5 rfl 1 rfl ?_
  refine E_icmp_lt 16 9 (by decide) rfl dJ3_checkIndex_8e157_6 (fun _ => ?_) (fun h => absurd h1 h)
  refine E_iload_n 17 rfl dJ3_checkIndex_8e157_16 rfl 0 rfl ?_
  exact E_iret rfl dJ3_checkIndex_8e157_17
theorem C_scki {k n : Int32} (h0 : ¬ k < 0) (h1 : k < n) : Ent g 2 0 mS_cki [.int k, .int n] s (.inl none) s := by
  refine Ent_of (by decide +kernel) (Nat.le_of_ble_eq_true rfl) ?_
  refine E_iload_n 1 rfl dJ0_checkIndex_df160_0 rfl 0 rfl ?_
  refine E_iload_n 2 rfl dJ0_checkIndex_df160_1 rfl 1 rfl ?_
  refine E_gsF 5 rfl dJ0_checkIndex_df160_2 wS4 (fun v hv => ?_)
  refine E_cS1 (As := [.int k, .int n, v]) 8 rfl dJ0_checkIndex_df160_5 ckP_cki (tg3 235 rfl rfl) rfl (by decide) (Nat.le_of_ble_eq_true rfl) (C_pcki hv h0 h1) rfl ?_
  refine E_pop 9 rfl dJ0_checkIndex_df160_8 rfl ?_
  exact E_vret rfl dJ0_checkIndex_df160_9
def chrAt (i : Nat) (k : Int32) : Option Int32 := if k < 0 ∨ sLen i ≤ k.toNatClampNeg then none else some (sChr i k.toNatClampNeg)
theorem bytT_ok : ∀ i, i < 66 → ∀ j, j < sLen i → (((sChr i j &&& 255).toUInt32 % 65536).toInt32 = sChr i j ∧ narrow .char (.int (sChr i j)) = .int (sChr i j)) := by decide +kernel
theorem sLen_ok : ∀ i, i < 66 → sLen i < 1000 := by decide +kernel
theorem C_lchr {i : Nat} (hi : i < 66) {k : Int32} (h0 : ¬ k < 0) (h1 : k.toNatClampNeg < sLen i) : Ent g 3 0 mL_chr [.ref (200000 + i), .int k] s (.inl (some (.int (sChr i k.toNatClampNeg)))) s := by
  have hk : k < nI (sLen i) := by
    obtain ⟨j, hj, rfl⟩ := nI_of h0
    rw [nI_clamp hj] at h1
    exact nI_lt h1 (by have := sLen_ok i hi; omega)
  refine Ent_of (by decide +kernel) (Nat.le_of_ble_eq_true rfl) ?_
  refine E_iload_n 1 rfl dJ1_charAt_3b067_0 rfl 1 rfl ?_
  refine E_aload_n 2 rfl dJ1_charAt_3b067_1 rfl 0 rfl ?_
  refine E_salen hi 3 rfl dJ1_charAt_3b067_2 ?_
  refine E_cS0 (As := [.int k, .int (nI (sLen i))]) 6 rfl dJ1_charAt_3b067_3 ckS_cki (tg3 230 rfl rfl) rfl (by decide) (Nat.le_of_ble_eq_true rfl) (C_scki h0 hk) rfl ?_
  refine E_aload_n 7 rfl dJ1_charAt_3b067_6 rfl 0 rfl ?_
  refine E_iload_n 8 rfl dJ1_charAt_3b067_7 rfl 1 rfl ?_
  refine E_sbald hi 9 rfl dJ1_charAt_3b067_8 (fun z => z.elim h0 (fun z => absurd h1 (Nat.not_lt.mpr z))) ?_
  refine E_sipush (v := 255) 12 rfl dJ1_charAt_3b067_9 (by decide) ?_
  refine E_iand 13 rfl dJ1_charAt_3b067_12 ?_
  refine E_i2c 14 rfl dJ1_charAt_3b067_13 ?_
  rw [(bytT_ok i hi _ h1).1]
  exact E_nret rfl (bytT_ok i hi _ h1).2 dJ1_charAt_3b067_14
theorem C_schr {i : Nat} (hi : i < 66) {k v : Int32} (hv : chrAt i k = some v) : Ent g 4 0 mS_chr [.ref (100000 + i), .int k] s (.inl (some (.int v))) s := by
  unfold chrAt at hv
  split at hv
  · cases hv
  · rename_i h
    cases hv
    have h0 : ¬ k < 0 := fun z => h (Or.inl z)
    have h1 : k.toNatClampNeg < sLen i := Nat.not_le.mp fun z => h (Or.inr z)
    refine Ent_of (by decide +kernel) (Nat.le_of_ble_eq_true rfl) ?_
    refine E_aload_n 1 rfl dJ0_charAt_5068e_0 rfl 0 rfl ?_
    refine E_sV1 (As := []) hi 4 rfl dJ0_charAt_5068e_1 ckS_lat rfl (tg3 223 rfl rfl) (tg3 224 rfl rfl) rfl (by decide) (Nat.le_of_ble_eq_true rfl) (C_lat hi) rfl ?_
    refine E_if_eq 16 7 (by decide) rfl dJ0_charAt_5068e_4 (fun h => absurd h (by decide)) (fun _ => ?_)
    refine E_aload_n 8 rfl dJ0_charAt_5068e_7 rfl 0 rfl ?_
    refine E_sgV hi 11 rfl dJ0_charAt_5068e_8 wS1 ?_
    refine E_iload_n 12 rfl dJ0_charAt_5068e_11 rfl 1 rfl ?_
    refine E_cS1 (As := [.ref (200000 + i), .int k]) 15 rfl dJ0_charAt_5068e_12 ckL_chr (tg3 227 rfl rfl) rfl (by decide) (Nat.le_of_ble_eq_true rfl) (C_lchr hi h0 h1) rfl ?_
    exact E_nret rfl (bytT_ok i hi _ h1).2 dJ0_charAt_5068e_15
end
section
variable {g : Gx} {d b : Nat} {M : Mth} {pc : Nat} {lv lv' : List (Nat × Value)} {st : List Value} {s s' : St} {r : Rs}
theorem E_slen {i idx : Nat} (hi : i < 66) (q : Nat) (hq : pc + 3 = q) (hd : decode M.2.1 pc = .ok (.invokevirtual idx, 3)) (jb : Cond.methodLink M.1.cls idx ⟨"java/lang/String", "length", "()I"⟩ ∈ lw_good) (h4 : 4 ≤ d) (hst : cats st ≤ 8) (kk : E g d b M q lv (.int (nI (sLen i)) :: st) s r s') : E g d b M pc lv (.ref (100000 + i) :: st) s r s' :=
  E_sV1 (M' := mS_len) (As := []) (n := 0) hi q hq hd ⟨jb, iniS, tg3 211 rfl rfl, ⟨by decide, by decide⟩, by decide +kernel, by decide⟩ rfl (tg3 209 rfl rfl) (tg3 210 rfl rfl) rfl (by omega) hst (C_slen hi) rfl kk
theorem E_schr {i idx : Nat} {k v : Int32} (hi : i < 66) (q : Nat) (hq : pc + 3 = q) (hd : decode M.2.1 pc = .ok (.invokevirtual idx, 3)) (jb : Cond.methodLink M.1.cls idx ⟨"java/lang/String", "charAt", "(I)C"⟩ ∈ lw_good) (h4 : 5 ≤ d) (hst : cats st ≤ 8) (hv : chrAt i k = some v) (kk : E g d b M q lv (.int v :: st) s r s') : E g d b M pc lv (.int k :: .ref (100000 + i) :: st) s r s' :=
  E_sV1 (M' := mS_chr) (As := [.int k]) (n := 1) hi q hq hd ⟨jb, iniS, tg3 221 rfl rfl, ⟨by decide, by decide⟩, by decide +kernel, by decide⟩ rfl (tg3 219 rfl rfl) (tg3 220 rfl rfl) rfl (by omega) hst (C_schr hi hv) rfl kk
end
