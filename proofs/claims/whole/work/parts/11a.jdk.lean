abbrev nsN : String := "java/util/NoSuchElementException"
abbrev nsR : String := "java/lang/RuntimeException"
abbrev nsE : String := "java/lang/Exception"
/-- the words of the constructor chain from this class, whose entry is 13 -/
def nsAt (own : String) (ic : Nat) : List Cond :=
  Bundle.throwableAtoms ++ Bundle.throwableSAtoms ++ Bundle.passSAtoms nsN nsR 13 prog_32_method_4_code ++ Bundle.chainSAtoms nsR [nsE] ++
  [.methodLink own ic (Bundle.initS nsN), .instantiable nsN 6, .castable nsN nsN, .selects nsN Bundle.tFill0 Bundle.tFill0, .selects nsN Bundle.tFill Bundle.tFill,
   .lays nsN Bundle.tN "cause" "Ljava/lang/Throwable;", .lays nsN Bundle.tN "stackTrace" Bundle.steD, .lays nsN Bundle.tN "suppressedExceptions" Bundle.listD, .lays nsN Bundle.tN "detailMessage" "Ljava/lang/String;",
   .isRef (.static Bundle.tN "UNASSIGNED_STACK" Bundle.steD), .isRef (.static Bundle.tN "SUPPRESSED_SENTINEL" Bundle.listD),
   .fieldLink Bundle.tN 198 Bundle.tN "backtrace" "Ljava/lang/Object;", .lays Bundle.tN Bundle.tN "backtrace" "Ljava/lang/Object;", .lays nsN Bundle.tN "backtrace" "Ljava/lang/Object;"]
theorem ns0 : decode prog_32_method_4_code 0 = .ok (.aload_n 0, 1) := by decide +kernel
theorem ns1 : decode prog_32_method_4_code 1 = .ok (.aload_n 1, 1) := by decide +kernel
theorem ns2 : decode prog_32_method_4_code 2 = .ok (.invokespecial 13, 3) := by decide +kernel
theorem ns5 : decode prog_32_method_4_code 5 = .ok (.return_, 1) := by decide +kernel
section
variable {p : Program} {l : Launch} {e : Env} {R : Room} {s : State} {m₀ : MethodId} {args : Array Value} {below : List Frame} {meth : Method} {c : Code} {W9 : State} {locs : List Loc} {cells slots : Nat}
set_option maxHeartbeats 1000000 in
theorem nsCtor (X : Stand p l e R s m₀ args below meth c W9 locs cells slots) (hexec : p.tables.exec = Jvm.exec) (htr : e.platform.stackTraces = false) {own : String} {ic : Nat}
    (hown : s.vm.findClass own = some m₀.cls)
    (h : ∀ a ∈ nsAt own ic, a.before args s = true)
    (hlocs : ∀ x ∈ locs, ∀ cell, s.heap[x.base]? = some cell → cell.vm.isStatics = false)
    {a : Addr} {cX : ClassId} {kX : Class} (hfoundX : s.vm.findClass nsN = some cX) (hkX : s.vm.classes[cX]? = some kX) (hcell : W9.heap[a]? = some (freshCell cX kX)) (hnew : s.heap.size ≤ a)
    {msg : Value} (hmsg : msg.isRef = true)
    {g : JFrame} (hg : g.method = m₀) (hsize : g.locals.size = c.maxLocals) (hlocked : g.locked = none) (hentered : g.entered = []) {rest : List Value} (hstack : g.stack = msg :: .ref a :: .ref a :: rest)
    (hd6 : decode c.code g.pc = .ok (.invokespecial ic, 3)) (hd9 : decode c.code (g.pc + 3) = .ok (.athrow, 1)) (hout : ∀ x ∈ c.exceptionTable.toList, covers x (g.pc + 3) = false)
    (hRframes : 2 + 3 < R.frames) (hRlocals : 2 * g.monitorRoom + ((Value.ref a :: rest).map fun v => v.category).sum + (13 * (2 + 1) + 42) ≤ R.locals) (hlocks : meth.locks = false) :
    ∃ U : State, Steps p.tables e below (W9.setTop g) U ∧ U.status = .running ∧ Ended U below (.threw a) ∧ s.WarmedH U.vm ∧ s.sameButNew ({ U with vm := s.vm } : State) locs cells slots ∧
      ∃ ce, U.heap[a]? = some ce ∧ s.vm.findClass nsN = some ce.cls ∧ ce.vm = .none := by
  have howns : e.platform.frameOwnsMonitors = true := by rw [X.admits.platform]
  have hfin : e.platform.finalization = false := by rw [X.admits.platform]
  have hpl : e.platform.magicAccessors = ({} : Platform).magicAccessors := by rw [X.admits.platform]
  have a' : ∀ x, x ∈ nsAt own ic → x.holds args s none s [] = true := fun x hx => h x hx
  obtain ⟨T, Z0, L, -, Y⟩ := ThrowableC.of_atoms (args := args) howns hfin hpl (fun x hx => h x (by simp [nsAt, hx]))
  obtain ⟨Z, M, LZ, LM, hnZ⟩ := Init0T.ofS_atoms (args := args) hpl L Y (fun x hx => h x (by simp [nsAt, hx]))
  obtain ⟨P1, L1, hP1m, hs1⟩ := PassC.ofS_atoms (args := args) (s := s) hpl (X := nsN) (Y := nsR) (by decide +kernel) ⟨by decide, by decide⟩ ns0 ns1 ns2 ns5 (fun x hx => h x (by simp [nsAt, hx]))
  obtain ⟨P2, Ps, hlen, L2, hL, hP2m, hlink2, hlink⟩ := Bundle.chainS (args := args) hpl hnZ [nsE] nsR (by decide +kernel) (by decide +kernel) (fun x hx => h x (by simp [nsAt, hx]))
  have hlink1 : P1.sup = P2.m := Option.some.inj (hs1.symm.trans hP2m)
  have hfound : s.vm.findClass nsN = some P1.m.cls := findClass_of_methodNamed hP1m
  cases Option.some.inj (hfoundX.symm.trans hfound)
  obtain ⟨c1, kX', hc1, hk, hord, -, -, hn6⟩ := Cond.instantiable_spec (a' (.instantiable nsN 6) (by simp [nsAt]))
  cases Option.some.inj (hc1.symm.trans hfound)
  cases Option.some.inj (hkX.symm.trans hk)
  have hsel0 : selectMethod e.platform s.vm P1.m.cls T.fill0 = .method T.fill0 := by
    obtain ⟨c2, r2, m2, q1, q2, q3, q4, -⟩ := Cond.selects_spec (a' (.selects nsN Bundle.tFill0 Bundle.tFill0) (by simp [nsAt]))
    cases Option.some.inj (q1.symm.trans hfound)
    cases Option.some.inj (q2.symm.trans (State.methodFound?_of_named Y.fill0 (by decide)))
    cases Option.some.inj (q3.symm.trans Y.fill0)
    rw [Launch.admits_selectMethod X.admits]; exact q4
  have hselF : selectMethod e.platform s.vm P1.m.cls T.fill = .method T.fill := by
    obtain ⟨c2, r2, m2, q1, q2, q3, q4, -⟩ := Cond.selects_spec (a' (.selects nsN Bundle.tFill Bundle.tFill) (by simp [nsAt]))
    cases Option.some.inj (q1.symm.trans hfound)
    cases Option.some.inj (q2.symm.trans (State.methodFound?_of_named Y.fill (by decide)))
    cases Option.some.inj (q3.symm.trans Y.fill)
    rw [Launch.admits_selectMethod X.admits]; exact q4
  obtain ⟨cellS0, hcS0, hiss⟩ := Y.statics
  obtain ⟨u0, hu0⟩ := Cond.staticRefV Y.unassigned L.unassignedStatic L.statics hcS0 hiss (a' (.isRef (.static Bundle.tN "UNASSIGNED_STACK" Bundle.steD)) (by simp [nsAt]))
  obtain ⟨sen, hsen⟩ := Cond.staticRefV Y.sentinel L.sentinelStatic L.statics hcS0 hiss (a' (.isRef (.static Bundle.tN "SUPPRESSED_SENTINEL" Bundle.listD)) (by simp [nsAt]))
  obtain ⟨ci198, i198, fB, hk198, hg198, ha198, hsB, -, hnB, htB, hffB⟩ := Cond.ownField (t := .object "java/lang/Object") Y.found L.cls (by decide +kernel) (a' (.fieldLink Bundle.tN 198 Bundle.tN "backtrace" "Ljava/lang/Object;") (by simp [nsAt])) (a' (.lays Bundle.tN Bundle.tN "backtrace" "Ljava/lang/Object;") (by simp [nsAt])) e.platform hpl
  obtain ⟨cellS, hcS', heS, -, hkeep⟩ := X.same.2.2.2.2.2 T.aS cellS0 hcS0
  have hcellS : W9.heap[T.aS]? = some cellS := hcS'
  have hout' : ∀ i, (⟨T.aS, i⟩ : Loc) ∉ locs := fun i hmem => by
    have := hlocs _ hmem cellS0 hcS0
    rw [hiss] at this; cases this
  have hknownS : cellS.vm ≠ .unknown := by
    rw [heS]; intro hu
    rw [show cellS0.vm = .unknown from hu] at hiss
    cases hiss
  have hneS : T.aS ≠ a := Nat.ne_of_lt (Nat.lt_of_lt_of_le (Array.getElem?_eq_some_iff.mp hcS0).1 hnew)
  obtain ⟨iM, hffM⟩ := Y.msg
  obtain ⟨tyC, dC, hdC, hdnC⟩ := Cond.laysAt hfound hk Y.cause (a' (.lays nsN Bundle.tN "cause" "Ljava/lang/Throwable;") (by simp [nsAt]))
  obtain ⟨tyS, dS, hdS, hdnS⟩ := Cond.laysAt hfound hk Y.stack (a' (.lays nsN Bundle.tN "stackTrace" Bundle.steD) (by simp [nsAt]))
  obtain ⟨tyP, dP, hdP, hdnP⟩ := Cond.laysAt hfound hk Y.supp (a' (.lays nsN Bundle.tN "suppressedExceptions" Bundle.listD) (by simp [nsAt]))
  obtain ⟨tyM, dM, hdM, hdnM⟩ := Cond.laysAt hfound hk hffM (a' (.lays nsN Bundle.tN "detailMessage" "Ljava/lang/String;") (by simp [nsAt]))
  obtain ⟨tyB, dB, hdB, hdnB⟩ := Cond.laysAt hfound hk hffB (a' (.lays nsN Bundle.tN "backtrace" "Ljava/lang/Object;") (by simp [nsAt]))
  have bC := Cond.laysApart hdB hdC hdnB hdnC (by rw [hnB, Y.causeName]; decide)
  have bS := Cond.laysApart hdB hdS hdnB hdnS (by rw [hnB, Y.stackName]; decide)
  have bP := Cond.laysApart hdB hdP hdnB hdnP (by rw [hnB, Y.suppName]; decide)
  have hskip : SkipFacts T e.platform s (fun u => u) u0 ((preparedCellV T.toThrowableT (freshCell P1.m.cls kX) a u0 sen).withEntry W9.cur) :=
    ⟨{ ci198 := ci198, i198 := i198, fBack := fB }, ⟨hk198, hg198, ha198, hsB⟩, by
      have := fresh_default (c := P1.m.cls) tyB
      rw [htB] at this
      simpa [preparedCellV, Cell.setSlot, Cell.withEntry, Array.getElem?_setIfInBounds, bC, bS, bP, bC.symm, bS.symm, bP.symm, defaultValue] using this, fun _ _ => rfl⟩
  obtain ⟨tm, methC, cdC, kC, vm₁, hnC, -, -, -, -, -, -, -, hW₁, st1⟩ := Steps.initColdS (tb := p.tables) (e := e) (below := below) (s := s) (U := W9) X.here hexec X.warmed hpl hown (t := Bundle.initS nsN) rfl rfl ⟨by decide, by decide⟩
    (a' (.methodLink own ic (Bundle.initS nsN)) (by simp [nsAt])) (h (.instanceMethod (Bundle.initS nsN)) (by simp [nsAt, Bundle.passSAtoms])) (bytes := prog_32_method_4_code) (maxL := 2) (h (.code (Bundle.initS nsN) prog_32_method_4_code 2 none) (by simp [nsAt, Bundle.passSAtoms]))
    (f := g) hg (a := a) (msg := msg) (rest := .ref a :: rest) hstack hd6
  cases Option.some.inj (hnC.symm.trans hP1m)
  have X₁ := X.noted hW₁
  obtain ⟨vm₂, X₂, st2⟩ := X₁.ctorMessageOffV hexec (g := { g with stack := .ref a :: rest }) hg hsize T L Z LZ M LM (P1 :: P2 :: Ps)
    (fun P hP => by rcases List.mem_cons.mp hP with rfl | hP; exact L1; rcases List.mem_cons.mp hP with rfl | hP; exact L2; exact hL P hP) ⟨hlink1, hlink2, hlink⟩ (u0 := u0) (sen := sen) (self := a) hmsg (cell := freshCell P1.m.cls kX) (cellS := cellS)
    hcell (fun _ => by simp) (by simp) rfl rfl hsel0 hselF hcellS hneS hknownS (by rw [hkeep _ (hout' _)]; exact hu0) (by rw [hkeep _ (hout' _)]; exact hsen)
    (Takes.of_laid hk hord tyC (by rw [Y.causeType]; rfl)) (Takes.of_laid hk hord tyS (by rw [Y.stackType]; exact fits_refV_array _ u0)) (Takes.of_laid hk hord tyP (by rw [Y.suppType]; exact fits_refV_object _ sen))
    (Takes.of_laid hk hord tyM (by rw [Y.msgType]; exact fits_refV_object _ ⟨msg, hmsg⟩)) Y.objLocals hskip htr [] hd6
    (by simp only [List.length_cons, hlen, List.length_nil]; omega) (by simp only [List.length_cons, hlen, List.length_nil]; exact hRlocals)
  obtain ⟨hwalk, hrun, hended, hWU, hsame⟩ := X₂.athrowLeaves hexec (g := { g with stack := .ref a :: rest, pc := g.pc + 3 }) hg hlocked hentered hout (a := a) (rest := rest) rfl hd9
  have hlt : a < ((W9.setVm vm₁).setVm vm₂).heap.size := (Array.getElem?_eq_some_iff.mp hcell).1
  have hU := heapAt_setCell_self (s := (W9.setVm vm₁).setVm vm₂) (plainBareV T.toThrowableT (freshCell P1.m.cls kX) a u0 sen msg) hlt
  refine ⟨_, st1 _ (fun acts => ?_), hrun, hended, hWU, hsame.weaken (fun y hy hlt' => ?_) (Nat.le_refl _) (Nat.le_refl _), _, hU, hfound, rfl⟩
  · rw [doInvoke_state]
    exact st2 _ hwalk
  · rcases List.mem_append.mp hy with h1 | h1
    · exact h1
    · exfalso
      have hb : y.base = a := by
        simp only [List.mem_cons, List.not_mem_nil, or_false] at h1
        rcases h1 with rfl | rfl | rfl | rfl | rfl <;> rfl
      rw [hb] at hlt'
      exact Nat.not_lt.mpr hnew hlt'
end
def nsA (own : String) (ic : Nat) : List Cond := (nsAt own ic).filter vx_no
def NK (own : String) (ik ic : Nat) : Prop := Cond.classLink own ik nsN ∈ lw_good ∧ Cond.initialized nsN ∈ lw_good ∧ ∀ w ∈ nsA own ic, w ∈ lw_good ∨ w ∈ exW
section
variable {g : Gx} {d b : Nat} {M : Mth} {pc : Nat} {lv lv' : List (Nat × Value)} {st : List Value} {s s' : St} {r : Rs}
set_option maxHeartbeats 1000000 in
theorem E_throwN {tx : String} {ik is ic i : Nat} (tk : NK M.1.cls ik ic) (hstr0 : strT[i]? = some (M.1.cls, is, tx)) (d0 : decode M.2.1 pc = .ok (.new ik, 3)) (d3 : decode M.2.1 (pc + 3) = .ok (.dup, 1)) (d4 : decode M.2.1 (pc + 4) = .ok (.ldc is, 2)) (d6 : decode M.2.1 (pc + 6) = .ok (.invokespecial ic, 3)) (d9 : decode M.2.1 (pc + 9) = .ok (.athrow, 1)) (h6 : 6 ≤ d) : E g d 1 M pc lv [] s (.inr nsN) s := by
  intro p l e R u m args below meth c H locs cells slots ls C hW hS hl h1 h2
  obtain ⟨hx, hb, hr, hml, hown, hts, hlk, hno, htr0, hK, hf, hlo⟩ := id C
  obtain ⟨t3, t4, t5⟩ := tk
  have hwb : ∀ w ∈ nsA M.1.cls ic, w.before args u = true := fun w hw => (t5 w hw).elim (hts w) (fun e9 => va_Nw.use (exW_on w e9) (hK.2.2.2.2.2.2 w e9))
  have hot : ∀ w, w ∈ lw_good ∨ w ∈ exW → vx_ot w = true := by
    intro w hw'
    show (w.onTables || goodWord w) = true
    rcases hw' with hw' | hw'
    · rw [(List.mem_filter.mp hw').2, Bool.or_true]
    · rw [exW_on w hw', Bool.true_or]
  intro T hT X
  have htr : e.platform.stackTraces = false := (show e.platform.stackTraces = l.stackTraces by rw [X.admits.platform]).trans htr0
  have Y := vx_rebase X (R' := { frames := R.frames, locals := R.locals, cells := 1, slots := 6 }) (Nat.le_refl _) (Nat.le_refl _) (show cells + 1 ≤ R.cells by omega) (show slots + 6 ≤ R.slots by omega)
  obtain ⟨s', hA⟩ : ∃ z, z = (T.setVm u.vm).setFrames (.invoking m args :: below) := ⟨_, rfl⟩
  rw [← hA] at Y
  have hvm : s'.vm = u.vm := by rw [hA]; rfl
  have hhp : s'.heap = H := by rw [hA]; exact hT
  have hW0 : u.WarmedH s'.vm := by rw [hvm]; exact State.WarmedH.refl u
  have hat' : ∀ w ∈ nsA M.1.cls ic, w.before args s' = true := fun w hw => vx_ot_at hW0 hvm.symm (hot w (t5 w hw)) (hwb w hw)
  have hk' : (Cond.classLink M.1.cls ik nsN).before args s' = true := vx_ot_at hW0 hvm.symm (hot _ (Or.inl t3)) (hts _ t3)
  have hini' : (Cond.initialized nsN).before args s' = true := vx_ot_at hW0 hvm.symm (hot _ (Or.inl t4)) (hts _ t4)
  have hU' : vx_Zq Bundle.tN "UNASSIGNED_STACK" Bundle.steD (Ag g) s' s'.heap := by rw [hhp]; exact vx_Zq.moved hW0.alike (hK.2.2.2.1.kept hS.2.1)
  have hN' : vx_Zq Bundle.tN "SUPPRESSED_SENTINEL" Bundle.listD (Ag g) s' s'.heap := by rw [hhp]; exact vx_Zq.moved hW0.alike (hK.2.2.2.2.1.kept hS.2.1)
  have h : ∀ w ∈ nsAt M.1.cls ic, w.before args s' = true := vx_own hat' (vx_isRefq hU'.1) (vx_isRefq hN'.1) hU'.2.word hN'.2.word
  have hown' : s'.vm.findClass M.1.cls = some m.cls := by rw [hvm]; exact hown
  have hins : (Cond.instantiable nsN 6).before args s' = true := h _ (by simp [nsAt])
  obtain ⟨vm₁, cX, kX, hfX, hkX, -, -, X₁, st1⟩ := Y.newCold hx (own := M.1.cls) (C := nsN) (index := ik) (n := 6) hown' hk' hins hini'
    (g := F0 m pc ls []) rfl (by rw [hb]; exact d0) (Nat.le_refl _) (Nat.le_refl _)
  generalize hT1 : (T.setVm vm₁).pushCell { cls := cX, slots := kX.instanceTypes.map defaultValue, vm := .none } = T1 at X₁ st1
  have hcellA : T1.heap[T.heap.size]? = some (freshCell cX kX) := by rw [← hT1]; exact State.heap_pushCell_size _ _
  have d3' : decode c.code (pc + 3) = .ok (.dup, 1) := by rw [hb]; exact d3
  have d4' : decode c.code (pc + 4) = .ok (.ldc is, 2) := by rw [hb]; exact d4
  have hstr' : vk_R M.1.cls is tx (g.2.2.2.1 i) s' := vk_R.warm hW0 (hK.2.2.1 i _ _ _ hstr0)
  obtain ⟨U, hsteps, hrun, hend, hWU, hsame, ce, hce, hcls, hcv⟩ := nsCtor X₁ hx htr (own := M.1.cls) (ic := ic) hown' h (fun x hx => nomatch hx) hfX hkX hcellA (by rw [hhp, hT]; exact Nat.le_refl _) (msg := .ref (g.2.2.2.1 i)) rfl
    (g := { method := m, pc := pc + 6, locals := ls, stack := .ref (g.2.2.2.1 i) :: .ref T.heap.size :: .ref T.heap.size :: [], locked := none }) rfl (hl.1.trans hml.symm) rfl rfl (rest := []) rfl
    (by rw [hb]; exact d6) (by rw [hb]; exact d9) (fun x hx9 => (hno x hx9).elim) (by show 2 + 3 < R.frames; omega) (by show 2 * 0 + (1 + 0) + (13 * (2 + 1) + 42) ≤ R.locals; omega) hlk
  obtain ⟨f1, f2⟩ := vx_frame hsame
  rw [hhp] at f1 f2
  have hWs : u.WarmedH U.vm := State.WarmedH.trans hW0 hWU
  have hcl : u.vm.findClass nsN = some ce.cls := by rw [hvm] at hcls; exact hcls
  have hall : u.sameButNew ({ U with vm := u.vm } : State) locs R.cells R.slots := by
    subst hA
    obtain ⟨e1, e2⟩ := hsame
    rw [State.setFrames_setFrames] at e1
    have h2 : (T.setVm u.vm).sameButNew ({ U with vm := u.vm } : State) [] (0 + 1) (0 + 6) := ⟨e1, e2⟩
    have h3 := X.same.trans h2
    rw [List.append_nil] at h3
    exact h3.mono (by omega) (by omega)
  have hxx : Xr g (.inr nsN) s nsN u U := by
    have hk : ∀ q : Nat, q < H.size → U.heap[q]? = H[q]? := fun q hq => f2 q hq (fun z hz => nomatch hz)
    refine ⟨rfl, hW.kept (fun k q hq => hk q.1 (hW k q hq).lt), Nat.le_trans hS.1 f1, fun q h3 h4 => ?_⟩
    rw [hk q (Nat.lt_of_lt_of_le h3 hS.1)]
    exact hS.2.1 q h3 h4
  refine ⟨U, ?_, .threw T.heap.size, hrun, hend, Or.inr ⟨T.heap.size, rfl, nsN, ce, locs, hxx, hce, hcv, hcl, hWs, hall, hS.2.2⟩⟩
  refine st1 _ ?_
  show Steps p.tables e below (T1.setTop { method := m, pc := pc + 3, locals := ls, stack := .ref T.heap.size :: [], locked := none }) _
  jvm_step X₁.here [X₁.here.top, hx, d3', Value.category]
  exact X₁.ldcString hx (own := M.1.cls) (text := tx) (index := is) (a := g.2.2.2.1 i) hown' hstr'.1 hstr'.2
    (g := { method := m, pc := pc + 4, locals := ls, stack := .ref T.heap.size :: .ref T.heap.size :: [], locked := none }) rfl d4' _ hsteps
set_option maxHeartbeats 1000000 in
theorem E_throwNW {tx : String} {ik is ic i : Nat} (tk : NK M.1.cls ik ic) (hstr0 : strT[i]? = some (M.1.cls, is, tx)) (d0 : decode M.2.1 pc = .ok (.new ik, 3)) (d3 : decode M.2.1 (pc + 3) = .ok (.dup, 1)) (d4 : decode M.2.1 (pc + 4) = .ok (.ldc_w is, 3)) (d6 : decode M.2.1 (pc + 7) = .ok (.invokespecial ic, 3)) (d9 : decode M.2.1 (pc + 10) = .ok (.athrow, 1)) (h6 : 6 ≤ d) : E g d 1 M pc lv [] s (.inr nsN) s := by
  intro p l e R u m args below meth c H locs cells slots ls C hW hS hl h1 h2
  obtain ⟨hx, hb, hr, hml, hown, hts, hlk, hno, htr0, hK, hf, hlo⟩ := id C
  obtain ⟨t3, t4, t5⟩ := tk
  have hwb : ∀ w ∈ nsA M.1.cls ic, w.before args u = true := fun w hw => (t5 w hw).elim (hts w) (fun e9 => va_Nw.use (exW_on w e9) (hK.2.2.2.2.2.2 w e9))
  have hot : ∀ w, w ∈ lw_good ∨ w ∈ exW → vx_ot w = true := by
    intro w hw'
    show (w.onTables || goodWord w) = true
    rcases hw' with hw' | hw'
    · rw [(List.mem_filter.mp hw').2, Bool.or_true]
    · rw [exW_on w hw', Bool.true_or]
  intro T hT X
  have htr : e.platform.stackTraces = false := (show e.platform.stackTraces = l.stackTraces by rw [X.admits.platform]).trans htr0
  have Y := vx_rebase X (R' := { frames := R.frames, locals := R.locals, cells := 1, slots := 6 }) (Nat.le_refl _) (Nat.le_refl _) (show cells + 1 ≤ R.cells by omega) (show slots + 6 ≤ R.slots by omega)
  obtain ⟨s', hA⟩ : ∃ z, z = (T.setVm u.vm).setFrames (.invoking m args :: below) := ⟨_, rfl⟩
  rw [← hA] at Y
  have hvm : s'.vm = u.vm := by rw [hA]; rfl
  have hhp : s'.heap = H := by rw [hA]; exact hT
  have hW0 : u.WarmedH s'.vm := by rw [hvm]; exact State.WarmedH.refl u
  have hat' : ∀ w ∈ nsA M.1.cls ic, w.before args s' = true := fun w hw => vx_ot_at hW0 hvm.symm (hot w (t5 w hw)) (hwb w hw)
  have hk' : (Cond.classLink M.1.cls ik nsN).before args s' = true := vx_ot_at hW0 hvm.symm (hot _ (Or.inl t3)) (hts _ t3)
  have hini' : (Cond.initialized nsN).before args s' = true := vx_ot_at hW0 hvm.symm (hot _ (Or.inl t4)) (hts _ t4)
  have hU' : vx_Zq Bundle.tN "UNASSIGNED_STACK" Bundle.steD (Ag g) s' s'.heap := by rw [hhp]; exact vx_Zq.moved hW0.alike (hK.2.2.2.1.kept hS.2.1)
  have hN' : vx_Zq Bundle.tN "SUPPRESSED_SENTINEL" Bundle.listD (Ag g) s' s'.heap := by rw [hhp]; exact vx_Zq.moved hW0.alike (hK.2.2.2.2.1.kept hS.2.1)
  have h : ∀ w ∈ nsAt M.1.cls ic, w.before args s' = true := vx_own hat' (vx_isRefq hU'.1) (vx_isRefq hN'.1) hU'.2.word hN'.2.word
  have hown' : s'.vm.findClass M.1.cls = some m.cls := by rw [hvm]; exact hown
  have hins : (Cond.instantiable nsN 6).before args s' = true := h _ (by simp [nsAt])
  obtain ⟨vm₁, cX, kX, hfX, hkX, -, -, X₁, st1⟩ := Y.newCold hx (own := M.1.cls) (C := nsN) (index := ik) (n := 6) hown' hk' hins hini'
    (g := F0 m pc ls []) rfl (by rw [hb]; exact d0) (Nat.le_refl _) (Nat.le_refl _)
  generalize hT1 : (T.setVm vm₁).pushCell { cls := cX, slots := kX.instanceTypes.map defaultValue, vm := .none } = T1 at X₁ st1
  have hcellA : T1.heap[T.heap.size]? = some (freshCell cX kX) := by rw [← hT1]; exact State.heap_pushCell_size _ _
  have d3' : decode c.code (pc + 3) = .ok (.dup, 1) := by rw [hb]; exact d3
  have d4' : decode c.code (pc + 4) = .ok (.ldc_w is, 3) := by rw [hb]; exact d4
  have hstr' : vk_R M.1.cls is tx (g.2.2.2.1 i) s' := vk_R.warm hW0 (hK.2.2.1 i _ _ _ hstr0)
  obtain ⟨U, hsteps, hrun, hend, hWU, hsame, ce, hce, hcls, hcv⟩ := nsCtor X₁ hx htr (own := M.1.cls) (ic := ic) hown' h (fun x hx => nomatch hx) hfX hkX hcellA (by rw [hhp, hT]; exact Nat.le_refl _) (msg := .ref (g.2.2.2.1 i)) rfl
    (g := { method := m, pc := pc + 7, locals := ls, stack := .ref (g.2.2.2.1 i) :: .ref T.heap.size :: .ref T.heap.size :: [], locked := none }) rfl (hl.1.trans hml.symm) rfl rfl (rest := []) rfl
    (by rw [hb]; exact d6) (by rw [hb]; exact d9) (fun x hx9 => (hno x hx9).elim) (by show 2 + 3 < R.frames; omega) (by show 2 * 0 + (1 + 0) + (13 * (2 + 1) + 42) ≤ R.locals; omega) hlk
  obtain ⟨f1, f2⟩ := vx_frame hsame
  rw [hhp] at f1 f2
  have hWs : u.WarmedH U.vm := State.WarmedH.trans hW0 hWU
  have hcl : u.vm.findClass nsN = some ce.cls := by rw [hvm] at hcls; exact hcls
  have hall : u.sameButNew ({ U with vm := u.vm } : State) locs R.cells R.slots := by
    subst hA
    obtain ⟨e1, e2⟩ := hsame
    rw [State.setFrames_setFrames] at e1
    have h2 : (T.setVm u.vm).sameButNew ({ U with vm := u.vm } : State) [] (0 + 1) (0 + 6) := ⟨e1, e2⟩
    have h3 := X.same.trans h2
    rw [List.append_nil] at h3
    exact h3.mono (by omega) (by omega)
  have hxx : Xr g (.inr nsN) s nsN u U := by
    have hk : ∀ q : Nat, q < H.size → U.heap[q]? = H[q]? := fun q hq => f2 q hq (fun z hz => nomatch hz)
    refine ⟨rfl, hW.kept (fun k q hq => hk q.1 (hW k q hq).lt), Nat.le_trans hS.1 f1, fun q h3 h4 => ?_⟩
    rw [hk q (Nat.lt_of_lt_of_le h3 hS.1)]
    exact hS.2.1 q h3 h4
  refine ⟨U, ?_, .threw T.heap.size, hrun, hend, Or.inr ⟨T.heap.size, rfl, nsN, ce, locs, hxx, hce, hcv, hcl, hWs, hall, hS.2.2⟩⟩
  refine st1 _ ?_
  show Steps p.tables e below (T1.setTop { method := m, pc := pc + 3, locals := ls, stack := .ref T.heap.size :: [], locked := none }) _
  jvm_step X₁.here [X₁.here.top, hx, d3', Value.category]
  exact X₁.ldcStringW hx (own := M.1.cls) (text := tx) (index := is) (a := g.2.2.2.1 i) hown' hstr'.1 hstr'.2
    (g := { method := m, pc := pc + 4, locals := ls, stack := .ref T.heap.size :: .ref T.heap.size :: [], locked := none }) rfl d4' _ hsteps
end
