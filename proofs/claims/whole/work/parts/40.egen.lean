/-- what else a frame knows; what its end owes -/
abbrev Pz : Type := Launch → Room → State → Array Value → Code → Prop
abbrev Qz : Type := Room → State → Array Value → List Frame → State → Prop
def Cg (P : Pz) (g : Gx) (d : Nat) (M : Mth) (p : Program) (l : Launch) (R : Room) (s : State) (m : MethodId) (args : Array Value) (meth : Method) (c : Code) : Prop :=
  p.tables.exec = Jvm.exec ∧ c.code = M.2.1 ∧ meth.sig.returnType = M.2.2.2 ∧ c.maxLocals = M.2.2.1 ∧ s.vm.findClass M.1.cls = some m.cls ∧ (∀ w ∈ lw_good, w.before args s = true) ∧ meth.locks = false ∧ P l R s args c ∧ l.stackTraces = false ∧ HK g s s.heap ∧ d ≤ R.frames ∧ 64 * d ≤ R.locals
def EG (P : Pz) (Q : Qz) (g : Gx) (d b : Nat) (M : Mth) (pc : Nat) (lv : List (Nat × Value)) (st : List Value) (s : St) : Prop :=
  ∀ (p : Program) (l : Launch) (e : Env) (R : Room) (u : State) (m : MethodId) (args : Array Value) (below : List Frame) (meth : Method) (c : Code) (H : Heap) (locs : List Loc) (cells slots : Nat) (ls : Array Slot),
    Cg P g d M p l R u m args meth c → HW g s H → va_S (Ag g) u.heap H locs → lv_has ls M.2.2.1 (lv.map (cq g)) → cells + b ≤ R.cells → slots + 8 * b ≤ R.slots →
    W p l e R u m args below meth c H locs cells slots (Q R u args below) (F0 m pc ls (st.map (cv g)))
section
variable {P : Pz} {Q : Qz} {g : Gx} {d b : Nat} {M : Mth} {pc : Nat} {lv lv' : List (Nat × Value)} {st : List Value} {s : St}
theorem G_sub (ks : List Nat) (h : lv_pick lv ks = lv') (k : EG P Q g d b M pc lv' st s) : EG P Q g d b M pc lv st s := by
  intro p l e R u m args below meth c H locs cells slots ls C hW hS hl h1 h2
  refine k p l e R u m args below meth c H locs cells slots ls C hW hS (lv_sub hl ks ?_) h1 h2
  rw [← h]
  unfold lv_pick
  rw [List.map_filterMap]
  congr 1
  funext j
  rw [List.getElem?_map]
theorem G_iconst {n : Int} {v : Int32} (q : Nat) (hq : pc + 1 = q) (hd : decode M.2.1 pc = .ok (.iconst n, 1)) (hv : Int32.ofInt n = v) (k : EG P Q g d b M q lv (.int v :: st) s) : EG P Q g d b M pc lv (st) s := by
  subst hq
  intro p l e R u m args below meth c H locs cells slots ls C hW hS hl h1 h2
  exact lv_iconst C.1 C.2.1 hd hv (k p l e R u m args below meth c H locs cells slots ls C hW hS hl h1 h2)
theorem G_bipush {n : Int} {v : Int32} (q : Nat) (hq : pc + 2 = q) (hd : decode M.2.1 pc = .ok (.bipush n, 2)) (hv : (Int8.ofInt n).toInt32 = v) (k : EG P Q g d b M q lv (.int v :: st) s) : EG P Q g d b M pc lv (st) s := by
  subst hq
  intro p l e R u m args below meth c H locs cells slots ls C hW hS hl h1 h2
  exact lv_bipush C.1 C.2.1 hd hv (k p l e R u m args below meth c H locs cells slots ls C hW hS hl h1 h2)
theorem G_lconst {n : Fin 2} {v : Int64} (q : Nat) (hq : pc + 1 = q) (hd : decode M.2.1 pc = .ok (.lconst n, 1)) (hv : Int64.ofNat (n : Nat) = v) (k : EG P Q g d b M q lv (.long v :: st) s) : EG P Q g d b M pc lv (st) s := by
  subst hq
  intro p l e R u m args below meth c H locs cells slots ls C hW hS hl h1 h2
  exact lv_lconst C.1 C.2.1 hd hv (k p l e R u m args below meth c H locs cells slots ls C hW hS hl h1 h2)
theorem G_iload_n {k : Fin 4} {i : Nat} {x : Int32} (q : Nat) (hq : pc + 1 = q) (hd : decode M.2.1 pc = .ok (.iload_n k, 1)) (hi : (k : Nat) = i) (j : Nat) (hj : lv[j]? = some (i, .int x)) (kk : EG P Q g d b M q lv (.int x :: st) s) : EG P Q g d b M pc lv st s := by
  subst hq
  intro p l e R u m args below meth c H locs cells slots ls C hW hS hl h1 h2
  exact lv_iload_n C.1 C.2.1 hd hi (lv_at hl j (cq_at hj)) (kk p l e R u m args below meth c H locs cells slots ls C hW hS hl h1 h2)
theorem G_iload {i : Nat} {x : Int32} (q : Nat) (hq : pc + 2 = q) (hd : decode M.2.1 pc = .ok (.iload i, 2)) (j : Nat) (hj : lv[j]? = some (i, .int x)) (kk : EG P Q g d b M q lv (.int x :: st) s) : EG P Q g d b M pc lv st s := by
  subst hq
  intro p l e R u m args below meth c H locs cells slots ls C hW hS hl h1 h2
  exact lv_iload C.1 C.2.1 hd (lv_at hl j (cq_at hj)) (kk p l e R u m args below meth c H locs cells slots ls C hW hS hl h1 h2)
theorem G_lload_n {k : Fin 4} {i : Nat} {x : Int64} (q : Nat) (hq : pc + 1 = q) (hd : decode M.2.1 pc = .ok (.lload_n k, 1)) (hi : (k : Nat) = i) (j : Nat) (hj : lv[j]? = some (i, .long x)) (kk : EG P Q g d b M q lv (.long x :: st) s) : EG P Q g d b M pc lv st s := by
  subst hq
  intro p l e R u m args below meth c H locs cells slots ls C hW hS hl h1 h2
  exact lv_lload_n C.1 C.2.1 hd hi (lv_at hl j (cq_at hj)) (kk p l e R u m args below meth c H locs cells slots ls C hW hS hl h1 h2)
theorem G_lload {i : Nat} {x : Int64} (q : Nat) (hq : pc + 2 = q) (hd : decode M.2.1 pc = .ok (.lload i, 2)) (j : Nat) (hj : lv[j]? = some (i, .long x)) (kk : EG P Q g d b M q lv (.long x :: st) s) : EG P Q g d b M pc lv st s := by
  subst hq
  intro p l e R u m args below meth c H locs cells slots ls C hW hS hl h1 h2
  exact lv_lload C.1 C.2.1 hd (lv_at hl j (cq_at hj)) (kk p l e R u m args below meth c H locs cells slots ls C hW hS hl h1 h2)
theorem G_aload_n {k : Fin 4} {i : Nat} {x : Nat} (q : Nat) (hq : pc + 1 = q) (hd : decode M.2.1 pc = .ok (.aload_n k, 1)) (hi : (k : Nat) = i) (j : Nat) (hj : lv[j]? = some (i, .ref x)) (kk : EG P Q g d b M q lv (.ref x :: st) s) : EG P Q g d b M pc lv st s := by
  subst hq
  intro p l e R u m args below meth c H locs cells slots ls C hW hS hl h1 h2
  exact lv_aload_n C.1 C.2.1 hd hi (lv_at hl j (cq_at hj)) (kk p l e R u m args below meth c H locs cells slots ls C hW hS hl h1 h2)
theorem G_aload {i : Nat} {x : Nat} (q : Nat) (hq : pc + 2 = q) (hd : decode M.2.1 pc = .ok (.aload i, 2)) (j : Nat) (hj : lv[j]? = some (i, .ref x)) (kk : EG P Q g d b M q lv (.ref x :: st) s) : EG P Q g d b M pc lv st s := by
  subst hq
  intro p l e R u m args below meth c H locs cells slots ls C hW hS hl h1 h2
  exact lv_aload C.1 C.2.1 hd (lv_at hl j (cq_at hj)) (kk p l e R u m args below meth c H locs cells slots ls C hW hS hl h1 h2)
theorem G_istore_n {k : Fin 4} {i : Nat} {x : Int32} (q : Nat) (hq : pc + 1 = q) (hd : decode M.2.1 pc = .ok (.istore_n k, 1)) (hi : (k : Nat) = i) (hn : i < M.2.2.1) (h : (i, Value.int x) :: lv.filter (pf1 i) = lv') (kk : EG P Q g d b M q lv' st s) : EG P Q g d b M pc lv (.int x :: st) s := by
  subst hq
  intro p l e R u m args below meth c H locs cells slots ls C hW hS hl h1 h2
  exact lv_istore_n C.1 C.2.1 hd hi hl hn (pf1_map h) (fun ls' hl' => kk p l e R u m args below meth c H locs cells slots ls' C hW hS hl' h1 h2)
theorem G_istore {i : Nat} {x : Int32} (q : Nat) (hq : pc + 2 = q) (hd : decode M.2.1 pc = .ok (.istore i, 2)) (hn : i < M.2.2.1) (h : (i, Value.int x) :: lv.filter (pf1 i) = lv') (kk : EG P Q g d b M q lv' st s) : EG P Q g d b M pc lv (.int x :: st) s := by
  subst hq
  intro p l e R u m args below meth c H locs cells slots ls C hW hS hl h1 h2
  exact lv_istore C.1 C.2.1 hd hl hn (pf1_map h) (fun ls' hl' => kk p l e R u m args below meth c H locs cells slots ls' C hW hS hl' h1 h2)
theorem G_lstore_n {k : Fin 4} {i : Nat} {x : Int64} (q : Nat) (hq : pc + 1 = q) (hd : decode M.2.1 pc = .ok (.lstore_n k, 1)) (hi : (k : Nat) = i) (hn : i + 1 < M.2.2.1) (h : (i, Value.long x) :: lv.filter (pf2 i) = lv') (kk : EG P Q g d b M q lv' st s) : EG P Q g d b M pc lv (.long x :: st) s := by
  subst hq
  intro p l e R u m args below meth c H locs cells slots ls C hW hS hl h1 h2
  exact lv_lstore_n C.1 C.2.1 hd hi hl hn (pf2_map h) (fun ls' hl' => kk p l e R u m args below meth c H locs cells slots ls' C hW hS hl' h1 h2)
theorem G_lstore {i : Nat} {x : Int64} (q : Nat) (hq : pc + 2 = q) (hd : decode M.2.1 pc = .ok (.lstore i, 2)) (hn : i + 1 < M.2.2.1) (h : (i, Value.long x) :: lv.filter (pf2 i) = lv') (kk : EG P Q g d b M q lv' st s) : EG P Q g d b M pc lv (.long x :: st) s := by
  subst hq
  intro p l e R u m args below meth c H locs cells slots ls C hW hS hl h1 h2
  exact lv_lstore C.1 C.2.1 hd hl hn (pf2_map h) (fun ls' hl' => kk p l e R u m args below meth c H locs cells slots ls' C hW hS hl' h1 h2)
theorem G_iinc {i j : Nat} {n : Int} {x v : Int32} (q : Nat) (hq : pc + 3 = q) (hd : decode M.2.1 pc = .ok (.iinc i n, 3)) (hj : lv[j]? = some (i, .int x)) (hv : x + Int32.ofInt n = v) (hn : i < M.2.2.1) (h : (i, Value.int v) :: lv.filter (pf1 i) = lv') (kk : EG P Q g d b M q lv' st s) : EG P Q g d b M pc lv st s := by
  subst hq
  intro p l e R u m args below meth c H locs cells slots ls C hW hS hl h1 h2
  exact lv_iinc C.1 C.2.1 hd hl (cq_at hj) hv hn (pf1_map h) (fun ls' hl' => kk p l e R u m args below meth c H locs cells slots ls' C hW hS hl' h1 h2)
theorem G_iadd {x y : Int32} (q : Nat) (hq : pc + 1 = q) (hd : decode M.2.1 pc = .ok (.iadd, 1)) (k : EG P Q g d b M q lv (.int (x + y) :: st) s) : EG P Q g d b M pc lv (.int y :: .int x :: st) s := by
  subst hq
  intro p l e R u m args below meth c H locs cells slots ls C hW hS hl h1 h2
  exact lv_iadd C.1 C.2.1 hd (k p l e R u m args below meth c H locs cells slots ls C hW hS hl h1 h2)
theorem G_isub {x y : Int32} (q : Nat) (hq : pc + 1 = q) (hd : decode M.2.1 pc = .ok (.isub, 1)) (k : EG P Q g d b M q lv (.int (x - y) :: st) s) : EG P Q g d b M pc lv (.int y :: .int x :: st) s := by
  subst hq
  intro p l e R u m args below meth c H locs cells slots ls C hW hS hl h1 h2
  exact lv_isub C.1 C.2.1 hd (k p l e R u m args below meth c H locs cells slots ls C hW hS hl h1 h2)
theorem G_iand {x y : Int32} (q : Nat) (hq : pc + 1 = q) (hd : decode M.2.1 pc = .ok (.iand, 1)) (k : EG P Q g d b M q lv (.int (x &&& y) :: st) s) : EG P Q g d b M pc lv (.int y :: .int x :: st) s := by
  subst hq
  intro p l e R u m args below meth c H locs cells slots ls C hW hS hl h1 h2
  exact lv_iand C.1 C.2.1 hd (k p l e R u m args below meth c H locs cells slots ls C hW hS hl h1 h2)
theorem G_i2l {x : Int32} (q : Nat) (hq : pc + 1 = q) (hd : decode M.2.1 pc = .ok (.i2l, 1)) (k : EG P Q g d b M q lv (.long x.toInt64 :: st) s) : EG P Q g d b M pc lv (.int x :: st) s := by
  subst hq
  intro p l e R u m args below meth c H locs cells slots ls C hW hS hl h1 h2
  exact lv_i2l C.1 C.2.1 hd rfl (k p l e R u m args below meth c H locs cells slots ls C hW hS hl h1 h2)
theorem G_lcmp {x y : Int64} (q : Nat) (hq : pc + 1 = q) (hd : decode M.2.1 pc = .ok (.lcmp, 1)) (k : EG P Q g d b M q lv (.int (lg_cmp x y) :: st) s) : EG P Q g d b M pc lv (.long y :: .long x :: st) s := by
  subst hq
  intro p l e R u m args below meth c H locs cells slots ls C hW hS hl h1 h2
  exact W.lcmp C.1 C.2.1 hd (k p l e R u m args below meth c H locs cells slots ls C hW hS hl h1 h2)
theorem G_if_eq {x : Int32} {off : Int} (t q : Nat) (ht : (pc : Int) + off = (t : Int)) (hq : pc + 3 = q) (hd : decode M.2.1 pc = .ok (.ifCond .eq off, 3)) (kt : x = 0 → EG P Q g d b M t lv st s) (kf : ¬ x = 0 → EG P Q g d b M q lv st s) : EG P Q g d b M pc lv (.int x :: st) s := by
  subst hq
  intro p l e R u m args below meth c H locs cells slots ls C hW hS hl h1 h2
  exact lv_if_eq C.1 C.2.1 hd ht (fun h => kt h p l e R u m args below meth c H locs cells slots ls C hW hS hl h1 h2) (fun h => kf h p l e R u m args below meth c H locs cells slots ls C hW hS hl h1 h2)
theorem G_if_ne {x : Int32} {off : Int} (t q : Nat) (ht : (pc : Int) + off = (t : Int)) (hq : pc + 3 = q) (hd : decode M.2.1 pc = .ok (.ifCond .ne off, 3)) (kt : ¬ x = 0 → EG P Q g d b M t lv st s) (kf : x = 0 → EG P Q g d b M q lv st s) : EG P Q g d b M pc lv (.int x :: st) s := by
  subst hq
  intro p l e R u m args below meth c H locs cells slots ls C hW hS hl h1 h2
  exact lv_if_ne C.1 C.2.1 hd ht (fun h => kt h p l e R u m args below meth c H locs cells slots ls C hW hS hl h1 h2) (fun h => kf h p l e R u m args below meth c H locs cells slots ls C hW hS hl h1 h2)
theorem G_icmp_eq {x y : Int32} {off : Int} (t q : Nat) (ht : (pc : Int) + off = (t : Int)) (hq : pc + 3 = q) (hd : decode M.2.1 pc = .ok (.if_icmp .eq off, 3)) (kt : x = y → EG P Q g d b M t lv st s) (kf : ¬ x = y → EG P Q g d b M q lv st s) : EG P Q g d b M pc lv (.int y :: .int x :: st) s := by
  subst hq
  intro p l e R u m args below meth c H locs cells slots ls C hW hS hl h1 h2
  exact lv_icmp_eq C.1 C.2.1 hd ht (fun h => kt h p l e R u m args below meth c H locs cells slots ls C hW hS hl h1 h2) (fun h => kf h p l e R u m args below meth c H locs cells slots ls C hW hS hl h1 h2)
theorem G_icmp_ne {x y : Int32} {off : Int} (t q : Nat) (ht : (pc : Int) + off = (t : Int)) (hq : pc + 3 = q) (hd : decode M.2.1 pc = .ok (.if_icmp .ne off, 3)) (kt : ¬ x = y → EG P Q g d b M t lv st s) (kf : x = y → EG P Q g d b M q lv st s) : EG P Q g d b M pc lv (.int y :: .int x :: st) s := by
  subst hq
  intro p l e R u m args below meth c H locs cells slots ls C hW hS hl h1 h2
  exact lv_icmp_ne C.1 C.2.1 hd ht (fun h => kt h p l e R u m args below meth c H locs cells slots ls C hW hS hl h1 h2) (fun h => kf h p l e R u m args below meth c H locs cells slots ls C hW hS hl h1 h2)
theorem G_icmp_gt {x y : Int32} {off : Int} (t q : Nat) (ht : (pc : Int) + off = (t : Int)) (hq : pc + 3 = q) (hd : decode M.2.1 pc = .ok (.if_icmp .gt off, 3)) (kt : y < x → EG P Q g d b M t lv st s) (kf : ¬ y < x → EG P Q g d b M q lv st s) : EG P Q g d b M pc lv (.int y :: .int x :: st) s := by
  subst hq
  intro p l e R u m args below meth c H locs cells slots ls C hW hS hl h1 h2
  exact lv_icmp_gt C.1 C.2.1 hd ht (fun h => kt h p l e R u m args below meth c H locs cells slots ls C hW hS hl h1 h2) (fun h => kf h p l e R u m args below meth c H locs cells slots ls C hW hS hl h1 h2)
theorem G_if_eqB {x : Bool} {off : Int} (t q : Nat) (ht : (pc : Int) + off = (t : Int)) (hq : pc + 3 = q) (hd : decode M.2.1 pc = .ok (.ifCond .eq off, 3)) (kt : x = false → EG P Q g d b M t lv st s) (kf : x = true → EG P Q g d b M q lv st s) : EG P Q g d b M pc lv (.int (bI x) :: st) s :=
  G_if_eq t q ht hq hd (fun h => kt (bI_0.mp h)) (fun h => kf (by cases x; exact absurd rfl h; rfl))
theorem G_if_neB {x : Bool} {off : Int} (t q : Nat) (ht : (pc : Int) + off = (t : Int)) (hq : pc + 3 = q) (hd : decode M.2.1 pc = .ok (.ifCond .ne off, 3)) (kt : x = true → EG P Q g d b M t lv st s) (kf : x = false → EG P Q g d b M q lv st s) : EG P Q g d b M pc lv (.int (bI x) :: st) s :=
  G_if_ne t q ht hq hd (fun h => kt (by cases x; exact absurd rfl h; rfl)) (fun h => kf (bI_0.mp h))
theorem G_goto {off : Int} (t : Nat) (ht : (pc : Int) + off = (t : Int)) (hd : decode M.2.1 pc = .ok (.goto off, 3)) (k : EG P Q g d b M t lv st s) : EG P Q g d b M pc lv st s := by
  intro p l e R u m args below meth c H locs cells slots ls C hW hS hl h1 h2
  exact lv_goto C.1 C.2.1 hd ht (k p l e R u m args below meth c H locs cells slots ls C hW hS hl h1 h2)
theorem G_tsIn {dflt lo hi off : Int} {offs : Array Int} {len : Nat} {x : Int32} (v : Int32) (hx : x = v) (t : Nat) (ht : (pc : Int) + off = (t : Int)) (h1' : ¬ v.toInt < lo) (h2' : ¬ hi < v.toInt) (ho : offs[(v.toInt - lo).toNat]? = some off) (hd : decode M.2.1 pc = .ok (.tableswitch dflt lo hi offs, len)) (k : EG P Q g d b M t lv st s) : EG P Q g d b M pc lv (.int x :: st) s := by
  subst hx
  intro p l e R u m args below meth c H locs cells slots ls C hW hS hl h1 h2
  exact lv_tableIn C.1 C.2.1 hd h1' h2' ho ht (k p l e R u m args below meth c H locs cells slots ls C hW hS hl h1 h2)
theorem G_tsOut {dflt lo hi : Int} {offs : Array Int} {len : Nat} {x : Int32} (n : Nat) (hn : hi < lo + n) (h : ∀ i : Nat, i < n → ¬ x.toInt = lo + i) (t : Nat) (ht : (pc : Int) + dflt = (t : Int)) (hd : decode M.2.1 pc = .ok (.tableswitch dflt lo hi offs, len)) (k : EG P Q g d b M t lv st s) : EG P Q g d b M pc lv (.int x :: st) s := by
  intro p l e R u m args below meth c H locs cells slots ls C hW hS hl h1 h2
  refine lv_tableOut C.1 C.2.1 hd ?_ ht (k p l e R u m args below meth c H locs cells slots ls C hW hS hl h1 h2)
  by_cases h3 : x.toInt < lo
  · exact Or.inl h3
  · refine Or.inr ?_
    by_cases h4 : hi < x.toInt
    · exact h4
    · exact absurd (show x.toInt = lo + ((x.toInt - lo).toNat : Int) by omega) (h (x.toInt - lo).toNat (by omega))
theorem G_lald {q0 n : Nat} {i : Int32} (q : Nat) (hq : pc + 1 = q) (hd : decode M.2.1 pc = .ok (.laload, 1)) (hsh : shp q0 = (3, n)) (hi : vp_in i n) (kk : EG P Q g d b M q lv (.long (s.2 q0 i.toNatClampNeg) :: st) s) : EG P Q g d b M pc lv (.int i :: .ref q0 :: st) s := by
  subst hq
  intro p l e R u m args below meth c H locs cells slots ls C hW hS hl h1 h2
  have hlt := shp_lt hsh (by decide)
  have he := wsO_at g s hlt
  rw [cel_l g s hsh] at he
  show W p l e R u m args below meth c H locs cells slots _ (F0 m pc ls (.int i :: .ref (loc g q0) :: st.map (cv g)))
  rw [loc_lo g (show q0 < 100000 by omega)]
  exact va_lald C.1 C.2.1 C.2.2.2.2.2.2.2.2.2.1.1 hW q0 2 he rfl hi hd (kk p l e R u m args below meth c H locs cells slots ls C hW hS hl h1 h2)
theorem G_last {q0 n : Nat} {i : Int32} {x : Int64} (q : Nat) (hq : pc + 1 = q) (hd : decode M.2.1 pc = .ok (.lastore, 1)) (hsh : shp q0 = (3, n)) (hi : vp_in i n) (kk : EG P Q g d b M q lv st (s.1, upl s.2 q0 i.toNatClampNeg x)) : EG P Q g d b M pc lv (.long x :: .int i :: .ref q0 :: st) s := by
  subst hq
  intro p l e R u m args below meth c H locs cells slots ls C hW hS hl h1 h2
  have hlt := shp_lt hsh (by decide)
  have he := wsO_at g s hlt
  rw [cel_l g s hsh] at he
  show W p l e R u m args below meth c H locs cells slots _ (F0 m pc ls (.long x :: .int i :: .ref (loc g q0) :: st.map (cv g)))
  rw [loc_lo g (show q0 < 100000 by omega)]
  refine va_last C.1 C.2.1 C.2.2.2.2.2.2.2.2.2.1.1 hW (wsO_D g s) hS q0 2 he rfl hi hd ?_
  intro H1 locs1 hP1 hD1 hS1
  refine kk p l e R u m args below meth c H1 locs1 cells slots ls C ?_ hS1 hl h1 h2
  unfold HW
  rw [← wsO_set g (s := s) (t := (s.1, upl s.2 q0 i.toNatClampNeg x)) (q := q0) (by rw [cel_l g _ hsh]) (fun j h => ⟨rfl, (upl_n _ _ _ h).symm⟩)]
  simp only [upl_s]
  exact hP1
theorem G_callV {M' : Mth} {As : List Value} {q0 d' ci idx n : Nat} {v : Option Value} {s1 : St} (q : Nat) (hq : pc + 3 = q) (hd : decode M.2.1 pc = .ok (.invokevirtual idx, 3)) (hsh : shp q0 = (0, ci)) (ck : CK M.1.cls idx M' n) (cw : CV M' ci) (hn : As.length = n) (hdd : d' + 1 ≤ d) (hst : cats st ≤ 8) (hc : Ent g d' 0 M' (.ref q0 :: As) s (.inl v) s1) {st0 : List Value} (h0 : st0 = As.reverse ++ .ref q0 :: st) (kk : EG P Q g d b M q lv (v.toList ++ st) s1) : EG P Q g d b M pc lv st0 s := by
  subst hq
  subst h0
  intro p l e R u m args below meth c H locs cells slots ls C hW hS hl h1 h2
  obtain ⟨hx, hb, hr, hml, hown, hts, hlk, hno, htr, hK, hf, hlo⟩ := id C
  have hlt := shp_lt hsh (by decide)
  have hl9 : loc g q0 = g.1 + q0 := loc_lo g (show q0 < 100000 by omega)
  intro T hT X
  have hM := hc l htr
  rcases vx_runV (As := As.map (cv g)) (rest := st.map (cv g)) (b := g.1 + q0) (C := M'.1.cls) (n := n) (g := F0 m pc ls ((As.reverse ++ .ref q0 :: st).map (cv g))) (locs := locs) (cells := cells) (slots := slots) (e := e) (below := below) (meth := meth) (H := H) ⟨hx, hb, hml, hown, hts⟩ hM ⟨callB_mk hts ck hdd hf hlo, hts _ cw.1, hts _ cw.2.1⟩ ⟨HW_blind, rcv_of hK hW hsh cw, by have h := pre_of (As := .ref q0 :: As) hK hW hS; rw [List.map_cons, show cv g (.ref q0) = .ref (loc g q0) from rfl, hl9] at h; simpa only [List.map_cons, show cv g (.ref q0) = .ref (loc g q0) from rfl, hl9] using h⟩ rfl (by rw [List.length_map]; exact hn) hl.1 (by show ((As.reverse ++ .ref q0 :: st).map (cv g)) = _; rw [List.map_append, List.map_cons, List.map_reverse, show cv g (.ref q0) = .ref (loc g q0) from rfl, hl9]) (by show 2 * 0 + _ ≤ 8; rw [cats_cv]; omega) hd ⟨by show cells + 0 ≤ R.cells; omega, by show slots + 8 * 0 ≤ R.slots; omega⟩ T hT X with ⟨v', st₀, t, T', L, h0', X', hL, e1, e2, ⟨v0, hv0, ho, hHW, hF⟩, stp⟩ | ⟨q', st₀, t, T', L, ex, ce, h0', X', hL, e1, e2, ⟨hbad, -⟩, -⟩
  · cases hv0
    cases ho
    obtain ⟨k1, k2, k3⟩ := vx_keep h0' e1 hS (fun q _ h => h) (fun q h => h) hL hF
    obtain ⟨t2, a1, b1⟩ := kk p l e R u m args below meth c T'.heap (locs ++ L) (cells + 0) (slots + 8 * 0) ls C (by rw [e1]; exact hHW) k3 hl (by omega) (by omega) T' rfl X'
    rw [tl_map] at a1
    exact ⟨t2, stp t2 a1, b1⟩
  · cases hbad
theorem G_cV1 {M' : Mth} {As : List Value} {q0 d' ci idx n : Nat} {v : Value} {s1 : St} (q : Nat) (hq : pc + 3 = q) (hd : decode M.2.1 pc = .ok (.invokevirtual idx, 3)) (hsh : shp q0 = (0, ci)) (ck : CK M.1.cls idx M' n) (cw : CV M' ci) (hn : As.length = n) (hdd : d' + 1 ≤ d) (hst : cats st ≤ 8) (hc : Ent g d' 0 M' (.ref q0 :: As) s (.inl (some v)) s1) {st0 : List Value} (h0 : st0 = As.reverse ++ .ref q0 :: st) (kk : EG P Q g d b M q lv (v :: st) s1) : EG P Q g d b M pc lv st0 s := G_callV q hq hd hsh ck cw hn hdd hst hc h0 kk
theorem G_cV0 {M' : Mth} {As : List Value} {q0 d' ci idx n : Nat} {s1 : St} (q : Nat) (hq : pc + 3 = q) (hd : decode M.2.1 pc = .ok (.invokevirtual idx, 3)) (hsh : shp q0 = (0, ci)) (ck : CK M.1.cls idx M' n) (cw : CV M' ci) (hn : As.length = n) (hdd : d' + 1 ≤ d) (hst : cats st ≤ 8) (hc : Ent g d' 0 M' (.ref q0 :: As) s (.inl none) s1) {st0 : List Value} (h0 : st0 = As.reverse ++ .ref q0 :: st) (kk : EG P Q g d b M q lv st s1) : EG P Q g d b M pc lv st0 s := G_callV q hq hd hsh ck cw hn hdd hst hc h0 kk
theorem G_lc_eq {x y : Int64} {off : Int} (t q1 q : Nat) (ht : (q1 : Int) + off = (t : Int)) (hq1 : pc + 1 = q1) (hq : q1 + 3 = q) (hd0 : decode M.2.1 pc = .ok (.lcmp, 1)) (hd : decode M.2.1 q1 = .ok (.ifCond .eq off, 3)) (kt : x = y → EG P Q g d b M t lv st s) (kf : ¬ x = y → EG P Q g d b M q lv st s) : EG P Q g d b M pc lv (.long y :: .long x :: st) s :=
  G_lcmp q1 hq1 hd0 (G_if_eq t q ht hq hd (fun h => kt ((lgc x y).1.mp h)) (fun h => kf (fun z => h ((lgc x y).1.mpr z))))
/-- room that is given up -/
theorem G_less {b' : Nat} (hb : b' ≤ b) (k : EG P Q g d b' M pc lv st s) : EG P Q g d b M pc lv st s := by
  intro p l e R u m args below meth c H locs cells slots ls C hW hS hl h1 h2
  exact k p l e R u m args below meth c H locs cells slots ls C hW hS hl (by omega) (by omega)
end
/-! the methods with a table -/
def nc4 : List String := ["java/lang/IllegalArgumentException", "java/lang/UnsupportedOperationException", "java/lang/IndexOutOfBoundsException", "java/util/NoSuchElementException"]
/-- of the four classes of what is thrown none is another -/
def NC (U : State) : Prop := ∀ a ∈ nc4, ∀ b ∈ nc4, a ≠ b → va_Nc a b U
theorem NC_moved {u U : State} (h : u.vm.Alike U.vm) (hn : NC u) : NC U := fun a ha b hb e => (hn a ha b hb e).moved h
theorem cast4 {g : Gx} {U : State} (hK : HK g U U.heap) {a : String} (h : a ∈ nc4) {args : Array Value} : (Cond.castable a a).before args U = true := by
  simp only [nc4, List.mem_cons, List.not_mem_nil, or_false] at h
  rcases h with rfl | rfl | rfl | rfl <;> exact va_Nw.use rfl (hK.2.2.2.2.2.2.1 _ (by simp [exW]))
abbrev HT : Type := List (Nat × Nat × Nat × Nat)
def wsW (M : Mth) (hh : HT) : List Cond := .codeWith M.1 M.2.1 M.2.2.1 M.2.2.2 hh :: lw_good
/-- a contract of a method with a table that lets nothing out -/
def EntW (g : Gx) (d : Nat) (M : Mth) (hh : HT) (As : List Value) (s : St) (v : Int32) (s' : St) : Prop :=
  ∀ l : Launch, l.stackTraces = false → vx_Met l M.1 (wsW M hh) (rmM d 1) (va_Pc (As.map (cv g)) (fun U => (HK g U U.heap ∧ NC U) ∧ HW g s U.heap)) (Qr g (.inl (some (.int v))) s') (Xr g (.inl (some (.int v))) s') 1 8 (Ag g)
def PW (hh : HT) : Pz := fun _ R u _ c => c.exceptionTable.toList = tableOf hh ∧ NC u ∧ R.cells = 1 ∧ R.slots = 8
def QW (g : Gx) (r : Rs) (s' : St) : Qz := fun _ u args below => vx_MQ below (Qr g r s') (Xr g r s') args u 1 8 (Ag g)
theorem EntW_of {g : Gx} {d : Nat} {M : Mth} {hh : HT} {As : List Value} {s : St} {v : Int32} {s' : St} (hy : plainName M.1.cls = true) (hn : (lg_sl As).length ≤ M.2.2.1) (h : EG (PW hh) (QW g (.inl (some (.int v))) s') g d 1 M 0 (lv_args 0 As) [] s) : EntW g d M hh As s v s' := by
  intro l hl
  refine vx_ofWH (cc := M.2.1) (maxL := M.2.2.1) (ret := M.2.2.2) (hh := hh) hy rfl ?_
  intro p e u m args below meth c s₁ B hml hv
  obtain ⟨rfl, ⟨hK, hN⟩, hP⟩ := hv
  have hts : ∀ w ∈ lw_good, w.before (As.map (cv g)).toArray u = true := fun w hw => atoms_spec (ws := wsW M hh) B.pre w (List.mem_cons_of_mem _ hw)
  have htb : c.exceptionTable.toList = tableOf hh := vx_table (x := M.1) B (atoms_spec (ws := wsW M hh) B.pre _ List.mem_cons_self)
  have hl0 := lv_entry (As.map (cv g)) (n := M.2.2.1) (by rw [lg_sl_len]; exact hn)
  rw [lg_entry_eq]
  rw [lv_args_map] at hl0
  exact h p l e (headSpec (wsW M hh) (rmM d 1)).room u m _ below meth c u.heap [] 0 0 _ ⟨B.exec, B.bytes, B.returns, hml, findClass_of_methodNamed B.named, hts, B.notSynchronized, ⟨htb, hN, rfl, rfl⟩, hl, hK, Nat.le_refl d, Nat.le_refl _⟩ hP va_S.rf hl0 (Nat.le_refl _) (Nat.le_refl _)
section
variable {P : Pz} {Q : Qz} {g : Gx} {d b : Nat} {M : Mth} {pc : Nat} {lv lv' : List (Nat × Value)} {st : List Value} {s s' : St} {hh : HT}
theorem G_wret {x : Int32} (hr : M.2.2.2 = some .int) (hd : decode M.2.1 pc = .ok (.ireturn, 1)) : EG (PW hh) (QW g (.inl (some (.int x))) s) g d b M pc lv [.int x] s := by
  intro p l e R u m args below meth c H locs cells slots ls C hW hS hl h1 h2
  have hlk : meth.locks = false := C.2.2.2.2.2.2.1
  obtain ⟨-, -, hc1, hc2⟩ := C.2.2.2.2.2.2.2.1
  refine vx_ret (W.widen (k := 1) (n := 8) (by omega) (by omega) ?_)
  exact W.iret C.1 C.2.1 (C.2.2.1.trans hr) (end_q hW hS) hS.2.2 hd
/-- a row of the table: the way from its handler to the end -/
def HR (M : Mth) (hpc : Nat) (v : Int32) : Prop :=
  (∃ (k : Fin 4) (n : Int), decode M.2.1 hpc = .ok (.astore_n k, 1) ∧ (k : Nat) < M.2.2.1 ∧ decode M.2.1 (hpc + 1) = .ok (.iconst n, 1) ∧ Int32.ofInt n = v ∧ decode M.2.1 (hpc + 2) = .ok (.ireturn, 1)) ∨
  (∃ (k : Nat) (n : Int), decode M.2.1 hpc = .ok (.astore k, 2) ∧ k < M.2.2.1 ∧ decode M.2.1 (hpc + 2) = .ok (.iconst n, 1) ∧ Int32.ofInt n = v ∧ decode M.2.1 (hpc + 3) = .ok (.ireturn, 1))
/-- the call throws, and the row behind those of pre takes it -/
theorem G_callVX {M' : Mth} {As : List Value} {q0 d' ci idx n : Nat} {ex : String} {s1 : St} {v : Int32} (pre : HT) (x : Nat × Nat × Nat × Nat) (suf : HT) (hsp : hh = pre ++ x :: suf) (hd : decode M.2.1 pc = .ok (.invokevirtual idx, 3)) (hsh : shp q0 = (0, ci)) (ck : CK M.1.cls idx M' n) (cw : CV M' ci) (hn : As.length = n) (hdd : d' + 1 ≤ d) (hst : cats st ≤ 8) (hc : Ent g d' 1 M' (.ref q0 :: As) s (.inr ex) s1) {st0 : List Value} (h0 : st0 = As.reverse ++ .ref q0 :: st) (hr : M.2.2.2 = some .int) (hex : ex ∈ nc4)
    (hpre : ∀ z ∈ pre, z.2.2.2 ≠ 0 ∧ ∃ nm ∈ nc4, ex ≠ nm ∧ Cond.classLink M.1.cls z.2.2.2 nm ∈ lw_good) (hcv : ∀ e ∈ tableOf [x], covers e pc = true ∧ e.handlerPc = x.2.2.1 ∧ e.catchType = x.2.2.2) (hx0 : x.2.2.2 ≠ 0) (hlk : Cond.classLink M.1.cls x.2.2.2 ex ∈ lw_good) (hHR : HR M x.2.2.1 v) : EG (PW hh) (QW g (.inl (some (.int v))) s1) g d 1 M pc lv st0 s := by
  subst h0
  intro p l e R u m args below meth c H locs cells slots ls C hW hS hl h1 h2
  obtain ⟨hx, hb, hrt, hml, hown, hts, hlocks, ⟨htb, hNC, hc1, hc2⟩, htr, hK, hf, hlo⟩ := id C
  have hlt := shp_lt hsh (by decide)
  have hl9 : loc g q0 = g.1 + q0 := loc_lo g (show q0 < 100000 by omega)
  intro T hT X
  have hM := hc l htr
  rcases vx_runV (As := As.map (cv g)) (rest := st.map (cv g)) (b := g.1 + q0) (C := M'.1.cls) (n := n) (g := F0 m pc ls ((As.reverse ++ .ref q0 :: st).map (cv g))) (locs := locs) (cells := cells) (slots := slots) (e := e) (below := below) (meth := meth) (H := H) ⟨hx, hb, hml, hown, hts⟩ hM ⟨callB_mk hts ck hdd hf hlo, hts _ cw.1, hts _ cw.2.1⟩ ⟨HW_blind, rcv_of hK hW hsh cw, by have h := pre_of (As := .ref q0 :: As) hK hW hS; rw [List.map_cons, show cv g (.ref q0) = .ref (loc g q0) from rfl, hl9] at h; simpa only [List.map_cons, show cv g (.ref q0) = .ref (loc g q0) from rfl, hl9] using h⟩ rfl (by rw [List.length_map]; exact hn) hl.1 (by show ((As.reverse ++ .ref q0 :: st).map (cv g)) = _; rw [List.map_append, List.map_cons, List.map_reverse, show cv g (.ref q0) = .ref (loc g q0) from rfl, hl9]) (by show 2 * 0 + _ ≤ 8; rw [cats_cv]; omega) hd ⟨by show cells + 1 ≤ R.cells; omega, by show slots + 8 * 1 ≤ R.slots; omega⟩ T hT X with ⟨v', st₀, t, T', L, h0', X', hL, e1, e2, ⟨v0, hv0, ho, hHW, hF⟩, stp⟩ | ⟨q', st₀, t, T', L, ex', ce, h0', X', hL, e1, e2, ⟨hex', hHW, hF⟩, hce, hcvm, hcl, stp⟩
  · cases hv0
  · cases hex'
    obtain ⟨k1, k2, k3⟩ := vx_keep h0' e1 hS (fun q _ h => h) (fun q h => h) hL hF
    have hHW' : HW g s1 T'.heap := by rw [e1]; exact hHW
    obtain ⟨xe, hxe⟩ : ∃ xe, tableOf [x] = [xe] := ⟨_, rfl⟩
    obtain ⟨c1, c2, c3⟩ := hcv xe (by rw [hxe]; exact List.mem_cons_self)
    have hsplit : c.exceptionTable.toList = tableOf pre ++ xe :: tableOf suf := by
      rw [htb, hsp]
      have : tableOf (pre ++ x :: suf) = tableOf pre ++ (tableOf [x] ++ tableOf suf) := by simp [tableOf]
      rw [this, hxe]; rfl
    have key : vx_W p l e R u m args below meth c T'.heap (locs ++ L) (cells + 1) (slots + 8 * 1) (QW g (.inl (some (.int v))) s1 R u args below) (F0 m pc ls (st.map (cv g))) q' := by
      refine vx_catch (name := ex) hown (tableOf pre) xe (tableOf suf) hsplit ?_ c1 (by rw [c3]; exact hx0) (by rw [c3]; exact hts _ hlk) (cast4 hK hex) (by rw [e1]; exact hce) hcvm hcl ?_
      · intro z hz
        right
        simp only [tableOf, List.mem_map] at hz
        obtain ⟨z0, hz0, rfl⟩ := hz
        obtain ⟨p1, nm, p2, p3, p4⟩ := hpre z0 hz0
        exact ⟨p1, nm, hts _ p4, hNC ex hex nm p2 p3⟩
      · rw [c2]
        rcases hHR with ⟨k, n9, d1, d2, d3, d4, d5⟩ | ⟨k, n9, d1, d2, d3, d4, d5⟩
        · refine lv_astore_n hx hb d1 rfl hl d2 rfl (fun ls hl => ?_)
          refine lv_iconst hx hb d3 d4 ?_
          refine vx_ret (W.widen (k := 1) (n := 8) (by omega) (by omega) ?_)
          exact W.iret hx hb (hrt.trans hr) (end_q (v := some (.int v)) hHW' k3) k3.2.2 d5
        · refine lv_astore hx hb d1 hl d2 rfl (fun ls hl => ?_)
          refine lv_iconst hx hb d3 d4 ?_
          refine vx_ret (W.widen (k := 1) (n := 8) (by omega) (by omega) ?_)
          exact W.iret hx hb (hrt.trans hr) (end_q (v := some (.int v)) hHW' k3) k3.2.2 d5
    obtain ⟨t2, a1, b1⟩ := key T' rfl X'
    exact ⟨t2, stp.trans a1, b1⟩
/-- words of a call of a method with a table -/
def CKW (own : String) (idx : Nat) (M' : Mth) (hh : HT) (n : Nat) : Prop :=
  Cond.methodLink own idx M'.1 ∈ lw_good ∧ Cond.initialized M'.1.cls ∈ lw_good ∧ Cond.codeWith M'.1 M'.2.1 M'.2.2.1 M'.2.2.2 hh ∈ lw_good ∧ (M'.1.cls ≠ "java/lang/invoke/MethodHandle" ∧ M'.1.cls ≠ "java/lang/invoke/VarHandle") ∧ (parseMethodDescriptor M'.1.desc).map (fun d => d.parameters.length) = some n ∧ M'.2.2.1 ≤ 40 ∧ Cond.static M'.1 ∈ lw_good
theorem HWn_blind {As : List Value} {s : St} : FrameBlind (va_Pc (As.map (cv g)) (fun U => (HK g U U.heap ∧ NC U) ∧ HW g s U.heap)) := by
  intro a' U g' mk h
  obtain ⟨h1, ⟨h2, h4⟩, h3⟩ := h
  exact ⟨h1, ⟨HK_same (U := U.calling g' mk a') h2 rfl rfl, NC_moved (u := U) (U := U.calling g' mk a') (Vm.Alike.refl U.vm) h4⟩, h3⟩
theorem G_callW {M' : Mth} {As : List Value} {d' idx n : Nat} {v : Int32} {s1 : St} (hPN : ∀ l R u args c, P l R u args c → NC u) (q : Nat) (hq : pc + 3 = q) (hd : decode M.2.1 pc = .ok (.invokestatic idx, 3)) (ck : CKW M.1.cls idx M' hh n) (hn : As.length = n) (hdd : d' + 1 ≤ d) (hst : cats st ≤ 8) (hc : EntW g d' M' hh As s v s1) {st0 : List Value} (h0 : st0 = As.reverse ++ st) (kk : EG P Q g d b M q lv (.int v :: st) s1) : EG P Q g d (b + 1) M pc lv st0 s := by
  subst hq
  subst h0
  intro p l e R u m args below meth c H locs cells slots ls C hW hS hl h1 h2
  obtain ⟨hx, hb, hr, hml, hown, hts, hlk, hP, htr, hK, hf, hlo⟩ := id C
  have hNC := hPN _ _ _ _ _ hP
  obtain ⟨k1, k2, k3, k4, k5, k6, k7⟩ := ck
  intro T hT X
  have hM := hc l htr
  have hcsw : vx_CSW R u args M.1.cls idx M'.1 M'.2.1 M'.2.2.1 M'.2.2.2 hh (wsW M' hh) (rmM d' 1) 1 8 n := by
    refine ⟨⟨rfl, rfl, ?_, ?_, ?_, List.mem_cons_self⟩, hts _ k3, hts _ k2, k4, fun sig h => ?_, hts _ k1, hts _ k7⟩
    · show d' + 1 ≤ R.frames
      omega
    · show 8 + (M'.2.2.1 + 11) + 64 * d' ≤ R.locals
      omega
    · intro w hw a' U hWm
      rcases List.mem_cons.mp hw with rfl | hw
      · exact word_at hWm (lw_good_ok k3) (hts _ k3)
      · exact word_at hWm (lw_good_ok hw) (hts _ hw)
    · rw [h] at k5
      exact (Option.some.inj k5).symm
  rcases vx_runSX (hh := hh) (As := As.map (cv g)) (rest := st.map (cv g)) (n := n) (g := F0 m pc ls ((As.reverse ++ st).map (cv g))) (locs := locs) (cells := cells) (slots := slots) (e := e) (below := below) (meth := meth) (H := H) ⟨hx, hb, hml, hown, hts⟩ hM hcsw ⟨HWn_blind, fun U hU hWm => ⟨rfl, ⟨HK_at hK hWm (locs := locs) (by rw [hU]; exact hS), NC_moved hWm.alike hNC⟩, by rw [hU]; exact hW⟩⟩ rfl (by rw [List.length_map]; exact hn) hl.1 (by show ((As.reverse ++ st).map (cv g)) = _; rw [List.map_append, List.map_reverse]) (by show 2 * 0 + _ ≤ 8; rw [cats_cv]; omega) hd ⟨by omega, by omega⟩ T hT X with ⟨v', st₀, t, T', L, h0', X', hL, e1, e2, ⟨v0, hv0, ho, hHW, hF⟩, stp⟩ | ⟨q', st₀, t, T', L, ex, ce, h0', X', hL, e1, e2, ⟨hbad, -⟩, -⟩
  · cases hv0
    cases ho
    obtain ⟨k1, k2, k3⟩ := vx_keep h0' e1 hS (fun q _ h => h) (fun q h => h) hL hF
    obtain ⟨t2, a1, b1⟩ := kk p l e R u m args below meth c T'.heap (locs ++ L) (cells + 1) (slots + 8) ls C (by rw [e1]; exact hHW) k3 hl (by omega) (by omega) T' rfl X'
    exact ⟨t2, stp t2 a1, b1⟩
  · cases hbad
end
