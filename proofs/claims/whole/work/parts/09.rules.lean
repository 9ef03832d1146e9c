section
variable {g : Gx} {d b : Nat} {M : Mth} {pc : Nat} {lv lv' : List (Nat × Value)} {st : List Value} {s s' : St} {r : Rs}
theorem cq_at {lv : List (Nat × Value)} {j i : Nat} {v : Value} (h : lv[j]? = some (i, v)) : (lv.map (cq g))[j]? = some (i, cv g v) := by
  rw [List.getElem?_map, h]; rfl
theorem E_sub (ks : List Nat) (h : lv_pick lv ks = lv') (k : E g d b M pc lv' st s r s') : E g d b M pc lv st s r s' := by
  intro p l e R u m args below meth c H locs cells slots ls C hW hS hl h1 h2
  refine k p l e R u m args below meth c H locs cells slots ls C hW hS (lv_sub hl ks ?_) h1 h2
  rw [← h]
  unfold lv_pick
  rw [List.map_filterMap]
  congr 1
  funext j
  rw [List.getElem?_map]
theorem E_iconst {n : Int} {v : Int32} (q : Nat) (hq : pc + 1 = q) (hd : decode M.2.1 pc = .ok (.iconst n, 1)) (hv : Int32.ofInt n = v) (k : E g d b M q lv (.int v :: st) s r s') : E g d b M pc lv (st) s r s' := by
  subst hq
  intro p l e R u m args below meth c H locs cells slots ls C hW hS hl h1 h2
  exact lv_iconst C.1 C.2.1 hd hv (k p l e R u m args below meth c H locs cells slots ls C hW hS hl h1 h2)
theorem E_bipush {n : Int} {v : Int32} (q : Nat) (hq : pc + 2 = q) (hd : decode M.2.1 pc = .ok (.bipush n, 2)) (hv : (Int8.ofInt n).toInt32 = v) (k : E g d b M q lv (.int v :: st) s r s') : E g d b M pc lv (st) s r s' := by
  subst hq
  intro p l e R u m args below meth c H locs cells slots ls C hW hS hl h1 h2
  exact lv_bipush C.1 C.2.1 hd hv (k p l e R u m args below meth c H locs cells slots ls C hW hS hl h1 h2)
theorem E_sipush {n : Int} {v : Int32} (q : Nat) (hq : pc + 3 = q) (hd : decode M.2.1 pc = .ok (.sipush n, 3)) (hv : (Int16.ofInt n).toInt32 = v) (k : E g d b M q lv (.int v :: st) s r s') : E g d b M pc lv (st) s r s' := by
  subst hq
  intro p l e R u m args below meth c H locs cells slots ls C hW hS hl h1 h2
  exact lv_sipush C.1 C.2.1 hd hv (k p l e R u m args below meth c H locs cells slots ls C hW hS hl h1 h2)
theorem E_lconst {n : Fin 2} {v : Int64} (q : Nat) (hq : pc + 1 = q) (hd : decode M.2.1 pc = .ok (.lconst n, 1)) (hv : Int64.ofNat (n : Nat) = v) (k : E g d b M q lv (.long v :: st) s r s') : E g d b M pc lv (st) s r s' := by
  subst hq
  intro p l e R u m args below meth c H locs cells slots ls C hW hS hl h1 h2
  exact lv_lconst C.1 C.2.1 hd hv (k p l e R u m args below meth c H locs cells slots ls C hW hS hl h1 h2)
theorem E_iload_n {k : Fin 4} {i : Nat} {x : Int32} (q : Nat) (hq : pc + 1 = q) (hd : decode M.2.1 pc = .ok (.iload_n k, 1)) (hi : (k : Nat) = i) (j : Nat) (hj : lv[j]? = some (i, .int x)) (kk : E g d b M q lv (.int x :: st) s r s') : E g d b M pc lv st s r s' := by
  subst hq
  intro p l e R u m args below meth c H locs cells slots ls C hW hS hl h1 h2
  exact lv_iload_n C.1 C.2.1 hd hi (lv_at hl j (cq_at hj)) (kk p l e R u m args below meth c H locs cells slots ls C hW hS hl h1 h2)
theorem E_iload {i : Nat} {x : Int32} (q : Nat) (hq : pc + 2 = q) (hd : decode M.2.1 pc = .ok (.iload i, 2)) (j : Nat) (hj : lv[j]? = some (i, .int x)) (kk : E g d b M q lv (.int x :: st) s r s') : E g d b M pc lv st s r s' := by
  subst hq
  intro p l e R u m args below meth c H locs cells slots ls C hW hS hl h1 h2
  exact lv_iload C.1 C.2.1 hd (lv_at hl j (cq_at hj)) (kk p l e R u m args below meth c H locs cells slots ls C hW hS hl h1 h2)
theorem E_lload_n {k : Fin 4} {i : Nat} {x : Int64} (q : Nat) (hq : pc + 1 = q) (hd : decode M.2.1 pc = .ok (.lload_n k, 1)) (hi : (k : Nat) = i) (j : Nat) (hj : lv[j]? = some (i, .long x)) (kk : E g d b M q lv (.long x :: st) s r s') : E g d b M pc lv st s r s' := by
  subst hq
  intro p l e R u m args below meth c H locs cells slots ls C hW hS hl h1 h2
  exact lv_lload_n C.1 C.2.1 hd hi (lv_at hl j (cq_at hj)) (kk p l e R u m args below meth c H locs cells slots ls C hW hS hl h1 h2)
theorem E_lload {i : Nat} {x : Int64} (q : Nat) (hq : pc + 2 = q) (hd : decode M.2.1 pc = .ok (.lload i, 2)) (j : Nat) (hj : lv[j]? = some (i, .long x)) (kk : E g d b M q lv (.long x :: st) s r s') : E g d b M pc lv st s r s' := by
  subst hq
  intro p l e R u m args below meth c H locs cells slots ls C hW hS hl h1 h2
  exact lv_lload C.1 C.2.1 hd (lv_at hl j (cq_at hj)) (kk p l e R u m args below meth c H locs cells slots ls C hW hS hl h1 h2)
theorem E_aload_n {k : Fin 4} {i : Nat} {x : Nat} (q : Nat) (hq : pc + 1 = q) (hd : decode M.2.1 pc = .ok (.aload_n k, 1)) (hi : (k : Nat) = i) (j : Nat) (hj : lv[j]? = some (i, .ref x)) (kk : E g d b M q lv (.ref x :: st) s r s') : E g d b M pc lv st s r s' := by
  subst hq
  intro p l e R u m args below meth c H locs cells slots ls C hW hS hl h1 h2
  exact lv_aload_n C.1 C.2.1 hd hi (lv_at hl j (cq_at hj)) (kk p l e R u m args below meth c H locs cells slots ls C hW hS hl h1 h2)
theorem E_aload {i : Nat} {x : Nat} (q : Nat) (hq : pc + 2 = q) (hd : decode M.2.1 pc = .ok (.aload i, 2)) (j : Nat) (hj : lv[j]? = some (i, .ref x)) (kk : E g d b M q lv (.ref x :: st) s r s') : E g d b M pc lv st s r s' := by
  subst hq
  intro p l e R u m args below meth c H locs cells slots ls C hW hS hl h1 h2
  exact lv_aload C.1 C.2.1 hd (lv_at hl j (cq_at hj)) (kk p l e R u m args below meth c H locs cells slots ls C hW hS hl h1 h2)
def pf1 (i : Nat) : Nat × Value → Bool := fun q => !(q.1 == i) && !(q.1 + 1 == i && q.2.category == 2)
def pf2 (i : Nat) : Nat × Value → Bool := fun q => !(q.1 == i) && (!(q.1 == i + 1) && !(q.1 + 1 == i && q.2.category == 2))
theorem pf1_map {i : Nat} {v : Value} (h : (i, v) :: lv.filter (pf1 i) = lv') : (i, cv g v) :: (lv.map (cq g)).filter (fun q => !(q.1 == i) && !(q.1 + 1 == i && q.2.category == 2)) = lv'.map (cq g) := by
  rw [← h, List.map_cons, List.filter_map]
  congr 3
  funext q
  simp only [Function.comp, cq, cv_cat, pf1]
theorem pf2_map {i : Nat} {v : Value} (h : (i, v) :: lv.filter (pf2 i) = lv') : (i, cv g v) :: (lv.map (cq g)).filter (fun q => !(q.1 == i) && (!(q.1 == i + 1) && !(q.1 + 1 == i && q.2.category == 2))) = lv'.map (cq g) := by
  rw [← h, List.map_cons, List.filter_map]
  congr 3
  funext q
  simp only [Function.comp, cq, cv_cat, pf2]
theorem E_istore_n {k : Fin 4} {i : Nat} {x : Int32} (q : Nat) (hq : pc + 1 = q) (hd : decode M.2.1 pc = .ok (.istore_n k, 1)) (hi : (k : Nat) = i) (hn : i < M.2.2.1) (h : (i, Value.int x) :: lv.filter (pf1 i) = lv') (kk : E g d b M q lv' st s r s') : E g d b M pc lv (.int x :: st) s r s' := by
  subst hq
  intro p l e R u m args below meth c H locs cells slots ls C hW hS hl h1 h2
  exact lv_istore_n C.1 C.2.1 hd hi hl hn (pf1_map h) (fun ls' hl' => kk p l e R u m args below meth c H locs cells slots ls' C hW hS hl' h1 h2)
theorem E_istore {i : Nat} {x : Int32} (q : Nat) (hq : pc + 2 = q) (hd : decode M.2.1 pc = .ok (.istore i, 2)) (hn : i < M.2.2.1) (h : (i, Value.int x) :: lv.filter (pf1 i) = lv') (kk : E g d b M q lv' st s r s') : E g d b M pc lv (.int x :: st) s r s' := by
  subst hq
  intro p l e R u m args below meth c H locs cells slots ls C hW hS hl h1 h2
  exact lv_istore C.1 C.2.1 hd hl hn (pf1_map h) (fun ls' hl' => kk p l e R u m args below meth c H locs cells slots ls' C hW hS hl' h1 h2)
theorem E_lstore_n {k : Fin 4} {i : Nat} {x : Int64} (q : Nat) (hq : pc + 1 = q) (hd : decode M.2.1 pc = .ok (.lstore_n k, 1)) (hi : (k : Nat) = i) (hn : i + 1 < M.2.2.1) (h : (i, Value.long x) :: lv.filter (pf2 i) = lv') (kk : E g d b M q lv' st s r s') : E g d b M pc lv (.long x :: st) s r s' := by
  subst hq
  intro p l e R u m args below meth c H locs cells slots ls C hW hS hl h1 h2
  exact lv_lstore_n C.1 C.2.1 hd hi hl hn (pf2_map h) (fun ls' hl' => kk p l e R u m args below meth c H locs cells slots ls' C hW hS hl' h1 h2)
theorem E_lstore {i : Nat} {x : Int64} (q : Nat) (hq : pc + 2 = q) (hd : decode M.2.1 pc = .ok (.lstore i, 2)) (hn : i + 1 < M.2.2.1) (h : (i, Value.long x) :: lv.filter (pf2 i) = lv') (kk : E g d b M q lv' st s r s') : E g d b M pc lv (.long x :: st) s r s' := by
  subst hq
  intro p l e R u m args below meth c H locs cells slots ls C hW hS hl h1 h2
  exact lv_lstore C.1 C.2.1 hd hl hn (pf2_map h) (fun ls' hl' => kk p l e R u m args below meth c H locs cells slots ls' C hW hS hl' h1 h2)
theorem E_astore_n {k : Fin 4} {i : Nat} {x : Nat} (q : Nat) (hq : pc + 1 = q) (hd : decode M.2.1 pc = .ok (.astore_n k, 1)) (hi : (k : Nat) = i) (hn : i < M.2.2.1) (h : (i, Value.ref x) :: lv.filter (pf1 i) = lv') (kk : E g d b M q lv' st s r s') : E g d b M pc lv (.ref x :: st) s r s' := by
  subst hq
  intro p l e R u m args below meth c H locs cells slots ls C hW hS hl h1 h2
  exact lv_astore_n C.1 C.2.1 hd hi hl hn (pf1_map h) (fun ls' hl' => kk p l e R u m args below meth c H locs cells slots ls' C hW hS hl' h1 h2)
theorem E_astore {i : Nat} {x : Nat} (q : Nat) (hq : pc + 2 = q) (hd : decode M.2.1 pc = .ok (.astore i, 2)) (hn : i < M.2.2.1) (h : (i, Value.ref x) :: lv.filter (pf1 i) = lv') (kk : E g d b M q lv' st s r s') : E g d b M pc lv (.ref x :: st) s r s' := by
  subst hq
  intro p l e R u m args below meth c H locs cells slots ls C hW hS hl h1 h2
  exact lv_astore C.1 C.2.1 hd hl hn (pf1_map h) (fun ls' hl' => kk p l e R u m args below meth c H locs cells slots ls' C hW hS hl' h1 h2)
theorem E_iinc {i j : Nat} {n : Int} {x v : Int32} (q : Nat) (hq : pc + 3 = q) (hd : decode M.2.1 pc = .ok (.iinc i n, 3)) (hj : lv[j]? = some (i, .int x)) (hv : x + Int32.ofInt n = v) (hn : i < M.2.2.1) (h : (i, Value.int v) :: lv.filter (pf1 i) = lv') (kk : E g d b M q lv' st s r s') : E g d b M pc lv st s r s' := by
  subst hq
  intro p l e R u m args below meth c H locs cells slots ls C hW hS hl h1 h2
  exact lv_iinc C.1 C.2.1 hd hl (cq_at hj) hv hn (pf1_map h) (fun ls' hl' => kk p l e R u m args below meth c H locs cells slots ls' C hW hS hl' h1 h2)
theorem E_iadd {x y : Int32} (q : Nat) (hq : pc + 1 = q) (hd : decode M.2.1 pc = .ok (.iadd, 1)) (k : E g d b M q lv (.int (x + y) :: st) s r s') : E g d b M pc lv (.int y :: .int x :: st) s r s' := by
  subst hq
  intro p l e R u m args below meth c H locs cells slots ls C hW hS hl h1 h2
  exact lv_iadd C.1 C.2.1 hd (k p l e R u m args below meth c H locs cells slots ls C hW hS hl h1 h2)
theorem E_isub {x y : Int32} (q : Nat) (hq : pc + 1 = q) (hd : decode M.2.1 pc = .ok (.isub, 1)) (k : E g d b M q lv (.int (x - y) :: st) s r s') : E g d b M pc lv (.int y :: .int x :: st) s r s' := by
  subst hq
  intro p l e R u m args below meth c H locs cells slots ls C hW hS hl h1 h2
  exact lv_isub C.1 C.2.1 hd (k p l e R u m args below meth c H locs cells slots ls C hW hS hl h1 h2)
theorem E_imul {x y : Int32} (q : Nat) (hq : pc + 1 = q) (hd : decode M.2.1 pc = .ok (.imul, 1)) (k : E g d b M q lv (.int (x * y) :: st) s r s') : E g d b M pc lv (.int y :: .int x :: st) s r s' := by
  subst hq
  intro p l e R u m args below meth c H locs cells slots ls C hW hS hl h1 h2
  exact lv_imul C.1 C.2.1 hd (k p l e R u m args below meth c H locs cells slots ls C hW hS hl h1 h2)
theorem E_iand {x y : Int32} (q : Nat) (hq : pc + 1 = q) (hd : decode M.2.1 pc = .ok (.iand, 1)) (k : E g d b M q lv (.int (x &&& y) :: st) s r s') : E g d b M pc lv (.int y :: .int x :: st) s r s' := by
  subst hq
  intro p l e R u m args below meth c H locs cells slots ls C hW hS hl h1 h2
  exact lv_iand C.1 C.2.1 hd (k p l e R u m args below meth c H locs cells slots ls C hW hS hl h1 h2)
theorem E_ior {x y : Int32} (q : Nat) (hq : pc + 1 = q) (hd : decode M.2.1 pc = .ok (.ior, 1)) (k : E g d b M q lv (.int (x ||| y) :: st) s r s') : E g d b M pc lv (.int y :: .int x :: st) s r s' := by
  subst hq
  intro p l e R u m args below meth c H locs cells slots ls C hW hS hl h1 h2
  exact lv_ior C.1 C.2.1 hd (k p l e R u m args below meth c H locs cells slots ls C hW hS hl h1 h2)
theorem E_ixor {x y : Int32} (q : Nat) (hq : pc + 1 = q) (hd : decode M.2.1 pc = .ok (.ixor, 1)) (k : E g d b M q lv (.int (x ^^^ y) :: st) s r s') : E g d b M pc lv (.int y :: .int x :: st) s r s' := by
  subst hq
  intro p l e R u m args below meth c H locs cells slots ls C hW hS hl h1 h2
  exact lv_ixor C.1 C.2.1 hd (k p l e R u m args below meth c H locs cells slots ls C hW hS hl h1 h2)
theorem E_ishl {x y : Int32} (q : Nat) (hq : pc + 1 = q) (hd : decode M.2.1 pc = .ok (.ishl, 1)) (k : E g d b M q lv (.int (x <<< (y &&& 31)) :: st) s r s') : E g d b M pc lv (.int y :: .int x :: st) s r s' := by
  subst hq
  intro p l e R u m args below meth c H locs cells slots ls C hW hS hl h1 h2
  exact lv_ishl C.1 C.2.1 hd (k p l e R u m args below meth c H locs cells slots ls C hW hS hl h1 h2)
theorem E_ishr {x y : Int32} (q : Nat) (hq : pc + 1 = q) (hd : decode M.2.1 pc = .ok (.ishr, 1)) (k : E g d b M q lv (.int (x >>> (y &&& 31)) :: st) s r s') : E g d b M pc lv (.int y :: .int x :: st) s r s' := by
  subst hq
  intro p l e R u m args below meth c H locs cells slots ls C hW hS hl h1 h2
  exact lv_ishr C.1 C.2.1 hd (k p l e R u m args below meth c H locs cells slots ls C hW hS hl h1 h2)
theorem E_idiv {x y : Int32} (q : Nat) (hq : pc + 1 = q) (hd : decode M.2.1 pc = .ok (.idiv, 1)) (hne : ¬ y = 0) (k : E g d b M q lv (.int (x / y) :: st) s r s') : E g d b M pc lv (.int y :: .int x :: st) s r s' := by
  subst hq
  intro p l e R u m args below meth c H locs cells slots ls C hW hS hl h1 h2
  exact lv_idiv C.1 C.2.1 hd hne (k p l e R u m args below meth c H locs cells slots ls C hW hS hl h1 h2)
theorem E_irem {x y : Int32} (q : Nat) (hq : pc + 1 = q) (hd : decode M.2.1 pc = .ok (.irem, 1)) (hne : ¬ y = 0) (k : E g d b M q lv (.int (x - x / y * y) :: st) s r s') : E g d b M pc lv (.int y :: .int x :: st) s r s' := by
  subst hq
  intro p l e R u m args below meth c H locs cells slots ls C hW hS hl h1 h2
  exact lv_irem C.1 C.2.1 hd hne (k p l e R u m args below meth c H locs cells slots ls C hW hS hl h1 h2)
theorem E_ladd {x y : Int64} (q : Nat) (hq : pc + 1 = q) (hd : decode M.2.1 pc = .ok (.ladd, 1)) (k : E g d b M q lv (.long (x + y) :: st) s r s') : E g d b M pc lv (.long y :: .long x :: st) s r s' := by
  subst hq
  intro p l e R u m args below meth c H locs cells slots ls C hW hS hl h1 h2
  exact lv_ladd C.1 C.2.1 hd (k p l e R u m args below meth c H locs cells slots ls C hW hS hl h1 h2)
theorem E_lsub {x y : Int64} (q : Nat) (hq : pc + 1 = q) (hd : decode M.2.1 pc = .ok (.lsub, 1)) (k : E g d b M q lv (.long (x - y) :: st) s r s') : E g d b M pc lv (.long y :: .long x :: st) s r s' := by
  subst hq
  intro p l e R u m args below meth c H locs cells slots ls C hW hS hl h1 h2
  exact lv_lsub C.1 C.2.1 hd (k p l e R u m args below meth c H locs cells slots ls C hW hS hl h1 h2)
theorem E_lmul {x y : Int64} (q : Nat) (hq : pc + 1 = q) (hd : decode M.2.1 pc = .ok (.lmul, 1)) (k : E g d b M q lv (.long (x * y) :: st) s r s') : E g d b M pc lv (.long y :: .long x :: st) s r s' := by
  subst hq
  intro p l e R u m args below meth c H locs cells slots ls C hW hS hl h1 h2
  exact lv_lmul C.1 C.2.1 hd (k p l e R u m args below meth c H locs cells slots ls C hW hS hl h1 h2)
theorem E_lor {x y : Int64} (q : Nat) (hq : pc + 1 = q) (hd : decode M.2.1 pc = .ok (.lor, 1)) (k : E g d b M q lv (.long (x ||| y) :: st) s r s') : E g d b M pc lv (.long y :: .long x :: st) s r s' := by
  subst hq
  intro p l e R u m args below meth c H locs cells slots ls C hW hS hl h1 h2
  exact lv_lor C.1 C.2.1 hd (k p l e R u m args below meth c H locs cells slots ls C hW hS hl h1 h2)
theorem E_ldiv {x y : Int64} (q : Nat) (hq : pc + 1 = q) (hd : decode M.2.1 pc = .ok (.ldiv, 1)) (hne : ¬ y = 0) (k : E g d b M q lv (.long (x / y) :: st) s r s') : E g d b M pc lv (.long y :: .long x :: st) s r s' := by
  subst hq
  intro p l e R u m args below meth c H locs cells slots ls C hW hS hl h1 h2
  exact lv_ldiv C.1 C.2.1 hd hne (k p l e R u m args below meth c H locs cells slots ls C hW hS hl h1 h2)
theorem E_i2l {x : Int32} (q : Nat) (hq : pc + 1 = q) (hd : decode M.2.1 pc = .ok (.i2l, 1)) (k : E g d b M q lv (.long x.toInt64 :: st) s r s') : E g d b M pc lv (.int x :: st) s r s' := by
  subst hq
  intro p l e R u m args below meth c H locs cells slots ls C hW hS hl h1 h2
  exact lv_i2l C.1 C.2.1 hd rfl (k p l e R u m args below meth c H locs cells slots ls C hW hS hl h1 h2)
theorem E_l2i {x : Int64} (q : Nat) (hq : pc + 1 = q) (hd : decode M.2.1 pc = .ok (.l2i, 1)) (k : E g d b M q lv (.int x.toInt32 :: st) s r s') : E g d b M pc lv (.long x :: st) s r s' := by
  subst hq
  intro p l e R u m args below meth c H locs cells slots ls C hW hS hl h1 h2
  exact lv_l2i C.1 C.2.1 hd rfl (k p l e R u m args below meth c H locs cells slots ls C hW hS hl h1 h2)
theorem E_i2b {x : Int32} (q : Nat) (hq : pc + 1 = q) (hd : decode M.2.1 pc = .ok (.i2b, 1)) (k : E g d b M q lv (.int x.toInt8.toInt32 :: st) s r s') : E g d b M pc lv (.int x :: st) s r s' := by
  subst hq
  intro p l e R u m args below meth c H locs cells slots ls C hW hS hl h1 h2
  exact lv_i2b C.1 C.2.1 hd rfl (k p l e R u m args below meth c H locs cells slots ls C hW hS hl h1 h2)
theorem E_lshl {x : Int64} {y : Int32} (q : Nat) (hq : pc + 1 = q) (hd : decode M.2.1 pc = .ok (.lshl, 1)) (k : E g d b M q lv (.long (x <<< (y.toInt64 &&& 63)) :: st) s r s') : E g d b M pc lv (.int y :: .long x :: st) s r s' := by
  subst hq
  intro p l e R u m args below meth c H locs cells slots ls C hW hS hl h1 h2
  exact lv_lshl C.1 C.2.1 hd rfl (k p l e R u m args below meth c H locs cells slots ls C hW hS hl h1 h2)
theorem E_lshr {x : Int64} {y : Int32} (q : Nat) (hq : pc + 1 = q) (hd : decode M.2.1 pc = .ok (.lshr, 1)) (k : E g d b M q lv (.long (x >>> (y.toInt64 &&& 63)) :: st) s r s') : E g d b M pc lv (.int y :: .long x :: st) s r s' := by
  subst hq
  intro p l e R u m args below meth c H locs cells slots ls C hW hS hl h1 h2
  exact lv_lshr C.1 C.2.1 hd rfl (k p l e R u m args below meth c H locs cells slots ls C hW hS hl h1 h2)
theorem E_iushr {x y : Int32} (q : Nat) (hq : pc + 1 = q) (hd : decode M.2.1 pc = .ok (.iushr, 1)) (k : E g d b M q lv (.int (x.toUInt32 >>> (y.toUInt32 &&& Int32.toUInt32 31)).toInt32 :: st) s r s') : E g d b M pc lv (.int y :: .int x :: st) s r s' := by
  subst hq
  intro p l e R u m args below meth c H locs cells slots ls C hW hS hl h1 h2
  exact lv_iushr C.1 C.2.1 hd rfl (k p l e R u m args below meth c H locs cells slots ls C hW hS hl h1 h2)
theorem E_lcmp {x y : Int64} (q : Nat) (hq : pc + 1 = q) (hd : decode M.2.1 pc = .ok (.lcmp, 1)) (k : E g d b M q lv (.int (lg_cmp x y) :: st) s r s') : E g d b M pc lv (.long y :: .long x :: st) s r s' := by
  subst hq
  intro p l e R u m args below meth c H locs cells slots ls C hW hS hl h1 h2
  exact W.lcmp C.1 C.2.1 hd (k p l e R u m args below meth c H locs cells slots ls C hW hS hl h1 h2)
theorem E_dup {va : Value} (q : Nat) (hq : pc + 1 = q) (hd : decode M.2.1 pc = .ok (.dup, 1)) (h : va.category = 1) (k : E g d b M q lv (va :: va :: st) s r s') : E g d b M pc lv (va :: st) s r s' := by
  subst hq
  intro p l e R u m args below meth c H locs cells slots ls C hW hS hl h1 h2
  exact lv_dup C.1 C.2.1 hd (by rw [cv_cat]; exact h) (k p l e R u m args below meth c H locs cells slots ls C hW hS hl h1 h2)
theorem E_dup2 {va vb : Value} (q : Nat) (hq : pc + 1 = q) (hd : decode M.2.1 pc = .ok (.dup2, 1)) (h : va.category = 1) (h' : vb.category = 1) (k : E g d b M q lv (va :: vb :: va :: vb :: st) s r s') : E g d b M pc lv (va :: vb :: st) s r s' := by
  subst hq
  intro p l e R u m args below meth c H locs cells slots ls C hW hS hl h1 h2
  exact lv_dup2_11 C.1 C.2.1 hd (by rw [cv_cat]; exact h) (by rw [cv_cat]; exact h') (k p l e R u m args below meth c H locs cells slots ls C hW hS hl h1 h2)
theorem E_pop2 {va : Value} (q : Nat) (hq : pc + 1 = q) (hd : decode M.2.1 pc = .ok (.pop2, 1)) (h : va.category = 2) (k : E g d b M q lv st s r s') : E g d b M pc lv (va :: st) s r s' := by
  subst hq
  intro p l e R u m args below meth c H locs cells slots ls C hW hS hl h1 h2
  exact lv_pop2_2 C.1 C.2.1 hd (by rw [cv_cat]; exact h) (k p l e R u m args below meth c H locs cells slots ls C hW hS hl h1 h2)
theorem E_if_eq {x : Int32} {off : Int} (t q : Nat) (ht : (pc : Int) + off = (t : Int)) (hq : pc + 3 = q) (hd : decode M.2.1 pc = .ok (.ifCond .eq off, 3)) (kt : x = 0 → E g d b M t lv st s r s') (kf : ¬ x = 0 → E g d b M q lv st s r s') : E g d b M pc lv (.int x :: st) s r s' := by
  subst hq
  intro p l e R u m args below meth c H locs cells slots ls C hW hS hl h1 h2
  exact lv_if_eq C.1 C.2.1 hd ht (fun h => kt h p l e R u m args below meth c H locs cells slots ls C hW hS hl h1 h2) (fun h => kf h p l e R u m args below meth c H locs cells slots ls C hW hS hl h1 h2)
theorem E_if_ne {x : Int32} {off : Int} (t q : Nat) (ht : (pc : Int) + off = (t : Int)) (hq : pc + 3 = q) (hd : decode M.2.1 pc = .ok (.ifCond .ne off, 3)) (kt : ¬ x = 0 → E g d b M t lv st s r s') (kf : x = 0 → E g d b M q lv st s r s') : E g d b M pc lv (.int x :: st) s r s' := by
  subst hq
  intro p l e R u m args below meth c H locs cells slots ls C hW hS hl h1 h2
  exact lv_if_ne C.1 C.2.1 hd ht (fun h => kt h p l e R u m args below meth c H locs cells slots ls C hW hS hl h1 h2) (fun h => kf h p l e R u m args below meth c H locs cells slots ls C hW hS hl h1 h2)
theorem E_if_lt {x : Int32} {off : Int} (t q : Nat) (ht : (pc : Int) + off = (t : Int)) (hq : pc + 3 = q) (hd : decode M.2.1 pc = .ok (.ifCond .lt off, 3)) (kt : x < 0 → E g d b M t lv st s r s') (kf : ¬ x < 0 → E g d b M q lv st s r s') : E g d b M pc lv (.int x :: st) s r s' := by
  subst hq
  intro p l e R u m args below meth c H locs cells slots ls C hW hS hl h1 h2
  exact lv_if_lt C.1 C.2.1 hd ht (fun h => kt h p l e R u m args below meth c H locs cells slots ls C hW hS hl h1 h2) (fun h => kf h p l e R u m args below meth c H locs cells slots ls C hW hS hl h1 h2)
theorem E_if_ge {x : Int32} {off : Int} (t q : Nat) (ht : (pc : Int) + off = (t : Int)) (hq : pc + 3 = q) (hd : decode M.2.1 pc = .ok (.ifCond .ge off, 3)) (kt : 0 ≤ x → E g d b M t lv st s r s') (kf : ¬ 0 ≤ x → E g d b M q lv st s r s') : E g d b M pc lv (.int x :: st) s r s' := by
  subst hq
  intro p l e R u m args below meth c H locs cells slots ls C hW hS hl h1 h2
  exact lv_if_ge C.1 C.2.1 hd ht (fun h => kt h p l e R u m args below meth c H locs cells slots ls C hW hS hl h1 h2) (fun h => kf h p l e R u m args below meth c H locs cells slots ls C hW hS hl h1 h2)
theorem E_if_gt {x : Int32} {off : Int} (t q : Nat) (ht : (pc : Int) + off = (t : Int)) (hq : pc + 3 = q) (hd : decode M.2.1 pc = .ok (.ifCond .gt off, 3)) (kt : 0 < x → E g d b M t lv st s r s') (kf : ¬ 0 < x → E g d b M q lv st s r s') : E g d b M pc lv (.int x :: st) s r s' := by
  subst hq
  intro p l e R u m args below meth c H locs cells slots ls C hW hS hl h1 h2
  exact lv_if_gt C.1 C.2.1 hd ht (fun h => kt h p l e R u m args below meth c H locs cells slots ls C hW hS hl h1 h2) (fun h => kf h p l e R u m args below meth c H locs cells slots ls C hW hS hl h1 h2)
theorem E_if_le {x : Int32} {off : Int} (t q : Nat) (ht : (pc : Int) + off = (t : Int)) (hq : pc + 3 = q) (hd : decode M.2.1 pc = .ok (.ifCond .le off, 3)) (kt : x ≤ 0 → E g d b M t lv st s r s') (kf : ¬ x ≤ 0 → E g d b M q lv st s r s') : E g d b M pc lv (.int x :: st) s r s' := by
  subst hq
  intro p l e R u m args below meth c H locs cells slots ls C hW hS hl h1 h2
  exact lv_if_le C.1 C.2.1 hd ht (fun h => kt h p l e R u m args below meth c H locs cells slots ls C hW hS hl h1 h2) (fun h => kf h p l e R u m args below meth c H locs cells slots ls C hW hS hl h1 h2)
theorem E_icmp_eq {x y : Int32} {off : Int} (t q : Nat) (ht : (pc : Int) + off = (t : Int)) (hq : pc + 3 = q) (hd : decode M.2.1 pc = .ok (.if_icmp .eq off, 3)) (kt : x = y → E g d b M t lv st s r s') (kf : ¬ x = y → E g d b M q lv st s r s') : E g d b M pc lv (.int y :: .int x :: st) s r s' := by
  subst hq
  intro p l e R u m args below meth c H locs cells slots ls C hW hS hl h1 h2
  exact lv_icmp_eq C.1 C.2.1 hd ht (fun h => kt h p l e R u m args below meth c H locs cells slots ls C hW hS hl h1 h2) (fun h => kf h p l e R u m args below meth c H locs cells slots ls C hW hS hl h1 h2)
theorem E_icmp_ne {x y : Int32} {off : Int} (t q : Nat) (ht : (pc : Int) + off = (t : Int)) (hq : pc + 3 = q) (hd : decode M.2.1 pc = .ok (.if_icmp .ne off, 3)) (kt : ¬ x = y → E g d b M t lv st s r s') (kf : x = y → E g d b M q lv st s r s') : E g d b M pc lv (.int y :: .int x :: st) s r s' := by
  subst hq
  intro p l e R u m args below meth c H locs cells slots ls C hW hS hl h1 h2
  exact lv_icmp_ne C.1 C.2.1 hd ht (fun h => kt h p l e R u m args below meth c H locs cells slots ls C hW hS hl h1 h2) (fun h => kf h p l e R u m args below meth c H locs cells slots ls C hW hS hl h1 h2)
theorem E_icmp_lt {x y : Int32} {off : Int} (t q : Nat) (ht : (pc : Int) + off = (t : Int)) (hq : pc + 3 = q) (hd : decode M.2.1 pc = .ok (.if_icmp .lt off, 3)) (kt : x < y → E g d b M t lv st s r s') (kf : ¬ x < y → E g d b M q lv st s r s') : E g d b M pc lv (.int y :: .int x :: st) s r s' := by
  subst hq
  intro p l e R u m args below meth c H locs cells slots ls C hW hS hl h1 h2
  exact lv_icmp_lt C.1 C.2.1 hd ht (fun h => kt h p l e R u m args below meth c H locs cells slots ls C hW hS hl h1 h2) (fun h => kf h p l e R u m args below meth c H locs cells slots ls C hW hS hl h1 h2)
theorem E_icmp_ge {x y : Int32} {off : Int} (t q : Nat) (ht : (pc : Int) + off = (t : Int)) (hq : pc + 3 = q) (hd : decode M.2.1 pc = .ok (.if_icmp .ge off, 3)) (kt : y ≤ x → E g d b M t lv st s r s') (kf : ¬ y ≤ x → E g d b M q lv st s r s') : E g d b M pc lv (.int y :: .int x :: st) s r s' := by
  subst hq
  intro p l e R u m args below meth c H locs cells slots ls C hW hS hl h1 h2
  exact lv_icmp_ge C.1 C.2.1 hd ht (fun h => kt h p l e R u m args below meth c H locs cells slots ls C hW hS hl h1 h2) (fun h => kf h p l e R u m args below meth c H locs cells slots ls C hW hS hl h1 h2)
theorem E_icmp_gt {x y : Int32} {off : Int} (t q : Nat) (ht : (pc : Int) + off = (t : Int)) (hq : pc + 3 = q) (hd : decode M.2.1 pc = .ok (.if_icmp .gt off, 3)) (kt : y < x → E g d b M t lv st s r s') (kf : ¬ y < x → E g d b M q lv st s r s') : E g d b M pc lv (.int y :: .int x :: st) s r s' := by
  subst hq
  intro p l e R u m args below meth c H locs cells slots ls C hW hS hl h1 h2
  exact lv_icmp_gt C.1 C.2.1 hd ht (fun h => kt h p l e R u m args below meth c H locs cells slots ls C hW hS hl h1 h2) (fun h => kf h p l e R u m args below meth c H locs cells slots ls C hW hS hl h1 h2)
theorem E_icmp_le {x y : Int32} {off : Int} (t q : Nat) (ht : (pc : Int) + off = (t : Int)) (hq : pc + 3 = q) (hd : decode M.2.1 pc = .ok (.if_icmp .le off, 3)) (kt : x ≤ y → E g d b M t lv st s r s') (kf : ¬ x ≤ y → E g d b M q lv st s r s') : E g d b M pc lv (.int y :: .int x :: st) s r s' := by
  subst hq
  intro p l e R u m args below meth c H locs cells slots ls C hW hS hl h1 h2
  exact lv_icmp_le C.1 C.2.1 hd ht (fun h => kt h p l e R u m args below meth c H locs cells slots ls C hW hS hl h1 h2) (fun h => kf h p l e R u m args below meth c H locs cells slots ls C hW hS hl h1 h2)
theorem bI_0 {x : Bool} : bI x = 0 ↔ x = false := by cases x <;> decide
theorem E_if_eqB {x : Bool} {off : Int} (t q : Nat) (ht : (pc : Int) + off = (t : Int)) (hq : pc + 3 = q) (hd : decode M.2.1 pc = .ok (.ifCond .eq off, 3)) (kt : x = false → E g d b M t lv st s r s') (kf : x = true → E g d b M q lv st s r s') : E g d b M pc lv (.int (bI x) :: st) s r s' :=
  E_if_eq t q ht hq hd (fun h => kt (bI_0.mp h)) (fun h => kf (by cases x; exact absurd rfl h; rfl))
theorem E_if_neB {x : Bool} {off : Int} (t q : Nat) (ht : (pc : Int) + off = (t : Int)) (hq : pc + 3 = q) (hd : decode M.2.1 pc = .ok (.ifCond .ne off, 3)) (kt : x = true → E g d b M t lv st s r s') (kf : x = false → E g d b M q lv st s r s') : E g d b M pc lv (.int (bI x) :: st) s r s' :=
  E_if_ne t q ht hq hd (fun h => kt (by cases x; exact absurd rfl h; rfl)) (fun h => kf (bI_0.mp h))
theorem E_goto {off : Int} (t : Nat) (ht : (pc : Int) + off = (t : Int)) (hd : decode M.2.1 pc = .ok (.goto off, 3)) (k : E g d b M t lv st s r s') : E g d b M pc lv st s r s' := by
  intro p l e R u m args below meth c H locs cells slots ls C hW hS hl h1 h2
  exact lv_goto C.1 C.2.1 hd ht (k p l e R u m args below meth c H locs cells slots ls C hW hS hl h1 h2)
theorem E_tsIn {dflt lo hi off : Int} {offs : Array Int} {len : Nat} {x : Int32} (v : Int32) (hx : x = v) (t : Nat) (ht : (pc : Int) + off = (t : Int)) (h1' : ¬ v.toInt < lo) (h2' : ¬ hi < v.toInt) (ho : offs[(v.toInt - lo).toNat]? = some off) (hd : decode M.2.1 pc = .ok (.tableswitch dflt lo hi offs, len)) (k : E g d b M t lv st s r s') : E g d b M pc lv (.int x :: st) s r s' := by
  subst hx
  intro p l e R u m args below meth c H locs cells slots ls C hW hS hl h1 h2
  exact lv_tableIn C.1 C.2.1 hd h1' h2' ho ht (k p l e R u m args below meth c H locs cells slots ls C hW hS hl h1 h2)
theorem E_tsOut {dflt lo hi : Int} {offs : Array Int} {len : Nat} {x : Int32} (n : Nat) (hn : hi < lo + n) (h : ∀ i : Nat, i < n → ¬ x.toInt = lo + i) (t : Nat) (ht : (pc : Int) + dflt = (t : Int)) (hd : decode M.2.1 pc = .ok (.tableswitch dflt lo hi offs, len)) (k : E g d b M t lv st s r s') : E g d b M pc lv (.int x :: st) s r s' := by
  intro p l e R u m args below meth c H locs cells slots ls C hW hS hl h1 h2
  refine lv_tableOut C.1 C.2.1 hd ?_ ht (k p l e R u m args below meth c H locs cells slots ls C hW hS hl h1 h2)
  by_cases h3 : x.toInt < lo
  · exact Or.inl h3
  · refine Or.inr ?_
    by_cases h4 : hi < x.toInt
    · exact h4
    · exact absurd (show x.toInt = lo + ((x.toInt - lo).toNat : Int) by omega) (h (x.toInt - lo).toNat (by omega))
theorem E_lkIn {dflt off : Int} {ps : Array (Int × Int)} {len : Nat} {x : Int32} (v : Int32) (hx : x = v) (t : Nat) (ht : (pc : Int) + off = (t : Int)) (hp : (ps.toList.zip (ps.toList.drop 1)).all (fun (a, next) => a.1 < next.1) = true) (ho : Op.lookupswitch.offset ps.toList dflt v.toInt = off) (hd : decode M.2.1 pc = .ok (.lookupswitch dflt ps, len)) (k : E g d b M t lv st s r s') : E g d b M pc lv (.int x :: st) s r s' := by
  subst hx
  intro p l e R u m args below meth c H locs cells slots ls C hW hS hl h1 h2
  exact lv_lookup C.1 C.2.1 hd hp ho ht (k p l e R u m args below meth c H locs cells slots ls C hW hS hl h1 h2)
theorem E_lk {dflt off : Int} {ps : Array (Int × Int)} {len : Nat} {x : Int32} (t : Nat) (ht : (pc : Int) + off = (t : Int)) (hp : (ps.toList.zip (ps.toList.drop 1)).all (fun (a, next) => a.1 < next.1) = true) (ho : Op.lookupswitch.offset ps.toList dflt x.toInt = off) (hd : decode M.2.1 pc = .ok (.lookupswitch dflt ps, len)) (k : E g d b M t lv st s r s') : E g d b M pc lv (.int x :: st) s r s' := by
  intro p l e R u m args below meth c H locs cells slots ls C hW hS hl h1 h2
  exact lv_lookup C.1 C.2.1 hd hp ho ht (k p l e R u m args below meth c H locs cells slots ls C hW hS hl h1 h2)
theorem toI {x v : Int32} (h : ¬ x = v) {n : Int} (hv : v.toInt = n) : ¬ x.toInt = n := fun z => h (Int32.toInt_inj.mp (z.trans hv.symm))
theorem E_ldc {idx : Nat} {v : Int32} (q : Nat) (hq : pc + 2 = q) (hd : decode M.2.1 pc = .ok (.ldc idx, 2)) (hc : Cond.constant M.1.cls idx v ∈ lw_good) (k : E g d b M q lv (.int v :: st) s r s') : E g d b M pc lv st s r s' := by
  subst hq
  intro p l e R u m args below meth c H locs cells slots ls C hW hS hl h1 h2
  exact lv_ldc C.1 C.2.1 C.2.2.2.2.1 (C.2.2.2.2.2.1 _ hc) hd (k p l e R u m args below meth c H locs cells slots ls C hW hS hl h1 h2)
theorem E_ldcw {idx : Nat} {v : Int32} (q : Nat) (hq : pc + 3 = q) (hd : decode M.2.1 pc = .ok (.ldc_w idx, 3)) (hc : Cond.constant M.1.cls idx v ∈ lw_good) (k : E g d b M q lv (.int v :: st) s r s') : E g d b M pc lv st s r s' := by
  subst hq
  intro p l e R u m args below meth c H locs cells slots ls C hW hS hl h1 h2
  exact lv_ldcw C.1 C.2.1 C.2.2.2.2.1 (C.2.2.2.2.2.1 _ hc) hd (k p l e R u m args below meth c H locs cells slots ls C hW hS hl h1 h2)
theorem E_ldc2 {idx : Nat} {v : Int64} (q : Nat) (hq : pc + 3 = q) (hd : decode M.2.1 pc = .ok (.ldc2_w idx, 3)) (hc : Cond.constantLong M.1.cls idx v ∈ lw_good) (k : E g d b M q lv (.long v :: st) s r s') : E g d b M pc lv st s r s' := by
  subst hq
  intro p l e R u m args below meth c H locs cells slots ls C hW hS hl h1 h2
  exact lv_ldc2 C.1 C.2.1 C.2.2.2.2.1 (C.2.2.2.2.2.1 _ hc) hd (k p l e R u m args below meth c H locs cells slots ls C hW hS hl h1 h2)
theorem E_ldcS {idx : Nat} {tx : String} (i : Nat) (hi : i < 66) (q : Nat) (hq : pc + 2 = q) (hd : decode M.2.1 pc = .ok (.ldc idx, 2)) (hc : strT[i]? = some (M.1.cls, idx, tx)) (k : E g d b M q lv (.ref (100000 + i) :: st) s r s') : E g d b M pc lv st s r s' := by
  subst hq
  intro p l e R u m args below meth c H locs cells slots ls C hW hS hl h1 h2
  refine va_ldcS C.1 C.2.1 C.2.2.2.2.1 (C.2.2.2.2.2.2.2.2.2.1.2.2.1 i _ _ _ hc) hd ?_
  have e1 : g.2.2.2.1 i = loc g (100000 + i) := by unfold loc; rw [if_neg (by omega), if_pos (by omega), Nat.add_sub_cancel_left]
  rw [e1]
  exact k p l e R u m args below meth c H locs cells slots ls C hW hS hl h1 h2
-- ===== the heap
theorem shT_len : shT.length = 161 := by decide +kernel
theorem shp_lt {q a0 n0 : Nat} (h : shp q = (a0, n0)) (hx : a0 ≠ 9) : q < 161 := by
  by_cases hq : q < 161
  · exact hq
  · exfalso
    unfold shp at h
    rw [List.getD_eq_getElem?_getD, List.getElem?_eq_none (by rw [shT_len]; omega)] at h
    exact hx (congrArg Prod.fst h).symm
theorem wsO_at (g : Gx) (s : St) {q : Nat} (h : q < 161) : (wsO g s)[q]? = some (g.1 + q, cel g s q) := by
  unfold wsO nP
  rw [List.getElem?_map, List.getElem?_range h]
  rfl
theorem cel_o (g : Gx) (s : St) {q ci : Nat} (h : shp q = (0, ci)) : cel g s q = .inr (ci, (List.range (fkT.getD ci []).length).map (fv g s q ci)) := by unfold cel; rw [h]; rfl
theorem cel_i (g : Gx) (s : St) {q n : Nat} (h : shp q = (1, n)) : cel g s q = .inl (g.2.2.1 1, n, .inl (s.1 q)) := by unfold cel; rw [h]; rfl
theorem cel_b (g : Gx) (s : St) {q n : Nat} (h : shp q = (2, n)) : cel g s q = .inl (g.2.2.1 2, n, .inl (s.1 q)) := by unfold cel; rw [h]; rfl
theorem cel_l (g : Gx) (s : St) {q n : Nat} (h : shp q = (3, n)) : cel g s q = .inl (g.2.2.1 3, n, .inr (.inl (s.2 q))) := by unfold cel; rw [h]; rfl
theorem cel_q (g : Gx) (s : St) {q k n : Nat} (h : shp q = (k, n)) (hk : k = 4 ∨ k = 5 ∨ k = 6) : cel g s q = .inl (g.2.2.1 k, n, .inr (.inr (.inr (.inr (fun i => some (g.1 + rt q i)))))) := by
  unfold cel; rw [h]
  rcases hk with rfl | rfl | rfl <;> rfl
theorem fv_congr (g : Gx) {s t : St} {q : Nat} (h1 : s.1 q = t.1 q) (h2 : s.2 q = t.2 q) (ci k : Nat) : fv g s q ci k = fv g t q ci k := by unfold fv; rw [h1, h2]
theorem cel_congr (g : Gx) {s t : St} {q : Nat} (h1 : s.1 q = t.1 q) (h2 : s.2 q = t.2 q) : cel g s q = cel g t q := by
  unfold cel
  rw [h1, h2]
  have e : fv g s q = fv g t q := by funext ci k; exact fv_congr g h1 h2 ci k
  rw [e]
theorem wsO_set (g : Gx) {s t : St} {q : Nat} {e : va_E} (he : cel g t q = e) (ho : ∀ j, j ≠ q → s.1 j = t.1 j ∧ s.2 j = t.2 j) : (wsO g s).set q (g.1 + q, e) = wsO g t := by
  apply List.ext_getElem?
  intro j
  by_cases hj : j < 161
  · by_cases hjq : j = q
    · subst hjq
      rw [List.getElem?_set_self (by unfold wsO nP; simpa using hj), wsO_at g t hj, he]
    · rw [List.getElem?_set_ne (Ne.symm hjq), wsO_at g s hj, wsO_at g t hj, cel_congr g (ho j hjq).1 (ho j hjq).2]
  · rw [List.getElem?_eq_none (by unfold wsO nP; simp; omega), List.getElem?_eq_none (by unfold wsO nP; simp; omega)]
theorem rng_set {f f' : Nat → Value} {N k : Nat} (h : ∀ j, j ≠ k → f' j = f j) : ((List.range N).map f).set k (f' k) = (List.range N).map f' := by
  apply List.ext_getElem?
  intro j
  by_cases hj : j < N
  · by_cases hjk : j = k
    · subst hjk
      rw [List.getElem?_set_self (by simpa using hj), List.getElem?_map, List.getElem?_range hj]; rfl
    · rw [List.getElem?_set_ne (Ne.symm hjk), List.getElem?_map, List.getElem?_map, List.getElem?_range hj]
      simp [h j hjk]
  · rw [List.getElem?_eq_none (by simp; omega), List.getElem?_eq_none (by simp; omega)]
def up2 (I : Nat → Nat → Int32) (q k : Nat) (x : Int32) : Nat → Nat → Int32 := fun j => if j = q then upd (I q) k x else I j
def upl (I : Nat → Nat → Int64) (q k : Nat) (x : Int64) : Nat → Nat → Int64 := fun j => if j = q then vp_updL (I q) k x else I j
theorem up2_s (I : Nat → Nat → Int32) (q k : Nat) (x : Int32) : up2 I q k x q = upd (I q) k x := if_pos rfl
theorem up2_n (I : Nat → Nat → Int32) {q j : Nat} (k : Nat) (x : Int32) (h : j ≠ q) : up2 I q k x j = I j := if_neg h
theorem upl_s (I : Nat → Nat → Int64) (q k : Nat) (x : Int64) : upl I q k x q = vp_updL (I q) k x := if_pos rfl
theorem upl_n (I : Nat → Nat → Int64) {q j : Nat} (k : Nat) (x : Int64) (h : j ≠ q) : upl I q k x j = I j := if_neg h
theorem wsO_D (g : Gx) (s : St) : va_D (Ag g) (wsO g s) := by
  have key : ∀ (k : Nat) (q : Nat × va_E), (wsO g s)[k]? = some q → q.1 = g.1 + k := by
    intro k q h
    have hk : k < 161 := by
      have := (List.getElem?_eq_some_iff.mp h).1
      unfold wsO nP at this
      simpa using this
    rw [wsO_at g s hk] at h
    cases h
    rfl
  refine ⟨fun i j x y hi hj h => ?_, fun k q h => ?_⟩
  · rw [key i x hi, key j y hj] at h
    omega
  · show g.1 ≤ q.1
    rw [key k q h]
    omega
/-- a class of the worlds: its number, its fields -/
def KC (ci : Nat) (C : String) (T : u_T) (N : Nat) (ty : Nat → FieldType) : Prop :=
  vwCl[ci]? = some (C, T, N) ∧ (∀ w ∈ u_ws C T N, w ∈ lw_good) ∧ (∀ k, k < N → parseFieldDescriptor (T k).2.2.1 = some (ty k)) ∧ (∀ i, i < N → ∀ j, j < N → i ≠ j → (T i).2.1 ≠ (T j).2.1) ∧ (fkT.getD ci []).length = N
/-- an entry of a class's pool: the field k of the class ci -/
def FL (own : String) (idx ci k : Nat) (ty : FieldType) (fin : Bool) : Prop :=
  ∃ (C : String) (T : u_T) (N : Nat) (t0 : Nat → FieldType), KC ci C T N t0 ∧ k < N ∧ Cond.fieldLink own idx (T k).1 (T k).2.1 (T k).2.2.1 ∈ lw_good ∧ t0 k = ty ∧ (T k).2.2.2 = fin
theorem inL {ws : List Cond} (ps : List Nat) (hp : ws = ps.filterMap (fun i => tables_1[i]?)) (h : ws.all goodWord = true) : ∀ w ∈ ws, w ∈ lw_good := by
  intro w hw
  have h1 := List.all_eq_true.mp h w hw
  rw [hp] at hw
  obtain ⟨i, -, hi⟩ := List.mem_filterMap.mp hw
  exact tg i hi h1
theorem E_get {q0 ci k idx : Nat} {ty : FieldType} {fin : Bool} {v : Value} (q : Nat) (hq : pc + 3 = q) (hd : decode M.2.1 pc = .ok (.getfield idx, 3)) (hsh : shp q0 = (0, ci)) (lk : FL M.1.cls idx ci k ty fin) (hv : fv g s q0 ci k = cv g v) (kk : E g d b M q lv (v :: st) s r s') : E g d b M pc lv (.ref q0 :: st) s r s' := by
  subst hq
  intro p l e R u m args below meth c H locs cells slots ls C hW hS hl h1 h2
  obtain ⟨C0, T, N, t0, ⟨hc, hin, hty, hnm, hN⟩, hk, hlink, -, -⟩ := lk
  have hlt := shp_lt hsh (by decide)
  have he := wsO_at g s hlt
  rw [cel_o g s hsh, hN] at he
  show W p l e R u m args below meth c H locs cells slots _ (F0 m pc ls (.ref (loc g q0) :: st.map (cv g)))
  rw [loc_lo g (show q0 < 100000 by omega)]
  refine va_get C.1 C.2.1 C.2.2.2.2.2.1 hin C.2.2.2.2.1 C.2.2.2.2.2.2.2.2.2.1.1 hW q0 he hc k hk (C.2.2.2.2.2.1 _ hlink) (fun x h => h) (v := cv g v) ?_ hd (kk p l e R u m args below meth c H locs cells slots ls C hW hS hl h1 h2)
  rw [List.getElem?_map, List.getElem?_range hk, ← hv]
  rfl
theorem E_getI {q0 ci k idx : Nat} {ty : FieldType} {fin : Bool} (q : Nat) (hq : pc + 3 = q) (hd : decode M.2.1 pc = .ok (.getfield idx, 3)) (hsh : shp q0 = (0, ci)) (lk : FL M.1.cls idx ci k ty fin) (hf : fkd ci k = 0) (kk : E g d b M q lv (.int (s.1 q0 k) :: st) s r s') : E g d b M pc lv (.ref q0 :: st) s r s' :=
  E_get q hq hd hsh lk (by unfold fv; rw [hf]; rfl) kk
theorem E_getL {q0 ci k idx : Nat} {ty : FieldType} {fin : Bool} (q : Nat) (hq : pc + 3 = q) (hd : decode M.2.1 pc = .ok (.getfield idx, 3)) (hsh : shp q0 = (0, ci)) (lk : FL M.1.cls idx ci k ty fin) (hf : fkd ci k = 1) (kk : E g d b M q lv (.long (s.2 q0 k) :: st) s r s') : E g d b M pc lv (.ref q0 :: st) s r s' :=
  E_get q hq hd hsh lk (by unfold fv; rw [hf]; rfl) kk
theorem E_getB {q0 ci k idx : Nat} {ty : FieldType} {fin : Bool} (q : Nat) (hq : pc + 3 = q) (hd : decode M.2.1 pc = .ok (.getfield idx, 3)) (hsh : shp q0 = (0, ci)) (lk : FL M.1.cls idx ci k ty fin) (hf : fkd ci k = 4) (kk : E g d b M q lv (.int (bI (s.1 q0 k != 0)) :: st) s r s') : E g d b M pc lv (.ref q0 :: st) s r s' :=
  E_get q hq hd hsh lk (by unfold fv; rw [hf]; rfl) kk
theorem E_getR {q0 ci k idx : Nat} {ty : FieldType} {fin : Bool} (q1 : Nat) (q : Nat) (hq : pc + 3 = q) (hd : decode M.2.1 pc = .ok (.getfield idx, 3)) (hsh : shp q0 = (0, ci)) (lk : FL M.1.cls idx ci k ty fin) (hf : fkd ci k = 2) (hr : rt q0 k = q1) (h9 : q1 < 100000) (kk : E g d b M q lv (.ref q1 :: st) s r s') : E g d b M pc lv (.ref q0 :: st) s r s' :=
  E_get (v := .ref q1) q hq hd hsh lk (by unfold fv; rw [hf]; show Value.ref (g.1 + rt q0 k) = .ref (loc g q1); rw [hr, loc_lo g h9]) kk
theorem E_getD {q0 ci k idx : Nat} {ty : FieldType} {fin : Bool} (q1 : Nat) (q : Nat) (hq : pc + 3 = q) (hd : decode M.2.1 pc = .ok (.getfield idx, 3)) (hsh : shp q0 = (0, ci)) (lk : FL M.1.cls idx ci k ty fin) (hf : fkd ci k = 3) (hr : (s.1 q0 k).toNatClampNeg = q1) (h9 : q1 < 100000) (kk : E g d b M q lv (.ref q1 :: st) s r s') : E g d b M pc lv (.ref q0 :: st) s r s' :=
  E_get (v := .ref q1) q hq hd hsh lk (by unfold fv; rw [hf]; show Value.ref (g.1 + (s.1 q0 k).toNatClampNeg) = .ref (loc g q1); rw [hr, loc_lo g h9]) kk
theorem E_put {q0 ci k idx : Nat} {ty : FieldType} {v : Value} {t : St} (q : Nat) (hq : pc + 3 = q) (hd : decode M.2.1 pc = .ok (.putfield idx, 3)) (hsh : shp q0 = (0, ci)) (lk : FL M.1.cls idx ci k ty false) (hn : narrow ty (cv g v) = cv g v) (hfit : fits ty (cv g v) = true) (hv : fv g t q0 ci k = cv g v) (ho1 : ∀ j, j ≠ k → fv g t q0 ci j = fv g s q0 ci j) (ho : ∀ j, j ≠ q0 → s.1 j = t.1 j ∧ s.2 j = t.2 j) (kk : E g d b M q lv st t r s') : E g d b M pc lv (v :: .ref q0 :: st) s r s' := by
  subst hq
  intro p l e R u m args below meth c H locs cells slots ls C hW hS hl h1 h2
  obtain ⟨C0, T, N, t0, ⟨hc, hin, hty, hnm, hN⟩, hk, hlink, rfl, hfin⟩ := lk
  have hlt := shp_lt hsh (by decide)
  have he := wsO_at g s hlt
  rw [cel_o g s hsh, hN] at he
  show W p l e R u m args below meth c H locs cells slots _ (F0 m pc ls (cv g v :: .ref (loc g q0) :: st.map (cv g)))
  rw [loc_lo g (show q0 < 100000 by omega)]
  refine va_put C.1 C.2.1 C.2.2.2.2.2.1 hin t0 hty hnm C.2.2.2.2.1 C.2.2.2.2.2.2.2.2.2.1.1 hW (wsO_D g s) hS q0 he hc k hk (C.2.2.2.2.2.1 _ hlink) (fun x h => h) hfin (hty k hk) hn hfit (by simpa using hk) hd ?_
  intro H1 locs1 hP1 hD1 hS1
  refine kk p l e R u m args below meth c H1 locs1 cells slots ls C ?_ hS1 hl h1 h2
  unfold HW
  rw [← wsO_set g (s := s) (t := t) (q := q0) (e := .inr (ci, ((List.range N).map (fv g s q0 ci)).set k (cv g v))) ?_ ho]
  · exact hP1
  · rw [cel_o g t hsh, hN, ← hv, rng_set ho1]
theorem upd_ne (f : Nat → Int32) {k j : Nat} (x : Int32) (h : j ≠ k) : upd f k x j = f j := if_neg h
theorem upd_eq (f : Nat → Int32) (k : Nat) (x : Int32) : upd f k x k = x := if_pos rfl
theorem fv_o1 (g : Gx) (s : St) (q0 ci k : Nat) (x : Int32) {j : Nat} (h : j ≠ k) : fv g (up2 s.1 q0 k x, s.2) q0 ci j = fv g s q0 ci j := by
  unfold fv
  simp only [up2_s, upd_ne _ x h]
theorem fv_o2 (g : Gx) (s : St) (q0 ci k : Nat) (x : Int64) {j : Nat} (h : j ≠ k) : fv g (s.1, upl s.2 q0 k x) q0 ci j = fv g s q0 ci j := by
  have e : vp_updL (s.2 q0) k x j = s.2 q0 j := if_neg h
  unfold fv
  simp only [upl_s, e]
theorem E_putI {q0 ci k idx : Nat} {x : Int32} (q : Nat) (hq : pc + 3 = q) (hd : decode M.2.1 pc = .ok (.putfield idx, 3)) (hsh : shp q0 = (0, ci)) (lk : FL M.1.cls idx ci k .int false) (hf : fkd ci k = 0) (kk : E g d b M q lv st (up2 s.1 q0 k x, s.2) r s') : E g d b M pc lv (.int x :: .ref q0 :: st) s r s' :=
  E_put q hq hd hsh lk rfl rfl (by unfold fv; rw [hf]; simp only [up2_s, upd_eq]; rfl) (fun j h => fv_o1 g s q0 ci k x h) (fun j h => ⟨(up2_n _ _ _ h).symm, rfl⟩) kk
theorem E_putL {q0 ci k idx : Nat} {x : Int64} (q : Nat) (hq : pc + 3 = q) (hd : decode M.2.1 pc = .ok (.putfield idx, 3)) (hsh : shp q0 = (0, ci)) (lk : FL M.1.cls idx ci k .long false) (hf : fkd ci k = 1) (kk : E g d b M q lv st (s.1, upl s.2 q0 k x) r s') : E g d b M pc lv (.long x :: .ref q0 :: st) s r s' :=
  E_put q hq hd hsh lk rfl rfl (by unfold fv; rw [hf]; simp only [upl_s]; show Value.long (vp_updL _ _ _ _) = _; rw [show vp_updL (s.2 q0) k x k = x from if_pos rfl]; rfl) (fun j h => fv_o2 g s q0 ci k x h) (fun j h => ⟨rfl, (upl_n _ _ _ h).symm⟩) kk
theorem E_putB {q0 ci k idx : Nat} {x : Bool} (q : Nat) (hq : pc + 3 = q) (hd : decode M.2.1 pc = .ok (.putfield idx, 3)) (hsh : shp q0 = (0, ci)) (lk : FL M.1.cls idx ci k .boolean false) (hf : fkd ci k = 4) (kk : E g d b M q lv st (up2 s.1 q0 k (bI x), s.2) r s') : E g d b M pc lv (.int (bI x) :: .ref q0 :: st) s r s' :=
  E_put q hq hd hsh lk (by cases x <;> rfl) (by cases x <;> rfl) (by unfold fv; rw [hf]; simp only [up2_s, upd_eq]; cases x <;> rfl) (fun j h => fv_o1 g s q0 ci k _ h) (fun j h => ⟨(up2_n _ _ _ h).symm, rfl⟩) kk
theorem E_putD {q0 q1 ci k idx : Nat} {ty : String} (q : Nat) (hq : pc + 3 = q) (hd : decode M.2.1 pc = .ok (.putfield idx, 3)) (hsh : shp q0 = (0, ci)) (lk : FL M.1.cls idx ci k (.object ty) false) (hf : fkd ci k = 3) (h9 : q1 < 100000) (kk : E g d b M q lv st (up2 s.1 q0 k (nI q1), s.2) r s') : E g d b M pc lv (.ref q1 :: .ref q0 :: st) s r s' :=
  E_put (v := .ref q1) q hq hd hsh lk rfl rfl (by unfold fv; rw [hf]; simp only [up2_s, upd_eq]; show Value.ref (g.1 + (nI q1).toNatClampNeg) = .ref (loc g q1); rw [nI_clamp (by omega), loc_lo g h9]) (fun j h => fv_o1 g s q0 ci k _ h) (fun j h => ⟨(up2_n _ _ _ h).symm, rfl⟩) kk
theorem E_iald {q0 n : Nat} {i : Int32} (q : Nat) (hq : pc + 1 = q) (hd : decode M.2.1 pc = .ok (.iaload, 1)) (hsh : shp q0 = (1, n)) (hi : vp_in i n) (kk : E g d b M q lv (.int (s.1 q0 i.toNatClampNeg) :: st) s r s') : E g d b M pc lv (.int i :: .ref q0 :: st) s r s' := by
  subst hq
  intro p l e R u m args below meth c H locs cells slots ls C hW hS hl h1 h2
  have hlt := shp_lt hsh (by decide)
  have he := wsO_at g s hlt
  rw [cel_i g s hsh] at he
  show W p l e R u m args below meth c H locs cells slots _ (F0 m pc ls (.int i :: .ref (loc g q0) :: st.map (cv g)))
  rw [loc_lo g (show q0 < 100000 by omega)]
  exact va_iald C.1 C.2.1 C.2.2.2.2.2.2.2.2.2.1.1 hW q0 0 he rfl hi hd (kk p l e R u m args below meth c H locs cells slots ls C hW hS hl h1 h2)
theorem E_bald {q0 n : Nat} {i : Int32} (q : Nat) (hq : pc + 1 = q) (hd : decode M.2.1 pc = .ok (.baload, 1)) (hsh : shp q0 = (2, n)) (hi : vp_in i n) (kk : E g d b M q lv (.int (s.1 q0 i.toNatClampNeg) :: st) s r s') : E g d b M pc lv (.int i :: .ref q0 :: st) s r s' := by
  subst hq
  intro p l e R u m args below meth c H locs cells slots ls C hW hS hl h1 h2
  have hlt := shp_lt hsh (by decide)
  have he := wsO_at g s hlt
  rw [cel_b g s hsh] at he
  show W p l e R u m args below meth c H locs cells slots _ (F0 m pc ls (.int i :: .ref (loc g q0) :: st.map (cv g)))
  rw [loc_lo g (show q0 < 100000 by omega)]
  exact va_bald C.1 C.2.1 C.2.2.2.2.2.2.2.2.2.1.1 hW q0 1 he rfl hi hd (kk p l e R u m args below meth c H locs cells slots ls C hW hS hl h1 h2)
theorem E_lald {q0 n : Nat} {i : Int32} (q : Nat) (hq : pc + 1 = q) (hd : decode M.2.1 pc = .ok (.laload, 1)) (hsh : shp q0 = (3, n)) (hi : vp_in i n) (kk : E g d b M q lv (.long (s.2 q0 i.toNatClampNeg) :: st) s r s') : E g d b M pc lv (.int i :: .ref q0 :: st) s r s' := by
  subst hq
  intro p l e R u m args below meth c H locs cells slots ls C hW hS hl h1 h2
  have hlt := shp_lt hsh (by decide)
  have he := wsO_at g s hlt
  rw [cel_l g s hsh] at he
  show W p l e R u m args below meth c H locs cells slots _ (F0 m pc ls (.int i :: .ref (loc g q0) :: st.map (cv g)))
  rw [loc_lo g (show q0 < 100000 by omega)]
  exact va_lald C.1 C.2.1 C.2.2.2.2.2.2.2.2.2.1.1 hW q0 2 he rfl hi hd (kk p l e R u m args below meth c H locs cells slots ls C hW hS hl h1 h2)
theorem E_aald {q0 q1 k n : Nat} {i : Int32} (q : Nat) (hq : pc + 1 = q) (hd : decode M.2.1 pc = .ok (.aaload, 1)) (hsh : shp q0 = (k, n)) (hk : k = 4 ∨ k = 5 ∨ k = 6) (hi : vp_in i n) (hr : rt q0 i.toNatClampNeg = q1) (h9 : q1 < 100000) (kk : E g d b M q lv (.ref q1 :: st) s r s') : E g d b M pc lv (.int i :: .ref q0 :: st) s r s' := by
  subst hq
  intro p l e R u m args below meth c H locs cells slots ls C hW hS hl h1 h2
  have hlt := shp_lt hsh (by rcases hk with rfl | rfl | rfl <;> decide)
  have he := wsO_at g s hlt
  rw [cel_q g s hsh hk] at he
  show W p l e R u m args below meth c H locs cells slots _ (F0 m pc ls (.int i :: .ref (loc g q0) :: st.map (cv g)))
  rw [loc_lo g (show q0 < 100000 by omega)]
  have e1 : (Value.ref (g.1 + rt q0 i.toNatClampNeg)) = cv g (.ref q1) := by rw [hr]; show _ = Value.ref (loc g q1); rw [loc_lo g h9]
  have kk' := kk p l e R u m args below meth c H locs cells slots ls C hW hS hl h1 h2
  rw [List.map_cons, ← e1] at kk'
  rcases hk with rfl | rfl | rfl
  · exact va_aldq C.1 C.2.1 C.2.2.2.2.2.2.2.2.2.1.1 hW q0 3 he rfl hi hd kk'
  · exact va_aldq C.1 C.2.1 C.2.2.2.2.2.2.2.2.2.1.1 hW q0 4 he rfl hi hd kk'
  · exact va_aldq C.1 C.2.1 C.2.2.2.2.2.2.2.2.2.1.1 hW q0 5 he rfl hi hd kk'
theorem E_iast {q0 n : Nat} {i x : Int32} (q : Nat) (hq : pc + 1 = q) (hd : decode M.2.1 pc = .ok (.iastore, 1)) (hsh : shp q0 = (1, n)) (hi : vp_in i n) (kk : E g d b M q lv st (up2 s.1 q0 i.toNatClampNeg x, s.2) r s') : E g d b M pc lv (.int x :: .int i :: .ref q0 :: st) s r s' := by
  subst hq
  intro p l e R u m args below meth c H locs cells slots ls C hW hS hl h1 h2
  have hlt := shp_lt hsh (by decide)
  have he := wsO_at g s hlt
  rw [cel_i g s hsh] at he
  show W p l e R u m args below meth c H locs cells slots _ (F0 m pc ls (.int x :: .int i :: .ref (loc g q0) :: st.map (cv g)))
  rw [loc_lo g (show q0 < 100000 by omega)]
  refine va_iast C.1 C.2.1 C.2.2.2.2.2.2.2.2.2.1.1 hW (wsO_D g s) hS q0 0 he rfl hi hd ?_
  intro H1 locs1 hP1 hD1 hS1
  refine kk p l e R u m args below meth c H1 locs1 cells slots ls C ?_ hS1 hl h1 h2
  unfold HW
  rw [← wsO_set g (s := s) (t := (up2 s.1 q0 i.toNatClampNeg x, s.2)) (q := q0) (by rw [cel_i g _ hsh]) (fun j h => ⟨(up2_n _ _ _ h).symm, rfl⟩)]
  simp only [up2_s]
  exact hP1
theorem E_bast {q0 n : Nat} {i x : Int32} (q : Nat) (hq : pc + 1 = q) (hd : decode M.2.1 pc = .ok (.bastore, 1)) (hsh : shp q0 = (2, n)) (hi : vp_in i n) (kk : E g d b M q lv st (up2 s.1 q0 i.toNatClampNeg x.toInt8.toInt32, s.2) r s') : E g d b M pc lv (.int x :: .int i :: .ref q0 :: st) s r s' := by
  subst hq
  intro p l e R u m args below meth c H locs cells slots ls C hW hS hl h1 h2
  have hlt := shp_lt hsh (by decide)
  have he := wsO_at g s hlt
  rw [cel_b g s hsh] at he
  show W p l e R u m args below meth c H locs cells slots _ (F0 m pc ls (.int x :: .int i :: .ref (loc g q0) :: st.map (cv g)))
  rw [loc_lo g (show q0 < 100000 by omega)]
  refine va_bast C.1 C.2.1 C.2.2.2.2.2.2.2.2.2.1.1 hW (wsO_D g s) hS q0 1 he rfl hi hd ?_
  intro H1 locs1 hP1 hD1 hS1
  refine kk p l e R u m args below meth c H1 locs1 cells slots ls C ?_ hS1 hl h1 h2
  unfold HW
  rw [vp_nar_byte] at hP1
  rw [← wsO_set g (s := s) (t := (up2 s.1 q0 i.toNatClampNeg x.toInt8.toInt32, s.2)) (q := q0) (by rw [cel_b g _ hsh]) (fun j h => ⟨(up2_n _ _ _ h).symm, rfl⟩)]
  simp only [up2_s]
  exact hP1
theorem E_last {q0 n : Nat} {i : Int32} {x : Int64} (q : Nat) (hq : pc + 1 = q) (hd : decode M.2.1 pc = .ok (.lastore, 1)) (hsh : shp q0 = (3, n)) (hi : vp_in i n) (kk : E g d b M q lv st (s.1, upl s.2 q0 i.toNatClampNeg x) r s') : E g d b M pc lv (.long x :: .int i :: .ref q0 :: st) s r s' := by
  subst hq
  intro p l e R u m args below meth c H locs cells slots ls C hW hS hl h1 h2
  have hlt := shp_lt hsh (by decide)
  have he := wsO_at g s hlt
  rw [cel_l g s hsh] at he
  show W p l e R u m args below meth c H locs cells slots _ (F0 m pc ls (.long x :: .int i :: .ref (loc g q0) :: st.map (cv g)))
  rw [loc_lo g (show q0 < 100000 by omega)]
  refine va_last C.1 C.2.1 C.2.2.2.2.2.2.2.2.2.1.1 hW (wsO_D g s) hS q0 2 he rfl hi hd ?_
  intro H1 locs1 hP1 hD1 hS1
  refine kk p l e R u m args below meth c H1 locs1 cells slots ls C ?_ hS1 hl h1 h2
  unfold HW
  rw [← wsO_set g (s := s) (t := (s.1, upl s.2 q0 i.toNatClampNeg x)) (q := q0) (by rw [cel_l g _ hsh]) (fun j h => ⟨rfl, (upl_n _ _ _ h).symm⟩)]
  simp only [upl_s]
  exact hP1

end
