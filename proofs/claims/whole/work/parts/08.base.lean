abbrev St : Type := (Nat → Nat → Int32) × (Nat → Nat → Int64)
/-- base, classes and slots, the arrays' classes by kind, the literals and their bytes -/
abbrev Gx : Type := Nat × va_G × (Nat → ClassId) × (Nat → Nat) × (Nat → Nat)
abbrev Mth : Type := MethodName × ByteArray × Nat × Option FieldType
abbrev Rs : Type := (Option Value) ⊕ String
/-- what lies at each place, in the order of making: (0, class), (1, n) ints, (2, n) bytes, (3, n) longs, (4 to 6, n) doors, heirs, noises -/
def shT : List (Nat × Nat) := [(0, 9), (0, 7), (2, 400), (0, 0), (1, 12), (1, 12), (1, 12), (1, 12), (0, 5), (1, 6), (3, 6), (0, 6), (1, 12), (3, 12), (0, 3), (1, 10), (4, 14), (5, 6), (6, 12), (0, 8), (1, 12), (1, 12), (1, 12), (1, 400), (1, 17), (1, 100), (3, 40), (0, 1), (0, 1), (0, 1), (0, 1), (0, 1), (0, 1), (0, 1), (0, 1), (0, 1), (0, 1), (0, 1), (0, 1), (0, 1), (0, 1), (0, 2), (0, 2), (0, 2), (0, 2), (0, 2), (0, 2), (0, 4), (0, 4), (0, 4), (0, 4), (0, 4), (0, 4), (0, 4), (0, 4), (0, 4), (0, 4), (0, 4), (0, 4), (0, 3), (1, 10), (4, 14), (5, 6), (6, 12), (0, 8), (1, 12), (1, 12), (1, 12), (1, 400), (1, 17), (1, 100), (3, 40), (0, 1), (0, 1), (0, 1), (0, 1), (0, 1), (0, 1), (0, 1), (0, 1), (0, 1), (0, 1), (0, 1), (0, 1), (0, 1), (0, 1), (0, 2), (0, 2), (0, 2), (0, 2), (0, 2), (0, 2), (0, 4), (0, 4), (0, 4), (0, 4), (0, 4), (0, 4), (0, 4), (0, 4), (0, 4), (0, 4), (0, 4), (0, 4), (0, 3), (1, 10), (4, 14), (5, 6), (6, 12), (0, 8), (1, 12), (1, 12), (1, 12), (1, 400), (1, 17), (1, 100), (3, 40), (0, 1), (0, 1), (0, 1), (0, 1), (0, 1), (0, 1), (0, 1), (0, 1), (0, 1), (0, 1), (0, 1), (0, 1), (0, 1), (0, 1), (0, 2), (0, 2), (0, 2), (0, 2), (0, 2), (0, 2), (0, 4), (0, 4), (0, 4), (0, 4), (0, 4), (0, 4), (0, 4), (0, 4), (0, 4), (0, 4), (0, 4), (0, 4), (0, 10), (1, 2143), (1, 1294), (1, 1294), (1, 5340), (2, 400), (1, 5), (1, 100), (1, 400), (1, 6), (3, 6), (3, 1)]
def shp (q : Nat) : Nat × Nat := shT.getD q (9, 0)
def rt (q k : Nat) : Nat :=
  if q = 0 then (if k = 0 then 1 else if k = 1 then 3 else if k = 2 then 8 else if k = 3 then 11 else 104)
  else if q = 1 then 2
  else if q = 3 then 4 + k
  else if q = 8 then (if k = 1 then 9 else 10)
  else if q = 11 then 12 + k
  else if q < 14 then 0
  else if q < 149 then
    (if (q - 14) % 45 = 0 then q + (if k = 4 then 1 else if k = 5 then 2 else if k = 6 then 3 else if k = 7 then 4 else if k = 8 then 5 else if k = 9 then 11 else 12)
     else if (q - 14) % 45 = 2 then q + 11 + k
     else if (q - 14) % 45 = 3 then q + 24 + k
     else if (q - 14) % 45 = 4 then q + 29 + k
     else q + (if k = 0 then 1 else if k = 1 then 2 else if k = 2 then 3 else if k = 3 then 4 else 5))
  else (if k = 1 then 150 else if k = 2 then 151 else if k = 3 then 152 else if k = 4 then 153 else if k = 7 then 154 else if k = 14 then 155 else if k = 16 then 156 else if k = 17 then 157 else if k = 18 then 158 else 159)
def fkT : List (List Nat) := [[2, 2, 2, 2, 0, 0], [0, 0, 0], [0, 0, 0], [0, 0, 0, 0, 2, 2, 2, 2, 2, 2, 2, 0, 0, 0, 4, 0, 0, 0, 0], [0, 0, 0, 0, 0, 0, 0, 0, 0, 4], [0, 2, 0, 2, 1], [2, 2, 0, 0, 0, 1], [2, 0, 0, 0, 0, 0, 0, 0], [2, 2, 2, 2, 0, 0, 2], [2, 2, 2, 2, 3, 3, 2, 4], [0, 2, 2, 2, 2, 4, 0, 2, 0, 0, 0, 0, 0, 0, 2, 0, 2, 2, 2, 2]]
def fkd (ci k : Nat) : Nat := (fkT.getD ci []).getD k 9
def bI (b : Bool) : Int32 := if b then 1 else 0
def fv (g : Gx) (s : St) (q ci k : Nat) : Value :=
  match fkd ci k with
  | 0 => .int (s.1 q k)
  | 1 => .long (s.2 q k)
  | 2 => .ref (g.1 + rt q k)
  | 3 => .ref (g.1 + (s.1 q k).toNatClampNeg)
  | _ => .int (bI (s.1 q k != 0))
def cel (g : Gx) (s : St) (q : Nat) : va_E :=
  match shp q with
  | (0, ci) => .inr (ci, (List.range (fkT.getD ci []).length).map (fv g s q ci))
  | (1, n) => .inl (g.2.2.1 1, n, .inl (s.1 q))
  | (2, n) => .inl (g.2.2.1 2, n, .inl (s.1 q))
  | (3, n) => .inl (g.2.2.1 3, n, .inr (.inl (s.2 q)))
  | (k, n) => .inl (g.2.2.1 k, n, .inr (.inr (.inr (.inr (fun i => some (g.1 + rt q i))))))
def nP : Nat := 161
def wsO (g : Gx) (s : St) : va_W := (List.range nP).map (fun q => (g.1 + q, cel g s q))
def tysO (g : Gx) : List (ClassId × FieldType) := [(g.2.2.1 1, .int), (g.2.2.1 2, .byte), (g.2.2.1 3, .long), (g.2.2.1 4, .object RX1), (g.2.2.1 5, .object RX2), (g.2.2.1 6, .object RX5)]
def Ag (g : Gx) : Nat → Prop := fun q => g.1 ≤ q
def HW (g : Gx) (s : St) (H : Heap) : Prop := va_P g.2.1 vwCl (wsO g s) H
def strT : List (String × Nat × String) := [("NoiseHouse$Tape", 50, "the text is wrong"), ("NoiseHouse$HouseText", 28, "room"), ("NoiseHouse$HouseText", 48, "door"), ("NoiseHouse$HouseText", 56, "heir"), ("NoiseHouse$HouseText", 104, "in"), ("NoiseHouse$HouseText", 106, "ear"), ("NoiseHouse$HouseText", 64, "noise"), ("NoiseHouse$Tape", 75, "clock"), ("NoiseHouse$Tape", 77, "weather"), ("NoiseHouse$Tape", 79, "beast"), ("NoiseHouse$Tape", 81, "foot"), ("NoiseHouse$HouseText", 134, "pitch"), ("NoiseHouse$HouseText", 138, "loud"), ("NoiseHouse$HouseText", 142, "worth"), ("NoiseHouse$HouseText", 72, "stormy"), ("NoiseHouse$HouseText", 76, "carpet"), ("NoiseHouse", 76, "there are ten texts of the house"), ("NoiseHouse$WillText", 33, "bar"), ("NoiseHouse$WillText", 39, "to"), ("NoiseHouse$WillText", 49, "part"), ("NoiseHouse$WillText", 51, "if"), ("NoiseHouse$WillText", 75, "not"), ("NoiseHouse$WillText", 98, "storm"), ("NoiseHouse$WillText", 100, "hears"), ("NoiseHouse$WillText", 116, "pitch"), ("NoiseHouse$WillText", 118, "loud"), ("NoiseHouse$WillText", 120, "hour"), ("NoiseHouse$WillText", 122, "room"), ("NoiseHouse$WillText", 124, "noise"), ("NoiseHouse$WillText", 126, "oil"), ("NoiseHouse$WillText", 73, "and"), ("NoiseHouse$WillText", 64, "or"), ("NoiseHouse", 401, "there is no such room"), ("NoiseHouse", 133, "a room has no such thing"), ("NoiseHouse", 404, "there is no such heir"), ("NoiseHouse", 158, "an heir has no such thing"), ("NoiseHouse", 406, "there is no such noise"), ("NoiseHouse", 194, "a noise has no such thing"), ("NoiseHouse", 410, "that is out of its bounds"), ("NoiseHouse", 342, "a ghost has no such thing"), ("NoiseHouseModel", 146, "room"), ("NoiseHouseModel", 152, "door"), ("NoiseHouseModel", 157, "heir"), ("NoiseHouseModel", 115, "in"), ("NoiseHouseModel", 116, "ear"), ("NoiseHouseModel", 162, "noise"), ("NoiseHouseModel", 126, "clock"), ("NoiseHouseModel", 128, "weather"), ("NoiseHouseModel", 130, "beast"), ("NoiseHouseModel", 132, "foot"), ("NoiseHouseModel", 137, "pitch"), ("NoiseHouseModel", 139, "loud"), ("NoiseHouseModel", 141, "worth"), ("NoiseHouseModel", 167, "stormy"), ("NoiseHouseModel", 169, "carpet"), ("NoiseHouseModel", 220, "to"), ("NoiseHouseModel", 222, "bar"), ("NoiseHouseModel", 224, "part"), ("NoiseHouseModel", 226, "if"), ("NoiseHouseModel", 199, "not"), ("NoiseHouseModel", 189, "storm"), ("NoiseHouseModel", 191, "hears"), ("NoiseHouseModel", 178, "hour"), ("NoiseHouseModel", 180, "oil"), ("NoiseHouseModel", 213, "and"), ("NoiseHouseModel", 218, "or")]
/-- the bytes of each literal -/
def bytT : List (List Int32) := [[116, 104, 101, 32, 116, 101, 120, 116, 32, 105, 115, 32, 119, 114, 111, 110, 103], [114, 111, 111, 109], [100, 111, 111, 114], [104, 101, 105, 114], [105, 110], [101, 97, 114], [110, 111, 105, 115, 101], [99, 108, 111, 99, 107], [119, 101, 97, 116, 104, 101, 114], [98, 101, 97, 115, 116], [102, 111, 111, 116], [112, 105, 116, 99, 104], [108, 111, 117, 100], [119, 111, 114, 116, 104], [115, 116, 111, 114, 109, 121], [99, 97, 114, 112, 101, 116], [116, 104, 101, 114, 101, 32, 97, 114, 101, 32, 116, 101, 110, 32, 116, 101, 120, 116, 115, 32, 111, 102, 32, 116, 104, 101, 32, 104, 111, 117, 115, 101], [98, 97, 114], [116, 111], [112, 97, 114, 116], [105, 102], [110, 111, 116], [115, 116, 111, 114, 109], [104, 101, 97, 114, 115], [112, 105, 116, 99, 104], [108, 111, 117, 100], [104, 111, 117, 114], [114, 111, 111, 109], [110, 111, 105, 115, 101], [111, 105, 108], [97, 110, 100], [111, 114], [116, 104, 101, 114, 101, 32, 105, 115, 32, 110, 111, 32, 115, 117, 99, 104, 32, 114, 111, 111, 109], [97, 32, 114, 111, 111, 109, 32, 104, 97, 115, 32, 110, 111, 32, 115, 117, 99, 104, 32, 116, 104, 105, 110, 103], [116, 104, 101, 114, 101, 32, 105, 115, 32, 110, 111, 32, 115, 117, 99, 104, 32, 104, 101, 105, 114], [97, 110, 32, 104, 101, 105, 114, 32, 104, 97, 115, 32, 110, 111, 32, 115, 117, 99, 104, 32, 116, 104, 105, 110, 103], [116, 104, 101, 114, 101, 32, 105, 115, 32, 110, 111, 32, 115, 117, 99, 104, 32, 110, 111, 105, 115, 101], [97, 32, 110, 111, 105, 115, 101, 32, 104, 97, 115, 32, 110, 111, 32, 115, 117, 99, 104, 32, 116, 104, 105, 110, 103], [116, 104, 97, 116, 32, 105, 115, 32, 111, 117, 116, 32, 111, 102, 32, 105, 116, 115, 32, 98, 111, 117, 110, 100, 115], [97, 32, 103, 104, 111, 115, 116, 32, 104, 97, 115, 32, 110, 111, 32, 115, 117, 99, 104, 32, 116, 104, 105, 110, 103], [114, 111, 111, 109], [100, 111, 111, 114], [104, 101, 105, 114], [105, 110], [101, 97, 114], [110, 111, 105, 115, 101], [99, 108, 111, 99, 107], [119, 101, 97, 116, 104, 101, 114], [98, 101, 97, 115, 116], [102, 111, 111, 116], [112, 105, 116, 99, 104], [108, 111, 117, 100], [119, 111, 114, 116, 104], [115, 116, 111, 114, 109, 121], [99, 97, 114, 112, 101, 116], [116, 111], [98, 97, 114], [112, 97, 114, 116], [105, 102], [110, 111, 116], [115, 116, 111, 114, 109], [104, 101, 97, 114, 115], [104, 111, 117, 114], [111, 105, 108], [97, 110, 100], [111, 114]]
def sLen (i : Nat) : Nat := (bytT.getD i []).length
def sChr (i j : Nat) : Int32 := (bytT.getD i []).getD j 0
def SSi (g : Gx) (i : Nat) (U : State) (H : Heap) : Prop :=
  va_O "java/lang/String" (g.2.2.2.1 i) (Ag g) U H ∧ va_OF "java/lang/String" "coder" "B" (.int 0) (g.2.2.2.1 i) (Ag g) U H ∧ va_OF "java/lang/String" "value" "[B" (.ref (g.2.2.2.2 i)) (g.2.2.2.1 i) (Ag g) U H ∧ va_T .byte (g.2.2.2.2 i) (sLen i) (fun j => .int (sChr i j)) (Ag g) U H
def exW : List Cond := [.castable "java/lang/IllegalArgumentException" "java/lang/IllegalArgumentException", .castable "java/lang/UnsupportedOperationException" "java/lang/UnsupportedOperationException", .castable "java/lang/IndexOutOfBoundsException" "java/lang/IndexOutOfBoundsException", .castable "java/util/NoSuchElementException" "java/util/NoSuchElementException", .declares ⟨"java/lang/RuntimeException", "<init>", "(Ljava/lang/String;)V"⟩, .declares ⟨"java/lang/Exception", "<init>", "(Ljava/lang/String;)V"⟩, .declares ⟨"java/lang/Throwable", "<init>", "(Ljava/lang/String;)V"⟩]
theorem exW_warm {s U : State} (hW : s.WarmedH U.vm) (h : ∀ w ∈ exW, va_Nw w s) : ∀ w ∈ exW, va_Nw w U := by
  intro w hw
  have h1 := h w hw
  simp only [exW, List.mem_cons, List.not_mem_nil, or_false] at hw
  rcases hw with rfl | rfl | rfl | rfl | rfl | rfl | rfl
  · exact h1.warmC hW
  · exact h1.warmC hW
  · exact h1.warmC hW
  · exact h1.warmC hW
  · exact h1.warmD hW
  · exact h1.warmD hW
  · exact h1.warmD hW
theorem exW_on : ∀ w ∈ exW, w.onTables = true := by
  intro w hw
  simp only [exW, List.mem_cons, List.not_mem_nil, or_false] at hw
  rcases hw with rfl | rfl | rfl | rfl | rfl | rfl | rfl <;> rfl
def HK (g : Gx) (U : State) (H : Heap) : Prop :=
  va_K g.2.1 vwCl (tysO g) U ∧ (∀ i : Nat, i < 66 → SSi g i U H) ∧ (∀ (i : Nat) (o : String) (k : Nat) (t : String), strT[i]? = some (o, k, t) → vk_R o k t (g.2.2.2.1 i) U) ∧
  vx_Zq Bundle.tN "UNASSIGNED_STACK" Bundle.steD (Ag g) U H ∧ vx_Zq Bundle.tN "SUPPRESSED_SENTINEL" Bundle.listD (Ag g) U H ∧ va_Z "java/lang/String" "COMPACT_STRINGS" "Z" (.int 1) (Ag g) U H ∧ (∀ w ∈ exW, va_Nw w U) ∧
  ∃ v : Value, (v = .null ∨ v = .ref (g.2.2.2.2 66)) ∧ va_Z "jdk/internal/util/Preconditions" "SIOOBE_FORMATTER" "Ljava/util/function/BiFunction;" v (Ag g) U H
theorem HK_at {g : Gx} {s U : State} {locs : List Loc} (h : HK g s s.heap) (hW : s.WarmedH U.vm) (hS : va_S (Ag g) s.heap U.heap locs) : HK g U U.heap := by
  obtain ⟨h1, h2, h3, h4, h5, h6, h7, v8, e8, h8⟩ := h
  have hv : s.vm.Alike U.vm := hW.alike
  refine ⟨va_K.moved hv h1, fun i hi => ?_, fun i o k t ht => (h3 i o k t ht).warm hW, (vx_Zq.moved hv h4).kept hS.2.1, (vx_Zq.moved hv h5).kept hS.2.1, (va_Z.moved hv h6).kept hS.2.1, exW_warm hW h7, v8, e8, (va_Z.moved hv h8).kept hS.2.1⟩
  obtain ⟨a1, a2, a3, a4⟩ := h2 i hi
  exact ⟨(va_O.moved hv a1).kept hS.2.1, (va_OF.moved hv a2).kept hS.2.1, (va_OF.moved hv a3).kept hS.2.1, (va_T.moved hv a4).kept hS.2.1⟩
theorem HK_same {g : Gx} {s U : State} (h : HK g s s.heap) (hv : U.vm = s.vm) (hh : U.heap = s.heap) : HK g U U.heap := by
  obtain ⟨h1, h2, h3, h4, h5, h6, h7, v8, e8, h8⟩ := h
  have hv' : s.vm.Alike U.vm := by rw [hv]; exact Vm.Alike.refl _
  have hk : ∀ q : Nat, q < s.heap.size → ¬ Ag g q → U.heap[q]? = s.heap[q]? := fun q _ _ => by rw [hh]
  refine ⟨va_K.moved hv' h1, fun i hi => ?_, fun i o k t ht => (h3 i o k t ht).same hv, (vx_Zq.moved hv' h4).kept hk, (vx_Zq.moved hv' h5).kept hk, (va_Z.moved hv' h6).kept hk, fun w hw => (h7 w hw).same (exW_on w hw) hv.symm, v8, e8, (va_Z.moved hv' h8).kept hk⟩
  obtain ⟨a1, a2, a3, a4⟩ := h2 i hi
  exact ⟨(va_O.moved hv' a1).kept hk, (va_OF.moved hv' a2).kept hk, (va_OF.moved hv' a3).kept hk, (va_T.moved hv' a4).kept hk⟩
/-- the words that every method takes along -/
def lw_good : List Cond := lw_tbl.filter goodWord
theorem tg {w : Cond} (i : Nat) (h : tables_1[i]? = some w) (hg : goodWord w = true) : w ∈ lw_good := List.mem_filter.mpr ⟨List.mem_append_right _ (List.mem_of_getElem? h), hg⟩
theorem ts {w : Cond} (i : Nat) (h : (k2_sels lw_privs)[i]? = some w) (hg : goodWord w = true) : w ∈ lw_good := List.mem_filter.mpr ⟨List.mem_append_left _ (List.mem_of_getElem? h), hg⟩
theorem lw_good_ok {w : Cond} (h : w ∈ lw_good) : (w.onTables && w.keeps) = true ∨ ∃ ty, w = .arrayClass ty := good_of_word (List.mem_filter.mp h).2
/-- places: virtual to real -/
def loc (g : Gx) (k : Nat) : Nat := if k < 100000 then g.1 + k else if k < 200000 then g.2.2.2.1 (k - 100000) else g.2.2.2.2 (k - 200000)
def cv (g : Gx) (v : Value) : Value := match v with
  | .ref k => .ref (loc g k)
  | v => v
def cq (g : Gx) (q : Nat × Value) : Nat × Value := (q.1, cv g q.2)
theorem cv_cat (g : Gx) (v : Value) : (cv g v).category = v.category := by cases v <;> rfl
theorem loc_lo (g : Gx) {k : Nat} (h : k < 100000) : loc g k = g.1 + k := if_pos h
/-- what a run answers: the end, and the state behind it -/
def Qr (g : Gx) (r : Rs) (t' : St) : Array Value → State → Outcome → State → Prop := fun _ st o t => ∃ v : Option Value, r = .inl v ∧ o = .returned (v.map (cv g)) ∧ HW g t' t.heap ∧ va_F (Ag g) st t
def Xr (g : Gx) (r : Rs) (t' : St) : String → State → State → Prop := fun e st t => r = .inr e ∧ HW g t' t.heap ∧ va_F (Ag g) st t
def wsM (M : Mth) : List Cond := .code M.1 M.2.1 M.2.2.1 M.2.2.2 :: lw_good
def rmM (d b : Nat) : Room := { frames := d, cells := b, slots := 8 * b, locals := 64 * d }
/-- a method's contract, for one run -/
def Ent (g : Gx) (d b : Nat) (M : Mth) (As : List Value) (s : St) (r : Rs) (s' : St) : Prop :=
  ∀ l : Launch, l.stackTraces = false → vx_Met l M.1 (wsM M) (rmM d b) (va_Pc (As.map (cv g)) (fun U => HK g U U.heap ∧ HW g s U.heap)) (Qr g r s') (Xr g r s') b (8 * b) (Ag g)
def Cx (g : Gx) (d : Nat) (M : Mth) (p : Program) (l : Launch) (R : Room) (s : State) (m : MethodId) (args : Array Value) (meth : Method) (c : Code) : Prop :=
  p.tables.exec = Jvm.exec ∧ c.code = M.2.1 ∧ meth.sig.returnType = M.2.2.2 ∧ c.maxLocals = M.2.2.1 ∧ s.vm.findClass M.1.cls = some m.cls ∧ (∀ w ∈ lw_good, w.before args s = true) ∧ meth.locks = false ∧ (∀ x ∈ c.exceptionTable.toList, False) ∧ l.stackTraces = false ∧ HK g s s.heap ∧ d ≤ R.frames ∧ 64 * d ≤ R.locals
def E (g : Gx) (d b : Nat) (M : Mth) (pc : Nat) (lv : List (Nat × Value)) (st : List Value) (s : St) (r : Rs) (s' : St) : Prop :=
  ∀ (p : Program) (l : Launch) (e : Env) (R : Room) (u : State) (m : MethodId) (args : Array Value) (below : List Frame) (meth : Method) (c : Code) (H : Heap) (locs : List Loc) (cells slots : Nat) (ls : Array Slot),
    Cx g d M p l R u m args meth c → HW g s H → va_S (Ag g) u.heap H locs → lv_has ls M.2.2.1 (lv.map (cq g)) → cells + b ≤ R.cells → slots + 8 * b ≤ R.slots →
    W p l e R u m args below meth c H locs cells slots (vx_MQ below (Qr g r s') (Xr g r s') args u R.cells R.slots (Ag g)) (F0 m pc ls (st.map (cv g)))
theorem lv_args_map (g : Gx) : ∀ (vs : List Value) (n : Nat), lv_args n (vs.map (cv g)) = (lv_args n vs).map (cq g) := by
  intro vs
  induction vs with
  | nil => intro n; rfl
  | cons v t ih => intro n; simp only [List.map_cons, lv_args, cv_cat, ih]; rfl
theorem lg_sl_len (g : Gx) (vs : List Value) : (lg_sl (vs.map (cv g))).length = (lg_sl vs).length := by
  induction vs with
  | nil => rfl
  | cons v t ih =>
    have e1 : lg_sl ((v :: t).map (cv g)) = (if (cv g v).category = 2 then [.val (cv g v), .second] else [.val (cv g v)]) ++ lg_sl (t.map (cv g)) := rfl
    have e2 : lg_sl (v :: t) = (if v.category = 2 then [.val v, .second] else [.val v]) ++ lg_sl t := rfl
    rw [e1, e2, List.length_append, List.length_append, ih, cv_cat]
    congr 1
    split <;> rfl
/-- a body gives the contract -/
theorem Ent_of {g : Gx} {d b : Nat} {M : Mth} {As : List Value} {s : St} {r : Rs} {s' : St} (hy : plainName M.1.cls = true) (hn : (lg_sl As).length ≤ M.2.2.1) (h : E g d b M 0 (lv_args 0 As) [] s r s') : Ent g d b M As s r s' := by
  intro l hl
  refine vx_ofW (cc := M.2.1) (maxL := M.2.2.1) (ret := M.2.2.2) hy rfl ?_
  intro p e u m args below meth c s₁ B hml hno hv
  obtain ⟨rfl, hK, hP⟩ := hv
  have hts : ∀ w ∈ lw_good, w.before (As.map (cv g)).toArray u = true := fun w hw => atoms_spec (ws := wsM M) B.pre w (List.mem_cons_of_mem _ hw)
  have hl0 := lv_entry (As.map (cv g)) (n := M.2.2.1) (by rw [lg_sl_len]; exact hn)
  rw [lg_entry_eq]
  rw [lv_args_map] at hl0
  exact h p l e (headSpec (wsM M) (rmM d b)).room u m _ below meth c u.heap [] 0 0 _ ⟨B.exec, B.bytes, B.returns, hml, findClass_of_methodNamed B.named, hts, B.notSynchronized, hno, hl, hK, Nat.le_refl d, Nat.le_refl _⟩ hP va_S.rf hl0 (by show 0 + b ≤ b; omega) (by show 0 + 8 * b ≤ 8 * b; omega)

