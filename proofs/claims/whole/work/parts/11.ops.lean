abbrev MI : Type := Nat → Nat → Int32
abbrev ML : Type := Nat → Nat → Int64
def ldI (I : MI) (q n : Nat) (i : Int32) : Option Int32 := if i < 0 ∨ n ≤ i.toNatClampNeg then none else some (I q i.toNatClampNeg)
def ldL (L : ML) (q n : Nat) (i : Int32) : Option Int64 := if i < 0 ∨ n ≤ i.toNatClampNeg then none else some (L q i.toNatClampNeg)
def ldR (q n : Nat) (i : Int32) : Option Nat := if i < 0 ∨ n ≤ i.toNatClampNeg then none else some (q + i.toNatClampNeg)
def stI (I : MI) (q n : Nat) (i x : Int32) : Option MI := if i < 0 ∨ n ≤ i.toNatClampNeg then none else some (up2 I q i.toNatClampNeg x)
def stB (I : MI) (q n : Nat) (i x : Int32) : Option MI := if i < 0 ∨ n ≤ i.toNatClampNeg then none else some (up2 I q i.toNatClampNeg x.toInt8.toInt32)
def stL (L : ML) (q n : Nat) (i : Int32) (x : Int64) : Option ML := if i < 0 ∨ n ≤ i.toNatClampNeg then none else some (upl L q i.toNatClampNeg x)
def pfI (I : MI) (q k : Nat) (x : Int32) : Option MI := some (up2 I q k x)
def pfL (L : ML) (q k : Nat) (x : Int64) : Option ML := some (upl L q k x)
def cyI (I : MI) (q0 n0 q1 n1 : Nat) (n : Int32) : Option MI := if n < 0 ∨ n0 < n.toNatClampNeg ∨ n1 < n.toNatClampNeg then none else some (cpI I q0 q1 n.toNatClampNeg)
def cyL (L : ML) (q0 n0 q1 n1 : Nat) (n : Int32) : Option ML := if n < 0 ∨ n0 < n.toNatClampNeg ∨ n1 < n.toNatClampNeg then none else some (cpL L q0 q1 n.toNatClampNeg)
def dvI (x y : Int32) : Option Int32 := if y = 0 then none else some (x / y)
def rmI (x y : Int32) : Option Int32 := if y = 0 then none else some (x - x / y * y)
def dvL (x y : Int64) : Option Int64 := if y = 0 then none else some (x / y)
def isH (h : Nat) : Prop := h = 14 ∨ h = 59 ∨ h = 104
def isN (a : Nat) : Prop := ∃ h i, isH h ∧ i < 12 ∧ a = h + 33 + i
def isE (a : Nat) : Prop := ∃ h i, isH h ∧ i < 6 ∧ a = h + 27 + i
def isD (a : Nat) : Prop := ∃ h i, isH h ∧ i < 14 ∧ a = h + 13 + i
/-- which house an entry names -/
def hsO (x : Int32) : Option Nat := if x.toNatClampNeg = 14 ∨ x.toNatClampNeg = 59 ∨ x.toNatClampNeg = 104 then some x.toNatClampNeg else none
/-- fuel of a loop: more than any run takes -/
def FU : Nat := 1000000
def bS {T : Type} (w : String ⊕ T) : Nat := match w with
  | .inl _ => 1
  | .inr _ => 0
theorem ld_in {i : Int32} {n : Nat} (h : ¬ (i < 0 ∨ n ≤ i.toNatClampNeg)) : vp_in i n := h
theorem hsO_s {x : Int32} {h : Nat} (e : hsO x = some h) : isH h ∧ x.toNatClampNeg = h := by
  unfold hsO at e
  split at e
  · cases e; rename_i h1; exact ⟨h1, rfl⟩
  · cases e
theorem ldR_s {q n : Nat} {i : Int32} {a : Nat} (e : ldR q n i = some a) : vp_in i n ∧ i.toNatClampNeg < n ∧ a = q + i.toNatClampNeg := by
  unfold ldR at e
  split at e
  · cases e
  · rename_i h
    cases e
    exact ⟨h, Nat.not_le.mp fun z => h (Or.inr z), rfl⟩
theorem isN_ld {h : Nat} (hh : isH h) {i : Int32} {a : Nat} (e : ldR (h + 33) 12 i = some a) : isN a := ⟨h, i.toNatClampNeg, hh, (ldR_s e).2.1, (ldR_s e).2.2⟩
theorem isE_ld {h : Nat} (hh : isH h) {i : Int32} {a : Nat} (e : ldR (h + 27) 6 i = some a) : isE a := ⟨h, i.toNatClampNeg, hh, (ldR_s e).2.1, (ldR_s e).2.2⟩
theorem isD_ld {h : Nat} (hh : isH h) {i : Int32} {a : Nat} (e : ldR (h + 13) 14 i = some a) : isD a := ⟨h, i.toNatClampNeg, hh, (ldR_s e).2.1, (ldR_s e).2.2⟩
theorem isH_kept : isH 104 := Or.inr (Or.inr rfl)
theorem sh_H {h : Nat} (hh : isH h) : shp h = (0, 3) := by rcases hh with rfl | rfl | rfl <;> decide +kernel
theorem sh_H1 {h : Nat} (hh : isH h) : shp (h + 1) = (1, 10) := by rcases hh with rfl | rfl | rfl <;> decide +kernel
theorem sh_H2 {h : Nat} (hh : isH h) : shp (h + 2) = (4, 14) := by rcases hh with rfl | rfl | rfl <;> decide +kernel
theorem sh_H3 {h : Nat} (hh : isH h) : shp (h + 3) = (5, 6) := by rcases hh with rfl | rfl | rfl <;> decide +kernel
theorem sh_H4 {h : Nat} (hh : isH h) : shp (h + 4) = (6, 12) := by rcases hh with rfl | rfl | rfl <;> decide +kernel
theorem sh_H5 {h : Nat} (hh : isH h) : shp (h + 5) = (0, 8) := by rcases hh with rfl | rfl | rfl <;> decide +kernel
theorem sh_H6 {h : Nat} (hh : isH h) : shp (h + 6) = (1, 12) := by rcases hh with rfl | rfl | rfl <;> decide +kernel
theorem sh_H7 {h : Nat} (hh : isH h) : shp (h + 7) = (1, 12) := by rcases hh with rfl | rfl | rfl <;> decide +kernel
theorem sh_H8 {h : Nat} (hh : isH h) : shp (h + 8) = (1, 12) := by rcases hh with rfl | rfl | rfl <;> decide +kernel
theorem sh_H9 {h : Nat} (hh : isH h) : shp (h + 9) = (1, 400) := by rcases hh with rfl | rfl | rfl <;> decide +kernel
theorem sh_H10 {h : Nat} (hh : isH h) : shp (h + 10) = (1, 17) := by rcases hh with rfl | rfl | rfl <;> decide +kernel
theorem sh_H11 {h : Nat} (hh : isH h) : shp (h + 11) = (1, 100) := by rcases hh with rfl | rfl | rfl <;> decide +kernel
theorem sh_H12 {h : Nat} (hh : isH h) : shp (h + 12) = (3, 40) := by rcases hh with rfl | rfl | rfl <;> decide +kernel
theorem sh_N {a : Nat} (h : isN a) : shp a = (0, 4) := by
  obtain ⟨h, i, hh, hi, rfl⟩ := h
  rcases hh with rfl | rfl | rfl <;> (revert i; decide +kernel)
theorem sh_E {a : Nat} (h : isE a) : shp a = (0, 2) := by
  obtain ⟨h, i, hh, hi, rfl⟩ := h
  rcases hh with rfl | rfl | rfl <;> (revert i; decide +kernel)
theorem sh_D {a : Nat} (h : isD a) : shp a = (0, 1) := by
  obtain ⟨h, i, hh, hi, rfl⟩ := h
  rcases hh with rfl | rfl | rfl <;> (revert i; decide +kernel)
theorem H_lt {h : Nat} (hh : isH h) (k : Nat) (hk : k ≤ 100) : h + k < 100000 := by rcases hh with rfl | rfl | rfl <;> omega
theorem H_lt0 {h : Nat} (hh : isH h) : h < 100000 := by rcases hh with rfl | rfl | rfl <;> omega
theorem N_lt {a : Nat} (h : isN a) : a < 100000 := by obtain ⟨h, i, hh, hi, rfl⟩ := h; rcases hh with rfl | rfl | rfl <;> omega
theorem E_lt {a : Nat} (h : isE a) : a < 100000 := by obtain ⟨h, i, hh, hi, rfl⟩ := h; rcases hh with rfl | rfl | rfl <;> omega
theorem D_lt {a : Nat} (h : isD a) : a < 100000 := by obtain ⟨h, i, hh, hi, rfl⟩ := h; rcases hh with rfl | rfl | rfl <;> omega
theorem rt_H4 {h : Nat} (hh : isH h) : rt h 4 = h + 1 := by rcases hh with rfl | rfl | rfl <;> decide +kernel
theorem rt_H5 {h : Nat} (hh : isH h) : rt h 5 = h + 2 := by rcases hh with rfl | rfl | rfl <;> decide +kernel
theorem rt_H6 {h : Nat} (hh : isH h) : rt h 6 = h + 3 := by rcases hh with rfl | rfl | rfl <;> decide +kernel
theorem rt_H7 {h : Nat} (hh : isH h) : rt h 7 = h + 4 := by rcases hh with rfl | rfl | rfl <;> decide +kernel
theorem rt_H8 {h : Nat} (hh : isH h) : rt h 8 = h + 5 := by rcases hh with rfl | rfl | rfl <;> decide +kernel
theorem rt_H9 {h : Nat} (hh : isH h) : rt h 9 = h + 11 := by rcases hh with rfl | rfl | rfl <;> decide +kernel
theorem rt_H10 {h : Nat} (hh : isH h) : rt h 10 = h + 12 := by rcases hh with rfl | rfl | rfl <;> decide +kernel
theorem rt_W0 {h : Nat} (hh : isH h) : rt (h + 5) 0 = h + 6 := by rcases hh with rfl | rfl | rfl <;> decide +kernel
theorem rt_W1 {h : Nat} (hh : isH h) : rt (h + 5) 1 = h + 7 := by rcases hh with rfl | rfl | rfl <;> decide +kernel
theorem rt_W2 {h : Nat} (hh : isH h) : rt (h + 5) 2 = h + 8 := by rcases hh with rfl | rfl | rfl <;> decide +kernel
theorem rt_W3 {h : Nat} (hh : isH h) : rt (h + 5) 3 = h + 9 := by rcases hh with rfl | rfl | rfl <;> decide +kernel
theorem rt_W6 {h : Nat} (hh : isH h) : rt (h + 5) 6 = h + 10 := by rcases hh with rfl | rfl | rfl <;> decide +kernel
theorem rt_aD {h : Nat} (hh : isH h) {i : Nat} (hi : i < 14) : rt (h + 2) i = h + 13 + i := by rcases hh with rfl | rfl | rfl <;> (revert i; decide +kernel)
theorem rt_aE {h : Nat} (hh : isH h) {i : Nat} (hi : i < 6) : rt (h + 3) i = h + 27 + i := by rcases hh with rfl | rfl | rfl <;> (revert i; decide +kernel)
theorem rt_aN {h : Nat} (hh : isH h) {i : Nat} (hi : i < 12) : rt (h + 4) i = h + 33 + i := by rcases hh with rfl | rfl | rfl <;> (revert i; decide +kernel)
section
variable {g : Gx} {d b : Nat} {M : Mth} {pc : Nat} {lv lv' : List (Nat × Value)} {st : List Value} {I : MI} {L : ML} {s' : St} {r : Rs}
theorem E_ldI {q0 n : Nat} {i v : Int32} (q : Nat) (hq : pc + 1 = q) (hd : decode M.2.1 pc = .ok (.iaload, 1)) (hsh : shp q0 = (1, n)) (hv : ldI I q0 n i = some v) (kk : E g d b M q lv (.int v :: st) (I, L) r s') : E g d b M pc lv (.int i :: .ref q0 :: st) (I, L) r s' := by
  unfold ldI at hv
  split at hv
  · cases hv
  · rename_i h
    cases hv
    exact E_iald q hq hd hsh h kk
theorem E_ldB {q0 n : Nat} {i v : Int32} (q : Nat) (hq : pc + 1 = q) (hd : decode M.2.1 pc = .ok (.baload, 1)) (hsh : shp q0 = (2, n)) (hv : ldI I q0 n i = some v) (kk : E g d b M q lv (.int v :: st) (I, L) r s') : E g d b M pc lv (.int i :: .ref q0 :: st) (I, L) r s' := by
  unfold ldI at hv
  split at hv
  · cases hv
  · rename_i h
    cases hv
    exact E_bald q hq hd hsh h kk
theorem E_ldL {q0 n : Nat} {i : Int32} {v : Int64} (q : Nat) (hq : pc + 1 = q) (hd : decode M.2.1 pc = .ok (.laload, 1)) (hsh : shp q0 = (3, n)) (hv : ldL L q0 n i = some v) (kk : E g d b M q lv (.long v :: st) (I, L) r s') : E g d b M pc lv (.int i :: .ref q0 :: st) (I, L) r s' := by
  unfold ldL at hv
  split at hv
  · cases hv
  · rename_i h
    cases hv
    exact E_lald q hq hd hsh h kk
theorem E_ldN {h : Nat} (hh : isH h) {i : Int32} {v : Nat} (q : Nat) (hq : pc + 1 = q) (hd : decode M.2.1 pc = .ok (.aaload, 1)) (hv : ldR (h + 33) 12 i = some v) (kk : E g d b M q lv (.ref v :: st) (I, L) r s') : E g d b M pc lv (.int i :: .ref (h + 4) :: st) (I, L) r s' := by
  obtain ⟨h1, h2, rfl⟩ := ldR_s hv
  exact E_aald q hq hd (sh_H4 hh) (Or.inr (Or.inr rfl)) h1 (rt_aN hh h2) (N_lt (isN_ld hh hv)) kk
theorem E_ldE {h : Nat} (hh : isH h) {i : Int32} {v : Nat} (q : Nat) (hq : pc + 1 = q) (hd : decode M.2.1 pc = .ok (.aaload, 1)) (hv : ldR (h + 27) 6 i = some v) (kk : E g d b M q lv (.ref v :: st) (I, L) r s') : E g d b M pc lv (.int i :: .ref (h + 3) :: st) (I, L) r s' := by
  obtain ⟨h1, h2, rfl⟩ := ldR_s hv
  exact E_aald q hq hd (sh_H3 hh) (Or.inr (Or.inl rfl)) h1 (rt_aE hh h2) (E_lt (isE_ld hh hv)) kk
theorem E_ldD {h : Nat} (hh : isH h) {i : Int32} {v : Nat} (q : Nat) (hq : pc + 1 = q) (hd : decode M.2.1 pc = .ok (.aaload, 1)) (hv : ldR (h + 13) 14 i = some v) (kk : E g d b M q lv (.ref v :: st) (I, L) r s') : E g d b M pc lv (.int i :: .ref (h + 2) :: st) (I, L) r s' := by
  obtain ⟨h1, h2, rfl⟩ := ldR_s hv
  exact E_aald q hq hd (sh_H2 hh) (Or.inl rfl) h1 (rt_aD hh h2) (D_lt (isD_ld hh hv)) kk
theorem E_stI {q0 n : Nat} {i x : Int32} {I1 : MI} (q : Nat) (hq : pc + 1 = q) (hd : decode M.2.1 pc = .ok (.iastore, 1)) (hsh : shp q0 = (1, n)) (hv : stI I q0 n i x = some I1) (kk : E g d b M q lv st (I1, L) r s') : E g d b M pc lv (.int x :: .int i :: .ref q0 :: st) (I, L) r s' := by
  unfold stI at hv
  split at hv
  · cases hv
  · rename_i h
    cases hv
    exact E_iast q hq hd hsh h kk
theorem E_stB {q0 n : Nat} {i x : Int32} {I1 : MI} (q : Nat) (hq : pc + 1 = q) (hd : decode M.2.1 pc = .ok (.bastore, 1)) (hsh : shp q0 = (2, n)) (hv : stB I q0 n i x = some I1) (kk : E g d b M q lv st (I1, L) r s') : E g d b M pc lv (.int x :: .int i :: .ref q0 :: st) (I, L) r s' := by
  unfold stB at hv
  split at hv
  · cases hv
  · rename_i h
    cases hv
    exact E_bast q hq hd hsh h kk
theorem E_stL {q0 n : Nat} {i : Int32} {x : Int64} {L1 : ML} (q : Nat) (hq : pc + 1 = q) (hd : decode M.2.1 pc = .ok (.lastore, 1)) (hsh : shp q0 = (3, n)) (hv : stL L q0 n i x = some L1) (kk : E g d b M q lv st (I, L1) r s') : E g d b M pc lv (.long x :: .int i :: .ref q0 :: st) (I, L) r s' := by
  unfold stL at hv
  split at hv
  · cases hv
  · rename_i h
    cases hv
    exact E_last q hq hd hsh h kk
theorem E_pfI {q0 ci k idx : Nat} {x : Int32} {I1 : MI} (q : Nat) (hq : pc + 3 = q) (hd : decode M.2.1 pc = .ok (.putfield idx, 3)) (hsh : shp q0 = (0, ci)) (lk : FL M.1.cls idx ci k .int false) (hf : fkd ci k = 0) (hv : pfI I q0 k x = some I1) (kk : E g d b M q lv st (I1, L) r s') : E g d b M pc lv (.int x :: .ref q0 :: st) (I, L) r s' := by
  cases hv
  exact E_putI q hq hd hsh lk hf kk
theorem E_pfB {q0 ci k idx : Nat} {x : Bool} {I1 : MI} (q : Nat) (hq : pc + 3 = q) (hd : decode M.2.1 pc = .ok (.putfield idx, 3)) (hsh : shp q0 = (0, ci)) (lk : FL M.1.cls idx ci k .boolean false) (hf : fkd ci k = 4) (hv : pfI I q0 k (bI x) = some I1) (kk : E g d b M q lv st (I1, L) r s') : E g d b M pc lv (.int (bI x) :: .ref q0 :: st) (I, L) r s' := by
  cases hv
  exact E_putB q hq hd hsh lk hf kk
theorem E_pfL {q0 ci k idx : Nat} {x : Int64} {L1 : ML} (q : Nat) (hq : pc + 3 = q) (hd : decode M.2.1 pc = .ok (.putfield idx, 3)) (hsh : shp q0 = (0, ci)) (lk : FL M.1.cls idx ci k .long false) (hf : fkd ci k = 1) (hv : pfL L q0 k x = some L1) (kk : E g d b M q lv st (I, L1) r s') : E g d b M pc lv (.long x :: .ref q0 :: st) (I, L) r s' := by
  cases hv
  exact E_putL q hq hd hsh lk hf kk
theorem E_pfD {q0 q1 ci k idx : Nat} {ty : String} {I1 : MI} (q : Nat) (hq : pc + 3 = q) (hd : decode M.2.1 pc = .ok (.putfield idx, 3)) (hsh : shp q0 = (0, ci)) (lk : FL M.1.cls idx ci k (.object ty) false) (hf : fkd ci k = 3) (h9 : q1 < 100000) (hv : pfI I q0 k (nI q1) = some I1) (kk : E g d b M q lv st (I1, L) r s') : E g d b M pc lv (.ref q1 :: .ref q0 :: st) (I, L) r s' := by
  cases hv
  exact E_putD q hq hd hsh lk hf h9 kk
theorem E_hs {q0 ci k idx h : Nat} {ty : FieldType} {fin : Bool} (q : Nat) (hq : pc + 3 = q) (hd : decode M.2.1 pc = .ok (.getfield idx, 3)) (hsh : shp q0 = (0, ci)) (lk : FL M.1.cls idx ci k ty fin) (hf : fkd ci k = 3) (hv : hsO (I q0 k) = some h) (kk : E g d b M q lv (.ref h :: st) (I, L) r s') : E g d b M pc lv (.ref q0 :: st) (I, L) r s' :=
  E_getD h q hq hd hsh lk hf (hsO_s hv).2 (H_lt0 (hsO_s hv).1) kk
theorem E_dvI {x y v : Int32} (q : Nat) (hq : pc + 1 = q) (hd : decode M.2.1 pc = .ok (.idiv, 1)) (hv : dvI x y = some v) (kk : E g d b M q lv (.int v :: st) (I, L) r s') : E g d b M pc lv (.int y :: .int x :: st) (I, L) r s' := by
  unfold dvI at hv
  split at hv
  · cases hv
  · rename_i h
    cases hv
    exact E_idiv q hq hd h kk
theorem E_rmI {x y v : Int32} (q : Nat) (hq : pc + 1 = q) (hd : decode M.2.1 pc = .ok (.irem, 1)) (hv : rmI x y = some v) (kk : E g d b M q lv (.int v :: st) (I, L) r s') : E g d b M pc lv (.int y :: .int x :: st) (I, L) r s' := by
  unfold rmI at hv
  split at hv
  · cases hv
  · rename_i h
    cases hv
    exact E_irem q hq hd h kk
theorem E_dvL {x y v : Int64} (q : Nat) (hq : pc + 1 = q) (hd : decode M.2.1 pc = .ok (.ldiv, 1)) (hv : dvL x y = some v) (kk : E g d b M q lv (.long v :: st) (I, L) r s') : E g d b M pc lv (.long y :: .long x :: st) (I, L) r s' := by
  unfold dvL at hv
  split at hv
  · cases hv
  · rename_i h
    cases hv
    exact E_ldiv q hq hd h kk
theorem E_cyI {q0 q1 n0 n1 idx : Nat} {n : Int32} {I1 : MI} (q : Nat) (hq : pc + 3 = q) (hd : decode M.2.1 pc = .ok (.invokestatic idx, 3)) (ac : AC M.1.cls idx) (hs0 : shp q0 = (1, n0)) (hs1 : shp q1 = (1, n1)) (h2' : 2 ≤ d) (hst : cats st ≤ 8) (hv : cyI I q0 n0 q1 n1 n = some I1) (kk : E g d b M q lv st (I1, L) r s') : E g d b M pc lv (.int n :: .int 0 :: .ref q1 :: .int 0 :: .ref q0 :: st) (I, L) r s' := by
  unfold cyI at hv
  split at hv
  · cases hv
  · rename_i h
    cases hv
    exact E_copyI q hq hd ac hs0 hs1 (fun z => h (Or.inl z)) (Nat.not_lt.mp fun z => h (Or.inr (Or.inl z))) (Nat.not_lt.mp fun z => h (Or.inr (Or.inr z))) h2' hst kk
theorem E_cyL {q0 q1 n0 n1 idx : Nat} {n : Int32} {L1 : ML} (q : Nat) (hq : pc + 3 = q) (hd : decode M.2.1 pc = .ok (.invokestatic idx, 3)) (ac : AC M.1.cls idx) (hs0 : shp q0 = (3, n0)) (hs1 : shp q1 = (3, n1)) (h2' : 2 ≤ d) (hst : cats st ≤ 8) (hv : cyL L q0 n0 q1 n1 n = some L1) (kk : E g d b M q lv st (I, L1) r s') : E g d b M pc lv (.int n :: .int 0 :: .ref q1 :: .int 0 :: .ref q0 :: st) (I, L) r s' := by
  unfold cyL at hv
  split at hv
  · cases hv
  · rename_i h
    cases hv
    exact E_copyL q hq hd ac hs0 hs1 (fun z => h (Or.inl z)) (Nat.not_lt.mp fun z => h (Or.inr (Or.inl z))) (Nat.not_lt.mp fun z => h (Or.inr (Or.inr z))) h2' hst kk
theorem lgc (x y : Int64) : (lg_cmp x y = 0 ↔ x = y) ∧ (lg_cmp x y < 0 ↔ x < y) ∧ (0 ≤ lg_cmp x y ↔ y ≤ x) ∧ (0 < lg_cmp x y ↔ y < x) ∧ (lg_cmp x y ≤ 0 ↔ x ≤ y) := ⟨lg_cmp_eq x y, lg_cmp_lt x y, lg_cmp_ge x y, lg_cmp_gt x y, lg_cmp_le x y⟩
theorem E_lc_eq {x y : Int64} {off : Int} (t q1 q : Nat) (ht : (q1 : Int) + off = (t : Int)) (hq1 : pc + 1 = q1) (hq : q1 + 3 = q) (hd0 : decode M.2.1 pc = .ok (.lcmp, 1)) (hd : decode M.2.1 q1 = .ok (.ifCond .eq off, 3)) (kt : x = y → E g d b M t lv st (I, L) r s') (kf : ¬ x = y → E g d b M q lv st (I, L) r s') : E g d b M pc lv (.long y :: .long x :: st) (I, L) r s' :=
  E_lcmp q1 hq1 hd0 (E_if_eq t q ht hq hd (fun h => kt ((lgc x y).1.mp h)) (fun h => kf (fun z => h ((lgc x y).1.mpr z))))
theorem E_lc_ne {x y : Int64} {off : Int} (t q1 q : Nat) (ht : (q1 : Int) + off = (t : Int)) (hq1 : pc + 1 = q1) (hq : q1 + 3 = q) (hd0 : decode M.2.1 pc = .ok (.lcmp, 1)) (hd : decode M.2.1 q1 = .ok (.ifCond .ne off, 3)) (kt : ¬ x = y → E g d b M t lv st (I, L) r s') (kf : x = y → E g d b M q lv st (I, L) r s') : E g d b M pc lv (.long y :: .long x :: st) (I, L) r s' :=
  E_lcmp q1 hq1 hd0 (E_if_ne t q ht hq hd (fun h => kt (fun z => h ((lgc x y).1.mpr z))) (fun h => kf ((lgc x y).1.mp h)))
theorem E_lc_lt {x y : Int64} {off : Int} (t q1 q : Nat) (ht : (q1 : Int) + off = (t : Int)) (hq1 : pc + 1 = q1) (hq : q1 + 3 = q) (hd0 : decode M.2.1 pc = .ok (.lcmp, 1)) (hd : decode M.2.1 q1 = .ok (.ifCond .lt off, 3)) (kt : x < y → E g d b M t lv st (I, L) r s') (kf : ¬ x < y → E g d b M q lv st (I, L) r s') : E g d b M pc lv (.long y :: .long x :: st) (I, L) r s' :=
  E_lcmp q1 hq1 hd0 (E_if_lt t q ht hq hd (fun h => kt ((lgc x y).2.1.mp h)) (fun h => kf (fun z => h ((lgc x y).2.1.mpr z))))
theorem E_lc_ge {x y : Int64} {off : Int} (t q1 q : Nat) (ht : (q1 : Int) + off = (t : Int)) (hq1 : pc + 1 = q1) (hq : q1 + 3 = q) (hd0 : decode M.2.1 pc = .ok (.lcmp, 1)) (hd : decode M.2.1 q1 = .ok (.ifCond .ge off, 3)) (kt : y ≤ x → E g d b M t lv st (I, L) r s') (kf : ¬ y ≤ x → E g d b M q lv st (I, L) r s') : E g d b M pc lv (.long y :: .long x :: st) (I, L) r s' :=
  E_lcmp q1 hq1 hd0 (E_if_ge t q ht hq hd (fun h => kt ((lgc x y).2.2.1.mp h)) (fun h => kf (fun z => h ((lgc x y).2.2.1.mpr z))))
theorem E_lc_gt {x y : Int64} {off : Int} (t q1 q : Nat) (ht : (q1 : Int) + off = (t : Int)) (hq1 : pc + 1 = q1) (hq : q1 + 3 = q) (hd0 : decode M.2.1 pc = .ok (.lcmp, 1)) (hd : decode M.2.1 q1 = .ok (.ifCond .gt off, 3)) (kt : y < x → E g d b M t lv st (I, L) r s') (kf : ¬ y < x → E g d b M q lv st (I, L) r s') : E g d b M pc lv (.long y :: .long x :: st) (I, L) r s' :=
  E_lcmp q1 hq1 hd0 (E_if_gt t q ht hq hd (fun h => kt ((lgc x y).2.2.2.1.mp h)) (fun h => kf (fun z => h ((lgc x y).2.2.2.1.mpr z))))
theorem E_lc_le {x y : Int64} {off : Int} (t q1 q : Nat) (ht : (q1 : Int) + off = (t : Int)) (hq1 : pc + 1 = q1) (hq : q1 + 3 = q) (hd0 : decode M.2.1 pc = .ok (.lcmp, 1)) (hd : decode M.2.1 q1 = .ok (.ifCond .le off, 3)) (kt : x ≤ y → E g d b M t lv st (I, L) r s') (kf : ¬ x ≤ y → E g d b M q lv st (I, L) r s') : E g d b M pc lv (.long y :: .long x :: st) (I, L) r s' :=
  E_lcmp q1 hq1 hd0 (E_if_le t q ht hq hd (fun h => kt ((lgc x y).2.2.2.2.mp h)) (fun h => kf (fun z => h ((lgc x y).2.2.2.2.mpr z))))
theorem E_gI {q0 ci k idx : Nat} {ty : FieldType} {fin : Bool} (q : Nat) (hq : pc + 3 = q) (hd : decode M.2.1 pc = .ok (.getfield idx, 3)) (hsh : shp q0 = (0, ci)) (lk : FL M.1.cls idx ci k ty fin) (hf : fkd ci k = 0) (kk : E g d b M q lv (.int (I q0 k) :: st) (I, L) r s') : E g d b M pc lv (.ref q0 :: st) (I, L) r s' := E_getI q hq hd hsh lk hf kk
theorem E_gL {q0 ci k idx : Nat} {ty : FieldType} {fin : Bool} (q : Nat) (hq : pc + 3 = q) (hd : decode M.2.1 pc = .ok (.getfield idx, 3)) (hsh : shp q0 = (0, ci)) (lk : FL M.1.cls idx ci k ty fin) (hf : fkd ci k = 1) (kk : E g d b M q lv (.long (L q0 k) :: st) (I, L) r s') : E g d b M pc lv (.ref q0 :: st) (I, L) r s' := E_getL q hq hd hsh lk hf kk
theorem E_gB {q0 ci k idx : Nat} {ty : FieldType} {fin : Bool} (q : Nat) (hq : pc + 3 = q) (hd : decode M.2.1 pc = .ok (.getfield idx, 3)) (hsh : shp q0 = (0, ci)) (lk : FL M.1.cls idx ci k ty fin) (hf : fkd ci k = 4) (kk : E g d b M q lv (.int (bI (I q0 k != 0)) :: st) (I, L) r s') : E g d b M pc lv (.ref q0 :: st) (I, L) r s' := E_getB q hq hd hsh lk hf kk
theorem E_gR {q0 ci k idx : Nat} {ty : FieldType} {fin : Bool} (q1 : Nat) (q : Nat) (hq : pc + 3 = q) (hd : decode M.2.1 pc = .ok (.getfield idx, 3)) (hsh : shp q0 = (0, ci)) (lk : FL M.1.cls idx ci k ty fin) (hf : fkd ci k = 2) (hr : rt q0 k = q1) (h9 : q1 < 100000) (kk : E g d b M q lv (.ref q1 :: st) (I, L) r s') : E g d b M pc lv (.ref q0 :: st) (I, L) r s' := E_getR q1 q hq hd hsh lk hf hr h9 kk
theorem E_cV1 {M' : Mth} {As : List Value} {q0 d' ci idx n : Nat} {v : Value} {s s1 : St} (q : Nat) (hq : pc + 3 = q) (hd : decode M.2.1 pc = .ok (.invokevirtual idx, 3)) (hsh : shp q0 = (0, ci)) (ck : CK M.1.cls idx M' n) (cw : CV M' ci) (hn : As.length = n) (hdd : d' + 1 ≤ d) (hst : cats st ≤ 8) (hc : Ent g d' 0 M' (.ref q0 :: As) s (.inl (some v)) s1) {st0 : List Value} (h0 : st0 = As.reverse ++ .ref q0 :: st) (kk : E g d b M q lv (v :: st) s1 r s') : E g d b M pc lv st0 s r s' := E_callV q hq hd hsh ck cw hn hdd hst hc h0 kk
theorem E_cV0 {M' : Mth} {As : List Value} {q0 d' ci idx n : Nat} {s s1 : St} (q : Nat) (hq : pc + 3 = q) (hd : decode M.2.1 pc = .ok (.invokevirtual idx, 3)) (hsh : shp q0 = (0, ci)) (ck : CK M.1.cls idx M' n) (cw : CV M' ci) (hn : As.length = n) (hdd : d' + 1 ≤ d) (hst : cats st ≤ 8) (hc : Ent g d' 0 M' (.ref q0 :: As) s (.inl none) s1) {st0 : List Value} (h0 : st0 = As.reverse ++ .ref q0 :: st) (kk : E g d b M q lv st s1 r s') : E g d b M pc lv st0 s r s' := E_callV q hq hd hsh ck cw hn hdd hst hc h0 kk
theorem E_cS1 {M' : Mth} {As : List Value} {d' idx n : Nat} {v : Value} {s s1 : St} (q : Nat) (hq : pc + 3 = q) (hd : decode M.2.1 pc = .ok (.invokestatic idx, 3)) (ck : CK M.1.cls idx M' n) (hss : Cond.static M'.1 ∈ lw_good) (hn : As.length = n) (hdd : d' + 1 ≤ d) (hst : cats st ≤ 8) (hc : Ent g d' 0 M' As s (.inl (some v)) s1) {st0 : List Value} (h0 : st0 = As.reverse ++ st) (kk : E g d b M q lv (v :: st) s1 r s') : E g d b M pc lv st0 s r s' := E_callS q hq hd ck hss hn hdd hst hc h0 kk
theorem E_cS0 {M' : Mth} {As : List Value} {d' idx n : Nat} {s s1 : St} (q : Nat) (hq : pc + 3 = q) (hd : decode M.2.1 pc = .ok (.invokestatic idx, 3)) (ck : CK M.1.cls idx M' n) (hss : Cond.static M'.1 ∈ lw_good) (hn : As.length = n) (hdd : d' + 1 ≤ d) (hst : cats st ≤ 8) (hc : Ent g d' 0 M' As s (.inl none) s1) {st0 : List Value} (h0 : st0 = As.reverse ++ st) (kk : E g d b M q lv st s1 r s') : E g d b M pc lv st0 s r s' := E_callS q hq hd ck hss hn hdd hst hc h0 kk
theorem lkOut2 {a b' o1 o2 df : Int} {x : Int32} (h1 : ¬ x.toInt = a) (h2 : ¬ x.toInt = b') : Op.lookupswitch.offset [(a, o1), (b', o2)] df x.toInt = df := by
  have e1 : ¬ a = x.toInt := fun z => h1 z.symm
  have e2 : ¬ b' = x.toInt := fun z => h2 z.symm
  simp [Op.lookupswitch.offset, e1, e2]
end
/-- a callee that may throw -/
def xc {T R : Type} (w : (String ⊕ T) × MI × ML) (f : T → Option ((String ⊕ R) × MI × ML)) : Option ((String ⊕ R) × MI × ML) := match w.1 with
  | .inl e => some (.inl e, w.2.1, w.2.2)
  | .inr v => f v
theorem xc_s {T R : Type} {w : (String ⊕ T) × MI × ML} {f : T → Option ((String ⊕ R) × MI × ML)} {res : (String ⊕ R) × MI × ML} (h : xc w f = some res) : (∃ e, w.1 = .inl e ∧ res = (.inl e, w.2.1, w.2.2)) ∨ ∃ v, w.1 = .inr v ∧ f v = some res := by
  unfold xc at h
  split at h
  · rename_i e he
    cases h
    exact Or.inl ⟨e, he, rfl⟩
  · rename_i v hv
    exact Or.inr ⟨v, hv, h⟩
def rI (w : String ⊕ Int32) : Rs := match w with
  | .inl e => .inr e
  | .inr v => .inl (some (.int v))
def rB (w : String ⊕ Bool) : Rs := match w with
  | .inl e => .inr e
  | .inr v => .inl (some (.int (bI v)))
def rJ (w : String ⊕ Int64) : Rs := match w with
  | .inl e => .inr e
  | .inr v => .inl (some (.long v))
def rU (w : String ⊕ Unit) : Rs := match w with
  | .inl e => .inr e
  | .inr _ => .inl none
theorem tg1 {w : Cond} (i : Nat) (h : tables_1_1[i]? = some w) (hg : goodWord w = true) : w ∈ lw_good := by
  have h9 := List.mem_of_getElem? h
  exact List.mem_filter.mpr ⟨List.mem_append_right _ (List.mem_append_left _ h9), hg⟩
theorem tg2 {w : Cond} (i : Nat) (h : tables_1_2[i]? = some w) (hg : goodWord w = true) : w ∈ lw_good := by
  have h9 := List.mem_of_getElem? h
  exact List.mem_filter.mpr ⟨List.mem_append_right _ (List.mem_append_right _ (List.mem_append_left _ h9)), hg⟩
theorem tg3 {w : Cond} (i : Nat) (h : tables_1_3[i]? = some w) (hg : goodWord w = true) : w ∈ lw_good := by
  have h9 := List.mem_of_getElem? h
  exact List.mem_filter.mpr ⟨List.mem_append_right _ (List.mem_append_right _ (List.mem_append_right _ (List.mem_append_left _ h9))), hg⟩
theorem tg4 {w : Cond} (i : Nat) (h : tables_1_4[i]? = some w) (hg : goodWord w = true) : w ∈ lw_good := by
  have h9 := List.mem_of_getElem? h
  exact List.mem_filter.mpr ⟨List.mem_append_right _ (List.mem_append_right _ (List.mem_append_right _ (List.mem_append_right _ (List.mem_append_left _ h9)))), hg⟩
theorem tg5 {w : Cond} (i : Nat) (h : tables_1_5[i]? = some w) (hg : goodWord w = true) : w ∈ lw_good := by
  have h9 := List.mem_of_getElem? h
  exact List.mem_filter.mpr ⟨List.mem_append_right _ (List.mem_append_right _ (List.mem_append_right _ (List.mem_append_right _ (List.mem_append_right _ (List.mem_append_left _ h9))))), hg⟩
theorem tg6 {w : Cond} (i : Nat) (h : tables_1_6[i]? = some w) (hg : goodWord w = true) : w ∈ lw_good := by
  have h9 := List.mem_of_getElem? h
  exact List.mem_filter.mpr ⟨List.mem_append_right _ (List.mem_append_right _ (List.mem_append_right _ (List.mem_append_right _ (List.mem_append_right _ (List.mem_append_right _ (List.mem_append_left _ h9)))))), hg⟩
theorem tg7 {w : Cond} (i : Nat) (h : tables_1_7[i]? = some w) (hg : goodWord w = true) : w ∈ lw_good := by
  have h9 := List.mem_of_getElem? h
  exact List.mem_filter.mpr ⟨List.mem_append_right _ (List.mem_append_right _ (List.mem_append_right _ (List.mem_append_right _ (List.mem_append_right _ (List.mem_append_right _ (List.mem_append_right _ (List.mem_append_left _ h9))))))), hg⟩
theorem tg8 {w : Cond} (i : Nat) (h : tables_1_8[i]? = some w) (hg : goodWord w = true) : w ∈ lw_good := by
  have h9 := List.mem_of_getElem? h
  exact List.mem_filter.mpr ⟨List.mem_append_right _ (List.mem_append_right _ (List.mem_append_right _ (List.mem_append_right _ (List.mem_append_right _ (List.mem_append_right _ (List.mem_append_right _ (List.mem_append_right _ (h9)))))))), hg⟩
