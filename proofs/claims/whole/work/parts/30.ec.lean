section
variable {p : Program} {l : Launch} {e : Env} {R : Room} {s : State} {m : MethodId} {args : Array Value} {below : List Frame} {meth : Method} {c : Code} {H : Heap} {locs : List Loc} {cells slots : Nat} {Q : State → Prop}
variable {cc : ByteArray} {pc : Nat} {ls : Array Slot} {rest : List Value} {D : va_G} {cl : List vw_C} {A : Nat → Prop} {a : Nat} {tys : List (ClassId × FieldType)} {ws : va_W} {H0 : Heap}
theorem ec_put (hexec : p.tables.exec = Jvm.exec) (hb : c.code = cc) {own ref C : String} {T : u_T} {N ci index : Nat} {Ts : List Cond} (hts : ∀ w ∈ Ts, w.before args s = true) (hin : ∀ w ∈ u_ws C T N, w ∈ Ts) (ty0 : Nat → FieldType) (hty : ∀ k, k < N → parseFieldDescriptor (T k).2.2.1 = some (ty0 k)) (hnm : ∀ a, a < N → ∀ b, b < N → a ≠ b → (T a).2.1 ≠ (T b).2.1) (hown : s.vm.findClass own = some m.cls) (hK : va_K D cl tys s) (hP : va_P D cl ws H) (hD : va_D A ws) (hS0 : va_S A H0 H locs) (q0 : Nat) {fs : List Value} (he : ws[q0]? = some (a, .inr (ci, fs))) (hc : cl[ci]? = some (C, T, N)) (k : Nat) (hk : k < N) (hlink : (Cond.fieldLink own index ref (T k).2.1 (T k).2.2.1).before args s = true) (hsame : ∀ x, s.fieldFound? (T k).1 (T k).2.1 (T k).2.2.1 = some x → s.fieldFound? ref (T k).2.1 (T k).2.2.1 = some x) (hfin : (T k).2.2.2 = false) {ty : FieldType} {v : Value} (hd : parseFieldDescriptor (T k).2.2.1 = some ty) (hn : narrow ty v = v) (hfit : fits ty v = true) (hl : k < fs.length)
    (hdg : decode cc pc = .ok (.putfield index, 3)) (kk : ∀ (H1 : Heap) (locs1 : List Loc), H1.size = H.size → va_P D cl (ws.set q0 (a, .inr (ci, fs.set k v))) H1 → va_D A (ws.set q0 (a, .inr (ci, fs.set k v))) → va_S A H0 H1 locs1 → W p l e R s m args below meth c H1 locs1 cells slots Q (F0 m (pc + 3) ls rest)) : W p l e R s m args below meth c H locs cells slots Q (F0 m pc ls (v :: .ref a :: rest)) := by
  have hap := va_apart (own := own) hts hin ty0 hty hnm hK hc
  obtain ⟨r, h1, cell, q1, q2, q3, q4⟩ := hP q0 _ he
  have hr : r = (C, T, N) := Option.some.inj (h1.symm.trans hc)
  subst hr
  obtain ⟨hS, hfc, kC, hkC, hkind⟩ := hK.1 ci _ hc
  obtain ⟨cf, kf, fi, f, hi, hsl⟩ := hS k hk
  have hlay := hts _ (hin _ (u_in_lay hk))
  unfold u_lay at hlay
  rw [if_neg (by rw [hfin]; decide)] at hlay
  have hst := (u_facts hfc hkC (u_lays hts hin hk) hi).1
  have h6 := u_store hfc hkC hkind hlay hi hd hn hfit
  refine W.putK hexec hb (f := f) ⟨hown, hlink, ⟨_, _, _, hsame _ hi⟩, hst⟩ (by rw [q2]; exact h6) q1 q3 (by rw [hsl]; exact k2_hasslot (q4 k hk)) rfl rfl hdg fun H' e1 e2 e3 => ?_
  rw [hsl] at e1 ⊢
  exact kk H' _ e2 (hP.set hD he ⟨_, hc, t_OB.to (V := updV (vp_V fs) k v) ⟨_, e1, q2, q3, t_set q4 hap hk v⟩ (fun j _ => vp_updV_set hl v j)⟩ e3) (hD.set he) (hS0.put e2 e3 (hD.2 q0 _ he))
theorem ec_putF (hexec : p.tables.exec = Jvm.exec) (hb : c.code = cc) {own ref C : String} {T : u_T} {N ci index : Nat} {Ts : List Cond} (hts : ∀ w ∈ Ts, w.before args s = true) (hin : ∀ w ∈ u_ws C T N, w ∈ Ts) (ty0 : Nat → FieldType) (hty : ∀ k, k < N → parseFieldDescriptor (T k).2.2.1 = some (ty0 k)) (hnm : ∀ a, a < N → ∀ b, b < N → a ≠ b → (T a).2.1 ≠ (T b).2.1) (hown : s.vm.findClass own = some m.cls) (hK : va_K D cl tys s) (hP : va_P D cl ws H) (hD : va_D A ws) (hS0 : va_S A H0 H locs) (q0 : Nat) {fs : List Value} (he : ws[q0]? = some (a, .inr (ci, fs))) (hc : cl[ci]? = some (C, T, N)) (k : Nat) (hk : k < N) (hlink : (Cond.fieldLink own index ref (T k).2.1 (T k).2.2.1).before args s = true) (hsame : ∀ x, s.fieldFound? (T k).1 (T k).2.1 (T k).2.2.1 = some x → s.fieldFound? ref (T k).2.1 (T k).2.2.1 = some x) (hfin : (T k).2.2.2 = true) (hin2 : meth.name = "<init>") (hdecl : (T k).1 = own) {ty : FieldType} {v : Value} (hd : parseFieldDescriptor (T k).2.2.1 = some ty) (hn : narrow ty v = v) (hfit : fits ty v = true) (hl : k < fs.length)
    (hdg : decode cc pc = .ok (.putfield index, 3)) (kk : ∀ (H1 : Heap) (locs1 : List Loc), H1.size = H.size → va_P D cl (ws.set q0 (a, .inr (ci, fs.set k v))) H1 → va_D A (ws.set q0 (a, .inr (ci, fs.set k v))) → va_S A H0 H1 locs1 → W p l e R s m args below meth c H1 locs1 cells slots Q (F0 m (pc + 3) ls rest)) : W p l e R s m args below meth c H locs cells slots Q (F0 m pc ls (v :: .ref a :: rest)) := by
  have hap := va_apart (own := own) hts hin ty0 hty hnm hK hc
  obtain ⟨r, h1, cell, q1, q2, q3, q4⟩ := hP q0 _ he
  have hr : r = (C, T, N) := Option.some.inj (h1.symm.trans hc)
  subst hr
  obtain ⟨hS, hfc, kC, hkC, hkind⟩ := hK.1 ci _ hc
  obtain ⟨cf, kf, fi, f, hi, hsl⟩ := hS k hk
  have hlay := hts _ (hin _ (u_in_lay hk))
  unfold u_lay at hlay
  rw [if_pos hfin] at hlay
  have hst := (u_facts hfc hkC (u_lays hts hin hk) hi).1
  have hcf : m.cls = cf := by
    obtain ⟨_, _, c', _, _, _, -, -, hf', -, -, -, hown2, -⟩ := Cond.laysFinal_spec hlay
    have e1 : c' = cf := by have := hi.symm.trans hf'; simp at this; exact this.1.symm
    rw [hdecl] at hown2
    rw [← e1]; exact Option.some.inj (hown.symm.trans hown2)
  have h6 := u_fits hfc hkC hkind (Or.inr hlay) hi hd hn hfit
  refine W.putFinK hexec hb hown hlink (hsame _ hi) hst hcf hin2 (by rw [q2]; exact h6) q1 q3 (by rw [hsl]; exact k2_hasslot (q4 k hk)) rfl rfl hdg fun H' e1 e2 e3 => ?_
  rw [hsl] at e1 ⊢
  exact kk H' _ e2 (hP.set hD he ⟨_, hc, t_OB.to (V := updV (vp_V fs) k v) ⟨_, e1, q2, q3, t_set q4 hap hk v⟩ (fun j _ => vp_updV_set hl v j)⟩ e3) (hD.set he) (hS0.put e2 e3 (hD.2 q0 _ he))
theorem ec_iast (hexec : p.tables.exec = Jvm.exec) (hb : c.code = cc) (hK : va_K D cl tys s) (hP : va_P D cl ws H) (hD : va_D A ws) (hS : va_S A H0 H locs) (q0 t0 : Nat) {cA : ClassId} {n : Nat} {f : Nat → Int32} (ha : ws[q0]? = some (a, .inl (cA, n, .inl f))) (ht : tys[t0]? = some (cA, .int)) {i : Int32} {x : Int32} (hin : vp_in i n) (hdg : decode cc pc = .ok (.iastore, 1))
    (kk : ∀ (H1 : Heap) (locs1 : List Loc), H1.size = H.size → va_P D cl (ws.set q0 (a, .inl (cA, n, .inl (upd f i.toNatClampNeg x)))) H1 → va_D A (ws.set q0 (a, .inl (cA, n, .inl (upd f i.toNatClampNeg x)))) → va_S A H0 H1 locs1 → W p l e R s m args below meth c H1 locs1 cells slots Q (F0 m (pc + 1) ls rest)) : W p l e R s m args below meth c H locs cells slots Q (F0 m pc ls (.int x :: .int i :: .ref a :: rest)) := by
  refine W.iast hexec hb (hP q0 _ ha) ((hK.2 t0 _ ht).1 n (fun j => .int (f j))) (fun q => by cases q) (by show ¬ (i < 0 ∨ (arrV _ _ _).slots.size ≤ _); rw [arrV_size]; exact hin) rfl rfl hdg fun H1 e z oq => ?_
  refine kk H1 _ z (hP.set hD ha ?_ oq) (hD.set ha) (hS.put z oq (hD.2 q0 _ ha))
  show H1[a]? = some (vp_cell _ _)
  rw [e]
  rw [vp_cell_i, vp_cell_i, arrV_store]
  congr 2
  funext q
  by_cases hq : q = i.toNatClampNeg
  · subst hq
    simp [updV, upd]
    
  · simp [updV, upd, hq]
theorem ec_astq (hexec : p.tables.exec = Jvm.exec) (hb : c.code = cc) (hK : va_K D cl tys s) (hP : va_P D cl ws H) (hD : va_D A ws) (hS : va_S A H0 H locs) (q0 t0 qk ci : Nat) {cA : ClassId} {r : vw_C} {n v : Nat} {vs : List Value} {f : Nat → Option Nat} (ha : ws[q0]? = some (a, .inl (cA, n, .inr (.inr (.inr (.inr f)))))) (ht : tys[t0]? = some (cA, .object r.1)) (hv : ws[qk]? = some (v, .inr (ci, vs))) (hc : cl[ci]? = some r) {i : Int32} (hin : vp_in i n) (hdg : decode cc pc = .ok (.aastore, 1))
    (kk : ∀ (H1 : Heap) (locs1 : List Loc), H1.size = H.size → va_P D cl (ws.set q0 (a, .inl (cA, n, .inr (.inr (.inr (.inr (va_up f i.toNatClampNeg (some v)))))))) H1 → va_D A (ws.set q0 (a, .inl (cA, n, .inr (.inr (.inr (.inr (va_up f i.toNatClampNeg (some v)))))))) → va_S A H0 H1 locs1 → W p l e R s m args below meth c H1 locs1 cells slots Q (F0 m (pc + 1) ls rest)) : W p l e R s m args below meth c H locs cells slots Q (F0 m pc ls (.ref v :: .int i :: .ref a :: rest)) := by
  have hlt : i.toNatClampNeg < n := Nat.not_le.mp fun q => hin (Or.inr q)
  have h0 : ¬ i < 0 := fun q => hin (Or.inl q)
  obtain ⟨r', hr', cellV, g1, g2, g3, -⟩ := hP qk _ hv
  have hcls := (hK.1 ci r hc).2
  obtain ⟨kA, comp, k1, k2, k3, -⟩ := (hK.2 t0 _ ht).2
  have hcomp : comp = D.1 ci := Option.some.inj (k3.symm.trans hcls.1)
  subst hcomp
  obtain ⟨kC, hkC, -⟩ := hcls.2
  refine W.aast hexec hb (hP q0 _ ha) (fun q h => by cases h) (fun h => by cases h) k1 k2 rfl hkC ⟨h0, by show _ < (arrV _ _ _).slots.size; rw [arrV_size]; exact hlt⟩ g1 (fun q h => by rw [g3] at h; cases h) (by rw [g2]; exact hkC) (by rw [g2]; exact va_assign hcls) rfl rfl hdg fun H1 e z oq => ?_
  refine kk H1 _ z (hP.set hD ha ?_ oq) (hD.set ha) (hS.put z oq (hD.2 q0 _ ha))
  show H1[a]? = some (vp_cell _ _)
  rw [e]
  rw [vp_cell_q, vp_cell_q, arrV_store]
  congr 2
  funext q
  by_cases hq : q = i.toNatClampNeg
  · subst hq
    simp [updV, va_up, va_rf]
  · simp [updV, va_up, hq]
end
abbrev MS : Type := Nat → Nat → Bool
abbrev CS : Type := MI × ML × MS × Nat
def fvC (g : Gx) (c : CS) (q ci k : Nat) : Value :=
  match fkd ci k with
  | 0 => .int (c.1 q k)
  | 1 => .long (c.2.1 q k)
  | 2 => if c.2.2.1 q k = true then .ref (g.1 + rt q k) else .null
  | 3 => if c.2.2.1 q k = true then .ref (g.1 + (c.1 q k).toNatClampNeg) else .null
  | _ => .int (bI (c.1 q k != 0))
def celC (g : Gx) (c : CS) (q : Nat) : va_E :=
  match shp q with
  | (0, ci) => .inr (ci, (List.range (fkT.getD ci []).length).map (fvC g c q ci))
  | (1, n) => .inl (g.2.2.1 1, n, .inl (c.1 q))
  | (2, n) => .inl (g.2.2.1 2, n, .inl (c.1 q))
  | (3, n) => .inl (g.2.2.1 3, n, .inr (.inl (c.2.1 q)))
  | (k, n) => .inl (g.2.2.1 k, n, .inr (.inr (.inr (.inr (fun i => if c.2.2.1 q i = true then some (g.1 + rt q i) else none)))))
def wsC (g : Gx) (c : CS) : va_W := (List.range c.2.2.2).map (fun q => (g.1 + q, celC g c q))
def HC (g : Gx) (c : CS) (H : Heap) : Prop := va_P g.2.1 vwCl (wsC g c) H ∧ H.size = g.1 + c.2.2.2 ∧ ∀ q, c.2.2.2 ≤ q → ∀ k, c.1 q k = 0 ∧ c.2.1 q k = 0 ∧ c.2.2.1 q k = false
def nestW : List Cond := [.methodLinkNest "NoiseHouse" 9 ⟨"NoiseHouse$Tape", "<init>", "()V"⟩ "NoiseHouse", .methodLinkNest "NoiseHouse" 18 ⟨"NoiseHouse$Acts", "<init>", "()V"⟩ "NoiseHouse", .methodLinkNest "NoiseHouse" 25 ⟨"NoiseHouse$Parting", "<init>", "()V"⟩ "NoiseHouse", .methodLinkNest "NoiseHouse" 32 ⟨"NoiseHouse$Quieting", "<init>", "()V"⟩ "NoiseHouse", .methodLinkNest "NoiseHouse$House" 48 ⟨"NoiseHouse$Will", "<init>", "()V"⟩ "NoiseHouse", .methodLinkNest "NoiseHouse$House" 85 ⟨"NoiseHouse$Door", "<init>", "()V"⟩ "NoiseHouse", .methodLinkNest "NoiseHouse$House" 86 ⟨"NoiseHouse$Heir", "<init>", "()V"⟩ "NoiseHouse", .methodLinkNest "NoiseHouse$House" 87 ⟨"NoiseHouse$Noise", "<init>", "()V"⟩ "NoiseHouse"]
theorem nestW_warm {s U : State} (hW : s.WarmedH U.vm) (h : ∀ w ∈ nestW, va_Nw w s) : ∀ w ∈ nestW, va_Nw w U := by
  intro w hw
  have h1 := h w hw
  simp only [nestW, List.mem_cons, List.not_mem_nil, or_false] at hw
  rcases hw with rfl | rfl | rfl | rfl | rfl | rfl | rfl | rfl <;> exact h1.warmM hW
theorem nestW_same {s U : State} (hv : U.vm = s.vm) (h : ∀ w ∈ nestW, va_Nw w s) : ∀ w ∈ nestW, va_Nw w U := by
  intro w hw
  have h1 := h w hw
  simp only [nestW, List.mem_cons, List.not_mem_nil, or_false] at hw
  rcases hw with rfl | rfl | rfl | rfl | rfl | rfl | rfl | rfl <;> exact h1.same rfl hv.symm
def NS (U : State) : Prop := (∀ w ∈ nestW, va_Nw w U) ∧ va_AO RX1 U ∧ va_AO RX2 U ∧ va_AO RX5 U
theorem NS_warm {s U : State} (hW : s.WarmedH U.vm) (h : NS s) : NS U := ⟨nestW_warm hW h.1, h.2.1.moved hW.alike, h.2.2.1.moved hW.alike, h.2.2.2.moved hW.alike⟩
theorem NS_same {s U : State} (hv : U.vm = s.vm) (h : NS s) : NS U := ⟨nestW_same hv h.1, h.2.1.moved (by rw [hv]; exact Vm.Alike.refl _), h.2.2.1.moved (by rw [hv]; exact Vm.Alike.refl _), h.2.2.2.moved (by rw [hv]; exact Vm.Alike.refl _)⟩
theorem wsC_at (g : Gx) (c : CS) {q : Nat} (h : q < c.2.2.2) : (wsC g c)[q]? = some (g.1 + q, celC g c q) := by
  unfold wsC
  rw [List.getElem?_map, List.getElem?_range h]
  rfl
theorem wsC_D (g : Gx) (c : CS) : va_D (Ag g) (wsC g c) := by
  have key : ∀ (k : Nat) (q : Nat × va_E), (wsC g c)[k]? = some q → q.1 = g.1 + k := by
    intro k q h
    have hk : k < c.2.2.2 := by
      have := (List.getElem?_eq_some_iff.mp h).1
      unfold wsC at this
      simpa using this
    rw [wsC_at g c hk] at h
    cases h
    rfl
  refine ⟨fun i j x y hi hj h => ?_, fun k q h => ?_⟩
  · rw [key i x hi, key j y hj] at h
    omega
  · show g.1 ≤ q.1
    rw [key k q h]
    omega
theorem celC_o (g : Gx) (c : CS) {q ci : Nat} (h : shp q = (0, ci)) : celC g c q = .inr (ci, (List.range (fkT.getD ci []).length).map (fvC g c q ci)) := by unfold celC; rw [h]; rfl
theorem celC_i (g : Gx) (c : CS) {q n : Nat} (h : shp q = (1, n)) : celC g c q = .inl (g.2.2.1 1, n, .inl (c.1 q)) := by unfold celC; rw [h]; rfl
theorem celC_b (g : Gx) (c : CS) {q n : Nat} (h : shp q = (2, n)) : celC g c q = .inl (g.2.2.1 2, n, .inl (c.1 q)) := by unfold celC; rw [h]; rfl
theorem celC_l (g : Gx) (c : CS) {q n : Nat} (h : shp q = (3, n)) : celC g c q = .inl (g.2.2.1 3, n, .inr (.inl (c.2.1 q))) := by unfold celC; rw [h]; rfl
theorem celC_q (g : Gx) (c : CS) {q k n : Nat} (h : shp q = (k, n)) (hk : k = 4 ∨ k = 5 ∨ k = 6) : celC g c q = .inl (g.2.2.1 k, n, .inr (.inr (.inr (.inr (fun i => if c.2.2.1 q i = true then some (g.1 + rt q i) else none))))) := by
  unfold celC; rw [h]
  rcases hk with rfl | rfl | rfl <;> rfl
theorem fvC_congr (g : Gx) {c t : CS} {q : Nat} (h1 : c.1 q = t.1 q) (h2 : c.2.1 q = t.2.1 q) (h3 : c.2.2.1 q = t.2.2.1 q) (ci k : Nat) : fvC g c q ci k = fvC g t q ci k := by unfold fvC; rw [h1, h2, h3]
theorem celC_congr (g : Gx) {c t : CS} {q : Nat} (h1 : c.1 q = t.1 q) (h2 : c.2.1 q = t.2.1 q) (h3 : c.2.2.1 q = t.2.2.1 q) : celC g c q = celC g t q := by
  unfold celC
  rw [h1, h2, h3]
  have e : fvC g c q = fvC g t q := by funext ci k; exact fvC_congr g h1 h2 h3 ci k
  rw [e]
theorem wsC_set (g : Gx) {c t : CS} {q : Nat} {e : va_E} (hq : q < c.2.2.2) (hn : t.2.2.2 = c.2.2.2) (he : celC g t q = e) (ho : ∀ j, j ≠ q → c.1 j = t.1 j ∧ c.2.1 j = t.2.1 j ∧ c.2.2.1 j = t.2.2.1 j) : (wsC g c).set q (g.1 + q, e) = wsC g t := by
  apply List.ext_getElem?
  intro j
  by_cases hj : j < c.2.2.2
  · by_cases hjq : j = q
    · subst hjq
      rw [List.getElem?_set_self (by unfold wsC; simpa using hj), wsC_at g t (by omega), he]
    · rw [List.getElem?_set_ne (Ne.symm hjq), wsC_at g c hj, wsC_at g t (by omega), celC_congr g (ho j hjq).1 (ho j hjq).2.1 (ho j hjq).2.2]
  · rw [List.getElem?_eq_none (by unfold wsC; simp; omega), List.getElem?_eq_none (by unfold wsC; simp; omega)]
theorem wsC_push (g : Gx) (I : MI) (L : ML) (S : MS) (n : Nat) : wsC g (I, L, S, n + 1) = wsC g (I, L, S, n) ++ [(g.1 + n, celC g (I, L, S, n + 1) n)] := by
  unfold wsC
  show (List.range (n + 1)).map _ = (List.range n).map _ ++ _
  rw [List.range_succ, List.map_append]
  rfl
theorem HC_push {g : Gx} {I : MI} {L : ML} {S : MS} {n : Nat} {H H1 : Heap} (h : HC g (I, L, S, n) H) (hz : H1.size = H.size + 1) (ho : ∀ q : Nat, q < H.size → H1[q]? = H[q]?) (hc : va_at g.2.1 vwCl (g.1 + n, celC g (I, L, S, n + 1) n) H1) : HC g (I, L, S, n + 1) H1 := by
  obtain ⟨hP, hs, hf⟩ := h
  refine ⟨?_, by rw [hz, hs]; rfl, fun q hq k => hf q (by have : n + 1 ≤ q := hq; show n ≤ q; omega) k⟩
  rw [wsC_push]
  refine (hP.kept (fun k q hq => ho q.1 ((hP k q hq).lt))).app ?_
  intro k q hk
  have hz : k < 1 := (List.getElem?_eq_some_iff.mp hk).1
  rw [show k = 0 by omega] at hk
  cases hk
  exact hc
def QC (g : Gx) (c' : CS) : Array Value → State → Outcome → State → Prop := fun _ st o t => o = .returned none ∧ HC g c' t.heap ∧ va_F (Ag g) st t
def rmC (d bc bs : Nat) : Room := { frames := d, cells := bc, slots := bs, locals := 64 * d }
def EntC (g : Gx) (d bc bs : Nat) (M : Mth) (q : Nat) (c c' : CS) : Prop :=
  ∀ l : Launch, l.stackTraces = false → Met l M.1 (wsM M) (rmC d bc bs) (va_Pc [.ref (g.1 + q)] (fun U => HK g U U.heap ∧ NS U ∧ HC g c U.heap)) (QC g c') bc bs (Ag g)
def EC (g : Gx) (d bc bs : Nat) (M : Mth) (pc : Nat) (lv : List (Nat × Value)) (st : List Value) (c0 c' : CS) : Prop :=
  ∀ (p : Program) (l : Launch) (e : Env) (R : Room) (u : State) (m : MethodId) (args : Array Value) (below : List Frame) (meth : Method) (c : Code) (H : Heap) (locs : List Loc) (cells slots : Nat) (ls : Array Slot),
    Cx g d M p l R u m args meth c → (meth.name = "<init>" ∧ NS u) → HC g c0 H → va_S (Ag g) u.heap H locs → lv_has ls M.2.2.1 (lv.map (cq g)) → cells + bc ≤ R.cells → slots + bs ≤ R.slots →
    W p l e R u m args below meth c H locs cells slots (MQ below (QC g c') args u R.cells R.slots (Ag g)) (F0 m pc ls (st.map (cv g)))
theorem EntC_of {g : Gx} {d bc bs : Nat} {M : Mth} {q : Nat} {c c' : CS} (hy : plainName M.1.cls = true) (hin : M.1.name = "<init>") (hq : q < 100000) (hn : 1 ≤ M.2.2.1) (h : EC g d bc bs M 0 [(0, .ref q)] [] c c') : EntC g d bc bs M q c c' := by
  intro l hl
  refine Met.ofW (cc := M.2.1) (maxL := M.2.2.1) (ret := M.2.2.2) hy rfl ?_
  intro p e u m args below meth c0 s₁ B hml hv
  obtain ⟨rfl, hK, hnw, hP⟩ := hv
  have hts : ∀ w ∈ lw_good, w.before [Value.ref (g.1 + q)].toArray u = true := fun w hw => atoms_spec (ws := wsM M) B.pre w (List.mem_cons_of_mem _ hw)
  have hno : ∀ x ∈ c0.exceptionTable.toList, False := by
    obtain ⟨meth9, c9, k1, k2, -, -, -, -, k7, -⟩ := Cond.code_spec B.named (atoms_spec (ws := wsM M) B.pre _ List.mem_cons_self)
    cases Option.some.inj (k1.symm.trans B.method)
    cases Option.some.inj (k2.symm.trans (Stand.of_body B).code)
    intro x hx
    rw [Array.isEmpty_iff.mp k7] at hx
    cases hx
  have hl0 := lv_entry [Value.ref (g.1 + q)] (n := M.2.2.1) (by show 1 ≤ M.2.2.1; exact hn)
  rw [lg_entry_eq]
  have e0 : lv_args 0 [Value.ref (g.1 + q)] = ([(0, Value.ref q)] : List (Nat × Value)).map (cq g) := by
    show [(0, Value.ref (g.1 + q))] = [(0, Value.ref (loc g q))]
    rw [loc_lo g hq]
  rw [e0] at hl0
  have hnm : meth.name = "<init>" := (name_of_methodNamed B.named B.method).1.trans hin
  exact h p l e (headSpec (wsM M) (rmC d bc bs)).room u m _ below meth c0 u.heap [] 0 0 _ ⟨B.exec, B.bytes, B.returns, hml, findClass_of_methodNamed B.named, hts, B.notSynchronized, hno, hl, hK, Nat.le_refl d, Nat.le_refl _⟩ ⟨hnm, hnw⟩ hP va_S.rf hl0 (by show 0 + bc ≤ bc; omega) (by show 0 + bs ≤ bs; omega)
section
variable {g : Gx} {d bc bs : Nat} {M : Mth} {pc : Nat} {lv lv' : List (Nat × Value)} {st : List Value} {I : MI} {L : ML} {S : MS} {n : Nat} {c0 c' : CS}
theorem EC_iconst {n : Int} {v : Int32} (q : Nat) (hq : pc + 1 = q) (hd : decode M.2.1 pc = .ok (.iconst n, 1)) (hv : Int32.ofInt n = v) (k : EC g d bc bs M q lv (.int v :: st) c0 c') : EC g d bc bs M pc lv (st) c0 c' := by
  subst hq
  intro p l e R u m args below meth c H locs cells slots ls C hn hW hS hl h1 h2
  exact lv_iconst C.1 C.2.1 hd hv (k p l e R u m args below meth c H locs cells slots ls C hn hW hS hl h1 h2)
theorem EC_bipush {n : Int} {v : Int32} (q : Nat) (hq : pc + 2 = q) (hd : decode M.2.1 pc = .ok (.bipush n, 2)) (hv : (Int8.ofInt n).toInt32 = v) (k : EC g d bc bs M q lv (.int v :: st) c0 c') : EC g d bc bs M pc lv (st) c0 c' := by
  subst hq
  intro p l e R u m args below meth c H locs cells slots ls C hn hW hS hl h1 h2
  exact lv_bipush C.1 C.2.1 hd hv (k p l e R u m args below meth c H locs cells slots ls C hn hW hS hl h1 h2)
theorem EC_sipush {n : Int} {v : Int32} (q : Nat) (hq : pc + 3 = q) (hd : decode M.2.1 pc = .ok (.sipush n, 3)) (hv : (Int16.ofInt n).toInt32 = v) (k : EC g d bc bs M q lv (.int v :: st) c0 c') : EC g d bc bs M pc lv (st) c0 c' := by
  subst hq
  intro p l e R u m args below meth c H locs cells slots ls C hn hW hS hl h1 h2
  exact lv_sipush C.1 C.2.1 hd hv (k p l e R u m args below meth c H locs cells slots ls C hn hW hS hl h1 h2)
theorem EC_lconst {n : Fin 2} {v : Int64} (q : Nat) (hq : pc + 1 = q) (hd : decode M.2.1 pc = .ok (.lconst n, 1)) (hv : Int64.ofNat (n : Nat) = v) (k : EC g d bc bs M q lv (.long v :: st) c0 c') : EC g d bc bs M pc lv (st) c0 c' := by
  subst hq
  intro p l e R u m args below meth c H locs cells slots ls C hn hW hS hl h1 h2
  exact lv_lconst C.1 C.2.1 hd hv (k p l e R u m args below meth c H locs cells slots ls C hn hW hS hl h1 h2)
theorem EC_iload_n {k : Fin 4} {i : Nat} {x : Int32} (q : Nat) (hq : pc + 1 = q) (hd : decode M.2.1 pc = .ok (.iload_n k, 1)) (hi : (k : Nat) = i) (j : Nat) (hj : lv[j]? = some (i, .int x)) (kk : EC g d bc bs M q lv (.int x :: st) c0 c') : EC g d bc bs M pc lv st c0 c' := by
  subst hq
  intro p l e R u m args below meth c H locs cells slots ls C hn hW hS hl h1 h2
  exact lv_iload_n C.1 C.2.1 hd hi (lv_at hl j (cq_at hj)) (kk p l e R u m args below meth c H locs cells slots ls C hn hW hS hl h1 h2)
theorem EC_aload_n {k : Fin 4} {i : Nat} {x : Nat} (q : Nat) (hq : pc + 1 = q) (hd : decode M.2.1 pc = .ok (.aload_n k, 1)) (hi : (k : Nat) = i) (j : Nat) (hj : lv[j]? = some (i, .ref x)) (kk : EC g d bc bs M q lv (.ref x :: st) c0 c') : EC g d bc bs M pc lv st c0 c' := by
  subst hq
  intro p l e R u m args below meth c H locs cells slots ls C hn hW hS hl h1 h2
  exact lv_aload_n C.1 C.2.1 hd hi (lv_at hl j (cq_at hj)) (kk p l e R u m args below meth c H locs cells slots ls C hn hW hS hl h1 h2)
theorem EC_istore_n {k : Fin 4} {i : Nat} {x : Int32} (q : Nat) (hq : pc + 1 = q) (hd : decode M.2.1 pc = .ok (.istore_n k, 1)) (hi : (k : Nat) = i) (hn' : i < M.2.2.1) (h : (i, Value.int x) :: lv.filter (pf1 i) = lv') (kk : EC g d bc bs M q lv' st c0 c') : EC g d bc bs M pc lv (.int x :: st) c0 c' := by
  subst hq
  intro p l e R u m args below meth c H locs cells slots ls C hn hW hS hl h1 h2
  exact lv_istore_n C.1 C.2.1 hd hi hl hn' (pf1_map h) (fun ls' hl' => kk p l e R u m args below meth c H locs cells slots ls' C hn hW hS hl' h1 h2)
theorem EC_iinc {i j : Nat} {k : Int} {x v : Int32} (q : Nat) (hq : pc + 3 = q) (hd : decode M.2.1 pc = .ok (.iinc i k, 3)) (hj : lv[j]? = some (i, .int x)) (hv : x + Int32.ofInt k = v) (hn' : i < M.2.2.1) (h : (i, Value.int v) :: lv.filter (pf1 i) = lv') (kk : EC g d bc bs M q lv' st c0 c') : EC g d bc bs M pc lv st c0 c' := by
  subst hq
  intro p l e R u m args below meth c H locs cells slots ls C hn hW hS hl h1 h2
  exact lv_iinc C.1 C.2.1 hd hl (cq_at hj) hv hn' (pf1_map h) (fun ls' hl' => kk p l e R u m args below meth c H locs cells slots ls' C hn hW hS hl' h1 h2)
theorem EC_goto {off : Int} (t : Nat) (ht : (pc : Int) + off = (t : Int)) (hd : decode M.2.1 pc = .ok (.goto off, 3)) (k : EC g d bc bs M t lv st c0 c') : EC g d bc bs M pc lv st c0 c' := by
  intro p l e R u m args below meth c H locs cells slots ls C hn hW hS hl h1 h2
  exact lv_goto C.1 C.2.1 hd ht (k p l e R u m args below meth c H locs cells slots ls C hn hW hS hl h1 h2)
theorem EC_geT {x y : Int32} {off : Int} (t : Nat) (ht : (pc : Int) + off = (t : Int)) (hd : decode M.2.1 pc = .ok (.if_icmp .ge off, 3)) (hc : y ≤ x) (k : EC g d bc bs M t lv st c0 c') : EC g d bc bs M pc lv (.int y :: .int x :: st) c0 c' := by
  intro p l e R u m args below meth c H locs cells slots ls C hn hW hS hl h1 h2
  exact lv_icmp_ge C.1 C.2.1 hd ht (fun _ => k p l e R u m args below meth c H locs cells slots ls C hn hW hS hl h1 h2) (fun h => absurd hc h)
theorem EC_geF {x y : Int32} {off : Int} (t q : Nat) (ht : (pc : Int) + off = (t : Int)) (hq : pc + 3 = q) (hd : decode M.2.1 pc = .ok (.if_icmp .ge off, 3)) (hc : ¬ y ≤ x) (k : EC g d bc bs M q lv st c0 c') : EC g d bc bs M pc lv (.int y :: .int x :: st) c0 c' := by
  subst hq
  intro p l e R u m args below meth c H locs cells slots ls C hn hW hS hl h1 h2
  exact lv_icmp_ge C.1 C.2.1 hd ht (fun h => absurd h hc) (fun _ => k p l e R u m args below meth c H locs cells slots ls C hn hW hS hl h1 h2)
theorem EC_dup {va : Value} (q : Nat) (hq : pc + 1 = q) (hd : decode M.2.1 pc = .ok (.dup, 1)) (h : va.category = 1) (k : EC g d bc bs M q lv (va :: va :: st) c0 c') : EC g d bc bs M pc lv (va :: st) c0 c' := by
  subst hq
  intro p l e R u m args below meth c H locs cells slots ls C hn hW hS hl h1 h2
  exact lv_dup C.1 C.2.1 hd (by rw [cv_cat]; exact h) (k p l e R u m args below meth c H locs cells slots ls C hn hW hS hl h1 h2)
theorem EC_ret (hr : M.2.2.2 = none) (hd : decode M.2.1 pc = .ok (.return_, 1)) (he : c0 = c') : EC g d bc bs M pc lv [] c0 c' := by
  subst he
  intro p l e R u m args below meth c H locs cells slots ls C hn hW hS hl h1 h2
  have hlk : meth.locks = false := C.2.2.2.2.2.2.1
  refine W.widen (k := R.cells) (n := R.slots) (by omega) (by omega) ?_
  refine W.vret C.1 C.2.1 (C.2.2.1.trans hr) (fun t ht _ => ⟨rfl, by rw [ht]; exact hW, ?_⟩) hS.2.2 hd
  rw [show va_F (Ag g) u t = (u.heap.size ≤ t.heap.size ∧ ∀ q : Nat, q < u.heap.size → ¬ Ag g q → t.heap[q]? = u.heap[q]?) from rfl, ht]
  exact ⟨hS.1, hS.2.1⟩
/-- the words of Object's constructor -/
def OI (own : String) (idx : Nat) : Prop := Cond.methodLink own idx Lib.objectInit ∈ lw_good ∧ Cond.instanceMethod Lib.objectInit ∈ lw_good ∧ Cond.code Lib.objectInit ⟨#[0xb1]⟩ 1 none ∈ lw_good
theorem EC_obj {x idx : Nat} (q : Nat) (hq : pc + 3 = q) (hd : decode M.2.1 pc = .ok (.invokespecial idx, 3)) (oi : OI M.1.cls idx) (h1' : 1 ≤ d) (hst : cats st ≤ 8) (k : EC g d bc bs M q lv st c0 c') : EC g d bc bs M pc lv (.ref x :: st) c0 c' := by
  subst hq
  intro p l e R u m args below meth c H locs cells slots ls C hn hW hS hl h1 h2
  obtain ⟨hx, hb, hr, hml, hown, hts, hlk, hno, htr, hK, hf, hlo⟩ := id C
  exact W.objInit hx hb hown (hts _ oi.1) (hts _ oi.2.1) (hts _ oi.2.2) rfl (hl.1.trans hml.symm) rfl hd (by omega) (by show 2 * 0 + _ + 12 ≤ R.locals; rw [cats_cv]; omega) (k p l e R u m args below meth c H locs cells slots ls C hn hW hS hl h1 h2)
theorem EC_put {q0 ci k idx : Nat} {ty : FieldType} {fin : Bool} {v : Value} {t : CS} (q : Nat) (hq : pc + 3 = q) (hd : decode M.2.1 pc = .ok (.putfield idx, 3)) (hsh : shp q0 = (0, ci)) (hlt : q0 < c0.2.2.2) (lk : FL M.1.cls idx ci k ty fin) (hown' : fin = true → ∀ (C : String) (T : u_T) (N : Nat), vwCl[ci]? = some (C, T, N) → (T k).1 = M.1.cls) (hn : narrow ty (cv g v) = cv g v) (hfit : fits ty (cv g v) = true) (hv : fvC g t q0 ci k = cv g v) (ho1 : ∀ j, j ≠ k → fvC g t q0 ci j = fvC g c0 q0 ci j) (ho : ∀ j, j ≠ q0 → c0.1 j = t.1 j ∧ c0.2.1 j = t.2.1 j ∧ c0.2.2.1 j = t.2.2.1 j) (hnn : t.2.2.2 = c0.2.2.2) (kk : EC g d bc bs M q lv st t c') : EC g d bc bs M pc lv (v :: .ref q0 :: st) c0 c' := by
  subst hq
  intro p l e R u m args below meth c H locs cells slots ls C hnm hW hS hl h1 h2
  obtain ⟨C0, T, N, t0, ⟨hc, hin, hty, hnmm, hN⟩, hk, hlink, rfl, hfin⟩ := lk
  have h161 := shp_lt hsh (by decide)
  have he := wsC_at g c0 hlt
  rw [celC_o g c0 hsh, hN] at he
  show W p l e R u m args below meth c H locs cells slots _ (F0 m pc ls (cv g v :: .ref (loc g q0) :: st.map (cv g)))
  rw [loc_lo g (show q0 < 100000 by omega)]
  have fin9 : ∀ (H1 : Heap) (locs1 : List Loc), va_P g.2.1 vwCl ((wsC g c0).set q0 (g.1 + q0, .inr (ci, ((List.range N).map (fvC g c0 q0 ci)).set k (cv g v)))) H1 → H1.size = H.size → va_S (Ag g) u.heap H1 locs1 → W p l e R u m args below meth c H1 locs1 cells slots (MQ below (QC g c') args u R.cells R.slots (Ag g)) (F0 m (pc + 3) ls (st.map (cv g))) := by
    intro H1 locs1 hP1 hz1 hS1
    refine kk p l e R u m args below meth c H1 locs1 cells slots ls C hnm ⟨?_, by rw [hz1, hW.2.1, hnn], ?_⟩ hS1 hl h1 h2
    · rw [← wsC_set g (c := c0) (t := t) (q := q0) (e := .inr (ci, ((List.range N).map (fvC g c0 q0 ci)).set k (cv g v))) hlt hnn ?_ ho]
      · exact hP1
      · rw [celC_o g t hsh, hN, ← hv, rng_set ho1]
    · intro j hj k'
      rw [hnn] at hj
      have hne : j ≠ q0 := by omega
      rw [← (ho j hne).1, ← (ho j hne).2.1, ← (ho j hne).2.2]
      exact hW.2.2 j hj k'
  rcases hfq : (T k).2.2.2 with _ | _
  · refine ec_put C.1 C.2.1 C.2.2.2.2.2.1 hin t0 hty hnmm C.2.2.2.2.1 C.2.2.2.2.2.2.2.2.2.1.1 hW.1 (wsC_D g c0) hS q0 he hc k hk (C.2.2.2.2.2.1 _ hlink) (fun x h => h) hfq (hty k hk) hn hfit (by simpa using hk) hd (fun H1 locs1 hz hP1 _ hS1 => fin9 H1 locs1 hP1 hz hS1)
  · refine ec_putF C.1 C.2.1 C.2.2.2.2.2.1 hin t0 hty hnmm C.2.2.2.2.1 C.2.2.2.2.2.2.2.2.2.1.1 hW.1 (wsC_D g c0) hS q0 he hc k hk (C.2.2.2.2.2.1 _ hlink) (fun x h => h) hfq hnm.1 (hown' (by rw [← hfin]; exact hfq) C0 T N hc) (hty k hk) hn hfit (by simpa using hk) hd (fun H1 locs1 hz hP1 _ hS1 => fin9 H1 locs1 hP1 hz hS1)
def upS (S : MS) (q k : Nat) : MS := fun j => if j = q then (fun i => if i = k then true else S q i) else S j
theorem upS_s (S : MS) (q k : Nat) : upS S q k q = (fun i => if i = k then true else S q i) := if_pos rfl
theorem upS_n (S : MS) {q j : Nat} (k : Nat) (h : j ≠ q) : upS S q k j = S j := if_neg h
theorem EC_pI {q0 ci k idx : Nat} {x : Int32} {ty : FieldType} (q : Nat) (hq : pc + 3 = q) (hd : decode M.2.1 pc = .ok (.putfield idx, 3)) (hsh : shp q0 = (0, ci)) (hlt : q0 < n) (lk : FL M.1.cls idx ci k ty false) (hty : ty = .int) (hf : fkd ci k = 0) (kk : EC g d bc bs M q lv st (up2 I q0 k x, L, S, n) c') : EC g d bc bs M pc lv (.int x :: .ref q0 :: st) (I, L, S, n) c' := by
  subst hty
  exact EC_put (t := (up2 I q0 k x, L, S, n)) q hq hd hsh hlt lk (fun h => nomatch h) rfl rfl (by unfold fvC; rw [hf]; simp only [up2_s, upd_eq]; rfl) (fun j h => by unfold fvC; simp only [up2_s, upd_ne _ x h]) (fun j h => ⟨(up2_n _ _ _ h).symm, rfl, rfl⟩) rfl kk
theorem EC_pB {q0 ci k idx : Nat} {x : Bool} (q : Nat) (hq : pc + 3 = q) (hd : decode M.2.1 pc = .ok (.putfield idx, 3)) (hsh : shp q0 = (0, ci)) (hlt : q0 < n) (lk : FL M.1.cls idx ci k .boolean false) (hf : fkd ci k = 4) (kk : EC g d bc bs M q lv st (up2 I q0 k (bI x), L, S, n) c') : EC g d bc bs M pc lv (.int (bI x) :: .ref q0 :: st) (I, L, S, n) c' :=
  EC_put (t := (up2 I q0 k (bI x), L, S, n)) q hq hd hsh hlt lk (fun h => nomatch h) (by cases x <;> rfl) (by cases x <;> rfl) (by unfold fvC; rw [hf]; simp only [up2_s, upd_eq]; cases x <;> rfl) (fun j h => by unfold fvC; simp only [up2_s, upd_ne _ _ h]) (fun j h => ⟨(up2_n _ _ _ h).symm, rfl, rfl⟩) rfl kk
theorem EC_pL {q0 ci k idx : Nat} {x : Int64} (q : Nat) (hq : pc + 3 = q) (hd : decode M.2.1 pc = .ok (.putfield idx, 3)) (hsh : shp q0 = (0, ci)) (hlt : q0 < n) (lk : FL M.1.cls idx ci k .long false) (hf : fkd ci k = 1) (kk : EC g d bc bs M q lv st (I, upl L q0 k x, S, n) c') : EC g d bc bs M pc lv (.long x :: .ref q0 :: st) (I, L, S, n) c' :=
  EC_put (t := (I, upl L q0 k x, S, n)) q hq hd hsh hlt lk (fun h => nomatch h) rfl rfl (by unfold fvC; rw [hf]; simp only [upl_s]; show Value.long (vp_updL _ _ _ _) = _; rw [show vp_updL (L q0) k x k = x from if_pos rfl]; rfl) (fun j h => by unfold fvC; simp only [upl_s, show vp_updL (L q0) k x j = L q0 j from if_neg h]) (fun j h => ⟨rfl, (upl_n _ _ _ h).symm, rfl⟩) rfl kk
theorem EC_pR {q0 q1 ci k idx : Nat} {ty : FieldType} {fin : Bool} (q : Nat) (hq : pc + 3 = q) (hd : decode M.2.1 pc = .ok (.putfield idx, 3)) (hsh : shp q0 = (0, ci)) (hlt : q0 < n) (lk : FL M.1.cls idx ci k ty fin) (hown' : ∀ (C : String) (T : u_T) (N : Nat), vwCl[ci]? = some (C, T, N) → (T k).1 = M.1.cls) (hty : (∃ t, ty = .object t) ∨ ∃ t, ty = .array t) (hf : fkd ci k = 2) (hr : rt q0 k = q1) (h9 : q1 < 100000) (kk : EC g d bc bs M q lv st (I, L, upS S q0 k, n) c') : EC g d bc bs M pc lv (.ref q1 :: .ref q0 :: st) (I, L, S, n) c' := by
  have hv : cv g (.ref q1) = .ref (g.1 + q1) := by show Value.ref (loc g q1) = _; rw [loc_lo g h9]
  refine EC_put (t := (I, L, upS S q0 k, n)) (v := .ref q1) q hq hd hsh hlt lk (fun _ => hown') (by rw [hv]; rcases hty with ⟨t, rfl⟩ | ⟨t, rfl⟩ <;> rfl) (by rw [hv]; rcases hty with ⟨t, rfl⟩ | ⟨t, rfl⟩ <;> rfl) (by rw [hv]; unfold fvC; rw [hf]; simp only [upS_s, if_pos, hr]) (fun j h => by unfold fvC; simp only [upS_s, if_neg h]) (fun j h => ⟨rfl, rfl, (upS_n _ _ h).symm⟩) rfl kk
theorem EC_pD {q0 q1 ci k idx : Nat} {ty : String} (q : Nat) (hq : pc + 3 = q) (hd : decode M.2.1 pc = .ok (.putfield idx, 3)) (hsh : shp q0 = (0, ci)) (hlt : q0 < n) (lk : FL M.1.cls idx ci k (.object ty) false) (hf : fkd ci k = 3) (h9 : q1 < 100000) (kk : EC g d bc bs M q lv st (up2 I q0 k (nI q1), L, upS S q0 k, n) c') : EC g d bc bs M pc lv (.ref q1 :: .ref q0 :: st) (I, L, S, n) c' := by
  have hv : cv g (.ref q1) = .ref (g.1 + q1) := by show Value.ref (loc g q1) = _; rw [loc_lo g h9]
  refine EC_put (t := (up2 I q0 k (nI q1), L, upS S q0 k, n)) (v := .ref q1) q hq hd hsh hlt lk (fun h => nomatch h) (by rw [hv]; rfl) (by rw [hv]; rfl) (by rw [hv]; unfold fvC; rw [hf]; simp only [upS_s, up2_s, upd_eq, if_pos, nI_clamp (show q1 < 2 ^ 31 by omega)]) (fun j h => by unfold fvC; simp only [upS_s, up2_s, upd_ne _ _ h, if_neg h]) (fun j h => ⟨(up2_n _ _ _ h).symm, rfl, (upS_n _ _ h).symm⟩) rfl kk
theorem EC_gR {q0 ci k idx : Nat} {ty : FieldType} {fin : Bool} (q1 q : Nat) (hq : pc + 3 = q) (hd : decode M.2.1 pc = .ok (.getfield idx, 3)) (hsh : shp q0 = (0, ci)) (hlt : q0 < n) (lk : FL M.1.cls idx ci k ty fin) (hf : fkd ci k = 2) (hs : S q0 k = true) (hr : rt q0 k = q1) (h9 : q1 < 100000) (kk : EC g d bc bs M q lv (.ref q1 :: st) (I, L, S, n) c') : EC g d bc bs M pc lv (.ref q0 :: st) (I, L, S, n) c' := by
  subst hq
  intro p l e R u m args below meth c H locs cells slots ls C hn hW hS hl h1 h2
  obtain ⟨C0, T, N, t0, ⟨hc, hin, hty, hnm, hN⟩, hk, hlink, -, -⟩ := lk
  have h161 := shp_lt hsh (by decide)
  have he := wsC_at g (I, L, S, n) hlt
  rw [celC_o g _ hsh, hN] at he
  show W p l e R u m args below meth c H locs cells slots _ (F0 m pc ls (.ref (loc g q0) :: st.map (cv g)))
  rw [loc_lo g (show q0 < 100000 by omega)]
  have hv : cv g (.ref q1) = .ref (g.1 + q1) := by show Value.ref (loc g q1) = _; rw [loc_lo g h9]
  refine va_get C.1 C.2.1 C.2.2.2.2.2.1 hin C.2.2.2.2.1 C.2.2.2.2.2.2.2.2.2.1.1 hW.1 q0 he hc k hk (C.2.2.2.2.2.1 _ hlink) (fun x h => h) (v := cv g (.ref q1)) ?_ hd (kk p l e R u m args below meth c H locs cells slots ls C hn hW hS hl h1 h2)
  rw [List.getElem?_map, List.getElem?_range hk, hv]
  show some (fvC g (I, L, S, n) q0 ci k) = _
  unfold fvC
  rw [hf]
  simp only [hs, if_pos, hr]
def dfl (k : Nat) : Value := match k with
  | 0 => .int 0
  | 1 => .long 0
  | 2 => .null
  | 3 => .null
  | _ => .int 0
theorem fvC_0 {g : Gx} {c : CS} {q ci k : Nat} (h1 : ∀ k, c.1 q k = 0) (h2 : ∀ k, c.2.1 q k = 0) (h3 : ∀ k, c.2.2.1 q k = false) : fvC g c q ci k = dfl (fkd ci k) := by
  unfold fvC dfl
  rw [h1, h2, h3]
  split <;> simp_all <;> rfl
/-- words of 'new' of a class of the worlds -/
def NW (own : String) (idx ci N : Nat) : Prop :=
  ∃ (C : String) (T : u_T) (t0 : Nat → FieldType), KC ci C T N t0 ∧ Cond.classLink own idx C ∈ lw_good ∧ Cond.instantiable C N ∈ lw_good ∧ Cond.initialized C ∈ lw_good ∧ ∀ k, k < N → defaultValue (t0 k) = dfl (fkd ci k)
theorem EC_new {ci idx N : Nat} (q : Nat) (hq : pc + 3 = q) (hd : decode M.2.1 pc = .ok (.new idx, 3)) (hsh : shp n = (0, ci)) (nw : NW M.1.cls idx ci N) (kk : EC g d bc bs M q lv (.ref n :: st) (I, L, S, n + 1) c') : EC g d (bc + 1) (bs + N) M pc lv st (I, L, S, n) c' := by
  subst hq
  intro p l e R u m args below meth c H locs cells slots ls C hn hW hS hl h1 h2
  obtain ⟨hx, hb, hr, hml, hown, hts, hlk, hno, htr, hK, hf, hlo⟩ := id C
  obtain ⟨C0, T, t0, ⟨hc, hin, hty, hnm, hN⟩, w1, w2, w3, hdf⟩ := nw
  have h161 := shp_lt hsh (by decide)
  have hKn := hK.1.1 ci _ hc
  obtain ⟨hP, hz, hfr⟩ := hW
  have hz' : H.size = g.1 + n := hz
  refine W.newcK hx hb hown (hts _ w1) (hts _ w2) (hts _ w3) rfl hd (by omega) (by omega) hKn.2.1 hz' fun H1 kC hkC e1 z1 o1 => ?_
  have k9 := kk p l e R u m args below meth c H1 locs (cells + 1) (slots + N) ls C hn (HC_push ⟨hP, hz, hfr⟩ (by rw [z1, hz']) (fun q hq => o1 q (by omega)) ?_) ⟨Nat.le_trans hS.1 (by omega), fun x a1 a2 => (o1 x (by have := hS.1; omega)).trans (hS.2.1 x a1 a2), hS.2.2⟩ hl (by omega) (by omega)
  · rw [List.map_cons, show cv g (.ref n) = .ref (loc g n) from rfl, loc_lo g (show n < 100000 by omega)] at k9
    exact k9
  · rw [celC_o g _ hsh, hN]
    refine ⟨_, hc, (u_born t0 hts hin hKn hkC e1 hty).to (fun k hk => ?_)⟩
    rw [hdf k hk]
    show _ = vp_V ((List.range N).map (fvC g (I, L, S, n + 1) n ci)) k
    simp only [vp_V, List.getD_eq_getElem?_getD, List.getElem?_map, List.getElem?_range hk, Option.map_some, Option.getD_some]
    exact (fvC_0 (fun k => (hfr n (Nat.le_refl _) k).1) (fun k => (hfr n (Nat.le_refl _) k).2.1) (fun k => (hfr n (Nat.le_refl _) k).2.2)).symm
theorem EC_nai {N : Nat} {v : Int32} (q : Nat) (hq : pc + 2 = q) (hd : decode M.2.1 pc = .ok (.newarray .int, 2)) (hsh : shp n = (1, N)) (hv0 : ¬ v < 0) (hv : v.toNatClampNeg = N) (hb8 : N * 8 ≤ 536870912) (w : Cond.arrayClass .int ∈ lw_good) (kk : EC g d bc bs M q lv (.ref n :: st) (I, L, S, n + 1) c') : EC g d (bc + 1) (bs + N) M pc lv (.int v :: st) (I, L, S, n) c' := by
  subst hq
  intro p l e R u m args below meth c H locs cells slots ls C hn hW hS hl h1 h2
  obtain ⟨hx, hb, hr, hml, hown, hts, hlk, hno, htr, hK, hf, hlo⟩ := id C
  have h161 := shp_lt hsh (by decide)
  obtain ⟨hP, hz, hfr⟩ := hW
  have hz' : H.size = g.1 + n := hz
  refine va_newaK hx hb (atype := .int) (hts _ w) rfl hd rfl hv0 hv (by show N * 4 ≤ _; omega) (by omega) (by omega) hz' fun H1 cA e1 z1 o1 _ hfc => ?_
  have hcA : cA = g.2.2.1 1 := Option.some.inj (hfc.symm.trans (hK.1.2 0 _ rfl).2)
  have k9 := kk p l e R u m args below meth c H1 locs (cells + 1) (slots + N) ls C hn (HC_push ⟨hP, hz, hfr⟩ (by rw [z1, hz']) (fun q hq => o1 q (by omega)) ?_) ⟨Nat.le_trans hS.1 (by omega), fun x a1 a2 => (o1 x (by have := hS.1; omega)).trans (hS.2.1 x a1 a2), hS.2.2⟩ hl (by omega) (by omega)
  · rw [List.map_cons, show cv g (.ref n) = .ref (loc g n) from rfl, loc_lo g (show n < 100000 by omega)] at k9
    exact k9
  · rw [celC_i g _ hsh]
    show H1[g.1 + n]? = some (vp_cell _ _)
    rw [e1, vp_cell_i, hcA]
    congr 2
    funext j
    rw [(hfr n (Nat.le_refl _) j).1]
    rfl
theorem EC_nab {N : Nat} {v : Int32} (q : Nat) (hq : pc + 2 = q) (hd : decode M.2.1 pc = .ok (.newarray .byte, 2)) (hsh : shp n = (2, N)) (hv0 : ¬ v < 0) (hv : v.toNatClampNeg = N) (hb8 : N * 8 ≤ 536870912) (w : Cond.arrayClass .byte ∈ lw_good) (kk : EC g d bc bs M q lv (.ref n :: st) (I, L, S, n + 1) c') : EC g d (bc + 1) (bs + N) M pc lv (.int v :: st) (I, L, S, n) c' := by
  subst hq
  intro p l e R u m args below meth c H locs cells slots ls C hn hW hS hl h1 h2
  obtain ⟨hx, hb, hr, hml, hown, hts, hlk, hno, htr, hK, hf, hlo⟩ := id C
  have h161 := shp_lt hsh (by decide)
  obtain ⟨hP, hz, hfr⟩ := hW
  have hz' : H.size = g.1 + n := hz
  refine va_newaK hx hb (atype := .byte) (hts _ w) rfl hd rfl hv0 hv (by show N * 1 ≤ _; omega) (by omega) (by omega) hz' fun H1 cA e1 z1 o1 _ hfc => ?_
  have hcA : cA = g.2.2.1 2 := Option.some.inj (hfc.symm.trans (hK.1.2 1 _ rfl).2)
  have k9 := kk p l e R u m args below meth c H1 locs (cells + 1) (slots + N) ls C hn (HC_push ⟨hP, hz, hfr⟩ (by rw [z1, hz']) (fun q hq => o1 q (by omega)) ?_) ⟨Nat.le_trans hS.1 (by omega), fun x a1 a2 => (o1 x (by have := hS.1; omega)).trans (hS.2.1 x a1 a2), hS.2.2⟩ hl (by omega) (by omega)
  · rw [List.map_cons, show cv g (.ref n) = .ref (loc g n) from rfl, loc_lo g (show n < 100000 by omega)] at k9
    exact k9
  · rw [celC_b g _ hsh]
    show H1[g.1 + n]? = some (vp_cell _ _)
    rw [e1, vp_cell_i, hcA]
    congr 2
    funext j
    rw [(hfr n (Nat.le_refl _) j).1]
    rfl
theorem EC_nal {N : Nat} {v : Int32} (q : Nat) (hq : pc + 2 = q) (hd : decode M.2.1 pc = .ok (.newarray .long, 2)) (hsh : shp n = (3, N)) (hv0 : ¬ v < 0) (hv : v.toNatClampNeg = N) (hb8 : N * 8 ≤ 536870912) (w : Cond.arrayClass .long ∈ lw_good) (kk : EC g d bc bs M q lv (.ref n :: st) (I, L, S, n + 1) c') : EC g d (bc + 1) (bs + N) M pc lv (.int v :: st) (I, L, S, n) c' := by
  subst hq
  intro p l e R u m args below meth c H locs cells slots ls C hn hW hS hl h1 h2
  obtain ⟨hx, hb, hr, hml, hown, hts, hlk, hno, htr, hK, hf, hlo⟩ := id C
  have h161 := shp_lt hsh (by decide)
  obtain ⟨hP, hz, hfr⟩ := hW
  have hz' : H.size = g.1 + n := hz
  refine va_newaK hx hb (atype := .long) (hts _ w) rfl hd rfl hv0 hv (by show N * 8 ≤ _; omega) (by omega) (by omega) hz' fun H1 cA e1 z1 o1 _ hfc => ?_
  have hcA : cA = g.2.2.1 3 := Option.some.inj (hfc.symm.trans (hK.1.2 2 _ rfl).2)
  have k9 := kk p l e R u m args below meth c H1 locs (cells + 1) (slots + N) ls C hn (HC_push ⟨hP, hz, hfr⟩ (by rw [z1, hz']) (fun q hq => o1 q (by omega)) ?_) ⟨Nat.le_trans hS.1 (by omega), fun x a1 a2 => (o1 x (by have := hS.1; omega)).trans (hS.2.1 x a1 a2), hS.2.2⟩ hl (by omega) (by omega)
  · rw [List.map_cons, show cv g (.ref n) = .ref (loc g n) from rfl, loc_lo g (show n < 100000 by omega)] at k9
    exact k9
  · rw [celC_l g _ hsh]
    show H1[g.1 + n]? = some (vp_cell _ _)
    rw [e1, vp_cell_l, hcA]
    congr 2
    funext j
    rw [(hfr n (Nat.le_refl _) j).2.1]
    rfl
theorem EC_naq {k N idx t0 : Nat} {v : Int32} {C0 : String} (q : Nat) (hq : pc + 3 = q) (hd : decode M.2.1 pc = .ok (.anewarray idx, 3)) (hsh : shp n = (k, N)) (hk : k = 4 ∨ k = 5 ∨ k = 6) (hv0 : ¬ v < 0) (hv : v.toNatClampNeg = N) (hb8 : N * 8 ≤ 536870912) (w : Cond.classLink M.1.cls idx C0 ∈ lw_good) (hao : ∀ U, NS U → va_AO C0 U) (ht : ∀ g : Gx, (tysO g)[t0]? = some (g.2.2.1 k, .object C0)) (kk : EC g d bc bs M q lv (.ref n :: st) (I, L, S, n + 1) c') : EC g d (bc + 1) (bs + N) M pc lv (.int v :: st) (I, L, S, n) c' := by
  subst hq
  subst hv
  intro p l e R u m args below meth c H locs cells slots ls C hn hW hS hl h1 h2
  obtain ⟨hx, hb, hr, hml, hown, hts, hlk, hno, htr, hK, hf, hlo⟩ := id C
  have h161 := shp_lt hsh (by rcases hk with rfl | rfl | rfl <;> decide)
  obtain ⟨hP, hz, hfr⟩ := hW
  have hz' : H.size = g.1 + n := hz
  refine W.anew hx hb hown (hts _ w) (va_AO.use (hao u hn.2)) rfl hd rfl hv0 (by omega) (by omega) (by omega) fun cA kA comp f1 f2 f3 f4 => ?_
  have hcA : cA = g.2.2.1 k := by
    obtain ⟨kA', comp', r1, r2, r3, r4⟩ := (hK.1.2 t0 _ (ht g)).2
    exact Option.some.inj (f1.symm.trans r4)
  generalize hH1 : H.push ({ cls := cA, slots := Array.replicate v.toNatClampNeg .null, vm := .none } : Cell) = H1
  have z1 : H1.size = H.size + 1 := by rw [← hH1, Array.size_push]
  have e1 : H1[H.size]? = some (arrV cA v.toNatClampNeg (fun _ => .null)) := by rw [← hH1, Array.getElem?_push_size, ← arrV_new]
  have o1 : ∀ q : Nat, q < H.size → H1[q]? = H[q]? := fun q hq => by rw [← hH1, Array.getElem?_push, if_neg (Nat.ne_of_lt hq)]
  have k9 := kk p l e R u m args below meth c H1 locs (cells + 1) (slots + v.toNatClampNeg) ls C hn (HC_push ⟨hP, hz, hfr⟩ z1 (fun q hq => o1 q hq) ?_) ⟨Nat.le_trans hS.1 (by omega), fun x a1 a2 => (o1 x (by have := hS.1; omega)).trans (hS.2.1 x a1 a2), hS.2.2⟩ hl (by omega) (by omega)
  · rw [List.map_cons, show cv g (.ref n) = .ref (loc g n) from rfl, loc_lo g (show n < 100000 by omega)] at k9
    rw [hz']
    exact k9
  · rw [celC_q g _ hsh hk]
    show H1[g.1 + n]? = some (vp_cell _ _)
    rw [← hz', e1, vp_cell_q, hcA]
    congr 2
    funext j
    show Value.null = va_rf (if S n j = true then _ else none)
    rw [show S n j = false from (hfr n (Nat.le_refl _) j).2.2]
    rfl
theorem EC_ast {q0 q1 k N ci t0 : Nat} {i : Int32} {rr : vw_C} (j9 : Nat) (hj9 : i.toNatClampNeg = j9) (q : Nat) (hq : pc + 1 = q) (hd : decode M.2.1 pc = .ok (.aastore, 1)) (hsh : shp q0 = (k, N)) (hk : k = 4 ∨ k = 5 ∨ k = 6) (hs1 : shp q1 = (0, ci)) (hl0 : q0 < n) (hl1 : q1 < n) (hc : vwCl[ci]? = some rr) (ht : ∀ g : Gx, (tysO g)[t0]? = some (g.2.2.1 k, .object rr.1)) (hi : vp_in i N) (hr : rt q0 j9 = q1) (kk : EC g d bc bs M q lv st (I, L, upS S q0 j9, n) c') : EC g d bc bs M pc lv (.ref q1 :: .int i :: .ref q0 :: st) (I, L, S, n) c' := by
  subst hq
  subst hj9
  intro p l e R u m args below meth c H locs cells slots ls C hn hW hS hl h1 h2
  obtain ⟨hx, hb, hr', hml, hown, hts, hlk, hno, htr, hK, hf, hlo⟩ := id C
  have h161 := shp_lt hsh (by rcases hk with rfl | rfl | rfl <;> decide)
  have h162 := shp_lt hs1 (by decide)
  have he0 := wsC_at g (I, L, S, n) hl0
  have he1 := wsC_at g (I, L, S, n) hl1
  rw [celC_q g _ hsh hk] at he0
  rw [celC_o g _ hs1] at he1
  show W p l e R u m args below meth c H locs cells slots _ (F0 m pc ls (.ref (loc g q1) :: .int i :: .ref (loc g q0) :: st.map (cv g)))
  rw [loc_lo g (show q0 < 100000 by omega), loc_lo g (show q1 < 100000 by omega)]
  refine ec_astq hx hb hK.1 hW.1 (wsC_D g _) hS q0 t0 q1 ci he0 (ht g) he1 hc hi hd ?_
  intro H1 locs1 hz1 hP1 hD1 hS1
  refine kk p l e R u m args below meth c H1 locs1 cells slots ls C hn ⟨?_, by rw [hz1]; exact hW.2.1, ?_⟩ hS1 hl h1 h2
  · rw [← wsC_set g (c := (I, L, S, n)) (t := (I, L, upS S q0 i.toNatClampNeg, n)) (q := q0) hl0 rfl (by rw [celC_q g _ hsh hk]) (fun j h => ⟨rfl, rfl, (upS_n _ _ h).symm⟩)]
    have e9 : (fun j => if upS S q0 i.toNatClampNeg q0 j = true then some (g.1 + rt q0 j) else none) = va_up (fun j => if S q0 j = true then some (g.1 + rt q0 j) else none) i.toNatClampNeg (some (g.1 + q1)) := by
      funext j
      rw [upS_s]
      unfold va_up
      by_cases hj : j = i.toNatClampNeg
      · subst hj; simp [hr]
      · simp [hj]
    rw [e9]
    exact hP1
  · intro j hj k'
    have hne : j ≠ q0 := by have : n ≤ j := hj; omega
    show I j k' = 0 ∧ L j k' = 0 ∧ upS S q0 i.toNatClampNeg j k' = false
    rw [upS_n _ _ hne]
    exact hW.2.2 j hj k'
theorem EC_ist {q0 N : Nat} {i x : Int32} (j9 : Nat) (hj9 : i.toNatClampNeg = j9) (q : Nat) (hq : pc + 1 = q) (hd : decode M.2.1 pc = .ok (.iastore, 1)) (hsh : shp q0 = (1, N)) (hl0 : q0 < n) (hi : vp_in i N) (kk : EC g d bc bs M q lv st (up2 I q0 j9 x, L, S, n) c') : EC g d bc bs M pc lv (.int x :: .int i :: .ref q0 :: st) (I, L, S, n) c' := by
  subst hq
  subst hj9
  intro p l e R u m args below meth c H locs cells slots ls C hn hW hS hl h1 h2
  have h161 := shp_lt hsh (by decide)
  have he0 := wsC_at g (I, L, S, n) hl0
  rw [celC_i g _ hsh] at he0
  show W p l e R u m args below meth c H locs cells slots _ (F0 m pc ls (.int x :: .int i :: .ref (loc g q0) :: st.map (cv g)))
  rw [loc_lo g (show q0 < 100000 by omega)]
  refine ec_iast C.1 C.2.1 C.2.2.2.2.2.2.2.2.2.1.1 hW.1 (wsC_D g _) hS q0 0 he0 rfl hi hd ?_
  intro H1 locs1 hz1 hP1 hD1 hS1
  refine kk p l e R u m args below meth c H1 locs1 cells slots ls C hn ⟨?_, by rw [hz1]; exact hW.2.1, ?_⟩ hS1 hl h1 h2
  · rw [← wsC_set g (c := (I, L, S, n)) (t := (up2 I q0 i.toNatClampNeg x, L, S, n)) (q := q0) hl0 rfl (by rw [celC_i g _ hsh]) (fun j h => ⟨(up2_n _ _ _ h).symm, rfl, rfl⟩)]
    simp only [up2_s]
    exact hP1
  · intro j hj k'
    have hne : j ≠ q0 := by have : n ≤ j := hj; omega
    show up2 I q0 i.toNatClampNeg x j k' = 0 ∧ L j k' = 0 ∧ S j k' = false
    rw [up2_n _ _ _ hne]
    exact hW.2.2 j hj k'
theorem HC_blind {q0 : Nat} {c : CS} : FrameBlind (va_Pc [Value.ref (g.1 + q0)] (fun U => HK g U U.heap ∧ NS U ∧ HC g c U.heap)) := by
  intro a' U g' mk h
  obtain ⟨h1, h2, h3, h4⟩ := h
  exact ⟨h1, HK_same (U := U.calling g' mk a') h2 rfl rfl, NS_same (s := U) (U := U.calling g' mk a') rfl h3, h4⟩
theorem preC_of {u : State} {H : Heap} {locs : List Loc} {q0 : Nat} {c : CS} (hK : HK g u u.heap) (hN : NS u) (hW : HC g c H) (hS : va_S (Ag g) u.heap H locs) : ∀ U : State, U.heap = H → u.WarmedH U.vm → va_Pc [Value.ref (g.1 + q0)] (fun U => HK g U U.heap ∧ NS U ∧ HC g c U.heap) [Value.ref (g.1 + q0)].toArray U :=
  fun U hU hWm => ⟨rfl, HK_at hK hWm (locs := locs) (by rw [hU]; exact hS), NS_warm hWm hN, by rw [hU]; exact hW⟩
/-- the words of a private constructor of a nest mate -/
def CN (own : String) (idx : Nat) (M' : Mth) : Prop :=
  Cond.methodLinkNest own idx M'.1 "NoiseHouse" ∈ nestW ∧ Cond.initialized M'.1.cls ∈ lw_good ∧ Cond.code M'.1 M'.2.1 M'.2.2.1 M'.2.2.2 ∈ lw_good ∧ (M'.1.cls ≠ "java/lang/invoke/MethodHandle" ∧ M'.1.cls ≠ "java/lang/invoke/VarHandle") ∧ (parseMethodDescriptor M'.1.desc).map (fun d => d.parameters.length) = some 0 ∧ M'.2.2.1 ≤ 40 ∧ M'.2.2.2 = none ∧ M'.1.name = "<init>" ∧ Cond.instanceMethod M'.1 ∈ lw_good
theorem EC_cN {M' : Mth} {q0 d' mc ms idx : Nat} {c1 : CS} (q : Nat) (hq : pc + 3 = q) (hd : decode M.2.1 pc = .ok (.invokespecial idx, 3)) (cn : CN M.1.cls idx M') (hdd : d' + 1 ≤ d) (hst : cats st ≤ 8) (h9 : q0 < 100000) (hc : EntC g d' mc ms M' q0 c0 c1) (kk : EC g d bc bs M q lv st c1 c') : EC g d (bc + mc) (bs + ms) M pc lv (.ref q0 :: st) c0 c' := by
  subst hq
  intro p l e R u m args below meth c H locs cells slots ls C hn hW hS hl h1 h2
  obtain ⟨hx, hb, hr, hml, hown, hts, hlk, hno, htr, hK, hf, hlo⟩ := id C
  obtain ⟨n1, n2, n3, n4, n5, n6, n7, n8, n9⟩ := cn
  intro T hT X
  have hM := hc l htr
  have hws : ∀ w ∈ wsM M', ∀ (a' : Array Value) (U : State), u.WarmedH U.vm → w.before a' U = true := by
    intro w hw a' U hWm
    rcases List.mem_cons.mp hw with rfl | hw
    · exact word_at hWm (lw_good_ok n3) (hts _ n3)
    · exact word_at hWm (lw_good_ok hw) (hts _ hw)
  have hcn : va_CN R u args M.1.cls idx M'.1 "NoiseHouse" M'.2.1 M'.2.2.1 none (wsM M') (rmC d' mc ms) mc ms 0 := by
    refine ⟨⟨rfl, rfl, ?_, ?_, hws, ?_⟩, ?_, hts _ n2, n4, fun sig h => ?_, va_Nw.use rfl (hn.2.1 _ n1)⟩
    · show d' + 1 ≤ R.frames
      omega
    · show 8 + (M'.2.2.1 + 11) + 64 * d' ≤ R.locals
      omega
    · rw [← n7]; exact List.mem_cons_self
    · rw [← n7]; exact hts _ n3
    · rw [h] at n5
      exact (Option.some.inj n5).symm
  obtain ⟨v', st₀, t, T', L9, h0', X', hL, e1, e2, ⟨ho, hHW, hF⟩, stp⟩ := va_runIN (As := []) (rest := st.map (cv g)) (b := g.1 + q0) (host := "NoiseHouse") (g := F0 m pc ls ((Value.ref q0 :: st).map (cv g))) (locs := locs) (cells := cells) (slots := slots) (e := e) (below := below) (meth := meth) (H := H) ⟨hx, hb, hml, hown, hts⟩ hM ⟨hcn, n8, hts _ n9⟩ ⟨HC_blind, preC_of hK hn.2 hW hS⟩ rfl rfl hl.1 (by show (Value.ref (loc g q0) :: st.map (cv g)) = _; rw [loc_lo g h9]; rfl) (by show 2 * 0 + _ ≤ 8; rw [cats_cv]; omega) hd ⟨by omega, by omega⟩ T hT X
  cases ho
  obtain ⟨k1, k2, k3⟩ := vx_keep h0' e1 hS (fun q _ h => h) (fun q h => h) hL hF
  obtain ⟨t2, a1, b1⟩ := kk p l e R u m args below meth c T'.heap (locs ++ L9) (cells + mc) (slots + ms) ls C hn (by rw [e1]; exact hHW) k3 hl (by omega) (by omega) T' rfl X'
  exact ⟨t2, stp t2 a1, b1⟩
/-- the words of a constructor that isn't private -/
def CI (own : String) (idx : Nat) (M' : Mth) : Prop := CK own idx M' 0 ∧ M'.2.2.2 = none ∧ M'.1.name = "<init>" ∧ Cond.instanceMethod M'.1 ∈ lw_good
theorem EC_cI {M' : Mth} {q0 d' mc ms idx : Nat} {c1 : CS} (q : Nat) (hq : pc + 3 = q) (hd : decode M.2.1 pc = .ok (.invokespecial idx, 3)) (ci : CI M.1.cls idx M') (hdd : d' + 1 ≤ d) (hst : cats st ≤ 8) (h9 : q0 < 100000) (hc : EntC g d' mc ms M' q0 c0 c1) (kk : EC g d bc bs M q lv st c1 c') : EC g d (bc + mc) (bs + ms) M pc lv (.ref q0 :: st) c0 c' := by
  subst hq
  intro p l e R u m args below meth c H locs cells slots ls C hn hW hS hl h1 h2
  obtain ⟨hx, hb, hr, hml, hown, hts, hlk, hno, htr, hK, hf, hlo⟩ := id C
  obtain ⟨⟨k1, k2, k3, k4, k5, k6⟩, n7, n8, n9⟩ := ci
  intro T hT X
  have hM := hc l htr
  have hcb : CallB R u args M.1.cls idx M'.1 M'.2.1 M'.2.2.1 none (wsM M') (rmC d' mc ms) mc ms 0 := by
    refine ⟨rfl, rfl, ?_, ?_, ?_, ?_, ?_, hts _ k2, k4, fun sig h => ?_, hts _ k1⟩
    · show d' + 1 ≤ R.frames
      omega
    · show 8 + (M'.2.2.1 + 11) + 64 * d' ≤ R.locals
      omega
    · intro w hw a' U hWm
      rcases List.mem_cons.mp hw with rfl | hw
      · exact word_at hWm (lw_good_ok k3) (hts _ k3)
      · exact word_at hWm (lw_good_ok hw) (hts _ hw)
    · rw [← n7]; exact List.mem_cons_self
    · rw [← n7]; exact hts _ k3
    · rw [h] at k5
      exact (Option.some.inj k5).symm
  obtain ⟨v', st₀, t, T', L9, h0', X', hL, e1, e2, ⟨ho, hHW, hF⟩, stp⟩ := va_runI (As := []) (rest := st.map (cv g)) (b := g.1 + q0) (g := F0 m pc ls ((Value.ref q0 :: st).map (cv g))) (locs := locs) (cells := cells) (slots := slots) (e := e) (below := below) (meth := meth) (H := H) ⟨hx, hb, hml, hown, hts⟩ hM ⟨hcb, n8, hts _ n9⟩ ⟨HC_blind, preC_of hK hn.2 hW hS⟩ rfl rfl hl.1 (by show (Value.ref (loc g q0) :: st.map (cv g)) = _; rw [loc_lo g h9]; rfl) (by show 2 * 0 + _ ≤ 8; rw [cats_cv]; omega) hd ⟨by omega, by omega⟩ T hT X
  cases ho
  obtain ⟨k1, k2, k3⟩ := vx_keep h0' e1 hS (fun q _ h => h) (fun q h => h) hL hF
  obtain ⟨t2, a1, b1⟩ := kk p l e R u m args below meth c T'.heap (locs ++ L9) (cells + mc) (slots + ms) ls C hn (by rw [e1]; exact hHW) k3 hl (by omega) (by omega) T' rfl X'
  exact ⟨t2, stp t2 a1, b1⟩
end
