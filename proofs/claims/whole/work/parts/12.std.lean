/-! the standing words: classes of arrays, the table of powers, nest mates -/
abbrev Gx : Type := va_G × (ClassId × ClassId × ClassId × ClassId × ClassId) × Nat
abbrev gI (G : Gx) : ClassId := G.2.1.1
abbrev gL (G : Gx) : ClassId := G.2.1.2.1
abbrev gB (G : Gx) : ClassId := G.2.1.2.2.1
abbrev gZ (G : Gx) : ClassId := G.2.1.2.2.2.1
abbrev gQ (G : Gx) : ClassId := G.2.1.2.2.2.2
abbrev gP (G : Gx) : Nat := G.2.2
abbrev tyL (G : Gx) : List (ClassId × FieldType) := [(gI G, .int), (gL G, .long), (gB G, .byte), (gZ G, .boolean), (gQ G, .object "PlainCobol$Acts")]
def pw (i : Int) : Int := 10 ^ i.toNat
abbrev rz (f n : Nat) : Room := { frames := f, cells := 0, slots := 0, locals := n }
theorem pw_key : ∀ k : Nat, k < 19 → 0 < (10 : Int) ^ k ∧ (10 : Int) ^ k ≤ 1000000000000000000 := by decide
theorem pw_rng {i : Int} (h : 0 ≤ i ∧ i ≤ 18) : 0 < pw i ∧ pw i ≤ 1000000000000000000 := pw_key i.toNat (by omega)
def Pz (G : Gx) (A : Nat → Prop) (U : State) : Prop := va_Z "PlainCobol" "POWERS" "[J" (.ref (gP G)) A U U.heap
def Pt19 (G : Gx) (A : Nat → Prop) (U : State) : Prop := va_T .long (gP G) 19 (fun j => .long (lI (pw (j : Int)))) A U U.heap
def Nst (U : State) : Prop :=
  va_Nw (.fieldLinkNest RX1 26 "PlainCobol" "POWERS" "[J" RX10) U ∧ va_Nw (.methodLinkNest RX4 15 yX10_placeIndex RX10) U ∧ va_Nw (.methodLinkNest RX6 31 yX10_placeIndex RX10) U ∧
  va_Nw (.methodLinkNest RX10 24 yX2_init RX10) U ∧ va_Nw (.methodLinkNest RX10 31 yX8_init RX10) U ∧ va_Nw (.methodLinkNest RX10 38 yX4_init RX10) U ∧ va_Nw (.methodLinkNest RX10 45 yX5_init RX10) U ∧
  va_Nw (.methodLinkNest RX10 52 yX7_init RX10) U ∧ va_Nw (.methodLinkNest RX10 59 yX6_init RX10) U ∧ va_Nw (.methodLinkNest RX9 11 yX1_init RX10) U ∧ va_Nw (.methodLinkNest RX9 20 yX3_init RX10) U
theorem Nst.same {u U : State} (h : u.vm = U.vm) (q : Nst u) : Nst U := by
  obtain ⟨a1, a2, a3, a4, a5, a6, a7, a8, a9, a10, a11⟩ := q
  exact ⟨a1.same rfl h, a2.same rfl h, a3.same rfl h, a4.same rfl h, a5.same rfl h, a6.same rfl h, a7.same rfl h, a8.same rfl h, a9.same rfl h, a10.same rfl h, a11.same rfl h⟩
theorem Nst.warm {s U : State} (h : s.WarmedH U.vm) (q : Nst s) : Nst U := by
  obtain ⟨a1, a2, a3, a4, a5, a6, a7, a8, a9, a10, a11⟩ := q
  exact ⟨va_Nw.warmF h a1, va_Nw.warmM h a2, va_Nw.warmM h a3, va_Nw.warmM h a4, va_Nw.warmM h a5, va_Nw.warmM h a6, va_Nw.warmM h a7, va_Nw.warmM h a8, va_Nw.warmM h a9, va_Nw.warmM h a10, va_Nw.warmM h a11⟩
/-- what every contract stands on -/
def Std (G : Gx) (ws : va_W) (sz : Nat) (U : State) : Prop :=
  U.heap.size = sz ∧ va_P G.1 vwCl ws U.heap ∧ va_K G.1 vwCl (tyL G) U ∧ va_D (fun _ => True) ws ∧ Pz G (va_A ws sz) U ∧ Pt19 G (va_A ws sz) U ∧ Nst U
theorem Std.blind (G : Gx) (av : List Value) (ws : va_W) (sz : Nat) : FrameBlind (va_Pc av (Std G ws sz)) := by
  intro a U g mk q
  obtain ⟨q0, q1, qP, qK, qD, qZ, qT, qN⟩ := q
  exact ⟨q0, q1, qP, va_K.moved (u := U) (U := U.calling g mk a) (Vm.Alike.refl U.vm) qK, qD, va_Z.moved (u := U) (U := U.calling g mk a) (Vm.Alike.refl U.vm) qZ, va_T.moved (u := U) (U := U.calling g mk a) (Vm.Alike.refl U.vm) qT, Nst.same (u := U) (U := U.calling g mk a) rfl qN⟩
/-- what a body has of its start -/
def Ctx (G : Gx) (A : Nat → Prop) (s : State) : Prop := va_K G.1 vwCl (tyL G) s ∧ (∀ q, s.heap.size ≤ q → A q) ∧ Pz G A s ∧ Pt19 G A s ∧ Nst s
theorem map_P {D : va_G} {cl : List vw_C} {ws wc : va_W} {H : Heap} (hP : va_P D cl ws H) (is : List Nat) (hC : is.map (fun i => ws[i]?) = wc.map some) : va_P D cl wc H := fun k q hk => by
  obtain ⟨i, -, hi⟩ := va_in_of is hC hk
  exact hP i q hi
theorem std_call {G : Gx} {A : Nat → Prop} {s : State} {ws wc : va_W} {H : Heap} {locs : List Loc} (C : Ctx G A s) (hP : va_P G.1 vwCl ws H) (hD : va_D A ws) (hS : va_S A s.heap H locs) (is : List Nat) (hn : va_nd is = true) (hC : is.map (fun i => ws[i]?) = wc.map some) :
    ∀ U : State, U.heap = H → s.WarmedH U.vm → Std G wc H.size U := by
  intro U hU hW
  obtain ⟨hK, hA, hZ, hT, hN⟩ := C
  have hF := va_free (wc := wc) hD hS hA is hC
  have hkeep : ∀ a : Nat, a < s.heap.size → ¬ A a → H[a]? = s.heap[a]? := hS.2.1
  refine ⟨by rw [hU], by rw [hU]; exact map_P hP is hC, va_K.moved hW.alike hK, (hD.sub is hn hC).weaken (fun _ _ _ _ => trivial), ?_, ?_, hN.warm hW⟩
  · have h1 := (va_Z.kept hZ hkeep).narrow hF
    have h2 := va_Z.moved hW.alike h1
    unfold Pz; rw [hU]; exact h2
  · have h1 := (va_T.kept hT hkeep).narrow hF
    have h2 := va_T.moved hW.alike h1
    unfold Pt19; rw [hU]; exact h2
abbrev Ci (l : Launch) (y : MethodName) (wsY : List Cond) (rm : Room) (G : Gx) (av : List Value) (WS : va_W) (sz : Nat) (RV : Int) (W1 : va_W) : Prop := Met l y wsY rm (va_Pc av (Std G WS sz)) (va_Qi (fun r (_ : Unit) => r = iI RV) (fun _ t => va_P G.1 vwCl W1 t.heap ∧ va_D (va_A WS sz) W1) (va_A WS sz)) 0 0 (va_A WS sz)
abbrev Cl (l : Launch) (y : MethodName) (wsY : List Cond) (rm : Room) (G : Gx) (av : List Value) (WS : va_W) (sz : Nat) (RV : Int) (W1 : va_W) : Prop := Met l y wsY rm (va_Pc av (Std G WS sz)) (va_Ql (fun r (_ : Unit) => r = lI RV) (fun _ t => va_P G.1 vwCl W1 t.heap ∧ va_D (va_A WS sz) W1) (va_A WS sz)) 0 0 (va_A WS sz)
abbrev Cd (l : Launch) (y : MethodName) (wsY : List Cond) (rm : Room) (G : Gx) (av : List Value) (WS : va_W) (sz : Nat) (RV : UInt64) (W1 : va_W) : Prop := Met l y wsY rm (va_Pc av (Std G WS sz)) (va_Qd (fun r (_ : Unit) => r = RV) (fun _ t => va_P G.1 vwCl W1 t.heap ∧ va_D (va_A WS sz) W1) (va_A WS sz)) 0 0 (va_A WS sz)
abbrev Cv (l : Launch) (y : MethodName) (wsY : List Cond) (rm : Room) (G : Gx) (av : List Value) (WS : va_W) (sz : Nat) (W1 : va_W) : Prop := Met l y wsY rm (va_Pc av (Std G WS sz)) (va_Qv (fun (_ : Unit) => True) (fun _ t => va_P G.1 vwCl W1 t.heap ∧ va_D (va_A WS sz) W1) (va_A WS sz)) 0 0 (va_A WS sz)
theorem met_i {l : Launch} {y : MethodName} {wsY ws' : List Cond} {rm : Room} {G : Gx} {av : List Value} {WS : va_W} {sz : Nat} {RV : Int} {W1 : va_W} {cc : ByteArray} {maxL : Nat} {ret : Option FieldType} (hy : plainName y.cls = true) (hw : wsY = Cond.code y cc maxL ret :: ws') (hle : (lg_sl av).length ≤ maxL) {rt : FieldType} (hret : ret = some rt) (hnar : narrow rt (.int (iI RV)) = .int (iI RV))
    (hrm : rm.cells = 0 ∧ rm.slots = 0)
    (body : ∀ (p : Program) (e : Env) (s : State) (m : MethodId) (below : List Frame) (meth : Method) (c : Code) (A : Nat → Prop) (Q : State → Prop), CallFix p m c cc maxL s av.toArray wsY y.cls → Ctx G A s → va_P G.1 vwCl WS s.heap → va_D A WS → va_S A s.heap s.heap [] →
      (∀ (pc : Nat) (ls : Array Slot) (H : Heap) (locs : List Loc), decode cc pc = .ok (.ireturn, 1) → va_P G.1 vwCl W1 H → va_D A W1 → va_S A s.heap H locs → W p l e rm s m av.toArray below meth c H locs 0 0 Q (F0 m pc ls [.int (iI RV)])) →
      ∀ ls : Array Slot, lv_has ls maxL (lv_args 0 av) → W p l e rm s m av.toArray below meth c s.heap [] 0 0 Q (F0 m 0 ls [])) : Ci l y wsY rm G av WS sz RV W1 := by
  refine Met.ofW (cc := cc) (maxL := maxL) (ret := ret) hy hw ?_
  intro p e s m args below meth c s₁ B hml hv
  obtain ⟨rfl, hsz, hP, hK, hD0, hZ, hT, hN⟩ := hv
  have hr := B.returns
  have hlocks := B.notSynchronized
  have hts := atoms_spec (ws := wsY) B.pre
  have hown : s.vm.findClass y.cls = some m.cls := findClass_of_methodNamed B.named
  subst hsz
  have hD := hD0.self (sz := s.heap.size)
  generalize hAe : va_A WS s.heap.size = A at hD hZ hT ⊢
  have hA : ∀ q : Nat, s.heap.size ≤ q → A q := fun q h => by rw [← hAe]; exact Or.inr h
  have hl := lv_entry av (n := maxL) hle
  rw [lg_entry_eq]
  generalize (lg_sl av ++ List.replicate (maxL - (lg_sl av).length) Slot.unset).toArray = ls at hl ⊢
  refine body p e s m below meth c A _ ⟨B.exec, B.bytes, hml, hown, hts⟩ ⟨hK, hA, hZ, hT, hN⟩ hP hD va_S.rf (fun pc ls H locs hd hP1 hD1 hS1 => ?_) ls hl
  exact W.zret B.exec B.bytes (hr.trans hret) hnar (fun t ht hW => ⟨⟨_, (), rfl, rfl, by rw [ht]; exact hP1, hD1⟩, hS1.F ht⟩) hS1.2.2 hd
theorem met_l {l : Launch} {y : MethodName} {wsY ws' : List Cond} {rm : Room} {G : Gx} {av : List Value} {WS : va_W} {sz : Nat} {RV : Int} {W1 : va_W} {cc : ByteArray} {maxL : Nat} (hy : plainName y.cls = true) (hw : wsY = Cond.code y cc maxL (some .long) :: ws') (hle : (lg_sl av).length ≤ maxL)
    (hrm : rm.cells = 0 ∧ rm.slots = 0)
    (body : ∀ (p : Program) (e : Env) (s : State) (m : MethodId) (below : List Frame) (meth : Method) (c : Code) (A : Nat → Prop) (Q : State → Prop), CallFix p m c cc maxL s av.toArray wsY y.cls → Ctx G A s → va_P G.1 vwCl WS s.heap → va_D A WS → va_S A s.heap s.heap [] →
      (∀ (pc : Nat) (ls : Array Slot) (H : Heap) (locs : List Loc), decode cc pc = .ok (.lreturn, 1) → va_P G.1 vwCl W1 H → va_D A W1 → va_S A s.heap H locs → W p l e rm s m av.toArray below meth c H locs 0 0 Q (F0 m pc ls [.long (lI RV)])) →
      ∀ ls : Array Slot, lv_has ls maxL (lv_args 0 av) → W p l e rm s m av.toArray below meth c s.heap [] 0 0 Q (F0 m 0 ls [])) : Cl l y wsY rm G av WS sz RV W1 := by
  refine Met.ofW (cc := cc) (maxL := maxL) (ret := (some .long)) hy hw ?_
  intro p e s m args below meth c s₁ B hml hv
  obtain ⟨rfl, hsz, hP, hK, hD0, hZ, hT, hN⟩ := hv
  have hr := B.returns
  have hlocks := B.notSynchronized
  have hts := atoms_spec (ws := wsY) B.pre
  have hown : s.vm.findClass y.cls = some m.cls := findClass_of_methodNamed B.named
  subst hsz
  have hD := hD0.self (sz := s.heap.size)
  generalize hAe : va_A WS s.heap.size = A at hD hZ hT ⊢
  have hA : ∀ q : Nat, s.heap.size ≤ q → A q := fun q h => by rw [← hAe]; exact Or.inr h
  have hl := lv_entry av (n := maxL) hle
  rw [lg_entry_eq]
  generalize (lg_sl av ++ List.replicate (maxL - (lg_sl av).length) Slot.unset).toArray = ls at hl ⊢
  refine body p e s m below meth c A _ ⟨B.exec, B.bytes, hml, hown, hts⟩ ⟨hK, hA, hZ, hT, hN⟩ hP hD va_S.rf (fun pc ls H locs hd hP1 hD1 hS1 => ?_) ls hl
  exact W.lret B.exec B.bytes hr (fun t ht hW => ⟨⟨_, (), rfl, rfl, by rw [ht]; exact hP1, hD1⟩, hS1.F ht⟩) hS1.2.2 hd
theorem met_d {l : Launch} {y : MethodName} {wsY ws' : List Cond} {rm : Room} {G : Gx} {av : List Value} {WS : va_W} {sz : Nat} {RV : UInt64} {W1 : va_W} {cc : ByteArray} {maxL : Nat} (hy : plainName y.cls = true) (hw : wsY = Cond.code y cc maxL (some .double) :: ws') (hle : (lg_sl av).length ≤ maxL)
    (hrm : rm.cells = 0 ∧ rm.slots = 0)
    (body : ∀ (p : Program) (e : Env) (s : State) (m : MethodId) (below : List Frame) (meth : Method) (c : Code) (A : Nat → Prop) (Q : State → Prop), CallFix p m c cc maxL s av.toArray wsY y.cls → Ctx G A s → va_P G.1 vwCl WS s.heap → va_D A WS → va_S A s.heap s.heap [] →
      (∀ (pc : Nat) (ls : Array Slot) (H : Heap) (locs : List Loc), decode cc pc = .ok (.dreturn, 1) → va_P G.1 vwCl W1 H → va_D A W1 → va_S A s.heap H locs → W p l e rm s m av.toArray below meth c H locs 0 0 Q (F0 m pc ls [.double RV])) →
      ∀ ls : Array Slot, lv_has ls maxL (lv_args 0 av) → W p l e rm s m av.toArray below meth c s.heap [] 0 0 Q (F0 m 0 ls [])) : Cd l y wsY rm G av WS sz RV W1 := by
  refine Met.ofW (cc := cc) (maxL := maxL) (ret := (some .double)) hy hw ?_
  intro p e s m args below meth c s₁ B hml hv
  obtain ⟨rfl, hsz, hP, hK, hD0, hZ, hT, hN⟩ := hv
  have hr := B.returns
  have hlocks := B.notSynchronized
  have hts := atoms_spec (ws := wsY) B.pre
  have hown : s.vm.findClass y.cls = some m.cls := findClass_of_methodNamed B.named
  subst hsz
  have hD := hD0.self (sz := s.heap.size)
  generalize hAe : va_A WS s.heap.size = A at hD hZ hT ⊢
  have hA : ∀ q : Nat, s.heap.size ≤ q → A q := fun q h => by rw [← hAe]; exact Or.inr h
  have hl := lv_entry av (n := maxL) hle
  rw [lg_entry_eq]
  generalize (lg_sl av ++ List.replicate (maxL - (lg_sl av).length) Slot.unset).toArray = ls at hl ⊢
  refine body p e s m below meth c A _ ⟨B.exec, B.bytes, hml, hown, hts⟩ ⟨hK, hA, hZ, hT, hN⟩ hP hD va_S.rf (fun pc ls H locs hd hP1 hD1 hS1 => ?_) ls hl
  exact W.dret B.exec B.bytes hr (fun t ht hW => ⟨⟨_, (), rfl, rfl, by rw [ht]; exact hP1, hD1⟩, hS1.F ht⟩) hS1.2.2 hd
theorem met_v {l : Launch} {y : MethodName} {wsY ws' : List Cond} {rm : Room} {G : Gx} {av : List Value} {WS : va_W} {sz : Nat} {W1 : va_W} {cc : ByteArray} {maxL : Nat} (hy : plainName y.cls = true) (hw : wsY = Cond.code y cc maxL none :: ws') (hle : (lg_sl av).length ≤ maxL)
    (hrm : rm.cells = 0 ∧ rm.slots = 0)
    (body : ∀ (p : Program) (e : Env) (s : State) (m : MethodId) (below : List Frame) (meth : Method) (c : Code) (A : Nat → Prop) (Q : State → Prop), CallFix p m c cc maxL s av.toArray wsY y.cls → Ctx G A s → va_P G.1 vwCl WS s.heap → va_D A WS → va_S A s.heap s.heap [] →
      (∀ (pc : Nat) (ls : Array Slot) (H : Heap) (locs : List Loc), decode cc pc = .ok (.return_, 1) → va_P G.1 vwCl W1 H → va_D A W1 → va_S A s.heap H locs → W p l e rm s m av.toArray below meth c H locs 0 0 Q (F0 m pc ls [])) →
      ∀ ls : Array Slot, lv_has ls maxL (lv_args 0 av) → W p l e rm s m av.toArray below meth c s.heap [] 0 0 Q (F0 m 0 ls [])) : Cv l y wsY rm G av WS sz W1 := by
  refine Met.ofW (cc := cc) (maxL := maxL) (ret := none) hy hw ?_
  intro p e s m args below meth c s₁ B hml hv
  obtain ⟨rfl, hsz, hP, hK, hD0, hZ, hT, hN⟩ := hv
  have hr := B.returns
  have hlocks := B.notSynchronized
  have hts := atoms_spec (ws := wsY) B.pre
  have hown : s.vm.findClass y.cls = some m.cls := findClass_of_methodNamed B.named
  subst hsz
  have hD := hD0.self (sz := s.heap.size)
  generalize hAe : va_A WS s.heap.size = A at hD hZ hT ⊢
  have hA : ∀ q : Nat, s.heap.size ≤ q → A q := fun q h => by rw [← hAe]; exact Or.inr h
  have hl := lv_entry av (n := maxL) hle
  rw [lg_entry_eq]
  generalize (lg_sl av ++ List.replicate (maxL - (lg_sl av).length) Slot.unset).toArray = ls at hl ⊢
  refine body p e s m below meth c A _ ⟨B.exec, B.bytes, hml, hown, hts⟩ ⟨hK, hA, hZ, hT, hN⟩ hP hD va_S.rf (fun pc ls H locs hd hP1 hD1 hS1 => ?_) ls hl
  exact W.vret B.exec B.bytes hr (fun t ht hW => ⟨⟨(), rfl, trivial, by rw [ht]; exact hP1, hD1⟩, hS1.F ht⟩) hS1.2.2 hd
section ZC
variable {p : Program} {l : Launch} {e : Env} {R : Room} {s : State} {m : MethodId} {args : Array Value} {below : List Frame} {meth : Method} {c : Code} {H : Heap} {locs : List Loc} {cells slots : Nat} {Q : State → Prop}
variable {cc : ByteArray} {pc nL : Nat} {ls : Array Slot} {rest As st0 : List Value} {G : Gx} {A : Nat → Prop} {ws wc wr w1 wn : va_W} {Ts wsY : List Cond} {own Cn host : String} {y : MethodName} {rmY : Room} {bytes : ByteArray} {maxL index n b ci : Nat} {ret : Option FieldType}
theorem z_cVi {RV : Int} (F : CallFix p m c cc nL s args Ts own) (C : Ctx G A s) (hM : Ci l y wsY rmY G (.ref b :: As) wc H.size RV w1) (cw : CallW R s args own Cn index y bytes maxL ret wsY rmY 0 0 n) (hP : va_P G.1 vwCl ws H) (hD : va_D A ws) (hS : va_S A s.heap H locs) {q0 : Nat} {fs : List Value} {qc : vw_C} (he : ws[q0]? = some (b, .inr (ci, fs))) (hc : vwCl[ci]? = some qc) (hqc : qc.1 = Cn) (isC isR : List Nat) (hC : isC.map (fun i => ws[i]?) = wc.map some) (hR : isR.map (fun i => ws[i]?) = wr.map some) (hdec : va_nd isC = true ∧ va_nd isR = true ∧ ∀ i ∈ isR, i ∉ isC) (hwn : wr ++ w1 = wn)
    (hn : As.length = n) (hsz : ls.size = nL) (hst : st0 = As.reverse ++ .ref b :: rest) (hW : (rest.map fun v => v.category).sum ≤ 8) (d : decode cc pc = .ok (.invokevirtual index, 3)) (hf : cells ≤ R.cells ∧ slots ≤ R.slots)
    (kk : ∀ (H1 : Heap) (locs1 : List Loc), va_P G.1 vwCl wn H1 → va_D A wn → va_S A s.heap H1 locs1 → W p l e R s m args below meth c H1 locs1 cells slots Q (F0 m (pc + 3) ls (.int (iI RV) :: rest))) : W p l e R s m args below meth c H locs cells slots Q (F0 m pc ls st0) := by
  subst hst
  have hFc := va_free (wc := wc) hD hS C.2.1 isC hC
  refine va_calli (va_runV (As := As) (rest := rest) F hM cw ⟨Std.blind _ _ _ _, (by have h := va_recv C.1 hP hc he; rw [hqc] at h; exact h), fun U hU hW => ⟨rfl, std_call C hP hD hS isC hdec.1 hC U hU hW⟩⟩ rfl hn hsz rfl (lv_room hW) d hf) hS (fun q _ h => hFc q h) hFc (fun r u t H1 locs1 ht hvm hw hB hz1 hk1 hS1 => ?_)
  subst hw
  obtain ⟨hP1, hD1⟩ := hB
  rw [ht] at hP1
  obtain ⟨hP2, hD2⟩ := va_join (wr := wr) (w1 := w1) hP hD isC isR hC hR hdec.2.1 hdec.2.2 hk1 hFc hP1 hD1
  rw [hwn] at hP2 hD2
  exact kk H1 locs1 hP2 hD2 hS1
theorem z_cVl {RV : Int} (F : CallFix p m c cc nL s args Ts own) (C : Ctx G A s) (hM : Cl l y wsY rmY G (.ref b :: As) wc H.size RV w1) (cw : CallW R s args own Cn index y bytes maxL ret wsY rmY 0 0 n) (hP : va_P G.1 vwCl ws H) (hD : va_D A ws) (hS : va_S A s.heap H locs) {q0 : Nat} {fs : List Value} {qc : vw_C} (he : ws[q0]? = some (b, .inr (ci, fs))) (hc : vwCl[ci]? = some qc) (hqc : qc.1 = Cn) (isC isR : List Nat) (hC : isC.map (fun i => ws[i]?) = wc.map some) (hR : isR.map (fun i => ws[i]?) = wr.map some) (hdec : va_nd isC = true ∧ va_nd isR = true ∧ ∀ i ∈ isR, i ∉ isC) (hwn : wr ++ w1 = wn)
    (hn : As.length = n) (hsz : ls.size = nL) (hst : st0 = As.reverse ++ .ref b :: rest) (hW : (rest.map fun v => v.category).sum ≤ 8) (d : decode cc pc = .ok (.invokevirtual index, 3)) (hf : cells ≤ R.cells ∧ slots ≤ R.slots)
    (kk : ∀ (H1 : Heap) (locs1 : List Loc), va_P G.1 vwCl wn H1 → va_D A wn → va_S A s.heap H1 locs1 → W p l e R s m args below meth c H1 locs1 cells slots Q (F0 m (pc + 3) ls (.long (lI RV) :: rest))) : W p l e R s m args below meth c H locs cells slots Q (F0 m pc ls st0) := by
  subst hst
  have hFc := va_free (wc := wc) hD hS C.2.1 isC hC
  refine va_calll (va_runV (As := As) (rest := rest) F hM cw ⟨Std.blind _ _ _ _, (by have h := va_recv C.1 hP hc he; rw [hqc] at h; exact h), fun U hU hW => ⟨rfl, std_call C hP hD hS isC hdec.1 hC U hU hW⟩⟩ rfl hn hsz rfl (lv_room hW) d hf) hS (fun q _ h => hFc q h) hFc (fun r u t H1 locs1 ht hvm hw hB hz1 hk1 hS1 => ?_)
  subst hw
  obtain ⟨hP1, hD1⟩ := hB
  rw [ht] at hP1
  obtain ⟨hP2, hD2⟩ := va_join (wr := wr) (w1 := w1) hP hD isC isR hC hR hdec.2.1 hdec.2.2 hk1 hFc hP1 hD1
  rw [hwn] at hP2 hD2
  exact kk H1 locs1 hP2 hD2 hS1
theorem z_cVd {RV : UInt64} (F : CallFix p m c cc nL s args Ts own) (C : Ctx G A s) (hM : Cd l y wsY rmY G (.ref b :: As) wc H.size RV w1) (cw : CallW R s args own Cn index y bytes maxL ret wsY rmY 0 0 n) (hP : va_P G.1 vwCl ws H) (hD : va_D A ws) (hS : va_S A s.heap H locs) {q0 : Nat} {fs : List Value} {qc : vw_C} (he : ws[q0]? = some (b, .inr (ci, fs))) (hc : vwCl[ci]? = some qc) (hqc : qc.1 = Cn) (isC isR : List Nat) (hC : isC.map (fun i => ws[i]?) = wc.map some) (hR : isR.map (fun i => ws[i]?) = wr.map some) (hdec : va_nd isC = true ∧ va_nd isR = true ∧ ∀ i ∈ isR, i ∉ isC) (hwn : wr ++ w1 = wn)
    (hn : As.length = n) (hsz : ls.size = nL) (hst : st0 = As.reverse ++ .ref b :: rest) (hW : (rest.map fun v => v.category).sum ≤ 8) (d : decode cc pc = .ok (.invokevirtual index, 3)) (hf : cells ≤ R.cells ∧ slots ≤ R.slots)
    (kk : ∀ (H1 : Heap) (locs1 : List Loc), va_P G.1 vwCl wn H1 → va_D A wn → va_S A s.heap H1 locs1 → W p l e R s m args below meth c H1 locs1 cells slots Q (F0 m (pc + 3) ls (.double RV :: rest))) : W p l e R s m args below meth c H locs cells slots Q (F0 m pc ls st0) := by
  subst hst
  have hFc := va_free (wc := wc) hD hS C.2.1 isC hC
  refine va_calld (va_runV (As := As) (rest := rest) F hM cw ⟨Std.blind _ _ _ _, (by have h := va_recv C.1 hP hc he; rw [hqc] at h; exact h), fun U hU hW => ⟨rfl, std_call C hP hD hS isC hdec.1 hC U hU hW⟩⟩ rfl hn hsz rfl (lv_room hW) d hf) hS (fun q _ h => hFc q h) hFc (fun r u t H1 locs1 ht hvm hw hB hz1 hk1 hS1 => ?_)
  subst hw
  obtain ⟨hP1, hD1⟩ := hB
  rw [ht] at hP1
  obtain ⟨hP2, hD2⟩ := va_join (wr := wr) (w1 := w1) hP hD isC isR hC hR hdec.2.1 hdec.2.2 hk1 hFc hP1 hD1
  rw [hwn] at hP2 hD2
  exact kk H1 locs1 hP2 hD2 hS1
theorem z_cVv (F : CallFix p m c cc nL s args Ts own) (C : Ctx G A s) (hM : Cv l y wsY rmY G (.ref b :: As) wc H.size w1) (cw : CallW R s args own Cn index y bytes maxL ret wsY rmY 0 0 n) (hP : va_P G.1 vwCl ws H) (hD : va_D A ws) (hS : va_S A s.heap H locs) {q0 : Nat} {fs : List Value} {qc : vw_C} (he : ws[q0]? = some (b, .inr (ci, fs))) (hc : vwCl[ci]? = some qc) (hqc : qc.1 = Cn) (isC isR : List Nat) (hC : isC.map (fun i => ws[i]?) = wc.map some) (hR : isR.map (fun i => ws[i]?) = wr.map some) (hdec : va_nd isC = true ∧ va_nd isR = true ∧ ∀ i ∈ isR, i ∉ isC) (hwn : wr ++ w1 = wn)
    (hn : As.length = n) (hsz : ls.size = nL) (hst : st0 = As.reverse ++ .ref b :: rest) (hW : (rest.map fun v => v.category).sum ≤ 8) (d : decode cc pc = .ok (.invokevirtual index, 3)) (hf : cells ≤ R.cells ∧ slots ≤ R.slots)
    (kk : ∀ (H1 : Heap) (locs1 : List Loc), va_P G.1 vwCl wn H1 → va_D A wn → va_S A s.heap H1 locs1 → W p l e R s m args below meth c H1 locs1 cells slots Q (F0 m (pc + 3) ls (rest))) : W p l e R s m args below meth c H locs cells slots Q (F0 m pc ls st0) := by
  subst hst
  have hFc := va_free (wc := wc) hD hS C.2.1 isC hC
  refine va_callv (va_runV (As := As) (rest := rest) F hM cw ⟨Std.blind _ _ _ _, (by have h := va_recv C.1 hP hc he; rw [hqc] at h; exact h), fun U hU hW => ⟨rfl, std_call C hP hD hS isC hdec.1 hC U hU hW⟩⟩ rfl hn hsz rfl (lv_room hW) d hf) hS (fun q _ h => hFc q h) hFc (fun u t H1 locs1 ht hvm hw hB hz1 hk1 hS1 => ?_)
  skip
  obtain ⟨hP1, hD1⟩ := hB
  rw [ht] at hP1
  obtain ⟨hP2, hD2⟩ := va_join (wr := wr) (w1 := w1) hP hD isC isR hC hR hdec.2.1 hdec.2.2 hk1 hFc hP1 hD1
  rw [hwn] at hP2 hD2
  exact kk H1 locs1 hP2 hD2 hS1
theorem z_cSi {RV : Int} (F : CallFix p m c cc nL s args Ts own) (C : Ctx G A s) (hM : Ci l y wsY rmY G As wc H.size RV w1) (cw : CallB R s args own index y bytes maxL ret wsY rmY 0 0 n ∧ (Cond.static y).before args s = true) (hP : va_P G.1 vwCl ws H) (hD : va_D A ws) (hS : va_S A s.heap H locs) (isC isR : List Nat) (hC : isC.map (fun i => ws[i]?) = wc.map some) (hR : isR.map (fun i => ws[i]?) = wr.map some) (hdec : va_nd isC = true ∧ va_nd isR = true ∧ ∀ i ∈ isR, i ∉ isC) (hwn : wr ++ w1 = wn)
    (hn : As.length = n) (hsz : ls.size = nL) (hst : st0 = As.reverse ++ rest) (hW : (rest.map fun v => v.category).sum ≤ 8) (d : decode cc pc = .ok (.invokestatic index, 3)) (hf : cells ≤ R.cells ∧ slots ≤ R.slots)
    (kk : ∀ (H1 : Heap) (locs1 : List Loc), va_P G.1 vwCl wn H1 → va_D A wn → va_S A s.heap H1 locs1 → W p l e R s m args below meth c H1 locs1 cells slots Q (F0 m (pc + 3) ls (.int (iI RV) :: rest))) : W p l e R s m args below meth c H locs cells slots Q (F0 m pc ls st0) := by
  subst hst
  have hFc := va_free (wc := wc) hD hS C.2.1 isC hC
  refine va_calli (va_runS (As := As) (rest := rest) F hM cw ⟨Std.blind _ _ _ _, fun U hU hW => ⟨rfl, std_call C hP hD hS isC hdec.1 hC U hU hW⟩⟩ rfl hn hsz rfl (lv_room hW) d hf) hS (fun q _ h => hFc q h) hFc (fun r u t H1 locs1 ht hvm hw hB hz1 hk1 hS1 => ?_)
  subst hw
  obtain ⟨hP1, hD1⟩ := hB
  rw [ht] at hP1
  obtain ⟨hP2, hD2⟩ := va_join (wr := wr) (w1 := w1) hP hD isC isR hC hR hdec.2.1 hdec.2.2 hk1 hFc hP1 hD1
  rw [hwn] at hP2 hD2
  exact kk H1 locs1 hP2 hD2 hS1
theorem z_cSl {RV : Int} (F : CallFix p m c cc nL s args Ts own) (C : Ctx G A s) (hM : Cl l y wsY rmY G As wc H.size RV w1) (cw : CallB R s args own index y bytes maxL ret wsY rmY 0 0 n ∧ (Cond.static y).before args s = true) (hP : va_P G.1 vwCl ws H) (hD : va_D A ws) (hS : va_S A s.heap H locs) (isC isR : List Nat) (hC : isC.map (fun i => ws[i]?) = wc.map some) (hR : isR.map (fun i => ws[i]?) = wr.map some) (hdec : va_nd isC = true ∧ va_nd isR = true ∧ ∀ i ∈ isR, i ∉ isC) (hwn : wr ++ w1 = wn)
    (hn : As.length = n) (hsz : ls.size = nL) (hst : st0 = As.reverse ++ rest) (hW : (rest.map fun v => v.category).sum ≤ 8) (d : decode cc pc = .ok (.invokestatic index, 3)) (hf : cells ≤ R.cells ∧ slots ≤ R.slots)
    (kk : ∀ (H1 : Heap) (locs1 : List Loc), va_P G.1 vwCl wn H1 → va_D A wn → va_S A s.heap H1 locs1 → W p l e R s m args below meth c H1 locs1 cells slots Q (F0 m (pc + 3) ls (.long (lI RV) :: rest))) : W p l e R s m args below meth c H locs cells slots Q (F0 m pc ls st0) := by
  subst hst
  have hFc := va_free (wc := wc) hD hS C.2.1 isC hC
  refine va_calll (va_runS (As := As) (rest := rest) F hM cw ⟨Std.blind _ _ _ _, fun U hU hW => ⟨rfl, std_call C hP hD hS isC hdec.1 hC U hU hW⟩⟩ rfl hn hsz rfl (lv_room hW) d hf) hS (fun q _ h => hFc q h) hFc (fun r u t H1 locs1 ht hvm hw hB hz1 hk1 hS1 => ?_)
  subst hw
  obtain ⟨hP1, hD1⟩ := hB
  rw [ht] at hP1
  obtain ⟨hP2, hD2⟩ := va_join (wr := wr) (w1 := w1) hP hD isC isR hC hR hdec.2.1 hdec.2.2 hk1 hFc hP1 hD1
  rw [hwn] at hP2 hD2
  exact kk H1 locs1 hP2 hD2 hS1
theorem z_cSd {RV : UInt64} (F : CallFix p m c cc nL s args Ts own) (C : Ctx G A s) (hM : Cd l y wsY rmY G As wc H.size RV w1) (cw : CallB R s args own index y bytes maxL ret wsY rmY 0 0 n ∧ (Cond.static y).before args s = true) (hP : va_P G.1 vwCl ws H) (hD : va_D A ws) (hS : va_S A s.heap H locs) (isC isR : List Nat) (hC : isC.map (fun i => ws[i]?) = wc.map some) (hR : isR.map (fun i => ws[i]?) = wr.map some) (hdec : va_nd isC = true ∧ va_nd isR = true ∧ ∀ i ∈ isR, i ∉ isC) (hwn : wr ++ w1 = wn)
    (hn : As.length = n) (hsz : ls.size = nL) (hst : st0 = As.reverse ++ rest) (hW : (rest.map fun v => v.category).sum ≤ 8) (d : decode cc pc = .ok (.invokestatic index, 3)) (hf : cells ≤ R.cells ∧ slots ≤ R.slots)
    (kk : ∀ (H1 : Heap) (locs1 : List Loc), va_P G.1 vwCl wn H1 → va_D A wn → va_S A s.heap H1 locs1 → W p l e R s m args below meth c H1 locs1 cells slots Q (F0 m (pc + 3) ls (.double RV :: rest))) : W p l e R s m args below meth c H locs cells slots Q (F0 m pc ls st0) := by
  subst hst
  have hFc := va_free (wc := wc) hD hS C.2.1 isC hC
  refine va_calld (va_runS (As := As) (rest := rest) F hM cw ⟨Std.blind _ _ _ _, fun U hU hW => ⟨rfl, std_call C hP hD hS isC hdec.1 hC U hU hW⟩⟩ rfl hn hsz rfl (lv_room hW) d hf) hS (fun q _ h => hFc q h) hFc (fun r u t H1 locs1 ht hvm hw hB hz1 hk1 hS1 => ?_)
  subst hw
  obtain ⟨hP1, hD1⟩ := hB
  rw [ht] at hP1
  obtain ⟨hP2, hD2⟩ := va_join (wr := wr) (w1 := w1) hP hD isC isR hC hR hdec.2.1 hdec.2.2 hk1 hFc hP1 hD1
  rw [hwn] at hP2 hD2
  exact kk H1 locs1 hP2 hD2 hS1
theorem z_cSv (F : CallFix p m c cc nL s args Ts own) (C : Ctx G A s) (hM : Cv l y wsY rmY G As wc H.size w1) (cw : CallB R s args own index y bytes maxL ret wsY rmY 0 0 n ∧ (Cond.static y).before args s = true) (hP : va_P G.1 vwCl ws H) (hD : va_D A ws) (hS : va_S A s.heap H locs) (isC isR : List Nat) (hC : isC.map (fun i => ws[i]?) = wc.map some) (hR : isR.map (fun i => ws[i]?) = wr.map some) (hdec : va_nd isC = true ∧ va_nd isR = true ∧ ∀ i ∈ isR, i ∉ isC) (hwn : wr ++ w1 = wn)
    (hn : As.length = n) (hsz : ls.size = nL) (hst : st0 = As.reverse ++ rest) (hW : (rest.map fun v => v.category).sum ≤ 8) (d : decode cc pc = .ok (.invokestatic index, 3)) (hf : cells ≤ R.cells ∧ slots ≤ R.slots)
    (kk : ∀ (H1 : Heap) (locs1 : List Loc), va_P G.1 vwCl wn H1 → va_D A wn → va_S A s.heap H1 locs1 → W p l e R s m args below meth c H1 locs1 cells slots Q (F0 m (pc + 3) ls (rest))) : W p l e R s m args below meth c H locs cells slots Q (F0 m pc ls st0) := by
  subst hst
  have hFc := va_free (wc := wc) hD hS C.2.1 isC hC
  refine va_callv (va_runS (As := As) (rest := rest) F hM cw ⟨Std.blind _ _ _ _, fun U hU hW => ⟨rfl, std_call C hP hD hS isC hdec.1 hC U hU hW⟩⟩ rfl hn hsz rfl (lv_room hW) d hf) hS (fun q _ h => hFc q h) hFc (fun u t H1 locs1 ht hvm hw hB hz1 hk1 hS1 => ?_)
  skip
  obtain ⟨hP1, hD1⟩ := hB
  rw [ht] at hP1
  obtain ⟨hP2, hD2⟩ := va_join (wr := wr) (w1 := w1) hP hD isC isR hC hR hdec.2.1 hdec.2.2 hk1 hFc hP1 hD1
  rw [hwn] at hP2 hD2
  exact kk H1 locs1 hP2 hD2 hS1
theorem z_cSNi {RV : Int} (F : CallFix p m c cc nL s args Ts own) (C : Ctx G A s) (hM : Ci l y wsY rmY G As wc H.size RV w1) (cw : va_CN R s args own index y host bytes maxL ret wsY rmY 0 0 n ∧ (Cond.static y).before args s = true) (hP : va_P G.1 vwCl ws H) (hD : va_D A ws) (hS : va_S A s.heap H locs) (isC isR : List Nat) (hC : isC.map (fun i => ws[i]?) = wc.map some) (hR : isR.map (fun i => ws[i]?) = wr.map some) (hdec : va_nd isC = true ∧ va_nd isR = true ∧ ∀ i ∈ isR, i ∉ isC) (hwn : wr ++ w1 = wn)
    (hn : As.length = n) (hsz : ls.size = nL) (hst : st0 = As.reverse ++ rest) (hW : (rest.map fun v => v.category).sum ≤ 8) (d : decode cc pc = .ok (.invokestatic index, 3)) (hf : cells ≤ R.cells ∧ slots ≤ R.slots)
    (kk : ∀ (H1 : Heap) (locs1 : List Loc), va_P G.1 vwCl wn H1 → va_D A wn → va_S A s.heap H1 locs1 → W p l e R s m args below meth c H1 locs1 cells slots Q (F0 m (pc + 3) ls (.int (iI RV) :: rest))) : W p l e R s m args below meth c H locs cells slots Q (F0 m pc ls st0) := by
  subst hst
  have hFc := va_free (wc := wc) hD hS C.2.1 isC hC
  refine va_calli (va_runSN (As := As) (rest := rest) F hM ⟨cw.1, cw.2, trivial⟩ ⟨Std.blind _ _ _ _, fun U hU hW => ⟨rfl, std_call C hP hD hS isC hdec.1 hC U hU hW⟩⟩ rfl hn hsz rfl (lv_room hW) d hf) hS (fun q _ h => hFc q h) hFc (fun r u t H1 locs1 ht hvm hw hB hz1 hk1 hS1 => ?_)
  subst hw
  obtain ⟨hP1, hD1⟩ := hB
  rw [ht] at hP1
  obtain ⟨hP2, hD2⟩ := va_join (wr := wr) (w1 := w1) hP hD isC isR hC hR hdec.2.1 hdec.2.2 hk1 hFc hP1 hD1
  rw [hwn] at hP2 hD2
  exact kk H1 locs1 hP2 hD2 hS1
theorem z_cSNl {RV : Int} (F : CallFix p m c cc nL s args Ts own) (C : Ctx G A s) (hM : Cl l y wsY rmY G As wc H.size RV w1) (cw : va_CN R s args own index y host bytes maxL ret wsY rmY 0 0 n ∧ (Cond.static y).before args s = true) (hP : va_P G.1 vwCl ws H) (hD : va_D A ws) (hS : va_S A s.heap H locs) (isC isR : List Nat) (hC : isC.map (fun i => ws[i]?) = wc.map some) (hR : isR.map (fun i => ws[i]?) = wr.map some) (hdec : va_nd isC = true ∧ va_nd isR = true ∧ ∀ i ∈ isR, i ∉ isC) (hwn : wr ++ w1 = wn)
    (hn : As.length = n) (hsz : ls.size = nL) (hst : st0 = As.reverse ++ rest) (hW : (rest.map fun v => v.category).sum ≤ 8) (d : decode cc pc = .ok (.invokestatic index, 3)) (hf : cells ≤ R.cells ∧ slots ≤ R.slots)
    (kk : ∀ (H1 : Heap) (locs1 : List Loc), va_P G.1 vwCl wn H1 → va_D A wn → va_S A s.heap H1 locs1 → W p l e R s m args below meth c H1 locs1 cells slots Q (F0 m (pc + 3) ls (.long (lI RV) :: rest))) : W p l e R s m args below meth c H locs cells slots Q (F0 m pc ls st0) := by
  subst hst
  have hFc := va_free (wc := wc) hD hS C.2.1 isC hC
  refine va_calll (va_runSN (As := As) (rest := rest) F hM ⟨cw.1, cw.2, trivial⟩ ⟨Std.blind _ _ _ _, fun U hU hW => ⟨rfl, std_call C hP hD hS isC hdec.1 hC U hU hW⟩⟩ rfl hn hsz rfl (lv_room hW) d hf) hS (fun q _ h => hFc q h) hFc (fun r u t H1 locs1 ht hvm hw hB hz1 hk1 hS1 => ?_)
  subst hw
  obtain ⟨hP1, hD1⟩ := hB
  rw [ht] at hP1
  obtain ⟨hP2, hD2⟩ := va_join (wr := wr) (w1 := w1) hP hD isC isR hC hR hdec.2.1 hdec.2.2 hk1 hFc hP1 hD1
  rw [hwn] at hP2 hD2
  exact kk H1 locs1 hP2 hD2 hS1
theorem z_cSNd {RV : UInt64} (F : CallFix p m c cc nL s args Ts own) (C : Ctx G A s) (hM : Cd l y wsY rmY G As wc H.size RV w1) (cw : va_CN R s args own index y host bytes maxL ret wsY rmY 0 0 n ∧ (Cond.static y).before args s = true) (hP : va_P G.1 vwCl ws H) (hD : va_D A ws) (hS : va_S A s.heap H locs) (isC isR : List Nat) (hC : isC.map (fun i => ws[i]?) = wc.map some) (hR : isR.map (fun i => ws[i]?) = wr.map some) (hdec : va_nd isC = true ∧ va_nd isR = true ∧ ∀ i ∈ isR, i ∉ isC) (hwn : wr ++ w1 = wn)
    (hn : As.length = n) (hsz : ls.size = nL) (hst : st0 = As.reverse ++ rest) (hW : (rest.map fun v => v.category).sum ≤ 8) (d : decode cc pc = .ok (.invokestatic index, 3)) (hf : cells ≤ R.cells ∧ slots ≤ R.slots)
    (kk : ∀ (H1 : Heap) (locs1 : List Loc), va_P G.1 vwCl wn H1 → va_D A wn → va_S A s.heap H1 locs1 → W p l e R s m args below meth c H1 locs1 cells slots Q (F0 m (pc + 3) ls (.double RV :: rest))) : W p l e R s m args below meth c H locs cells slots Q (F0 m pc ls st0) := by
  subst hst
  have hFc := va_free (wc := wc) hD hS C.2.1 isC hC
  refine va_calld (va_runSN (As := As) (rest := rest) F hM ⟨cw.1, cw.2, trivial⟩ ⟨Std.blind _ _ _ _, fun U hU hW => ⟨rfl, std_call C hP hD hS isC hdec.1 hC U hU hW⟩⟩ rfl hn hsz rfl (lv_room hW) d hf) hS (fun q _ h => hFc q h) hFc (fun r u t H1 locs1 ht hvm hw hB hz1 hk1 hS1 => ?_)
  subst hw
  obtain ⟨hP1, hD1⟩ := hB
  rw [ht] at hP1
  obtain ⟨hP2, hD2⟩ := va_join (wr := wr) (w1 := w1) hP hD isC isR hC hR hdec.2.1 hdec.2.2 hk1 hFc hP1 hD1
  rw [hwn] at hP2 hD2
  exact kk H1 locs1 hP2 hD2 hS1
theorem z_cSNv (F : CallFix p m c cc nL s args Ts own) (C : Ctx G A s) (hM : Cv l y wsY rmY G As wc H.size w1) (cw : va_CN R s args own index y host bytes maxL ret wsY rmY 0 0 n ∧ (Cond.static y).before args s = true) (hP : va_P G.1 vwCl ws H) (hD : va_D A ws) (hS : va_S A s.heap H locs) (isC isR : List Nat) (hC : isC.map (fun i => ws[i]?) = wc.map some) (hR : isR.map (fun i => ws[i]?) = wr.map some) (hdec : va_nd isC = true ∧ va_nd isR = true ∧ ∀ i ∈ isR, i ∉ isC) (hwn : wr ++ w1 = wn)
    (hn : As.length = n) (hsz : ls.size = nL) (hst : st0 = As.reverse ++ rest) (hW : (rest.map fun v => v.category).sum ≤ 8) (d : decode cc pc = .ok (.invokestatic index, 3)) (hf : cells ≤ R.cells ∧ slots ≤ R.slots)
    (kk : ∀ (H1 : Heap) (locs1 : List Loc), va_P G.1 vwCl wn H1 → va_D A wn → va_S A s.heap H1 locs1 → W p l e R s m args below meth c H1 locs1 cells slots Q (F0 m (pc + 3) ls (rest))) : W p l e R s m args below meth c H locs cells slots Q (F0 m pc ls st0) := by
  subst hst
  have hFc := va_free (wc := wc) hD hS C.2.1 isC hC
  refine va_callv (va_runSN (As := As) (rest := rest) F hM ⟨cw.1, cw.2, trivial⟩ ⟨Std.blind _ _ _ _, fun U hU hW => ⟨rfl, std_call C hP hD hS isC hdec.1 hC U hU hW⟩⟩ rfl hn hsz rfl (lv_room hW) d hf) hS (fun q _ h => hFc q h) hFc (fun u t H1 locs1 ht hvm hw hB hz1 hk1 hS1 => ?_)
  skip
  obtain ⟨hP1, hD1⟩ := hB
  rw [ht] at hP1
  obtain ⟨hP2, hD2⟩ := va_join (wr := wr) (w1 := w1) hP hD isC isR hC hR hdec.2.1 hdec.2.2 hk1 hFc hP1 hD1
  rw [hwn] at hP2 hD2
  exact kk H1 locs1 hP2 hD2 hS1
end ZC
