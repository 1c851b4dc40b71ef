abbrev CiS {T : Type} (l : Launch) (y : MethodName) (wsY : List Cond) (rm : Room) (G : Gx) (av : List Value) (WS : va_W) (sz : Nat) (RV : Int) (W1 : T → va_W) : Prop := Met l y wsY rm (va_Pc av (Std G WS sz)) (va_Qi (fun r (_ : T) => r = iI RV) (fun u t => va_P G.1 vwCl (W1 u) t.heap ∧ va_D (va_A WS sz) (W1 u)) (va_A WS sz)) 0 0 (va_A WS sz)
abbrev CvS {T : Type} (l : Launch) (y : MethodName) (wsY : List Cond) (rm : Room) (G : Gx) (av : List Value) (WS : va_W) (sz : Nat) (W1 : T → va_W) : Prop := Met l y wsY rm (va_Pc av (Std G WS sz)) (va_Qv (fun (_ : T) => True) (fun u t => va_P G.1 vwCl (W1 u) t.heap ∧ va_D (va_A WS sz) (W1 u)) (va_A WS sz)) 0 0 (va_A WS sz)
theorem met_iS {T : Type} {l : Launch} {y : MethodName} {wsY ws' : List Cond} {rm : Room} {G : Gx} {av : List Value} {WS : va_W} {sz : Nat} {RV : Int} {W1 : T → va_W} {cc : ByteArray} {maxL : Nat} {ret : Option FieldType} (hy : plainName y.cls = true) (hw : wsY = Cond.code y cc maxL ret :: ws') (hle : (lg_sl av).length ≤ maxL) {rt : FieldType} (hret : ret = some rt) (hnar : narrow rt (.int (iI RV)) = .int (iI RV))
    (hrm : rm.cells = 0 ∧ rm.slots = 0)
    (body : ∀ (p : Program) (e : Env) (s : State) (m : MethodId) (below : List Frame) (meth : Method) (c : Code) (A : Nat → Prop) (Q : State → Prop), CallFix p m c cc maxL s av.toArray wsY y.cls → Ctx G A s → va_P G.1 vwCl WS s.heap → va_D A WS → va_S A s.heap s.heap [] →
      (∀ (u : T) (pc : Nat) (ls : Array Slot) (H : Heap) (locs : List Loc), decode cc pc = .ok (.ireturn, 1) → va_P G.1 vwCl (W1 u) H → va_D A (W1 u) → va_S A s.heap H locs → W p l e rm s m av.toArray below meth c H locs 0 0 Q (F0 m pc ls [.int (iI RV)])) →
      ∀ ls : Array Slot, lv_has ls maxL (lv_args 0 av) → W p l e rm s m av.toArray below meth c s.heap [] 0 0 Q (F0 m 0 ls [])) : CiS l y wsY rm G av WS sz RV W1 := by
  refine Met.ofW (cc := cc) (maxL := maxL) (ret := ret) hy hw ?_
  intro p e s m args below meth c s₁ B hml hv
  obtain ⟨rfl, hsz, hP, hK, hD0, hZ, hT, hN⟩ := hv
  have hr := B.returns
  have hlocks := B.notSynchronized
  have hts := atoms_spec (ws := wsY) B.pre
  have hown : s.vm.findClass y.cls = some m.cls := findClass_of_methodNamed B.named
  subst hsz
  have hD := hD0.self (sz := s.heap.size)
  generalize hAe : va_A WS s.heap.size = A at hD hZ hT ⊢
  have hA : ∀ q : Nat, s.heap.size ≤ q → A q := fun q h => by rw [← hAe]; exact Or.inr h
  have hl := lv_entry av (n := maxL) hle
  rw [lg_entry_eq]
  generalize (lg_sl av ++ List.replicate (maxL - (lg_sl av).length) Slot.unset).toArray = ls at hl ⊢
  refine body p e s m below meth c A _ ⟨B.exec, B.bytes, hml, hown, hts⟩ ⟨hK, hA, hZ, hT, hN⟩ hP hD va_S.rf (fun u pc ls H locs hd hP1 hD1 hS1 => ?_) ls hl
  exact W.zret B.exec B.bytes (hr.trans hret) hnar (fun t ht hW => ⟨⟨_, u, rfl, rfl, by rw [ht]; exact hP1, hD1⟩, hS1.F ht⟩) hS1.2.2 hd
theorem met_vS {T : Type} {l : Launch} {y : MethodName} {wsY ws' : List Cond} {rm : Room} {G : Gx} {av : List Value} {WS : va_W} {sz : Nat} {W1 : T → va_W} {cc : ByteArray} {maxL : Nat} (hy : plainName y.cls = true) (hw : wsY = Cond.code y cc maxL none :: ws') (hle : (lg_sl av).length ≤ maxL)
    (hrm : rm.cells = 0 ∧ rm.slots = 0)
    (body : ∀ (p : Program) (e : Env) (s : State) (m : MethodId) (below : List Frame) (meth : Method) (c : Code) (A : Nat → Prop) (Q : State → Prop), CallFix p m c cc maxL s av.toArray wsY y.cls → Ctx G A s → va_P G.1 vwCl WS s.heap → va_D A WS → va_S A s.heap s.heap [] →
      (∀ (u : T) (pc : Nat) (ls : Array Slot) (H : Heap) (locs : List Loc), decode cc pc = .ok (.return_, 1) → va_P G.1 vwCl (W1 u) H → va_D A (W1 u) → va_S A s.heap H locs → W p l e rm s m av.toArray below meth c H locs 0 0 Q (F0 m pc ls [])) →
      ∀ ls : Array Slot, lv_has ls maxL (lv_args 0 av) → W p l e rm s m av.toArray below meth c s.heap [] 0 0 Q (F0 m 0 ls [])) : CvS l y wsY rm G av WS sz W1 := by
  refine Met.ofW (cc := cc) (maxL := maxL) (ret := none) hy hw ?_
  intro p e s m args below meth c s₁ B hml hv
  obtain ⟨rfl, hsz, hP, hK, hD0, hZ, hT, hN⟩ := hv
  have hr := B.returns
  have hlocks := B.notSynchronized
  have hts := atoms_spec (ws := wsY) B.pre
  have hown : s.vm.findClass y.cls = some m.cls := findClass_of_methodNamed B.named
  subst hsz
  have hD := hD0.self (sz := s.heap.size)
  generalize hAe : va_A WS s.heap.size = A at hD hZ hT ⊢
  have hA : ∀ q : Nat, s.heap.size ≤ q → A q := fun q h => by rw [← hAe]; exact Or.inr h
  have hl := lv_entry av (n := maxL) hle
  rw [lg_entry_eq]
  generalize (lg_sl av ++ List.replicate (maxL - (lg_sl av).length) Slot.unset).toArray = ls at hl ⊢
  refine body p e s m below meth c A _ ⟨B.exec, B.bytes, hml, hown, hts⟩ ⟨hK, hA, hZ, hT, hN⟩ hP hD va_S.rf (fun u pc ls H locs hd hP1 hD1 hS1 => ?_) ls hl
  exact W.vret B.exec B.bytes hr (fun t ht hW => ⟨⟨u, rfl, trivial, by rw [ht]; exact hP1, hD1⟩, hS1.F ht⟩) hS1.2.2 hd
section ZC2
variable {p : Program} {l : Launch} {e : Env} {R : Room} {s : State} {m : MethodId} {args : Array Value} {below : List Frame} {meth : Method} {c : Code} {H : Heap} {locs : List Loc} {cells slots : Nat} {Q : State → Prop}
variable {cc : ByteArray} {pc nL : Nat} {ls : Array Slot} {rest As st0 : List Value} {G : Gx} {A : Nat → Prop} {ws wc wr : va_W} {Ts wsY : List Cond} {own Cn host : String} {y : MethodName} {rmY : Room} {bytes : ByteArray} {maxL index n b ci : Nat} {ret : Option FieldType}
theorem z_cViS {T : Type} {w1 : T → va_W} {RV : Int} (F : CallFix p m c cc nL s args Ts own) (C : Ctx G A s) (hM : CiS l y wsY rmY G (.ref b :: As) wc H.size RV w1) (cw : CallW R s args own Cn index y bytes maxL ret wsY rmY 0 0 n) (hP : va_P G.1 vwCl ws H) (hD : va_D A ws) (hS : va_S A s.heap H locs) {q0 : Nat} {fs : List Value} {qc : vw_C} (he : ws[q0]? = some (b, .inr (ci, fs))) (hc : vwCl[ci]? = some qc) (hqc : qc.1 = Cn) (isC isR : List Nat) (hC : isC.map (fun i => ws[i]?) = wc.map some) (hR : isR.map (fun i => ws[i]?) = wr.map some) (hdec : va_nd isC = true ∧ va_nd isR = true ∧ ∀ i ∈ isR, i ∉ isC)
    (hn : As.length = n) (hsz : ls.size = nL) (hst : st0 = As.reverse ++ .ref b :: rest) (hW : (rest.map fun v => v.category).sum ≤ 8) (d : decode cc pc = .ok (.invokevirtual index, 3)) (hf : cells ≤ R.cells ∧ slots ≤ R.slots)
    (kk : ∀ (u : T) (H1 : Heap) (locs1 : List Loc), va_P G.1 vwCl (wr ++ w1 u) H1 → va_D A (wr ++ w1 u) → va_S A s.heap H1 locs1 → W p l e R s m args below meth c H1 locs1 cells slots Q (F0 m (pc + 3) ls (.int (iI RV) :: rest))) : W p l e R s m args below meth c H locs cells slots Q (F0 m pc ls st0) := by
  subst hst
  have hFc := va_free (wc := wc) hD hS C.2.1 isC hC
  refine va_calli (va_runV (As := As) (rest := rest) F hM cw ⟨Std.blind _ _ _ _, (by have h := va_recv C.1 hP hc he; rw [hqc] at h; exact h), fun U hU hW => ⟨rfl, std_call C hP hD hS isC hdec.1 hC U hU hW⟩⟩ rfl hn hsz rfl (lv_room hW) d hf) hS (fun q _ h => hFc q h) hFc (fun r u t H1 locs1 ht hvm hw hB hz1 hk1 hS1 => ?_)
  subst hw
  obtain ⟨hP1, hD1⟩ := hB
  rw [ht] at hP1
  obtain ⟨hP2, hD2⟩ := va_join (wr := wr) (w1 := w1 u) hP hD isC isR hC hR hdec.2.1 hdec.2.2 hk1 hFc hP1 hD1
  exact kk u H1 locs1 hP2 hD2 hS1
theorem z_cVvS {T : Type} {w1 : T → va_W} (F : CallFix p m c cc nL s args Ts own) (C : Ctx G A s) (hM : CvS l y wsY rmY G (.ref b :: As) wc H.size w1) (cw : CallW R s args own Cn index y bytes maxL ret wsY rmY 0 0 n) (hP : va_P G.1 vwCl ws H) (hD : va_D A ws) (hS : va_S A s.heap H locs) {q0 : Nat} {fs : List Value} {qc : vw_C} (he : ws[q0]? = some (b, .inr (ci, fs))) (hc : vwCl[ci]? = some qc) (hqc : qc.1 = Cn) (isC isR : List Nat) (hC : isC.map (fun i => ws[i]?) = wc.map some) (hR : isR.map (fun i => ws[i]?) = wr.map some) (hdec : va_nd isC = true ∧ va_nd isR = true ∧ ∀ i ∈ isR, i ∉ isC)
    (hn : As.length = n) (hsz : ls.size = nL) (hst : st0 = As.reverse ++ .ref b :: rest) (hW : (rest.map fun v => v.category).sum ≤ 8) (d : decode cc pc = .ok (.invokevirtual index, 3)) (hf : cells ≤ R.cells ∧ slots ≤ R.slots)
    (kk : ∀ (u : T) (H1 : Heap) (locs1 : List Loc), va_P G.1 vwCl (wr ++ w1 u) H1 → va_D A (wr ++ w1 u) → va_S A s.heap H1 locs1 → W p l e R s m args below meth c H1 locs1 cells slots Q (F0 m (pc + 3) ls (rest))) : W p l e R s m args below meth c H locs cells slots Q (F0 m pc ls st0) := by
  subst hst
  have hFc := va_free (wc := wc) hD hS C.2.1 isC hC
  refine va_callv (va_runV (As := As) (rest := rest) F hM cw ⟨Std.blind _ _ _ _, (by have h := va_recv C.1 hP hc he; rw [hqc] at h; exact h), fun U hU hW => ⟨rfl, std_call C hP hD hS isC hdec.1 hC U hU hW⟩⟩ rfl hn hsz rfl (lv_room hW) d hf) hS (fun q _ h => hFc q h) hFc (fun u t H1 locs1 ht hvm hw hB hz1 hk1 hS1 => ?_)
  skip
  obtain ⟨hP1, hD1⟩ := hB
  rw [ht] at hP1
  obtain ⟨hP2, hD2⟩ := va_join (wr := wr) (w1 := w1 u) hP hD isC isR hC hR hdec.2.1 hdec.2.2 hk1 hFc hP1 hD1
  exact kk u H1 locs1 hP2 hD2 hS1
end ZC2
