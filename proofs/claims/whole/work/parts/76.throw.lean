theorem same_nil {s t : State} {k n : Nat} (h : s.sameButNew t [] k n) : s.heap.size ≤ t.heap.size ∧ ∀ q : Nat, q < s.heap.size → t.heap[q]? = s.heap[q]? := by
  refine ⟨h.2.1, fun q hq => ?_⟩
  obtain ⟨c', h1, h2, h3, h4⟩ := h.2.2.2.2.2 q _ (Array.getElem?_eq_getElem hq)
  rw [h1, Array.getElem?_eq_getElem hq]
  have h5 : c'.slots = (s.heap[q]).slots := Array.ext_getElem? (fun i => h4 i (by simp))
  rw [h2, h5]
section ZT
variable {p : Program} {l : Launch} {e : Env} {R : Room} {s : State} {m : MethodId} {args : Array Value} {below : List Frame} {meth : Method} {c : Code} {H : Heap} {locs : List Loc} {cells slots : Nat} {Q : State → Prop}
variable {cc : ByteArray} {pc nL : Nat} {ls : Array Slot} {rest As st0 : List Value} {G : Gx} {A : Nat → Prop} {ws wc : va_W} {Ts wsY : List Cond} {own Cn : String} {y : MethodName} {rmY : Room} {bytes : ByteArray} {maxL index n b ci : Nat} {ret : Option FieldType}
/-- new, dup, the constructor, athrow: out of the method -/
theorem w_throw {cls : String} {names : List String} {ia ic : Nat} {Qc : Array Value → State → Outcome → State → Prop} {free : Addr → Prop}
    (hx : p.tables.exec = Jvm.exec) (hb : c.code = cc) (hml : ls.size = c.maxLocals) (htr : e.platform.stackTraces = false) (hown : s.vm.findClass own = some m.cls)
    (hcl : (Cond.classLink own ia cls).before args s = true) (hins : (Cond.instantiable cls 6).before args s = true) (hini : (Cond.initialized cls).before args s = true)
    (hfit : Bundle.fit cls = true) (hnames : ∀ n ∈ names, Bundle.fit n = true) (h : ∀ a ∈ Bundle.ownAtoms0 own ic cls names, a.before args s = true)
    (hnoh : ∀ x ∈ c.exceptionTable.toList, False) (hlocks : meth.locks = false)
    (hcells : 1 ≤ R.cells) (hslots : 6 ≤ R.slots) (hRf : names.length + 3 < R.frames) (hRl : 1 + (13 * (names.length + 1) + 41) ≤ R.locals)
    (d0 : decode cc pc = .ok (.new ia, 3)) (d3 : decode cc (pc + 3) = .ok (.dup, 1)) (d4 : decode cc (pc + 3 + 1) = .ok (.invokespecial ic, 3)) (d7 : decode cc (pc + 3 + 1 + 3) = .ok (.athrow, 1))
    (hq : ∀ (t : State) (a : Addr) (ce : Cell), t.heap[a]? = some ce → ce.vm = .none → s.vm.findClass cls = some ce.cls → s.vm.assignable ce.cls ce.cls = true → s.heap.size ≤ a → s.heap.size ≤ t.heap.size → (∀ q : Nat, q < s.heap.size → t.heap[q]? = s.heap[q]?) → Qc args s (.threw a) t) :
    W p l e R s m args below meth c s.heap [] 0 0 (MQT below Qc args s 1 6 free) (F0 m pc ls []) := by
  intro T hT X
  obtain ⟨vm', cC, kC, hfc, hk, hkind, hsz, X1, st1⟩ := X.newCold hx hown hcl hins hini (g := F0 m pc ls []) rfl (by rw [hb]; exact d0) (by omega) (by omega)
  obtain ⟨U, st3, hrun, hend, hWU, hsame, ce, hce, hoc⟩ := X1.ctorThrow0 hx htr (own := own) (cls := cls) (names := names) (ic := ic) hown hfit hnames h (by intro x hx; cases hx) hfc hk (a := T.heap.size) (State.heap_pushCell_size _ _) (by rw [hT]; exact Nat.le_refl _)
    (g := F0 m (pc + 3 + 1) ls [.ref T.heap.size, .ref T.heap.size]) rfl hml rfl rfl (rest := []) rfl (by rw [hb]; exact d4) (by rw [hb]; exact d7) (fun x hx => (hnoh x hx).elim) hRf (by simpa [Value.category] using hRl) hlocks
  have hn := same_nil hsame
  refine ⟨U, st1 _ ?_, .threw T.heap.size, hrun, hend, hq U _ ce hce hoc.vm hoc.cls hoc.self (by rw [hT]; exact Nat.le_refl _) hn.1 hn.2, [], ⟨⟨_, rfl⟩, hWU, hsame⟩, by intro q h; cases h⟩
  have X1h := X1.here
  revert st3 X1h
  generalize (T.setVm vm').pushCell _ = T1
  intro st3 X1h
  jvm_step X1h [X1h.top, hx, hb, d3, Value.category]
  exact st3
/-- a call that leaves the heap as it is -/
abbrev Cip (l : Launch) (y : MethodName) (wsY : List Cond) (rm : Room) (G : Gx) (av : List Value) (WS : va_W) (sz : Nat) (RV : Int) : Prop := Met l y wsY rm (va_Pc av (Std G WS sz)) (fun _ st oc t => oc = .returned (some (.int (iI RV))) ∧ t.heap = st.heap) 0 0 (fun _ => False)
theorem met_ip {l : Launch} {y : MethodName} {wsY ws' : List Cond} {rm : Room} {G : Gx} {av : List Value} {WS : va_W} {sz : Nat} {RV : Int} {cc : ByteArray} {maxL : Nat} {ret : Option FieldType} (hy : plainName y.cls = true) (hw : wsY = Cond.code y cc maxL ret :: ws') (hle : (lg_sl av).length ≤ maxL) {rt : FieldType} (hret : ret = some rt) (hnar : narrow rt (.int (iI RV)) = .int (iI RV))
    (hrm : rm.cells = 0 ∧ rm.slots = 0)
    (body : ∀ (p : Program) (e : Env) (s : State) (m : MethodId) (below : List Frame) (meth : Method) (c : Code) (A : Nat → Prop) (Q : State → Prop), CallFix p m c cc maxL s av.toArray wsY y.cls → Ctx G A s → va_P G.1 vwCl WS s.heap → va_D A WS → va_S A s.heap s.heap [] →
      (∀ (pc : Nat) (ls : Array Slot) (H : Heap) (locs : List Loc), decode cc pc = .ok (.ireturn, 1) → H = s.heap → locs = [] → W p l e rm s m av.toArray below meth c H locs 0 0 Q (F0 m pc ls [.int (iI RV)])) →
      ∀ ls : Array Slot, lv_has ls maxL (lv_args 0 av) → W p l e rm s m av.toArray below meth c s.heap [] 0 0 Q (F0 m 0 ls [])) : Cip l y wsY rm G av WS sz RV := by
  refine Met.ofW (cc := cc) (maxL := maxL) (ret := ret) hy hw ?_
  intro p e s m args below meth c s₁ B hml hv
  obtain ⟨rfl, hsz, hP, hK, hD0, hZ, hT, hN⟩ := hv
  have hr := B.returns
  have hlocks := B.notSynchronized
  have hts := atoms_spec (ws := wsY) B.pre
  have hown : s.vm.findClass y.cls = some m.cls := findClass_of_methodNamed B.named
  subst hsz
  have hD := hD0.self (sz := s.heap.size)
  generalize hAe : va_A WS s.heap.size = A at hD hZ hT
  have hA : ∀ q : Nat, s.heap.size ≤ q → A q := fun q h => by rw [← hAe]; exact Or.inr h
  have hl := lv_entry av (n := maxL) hle
  rw [lg_entry_eq]
  generalize (lg_sl av ++ List.replicate (maxL - (lg_sl av).length) Slot.unset).toArray = ls at hl ⊢
  refine body p e s m below meth c A _ ⟨B.exec, B.bytes, hml, hown, hts⟩ ⟨hK, hA, hZ, hT, hN⟩ hP hD va_S.rf (fun pc ls H locs hd hH hlo => ?_) ls hl
  subst hlo
  exact W.zret B.exec B.bytes (hr.trans hret) hnar (fun t ht hW => ⟨rfl, by rw [ht, hH]⟩) (by intro q h; cases h) hd
theorem z_cVip {RV : Int} (F : CallFix p m c cc nL s args Ts own) (C : Ctx G A s) (hM : Cip l y wsY rmY G (.ref b :: As) wc H.size RV) (cw : CallW R s args own Cn index y bytes maxL ret wsY rmY 0 0 n) (hP : va_P G.1 vwCl ws H) (hD : va_D A ws) (hS : va_S A s.heap H locs) {q0 : Nat} {fs : List Value} {qc : vw_C} (he : ws[q0]? = some (b, .inr (ci, fs))) (hc : vwCl[ci]? = some qc) (hqc : qc.1 = Cn) (isC : List Nat) (hC : isC.map (fun i => ws[i]?) = wc.map some) (hdec : va_nd isC = true)
    (hn : As.length = n) (hsz : ls.size = nL) (hst : st0 = As.reverse ++ .ref b :: rest) (hW : (rest.map fun v => v.category).sum ≤ 8) (d : decode cc pc = .ok (.invokevirtual index, 3)) (hf : cells ≤ R.cells ∧ slots ≤ R.slots)
    (kk : W p l e R s m args below meth c H locs cells slots Q (F0 m (pc + 3) ls (.int (iI RV) :: rest))) : W p l e R s m args below meth c H locs cells slots Q (F0 m pc ls st0) := by
  subst hst
  intro T hT X
  obtain ⟨v, st₀, t, T', L, h0, X', hL, e1, e2, ⟨hv, hh⟩, st⟩ := va_runV (g := F0 m pc ls (As.reverse ++ .ref b :: rest)) (As := As) (rest := rest) F hM cw ⟨Std.blind _ _ _ _, (by have h := va_recv C.1 hP hc he; rw [hqc] at h; exact h), fun U hU hW => ⟨rfl, std_call C hP hD hS isC hdec hC U hU hW⟩⟩ rfl hn hsz rfl (lv_room hW) d hf T hT X
  cases hv
  have hL0 : L = [] := List.eq_nil_iff_forall_not_mem.mpr (fun q hq => hL q hq)
  subst hL0
  rw [List.append_nil] at X'
  obtain ⟨t2, a1, b1⟩ := kk T' (by rw [e1, hh, h0]) X'
  exact ⟨t2, st t2 a1, b1⟩
/-- a call that throws -/
theorem run_t {Pc : Array Value → State → Prop} {Qc : Array Value → State → Outcome → State → Prop} {mc ms : Nat} {g : JFrame} (F : CallFix p m c cc nL s args Ts own) (hM : MetT l y wsY rmY Pc Qc mc ms (fun _ => False)) (cw : CallW R s args own Cn index y bytes maxL ret wsY rmY mc ms n) (hp : PreV s H Cn b Pc As)
    (hg : g.method = m) (hn : As.length = n) (hsize : g.locals.size = nL) (hstack : g.stack = As.reverse ++ .ref b :: rest) (hW : 2 * g.monitorRoom + (rest.map fun v => v.category).sum ≤ 8) (hdg : decode cc g.pc = .ok (.invokevirtual index, 3)) (hf : cells + mc ≤ R.cells ∧ slots + ms ≤ R.slots)
    {T : State} (hT : T.heap = H) (X : Stand p l e R s m args below meth c T locs cells slots) :
    ∃ (a : Addr) (st₀ t T' : State), st₀.heap = H ∧ Stand p l e R s m args below meth c T' locs (cells + mc) (slots + ms) ∧ T'.heap = t.heap ∧ T'.vm = t.vm ∧ s.WarmedH st₀.vm ∧ Qc (Value.ref b :: As).toArray st₀ (.threw a) t ∧
      ∀ target, Steps p.tables e below ((T'.setTop { g with stack := rest }).pushFrame (.throwing a)) target → Steps p.tables e below (T.setTop g) target := by
  obtain ⟨⟨hrc, hrs, hfr', hlo, hws, hcw, hcode, hini, hy, hlen, hl⟩, hin, hse⟩ := cw
  obtain ⟨hx, hb, hml, ho, -⟩ := F
  obtain ⟨hbl, ⟨cellB, hcB, hoB, hclB⟩, hPc⟩ := hp
  subst hT
  obtain ⟨mk, methM, hnamed, hmethM, hstM, habM⟩ := Cond.instanceMethod_spec hin
  obtain ⟨methM', cM, hmethM', -, -, -, -, -, -, hsigM⟩ := Cond.code_spec hnamed hcode
  cases hmethM.symm.trans hmethM'
  obtain ⟨c2, r2, m2, q1, q2, q3, q4, kP, hkP, hkPi⟩ := Cond.selects_spec hse
  cases hclB.symm.trans q1
  cases (State.methodFound?_of_named hnamed hy).symm.trans q2
  cases hnamed.symm.trans q3
  have hselP : selectMethod e.platform s.vm cellB.cls mk = .method mk := by rw [Launch.admits_selectMethod X.admits]; exact q4
  have hdg' : decode c.code g.pc = .ok (.invokevirtual index, 3) := by rw [hb]; exact hdg
  obtain ⟨vm₁, X₁, hstep₁⟩ := X.invokevirtual hx ho hl hnamed hmethM hstM hkP hkPi hy (a := b) (cell := cellB) hcB
    (fun z h => by rw [h] at hoB; cases hoB) hselP hmethM habM hkP hkPi (g := g) hg (argsL := As) (rest := rest) (hn.trans (hlen _ hsigM)) hstack hdg'
  have hU0 : (T.setVm vm₁).heap = T.heap := rfl
  generalize T.setVm vm₁ = U at X₁ hstep₁ hU0
  have hnU : U.methodNamed? y = some mk := X₁.named hnamed
  obtain ⟨methY, cY, hmY, hcY, -, hlY, -, -, -, -⟩ := Cond.code_spec (args := #[]) hnU (hws _ hcw #[] U X₁.warmed)
  obtain ⟨kY, hkY, -⟩ := className_of_methodNamed hnU
  have hinitU : (Cond.initialized y.cls).before args U = true := word_at X₁.warmed (Or.inl (by first | rfl | simp [Cond.onTables, Cond.keeps, Cond.steady])) hini
  have hinitY : kY.init = .initialized := Cond.initialized_spec (findClass_of_methodNamed hnU) hkY hinitU
  generalize hg1 : ({ g with stack := rest } : JFrame) = g1 at hstep₁ ⊢
  have hm1 : g1.method = m := by rw [← hg1]; exact hg
  have hz1 : g1.locals.size = c.maxLocals := by rw [← hg1]; exact hsize.trans hml.symm
  have hd1 : decode c.code g1.pc = .ok (.invokevirtual index, 3) := by rw [← hg1]; exact hdg'
  have hW1 : 2 * g1.monitorRoom + (g1.stack.map fun v => v.category).sum ≤ 8 := by rw [← hg1]; exact hW
  have h : At U g1.method c below := by rw [hm1]; exact X₁.here
  have happ : (headSpec wsY rmY).appliesLoose y e.platform (U.calling g1 mk (Value.ref b :: As).toArray) = true :=
    Spec.appliesLoose_calling (g := g1) h hd1 hnU hkY hinitY
      (X₁.room_calling (g := g1) (R' := (headSpec wsY rmY).room) hz1 hmY hcY hfr' (by rw [hlY]; show _ + rmY.locals ≤ _; omega) (by show cells + rmY.cells ≤ _; rw [hrc]; exact hf.1) (by show slots + rmY.slots ≤ _; rw [hrs]; exact hf.2)) (atoms_intro fun w hw => hws w hw _ _ X₁.warmed)
  obtain ⟨mid, hmid⟩ := h.above
  have hfr : (U.setTop g1).frames = (.java g1 :: mid) ++ below := by rw [State.frames_setTop' g1 h.top, hmid]; rfl
  obtain ⟨o, s₂, hsteps, -, hend, hq, L, hfe, hL⟩ := Steps.callFree hM p X₁.admits X₁.cas X₁.clock (acts := []) hfr happ (hbl _ _ _ _ (hPc U hU0 X₁.warmed)) trivial
  have hL0 : L = [] := List.eq_nil_iff_forall_not_mem.mpr (fun q hq => hL q hq)
  subst hL0
  rw [State.frames_setTop' g1 h.top] at hend
  obtain ⟨⟨v, rfl⟩, hW₂, e2, z2, z3, z4, z5, z6⟩ := id hfe
  have e3 : s₂ = ({ (U.calling g1 mk (Value.ref b :: As).toArray).setFrames s₂.frames with heap := s₂.heap, slotsUsed := s₂.slotsUsed } : State).setVm s₂.vm := by
    have hh : s₂ = ({ s₂ with vm := (U.calling g1 mk (Value.ref b :: As).toArray).vm } : State).setVm s₂.vm := rfl
    rw [show ({ s₂ with vm := (U.calling g1 mk (Value.ref b :: As).toArray).vm } : State) = _ from e2] at hh
    exact hh
  have hf₂ : s₂.frames = .throwing v :: .java g1 :: U.frames.tail := hend
  have hW' : U.WarmedH s₂.vm := hW₂
  obtain ⟨g₀, hg0⟩ := Option.isSome_iff_exists.mp h.top
  obtain ⟨r, hr⟩ := State.topJava?_eq_some.mp hg0
  have hs₂ : s₂ = ((({ U with heap := s₂.heap, slotsUsed := s₂.slotsUsed } : State).setVm s₂.vm).setTop g1).pushFrame (.throwing v) := by
    have hr' : (({ U with heap := s₂.heap, slotsUsed := s₂.slotsUsed } : State).setVm s₂.vm).frames = .java g₀ :: r := hr
    refine e3.trans ?_
    rw [hf₂, State.calling_eq h.top, State.setFrames_setFrames, State.pushFrame, State.frames_setTop _ hr', State.setTop_of_frames _ hr', State.setFrames_setFrames, hr]
    rfl
  have hsame : U.sameButNew ({ U with heap := s₂.heap, slotsUsed := s₂.slotsUsed } : State) [] mc ms := by
    refine ⟨?_, z2, z3, z4, z5, z6⟩
    obtain ⟨t, ht, -⟩ := State.frames_cons hr
    show ({ U with heap := s₂.heap, slotsUsed := s₂.slotsUsed } : State) = { U.setFrames U.frames with heap := s₂.heap, slotsUsed := s₂.slotsUsed }
    rw [State.setFrames_self ht]
  have X₂ : Stand p l e R s m args below meth c (({ U with heap := s₂.heap, slotsUsed := s₂.slotsUsed } : State).setVm s₂.vm) (locs ++ []) (cells + mc) (slots + ms) :=
    ⟨X₁.admits, X₁.cas, X₁.clock, X₁.frames, X₁.room, X₁.hears, X₁.method, X₁.code, (X₁.here.setHeapUsed s₂.heap s₂.slotsUsed).setVm hW'.alike, X₁.tail, State.WarmedH.trans X₁.warmed hW', X₁.limits, X₁.bytes, X₁.same.trans (hsame.setVm s.vm)⟩
  rw [List.append_nil] at X₂
  refine ⟨v, U.calling g1 mk (Value.ref b :: As).toArray, s₂, _, hU0, X₂, rfl, rfl, X₁.warmed, hq, fun target ht => hstep₁ _ fun acts => ?_⟩
  rw [doInvoke_state]
  rw [← hs₂] at ht
  exact hsteps.trans ht
end ZT
