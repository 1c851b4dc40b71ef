def zF : Int → Int := fun _ => 0
theorem z0i (z : Int) : iI (zF z) = 0 := iI_0
theorem z0l (z : Int) : lI (zF z) = 0 := lI_0
abbrev rc (f n mc ms : Nat) : Room := { frames := f, cells := mc, slots := ms, locals := n }
def StdN (G : Gx) (ws : va_W) (sz : Nat) (U : State) : Prop := Std G ws sz U ∧ va_AO "PlainCobol$Acts" U
theorem StdN.blind (G : Gx) (av : List Value) (ws : va_W) (sz : Nat) : FrameBlind (va_Pc av (StdN G ws sz)) := by
  intro a U g mk q
  have h := Std.blind G av ws sz a U g mk ⟨q.1, q.2.1⟩
  exact ⟨h.1, h.2, va_AO.moved (u := U) (U := U.calling g mk a) (Vm.Alike.refl U.vm) q.2.2⟩
abbrev CN {T : Type} (l : Launch) (y : MethodName) (wsY : List Cond) (rm : Room) (G : Gx) (av : List Value) (WS : va_W) (sz : Nat) (W1 : T → va_W) (mc ms : Nat) : Prop := Met l y wsY rm (va_Pc av (StdN G WS sz)) (va_Qv (fun (_ : T) => True) (fun u t => va_P G.1 vwCl (W1 u) t.heap ∧ va_D (va_A WS sz) (W1 u)) (va_A WS sz)) mc ms (va_A WS sz)
theorem met_N {T : Type} {l : Launch} {y : MethodName} {wsY ws' : List Cond} {rm : Room} {G : Gx} {av : List Value} {WS : va_W} {sz : Nat} {W1 : T → va_W} {cc : ByteArray} {maxL mc ms : Nat} (hy : plainName y.cls = true) (hyn : y.name = "<init>") (hw : wsY = Cond.code y cc maxL none :: ws') (hle : (lg_sl av).length ≤ maxL)
    (body : ∀ (p : Program) (e : Env) (s : State) (m : MethodId) (below : List Frame) (meth : Method) (c : Code) (A : Nat → Prop) (Q : State → Prop), CallFix p m c cc maxL s av.toArray wsY y.cls → meth.name = "<init>" → va_AO "PlainCobol$Acts" s → Ctx G A s → va_P G.1 vwCl WS s.heap → va_D A WS → va_S A s.heap s.heap [] →
      (∀ (u : T) (pc : Nat) (ls : Array Slot) (H : Heap) (locs : List Loc), decode cc pc = .ok (.return_, 1) → va_P G.1 vwCl (W1 u) H → va_D A (W1 u) → va_S A s.heap H locs → W p l e rm s m av.toArray below meth c H locs mc ms Q (F0 m pc ls [])) →
      ∀ ls : Array Slot, lv_has ls maxL (lv_args 0 av) → W p l e rm s m av.toArray below meth c s.heap [] 0 0 Q (F0 m 0 ls [])) : CN l y wsY rm G av WS sz W1 mc ms := by
  refine Met.ofW (cc := cc) (maxL := maxL) (ret := none) hy hw ?_
  intro p e s m args below meth c s₁ B hml hv
  obtain ⟨rfl, ⟨hsz, hP, hK, hD0, hZ, hT, hN⟩, hAO⟩ := hv
  have hr := B.returns
  have hlocks := B.notSynchronized
  have hts := atoms_spec (ws := wsY) B.pre
  have hown : s.vm.findClass y.cls = some m.cls := findClass_of_methodNamed B.named
  have hin : meth.name = "<init>" := (name_of_methodNamed B.named B.method).1.trans hyn
  subst hsz
  have hD := hD0.self (sz := s.heap.size)
  generalize hAe : va_A WS s.heap.size = A at hD hZ hT ⊢
  have hA : ∀ q : Nat, s.heap.size ≤ q → A q := fun q h => by rw [← hAe]; exact Or.inr h
  have hl := lv_entry av (n := maxL) hle
  rw [lg_entry_eq]
  generalize (lg_sl av ++ List.replicate (maxL - (lg_sl av).length) Slot.unset).toArray = ls at hl ⊢
  refine body p e s m below meth c A _ ⟨B.exec, B.bytes, hml, hown, hts⟩ hin hAO ⟨hK, hA, hZ, hT, hN⟩ hP hD va_S.rf (fun u pc ls H locs hd hP1 hD1 hS1 => ?_) ls hl
  exact W.vret B.exec B.bytes hr (fun t ht hW => ⟨⟨u, rfl, trivial, by rw [ht]; exact hP1, hD1⟩, hS1.F ht⟩) hS1.2.2 hd
section ZN
variable {p : Program} {l : Launch} {e : Env} {R : Room} {s : State} {m : MethodId} {args : Array Value} {below : List Frame} {meth : Method} {c : Code} {H : Heap} {locs : List Loc} {cells slots : Nat} {Q : State → Prop}
variable {cc : ByteArray} {pc nL : Nat} {ls : Array Slot} {rest As st0 : List Value} {G : Gx} {A : Nat → Prop} {ws wc wr : va_W} {Ts wsY : List Cond} {own host : String} {y : MethodName} {rmY : Room} {bytes : ByteArray} {maxL index n b mc ms : Nat}
theorem z_cI {T : Type} {w1 : T → va_W} (F : CallFix p m c cc nL s args Ts own) (hAO : va_AO "PlainCobol$Acts" s) (C : Ctx G A s) (hM : CN l y wsY rmY G (.ref b :: As) wc H.size w1 mc ms) (cw : CallB R s args own index y bytes maxL none wsY rmY mc ms n ∧ y.name = "<init>" ∧ (Cond.instanceMethod y).before args s = true) (hP : va_P G.1 vwCl ws H) (hD : va_D A ws) (hS : va_S A s.heap H locs) (isC isR : List Nat) (hC : isC.map (fun i => ws[i]?) = wc.map some) (hR : isR.map (fun i => ws[i]?) = wr.map some) (hdec : va_nd isC = true ∧ va_nd isR = true ∧ ∀ i ∈ isR, i ∉ isC)
    (hn : As.length = n) (hsz : ls.size = nL) (hst : st0 = As.reverse ++ .ref b :: rest) (hW : (rest.map fun v => v.category).sum ≤ 8) (d : decode cc pc = .ok (.invokespecial index, 3)) (hf : cells + mc ≤ R.cells ∧ slots + ms ≤ R.slots)
    (kk : ∀ (u : T) (H1 : Heap) (locs1 : List Loc), va_P G.1 vwCl (wr ++ w1 u) H1 → va_D A (wr ++ w1 u) → va_S A s.heap H1 locs1 → W p l e R s m args below meth c H1 locs1 (cells + mc) (slots + ms) Q (F0 m (pc + 3) ls rest)) : W p l e R s m args below meth c H locs cells slots Q (F0 m pc ls st0) := by
  subst hst
  have hFc := va_free (wc := wc) hD hS C.2.1 isC hC
  refine va_callv (va_runI (As := As) (rest := rest) F hM cw ⟨StdN.blind _ _ _ _, fun U hU hW => ⟨rfl, std_call C hP hD hS isC hdec.1 hC U hU hW, hAO.moved hW.alike⟩⟩ rfl hn hsz rfl (lv_room hW) d hf) hS (fun q _ h => hFc q h) hFc (fun u t H1 locs1 ht hvm hw hB hz1 hk1 hS1 => ?_)
  obtain ⟨hP1, hD1⟩ := hB
  rw [ht] at hP1
  obtain ⟨hP2, hD2⟩ := va_join (wr := wr) (w1 := w1 u) hP hD isC isR hC hR hdec.2.1 hdec.2.2 hk1 hFc hP1 hD1
  exact kk u H1 locs1 hP2 hD2 hS1
theorem z_cIN {T : Type} {w1 : T → va_W} (F : CallFix p m c cc nL s args Ts own) (hAO : va_AO "PlainCobol$Acts" s) (C : Ctx G A s) (hM : CN l y wsY rmY G (.ref b :: As) wc H.size w1 mc ms) (cw : va_CN R s args own index y host bytes maxL none wsY rmY mc ms n ∧ y.name = "<init>" ∧ (Cond.instanceMethod y).before args s = true) (hP : va_P G.1 vwCl ws H) (hD : va_D A ws) (hS : va_S A s.heap H locs) (isC isR : List Nat) (hC : isC.map (fun i => ws[i]?) = wc.map some) (hR : isR.map (fun i => ws[i]?) = wr.map some) (hdec : va_nd isC = true ∧ va_nd isR = true ∧ ∀ i ∈ isR, i ∉ isC)
    (hn : As.length = n) (hsz : ls.size = nL) (hst : st0 = As.reverse ++ .ref b :: rest) (hW : (rest.map fun v => v.category).sum ≤ 8) (d : decode cc pc = .ok (.invokespecial index, 3)) (hf : cells + mc ≤ R.cells ∧ slots + ms ≤ R.slots)
    (kk : ∀ (u : T) (H1 : Heap) (locs1 : List Loc), va_P G.1 vwCl (wr ++ w1 u) H1 → va_D A (wr ++ w1 u) → va_S A s.heap H1 locs1 → W p l e R s m args below meth c H1 locs1 (cells + mc) (slots + ms) Q (F0 m (pc + 3) ls rest)) : W p l e R s m args below meth c H locs cells slots Q (F0 m pc ls st0) := by
  subst hst
  have hFc := va_free (wc := wc) hD hS C.2.1 isC hC
  refine va_callv (va_runIN (As := As) (rest := rest) F hM cw ⟨StdN.blind _ _ _ _, fun U hU hW => ⟨rfl, std_call C hP hD hS isC hdec.1 hC U hU hW, hAO.moved hW.alike⟩⟩ rfl hn hsz rfl (lv_room hW) d hf) hS (fun q _ h => hFc q h) hFc (fun u t H1 locs1 ht hvm hw hB hz1 hk1 hS1 => ?_)
  obtain ⟨hP1, hD1⟩ := hB
  rw [ht] at hP1
  obtain ⟨hP2, hD2⟩ := va_join (wr := wr) (w1 := w1 u) hP hD isC isR hC hR hdec.2.1 hdec.2.2 hk1 hFc hP1 hD1
  exact kk u H1 locs1 hP2 hD2 hS1
set_option maxHeartbeats 200000 in
theorem z_newI (hx : p.tables.exec = Jvm.exec) (hb : c.code = cc) (harr : (Cond.arrayClass .int).before args s = true) (C : Ctx G A s) (hP : va_P G.1 vwCl ws H) (hD : va_D A ws) (hS : va_S A s.heap H locs) {z : Int} (N' : Nat) (hz : z = (N' : Int)) (hsm : N' ≤ 5000) (hcells : cells + 1 ≤ R.cells) (hslots : slots + N' ≤ R.slots) (d : decode cc pc = .ok (.newarray .int, 2))
    (kk : ∀ (q : Nat) (H1 : Heap), va_P G.1 vwCl (ws ++ [(q, .inl (gI G, N', .inl (fun j : Nat => iI (zF (j : Int)))))]) H1 → va_D A (ws ++ [(q, .inl (gI G, N', .inl (fun j : Nat => iI (zF (j : Int)))))]) → va_S A s.heap H1 locs → W p l e R s m args below meth c H1 locs (cells + 1) (slots + N') Q (F0 m (pc + 2) ls (.ref q :: rest))) : W p l e R s m args below meth c H locs cells slots Q (F0 m pc ls (.int (iI z) :: rest)) := by
  subst hz
  refine va_newa (atype := .int) (ty := .int) hx hb harr rfl C.1 hP hD hS C.2.1 (a0 := (N', .inl (fun j : Nat => iI (zF (j : Int))))) (fun cA => congrArg (arrV cA N') (funext (fun j => show Value.int (iI (zF (j : Int))) = defaultValue .int from congrArg Value.int (z0i (j : Int))))) (fun h => by rw [← iI_0, iI_lt (by omega) (by omega)] at h; omega) (by rw [iI_clamp (by omega)]; omega) (Nat.le_trans (Nat.mul_le_mul hsm (show componentBytes .int ≤ 8 by decide)) (by decide)) hcells hslots d (fun q cA H1 hK2 h1 h2 h3 => ?_)
  have e1 : s.vm.findClass ("[" ++ (FieldType.int).toString) = some cA := (hK2.2 5 (cA, .int) rfl).2
  have e2 : s.vm.findClass ("[" ++ (FieldType.int).toString) = some (gI G) := (C.1.2 0 (gI G, .int) rfl).2
  have e3 : cA = gI G := Option.some.inj (e1.symm.trans e2)
  rw [e3] at h1 h2
  exact kk q H1 h1 h2 h3
set_option maxHeartbeats 200000 in
theorem z_newL (hx : p.tables.exec = Jvm.exec) (hb : c.code = cc) (harr : (Cond.arrayClass .long).before args s = true) (C : Ctx G A s) (hP : va_P G.1 vwCl ws H) (hD : va_D A ws) (hS : va_S A s.heap H locs) {z : Int} (N' : Nat) (hz : z = (N' : Int)) (hsm : N' ≤ 5000) (hcells : cells + 1 ≤ R.cells) (hslots : slots + N' ≤ R.slots) (d : decode cc pc = .ok (.newarray .long, 2))
    (kk : ∀ (q : Nat) (H1 : Heap), va_P G.1 vwCl (ws ++ [(q, .inl (gL G, N', .inr (.inl (fun j : Nat => lI (zF (j : Int))))))]) H1 → va_D A (ws ++ [(q, .inl (gL G, N', .inr (.inl (fun j : Nat => lI (zF (j : Int))))))]) → va_S A s.heap H1 locs → W p l e R s m args below meth c H1 locs (cells + 1) (slots + N') Q (F0 m (pc + 2) ls (.ref q :: rest))) : W p l e R s m args below meth c H locs cells slots Q (F0 m pc ls (.int (iI z) :: rest)) := by
  subst hz
  refine va_newa (atype := .long) (ty := .long) hx hb harr rfl C.1 hP hD hS C.2.1 (a0 := (N', .inr (.inl (fun j : Nat => lI (zF (j : Int)))))) (fun cA => congrArg (arrV cA N') (funext (fun j => show Value.long (lI (zF (j : Int))) = defaultValue .long from congrArg Value.long (z0l (j : Int))))) (fun h => by rw [← iI_0, iI_lt (by omega) (by omega)] at h; omega) (by rw [iI_clamp (by omega)]; omega) (Nat.le_trans (Nat.mul_le_mul hsm (show componentBytes .long ≤ 8 by decide)) (by decide)) hcells hslots d (fun q cA H1 hK2 h1 h2 h3 => ?_)
  have e1 : s.vm.findClass ("[" ++ (FieldType.long).toString) = some cA := (hK2.2 5 (cA, .long) rfl).2
  have e2 : s.vm.findClass ("[" ++ (FieldType.long).toString) = some (gL G) := (C.1.2 1 (gL G, .long) rfl).2
  have e3 : cA = gL G := Option.some.inj (e1.symm.trans e2)
  rw [e3] at h1 h2
  exact kk q H1 h1 h2 h3
set_option maxHeartbeats 200000 in
theorem z_newB (hx : p.tables.exec = Jvm.exec) (hb : c.code = cc) (harr : (Cond.arrayClass .byte).before args s = true) (C : Ctx G A s) (hP : va_P G.1 vwCl ws H) (hD : va_D A ws) (hS : va_S A s.heap H locs) {z : Int} (N' : Nat) (hz : z = (N' : Int)) (hsm : N' ≤ 5000) (hcells : cells + 1 ≤ R.cells) (hslots : slots + N' ≤ R.slots) (d : decode cc pc = .ok (.newarray .byte, 2))
    (kk : ∀ (q : Nat) (H1 : Heap), va_P G.1 vwCl (ws ++ [(q, .inl (gB G, N', .inl (fun j : Nat => iI (zF (j : Int)))))]) H1 → va_D A (ws ++ [(q, .inl (gB G, N', .inl (fun j : Nat => iI (zF (j : Int)))))]) → va_S A s.heap H1 locs → W p l e R s m args below meth c H1 locs (cells + 1) (slots + N') Q (F0 m (pc + 2) ls (.ref q :: rest))) : W p l e R s m args below meth c H locs cells slots Q (F0 m pc ls (.int (iI z) :: rest)) := by
  subst hz
  refine va_newa (atype := .byte) (ty := .byte) hx hb harr rfl C.1 hP hD hS C.2.1 (a0 := (N', .inl (fun j : Nat => iI (zF (j : Int))))) (fun cA => congrArg (arrV cA N') (funext (fun j => show Value.int (iI (zF (j : Int))) = defaultValue .byte from congrArg Value.int (z0i (j : Int))))) (fun h => by rw [← iI_0, iI_lt (by omega) (by omega)] at h; omega) (by rw [iI_clamp (by omega)]; omega) (Nat.le_trans (Nat.mul_le_mul hsm (show componentBytes .byte ≤ 8 by decide)) (by decide)) hcells hslots d (fun q cA H1 hK2 h1 h2 h3 => ?_)
  have e1 : s.vm.findClass ("[" ++ (FieldType.byte).toString) = some cA := (hK2.2 5 (cA, .byte) rfl).2
  have e2 : s.vm.findClass ("[" ++ (FieldType.byte).toString) = some (gB G) := (C.1.2 2 (gB G, .byte) rfl).2
  have e3 : cA = gB G := Option.some.inj (e1.symm.trans e2)
  rw [e3] at h1 h2
  exact kk q H1 h1 h2 h3
set_option maxHeartbeats 200000 in
theorem z_newZ (hx : p.tables.exec = Jvm.exec) (hb : c.code = cc) (harr : (Cond.arrayClass .boolean).before args s = true) (C : Ctx G A s) (hP : va_P G.1 vwCl ws H) (hD : va_D A ws) (hS : va_S A s.heap H locs) {z : Int} (N' : Nat) (hz : z = (N' : Int)) (hsm : N' ≤ 5000) (hcells : cells + 1 ≤ R.cells) (hslots : slots + N' ≤ R.slots) (d : decode cc pc = .ok (.newarray .boolean, 2))
    (kk : ∀ (q : Nat) (H1 : Heap), va_P G.1 vwCl (ws ++ [(q, .inl (gZ G, N', .inl (fun j : Nat => iI (zF (j : Int)))))]) H1 → va_D A (ws ++ [(q, .inl (gZ G, N', .inl (fun j : Nat => iI (zF (j : Int)))))]) → va_S A s.heap H1 locs → W p l e R s m args below meth c H1 locs (cells + 1) (slots + N') Q (F0 m (pc + 2) ls (.ref q :: rest))) : W p l e R s m args below meth c H locs cells slots Q (F0 m pc ls (.int (iI z) :: rest)) := by
  subst hz
  refine va_newa (atype := .boolean) (ty := .boolean) hx hb harr rfl C.1 hP hD hS C.2.1 (a0 := (N', .inl (fun j : Nat => iI (zF (j : Int))))) (fun cA => congrArg (arrV cA N') (funext (fun j => show Value.int (iI (zF (j : Int))) = defaultValue .boolean from congrArg Value.int (z0i (j : Int))))) (fun h => by rw [← iI_0, iI_lt (by omega) (by omega)] at h; omega) (by rw [iI_clamp (by omega)]; omega) (Nat.le_trans (Nat.mul_le_mul hsm (show componentBytes .boolean ≤ 8 by decide)) (by decide)) hcells hslots d (fun q cA H1 hK2 h1 h2 h3 => ?_)
  have e1 : s.vm.findClass ("[" ++ (FieldType.boolean).toString) = some cA := (hK2.2 5 (cA, .boolean) rfl).2
  have e2 : s.vm.findClass ("[" ++ (FieldType.boolean).toString) = some (gZ G) := (C.1.2 3 (gZ G, .boolean) rfl).2
  have e3 : cA = gZ G := Option.some.inj (e1.symm.trans e2)
  rw [e3] at h1 h2
  exact kk q H1 h1 h2 h3
end ZN
