/-- what a thrower leaves -/
def QT (cls : String) : Array Value → State → Outcome → State → Prop := fun _ st o t => ∃ (a : Addr) (ce : Cell), o = .threw a ∧ t.heap[a]? = some ce ∧ ce.vm = .none ∧ st.vm.findClass cls = some ce.cls ∧ st.vm.assignable ce.cls ce.cls = true ∧ st.heap.size ≤ t.heap.size ∧ ∀ q : Nat, q < st.heap.size → t.heap[q]? = st.heap[q]?
section ZK
variable {p : Program} {l : Launch} {e : Env} {R : Room} {s : State} {m : MethodId} {args : Array Value} {below : List Frame} {meth : Method} {c : Code} {H : Heap} {locs : List Loc} {cells slots : Nat} {Q : State → Prop}
variable {cc : ByteArray} {pc nL : Nat} {ls : Array Slot} {rest As st0 : List Value} {Ts wsY : List Cond} {own Cn : String} {y : MethodName} {rmY : Room} {bytes : ByteArray} {maxL index n b : Nat} {ret : Option FieldType}
/-- a call that throws, caught in the method itself -/
theorem z_catch {cls : String} {Pc : Array Value → State → Prop} {mc ms hs ht hp hi : Nat} (F : CallFix p m c cc nL s args Ts own) (hM : MetT l y wsY rmY Pc (QT cls) mc ms (fun _ => False)) (cw : CallW R s args own Cn index y bytes maxL ret wsY rmY mc ms n) (hpre : PreV s H Cn b Pc As)
    (htab : c.exceptionTable.toList = [⟨hs, ht, hp, hi⟩]) (hcov : decide (hs ≤ pc) && decide (pc < ht)) (hi0 : hi ≠ 0) (hcl : (Cond.classLink own hi cls).before args s = true)
    (hn : As.length = n) (hsz : ls.size = nL) (hst : st0 = As.reverse ++ .ref b :: rest) (hW : (rest.map fun v => v.category).sum ≤ 8) (d : decode cc pc = .ok (.invokevirtual index, 3)) (hf : cells + mc ≤ R.cells ∧ slots + ms ≤ R.slots)
    (kk : ∀ (a : Addr) (H1 : Heap), H.size ≤ H1.size → (∀ q : Nat, q < H.size → H1[q]? = H[q]?) → W p l e R s m args below meth c H1 locs (cells + mc) (slots + ms) Q (F0 m hp ls [.ref a])) : W p l e R s m args below meth c H locs cells slots Q (F0 m pc ls st0) := by
  subst hst
  intro T hT X
  obtain ⟨a, st₀, t, T', h0, X', e1, e2, hW0, hq, hgo⟩ := run_t (g := F0 m pc ls (As.reverse ++ .ref b :: rest)) (As := As) (rest := rest) F hM cw hpre rfl hn hsz rfl (lv_room hW) d hf hT X
  obtain ⟨a', ce, ha, hce, hvm, hfc, hself, hz, hk⟩ := hq
  cases ha
  have hpl : e.platform.magicAccessors = ({} : Platform).magicAccessors := by rw [X'.admits.platform]
  obtain ⟨k0, hf0, hlk⟩ := Cond.classLink_spec F.2.2.2.1 hcl e.platform hpl
  have hk0 : k0 = ce.cls := by rw [hW0.alike.findClass, hf0] at hfc; exact Option.some.inj hfc
  subst hk0
  obtain ⟨hg₁, hwarm₁, hready₁⟩ := State.classEntry (e := e) X'.warmed hlk
  have hsz1 : (T'.vm.noted m.cls hi (.cls ce.cls)).classes.size ≤ T'.vm.classes.size := by rw [Vm.size_noted]; exact Nat.le_refl _
  generalize T'.vm.noted m.cls hi (.cls ce.cls) = vm₁ at hg₁ hwarm₁ hready₁ hsz1
  have X₁ := X'.noted hwarm₁
  rw [h0] at hz hk
  obtain ⟨t2, a1, b1⟩ := kk a T'.heap (by rw [e1]; exact hz) (fun q hq => by rw [e1]; exact hk q hq) (T'.setVm vm₁) rfl X₁
  refine ⟨t2, hgo t2 ?_, b1⟩
  have hcls : ∃ k, vm₁.classes[ce.cls]? = some k := Vm.classAt_of_findClass (name := cls) (by rw [hwarm₁.alike.findClass]; exact hf0)
  refine caught_cold (g := F0 m pc ls rest) (pc := hp) (vm' := vm₁) X'.here (fun Q E dd acts => ?_) a1
  have hv : (((T'.setTop (F0 m pc ls rest)).pushFrame (.throwing a)).vm) = T'.vm := Stand.throwing_vm _ _ _
  have hh : (((T'.setTop (F0 m pc ls rest)).pushFrame (.throwing a)).heap) = T'.heap := Stand.throwing_heap _ _ _
  rw [Jvm.W.findHandler_eq (meth := meth) (code := c) (by rw [hv]; exact X'.method') X'.code, htab]
  exact find_cold (f := F0 m pc ls rest) (cell := ce) (k0 := ce.cls) hcov hi0 (by rw [hv]; exact hg₁) (by rw [hv]; exact hsz1) (by rw [hh, e1]; exact hce) (fun k h => by rw [hvm] at h; cases h) hcls hcls (by rw [hwarm₁.alike.assignable, ← hW0.alike.assignable]; exact hself)
end ZK
