set_option maxHeartbeats 4000000 in
set_option maxRecDepth 100000 in
theorem c_X1_has_p (l : Launch) (G : Gx) (zz : Nat) (a0 a1 a2 a3 : Nat) (sz va ke : Int → Int) (mk : Int) (n : Int) (h1 : 0 ≤ mk ∧ mk ≤ 60) (h2 : -2147483648 ≤ n ∧ n < 2147483648) : Cip l yX1_has wsX1_has (rz 0 0) G [.ref a0, .int (iI n)] [(a0, .inr (2, [.ref a1, .ref a2, .ref a3, .int (iI mk)])), (a1, .inl (gI G, 61, .inl (fun j : Nat => iI (sz (j : Int))))), (a2, .inl (gL G, 61, .inr (.inl (fun j : Nat => lI (va (j : Int)))))), (a3, .inl (gL G, 61, .inr (.inl (fun j : Nat => lI (ke (j : Int))))))] zz (if 1 ≤ n ∧ n ≤ mk then 1 else 0) := by
  refine met_ip (cc := cX1_has) (maxL := 2) (ret := (some .boolean)) (by decide) rfl (Nat.le_of_ble_eq_true rfl) rfl (by (repeat (any_goals split)) <;> decide) ⟨rfl, rfl⟩ ?_
  intro p e s m below meth c A Q F C hP hD hS hret ls hl
  obtain ⟨hx, hb, hml, hown, hts⟩ := id F
  obtain ⟨hK, hA, hZ, hT, hN⟩ := id C
  have hl : lv_has ls 2 [(0, .ref a0), (1, .int (iI n))] := hl
  obtain ⟨H, hH⟩ : ∃ H, H = s.heap := ⟨_, rfl⟩
  obtain ⟨locs, hlocs⟩ : ∃ l : List Loc, l = [] := ⟨_, rfl⟩
  have hS : va_S A s.heap H locs := by rw [hH, hlocs]; exact hS
  have hP : va_P G.1 vwCl [(a0, .inr (2, [.ref a1, .ref a2, .ref a3, .int (iI mk)])), (a1, .inl (gI G, 61, .inl (fun j : Nat => iI (sz (j : Int))))), (a2, .inl (gL G, 61, .inr (.inl (fun j : Nat => lI (va (j : Int)))))), (a3, .inl (gL G, 61, .inr (.inl (fun j : Nat => lI (ke (j : Int))))))] H := by rw [hH]; exact hP
  suffices hgo : W p l e (rz 0 0) s m [.ref a0, .int (iI n)].toArray below meth c H locs 0 0 Q (F0 m 0 ls []) by rw [hH, hlocs] at hgo; exact hgo
  have hiX1 : ∀ w ∈ wsX10, w ∈ wsX1_has := by decide +kernel
  have hw0 := hts (Cond.fieldLink RX1 22 "PlainCobol$Cells" "made" "I") (List.mem_of_getElem? (i := 1) rfl)
  refine lv_iload_n hx hb dX1_has_0 rfl (lv_at hl 1 rfl) ?_
  refine lv_iconst (v := iI (1)) hx hb dX1_has_1 rfl ?_
  refine z_icmp_lt (tgt := 17) hx hb dX1_has_2 (by decide) (by omega) (fun c_1 => ?_) (fun c_1 => ?_)
  · skip
    refine lv_iconst (v := iI (0)) hx hb dX1_has_17 rfl ?_
    have r_2 : (0 : Int) = (if 1 ≤ n ∧ n ≤ mk then 1 else 0) := by first | exact (if_pos (by omega)).symm | exact (if_neg (by omega)).symm
    rw [r_2]
    exact hret _ ls H locs dX1_has_18 hH hlocs
  · skip
    refine lv_iload_n hx hb dX1_has_5 rfl (lv_at hl 1 rfl) ?_
    refine lv_aload_n hx hb dX1_has_6 rfl (lv_at hl 0 rfl) ?_
    refine va_get (D := G.1) (ci := 2) (v := .int (iI mk)) (C := RX1) (T := TX1) (N := 4) hx hb hts hiX1 hown hK hP 0 rfl rfl 3 (by decide) hw0 (fun _ h9 => h9) rfl dX1_has_7 ?_
    refine z_icmp_gt (tgt := 17) hx hb dX1_has_10 (by decide) (by omega) (fun c_3 => ?_) (fun c_3 => ?_)
    · skip
      refine lv_iconst (v := iI (0)) hx hb dX1_has_17 rfl ?_
      have r_4 : (0 : Int) = (if 1 ≤ n ∧ n ≤ mk then 1 else 0) := by first | exact (if_pos (by omega)).symm | exact (if_neg (by omega)).symm
      rw [r_4]
      exact hret _ ls H locs dX1_has_18 hH hlocs
    · skip
      refine lv_iconst (v := iI (1)) hx hb dX1_has_13 rfl ?_
      refine lv_goto (tgt := 18) hx hb dX1_has_14 (by decide) ?_
      have r_5 : (1 : Int) = (if 1 ≤ n ∧ n ≤ mk then 1 else 0) := by first | exact (if_pos (by omega)).symm | exact (if_neg (by omega)).symm
      rw [r_5]
      exact hret _ ls H locs dX1_has_18 hH hlocs

/-! what throwing stands on -/
def exN : List String := ["java/lang/IndexOutOfBoundsException", "java/lang/RuntimeException", "java/lang/Exception"]
def thW : List Cond := Bundle.throwableAtoms.filter (fun w => w.onTables)
def wsTh : List Cond := thW ++ Bundle.chain0Atoms RJx00060 exN ++
  [.methodLink RX10 147 (Bundle.init0 RJx00060), .instantiable RJx00060 6, .castable RJx00060 RJx00060, .selects RJx00060 Bundle.tFill0 Bundle.tFill0, .selects RJx00060 Bundle.tFill Bundle.tFill,
   .lays RJx00060 Bundle.tN "cause" "Ljava/lang/Throwable;", .lays RJx00060 Bundle.tN "stackTrace" Bundle.steD, .lays RJx00060 Bundle.tN "suppressedExceptions" Bundle.listD, .lays RJx00060 Bundle.tN "detailMessage" "Ljava/lang/String;",
   .fieldLink Bundle.tN 198 Bundle.tN "backtrace" "Ljava/lang/Object;", .lays Bundle.tN Bundle.tN "backtrace" "Ljava/lang/Object;", .lays RJx00060 Bundle.tN "backtrace" "Ljava/lang/Object;"]
def isR (v : Value) : Prop := v = .null ∨ ∃ a, v = .ref a
/-- a static that is laid and holds a reference or null -/
def Zs (C n d : String) (A : Nat → Prop) (U : State) (H : Heap) : Prop := ∃ (cf : ClassId) (kf : Class) (fi : Nat) (f : Field) (a : Nat) (cell : Cell) (v : Value), U.vm.findClass C = some cf ∧ U.fieldFound? C n d = some (cf, kf, fi, f) ∧ f.isStatic = true ∧ kf.statics = some a ∧ H[a]? = some cell ∧ cell.vm.isStatics = true ∧ cell.cls = cf ∧ f.slot < cell.slots.size ∧ kf.staticTypes[f.slot]? = some f.type ∧ cell.slots[f.slot]? = some v ∧ isR v ∧ ¬ A a
theorem Zs.moved {C n d : String} {A : Nat → Prop} {u U : State} {H : Heap} (hvm : u.vm.Alike U.vm) (h : Zs C n d A u H) : Zs C n d A U H := by
  obtain ⟨cf, kf, fi, f, a, cell, v, h0, h1, h2, h3, h4, h5, h6, h7, h8, h9⟩ := h
  obtain ⟨k', hi', he⟩ := State.fieldFound?_setVm hvm h1
  exact ⟨cf, k', fi, f, a, cell, v, by rw [hvm.findClass]; exact h0, hi', h2, by rw [he]; exact h3, h4, h5, h6, h7, by rw [he]; exact h8, h9⟩
theorem Zs.kept {C n d : String} {A : Nat → Prop} {U : State} {H H1 : Heap} (h : Zs C n d A U H) (hq : ∀ a : Nat, a < H.size → ¬ A a → H1[a]? = H[a]?) : Zs C n d A U H1 := by
  obtain ⟨cf, kf, fi, f, a, cell, v, h0, h1, h2, h3, h4, h5, h6, h7, h8, h9, h10, h11⟩ := h
  exact ⟨cf, kf, fi, f, a, cell, v, h0, h1, h2, h3, by rw [hq a (Array.getElem?_eq_some_iff.mp h4).1 h11]; exact h4, h5, h6, h7, h8, h9, h10, h11⟩
theorem Zs.narrow {C n d : String} {A B : Nat → Prop} {U : State} {H : Heap} (h : Zs C n d A U H) (hAB : ∀ q, B q → A q) : Zs C n d B U H := by
  obtain ⟨cf, kf, fi, f, a, cell, v, h0, h1, h2, h3, h4, h5, h6, h7, h8, h9, h10, h11⟩ := h
  exact ⟨cf, kf, fi, f, a, cell, v, h0, h1, h2, h3, h4, h5, h6, h7, h8, h9, h10, fun z => h11 (hAB a z)⟩
def Tz (A : Nat → Prop) (U : State) : Prop := Zs Bundle.tN "UNASSIGNED_STACK" Bundle.steD A U U.heap ∧ Zs Bundle.tN "SUPPRESSED_SENTINEL" Bundle.listD A U U.heap
theorem isRef_of {C n d : String} {A : Nat → Prop} {U : State} {args : Array Value} (h : Zs C n d A U U.heap) : (Cond.isRef (.static C n d)).before args U = true ∧ (Cond.laysStatic C n d).before args U = true := by
  obtain ⟨cf, kf, fi, f, a, cell, v, h0, h1, h2, h3, h4, h5, h6, h7, h8, h9, h10, h11⟩ := h
  constructor
  · rcases h10 with rfl | ⟨b, rfl⟩ <;> simp [Cond.before, Cond.holds, Cond.value, Term.eval, State.fieldNamed?, h1, h2, h3, h4, h5, h9]
  · simp [Cond.before, Cond.holds, Cond.value, h0, h1, h2, h3, h4, h5, h6, h7, h8]
theorem th_split : ∀ w ∈ Bundle.throwableAtoms, w ∈ thW ∨ w = .laysStatic Bundle.tN "UNASSIGNED_STACK" Bundle.steD ∨ w = .laysStatic Bundle.tN "SUPPRESSED_SENTINEL" Bundle.listD := by decide +kernel
theorem own_of {args : Array Value} {s : State} {A : Nat → Prop} (h : ∀ w ∈ wsTh, w.before args s = true) (hz : Tz A s) : ∀ a ∈ Bundle.ownAtoms0 RX10 147 RJx00060 exN, a.before args s = true := by
  obtain ⟨z1, z2⟩ := hz
  have e1 : (Cond.isRef (.static Bundle.tN "UNASSIGNED_STACK" Bundle.steD)).before args s = true := (isRef_of z1).1
  have e2 : (Cond.isRef (.static Bundle.tN "SUPPRESSED_SENTINEL" Bundle.listD)).before args s = true := (isRef_of z2).1
  intro a ha
  simp only [Bundle.ownAtoms0, List.mem_append, List.mem_cons, List.not_mem_nil, or_false] at ha
  have hh : ∀ w, (w ∈ thW ∨ w ∈ Bundle.chain0Atoms RJx00060 exN) ∨ w ∈ ([.methodLink RX10 147 (Bundle.init0 RJx00060), .instantiable RJx00060 6, .castable RJx00060 RJx00060, .selects RJx00060 Bundle.tFill0 Bundle.tFill0, .selects RJx00060 Bundle.tFill Bundle.tFill,
   .lays RJx00060 Bundle.tN "cause" "Ljava/lang/Throwable;", .lays RJx00060 Bundle.tN "stackTrace" Bundle.steD, .lays RJx00060 Bundle.tN "suppressedExceptions" Bundle.listD, .lays RJx00060 Bundle.tN "detailMessage" "Ljava/lang/String;",
   .fieldLink Bundle.tN 198 Bundle.tN "backtrace" "Ljava/lang/Object;", .lays Bundle.tN Bundle.tN "backtrace" "Ljava/lang/Object;", .lays RJx00060 Bundle.tN "backtrace" "Ljava/lang/Object;"] : List Cond) → w.before args s = true := fun w q => h w (by rcases q with (q | q) | q; exact List.mem_append_left _ (List.mem_append_left _ q); exact List.mem_append_left _ (List.mem_append_right _ q); exact List.mem_append_right _ q)
  rcases ha with (ha | ha) | ha
  · rcases th_split _ ha with q | rfl | rfl
    · exact hh _ (Or.inl (Or.inl q))
    · exact (isRef_of z1).2
    · exact (isRef_of z2).2
  · exact hh _ (Or.inl (Or.inr ha))
  · rcases ha with rfl | rfl | rfl | rfl | rfl | rfl | rfl | rfl | rfl | rfl | rfl | rfl | rfl | rfl
    all_goals first | exact e1 | exact e2 | exact hh _ (Or.inr (by simp only [List.mem_cons, true_or, or_true]))
set_option maxHeartbeats 4000000 in
set_option maxRecDepth 100000 in
theorem c_X10_at_t (l : Launch) (hfl : l.flags = pinnedFlags ++ [noTraceFlag]) (G : Gx) (zz : Nat) (x0 w0 b0 y0 e0 f0 s0 g0 r0 t0 v0 : Nat) (rf : Int) (a0 a1 a2 a3 : Nat) (sz va ke : Int → Int) (mk : Int) (n i : Int) (hmk : 0 ≤ mk ∧ mk ≤ 60) (hcv : CV sz va mk) (h1 : -2147483648 ≤ n ∧ n < 2147483648) (h2 : -2147483648 ≤ i ∧ i < 2147483648) (hno : ¬ ((1 ≤ n ∧ n ≤ mk) ∧ 0 ≤ i ∧ i < sz n)) :
    MetT l yX10_at (wsX10_at ++ wsTh) { frames := 7, cells := 1, slots := 6, locals := 94 } (va_Pc [.ref x0, .int (iI n), .int (iI i)] (fun U => Std G [(x0, .inr (11, [.ref w0, .ref a0, .ref b0, .ref y0, .ref e0, .ref f0, .ref s0, .ref g0, .ref r0, .ref t0, .ref v0, .int (iI rf)])), (a0, .inr (2, [.ref a1, .ref a2, .ref a3, .int (iI mk)])), (a1, .inl (gI G, 61, .inl (fun j : Nat => iI (sz (j : Int))))), (a2, .inl (gL G, 61, .inr (.inl (fun j : Nat => lI (va (j : Int)))))), (a3, .inl (gL G, 61, .inr (.inl (fun j : Nat => lI (ke (j : Int))))))] zz U ∧ Tz (va_A [(x0, .inr (11, [.ref w0, .ref a0, .ref b0, .ref y0, .ref e0, .ref f0, .ref s0, .ref g0, .ref r0, .ref t0, .ref v0, .int (iI rf)])), (a0, .inr (2, [.ref a1, .ref a2, .ref a3, .int (iI mk)])), (a1, .inl (gI G, 61, .inl (fun j : Nat => iI (sz (j : Int))))), (a2, .inl (gL G, 61, .inr (.inl (fun j : Nat => lI (va (j : Int)))))), (a3, .inl (gL G, 61, .inr (.inl (fun j : Nat => lI (ke (j : Int))))))] zz) U)) (QT RJx00060) 1 6 (fun _ => False) := by
  refine metT_of (cc := cX10_at) (maxL := 4) (ret := some .byte) (by decide) rfl ?_
  intro p e s m args below meth c s₁ B hml hv
  obtain ⟨rfl, ⟨hsz, hP, hK, hD0, hZ, hT, hN⟩, hTz⟩ := hv
  have hlocks := B.notSynchronized
  have htsB := atoms_spec (ws := wsX10_at ++ wsTh) B.pre
  have hts : ∀ w ∈ wsX10_at, w.before [.ref x0, .int (iI n), .int (iI i)].toArray s = true := fun w h => htsB w (List.mem_append_left _ h)
  have htt : ∀ w ∈ wsTh, w.before [.ref x0, .int (iI n), .int (iI i)].toArray s = true := fun w h => htsB w (List.mem_append_right _ h)
  have hown : s.vm.findClass RX10 = some m.cls := findClass_of_methodNamed B.named
  have hnoh : ∀ x ∈ c.exceptionTable.toList, False := by
    have he := B.noHandlers (hts _ List.mem_cons_self)
    intro x hx
    have h0 : c.exceptionTable.size = 0 := by simpa [Array.isEmpty] using he
    have h1 : c.exceptionTable.toList = [] := List.eq_nil_of_length_eq_zero (by simpa using h0)
    rw [h1] at hx
    cases hx
  have htr : e.platform.stackTraces = false := Launch.traces_off hfl B.admits
  have hat := own_of htt hTz
  subst hsz
  have hD := hD0.self (sz := s.heap.size)
  generalize hAe : va_A [(x0, .inr (11, [.ref w0, .ref a0, .ref b0, .ref y0, .ref e0, .ref f0, .ref s0, .ref g0, .ref r0, .ref t0, .ref v0, .int (iI rf)])), (a0, .inr (2, [.ref a1, .ref a2, .ref a3, .int (iI mk)])), (a1, .inl (gI G, 61, .inl (fun j : Nat => iI (sz (j : Int))))), (a2, .inl (gL G, 61, .inr (.inl (fun j : Nat => lI (va (j : Int)))))), (a3, .inl (gL G, 61, .inr (.inl (fun j : Nat => lI (ke (j : Int))))))] s.heap.size = A at hD hZ hT
  have hA : ∀ q : Nat, s.heap.size ≤ q → A q := fun q h => by rw [← hAe]; exact Or.inr h
  have hl := lv_entry [.ref x0, .int (iI n), .int (iI i)] (n := 4) (Nat.le_of_ble_eq_true rfl)
  rw [lg_entry_eq]
  generalize (lg_sl [.ref x0, .int (iI n), .int (iI i)] ++ List.replicate (4 - (lg_sl [.ref x0, .int (iI n), .int (iI i)]).length) Slot.unset).toArray = ls at hl ⊢
  have hx := B.exec
  have hb := B.bytes
  have hl : lv_has ls 4 [(0, .ref x0), (1, .int (iI n)), (2, .int (iI i))] := hl
  have F : CallFix p m c cX10_at 4 s [.ref x0, .int (iI n), .int (iI i)].toArray wsX10_at RX10 := ⟨hx, hb, hml, hown, hts⟩
  have C : Ctx G A s := ⟨hK, hA, hZ, hT, hN⟩
  have hS : va_S A s.heap s.heap [] := va_S.rf
  have hfin : ∀ (ls : Array Slot) (H : Heap) (locs : List Loc), ls.size = 4 → H = s.heap → locs = [] → W p l e { frames := 7, cells := 1, slots := 6, locals := 94 } s m [.ref x0, .int (iI n), .int (iI i)].toArray below meth c H locs 0 0 (MQT below (QT RJx00060) [.ref x0, .int (iI n), .int (iI i)].toArray s 1 6 (fun _ => False)) (F0 m 28 ls []) := by
    intro ls H locs h4 hH hlo
    subst hH; subst hlo
    refine w_throw (own := RX10) (cls := RJx00060) (names := exN) (ia := 145) (ic := 147) hx hb (h4.trans hml.symm) htr hown (hts _ (List.mem_of_getElem? (i := 3) rfl)) (hts _ (List.mem_of_getElem? (i := 4) rfl)) (hts _ (List.mem_of_getElem? (i := 5) rfl)) (by decide +kernel) (by decide +kernel) hat hnoh hlocks (by decide) (by decide) (by decide) (by decide) dX10_at_28 dX10_at_31 dX10_at_32 dX10_at_35 ?_
    intro t a ce q1 q2 q3 q4 q5 q6 q7
    exact ⟨a, ce, rfl, q1, q2, q3, q4, q6, q7⟩
  obtain ⟨H, hH⟩ : ∃ H, H = s.heap := ⟨_, rfl⟩
  obtain ⟨locs, hlocs⟩ : ∃ l : List Loc, l = [] := ⟨_, rfl⟩
  have hS : va_S A s.heap H locs := by rw [hH, hlocs]; exact hS
  have hP : va_P G.1 vwCl [(x0, .inr (11, [.ref w0, .ref a0, .ref b0, .ref y0, .ref e0, .ref f0, .ref s0, .ref g0, .ref r0, .ref t0, .ref v0, .int (iI rf)])), (a0, .inr (2, [.ref a1, .ref a2, .ref a3, .int (iI mk)])), (a1, .inl (gI G, 61, .inl (fun j : Nat => iI (sz (j : Int))))), (a2, .inl (gL G, 61, .inr (.inl (fun j : Nat => lI (va (j : Int)))))), (a3, .inl (gL G, 61, .inr (.inl (fun j : Nat => lI (ke (j : Int))))))] H := by rw [hH]; exact hP
  suffices hgo : W p l e { frames := 7, cells := 1, slots := 6, locals := 94 } s m [.ref x0, .int (iI n), .int (iI i)].toArray below meth c H locs 0 0 (MQT below (QT RJx00060) [.ref x0, .int (iI n), .int (iI i)].toArray s 1 6 (fun _ => False)) (F0 m 0 ls []) by rw [hH, hlocs] at hgo; exact hgo
  have hiX10 : ∀ w ∈ wsX100, w ∈ wsX10_at := by decide +kernel
  have hw0 := hts (Cond.fieldLink RX10 86 "PlainCobol" "cells" "LPlainCobol$Cells;") (List.mem_of_getElem? (i := 1) rfl)
  have hiX1 : ∀ w ∈ wsX10, w ∈ wsX10_at := by decide +kernel
  have hw1 := hts (Cond.fieldLink RX10 141 "PlainCobol$Cells" "sizes" "[I") (List.mem_of_getElem? (i := 2) rfl)
  refine lv_aload_n hx hb dX10_at_0 rfl (lv_at hl 0 rfl) ?_
  refine va_get (D := G.1) (ci := 11) (v := .ref a0) (C := RX10) (T := TX10) (N := 12) hx hb hts hiX10 hown hK hP 0 rfl rfl 1 (by decide) hw0 (fun _ h9 => h9) rfl dX10_at_1 ?_
  refine lv_iload_n hx hb dX10_at_4 rfl (lv_at hl 1 rfl) ?_
  refine z_cVip (RV := (if 1 ≤ n ∧ n ≤ mk then 1 else 0)) (As := [.int (iI n)]) (rest := []) (wc := [(a0, .inr (2, [.ref a1, .ref a2, .ref a3, .int (iI mk)])), (a1, .inl (gI G, 61, .inl (fun j : Nat => iI (sz (j : Int))))), (a2, .inl (gL G, 61, .inr (.inl (fun j : Nat => lI (va (j : Int)))))), (a3, .inl (gL G, 61, .inr (.inl (fun j : Nat => lI (ke (j : Int))))))]) F C (c_X1_has_p l G H.size a0 a1 a2 a3 sz va ke mk n (by omega) (by omega)) (cwV 1 hts gX10_at_X1_has rfl rfl rfl (by decide +kernel) (by decide)) hP hD hS (q0 := 1) rfl rfl rfl [1, 2, 3, 4] rfl (by decide) rfl hl.1 rfl (Nat.le_of_ble_eq_true rfl) dX10_at_5 (by decide) ?_
  refine z_if_eq (tgt := 28) hx hb dX10_at_8 (by decide) (by split <;> omega) (fun c_1 => ?_) (fun c_1 => ?_)
  · exact hfin ls H locs hl.1 hH hlocs
  · have qc_1 := if_ne0 c_1
    refine lv_iload_n hx hb dX10_at_11 rfl (lv_at hl 2 rfl) ?_
    refine z_if_lt (tgt := 28) hx hb dX10_at_12 (by decide) (by omega) (fun c_2 => ?_) (fun c_2 => ?_)
    · exact hfin ls H locs hl.1 hH hlocs
    · have hvn := hcv n qc_1.1 qc_1.2
      refine lv_iload_n hx hb dX10_at_15 rfl (lv_at hl 2 rfl) ?_
      refine lv_aload_n hx hb dX10_at_16 rfl (lv_at hl 0 rfl) ?_
      refine va_get (D := G.1) (ci := 11) (v := .ref a0) (C := RX10) (T := TX10) (N := 12) hx hb hts hiX10 hown hK hP 0 rfl rfl 1 (by decide) hw0 (fun _ h9 => h9) rfl dX10_at_17 ?_
      refine va_get (D := G.1) (ci := 2) (v := .ref a1) (C := RX1) (T := TX1) (N := 4) hx hb hts hiX1 hown hK hP 1 rfl rfl 0 (by decide) hw1 (fun _ h9 => h9) rfl dX10_at_20 ?_
      refine lv_iload_n hx hb dX10_at_23 rfl (lv_at hl 1 rfl) ?_
      refine z_iald hx hb hK hP 2 0 rfl rfl (by omega) dX10_at_24 ?_
      refine z_icmp_lt (tgt := 36) hx hb dX10_at_25 (by decide) (by omega) (fun c_3 => ?_) (fun c_3 => ?_)
      · exfalso; omega
      · exact hfin ls H locs hl.1 hH hlocs

