/-! what stands when the law begins -/
theorem tb_in {k : Nat} {w : Cond} (h : tables_1[k]? = some w) : w ∈ lw_tbl := List.mem_append_right _ (List.mem_of_getElem? h)
theorem st_iJx00060 : Cond.instantiable RJx00060 6 ∈ lw_tbl := tb_in (k := 634) (by decide +kernel)
theorem st_iX0 : Cond.instantiable RX0 3 ∈ lw_tbl := tb_in (k := 30) (by decide +kernel)
theorem st_iX1 : Cond.instantiable RX1 4 ∈ lw_tbl := tb_in (k := 197) (by decide +kernel)
theorem st_iX2 : Cond.instantiable RX2 3 ∈ lw_tbl := tb_in (k := 59) (by decide +kernel)
theorem st_iX3 : Cond.instantiable RX3 4 ∈ lw_tbl := tb_in (k := 221) (by decide +kernel)
theorem st_iX4 : Cond.instantiable RX4 1 ∈ lw_tbl := tb_in (k := 116) (by decide +kernel)
theorem st_iX5 : Cond.instantiable RX5 3 ∈ lw_tbl := tb_in (k := 129) (by decide +kernel)
theorem st_iX6 : Cond.instantiable RX6 1 ∈ lw_tbl := tb_in (k := 174) (by decide +kernel)
theorem st_iX7 : Cond.instantiable RX7 7 ∈ lw_tbl := tb_in (k := 145) (by decide +kernel)
theorem st_iX8 : Cond.instantiable RX8 6 ∈ lw_tbl := tb_in (k := 81) (by decide +kernel)
theorem st_iX9 : Cond.instantiable RX9 7 ∈ lw_tbl := tb_in (k := 184) (by decide +kernel)
theorem st_iX10 : Cond.instantiable RX10 12 ∈ lw_tbl := tb_in (k := 21) (by decide +kernel)
theorem st_iX11 : Cond.instantiable RX11 31 ∈ lw_tbl := tb_in (k := 701) (by decide +kernel)
theorem st_aint : Cond.arrayClass .int ∈ lw_tbl := tb_in (k := 56) (by decide +kernel)
theorem st_along : Cond.arrayClass .long ∈ lw_tbl := tb_in (k := 57) (by decide +kernel)
theorem st_abyte : Cond.arrayClass .byte ∈ lw_tbl := tb_in (k := 127) (by decide +kernel)
theorem st_aboolean : Cond.arrayClass .boolean ∈ lw_tbl := tb_in (k := 172) (by decide +kernel)
theorem st_ao : Cond.arrayOver (.object "PlainCobol$Acts") ∈ lw_tbl := tb_in (k := 29) (by decide +kernel)
theorem st_n0 : Cond.fieldLinkNest RX1 26 "PlainCobol" "POWERS" "[J" RX10 ∈ lw_tbl := tb_in (k := 320) (by decide +kernel)
theorem st_n1 : Cond.methodLinkNest RX4 15 yX10_placeIndex RX10 ∈ lw_tbl := tb_in (k := 488) (by decide +kernel)
theorem st_n2 : Cond.methodLinkNest RX6 31 yX10_placeIndex RX10 ∈ lw_tbl := tb_in (k := 595) (by decide +kernel)
theorem st_n3 : Cond.methodLinkNest RX10 24 yX2_init RX10 ∈ lw_tbl := tb_in (k := 60) (by decide +kernel)
theorem st_n4 : Cond.methodLinkNest RX10 31 yX8_init RX10 ∈ lw_tbl := tb_in (k := 82) (by decide +kernel)
theorem st_n5 : Cond.methodLinkNest RX10 38 yX4_init RX10 ∈ lw_tbl := tb_in (k := 117) (by decide +kernel)
theorem st_n6 : Cond.methodLinkNest RX10 45 yX5_init RX10 ∈ lw_tbl := tb_in (k := 130) (by decide +kernel)
theorem st_n7 : Cond.methodLinkNest RX10 52 yX7_init RX10 ∈ lw_tbl := tb_in (k := 146) (by decide +kernel)
theorem st_n8 : Cond.methodLinkNest RX10 59 yX6_init RX10 ∈ lw_tbl := tb_in (k := 175) (by decide +kernel)
theorem st_n9 : Cond.methodLinkNest RX9 11 yX1_init RX10 ∈ lw_tbl := tb_in (k := 198) (by decide +kernel)
theorem st_n10 : Cond.methodLinkNest RX9 20 yX3_init RX10 ∈ lw_tbl := tb_in (k := 222) (by decide +kernel)
theorem st_pw : Cond.laysStatic "PlainCobol" "POWERS" "[J" ∈ lw_tbl := tb_in (k := 321) (by decide +kernel)
theorem st_px : Cond.initialized "PlainCobol" ∈ lw_tbl := tb_in (k := 1) (by decide +kernel)
theorem st_z1 : Cond.laysStatic Bundle.tN "UNASSIGNED_STACK" Bundle.steD ∈ lw_tbl := tb_in (k := 662) (by decide +kernel)
theorem st_z2 : Cond.laysStatic Bundle.tN "SUPPRESSED_SENTINEL" Bundle.listD ∈ lw_tbl := tb_in (k := 664) (by decide +kernel)
theorem st_cl : Cond.classLink RL 13 RJx00060 ∈ lw_tbl := tb_in (k := 628) (by decide +kernel)
theorem all_in {ws : List Cond} (h : ws.all (fun w => decide (w ∈ tables_1)) = true) : ∀ w ∈ ws, w ∈ lw_tbl := fun w hw => List.mem_append_right _ (of_decide_eq_true (List.all_eq_true.mp h w hw))
set_option maxRecDepth 20000 in
theorem st_th1 : ∀ w ∈ thW, w ∈ lw_tbl := all_in (by decide +kernel)
set_option maxRecDepth 20000 in
theorem st_th2 : ∀ w ∈ Bundle.chain0Atoms RJx00060 exN, w ∈ lw_tbl := all_in (by decide +kernel)
set_option maxRecDepth 20000 in
theorem st_th3 : ∀ w ∈ ([.methodLink RX10 147 (Bundle.init0 RJx00060), .instantiable RJx00060 6, .castable RJx00060 RJx00060, .selects RJx00060 Bundle.tFill0 Bundle.tFill0, .selects RJx00060 Bundle.tFill Bundle.tFill,
   .lays RJx00060 Bundle.tN "cause" "Ljava/lang/Throwable;", .lays RJx00060 Bundle.tN "stackTrace" Bundle.steD, .lays RJx00060 Bundle.tN "suppressedExceptions" Bundle.listD, .lays RJx00060 Bundle.tN "detailMessage" "Ljava/lang/String;",
   .fieldLink Bundle.tN 198 Bundle.tN "backtrace" "Ljava/lang/Object;", .lays Bundle.tN Bundle.tN "backtrace" "Ljava/lang/Object;", .lays RJx00060 Bundle.tN "backtrace" "Ljava/lang/Object;"] : List Cond), w ∈ lw_tbl := all_in (by decide +kernel)
theorem st_th : ∀ w ∈ wsTh, w ∈ lw_tbl := app_in (app_in st_th1 st_th2) st_th3
theorem arr_of {ty : FieldType} {args : Array Value} {s : State} (h : (Cond.arrayClass ty).before args s = true) : ∃ c, ArrOfT s c ty ∧ s.vm.findClass ("[" ++ ty.toString) = some c := by
  obtain ⟨c, k, comp, h1, h2, h3⟩ := Cond.arrayClass_spec h
  exact ⟨c, fun n z => ⟨fun k h => (by cases h), k, h2, comp, h3⟩, h1⟩
theorem arr_ob {C : String} {s : State} (h : va_AO C s) : ∃ c, ArrOfT s c (.object C) ∧ va_RA s c (.object C) := by
  obtain ⟨comp, c, k, h1, h2, h3, h4, h5⟩ := Cond.arrayOver_spec h
  exact ⟨c, fun n z => ⟨fun k h => (by cases h), k, h3, comp, h4⟩, k, comp, h3, h4, h1, h5⟩
theorem zs_of {args : Array Value} {s : State} {C n d : String} {A : Nat → Prop} (hl : (Cond.laysStatic C n d).before args s = true) (h : (Cond.isRef (.static C n d)).before args s = true) (hA : ∀ a : Nat, a < s.heap.size → ¬ A a) : Zs C n d A s s.heap := by
  obtain ⟨c, k, i, f, a, cell, hc, hi, hst, ha, hcell, hs, hcls, hlt, hty⟩ := Cond.laysStatic_spec hl
  cases hv : (Term.static C n d).eval args s none [] s with
  | none => simp [Cond.before, Cond.holds, Cond.value, hv] at h
  | some w =>
    simp only [Cond.before, Cond.holds, Cond.value, hv] at h
    obtain ⟨hst', a', cell', ha', hcell', -, hslot⟩ := Term.static_spec hi hv
    cases ha.symm.trans ha'
    cases hcell.symm.trans hcell'
    have hA' := hA a (Array.getElem?_eq_some_iff.mp hcell).1
    cases w with
    | null => exact ⟨c, k, i, f, a, cell, _, hc, hi, hst, ha, hcell, hs, hcls, hlt, hty, hslot, Or.inl rfl, hA'⟩
    | ref t => exact ⟨c, k, i, f, a, cell, _, hc, hi, hst, ha, hcell, hs, hcls, hlt, hty, hslot, Or.inr ⟨t, rfl⟩, hA'⟩
    | _ => simp at h
abbrev tmP : Term := .static "PlainCobol" "POWERS" "[J"
theorem pw_el {args : Array Value} {s : State} (h : ∀ w ∈ flatC (Jvm.Cond.and given_1 narrow_1), w.before args s = true) : ∀ j : Nat, j < 19 → (Term.elem tmP (.int (Int32.ofNat j))).eval args s none [] s = some (.long (lI (pw (j : Int)))) := by
  intro j hj
  rcases (show j = 0 ∨ j = 1 ∨ j = 2 ∨ j = 3 ∨ j = 4 ∨ j = 5 ∨ j = 6 ∨ j = 7 ∨ j = 8 ∨ j = 9 ∨ j = 10 ∨ j = 11 ∨ j = 12 ∨ j = 13 ∨ j = 14 ∨ j = 15 ∨ j = 16 ∨ j = 17 ∨ j = 18 by omega) with rfl | rfl | rfl | rfl | rfl | rfl | rfl | rfl | rfl | rfl | rfl | rfl | rfl | rfl | rfl | rfl | rfl | rfl | rfl
  · exact va_eqtl (h (.eq (.elem tmP (.int 0)) (.long 1)) (by decide +kernel))
  · exact va_eqtl (h (.eq (.elem tmP (.int 1)) (.long 10)) (by decide +kernel))
  · exact va_eqtl (h (.eq (.elem tmP (.int 2)) (.long 100)) (by decide +kernel))
  · exact va_eqtl (h (.eq (.elem tmP (.int 3)) (.long 1000)) (by decide +kernel))
  · exact va_eqtl (h (.eq (.elem tmP (.int 4)) (.long 10000)) (by decide +kernel))
  · exact va_eqtl (h (.eq (.elem tmP (.int 5)) (.long 100000)) (by decide +kernel))
  · exact va_eqtl (h (.eq (.elem tmP (.int 6)) (.long 1000000)) (by decide +kernel))
  · exact va_eqtl (h (.eq (.elem tmP (.int 7)) (.long 10000000)) (by decide +kernel))
  · exact va_eqtl (h (.eq (.elem tmP (.int 8)) (.long 100000000)) (by decide +kernel))
  · exact va_eqtl (h (.eq (.elem tmP (.int 9)) (.long 1000000000)) (by decide +kernel))
  · exact va_eqtl (h (.eq (.elem tmP (.int 10)) (.long 10000000000)) (by decide +kernel))
  · exact va_eqtl (h (.eq (.elem tmP (.int 11)) (.long 100000000000)) (by decide +kernel))
  · exact va_eqtl (h (.eq (.elem tmP (.int 12)) (.long 1000000000000)) (by decide +kernel))
  · exact va_eqtl (h (.eq (.elem tmP (.int 13)) (.long 10000000000000)) (by decide +kernel))
  · exact va_eqtl (h (.eq (.elem tmP (.int 14)) (.long 100000000000000)) (by decide +kernel))
  · exact va_eqtl (h (.eq (.elem tmP (.int 15)) (.long 1000000000000000)) (by decide +kernel))
  · exact va_eqtl (h (.eq (.elem tmP (.int 16)) (.long 10000000000000000)) (by decide +kernel))
  · exact va_eqtl (h (.eq (.elem tmP (.int 17)) (.long 100000000000000000)) (by decide +kernel))
  · exact va_eqtl (h (.eq (.elem tmP (.int 18)) (.long 1000000000000000000)) (by decide +kernel))
theorem start_ctx {b : Nat} {s : State} (hts : ∀ w ∈ lw_tbl, w.before #[Value.ref b] s = true) (hgv : (Jvm.Cond.and given_1 narrow_1).before #[Value.ref b] s = true) :
    ∃ G : Gx, Ctx G (fun q => s.heap.size ≤ q) s ∧ va_AO "PlainCobol$Acts" s ∧ Tz (fun q => s.heap.size ≤ q) s := by
  have hfl := flat_of_before _ hgv
  have hA : ∀ a : Nat, a < s.heap.size → ¬ (fun q : Nat => s.heap.size ≤ q) a := fun a h => Nat.not_le.mpr h
  obtain ⟨c0, i0, k0⟩ := u_known (C := RJx00060) (T := TJx00060) (N := 6) (n := 6) hts inJx00060 (hts _ st_iJx00060)
  obtain ⟨c1, i1, k1⟩ := u_known (C := RX0) (T := TX0) (N := 3) (n := 3) hts inX0 (hts _ st_iX0)
  obtain ⟨c2, i2, k2⟩ := u_known (C := RX1) (T := TX1) (N := 4) (n := 4) hts inX1 (hts _ st_iX1)
  obtain ⟨c3, i3, k3⟩ := u_known (C := RX2) (T := TX2) (N := 3) (n := 3) hts inX2 (hts _ st_iX2)
  obtain ⟨c4, i4, k4⟩ := u_known (C := RX3) (T := TX3) (N := 4) (n := 4) hts inX3 (hts _ st_iX3)
  obtain ⟨c5, i5, k5⟩ := u_known (C := RX4) (T := TX4) (N := 1) (n := 1) hts inX4 (hts _ st_iX4)
  obtain ⟨c6, i6, k6⟩ := u_known (C := RX5) (T := TX5) (N := 3) (n := 3) hts inX5 (hts _ st_iX5)
  obtain ⟨c7, i7, k7⟩ := u_known (C := RX6) (T := TX6) (N := 1) (n := 1) hts inX6 (hts _ st_iX6)
  obtain ⟨c8, i8, k8⟩ := u_known (C := RX7) (T := TX7) (N := 7) (n := 7) hts inX7 (hts _ st_iX7)
  obtain ⟨c9, i9, k9⟩ := u_known (C := RX8) (T := TX8) (N := 6) (n := 6) hts inX8 (hts _ st_iX8)
  obtain ⟨c10, i10, k10⟩ := u_known (C := RX9) (T := TX9) (N := 7) (n := 7) hts inX9 (hts _ st_iX9)
  obtain ⟨c11, i11, k11⟩ := u_known (C := RX10) (T := TX10) (N := 12) (n := 12) hts inX10 (hts _ st_iX10)
  obtain ⟨c12, i12, k12⟩ := u_known (C := RX11) (T := TX11) (N := 31) (n := 31) hts inX11 (hts _ st_iX11)
  have hao : va_AO "PlainCobol$Acts" s := va_AO.of (hts _ st_ao)
  obtain ⟨gi, gi1, gi2⟩ := arr_of (hts _ st_aint)
  obtain ⟨gl, gl1, gl2⟩ := arr_of (hts _ st_along)
  obtain ⟨gb, gb1, gb2⟩ := arr_of (hts _ st_abyte)
  obtain ⟨gz, gz1, gz2⟩ := arr_of (hts _ st_aboolean)
  obtain ⟨gq, gq1, gq2⟩ := arr_ob hao
  obtain ⟨t, ht, hT⟩ := va_Tof (tm := tmP) (ty := .long) (N := 19) (f := fun j => .long (lI (pw (j : Int)))) (A := fun q : Nat => s.heap.size ≤ q) (by decide) (hfl (.arrayOf tmP .long) (by decide +kernel)) (va_eqt (hfl (.eq (.length tmP) (.int 19)) (by decide +kernel))) (pw_el hfl) hA
  have hZ : va_Z "PlainCobol" "POWERS" "[J" (.ref t) (fun q : Nat => s.heap.size ≤ q) s s.heap := va_Zref (hts _ st_pw) (hts _ st_px) ht hA
  refine ⟨((fun k => if k = 0 then c0 else if k = 1 then c1 else if k = 2 then c2 else if k = 3 then c3 else if k = 4 then c4 else if k = 5 then c5 else if k = 6 then c6 else if k = 7 then c7 else if k = 8 then c8 else if k = 9 then c9 else if k = 10 then c10 else if k = 11 then c11 else c12, fun k => if k = 0 then i0 else if k = 1 then i1 else if k = 2 then i2 else if k = 3 then i3 else if k = 4 then i4 else if k = 5 then i5 else if k = 6 then i6 else if k = 7 then i7 else if k = 8 then i8 else if k = 9 then i9 else if k = 10 then i10 else if k = 11 then i11 else i12), (gi, gl, gb, gz, gq), t), ⟨⟨?_, ?_⟩, fun q h => h, hZ, hT, ?_⟩, hao, zs_of (hts _ st_z1) (hfl (.isRef (.static Bundle.tN "UNASSIGNED_STACK" Bundle.steD)) (by decide +kernel)) hA, zs_of (hts _ st_z2) (hfl (.isRef (.static Bundle.tN "SUPPRESSED_SENTINEL" Bundle.listD)) (by decide +kernel)) hA⟩
  · intro k q hq
    match k, hq with
    | 0, hq => cases hq; exact k0
    | 1, hq => cases hq; exact k1
    | 2, hq => cases hq; exact k2
    | 3, hq => cases hq; exact k3
    | 4, hq => cases hq; exact k4
    | 5, hq => cases hq; exact k5
    | 6, hq => cases hq; exact k6
    | 7, hq => cases hq; exact k7
    | 8, hq => cases hq; exact k8
    | 9, hq => cases hq; exact k9
    | 10, hq => cases hq; exact k10
    | 11, hq => cases hq; exact k11
    | 12, hq => cases hq; exact k12
    | k + 13, hq => simp [vwCl] at hq
  · intro k q hq
    match k, hq with
    | 0, hq => cases hq; exact ⟨gi1, gi2⟩
    | 1, hq => cases hq; exact ⟨gl1, gl2⟩
    | 2, hq => cases hq; exact ⟨gb1, gb2⟩
    | 3, hq => cases hq; exact ⟨gz1, gz2⟩
    | 4, hq => cases hq; exact ⟨gq1, gq2⟩
    | k + 5, hq => simp [tyL] at hq
  · exact ⟨va_Nw.of (by decide +kernel) (hts _ st_n0), va_Nw.of (by decide +kernel) (hts _ st_n1), va_Nw.of (by decide +kernel) (hts _ st_n2), va_Nw.of (by decide +kernel) (hts _ st_n3), va_Nw.of (by decide +kernel) (hts _ st_n4), va_Nw.of (by decide +kernel) (hts _ st_n5), va_Nw.of (by decide +kernel) (hts _ st_n6), va_Nw.of (by decide +kernel) (hts _ st_n7), va_Nw.of (by decide +kernel) (hts _ st_n8), va_Nw.of (by decide +kernel) (hts _ st_n9), va_Nw.of (by decide +kernel) (hts _ st_n10)⟩
