section ZN2
variable {p : Program} {l : Launch} {e : Env} {R : Room} {s : State} {m : MethodId} {args : Array Value} {below : List Frame} {meth : Method} {c : Code} {H : Heap} {locs : List Loc} {cells slots : Nat} {Q : State → Prop}
variable {cc : ByteArray} {pc : Nat} {ls : Array Slot} {rest : List Value} {G : Gx} {A : Nat → Prop} {ws : va_W}
theorem z_newQ (hx : p.tables.exec = Jvm.exec) (hb : c.code = cc) {own : String} {index : Nat} (hown : s.vm.findClass own = some m.cls) (hcl : (Cond.classLink own index "PlainCobol$Acts").before args s = true) (hAO : va_AO "PlainCobol$Acts" s) (C : Ctx G A s) (hP : va_P G.1 vwCl ws H) (hD : va_D A ws) (hS : va_S A s.heap H locs) {z : Int} (N' : Nat) (hz : z = (N' : Int)) (hsm : N' ≤ 5000) (hcells : cells + 1 ≤ R.cells) (hslots : slots + N' ≤ R.slots) (d : decode cc pc = .ok (.anewarray index, 3))
    (kk : ∀ (q : Nat) (H1 : Heap), va_P G.1 vwCl (ws ++ [(q, .inl (gQ G, N', .inr (.inr (.inr (.inr (fun _ => none))))))]) H1 → va_D A (ws ++ [(q, .inl (gQ G, N', .inr (.inr (.inr (.inr (fun _ => none))))))]) → va_S A s.heap H1 locs → W p l e R s m args below meth c H1 locs (cells + 1) (slots + N') Q (F0 m (pc + 3) ls (.ref q :: rest))) : W p l e R s m args below meth c H locs cells slots Q (F0 m pc ls (.int (iI z) :: rest)) := by
  subst hz
  refine va_newq hx hb hown hcl hAO C.1 hP hD hS C.2.1 (N' := N') (fun h => by rw [← iI_0, iI_lt (by omega) (by omega)] at h; omega) (by rw [iI_clamp (by omega)]; omega) (Nat.le_trans (Nat.mul_le_mul hsm (show 4 ≤ 4 by decide)) (by decide)) hcells hslots d (fun q cA H1 hK2 h1 h2 h3 => ?_)
  obtain ⟨kA, comp, -, -, -, e1⟩ := (hK2.2 5 (cA, .object "PlainCobol$Acts") rfl).2
  obtain ⟨kB, comb, -, -, -, e2⟩ := (C.1.2 4 (gQ G, .object "PlainCobol$Acts") rfl).2
  have e3 : cA = gQ G := Option.some.inj (e1.symm.trans e2)
  rw [e3] at h1 h2
  exact kk q H1 h1 h2 h3

theorem z_lmax (hx : p.tables.exec = Jvm.exec) (hb : c.code = cc) (hml : c.maxLocals = ls.size) {own : String} {index : Nat} (hown : s.vm.findClass own = some m.cls) (hlink : (Cond.methodLink own index Lib.MathLoose.max_long.x).before args s = true) (hstat : (Cond.static Lib.MathLoose.max_long.x).before args s = true) (hini : (Cond.initialized "java/lang/Math").before args s = true) (hcode : (Cond.code Lib.MathLoose.max_long.x Lib.MathLoose.max_long.code 4 (some .long)).before args s = true) (hf : 1 ≤ R.frames ∧ (rest.map fun v => v.category).sum + 15 ≤ R.locals) (hcs : cells ≤ R.cells ∧ slots ≤ R.slots) {x y : Int} (hr : (-9223372036854775808 ≤ x ∧ x < 9223372036854775808) ∧ (-9223372036854775808 ≤ y ∧ y < 9223372036854775808)) (d : decode cc pc = .ok (.invokestatic index, 3)) (k : W p l e R s m args below meth c H locs cells slots Q (F0 m (pc + 3) ls (.long (lI (max x y)) :: rest))) : W p l e R s m args below meth c H locs cells slots Q (F0 m pc ls (.long (lI y) :: .long (lI x) :: rest)) := by
  refine va_mmax_long hx hb hml hown hlink hstat hini hcode hf.1 (by omega) hcs.1 hcs.2 d ?_
  have e : (if lI y < lI x then lI x else lI y) = lI (max x y) := by
    have q := lI_lt hr.2 hr.1; split <;> rename_i h <;> rw [q] at h <;> congr 1 <;> omega
  rw [e]; exact k
theorem z_lmin (hx : p.tables.exec = Jvm.exec) (hb : c.code = cc) (hml : c.maxLocals = ls.size) {own : String} {index : Nat} (hown : s.vm.findClass own = some m.cls) (hlink : (Cond.methodLink own index Lib.MathLoose.min_long.x).before args s = true) (hstat : (Cond.static Lib.MathLoose.min_long.x).before args s = true) (hini : (Cond.initialized "java/lang/Math").before args s = true) (hcode : (Cond.code Lib.MathLoose.min_long.x Lib.MathLoose.min_long.code 4 (some .long)).before args s = true) (hf : 1 ≤ R.frames ∧ (rest.map fun v => v.category).sum + 15 ≤ R.locals) (hcs : cells ≤ R.cells ∧ slots ≤ R.slots) {x y : Int} (hr : (-9223372036854775808 ≤ x ∧ x < 9223372036854775808) ∧ (-9223372036854775808 ≤ y ∧ y < 9223372036854775808)) (d : decode cc pc = .ok (.invokestatic index, 3)) (k : W p l e R s m args below meth c H locs cells slots Q (F0 m (pc + 3) ls (.long (lI (min x y)) :: rest))) : W p l e R s m args below meth c H locs cells slots Q (F0 m pc ls (.long (lI y) :: .long (lI x) :: rest)) := by
  refine va_mmin_long hx hb hml hown hlink hstat hini hcode hf.1 (by omega) hcs.1 hcs.2 d ?_
  have e : (if lI y < lI x then lI y else lI x) = lI (min x y) := by
    have q := lI_lt hr.2 hr.1; split <;> rename_i h <;> rw [q] at h <;> congr 1 <;> omega
  rw [e]; exact k
end ZN2
set_option maxHeartbeats 4000000 in
set_option maxRecDepth 100000 in
theorem c_X0_init (l : Launch) (G : Gx) (zz : Nat) (u0 cp : Nat) (hcp : cp ≤ 1000) : CN l yX0_init wsX0_init (rc 1 13 (2) (cp + cp)) G [.ref u0, .int (iI cp)] [(u0, .inr (1, [.null, .null, .int (iI 0)]))] zz (fun uu : (Nat) × (Nat) => [(u0, .inr (1, [.ref uu.1, .ref uu.2, .int (iI 0)])), (uu.1, .inl (gI G, cp, .inl (fun j : Nat => iI (zF (j : Int))))), (uu.2, .inl (gL G, cp, .inr (.inl (fun j : Nat => lI (zF (j : Int))))))]) (2) (cp + cp) := by
  refine met_N (cc := cX0_init) (maxL := 3) (by decide) rfl rfl (Nat.le_of_ble_eq_true rfl) ?_
  intro p e s m below meth c A Q F hin hAO C hP hD hS hret ls hl
  obtain ⟨hx, hb, hml, hown, hts⟩ := id F
  obtain ⟨hK, hA, hZ, hT, hN⟩ := id C
  have hl : lv_has ls 3 [(0, .ref u0), (1, .int (iI cp))] := hl
  obtain ⟨H, hH⟩ : ∃ H, H = s.heap := ⟨_, rfl⟩
  obtain ⟨locs, hlocs⟩ : ∃ l : List Loc, l = [] := ⟨_, rfl⟩
  have hS : va_S A s.heap H locs := by rw [hH, hlocs]; exact hS
  have hP : va_P G.1 vwCl [(u0, .inr (1, [.null, .null, .int (iI 0)]))] H := by rw [hH]; exact hP
  suffices hgo : W p l e (rc 1 13 (2) (cp + cp)) s m [.ref u0, .int (iI cp)].toArray below meth c H locs 0 0 Q (F0 m 0 ls []) by rw [hH, hlocs] at hgo; exact hgo
  have hw0 := hts (Cond.methodLink RX0 3 objectInit) (List.mem_of_getElem? (i := 1) rfl)
  have hw1 := hts (Cond.instanceMethod objectInit) (List.mem_of_getElem? (i := 2) rfl)
  have hw2 := hts (Cond.code objectInit ⟨#[0xb1]⟩ 1 none) (List.mem_of_getElem? (i := 3) rfl)
  have hw3 := hts (Cond.methodLink RX0 9 Lib.Math.max.name) (List.mem_of_getElem? (i := 4) rfl)
  have hw4 := hts (Cond.static Lib.Math.max.name) (List.mem_of_getElem? (i := 5) rfl)
  have hw5 := hts (Cond.initialized "java/lang/Math") (List.mem_of_getElem? (i := 6) rfl)
  have hw6 := hts (Cond.code Lib.Math.max.name Lib.Math.max.code 2 (some .int)) (List.mem_of_getElem? (i := 7) rfl)
  have hw7 := hts (Cond.arrayClass .int) (List.mem_of_getElem? (i := 8) rfl)
  have hiX0 : ∀ w ∈ wsX00, w ∈ wsX0_init := by decide +kernel
  have hw8 := hts (Cond.fieldLink RX0 15 "PlainCobol$Acts" "codes" "[I") (List.mem_of_getElem? (i := 9) rfl)
  have hw9 := hts (Cond.arrayClass .long) (List.mem_of_getElem? (i := 10) rfl)
  have hw10 := hts (Cond.fieldLink RX0 21 "PlainCobol$Acts" "values" "[J") (List.mem_of_getElem? (i := 11) rfl)
  refine lv_aload_n hx hb dX0_init_0 rfl (lv_at hl 0 rfl) ?_
  refine W.objInit hx hb hown hw0 hw1 hw2 rfl (by rw [hml]; exact hl.1) rfl dX0_init_1 (Nat.le_of_ble_eq_true rfl) (Nat.le_of_ble_eq_true rfl) ?_
  refine W.eq (g2 := F0 m 4 ls []) rfl ?_
  refine lv_iconst (v := iI (0)) hx hb dX0_init_4 rfl ?_
  refine lv_iload_n hx hb dX0_init_5 rfl (lv_at hl 1 rfl) ?_
  refine z_imax hx hb (hml.trans hl.1.symm) hown hw3 hw4 hw5 hw6 ⟨Nat.le_of_ble_eq_true rfl, Nat.le_of_ble_eq_true rfl⟩ ⟨Nat.zero_le _, Nat.zero_le _⟩ (by omega) dX0_init_6 ?_
  refine z_top (w := .int (iI cp)) (congrArg _ (congrArg iI (by omega))) ?_
  refine lv_istore_n (lv' := [(2, .int (iI cp)), (0, .ref u0), (1, .int (iI cp))]) hx hb dX0_init_9 rfl hl (by decide) rfl (fun ls hl => ?_)
  refine lv_aload_n hx hb dX0_init_10 rfl (lv_at hl 1 rfl) ?_
  refine lv_iload_n hx hb dX0_init_11 rfl (lv_at hl 0 rfl) ?_
  refine z_newI hx hb hw7 C hP hD hS (cp) (by omega) (by omega) (by first | exact Nat.le_of_ble_eq_true rfl | (show 0 + 1 ≤ 2; omega)) (by first | exact Nat.le_of_ble_eq_true rfl | (show 0 + (cp) ≤ cp + cp; omega)) dX0_init_12 (fun nq1 H hP hD hS => ?_)
  have hP : va_P G.1 vwCl [(u0, .inr (1, [.null, .null, .int (iI 0)])), (nq1, .inl (gI G, cp, .inl (fun j : Nat => iI (zF (j : Int)))))] H := hP
  have hD : va_D A [(u0, .inr (1, [.null, .null, .int (iI 0)])), (nq1, .inl (gI G, cp, .inl (fun j : Nat => iI (zF (j : Int)))))] := hD
  refine va_putF (D := G.1) (ci := 1) (v := .ref nq1) (ty := .array .int) (C := RX0) (T := TX0) (N := 3) hx hb hts hiX0 tyX0 tyX0_ok nmX0 hown hK hP hD hS 0 rfl rfl 0 (by decide) hw8 (fun _ h9 => h9) rfl hin rfl (by decide +kernel) rfl rfl (Nat.le_of_ble_eq_true rfl) dX0_init_14 (fun H locs hP hD hS => ?_)
  have hP : va_P G.1 vwCl [(u0, .inr (1, [.ref nq1, .null, .int (iI 0)])), (nq1, .inl (gI G, cp, .inl (fun j : Nat => iI (zF (j : Int)))))] H := hP
  have hD : va_D A [(u0, .inr (1, [.ref nq1, .null, .int (iI 0)])), (nq1, .inl (gI G, cp, .inl (fun j : Nat => iI (zF (j : Int)))))] := hD
  refine lv_aload_n hx hb dX0_init_17 rfl (lv_at hl 1 rfl) ?_
  refine lv_iload_n hx hb dX0_init_18 rfl (lv_at hl 0 rfl) ?_
  refine z_newL hx hb hw9 C hP hD hS (cp) (by omega) (by omega) (by first | exact Nat.le_of_ble_eq_true rfl | (show 0 + 1 + 1 ≤ 2; omega)) (by first | exact Nat.le_of_ble_eq_true rfl | (show 0 + (cp) + (cp) ≤ cp + cp; omega)) dX0_init_19 (fun nq2 H hP hD hS => ?_)
  have hP : va_P G.1 vwCl [(u0, .inr (1, [.ref nq1, .null, .int (iI 0)])), (nq1, .inl (gI G, cp, .inl (fun j : Nat => iI (zF (j : Int))))), (nq2, .inl (gL G, cp, .inr (.inl (fun j : Nat => lI (zF (j : Int))))))] H := hP
  have hD : va_D A [(u0, .inr (1, [.ref nq1, .null, .int (iI 0)])), (nq1, .inl (gI G, cp, .inl (fun j : Nat => iI (zF (j : Int))))), (nq2, .inl (gL G, cp, .inr (.inl (fun j : Nat => lI (zF (j : Int))))))] := hD
  refine va_putF (D := G.1) (ci := 1) (v := .ref nq2) (ty := .array .long) (C := RX0) (T := TX0) (N := 3) hx hb hts hiX0 tyX0 tyX0_ok nmX0 hown hK hP hD hS 0 rfl rfl 1 (by decide) hw10 (fun _ h9 => h9) rfl hin rfl (by decide +kernel) rfl rfl (Nat.le_of_ble_eq_true rfl) dX0_init_21 (fun H locs hP hD hS => ?_)
  have hP : va_P G.1 vwCl [(u0, .inr (1, [.ref nq1, .ref nq2, .int (iI 0)])), (nq1, .inl (gI G, cp, .inl (fun j : Nat => iI (zF (j : Int))))), (nq2, .inl (gL G, cp, .inr (.inl (fun j : Nat => lI (zF (j : Int))))))] H := hP
  have hD : va_D A [(u0, .inr (1, [.ref nq1, .ref nq2, .int (iI 0)])), (nq1, .inl (gI G, cp, .inl (fun j : Nat => iI (zF (j : Int))))), (nq2, .inl (gL G, cp, .inr (.inl (fun j : Nat => lI (zF (j : Int))))))] := hD
  refine W.widen (k := 2) (n := cp + cp) (by omega) (by omega) ?_
  exact hret (nq1, nq2) _ ls H locs dX0_init_24 hP hD hS

set_option maxHeartbeats 4000000 in
set_option maxRecDepth 100000 in
theorem c_X1_init (l : Launch) (G : Gx) (zz : Nat) (o0 : Nat)  : CN l yX1_init wsX1_init (rc 1 12 (3) (183)) G [.ref o0] [(o0, .inr (2, [.null, .null, .null, .int (iI 0)]))] zz (fun uu : (Nat) × (Nat) × (Nat) => [(o0, .inr (2, [.ref uu.1, .ref uu.2.1, .ref uu.2.2, .int (iI 0)])), (uu.1, .inl (gI G, 61, .inl (fun j : Nat => iI (zF (j : Int))))), (uu.2.1, .inl (gL G, 61, .inr (.inl (fun j : Nat => lI (zF (j : Int)))))), (uu.2.2, .inl (gL G, 61, .inr (.inl (fun j : Nat => lI (zF (j : Int))))))]) (3) (183) := by
  refine met_N (cc := cX1_init) (maxL := 1) (by decide) rfl rfl (Nat.le_of_ble_eq_true rfl) ?_
  intro p e s m below meth c A Q F hin hAO C hP hD hS hret ls hl
  obtain ⟨hx, hb, hml, hown, hts⟩ := id F
  obtain ⟨hK, hA, hZ, hT, hN⟩ := id C
  have hl : lv_has ls 1 [(0, .ref o0)] := hl
  obtain ⟨H, hH⟩ : ∃ H, H = s.heap := ⟨_, rfl⟩
  obtain ⟨locs, hlocs⟩ : ∃ l : List Loc, l = [] := ⟨_, rfl⟩
  have hS : va_S A s.heap H locs := by rw [hH, hlocs]; exact hS
  have hP : va_P G.1 vwCl [(o0, .inr (2, [.null, .null, .null, .int (iI 0)]))] H := by rw [hH]; exact hP
  suffices hgo : W p l e (rc 1 12 (3) (183)) s m [.ref o0].toArray below meth c H locs 0 0 Q (F0 m 0 ls []) by rw [hH, hlocs] at hgo; exact hgo
  have hw0 := hts (Cond.methodLink RX1 3 objectInit) (List.mem_of_getElem? (i := 1) rfl)
  have hw1 := hts (Cond.instanceMethod objectInit) (List.mem_of_getElem? (i := 2) rfl)
  have hw2 := hts (Cond.code objectInit ⟨#[0xb1]⟩ 1 none) (List.mem_of_getElem? (i := 3) rfl)
  have hw3 := hts (Cond.arrayClass .int) (List.mem_of_getElem? (i := 4) rfl)
  have hiX1 : ∀ w ∈ wsX10, w ∈ wsX1_init := by decide +kernel
  have hw4 := hts (Cond.fieldLink RX1 9 "PlainCobol$Cells" "sizes" "[I") (List.mem_of_getElem? (i := 5) rfl)
  have hw5 := hts (Cond.arrayClass .long) (List.mem_of_getElem? (i := 6) rfl)
  have hw6 := hts (Cond.fieldLink RX1 15 "PlainCobol$Cells" "values" "[J") (List.mem_of_getElem? (i := 7) rfl)
  have hw7 := hts (Cond.fieldLink RX1 19 "PlainCobol$Cells" "kept" "[J") (List.mem_of_getElem? (i := 8) rfl)
  refine lv_aload_n hx hb dX1_init_0 rfl (lv_at hl 0 rfl) ?_
  refine W.objInit hx hb hown hw0 hw1 hw2 rfl (by rw [hml]; exact hl.1) rfl dX1_init_1 (Nat.le_of_ble_eq_true rfl) (Nat.le_of_ble_eq_true rfl) ?_
  refine W.eq (g2 := F0 m 4 ls []) rfl ?_
  refine lv_aload_n hx hb dX1_init_4 rfl (lv_at hl 0 rfl) ?_
  refine lv_bipush (v := iI (61)) hx hb dX1_init_5 (by decide) ?_
  refine z_newI hx hb hw3 C hP hD hS (61) (by omega) (by omega) (by first | exact Nat.le_of_ble_eq_true rfl | (show 0 + 1 ≤ 3; omega)) (by first | exact Nat.le_of_ble_eq_true rfl | (show 0 + (61) ≤ 183; omega)) dX1_init_7 (fun nq1 H hP hD hS => ?_)
  have hP : va_P G.1 vwCl [(o0, .inr (2, [.null, .null, .null, .int (iI 0)])), (nq1, .inl (gI G, 61, .inl (fun j : Nat => iI (zF (j : Int)))))] H := hP
  have hD : va_D A [(o0, .inr (2, [.null, .null, .null, .int (iI 0)])), (nq1, .inl (gI G, 61, .inl (fun j : Nat => iI (zF (j : Int)))))] := hD
  refine va_putF (D := G.1) (ci := 2) (v := .ref nq1) (ty := .array .int) (C := RX1) (T := TX1) (N := 4) hx hb hts hiX1 tyX1 tyX1_ok nmX1 hown hK hP hD hS 0 rfl rfl 0 (by decide) hw4 (fun _ h9 => h9) rfl hin rfl (by decide +kernel) rfl rfl (Nat.le_of_ble_eq_true rfl) dX1_init_9 (fun H locs hP hD hS => ?_)
  have hP : va_P G.1 vwCl [(o0, .inr (2, [.ref nq1, .null, .null, .int (iI 0)])), (nq1, .inl (gI G, 61, .inl (fun j : Nat => iI (zF (j : Int)))))] H := hP
  have hD : va_D A [(o0, .inr (2, [.ref nq1, .null, .null, .int (iI 0)])), (nq1, .inl (gI G, 61, .inl (fun j : Nat => iI (zF (j : Int)))))] := hD
  refine lv_aload_n hx hb dX1_init_12 rfl (lv_at hl 0 rfl) ?_
  refine lv_bipush (v := iI (61)) hx hb dX1_init_13 (by decide) ?_
  refine z_newL hx hb hw5 C hP hD hS (61) (by omega) (by omega) (by first | exact Nat.le_of_ble_eq_true rfl | (show 0 + 1 + 1 ≤ 3; omega)) (by first | exact Nat.le_of_ble_eq_true rfl | (show 0 + (61) + (61) ≤ 183; omega)) dX1_init_15 (fun nq2 H hP hD hS => ?_)
  have hP : va_P G.1 vwCl [(o0, .inr (2, [.ref nq1, .null, .null, .int (iI 0)])), (nq1, .inl (gI G, 61, .inl (fun j : Nat => iI (zF (j : Int))))), (nq2, .inl (gL G, 61, .inr (.inl (fun j : Nat => lI (zF (j : Int))))))] H := hP
  have hD : va_D A [(o0, .inr (2, [.ref nq1, .null, .null, .int (iI 0)])), (nq1, .inl (gI G, 61, .inl (fun j : Nat => iI (zF (j : Int))))), (nq2, .inl (gL G, 61, .inr (.inl (fun j : Nat => lI (zF (j : Int))))))] := hD
  refine va_putF (D := G.1) (ci := 2) (v := .ref nq2) (ty := .array .long) (C := RX1) (T := TX1) (N := 4) hx hb hts hiX1 tyX1 tyX1_ok nmX1 hown hK hP hD hS 0 rfl rfl 1 (by decide) hw6 (fun _ h9 => h9) rfl hin rfl (by decide +kernel) rfl rfl (Nat.le_of_ble_eq_true rfl) dX1_init_17 (fun H locs hP hD hS => ?_)
  have hP : va_P G.1 vwCl [(o0, .inr (2, [.ref nq1, .ref nq2, .null, .int (iI 0)])), (nq1, .inl (gI G, 61, .inl (fun j : Nat => iI (zF (j : Int))))), (nq2, .inl (gL G, 61, .inr (.inl (fun j : Nat => lI (zF (j : Int))))))] H := hP
  have hD : va_D A [(o0, .inr (2, [.ref nq1, .ref nq2, .null, .int (iI 0)])), (nq1, .inl (gI G, 61, .inl (fun j : Nat => iI (zF (j : Int))))), (nq2, .inl (gL G, 61, .inr (.inl (fun j : Nat => lI (zF (j : Int))))))] := hD
  refine lv_aload_n hx hb dX1_init_20 rfl (lv_at hl 0 rfl) ?_
  refine lv_bipush (v := iI (61)) hx hb dX1_init_21 (by decide) ?_
  refine z_newL hx hb hw5 C hP hD hS (61) (by omega) (by omega) (by first | exact Nat.le_of_ble_eq_true rfl | (show 0 + 1 + 1 + 1 ≤ 3; omega)) (by first | exact Nat.le_of_ble_eq_true rfl | (show 0 + (61) + (61) + (61) ≤ 183; omega)) dX1_init_23 (fun nq3 H hP hD hS => ?_)
  have hP : va_P G.1 vwCl [(o0, .inr (2, [.ref nq1, .ref nq2, .null, .int (iI 0)])), (nq1, .inl (gI G, 61, .inl (fun j : Nat => iI (zF (j : Int))))), (nq2, .inl (gL G, 61, .inr (.inl (fun j : Nat => lI (zF (j : Int)))))), (nq3, .inl (gL G, 61, .inr (.inl (fun j : Nat => lI (zF (j : Int))))))] H := hP
  have hD : va_D A [(o0, .inr (2, [.ref nq1, .ref nq2, .null, .int (iI 0)])), (nq1, .inl (gI G, 61, .inl (fun j : Nat => iI (zF (j : Int))))), (nq2, .inl (gL G, 61, .inr (.inl (fun j : Nat => lI (zF (j : Int)))))), (nq3, .inl (gL G, 61, .inr (.inl (fun j : Nat => lI (zF (j : Int))))))] := hD
  refine va_putF (D := G.1) (ci := 2) (v := .ref nq3) (ty := .array .long) (C := RX1) (T := TX1) (N := 4) hx hb hts hiX1 tyX1 tyX1_ok nmX1 hown hK hP hD hS 0 rfl rfl 2 (by decide) hw7 (fun _ h9 => h9) rfl hin rfl (by decide +kernel) rfl rfl (Nat.le_of_ble_eq_true rfl) dX1_init_25 (fun H locs hP hD hS => ?_)
  have hP : va_P G.1 vwCl [(o0, .inr (2, [.ref nq1, .ref nq2, .ref nq3, .int (iI 0)])), (nq1, .inl (gI G, 61, .inl (fun j : Nat => iI (zF (j : Int))))), (nq2, .inl (gL G, 61, .inr (.inl (fun j : Nat => lI (zF (j : Int)))))), (nq3, .inl (gL G, 61, .inr (.inl (fun j : Nat => lI (zF (j : Int))))))] H := hP
  have hD : va_D A [(o0, .inr (2, [.ref nq1, .ref nq2, .ref nq3, .int (iI 0)])), (nq1, .inl (gI G, 61, .inl (fun j : Nat => iI (zF (j : Int))))), (nq2, .inl (gL G, 61, .inr (.inl (fun j : Nat => lI (zF (j : Int)))))), (nq3, .inl (gL G, 61, .inr (.inl (fun j : Nat => lI (zF (j : Int))))))] := hD
  refine W.widen (k := 3) (n := 183) (by omega) (by omega) ?_
  exact hret (nq1, nq2, nq3) _ ls H locs dX1_init_28 hP hD hS

set_option maxHeartbeats 4000000 in
set_option maxRecDepth 100000 in
theorem c_X3_init (l : Launch) (G : Gx) (zz : Nat) (o0 : Nat)  : CN l yX3_init wsX3_init (rc 1 12 (3) (603)) G [.ref o0] [(o0, .inr (4, [.null, .null, .null, .int (iI 0)]))] zz (fun uu : (Nat) × (Nat) × (Nat) => [(o0, .inr (4, [.ref uu.1, .ref uu.2.1, .ref uu.2.2, .int (iI 0)])), (uu.1, .inl (gI G, 201, .inl (fun j : Nat => iI (zF (j : Int))))), (uu.2.1, .inl (gI G, 201, .inl (fun j : Nat => iI (zF (j : Int))))), (uu.2.2, .inl (gI G, 201, .inl (fun j : Nat => iI (zF (j : Int)))))]) (3) (603) := by
  refine met_N (cc := cX3_init) (maxL := 1) (by decide) rfl rfl (Nat.le_of_ble_eq_true rfl) ?_
  intro p e s m below meth c A Q F hin hAO C hP hD hS hret ls hl
  obtain ⟨hx, hb, hml, hown, hts⟩ := id F
  obtain ⟨hK, hA, hZ, hT, hN⟩ := id C
  have hl : lv_has ls 1 [(0, .ref o0)] := hl
  obtain ⟨H, hH⟩ : ∃ H, H = s.heap := ⟨_, rfl⟩
  obtain ⟨locs, hlocs⟩ : ∃ l : List Loc, l = [] := ⟨_, rfl⟩
  have hS : va_S A s.heap H locs := by rw [hH, hlocs]; exact hS
  have hP : va_P G.1 vwCl [(o0, .inr (4, [.null, .null, .null, .int (iI 0)]))] H := by rw [hH]; exact hP
  suffices hgo : W p l e (rc 1 12 (3) (603)) s m [.ref o0].toArray below meth c H locs 0 0 Q (F0 m 0 ls []) by rw [hH, hlocs] at hgo; exact hgo
  have hw0 := hts (Cond.methodLink RX3 3 objectInit) (List.mem_of_getElem? (i := 1) rfl)
  have hw1 := hts (Cond.instanceMethod objectInit) (List.mem_of_getElem? (i := 2) rfl)
  have hw2 := hts (Cond.code objectInit ⟨#[0xb1]⟩ 1 none) (List.mem_of_getElem? (i := 3) rfl)
  have hw3 := hts (Cond.arrayClass .int) (List.mem_of_getElem? (i := 4) rfl)
  have hiX3 : ∀ w ∈ wsX30, w ∈ wsX3_init := by decide +kernel
  have hw4 := hts (Cond.fieldLink RX3 9 "PlainCobol$Nodes" "kinds" "[I") (List.mem_of_getElem? (i := 5) rfl)
  have hw5 := hts (Cond.fieldLink RX3 15 "PlainCobol$Nodes" "firsts" "[I") (List.mem_of_getElem? (i := 6) rfl)
  have hw6 := hts (Cond.fieldLink RX3 18 "PlainCobol$Nodes" "seconds" "[I") (List.mem_of_getElem? (i := 7) rfl)
  refine lv_aload_n hx hb dX3_init_0 rfl (lv_at hl 0 rfl) ?_
  refine W.objInit hx hb hown hw0 hw1 hw2 rfl (by rw [hml]; exact hl.1) rfl dX3_init_1 (Nat.le_of_ble_eq_true rfl) (Nat.le_of_ble_eq_true rfl) ?_
  refine W.eq (g2 := F0 m 4 ls []) rfl ?_
  refine lv_aload_n hx hb dX3_init_4 rfl (lv_at hl 0 rfl) ?_
  refine lv_sipush (v := iI (201)) hx hb dX3_init_5 (by decide) ?_
  refine z_newI hx hb hw3 C hP hD hS (201) (by omega) (by omega) (by first | exact Nat.le_of_ble_eq_true rfl | (show 0 + 1 ≤ 3; omega)) (by first | exact Nat.le_of_ble_eq_true rfl | (show 0 + (201) ≤ 603; omega)) dX3_init_8 (fun nq1 H hP hD hS => ?_)
  have hP : va_P G.1 vwCl [(o0, .inr (4, [.null, .null, .null, .int (iI 0)])), (nq1, .inl (gI G, 201, .inl (fun j : Nat => iI (zF (j : Int)))))] H := hP
  have hD : va_D A [(o0, .inr (4, [.null, .null, .null, .int (iI 0)])), (nq1, .inl (gI G, 201, .inl (fun j : Nat => iI (zF (j : Int)))))] := hD
  refine va_putF (D := G.1) (ci := 4) (v := .ref nq1) (ty := .array .int) (C := RX3) (T := TX3) (N := 4) hx hb hts hiX3 tyX3 tyX3_ok nmX3 hown hK hP hD hS 0 rfl rfl 0 (by decide) hw4 (fun _ h9 => h9) rfl hin rfl (by decide +kernel) rfl rfl (Nat.le_of_ble_eq_true rfl) dX3_init_10 (fun H locs hP hD hS => ?_)
  have hP : va_P G.1 vwCl [(o0, .inr (4, [.ref nq1, .null, .null, .int (iI 0)])), (nq1, .inl (gI G, 201, .inl (fun j : Nat => iI (zF (j : Int)))))] H := hP
  have hD : va_D A [(o0, .inr (4, [.ref nq1, .null, .null, .int (iI 0)])), (nq1, .inl (gI G, 201, .inl (fun j : Nat => iI (zF (j : Int)))))] := hD
  refine lv_aload_n hx hb dX3_init_13 rfl (lv_at hl 0 rfl) ?_
  refine lv_sipush (v := iI (201)) hx hb dX3_init_14 (by decide) ?_
  refine z_newI hx hb hw3 C hP hD hS (201) (by omega) (by omega) (by first | exact Nat.le_of_ble_eq_true rfl | (show 0 + 1 + 1 ≤ 3; omega)) (by first | exact Nat.le_of_ble_eq_true rfl | (show 0 + (201) + (201) ≤ 603; omega)) dX3_init_17 (fun nq2 H hP hD hS => ?_)
  have hP : va_P G.1 vwCl [(o0, .inr (4, [.ref nq1, .null, .null, .int (iI 0)])), (nq1, .inl (gI G, 201, .inl (fun j : Nat => iI (zF (j : Int))))), (nq2, .inl (gI G, 201, .inl (fun j : Nat => iI (zF (j : Int)))))] H := hP
  have hD : va_D A [(o0, .inr (4, [.ref nq1, .null, .null, .int (iI 0)])), (nq1, .inl (gI G, 201, .inl (fun j : Nat => iI (zF (j : Int))))), (nq2, .inl (gI G, 201, .inl (fun j : Nat => iI (zF (j : Int)))))] := hD
  refine va_putF (D := G.1) (ci := 4) (v := .ref nq2) (ty := .array .int) (C := RX3) (T := TX3) (N := 4) hx hb hts hiX3 tyX3 tyX3_ok nmX3 hown hK hP hD hS 0 rfl rfl 1 (by decide) hw5 (fun _ h9 => h9) rfl hin rfl (by decide +kernel) rfl rfl (Nat.le_of_ble_eq_true rfl) dX3_init_19 (fun H locs hP hD hS => ?_)
  have hP : va_P G.1 vwCl [(o0, .inr (4, [.ref nq1, .ref nq2, .null, .int (iI 0)])), (nq1, .inl (gI G, 201, .inl (fun j : Nat => iI (zF (j : Int))))), (nq2, .inl (gI G, 201, .inl (fun j : Nat => iI (zF (j : Int)))))] H := hP
  have hD : va_D A [(o0, .inr (4, [.ref nq1, .ref nq2, .null, .int (iI 0)])), (nq1, .inl (gI G, 201, .inl (fun j : Nat => iI (zF (j : Int))))), (nq2, .inl (gI G, 201, .inl (fun j : Nat => iI (zF (j : Int)))))] := hD
  refine lv_aload_n hx hb dX3_init_22 rfl (lv_at hl 0 rfl) ?_
  refine lv_sipush (v := iI (201)) hx hb dX3_init_23 (by decide) ?_
  refine z_newI hx hb hw3 C hP hD hS (201) (by omega) (by omega) (by first | exact Nat.le_of_ble_eq_true rfl | (show 0 + 1 + 1 + 1 ≤ 3; omega)) (by first | exact Nat.le_of_ble_eq_true rfl | (show 0 + (201) + (201) + (201) ≤ 603; omega)) dX3_init_26 (fun nq3 H hP hD hS => ?_)
  have hP : va_P G.1 vwCl [(o0, .inr (4, [.ref nq1, .ref nq2, .null, .int (iI 0)])), (nq1, .inl (gI G, 201, .inl (fun j : Nat => iI (zF (j : Int))))), (nq2, .inl (gI G, 201, .inl (fun j : Nat => iI (zF (j : Int))))), (nq3, .inl (gI G, 201, .inl (fun j : Nat => iI (zF (j : Int)))))] H := hP
  have hD : va_D A [(o0, .inr (4, [.ref nq1, .ref nq2, .null, .int (iI 0)])), (nq1, .inl (gI G, 201, .inl (fun j : Nat => iI (zF (j : Int))))), (nq2, .inl (gI G, 201, .inl (fun j : Nat => iI (zF (j : Int))))), (nq3, .inl (gI G, 201, .inl (fun j : Nat => iI (zF (j : Int)))))] := hD
  refine va_putF (D := G.1) (ci := 4) (v := .ref nq3) (ty := .array .int) (C := RX3) (T := TX3) (N := 4) hx hb hts hiX3 tyX3 tyX3_ok nmX3 hown hK hP hD hS 0 rfl rfl 2 (by decide) hw6 (fun _ h9 => h9) rfl hin rfl (by decide +kernel) rfl rfl (Nat.le_of_ble_eq_true rfl) dX3_init_28 (fun H locs hP hD hS => ?_)
  have hP : va_P G.1 vwCl [(o0, .inr (4, [.ref nq1, .ref nq2, .ref nq3, .int (iI 0)])), (nq1, .inl (gI G, 201, .inl (fun j : Nat => iI (zF (j : Int))))), (nq2, .inl (gI G, 201, .inl (fun j : Nat => iI (zF (j : Int))))), (nq3, .inl (gI G, 201, .inl (fun j : Nat => iI (zF (j : Int)))))] H := hP
  have hD : va_D A [(o0, .inr (4, [.ref nq1, .ref nq2, .ref nq3, .int (iI 0)])), (nq1, .inl (gI G, 201, .inl (fun j : Nat => iI (zF (j : Int))))), (nq2, .inl (gI G, 201, .inl (fun j : Nat => iI (zF (j : Int))))), (nq3, .inl (gI G, 201, .inl (fun j : Nat => iI (zF (j : Int)))))] := hD
  refine W.widen (k := 3) (n := 603) (by omega) (by omega) ?_
  exact hret (nq1, nq2, nq3) _ ls H locs dX3_init_31 hP hD hS

set_option maxHeartbeats 4000000 in
set_option maxRecDepth 100000 in
theorem c_X2_init (l : Launch) (G : Gx) (zz : Nat) (o0 : Nat)  : CN l yX2_init wsX2_init (rc 1 12 (2) (2000)) G [.ref o0] [(o0, .inr (3, [.null, .null, .int (iI 0)]))] zz (fun uu : (Nat) × (Nat) => [(o0, .inr (3, [.ref uu.1, .ref uu.2, .int (iI 0)])), (uu.1, .inl (gI G, 1000, .inl (fun j : Nat => iI (zF (j : Int))))), (uu.2, .inl (gL G, 1000, .inr (.inl (fun j : Nat => lI (zF (j : Int))))))]) (2) (2000) := by
  refine met_N (cc := cX2_init) (maxL := 1) (by decide) rfl rfl (Nat.le_of_ble_eq_true rfl) ?_
  intro p e s m below meth c A Q F hin hAO C hP hD hS hret ls hl
  obtain ⟨hx, hb, hml, hown, hts⟩ := id F
  obtain ⟨hK, hA, hZ, hT, hN⟩ := id C
  have hl : lv_has ls 1 [(0, .ref o0)] := hl
  obtain ⟨H, hH⟩ : ∃ H, H = s.heap := ⟨_, rfl⟩
  obtain ⟨locs, hlocs⟩ : ∃ l : List Loc, l = [] := ⟨_, rfl⟩
  have hS : va_S A s.heap H locs := by rw [hH, hlocs]; exact hS
  have hP : va_P G.1 vwCl [(o0, .inr (3, [.null, .null, .int (iI 0)]))] H := by rw [hH]; exact hP
  suffices hgo : W p l e (rc 1 12 (2) (2000)) s m [.ref o0].toArray below meth c H locs 0 0 Q (F0 m 0 ls []) by rw [hH, hlocs] at hgo; exact hgo
  have hw0 := hts (Cond.methodLink RX2 3 objectInit) (List.mem_of_getElem? (i := 1) rfl)
  have hw1 := hts (Cond.instanceMethod objectInit) (List.mem_of_getElem? (i := 2) rfl)
  have hw2 := hts (Cond.code objectInit ⟨#[0xb1]⟩ 1 none) (List.mem_of_getElem? (i := 3) rfl)
  have hw3 := hts (Cond.arrayClass .int) (List.mem_of_getElem? (i := 4) rfl)
  have hiX2 : ∀ w ∈ wsX20, w ∈ wsX2_init := by decide +kernel
  have hw4 := hts (Cond.fieldLink RX2 9 "PlainCobol$Files" "keys" "[I") (List.mem_of_getElem? (i := 5) rfl)
  have hw5 := hts (Cond.arrayClass .long) (List.mem_of_getElem? (i := 6) rfl)
  have hw6 := hts (Cond.fieldLink RX2 15 "PlainCobol$Files" "values" "[J") (List.mem_of_getElem? (i := 7) rfl)
  refine lv_aload_n hx hb dX2_init_0 rfl (lv_at hl 0 rfl) ?_
  refine W.objInit hx hb hown hw0 hw1 hw2 rfl (by rw [hml]; exact hl.1) rfl dX2_init_1 (Nat.le_of_ble_eq_true rfl) (Nat.le_of_ble_eq_true rfl) ?_
  refine W.eq (g2 := F0 m 4 ls []) rfl ?_
  refine lv_aload_n hx hb dX2_init_4 rfl (lv_at hl 0 rfl) ?_
  refine lv_sipush (v := iI (1000)) hx hb dX2_init_5 (by decide) ?_
  refine z_newI hx hb hw3 C hP hD hS (1000) (by omega) (by omega) (by first | exact Nat.le_of_ble_eq_true rfl | (show 0 + 1 ≤ 2; omega)) (by first | exact Nat.le_of_ble_eq_true rfl | (show 0 + (1000) ≤ 2000; omega)) dX2_init_8 (fun nq1 H hP hD hS => ?_)
  have hP : va_P G.1 vwCl [(o0, .inr (3, [.null, .null, .int (iI 0)])), (nq1, .inl (gI G, 1000, .inl (fun j : Nat => iI (zF (j : Int)))))] H := hP
  have hD : va_D A [(o0, .inr (3, [.null, .null, .int (iI 0)])), (nq1, .inl (gI G, 1000, .inl (fun j : Nat => iI (zF (j : Int)))))] := hD
  refine va_putF (D := G.1) (ci := 3) (v := .ref nq1) (ty := .array .int) (C := RX2) (T := TX2) (N := 3) hx hb hts hiX2 tyX2 tyX2_ok nmX2 hown hK hP hD hS 0 rfl rfl 0 (by decide) hw4 (fun _ h9 => h9) rfl hin rfl (by decide +kernel) rfl rfl (Nat.le_of_ble_eq_true rfl) dX2_init_10 (fun H locs hP hD hS => ?_)
  have hP : va_P G.1 vwCl [(o0, .inr (3, [.ref nq1, .null, .int (iI 0)])), (nq1, .inl (gI G, 1000, .inl (fun j : Nat => iI (zF (j : Int)))))] H := hP
  have hD : va_D A [(o0, .inr (3, [.ref nq1, .null, .int (iI 0)])), (nq1, .inl (gI G, 1000, .inl (fun j : Nat => iI (zF (j : Int)))))] := hD
  refine lv_aload_n hx hb dX2_init_13 rfl (lv_at hl 0 rfl) ?_
  refine lv_sipush (v := iI (1000)) hx hb dX2_init_14 (by decide) ?_
  refine z_newL hx hb hw5 C hP hD hS (1000) (by omega) (by omega) (by first | exact Nat.le_of_ble_eq_true rfl | (show 0 + 1 + 1 ≤ 2; omega)) (by first | exact Nat.le_of_ble_eq_true rfl | (show 0 + (1000) + (1000) ≤ 2000; omega)) dX2_init_17 (fun nq2 H hP hD hS => ?_)
  have hP : va_P G.1 vwCl [(o0, .inr (3, [.ref nq1, .null, .int (iI 0)])), (nq1, .inl (gI G, 1000, .inl (fun j : Nat => iI (zF (j : Int))))), (nq2, .inl (gL G, 1000, .inr (.inl (fun j : Nat => lI (zF (j : Int))))))] H := hP
  have hD : va_D A [(o0, .inr (3, [.ref nq1, .null, .int (iI 0)])), (nq1, .inl (gI G, 1000, .inl (fun j : Nat => iI (zF (j : Int))))), (nq2, .inl (gL G, 1000, .inr (.inl (fun j : Nat => lI (zF (j : Int))))))] := hD
  refine va_putF (D := G.1) (ci := 3) (v := .ref nq2) (ty := .array .long) (C := RX2) (T := TX2) (N := 3) hx hb hts hiX2 tyX2 tyX2_ok nmX2 hown hK hP hD hS 0 rfl rfl 1 (by decide) hw6 (fun _ h9 => h9) rfl hin rfl (by decide +kernel) rfl rfl (Nat.le_of_ble_eq_true rfl) dX2_init_19 (fun H locs hP hD hS => ?_)
  have hP : va_P G.1 vwCl [(o0, .inr (3, [.ref nq1, .ref nq2, .int (iI 0)])), (nq1, .inl (gI G, 1000, .inl (fun j : Nat => iI (zF (j : Int))))), (nq2, .inl (gL G, 1000, .inr (.inl (fun j : Nat => lI (zF (j : Int))))))] H := hP
  have hD : va_D A [(o0, .inr (3, [.ref nq1, .ref nq2, .int (iI 0)])), (nq1, .inl (gI G, 1000, .inl (fun j : Nat => iI (zF (j : Int))))), (nq2, .inl (gL G, 1000, .inr (.inl (fun j : Nat => lI (zF (j : Int))))))] := hD
  refine W.widen (k := 2) (n := 2000) (by omega) (by omega) ?_
  exact hret (nq1, nq2) _ ls H locs dX2_init_22 hP hD hS

set_option maxHeartbeats 4000000 in
set_option maxRecDepth 100000 in
theorem c_X8_init (l : Launch) (G : Gx) (zz : Nat) (o0 : Nat)  : CN l yX8_init wsX8_init (rc 1 12 (4) (403)) G [.ref o0] [(o0, .inr (9, [.null, .null, .null, .null, .int (iI 0), .int (iI 0)]))] zz (fun uu : (Nat) × (Nat) × (Nat) × (Nat) => [(o0, .inr (9, [.ref uu.1, .ref uu.2.1, .ref uu.2.2.1, .ref uu.2.2.2, .int (iI 0), .int (iI 0)])), (uu.1, .inl (gI G, 100, .inl (fun j : Nat => iI (zF (j : Int))))), (uu.2.1, .inl (gI G, 101, .inl (fun j : Nat => iI (zF (j : Int))))), (uu.2.2.1, .inl (gI G, 101, .inl (fun j : Nat => iI (zF (j : Int))))), (uu.2.2.2, .inl (gL G, 101, .inr (.inl (fun j : Nat => lI (zF (j : Int))))))]) (4) (403) := by
  refine met_N (cc := cX8_init) (maxL := 1) (by decide) rfl rfl (Nat.le_of_ble_eq_true rfl) ?_
  intro p e s m below meth c A Q F hin hAO C hP hD hS hret ls hl
  obtain ⟨hx, hb, hml, hown, hts⟩ := id F
  obtain ⟨hK, hA, hZ, hT, hN⟩ := id C
  have hl : lv_has ls 1 [(0, .ref o0)] := hl
  obtain ⟨H, hH⟩ : ∃ H, H = s.heap := ⟨_, rfl⟩
  obtain ⟨locs, hlocs⟩ : ∃ l : List Loc, l = [] := ⟨_, rfl⟩
  have hS : va_S A s.heap H locs := by rw [hH, hlocs]; exact hS
  have hP : va_P G.1 vwCl [(o0, .inr (9, [.null, .null, .null, .null, .int (iI 0), .int (iI 0)]))] H := by rw [hH]; exact hP
  suffices hgo : W p l e (rc 1 12 (4) (403)) s m [.ref o0].toArray below meth c H locs 0 0 Q (F0 m 0 ls []) by rw [hH, hlocs] at hgo; exact hgo
  have hw0 := hts (Cond.methodLink RX8 3 objectInit) (List.mem_of_getElem? (i := 1) rfl)
  have hw1 := hts (Cond.instanceMethod objectInit) (List.mem_of_getElem? (i := 2) rfl)
  have hw2 := hts (Cond.code objectInit ⟨#[0xb1]⟩ 1 none) (List.mem_of_getElem? (i := 3) rfl)
  have hw3 := hts (Cond.arrayClass .int) (List.mem_of_getElem? (i := 4) rfl)
  have hiX8 : ∀ w ∈ wsX80, w ∈ wsX8_init := by decide +kernel
  have hw4 := hts (Cond.fieldLink RX8 9 "PlainCobol$Segments" "order" "[I") (List.mem_of_getElem? (i := 5) rfl)
  have hw5 := hts (Cond.fieldLink RX8 15 "PlainCobol$Segments" "above" "[I") (List.mem_of_getElem? (i := 6) rfl)
  have hw6 := hts (Cond.fieldLink RX8 18 "PlainCobol$Segments" "depths" "[I") (List.mem_of_getElem? (i := 7) rfl)
  have hw7 := hts (Cond.arrayClass .long) (List.mem_of_getElem? (i := 8) rfl)
  have hw8 := hts (Cond.fieldLink RX8 21 "PlainCobol$Segments" "values" "[J") (List.mem_of_getElem? (i := 9) rfl)
  refine lv_aload_n hx hb dX8_init_0 rfl (lv_at hl 0 rfl) ?_
  refine W.objInit hx hb hown hw0 hw1 hw2 rfl (by rw [hml]; exact hl.1) rfl dX8_init_1 (Nat.le_of_ble_eq_true rfl) (Nat.le_of_ble_eq_true rfl) ?_
  refine W.eq (g2 := F0 m 4 ls []) rfl ?_
  refine lv_aload_n hx hb dX8_init_4 rfl (lv_at hl 0 rfl) ?_
  refine lv_bipush (v := iI (100)) hx hb dX8_init_5 (by decide) ?_
  refine z_newI hx hb hw3 C hP hD hS (100) (by omega) (by omega) (by first | exact Nat.le_of_ble_eq_true rfl | (show 0 + 1 ≤ 4; omega)) (by first | exact Nat.le_of_ble_eq_true rfl | (show 0 + (100) ≤ 403; omega)) dX8_init_7 (fun nq1 H hP hD hS => ?_)
  have hP : va_P G.1 vwCl [(o0, .inr (9, [.null, .null, .null, .null, .int (iI 0), .int (iI 0)])), (nq1, .inl (gI G, 100, .inl (fun j : Nat => iI (zF (j : Int)))))] H := hP
  have hD : va_D A [(o0, .inr (9, [.null, .null, .null, .null, .int (iI 0), .int (iI 0)])), (nq1, .inl (gI G, 100, .inl (fun j : Nat => iI (zF (j : Int)))))] := hD
  refine va_putF (D := G.1) (ci := 9) (v := .ref nq1) (ty := .array .int) (C := RX8) (T := TX8) (N := 6) hx hb hts hiX8 tyX8 tyX8_ok nmX8 hown hK hP hD hS 0 rfl rfl 0 (by decide) hw4 (fun _ h9 => h9) rfl hin rfl (by decide +kernel) rfl rfl (Nat.le_of_ble_eq_true rfl) dX8_init_9 (fun H locs hP hD hS => ?_)
  have hP : va_P G.1 vwCl [(o0, .inr (9, [.ref nq1, .null, .null, .null, .int (iI 0), .int (iI 0)])), (nq1, .inl (gI G, 100, .inl (fun j : Nat => iI (zF (j : Int)))))] H := hP
  have hD : va_D A [(o0, .inr (9, [.ref nq1, .null, .null, .null, .int (iI 0), .int (iI 0)])), (nq1, .inl (gI G, 100, .inl (fun j : Nat => iI (zF (j : Int)))))] := hD
  refine lv_aload_n hx hb dX8_init_12 rfl (lv_at hl 0 rfl) ?_
  refine lv_bipush (v := iI (101)) hx hb dX8_init_13 (by decide) ?_
  refine z_newI hx hb hw3 C hP hD hS (101) (by omega) (by omega) (by first | exact Nat.le_of_ble_eq_true rfl | (show 0 + 1 + 1 ≤ 4; omega)) (by first | exact Nat.le_of_ble_eq_true rfl | (show 0 + (100) + (101) ≤ 403; omega)) dX8_init_15 (fun nq2 H hP hD hS => ?_)
  have hP : va_P G.1 vwCl [(o0, .inr (9, [.ref nq1, .null, .null, .null, .int (iI 0), .int (iI 0)])), (nq1, .inl (gI G, 100, .inl (fun j : Nat => iI (zF (j : Int))))), (nq2, .inl (gI G, 101, .inl (fun j : Nat => iI (zF (j : Int)))))] H := hP
  have hD : va_D A [(o0, .inr (9, [.ref nq1, .null, .null, .null, .int (iI 0), .int (iI 0)])), (nq1, .inl (gI G, 100, .inl (fun j : Nat => iI (zF (j : Int))))), (nq2, .inl (gI G, 101, .inl (fun j : Nat => iI (zF (j : Int)))))] := hD
  refine va_putF (D := G.1) (ci := 9) (v := .ref nq2) (ty := .array .int) (C := RX8) (T := TX8) (N := 6) hx hb hts hiX8 tyX8 tyX8_ok nmX8 hown hK hP hD hS 0 rfl rfl 1 (by decide) hw5 (fun _ h9 => h9) rfl hin rfl (by decide +kernel) rfl rfl (Nat.le_of_ble_eq_true rfl) dX8_init_17 (fun H locs hP hD hS => ?_)
  have hP : va_P G.1 vwCl [(o0, .inr (9, [.ref nq1, .ref nq2, .null, .null, .int (iI 0), .int (iI 0)])), (nq1, .inl (gI G, 100, .inl (fun j : Nat => iI (zF (j : Int))))), (nq2, .inl (gI G, 101, .inl (fun j : Nat => iI (zF (j : Int)))))] H := hP
  have hD : va_D A [(o0, .inr (9, [.ref nq1, .ref nq2, .null, .null, .int (iI 0), .int (iI 0)])), (nq1, .inl (gI G, 100, .inl (fun j : Nat => iI (zF (j : Int))))), (nq2, .inl (gI G, 101, .inl (fun j : Nat => iI (zF (j : Int)))))] := hD
  refine lv_aload_n hx hb dX8_init_20 rfl (lv_at hl 0 rfl) ?_
  refine lv_bipush (v := iI (101)) hx hb dX8_init_21 (by decide) ?_
  refine z_newI hx hb hw3 C hP hD hS (101) (by omega) (by omega) (by first | exact Nat.le_of_ble_eq_true rfl | (show 0 + 1 + 1 + 1 ≤ 4; omega)) (by first | exact Nat.le_of_ble_eq_true rfl | (show 0 + (100) + (101) + (101) ≤ 403; omega)) dX8_init_23 (fun nq3 H hP hD hS => ?_)
  have hP : va_P G.1 vwCl [(o0, .inr (9, [.ref nq1, .ref nq2, .null, .null, .int (iI 0), .int (iI 0)])), (nq1, .inl (gI G, 100, .inl (fun j : Nat => iI (zF (j : Int))))), (nq2, .inl (gI G, 101, .inl (fun j : Nat => iI (zF (j : Int))))), (nq3, .inl (gI G, 101, .inl (fun j : Nat => iI (zF (j : Int)))))] H := hP
  have hD : va_D A [(o0, .inr (9, [.ref nq1, .ref nq2, .null, .null, .int (iI 0), .int (iI 0)])), (nq1, .inl (gI G, 100, .inl (fun j : Nat => iI (zF (j : Int))))), (nq2, .inl (gI G, 101, .inl (fun j : Nat => iI (zF (j : Int))))), (nq3, .inl (gI G, 101, .inl (fun j : Nat => iI (zF (j : Int)))))] := hD
  refine va_putF (D := G.1) (ci := 9) (v := .ref nq3) (ty := .array .int) (C := RX8) (T := TX8) (N := 6) hx hb hts hiX8 tyX8 tyX8_ok nmX8 hown hK hP hD hS 0 rfl rfl 2 (by decide) hw6 (fun _ h9 => h9) rfl hin rfl (by decide +kernel) rfl rfl (Nat.le_of_ble_eq_true rfl) dX8_init_25 (fun H locs hP hD hS => ?_)
  have hP : va_P G.1 vwCl [(o0, .inr (9, [.ref nq1, .ref nq2, .ref nq3, .null, .int (iI 0), .int (iI 0)])), (nq1, .inl (gI G, 100, .inl (fun j : Nat => iI (zF (j : Int))))), (nq2, .inl (gI G, 101, .inl (fun j : Nat => iI (zF (j : Int))))), (nq3, .inl (gI G, 101, .inl (fun j : Nat => iI (zF (j : Int)))))] H := hP
  have hD : va_D A [(o0, .inr (9, [.ref nq1, .ref nq2, .ref nq3, .null, .int (iI 0), .int (iI 0)])), (nq1, .inl (gI G, 100, .inl (fun j : Nat => iI (zF (j : Int))))), (nq2, .inl (gI G, 101, .inl (fun j : Nat => iI (zF (j : Int))))), (nq3, .inl (gI G, 101, .inl (fun j : Nat => iI (zF (j : Int)))))] := hD
  refine lv_aload_n hx hb dX8_init_28 rfl (lv_at hl 0 rfl) ?_
  refine lv_bipush (v := iI (101)) hx hb dX8_init_29 (by decide) ?_
  refine z_newL hx hb hw7 C hP hD hS (101) (by omega) (by omega) (by first | exact Nat.le_of_ble_eq_true rfl | (show 0 + 1 + 1 + 1 + 1 ≤ 4; omega)) (by first | exact Nat.le_of_ble_eq_true rfl | (show 0 + (100) + (101) + (101) + (101) ≤ 403; omega)) dX8_init_31 (fun nq4 H hP hD hS => ?_)
  have hP : va_P G.1 vwCl [(o0, .inr (9, [.ref nq1, .ref nq2, .ref nq3, .null, .int (iI 0), .int (iI 0)])), (nq1, .inl (gI G, 100, .inl (fun j : Nat => iI (zF (j : Int))))), (nq2, .inl (gI G, 101, .inl (fun j : Nat => iI (zF (j : Int))))), (nq3, .inl (gI G, 101, .inl (fun j : Nat => iI (zF (j : Int))))), (nq4, .inl (gL G, 101, .inr (.inl (fun j : Nat => lI (zF (j : Int))))))] H := hP
  have hD : va_D A [(o0, .inr (9, [.ref nq1, .ref nq2, .ref nq3, .null, .int (iI 0), .int (iI 0)])), (nq1, .inl (gI G, 100, .inl (fun j : Nat => iI (zF (j : Int))))), (nq2, .inl (gI G, 101, .inl (fun j : Nat => iI (zF (j : Int))))), (nq3, .inl (gI G, 101, .inl (fun j : Nat => iI (zF (j : Int))))), (nq4, .inl (gL G, 101, .inr (.inl (fun j : Nat => lI (zF (j : Int))))))] := hD
  refine va_putF (D := G.1) (ci := 9) (v := .ref nq4) (ty := .array .long) (C := RX8) (T := TX8) (N := 6) hx hb hts hiX8 tyX8 tyX8_ok nmX8 hown hK hP hD hS 0 rfl rfl 3 (by decide) hw8 (fun _ h9 => h9) rfl hin rfl (by decide +kernel) rfl rfl (Nat.le_of_ble_eq_true rfl) dX8_init_33 (fun H locs hP hD hS => ?_)
  have hP : va_P G.1 vwCl [(o0, .inr (9, [.ref nq1, .ref nq2, .ref nq3, .ref nq4, .int (iI 0), .int (iI 0)])), (nq1, .inl (gI G, 100, .inl (fun j : Nat => iI (zF (j : Int))))), (nq2, .inl (gI G, 101, .inl (fun j : Nat => iI (zF (j : Int))))), (nq3, .inl (gI G, 101, .inl (fun j : Nat => iI (zF (j : Int))))), (nq4, .inl (gL G, 101, .inr (.inl (fun j : Nat => lI (zF (j : Int))))))] H := hP
  have hD : va_D A [(o0, .inr (9, [.ref nq1, .ref nq2, .ref nq3, .ref nq4, .int (iI 0), .int (iI 0)])), (nq1, .inl (gI G, 100, .inl (fun j : Nat => iI (zF (j : Int))))), (nq2, .inl (gI G, 101, .inl (fun j : Nat => iI (zF (j : Int))))), (nq3, .inl (gI G, 101, .inl (fun j : Nat => iI (zF (j : Int))))), (nq4, .inl (gL G, 101, .inr (.inl (fun j : Nat => lI (zF (j : Int))))))] := hD
  refine W.widen (k := 4) (n := 403) (by omega) (by omega) ?_
  exact hret (nq1, nq2, nq3, nq4) _ ls H locs dX8_init_36 hP hD hS

set_option maxHeartbeats 4000000 in
set_option maxRecDepth 100000 in
theorem c_X4_init (l : Launch) (G : Gx) (zz : Nat) (o0 : Nat)  : CN l yX4_init wsX4_init (rc 1 12 (1) (1920)) G [.ref o0] [(o0, .inr (5, [.null]))] zz (fun uu : (Nat) => [(o0, .inr (5, [.ref uu])), (uu, .inl (gB G, 1920, .inl (fun j : Nat => iI (zF (j : Int)))))]) (1) (1920) := by
  refine met_N (cc := cX4_init) (maxL := 1) (by decide) rfl rfl (Nat.le_of_ble_eq_true rfl) ?_
  intro p e s m below meth c A Q F hin hAO C hP hD hS hret ls hl
  obtain ⟨hx, hb, hml, hown, hts⟩ := id F
  obtain ⟨hK, hA, hZ, hT, hN⟩ := id C
  have hl : lv_has ls 1 [(0, .ref o0)] := hl
  obtain ⟨H, hH⟩ : ∃ H, H = s.heap := ⟨_, rfl⟩
  obtain ⟨locs, hlocs⟩ : ∃ l : List Loc, l = [] := ⟨_, rfl⟩
  have hS : va_S A s.heap H locs := by rw [hH, hlocs]; exact hS
  have hP : va_P G.1 vwCl [(o0, .inr (5, [.null]))] H := by rw [hH]; exact hP
  suffices hgo : W p l e (rc 1 12 (1) (1920)) s m [.ref o0].toArray below meth c H locs 0 0 Q (F0 m 0 ls []) by rw [hH, hlocs] at hgo; exact hgo
  have hw0 := hts (Cond.methodLink RX4 3 objectInit) (List.mem_of_getElem? (i := 1) rfl)
  have hw1 := hts (Cond.instanceMethod objectInit) (List.mem_of_getElem? (i := 2) rfl)
  have hw2 := hts (Cond.code objectInit ⟨#[0xb1]⟩ 1 none) (List.mem_of_getElem? (i := 3) rfl)
  have hw3 := hts (Cond.arrayClass .byte) (List.mem_of_getElem? (i := 4) rfl)
  have hiX4 : ∀ w ∈ wsX40, w ∈ wsX4_init := by decide +kernel
  have hw4 := hts (Cond.fieldLink RX4 9 "PlainCobol$Screen" "signs" "[B") (List.mem_of_getElem? (i := 5) rfl)
  refine lv_aload_n hx hb dX4_init_0 rfl (lv_at hl 0 rfl) ?_
  refine W.objInit hx hb hown hw0 hw1 hw2 rfl (by rw [hml]; exact hl.1) rfl dX4_init_1 (Nat.le_of_ble_eq_true rfl) (Nat.le_of_ble_eq_true rfl) ?_
  refine W.eq (g2 := F0 m 4 ls []) rfl ?_
  refine lv_aload_n hx hb dX4_init_4 rfl (lv_at hl 0 rfl) ?_
  refine lv_sipush (v := iI (1920)) hx hb dX4_init_5 (by decide) ?_
  refine z_newB hx hb hw3 C hP hD hS (1920) (by omega) (by omega) (by first | exact Nat.le_of_ble_eq_true rfl | (show 0 + 1 ≤ 1; omega)) (by first | exact Nat.le_of_ble_eq_true rfl | (show 0 + (1920) ≤ 1920; omega)) dX4_init_8 (fun nq1 H hP hD hS => ?_)
  have hP : va_P G.1 vwCl [(o0, .inr (5, [.null])), (nq1, .inl (gB G, 1920, .inl (fun j : Nat => iI (zF (j : Int)))))] H := hP
  have hD : va_D A [(o0, .inr (5, [.null])), (nq1, .inl (gB G, 1920, .inl (fun j : Nat => iI (zF (j : Int)))))] := hD
  refine va_putF (D := G.1) (ci := 5) (v := .ref nq1) (ty := .array .byte) (C := RX4) (T := TX4) (N := 1) hx hb hts hiX4 tyX4 tyX4_ok nmX4 hown hK hP hD hS 0 rfl rfl 0 (by decide) hw4 (fun _ h9 => h9) rfl hin rfl (by decide +kernel) rfl rfl (Nat.le_of_ble_eq_true rfl) dX4_init_10 (fun H locs hP hD hS => ?_)
  have hP : va_P G.1 vwCl [(o0, .inr (5, [.ref nq1])), (nq1, .inl (gB G, 1920, .inl (fun j : Nat => iI (zF (j : Int)))))] H := hP
  have hD : va_D A [(o0, .inr (5, [.ref nq1])), (nq1, .inl (gB G, 1920, .inl (fun j : Nat => iI (zF (j : Int)))))] := hD
  refine W.widen (k := 1) (n := 1920) (by omega) (by omega) ?_
  exact hret (nq1) _ ls H locs dX4_init_13 hP hD hS

set_option maxHeartbeats 4000000 in
set_option maxRecDepth 100000 in
theorem c_X5_init (l : Launch) (G : Gx) (zz : Nat) (o0 : Nat)  : CN l yX5_init wsX5_init (rc 1 12 (2) (2000)) G [.ref o0] [(o0, .inr (6, [.null, .null, .int (iI 0)]))] zz (fun uu : (Nat) × (Nat) => [(o0, .inr (6, [.ref uu.1, .ref uu.2, .int (iI 0)])), (uu.1, .inl (gI G, 1000, .inl (fun j : Nat => iI (zF (j : Int))))), (uu.2, .inl (gI G, 1000, .inl (fun j : Nat => iI (zF (j : Int)))))]) (2) (2000) := by
  refine met_N (cc := cX5_init) (maxL := 1) (by decide) rfl rfl (Nat.le_of_ble_eq_true rfl) ?_
  intro p e s m below meth c A Q F hin hAO C hP hD hS hret ls hl
  obtain ⟨hx, hb, hml, hown, hts⟩ := id F
  obtain ⟨hK, hA, hZ, hT, hN⟩ := id C
  have hl : lv_has ls 1 [(0, .ref o0)] := hl
  obtain ⟨H, hH⟩ : ∃ H, H = s.heap := ⟨_, rfl⟩
  obtain ⟨locs, hlocs⟩ : ∃ l : List Loc, l = [] := ⟨_, rfl⟩
  have hS : va_S A s.heap H locs := by rw [hH, hlocs]; exact hS
  have hP : va_P G.1 vwCl [(o0, .inr (6, [.null, .null, .int (iI 0)]))] H := by rw [hH]; exact hP
  suffices hgo : W p l e (rc 1 12 (2) (2000)) s m [.ref o0].toArray below meth c H locs 0 0 Q (F0 m 0 ls []) by rw [hH, hlocs] at hgo; exact hgo
  have hw0 := hts (Cond.methodLink RX5 3 objectInit) (List.mem_of_getElem? (i := 1) rfl)
  have hw1 := hts (Cond.instanceMethod objectInit) (List.mem_of_getElem? (i := 2) rfl)
  have hw2 := hts (Cond.code objectInit ⟨#[0xb1]⟩ 1 none) (List.mem_of_getElem? (i := 3) rfl)
  have hw3 := hts (Cond.arrayClass .int) (List.mem_of_getElem? (i := 4) rfl)
  have hiX5 : ∀ w ∈ wsX50, w ∈ wsX5_init := by decide +kernel
  have hw4 := hts (Cond.fieldLink RX5 9 "PlainCobol$SecondRecords" "sorted" "[I") (List.mem_of_getElem? (i := 5) rfl)
  have hw5 := hts (Cond.fieldLink RX5 15 "PlainCobol$SecondRecords" "other" "[I") (List.mem_of_getElem? (i := 6) rfl)
  refine lv_aload_n hx hb dX5_init_0 rfl (lv_at hl 0 rfl) ?_
  refine W.objInit hx hb hown hw0 hw1 hw2 rfl (by rw [hml]; exact hl.1) rfl dX5_init_1 (Nat.le_of_ble_eq_true rfl) (Nat.le_of_ble_eq_true rfl) ?_
  refine W.eq (g2 := F0 m 4 ls []) rfl ?_
  refine lv_aload_n hx hb dX5_init_4 rfl (lv_at hl 0 rfl) ?_
  refine lv_sipush (v := iI (1000)) hx hb dX5_init_5 (by decide) ?_
  refine z_newI hx hb hw3 C hP hD hS (1000) (by omega) (by omega) (by first | exact Nat.le_of_ble_eq_true rfl | (show 0 + 1 ≤ 2; omega)) (by first | exact Nat.le_of_ble_eq_true rfl | (show 0 + (1000) ≤ 2000; omega)) dX5_init_8 (fun nq1 H hP hD hS => ?_)
  have hP : va_P G.1 vwCl [(o0, .inr (6, [.null, .null, .int (iI 0)])), (nq1, .inl (gI G, 1000, .inl (fun j : Nat => iI (zF (j : Int)))))] H := hP
  have hD : va_D A [(o0, .inr (6, [.null, .null, .int (iI 0)])), (nq1, .inl (gI G, 1000, .inl (fun j : Nat => iI (zF (j : Int)))))] := hD
  refine va_put (D := G.1) (ci := 6) (v := .ref nq1) (ty := .array .int) (C := RX5) (T := TX5) (N := 3) hx hb hts hiX5 tyX5 tyX5_ok nmX5 hown hK hP hD hS 0 rfl rfl 0 (by decide) hw4 (fun _ h9 => h9) rfl (by decide +kernel) rfl rfl (Nat.le_of_ble_eq_true rfl) dX5_init_10 (fun H locs hP hD hS => ?_)
  have hP : va_P G.1 vwCl [(o0, .inr (6, [.ref nq1, .null, .int (iI 0)])), (nq1, .inl (gI G, 1000, .inl (fun j : Nat => iI (zF (j : Int)))))] H := hP
  have hD : va_D A [(o0, .inr (6, [.ref nq1, .null, .int (iI 0)])), (nq1, .inl (gI G, 1000, .inl (fun j : Nat => iI (zF (j : Int)))))] := hD
  refine lv_aload_n hx hb dX5_init_13 rfl (lv_at hl 0 rfl) ?_
  refine lv_sipush (v := iI (1000)) hx hb dX5_init_14 (by decide) ?_
  refine z_newI hx hb hw3 C hP hD hS (1000) (by omega) (by omega) (by first | exact Nat.le_of_ble_eq_true rfl | (show 0 + 1 + 1 ≤ 2; omega)) (by first | exact Nat.le_of_ble_eq_true rfl | (show 0 + (1000) + (1000) ≤ 2000; omega)) dX5_init_17 (fun nq2 H hP hD hS => ?_)
  have hP : va_P G.1 vwCl [(o0, .inr (6, [.ref nq1, .null, .int (iI 0)])), (nq1, .inl (gI G, 1000, .inl (fun j : Nat => iI (zF (j : Int))))), (nq2, .inl (gI G, 1000, .inl (fun j : Nat => iI (zF (j : Int)))))] H := hP
  have hD : va_D A [(o0, .inr (6, [.ref nq1, .null, .int (iI 0)])), (nq1, .inl (gI G, 1000, .inl (fun j : Nat => iI (zF (j : Int))))), (nq2, .inl (gI G, 1000, .inl (fun j : Nat => iI (zF (j : Int)))))] := hD
  refine va_put (D := G.1) (ci := 6) (v := .ref nq2) (ty := .array .int) (C := RX5) (T := TX5) (N := 3) hx hb hts hiX5 tyX5 tyX5_ok nmX5 hown hK hP hD hS 0 rfl rfl 1 (by decide) hw5 (fun _ h9 => h9) rfl (by decide +kernel) rfl rfl (Nat.le_of_ble_eq_true rfl) dX5_init_19 (fun H locs hP hD hS => ?_)
  have hP : va_P G.1 vwCl [(o0, .inr (6, [.ref nq1, .ref nq2, .int (iI 0)])), (nq1, .inl (gI G, 1000, .inl (fun j : Nat => iI (zF (j : Int))))), (nq2, .inl (gI G, 1000, .inl (fun j : Nat => iI (zF (j : Int)))))] H := hP
  have hD : va_D A [(o0, .inr (6, [.ref nq1, .ref nq2, .int (iI 0)])), (nq1, .inl (gI G, 1000, .inl (fun j : Nat => iI (zF (j : Int))))), (nq2, .inl (gI G, 1000, .inl (fun j : Nat => iI (zF (j : Int)))))] := hD
  refine W.widen (k := 2) (n := 2000) (by omega) (by omega) ?_
  exact hret (nq1, nq2) _ ls H locs dX5_init_22 hP hD hS

set_option maxHeartbeats 4000000 in
set_option maxRecDepth 100000 in
theorem c_X7_init (l : Launch) (G : Gx) (zz : Nat) (o0 : Nat)  : CN l yX7_init wsX7_init (rc 1 12 (6) (606)) G [.ref o0] [(o0, .inr (8, [.null, .null, .null, .null, .null, .null, .int (iI 0)]))] zz (fun uu : (Nat) × (Nat) × (Nat) × (Nat) × (Nat) × (Nat) => [(o0, .inr (8, [.ref uu.1, .ref uu.2.1, .ref uu.2.2.1, .ref uu.2.2.2.1, .ref uu.2.2.2.2.1, .ref uu.2.2.2.2.2, .int (iI 0)])), (uu.1, .inl (gI G, 101, .inl (fun j : Nat => iI (zF (j : Int))))), (uu.2.1, .inl (gL G, 101, .inr (.inl (fun j : Nat => lI (zF (j : Int)))))), (uu.2.2.1, .inl (gZ G, 101, .inl (fun j : Nat => iI (zF (j : Int))))), (uu.2.2.2.1, .inl (gI G, 101, .inl (fun j : Nat => iI (zF (j : Int))))), (uu.2.2.2.2.1, .inl (gI G, 101, .inl (fun j : Nat => iI (zF (j : Int))))), (uu.2.2.2.2.2, .inl (gI G, 101, .inl (fun j : Nat => iI (zF (j : Int)))))]) (6) (606) := by
  refine met_N (cc := cX7_init) (maxL := 1) (by decide) rfl rfl (Nat.le_of_ble_eq_true rfl) ?_
  intro p e s m below meth c A Q F hin hAO C hP hD hS hret ls hl
  obtain ⟨hx, hb, hml, hown, hts⟩ := id F
  obtain ⟨hK, hA, hZ, hT, hN⟩ := id C
  have hl : lv_has ls 1 [(0, .ref o0)] := hl
  obtain ⟨H, hH⟩ : ∃ H, H = s.heap := ⟨_, rfl⟩
  obtain ⟨locs, hlocs⟩ : ∃ l : List Loc, l = [] := ⟨_, rfl⟩
  have hS : va_S A s.heap H locs := by rw [hH, hlocs]; exact hS
  have hP : va_P G.1 vwCl [(o0, .inr (8, [.null, .null, .null, .null, .null, .null, .int (iI 0)]))] H := by rw [hH]; exact hP
  suffices hgo : W p l e (rc 1 12 (6) (606)) s m [.ref o0].toArray below meth c H locs 0 0 Q (F0 m 0 ls []) by rw [hH, hlocs] at hgo; exact hgo
  have hw0 := hts (Cond.methodLink RX7 3 objectInit) (List.mem_of_getElem? (i := 1) rfl)
  have hw1 := hts (Cond.instanceMethod objectInit) (List.mem_of_getElem? (i := 2) rfl)
  have hw2 := hts (Cond.code objectInit ⟨#[0xb1]⟩ 1 none) (List.mem_of_getElem? (i := 3) rfl)
  have hw3 := hts (Cond.arrayClass .int) (List.mem_of_getElem? (i := 4) rfl)
  have hiX7 : ∀ w ∈ wsX70, w ∈ wsX7_init := by decide +kernel
  have hw4 := hts (Cond.fieldLink RX7 9 "PlainCobol$SecondSegments" "above" "[I") (List.mem_of_getElem? (i := 5) rfl)
  have hw5 := hts (Cond.arrayClass .long) (List.mem_of_getElem? (i := 6) rfl)
  have hw6 := hts (Cond.fieldLink RX7 15 "PlainCobol$SecondSegments" "values" "[J") (List.mem_of_getElem? (i := 7) rfl)
  have hw7 := hts (Cond.arrayClass .boolean) (List.mem_of_getElem? (i := 8) rfl)
  have hw8 := hts (Cond.fieldLink RX7 19 "PlainCobol$SecondSegments" "there" "[Z") (List.mem_of_getElem? (i := 9) rfl)
  have hw9 := hts (Cond.fieldLink RX7 23 "PlainCobol$SecondSegments" "depths" "[I") (List.mem_of_getElem? (i := 10) rfl)
  have hw10 := hts (Cond.fieldLink RX7 26 "PlainCobol$SecondSegments" "spans" "[I") (List.mem_of_getElem? (i := 11) rfl)
  have hw11 := hts (Cond.fieldLink RX7 29 "PlainCobol$SecondSegments" "nexts" "[I") (List.mem_of_getElem? (i := 12) rfl)
  refine lv_aload_n hx hb dX7_init_0 rfl (lv_at hl 0 rfl) ?_
  refine W.objInit hx hb hown hw0 hw1 hw2 rfl (by rw [hml]; exact hl.1) rfl dX7_init_1 (Nat.le_of_ble_eq_true rfl) (Nat.le_of_ble_eq_true rfl) ?_
  refine W.eq (g2 := F0 m 4 ls []) rfl ?_
  refine lv_aload_n hx hb dX7_init_4 rfl (lv_at hl 0 rfl) ?_
  refine lv_bipush (v := iI (101)) hx hb dX7_init_5 (by decide) ?_
  refine z_newI hx hb hw3 C hP hD hS (101) (by omega) (by omega) (by first | exact Nat.le_of_ble_eq_true rfl | (show 0 + 1 ≤ 6; omega)) (by first | exact Nat.le_of_ble_eq_true rfl | (show 0 + (101) ≤ 606; omega)) dX7_init_7 (fun nq1 H hP hD hS => ?_)
  have hP : va_P G.1 vwCl [(o0, .inr (8, [.null, .null, .null, .null, .null, .null, .int (iI 0)])), (nq1, .inl (gI G, 101, .inl (fun j : Nat => iI (zF (j : Int)))))] H := hP
  have hD : va_D A [(o0, .inr (8, [.null, .null, .null, .null, .null, .null, .int (iI 0)])), (nq1, .inl (gI G, 101, .inl (fun j : Nat => iI (zF (j : Int)))))] := hD
  refine va_putF (D := G.1) (ci := 8) (v := .ref nq1) (ty := .array .int) (C := RX7) (T := TX7) (N := 7) hx hb hts hiX7 tyX7 tyX7_ok nmX7 hown hK hP hD hS 0 rfl rfl 0 (by decide) hw4 (fun _ h9 => h9) rfl hin rfl (by decide +kernel) rfl rfl (Nat.le_of_ble_eq_true rfl) dX7_init_9 (fun H locs hP hD hS => ?_)
  have hP : va_P G.1 vwCl [(o0, .inr (8, [.ref nq1, .null, .null, .null, .null, .null, .int (iI 0)])), (nq1, .inl (gI G, 101, .inl (fun j : Nat => iI (zF (j : Int)))))] H := hP
  have hD : va_D A [(o0, .inr (8, [.ref nq1, .null, .null, .null, .null, .null, .int (iI 0)])), (nq1, .inl (gI G, 101, .inl (fun j : Nat => iI (zF (j : Int)))))] := hD
  refine lv_aload_n hx hb dX7_init_12 rfl (lv_at hl 0 rfl) ?_
  refine lv_bipush (v := iI (101)) hx hb dX7_init_13 (by decide) ?_
  refine z_newL hx hb hw5 C hP hD hS (101) (by omega) (by omega) (by first | exact Nat.le_of_ble_eq_true rfl | (show 0 + 1 + 1 ≤ 6; omega)) (by first | exact Nat.le_of_ble_eq_true rfl | (show 0 + (101) + (101) ≤ 606; omega)) dX7_init_15 (fun nq2 H hP hD hS => ?_)
  have hP : va_P G.1 vwCl [(o0, .inr (8, [.ref nq1, .null, .null, .null, .null, .null, .int (iI 0)])), (nq1, .inl (gI G, 101, .inl (fun j : Nat => iI (zF (j : Int))))), (nq2, .inl (gL G, 101, .inr (.inl (fun j : Nat => lI (zF (j : Int))))))] H := hP
  have hD : va_D A [(o0, .inr (8, [.ref nq1, .null, .null, .null, .null, .null, .int (iI 0)])), (nq1, .inl (gI G, 101, .inl (fun j : Nat => iI (zF (j : Int))))), (nq2, .inl (gL G, 101, .inr (.inl (fun j : Nat => lI (zF (j : Int))))))] := hD
  refine va_putF (D := G.1) (ci := 8) (v := .ref nq2) (ty := .array .long) (C := RX7) (T := TX7) (N := 7) hx hb hts hiX7 tyX7 tyX7_ok nmX7 hown hK hP hD hS 0 rfl rfl 1 (by decide) hw6 (fun _ h9 => h9) rfl hin rfl (by decide +kernel) rfl rfl (Nat.le_of_ble_eq_true rfl) dX7_init_17 (fun H locs hP hD hS => ?_)
  have hP : va_P G.1 vwCl [(o0, .inr (8, [.ref nq1, .ref nq2, .null, .null, .null, .null, .int (iI 0)])), (nq1, .inl (gI G, 101, .inl (fun j : Nat => iI (zF (j : Int))))), (nq2, .inl (gL G, 101, .inr (.inl (fun j : Nat => lI (zF (j : Int))))))] H := hP
  have hD : va_D A [(o0, .inr (8, [.ref nq1, .ref nq2, .null, .null, .null, .null, .int (iI 0)])), (nq1, .inl (gI G, 101, .inl (fun j : Nat => iI (zF (j : Int))))), (nq2, .inl (gL G, 101, .inr (.inl (fun j : Nat => lI (zF (j : Int))))))] := hD
  refine lv_aload_n hx hb dX7_init_20 rfl (lv_at hl 0 rfl) ?_
  refine lv_bipush (v := iI (101)) hx hb dX7_init_21 (by decide) ?_
  refine z_newZ hx hb hw7 C hP hD hS (101) (by omega) (by omega) (by first | exact Nat.le_of_ble_eq_true rfl | (show 0 + 1 + 1 + 1 ≤ 6; omega)) (by first | exact Nat.le_of_ble_eq_true rfl | (show 0 + (101) + (101) + (101) ≤ 606; omega)) dX7_init_23 (fun nq3 H hP hD hS => ?_)
  have hP : va_P G.1 vwCl [(o0, .inr (8, [.ref nq1, .ref nq2, .null, .null, .null, .null, .int (iI 0)])), (nq1, .inl (gI G, 101, .inl (fun j : Nat => iI (zF (j : Int))))), (nq2, .inl (gL G, 101, .inr (.inl (fun j : Nat => lI (zF (j : Int)))))), (nq3, .inl (gZ G, 101, .inl (fun j : Nat => iI (zF (j : Int)))))] H := hP
  have hD : va_D A [(o0, .inr (8, [.ref nq1, .ref nq2, .null, .null, .null, .null, .int (iI 0)])), (nq1, .inl (gI G, 101, .inl (fun j : Nat => iI (zF (j : Int))))), (nq2, .inl (gL G, 101, .inr (.inl (fun j : Nat => lI (zF (j : Int)))))), (nq3, .inl (gZ G, 101, .inl (fun j : Nat => iI (zF (j : Int)))))] := hD
  refine va_putF (D := G.1) (ci := 8) (v := .ref nq3) (ty := .array .boolean) (C := RX7) (T := TX7) (N := 7) hx hb hts hiX7 tyX7 tyX7_ok nmX7 hown hK hP hD hS 0 rfl rfl 2 (by decide) hw8 (fun _ h9 => h9) rfl hin rfl (by decide +kernel) rfl rfl (Nat.le_of_ble_eq_true rfl) dX7_init_25 (fun H locs hP hD hS => ?_)
  have hP : va_P G.1 vwCl [(o0, .inr (8, [.ref nq1, .ref nq2, .ref nq3, .null, .null, .null, .int (iI 0)])), (nq1, .inl (gI G, 101, .inl (fun j : Nat => iI (zF (j : Int))))), (nq2, .inl (gL G, 101, .inr (.inl (fun j : Nat => lI (zF (j : Int)))))), (nq3, .inl (gZ G, 101, .inl (fun j : Nat => iI (zF (j : Int)))))] H := hP
  have hD : va_D A [(o0, .inr (8, [.ref nq1, .ref nq2, .ref nq3, .null, .null, .null, .int (iI 0)])), (nq1, .inl (gI G, 101, .inl (fun j : Nat => iI (zF (j : Int))))), (nq2, .inl (gL G, 101, .inr (.inl (fun j : Nat => lI (zF (j : Int)))))), (nq3, .inl (gZ G, 101, .inl (fun j : Nat => iI (zF (j : Int)))))] := hD
  refine lv_aload_n hx hb dX7_init_28 rfl (lv_at hl 0 rfl) ?_
  refine lv_bipush (v := iI (101)) hx hb dX7_init_29 (by decide) ?_
  refine z_newI hx hb hw3 C hP hD hS (101) (by omega) (by omega) (by first | exact Nat.le_of_ble_eq_true rfl | (show 0 + 1 + 1 + 1 + 1 ≤ 6; omega)) (by first | exact Nat.le_of_ble_eq_true rfl | (show 0 + (101) + (101) + (101) + (101) ≤ 606; omega)) dX7_init_31 (fun nq4 H hP hD hS => ?_)
  have hP : va_P G.1 vwCl [(o0, .inr (8, [.ref nq1, .ref nq2, .ref nq3, .null, .null, .null, .int (iI 0)])), (nq1, .inl (gI G, 101, .inl (fun j : Nat => iI (zF (j : Int))))), (nq2, .inl (gL G, 101, .inr (.inl (fun j : Nat => lI (zF (j : Int)))))), (nq3, .inl (gZ G, 101, .inl (fun j : Nat => iI (zF (j : Int))))), (nq4, .inl (gI G, 101, .inl (fun j : Nat => iI (zF (j : Int)))))] H := hP
  have hD : va_D A [(o0, .inr (8, [.ref nq1, .ref nq2, .ref nq3, .null, .null, .null, .int (iI 0)])), (nq1, .inl (gI G, 101, .inl (fun j : Nat => iI (zF (j : Int))))), (nq2, .inl (gL G, 101, .inr (.inl (fun j : Nat => lI (zF (j : Int)))))), (nq3, .inl (gZ G, 101, .inl (fun j : Nat => iI (zF (j : Int))))), (nq4, .inl (gI G, 101, .inl (fun j : Nat => iI (zF (j : Int)))))] := hD
  refine va_putF (D := G.1) (ci := 8) (v := .ref nq4) (ty := .array .int) (C := RX7) (T := TX7) (N := 7) hx hb hts hiX7 tyX7 tyX7_ok nmX7 hown hK hP hD hS 0 rfl rfl 3 (by decide) hw9 (fun _ h9 => h9) rfl hin rfl (by decide +kernel) rfl rfl (Nat.le_of_ble_eq_true rfl) dX7_init_33 (fun H locs hP hD hS => ?_)
  have hP : va_P G.1 vwCl [(o0, .inr (8, [.ref nq1, .ref nq2, .ref nq3, .ref nq4, .null, .null, .int (iI 0)])), (nq1, .inl (gI G, 101, .inl (fun j : Nat => iI (zF (j : Int))))), (nq2, .inl (gL G, 101, .inr (.inl (fun j : Nat => lI (zF (j : Int)))))), (nq3, .inl (gZ G, 101, .inl (fun j : Nat => iI (zF (j : Int))))), (nq4, .inl (gI G, 101, .inl (fun j : Nat => iI (zF (j : Int)))))] H := hP
  have hD : va_D A [(o0, .inr (8, [.ref nq1, .ref nq2, .ref nq3, .ref nq4, .null, .null, .int (iI 0)])), (nq1, .inl (gI G, 101, .inl (fun j : Nat => iI (zF (j : Int))))), (nq2, .inl (gL G, 101, .inr (.inl (fun j : Nat => lI (zF (j : Int)))))), (nq3, .inl (gZ G, 101, .inl (fun j : Nat => iI (zF (j : Int))))), (nq4, .inl (gI G, 101, .inl (fun j : Nat => iI (zF (j : Int)))))] := hD
  refine lv_aload_n hx hb dX7_init_36 rfl (lv_at hl 0 rfl) ?_
  refine lv_bipush (v := iI (101)) hx hb dX7_init_37 (by decide) ?_
  refine z_newI hx hb hw3 C hP hD hS (101) (by omega) (by omega) (by first | exact Nat.le_of_ble_eq_true rfl | (show 0 + 1 + 1 + 1 + 1 + 1 ≤ 6; omega)) (by first | exact Nat.le_of_ble_eq_true rfl | (show 0 + (101) + (101) + (101) + (101) + (101) ≤ 606; omega)) dX7_init_39 (fun nq5 H hP hD hS => ?_)
  have hP : va_P G.1 vwCl [(o0, .inr (8, [.ref nq1, .ref nq2, .ref nq3, .ref nq4, .null, .null, .int (iI 0)])), (nq1, .inl (gI G, 101, .inl (fun j : Nat => iI (zF (j : Int))))), (nq2, .inl (gL G, 101, .inr (.inl (fun j : Nat => lI (zF (j : Int)))))), (nq3, .inl (gZ G, 101, .inl (fun j : Nat => iI (zF (j : Int))))), (nq4, .inl (gI G, 101, .inl (fun j : Nat => iI (zF (j : Int))))), (nq5, .inl (gI G, 101, .inl (fun j : Nat => iI (zF (j : Int)))))] H := hP
  have hD : va_D A [(o0, .inr (8, [.ref nq1, .ref nq2, .ref nq3, .ref nq4, .null, .null, .int (iI 0)])), (nq1, .inl (gI G, 101, .inl (fun j : Nat => iI (zF (j : Int))))), (nq2, .inl (gL G, 101, .inr (.inl (fun j : Nat => lI (zF (j : Int)))))), (nq3, .inl (gZ G, 101, .inl (fun j : Nat => iI (zF (j : Int))))), (nq4, .inl (gI G, 101, .inl (fun j : Nat => iI (zF (j : Int))))), (nq5, .inl (gI G, 101, .inl (fun j : Nat => iI (zF (j : Int)))))] := hD
  refine va_putF (D := G.1) (ci := 8) (v := .ref nq5) (ty := .array .int) (C := RX7) (T := TX7) (N := 7) hx hb hts hiX7 tyX7 tyX7_ok nmX7 hown hK hP hD hS 0 rfl rfl 4 (by decide) hw10 (fun _ h9 => h9) rfl hin rfl (by decide +kernel) rfl rfl (Nat.le_of_ble_eq_true rfl) dX7_init_41 (fun H locs hP hD hS => ?_)
  have hP : va_P G.1 vwCl [(o0, .inr (8, [.ref nq1, .ref nq2, .ref nq3, .ref nq4, .ref nq5, .null, .int (iI 0)])), (nq1, .inl (gI G, 101, .inl (fun j : Nat => iI (zF (j : Int))))), (nq2, .inl (gL G, 101, .inr (.inl (fun j : Nat => lI (zF (j : Int)))))), (nq3, .inl (gZ G, 101, .inl (fun j : Nat => iI (zF (j : Int))))), (nq4, .inl (gI G, 101, .inl (fun j : Nat => iI (zF (j : Int))))), (nq5, .inl (gI G, 101, .inl (fun j : Nat => iI (zF (j : Int)))))] H := hP
  have hD : va_D A [(o0, .inr (8, [.ref nq1, .ref nq2, .ref nq3, .ref nq4, .ref nq5, .null, .int (iI 0)])), (nq1, .inl (gI G, 101, .inl (fun j : Nat => iI (zF (j : Int))))), (nq2, .inl (gL G, 101, .inr (.inl (fun j : Nat => lI (zF (j : Int)))))), (nq3, .inl (gZ G, 101, .inl (fun j : Nat => iI (zF (j : Int))))), (nq4, .inl (gI G, 101, .inl (fun j : Nat => iI (zF (j : Int))))), (nq5, .inl (gI G, 101, .inl (fun j : Nat => iI (zF (j : Int)))))] := hD
  refine lv_aload_n hx hb dX7_init_44 rfl (lv_at hl 0 rfl) ?_
  refine lv_bipush (v := iI (101)) hx hb dX7_init_45 (by decide) ?_
  refine z_newI hx hb hw3 C hP hD hS (101) (by omega) (by omega) (by first | exact Nat.le_of_ble_eq_true rfl | (show 0 + 1 + 1 + 1 + 1 + 1 + 1 ≤ 6; omega)) (by first | exact Nat.le_of_ble_eq_true rfl | (show 0 + (101) + (101) + (101) + (101) + (101) + (101) ≤ 606; omega)) dX7_init_47 (fun nq6 H hP hD hS => ?_)
  have hP : va_P G.1 vwCl [(o0, .inr (8, [.ref nq1, .ref nq2, .ref nq3, .ref nq4, .ref nq5, .null, .int (iI 0)])), (nq1, .inl (gI G, 101, .inl (fun j : Nat => iI (zF (j : Int))))), (nq2, .inl (gL G, 101, .inr (.inl (fun j : Nat => lI (zF (j : Int)))))), (nq3, .inl (gZ G, 101, .inl (fun j : Nat => iI (zF (j : Int))))), (nq4, .inl (gI G, 101, .inl (fun j : Nat => iI (zF (j : Int))))), (nq5, .inl (gI G, 101, .inl (fun j : Nat => iI (zF (j : Int))))), (nq6, .inl (gI G, 101, .inl (fun j : Nat => iI (zF (j : Int)))))] H := hP
  have hD : va_D A [(o0, .inr (8, [.ref nq1, .ref nq2, .ref nq3, .ref nq4, .ref nq5, .null, .int (iI 0)])), (nq1, .inl (gI G, 101, .inl (fun j : Nat => iI (zF (j : Int))))), (nq2, .inl (gL G, 101, .inr (.inl (fun j : Nat => lI (zF (j : Int)))))), (nq3, .inl (gZ G, 101, .inl (fun j : Nat => iI (zF (j : Int))))), (nq4, .inl (gI G, 101, .inl (fun j : Nat => iI (zF (j : Int))))), (nq5, .inl (gI G, 101, .inl (fun j : Nat => iI (zF (j : Int))))), (nq6, .inl (gI G, 101, .inl (fun j : Nat => iI (zF (j : Int)))))] := hD
  refine va_putF (D := G.1) (ci := 8) (v := .ref nq6) (ty := .array .int) (C := RX7) (T := TX7) (N := 7) hx hb hts hiX7 tyX7 tyX7_ok nmX7 hown hK hP hD hS 0 rfl rfl 5 (by decide) hw11 (fun _ h9 => h9) rfl hin rfl (by decide +kernel) rfl rfl (Nat.le_of_ble_eq_true rfl) dX7_init_49 (fun H locs hP hD hS => ?_)
  have hP : va_P G.1 vwCl [(o0, .inr (8, [.ref nq1, .ref nq2, .ref nq3, .ref nq4, .ref nq5, .ref nq6, .int (iI 0)])), (nq1, .inl (gI G, 101, .inl (fun j : Nat => iI (zF (j : Int))))), (nq2, .inl (gL G, 101, .inr (.inl (fun j : Nat => lI (zF (j : Int)))))), (nq3, .inl (gZ G, 101, .inl (fun j : Nat => iI (zF (j : Int))))), (nq4, .inl (gI G, 101, .inl (fun j : Nat => iI (zF (j : Int))))), (nq5, .inl (gI G, 101, .inl (fun j : Nat => iI (zF (j : Int))))), (nq6, .inl (gI G, 101, .inl (fun j : Nat => iI (zF (j : Int)))))] H := hP
  have hD : va_D A [(o0, .inr (8, [.ref nq1, .ref nq2, .ref nq3, .ref nq4, .ref nq5, .ref nq6, .int (iI 0)])), (nq1, .inl (gI G, 101, .inl (fun j : Nat => iI (zF (j : Int))))), (nq2, .inl (gL G, 101, .inr (.inl (fun j : Nat => lI (zF (j : Int)))))), (nq3, .inl (gZ G, 101, .inl (fun j : Nat => iI (zF (j : Int))))), (nq4, .inl (gI G, 101, .inl (fun j : Nat => iI (zF (j : Int))))), (nq5, .inl (gI G, 101, .inl (fun j : Nat => iI (zF (j : Int))))), (nq6, .inl (gI G, 101, .inl (fun j : Nat => iI (zF (j : Int)))))] := hD
  refine W.widen (k := 6) (n := 606) (by omega) (by omega) ?_
  exact hret (nq1, nq2, nq3, nq4, nq5, nq6) _ ls H locs dX7_init_52 hP hD hS

set_option maxHeartbeats 4000000 in
set_option maxRecDepth 100000 in
theorem c_X6_init (l : Launch) (G : Gx) (zz : Nat) (o0 : Nat)  : CN l yX6_init wsX6_init (rc 1 12 (1) (30)) G [.ref o0] [(o0, .inr (7, [.null]))] zz (fun uu : (Nat) => [(o0, .inr (7, [.ref uu])), (uu, .inl (gL G, 30, .inr (.inl (fun j : Nat => lI (zF (j : Int))))))]) (1) (30) := by
  refine met_N (cc := cX6_init) (maxL := 1) (by decide) rfl rfl (Nat.le_of_ble_eq_true rfl) ?_
  intro p e s m below meth c A Q F hin hAO C hP hD hS hret ls hl
  obtain ⟨hx, hb, hml, hown, hts⟩ := id F
  obtain ⟨hK, hA, hZ, hT, hN⟩ := id C
  have hl : lv_has ls 1 [(0, .ref o0)] := hl
  obtain ⟨H, hH⟩ : ∃ H, H = s.heap := ⟨_, rfl⟩
  obtain ⟨locs, hlocs⟩ : ∃ l : List Loc, l = [] := ⟨_, rfl⟩
  have hS : va_S A s.heap H locs := by rw [hH, hlocs]; exact hS
  have hP : va_P G.1 vwCl [(o0, .inr (7, [.null]))] H := by rw [hH]; exact hP
  suffices hgo : W p l e (rc 1 12 (1) (30)) s m [.ref o0].toArray below meth c H locs 0 0 Q (F0 m 0 ls []) by rw [hH, hlocs] at hgo; exact hgo
  have hw0 := hts (Cond.methodLink RX6 3 objectInit) (List.mem_of_getElem? (i := 1) rfl)
  have hw1 := hts (Cond.instanceMethod objectInit) (List.mem_of_getElem? (i := 2) rfl)
  have hw2 := hts (Cond.code objectInit ⟨#[0xb1]⟩ 1 none) (List.mem_of_getElem? (i := 3) rfl)
  have hw3 := hts (Cond.arrayClass .long) (List.mem_of_getElem? (i := 4) rfl)
  have hiX6 : ∀ w ∈ wsX60, w ∈ wsX6_init := by decide +kernel
  have hw4 := hts (Cond.fieldLink RX6 9 "PlainCobol$SecondScreen" "met" "[J") (List.mem_of_getElem? (i := 5) rfl)
  refine lv_aload_n hx hb dX6_init_0 rfl (lv_at hl 0 rfl) ?_
  refine W.objInit hx hb hown hw0 hw1 hw2 rfl (by rw [hml]; exact hl.1) rfl dX6_init_1 (Nat.le_of_ble_eq_true rfl) (Nat.le_of_ble_eq_true rfl) ?_
  refine W.eq (g2 := F0 m 4 ls []) rfl ?_
  refine lv_aload_n hx hb dX6_init_4 rfl (lv_at hl 0 rfl) ?_
  refine lv_bipush (v := iI (30)) hx hb dX6_init_5 (by decide) ?_
  refine z_newL hx hb hw3 C hP hD hS (30) (by omega) (by omega) (by first | exact Nat.le_of_ble_eq_true rfl | (show 0 + 1 ≤ 1; omega)) (by first | exact Nat.le_of_ble_eq_true rfl | (show 0 + (30) ≤ 30; omega)) dX6_init_7 (fun nq1 H hP hD hS => ?_)
  have hP : va_P G.1 vwCl [(o0, .inr (7, [.null])), (nq1, .inl (gL G, 30, .inr (.inl (fun j : Nat => lI (zF (j : Int))))))] H := hP
  have hD : va_D A [(o0, .inr (7, [.null])), (nq1, .inl (gL G, 30, .inr (.inl (fun j : Nat => lI (zF (j : Int))))))] := hD
  refine va_putF (D := G.1) (ci := 7) (v := .ref nq1) (ty := .array .long) (C := RX6) (T := TX6) (N := 1) hx hb hts hiX6 tyX6 tyX6_ok nmX6 hown hK hP hD hS 0 rfl rfl 0 (by decide) hw4 (fun _ h9 => h9) rfl hin rfl (by decide +kernel) rfl rfl (Nat.le_of_ble_eq_true rfl) dX6_init_9 (fun H locs hP hD hS => ?_)
  have hP : va_P G.1 vwCl [(o0, .inr (7, [.ref nq1])), (nq1, .inl (gL G, 30, .inr (.inl (fun j : Nat => lI (zF (j : Int))))))] H := hP
  have hD : va_D A [(o0, .inr (7, [.ref nq1])), (nq1, .inl (gL G, 30, .inr (.inl (fun j : Nat => lI (zF (j : Int))))))] := hD
  refine W.widen (k := 1) (n := 30) (by omega) (by omega) ?_
  exact hret (nq1) _ ls H locs dX6_init_12 hP hD hS

set_option maxHeartbeats 4000000 in
set_option maxRecDepth 100000 in
theorem c_X9_init (l : Launch) (G : Gx) (zz : Nat) (w0 : Nat) (lim : Int)  : CN l yX9_init wsX9_init (rc 2 35 (12) (2998)) G [.ref w0, .int (iI lim)] [(w0, .inr (10, [.null, .null, .null, .int (iI 0), .null, .int (iI 0), .int (iI 0)]))] zz (fun uu : (Nat) × (Nat) × (Nat) × (Nat) × (Nat) × (Nat) × (Nat) × (Nat) × (Nat) × (Nat) × (Nat) × (Nat) => [(w0, .inr (10, [.ref uu.1, .ref uu.2.2.2.2.1, .ref uu.2.2.2.2.2.2.2.2.1, .int (iI lim), .ref uu.2.2.2.2.2.2.2.2.2.2.2, .int (iI 0), .int (iI 0)])), (uu.2.2.2.2.2.2.2.2.2.2.2, .inl (gI G, 201, .inl (fun j : Nat => iI (zF (j : Int))))), (uu.1, .inr (2, [.ref uu.2.1, .ref uu.2.2.1, .ref uu.2.2.2.1, .int (iI 0)])), (uu.2.1, .inl (gI G, 61, .inl (fun j : Nat => iI (zF (j : Int))))), (uu.2.2.1, .inl (gL G, 61, .inr (.inl (fun j : Nat => lI (zF (j : Int)))))), (uu.2.2.2.1, .inl (gL G, 61, .inr (.inl (fun j : Nat => lI (zF (j : Int)))))), (uu.2.2.2.2.1, .inr (4, [.ref uu.2.2.2.2.2.1, .ref uu.2.2.2.2.2.2.1, .ref uu.2.2.2.2.2.2.2.1, .int (iI 0)])), (uu.2.2.2.2.2.1, .inl (gI G, 201, .inl (fun j : Nat => iI (zF (j : Int))))), (uu.2.2.2.2.2.2.1, .inl (gI G, 201, .inl (fun j : Nat => iI (zF (j : Int))))), (uu.2.2.2.2.2.2.2.1, .inl (gI G, 201, .inl (fun j : Nat => iI (zF (j : Int))))), (uu.2.2.2.2.2.2.2.2.1, .inr (1, [.ref uu.2.2.2.2.2.2.2.2.2.1, .ref uu.2.2.2.2.2.2.2.2.2.2.1, .int (iI 0)])), (uu.2.2.2.2.2.2.2.2.2.1, .inl (gI G, 1000, .inl (fun j : Nat => iI (zF (j : Int))))), (uu.2.2.2.2.2.2.2.2.2.2.1, .inl (gL G, 1000, .inr (.inl (fun j : Nat => lI (zF (j : Int))))))]) (12) (2998) := by
  refine met_N (cc := cX9_init) (maxL := 2) (by decide) rfl rfl (Nat.le_of_ble_eq_true rfl) ?_
  intro p e s m below meth c A Q F hin hAO C hP hD hS hret ls hl
  obtain ⟨hx, hb, hml, hown, hts⟩ := id F
  obtain ⟨hK, hA, hZ, hT, hN⟩ := id C
  have hl : lv_has ls 2 [(0, .ref w0), (1, .int (iI lim))] := hl
  obtain ⟨H, hH⟩ : ∃ H, H = s.heap := ⟨_, rfl⟩
  obtain ⟨locs, hlocs⟩ : ∃ l : List Loc, l = [] := ⟨_, rfl⟩
  have hS : va_S A s.heap H locs := by rw [hH, hlocs]; exact hS
  have hP : va_P G.1 vwCl [(w0, .inr (10, [.null, .null, .null, .int (iI 0), .null, .int (iI 0), .int (iI 0)]))] H := by rw [hH]; exact hP
  suffices hgo : W p l e (rc 2 35 (12) (2998)) s m [.ref w0, .int (iI lim)].toArray below meth c H locs 0 0 Q (F0 m 0 ls []) by rw [hH, hlocs] at hgo; exact hgo
  have hw0 := hts (Cond.methodLink RX9 3 objectInit) (List.mem_of_getElem? (i := 1) rfl)
  have hw1 := hts (Cond.instanceMethod objectInit) (List.mem_of_getElem? (i := 2) rfl)
  have hw2 := hts (Cond.code objectInit ⟨#[0xb1]⟩ 1 none) (List.mem_of_getElem? (i := 3) rfl)
  have hiX1 : ∀ w ∈ wsX10, w ∈ wsX9_init := by decide +kernel
  have hw3 := hts (Cond.classLink RX9 9 RX1) (List.mem_of_getElem? (i := 4) rfl)
  have hw4 := hts (Cond.instantiable RX1 4) (List.mem_of_getElem? (i := 5) rfl)
  have hw5 := hts (Cond.initialized RX1) (List.mem_of_getElem? (i := 6) rfl)
  have hw6 := hts (Cond.instanceMethod yX1_init) (List.mem_of_getElem? (i := 19) rfl)
  have hiX9 : ∀ w ∈ wsX90, w ∈ wsX9_init := by decide +kernel
  have hw7 := hts (Cond.fieldLink RX9 12 "PlainCobol$Walker" "cells" "LPlainCobol$Cells;") (List.mem_of_getElem? (i := 7) rfl)
  have hiX3 : ∀ w ∈ wsX30, w ∈ wsX9_init := by decide +kernel
  have hw8 := hts (Cond.classLink RX9 18 RX3) (List.mem_of_getElem? (i := 8) rfl)
  have hw9 := hts (Cond.instantiable RX3 4) (List.mem_of_getElem? (i := 9) rfl)
  have hw10 := hts (Cond.initialized RX3) (List.mem_of_getElem? (i := 10) rfl)
  have hw11 := hts (Cond.instanceMethod yX3_init) (List.mem_of_getElem? (i := 26) rfl)
  have hw12 := hts (Cond.fieldLink RX9 21 "PlainCobol$Walker" "nodes" "LPlainCobol$Nodes;") (List.mem_of_getElem? (i := 11) rfl)
  have hiX0 : ∀ w ∈ wsX00, w ∈ wsX9_init := by decide +kernel
  have hw13 := hts (Cond.classLink RX9 25 RX0) (List.mem_of_getElem? (i := 12) rfl)
  have hw14 := hts (Cond.instantiable RX0 3) (List.mem_of_getElem? (i := 13) rfl)
  have hw15 := hts (Cond.initialized RX0) (List.mem_of_getElem? (i := 14) rfl)
  have hw16 := hts (Cond.methodLink RX9 27 yX0_init) (List.mem_of_getElem? (i := 32) rfl)
  have hw17 := hts (Cond.instanceMethod yX0_init) (List.mem_of_getElem? (i := 33) rfl)
  have hw18 := hts (Cond.fieldLink RX9 30 "PlainCobol$Walker" "unit" "LPlainCobol$Acts;") (List.mem_of_getElem? (i := 15) rfl)
  have hw19 := hts (Cond.arrayClass .int) (List.mem_of_getElem? (i := 16) rfl)
  have hw20 := hts (Cond.fieldLink RX9 34 "PlainCobol$Walker" "waiting" "[I") (List.mem_of_getElem? (i := 17) rfl)
  have hw21 := hts (Cond.fieldLink RX9 38 "PlainCobol$Walker" "limit" "I") (List.mem_of_getElem? (i := 18) rfl)
  refine lv_aload_n hx hb dX9_init_0 rfl (lv_at hl 0 rfl) ?_
  refine W.objInit hx hb hown hw0 hw1 hw2 rfl (by rw [hml]; exact hl.1) rfl dX9_init_1 (Nat.le_of_ble_eq_true rfl) (Nat.le_of_ble_eq_true rfl) ?_
  refine W.eq (g2 := F0 m 4 ls []) rfl ?_
  refine lv_aload_n hx hb dX9_init_4 rfl (lv_at hl 0 rfl) ?_
  refine va_new (ci := 2) (fs := [.null, .null, .null, .int (iI 0)]) (C := RX1) (T := TX1) (N := 4) hx hb hts hiX1 tyX1 tyX1_ok hown hw3 hw4 hw5 hK hP hD hS hA rfl (fun j hj => by rcases (show j = 0 ∨ j = 1 ∨ j = 2 ∨ j = 3 by omega) with rfl | rfl | rfl | rfl <;> rfl) (by first | exact Nat.le_of_ble_eq_true rfl | (show 0 + 1 ≤ 12; omega)) (by first | exact Nat.le_of_ble_eq_true rfl | (show 0 + 4 ≤ 2998; omega)) dX9_init_5 (fun nq1 H hP hD hS => ?_)
  have hP : va_P G.1 vwCl [(w0, .inr (10, [.null, .null, .null, .int (iI 0), .null, .int (iI 0), .int (iI 0)])), (nq1, .inr (2, [.null, .null, .null, .int (iI 0)]))] H := hP
  have hD : va_D A [(w0, .inr (10, [.null, .null, .null, .int (iI 0), .null, .int (iI 0), .int (iI 0)])), (nq1, .inr (2, [.null, .null, .null, .int (iI 0)]))] := hD
  refine lv_dup hx hb dX9_init_8 rfl ?_
  refine z_cIN (As := []) (rest := [.ref nq1, .ref w0]) (wc := [(nq1, .inr (2, [.null, .null, .null, .int (iI 0)]))]) (wr := [(w0, .inr (10, [.null, .null, .null, .int (iI 0), .null, .int (iI 0), .int (iI 0)]))]) (w1 := (fun uu : (Nat) × (Nat) × (Nat) => [(nq1, .inr (2, [.ref uu.1, .ref uu.2.1, .ref uu.2.2, .int (iI 0)])), (uu.1, .inl (gI G, 61, .inl (fun j : Nat => iI (zF (j : Int))))), (uu.2.1, .inl (gL G, 61, .inr (.inl (fun j : Nat => lI (zF (j : Int)))))), (uu.2.2, .inl (gL G, 61, .inr (.inl (fun j : Nat => lI (zF (j : Int))))))])) F hAO C (c_X1_init l G H.size nq1 ) ⟨va_cnB 0 hts gX9_init_X1_init_n11 rfl rfl rfl hN.2.2.2.2.2.2.2.2.2.1 hw5 (by decide +kernel) (by decide), rfl, hw6⟩ hP hD hS [1] [0] rfl rfl (by decide) rfl hl.1 rfl (Nat.le_of_ble_eq_true rfl) dX9_init_9 ⟨(by first | exact Nat.le_of_ble_eq_true rfl | (show 0 + 1 + (3) ≤ 12; omega)), (by first | exact Nat.le_of_ble_eq_true rfl | (show 0 + 4 + (183) ≤ 2998; omega))⟩ (fun uu H locs hP hD hS => ?_)
  obtain ⟨q1_2, q2_3, q3_4⟩ := uu
  have hP : va_P G.1 vwCl [(w0, .inr (10, [.null, .null, .null, .int (iI 0), .null, .int (iI 0), .int (iI 0)])), (nq1, .inr (2, [.ref q1_2, .ref q2_3, .ref q3_4, .int (iI 0)])), (q1_2, .inl (gI G, 61, .inl (fun j : Nat => iI (zF (j : Int))))), (q2_3, .inl (gL G, 61, .inr (.inl (fun j : Nat => lI (zF (j : Int)))))), (q3_4, .inl (gL G, 61, .inr (.inl (fun j : Nat => lI (zF (j : Int))))))] H := hP
  have hD : va_D A [(w0, .inr (10, [.null, .null, .null, .int (iI 0), .null, .int (iI 0), .int (iI 0)])), (nq1, .inr (2, [.ref q1_2, .ref q2_3, .ref q3_4, .int (iI 0)])), (q1_2, .inl (gI G, 61, .inl (fun j : Nat => iI (zF (j : Int))))), (q2_3, .inl (gL G, 61, .inr (.inl (fun j : Nat => lI (zF (j : Int)))))), (q3_4, .inl (gL G, 61, .inr (.inl (fun j : Nat => lI (zF (j : Int))))))] := hD
  refine va_putF (D := G.1) (ci := 10) (v := .ref nq1) (ty := .object "PlainCobol$Cells") (C := RX9) (T := TX9) (N := 7) hx hb hts hiX9 tyX9 tyX9_ok nmX9 hown hK hP hD hS 0 rfl rfl 0 (by decide) hw7 (fun _ h9 => h9) rfl hin rfl (by decide +kernel) rfl rfl (Nat.le_of_ble_eq_true rfl) dX9_init_12 (fun H locs hP hD hS => ?_)
  have hP : va_P G.1 vwCl [(w0, .inr (10, [.ref nq1, .null, .null, .int (iI 0), .null, .int (iI 0), .int (iI 0)])), (nq1, .inr (2, [.ref q1_2, .ref q2_3, .ref q3_4, .int (iI 0)])), (q1_2, .inl (gI G, 61, .inl (fun j : Nat => iI (zF (j : Int))))), (q2_3, .inl (gL G, 61, .inr (.inl (fun j : Nat => lI (zF (j : Int)))))), (q3_4, .inl (gL G, 61, .inr (.inl (fun j : Nat => lI (zF (j : Int))))))] H := hP
  have hD : va_D A [(w0, .inr (10, [.ref nq1, .null, .null, .int (iI 0), .null, .int (iI 0), .int (iI 0)])), (nq1, .inr (2, [.ref q1_2, .ref q2_3, .ref q3_4, .int (iI 0)])), (q1_2, .inl (gI G, 61, .inl (fun j : Nat => iI (zF (j : Int))))), (q2_3, .inl (gL G, 61, .inr (.inl (fun j : Nat => lI (zF (j : Int)))))), (q3_4, .inl (gL G, 61, .inr (.inl (fun j : Nat => lI (zF (j : Int))))))] := hD
  refine lv_aload_n hx hb dX9_init_15 rfl (lv_at hl 0 rfl) ?_
  refine va_new (ci := 4) (fs := [.null, .null, .null, .int (iI 0)]) (C := RX3) (T := TX3) (N := 4) hx hb hts hiX3 tyX3 tyX3_ok hown hw8 hw9 hw10 hK hP hD hS hA rfl (fun j hj => by rcases (show j = 0 ∨ j = 1 ∨ j = 2 ∨ j = 3 by omega) with rfl | rfl | rfl | rfl <;> rfl) (by first | exact Nat.le_of_ble_eq_true rfl | (show 0 + 1 + (3) + 1 ≤ 12; omega)) (by first | exact Nat.le_of_ble_eq_true rfl | (show 0 + 4 + (183) + 4 ≤ 2998; omega)) dX9_init_16 (fun nq5 H hP hD hS => ?_)
  have hP : va_P G.1 vwCl [(w0, .inr (10, [.ref nq1, .null, .null, .int (iI 0), .null, .int (iI 0), .int (iI 0)])), (nq1, .inr (2, [.ref q1_2, .ref q2_3, .ref q3_4, .int (iI 0)])), (q1_2, .inl (gI G, 61, .inl (fun j : Nat => iI (zF (j : Int))))), (q2_3, .inl (gL G, 61, .inr (.inl (fun j : Nat => lI (zF (j : Int)))))), (q3_4, .inl (gL G, 61, .inr (.inl (fun j : Nat => lI (zF (j : Int)))))), (nq5, .inr (4, [.null, .null, .null, .int (iI 0)]))] H := hP
  have hD : va_D A [(w0, .inr (10, [.ref nq1, .null, .null, .int (iI 0), .null, .int (iI 0), .int (iI 0)])), (nq1, .inr (2, [.ref q1_2, .ref q2_3, .ref q3_4, .int (iI 0)])), (q1_2, .inl (gI G, 61, .inl (fun j : Nat => iI (zF (j : Int))))), (q2_3, .inl (gL G, 61, .inr (.inl (fun j : Nat => lI (zF (j : Int)))))), (q3_4, .inl (gL G, 61, .inr (.inl (fun j : Nat => lI (zF (j : Int)))))), (nq5, .inr (4, [.null, .null, .null, .int (iI 0)]))] := hD
  refine lv_dup hx hb dX9_init_19 rfl ?_
  refine z_cIN (As := []) (rest := [.ref nq5, .ref w0]) (wc := [(nq5, .inr (4, [.null, .null, .null, .int (iI 0)]))]) (wr := [(w0, .inr (10, [.ref nq1, .null, .null, .int (iI 0), .null, .int (iI 0), .int (iI 0)])), (nq1, .inr (2, [.ref q1_2, .ref q2_3, .ref q3_4, .int (iI 0)])), (q1_2, .inl (gI G, 61, .inl (fun j : Nat => iI (zF (j : Int))))), (q2_3, .inl (gL G, 61, .inr (.inl (fun j : Nat => lI (zF (j : Int)))))), (q3_4, .inl (gL G, 61, .inr (.inl (fun j : Nat => lI (zF (j : Int))))))]) (w1 := (fun uu : (Nat) × (Nat) × (Nat) => [(nq5, .inr (4, [.ref uu.1, .ref uu.2.1, .ref uu.2.2, .int (iI 0)])), (uu.1, .inl (gI G, 201, .inl (fun j : Nat => iI (zF (j : Int))))), (uu.2.1, .inl (gI G, 201, .inl (fun j : Nat => iI (zF (j : Int))))), (uu.2.2, .inl (gI G, 201, .inl (fun j : Nat => iI (zF (j : Int)))))])) F hAO C (c_X3_init l G H.size nq5 ) ⟨va_cnB 0 hts gX9_init_X3_init_n20 rfl rfl rfl hN.2.2.2.2.2.2.2.2.2.2 hw10 (by decide +kernel) (by decide), rfl, hw11⟩ hP hD hS [5] [0, 1, 2, 3, 4] rfl rfl (by decide) rfl hl.1 rfl (Nat.le_of_ble_eq_true rfl) dX9_init_20 ⟨(by first | exact Nat.le_of_ble_eq_true rfl | (show 0 + 1 + (3) + 1 + (3) ≤ 12; omega)), (by first | exact Nat.le_of_ble_eq_true rfl | (show 0 + 4 + (183) + 4 + (603) ≤ 2998; omega))⟩ (fun uu H locs hP hD hS => ?_)
  obtain ⟨q1_6, q2_7, q3_8⟩ := uu
  have hP : va_P G.1 vwCl [(w0, .inr (10, [.ref nq1, .null, .null, .int (iI 0), .null, .int (iI 0), .int (iI 0)])), (nq1, .inr (2, [.ref q1_2, .ref q2_3, .ref q3_4, .int (iI 0)])), (q1_2, .inl (gI G, 61, .inl (fun j : Nat => iI (zF (j : Int))))), (q2_3, .inl (gL G, 61, .inr (.inl (fun j : Nat => lI (zF (j : Int)))))), (q3_4, .inl (gL G, 61, .inr (.inl (fun j : Nat => lI (zF (j : Int)))))), (nq5, .inr (4, [.ref q1_6, .ref q2_7, .ref q3_8, .int (iI 0)])), (q1_6, .inl (gI G, 201, .inl (fun j : Nat => iI (zF (j : Int))))), (q2_7, .inl (gI G, 201, .inl (fun j : Nat => iI (zF (j : Int))))), (q3_8, .inl (gI G, 201, .inl (fun j : Nat => iI (zF (j : Int)))))] H := hP
  have hD : va_D A [(w0, .inr (10, [.ref nq1, .null, .null, .int (iI 0), .null, .int (iI 0), .int (iI 0)])), (nq1, .inr (2, [.ref q1_2, .ref q2_3, .ref q3_4, .int (iI 0)])), (q1_2, .inl (gI G, 61, .inl (fun j : Nat => iI (zF (j : Int))))), (q2_3, .inl (gL G, 61, .inr (.inl (fun j : Nat => lI (zF (j : Int)))))), (q3_4, .inl (gL G, 61, .inr (.inl (fun j : Nat => lI (zF (j : Int)))))), (nq5, .inr (4, [.ref q1_6, .ref q2_7, .ref q3_8, .int (iI 0)])), (q1_6, .inl (gI G, 201, .inl (fun j : Nat => iI (zF (j : Int))))), (q2_7, .inl (gI G, 201, .inl (fun j : Nat => iI (zF (j : Int))))), (q3_8, .inl (gI G, 201, .inl (fun j : Nat => iI (zF (j : Int)))))] := hD
  refine va_putF (D := G.1) (ci := 10) (v := .ref nq5) (ty := .object "PlainCobol$Nodes") (C := RX9) (T := TX9) (N := 7) hx hb hts hiX9 tyX9 tyX9_ok nmX9 hown hK hP hD hS 0 rfl rfl 1 (by decide) hw12 (fun _ h9 => h9) rfl hin rfl (by decide +kernel) rfl rfl (Nat.le_of_ble_eq_true rfl) dX9_init_23 (fun H locs hP hD hS => ?_)
  have hP : va_P G.1 vwCl [(w0, .inr (10, [.ref nq1, .ref nq5, .null, .int (iI 0), .null, .int (iI 0), .int (iI 0)])), (nq1, .inr (2, [.ref q1_2, .ref q2_3, .ref q3_4, .int (iI 0)])), (q1_2, .inl (gI G, 61, .inl (fun j : Nat => iI (zF (j : Int))))), (q2_3, .inl (gL G, 61, .inr (.inl (fun j : Nat => lI (zF (j : Int)))))), (q3_4, .inl (gL G, 61, .inr (.inl (fun j : Nat => lI (zF (j : Int)))))), (nq5, .inr (4, [.ref q1_6, .ref q2_7, .ref q3_8, .int (iI 0)])), (q1_6, .inl (gI G, 201, .inl (fun j : Nat => iI (zF (j : Int))))), (q2_7, .inl (gI G, 201, .inl (fun j : Nat => iI (zF (j : Int))))), (q3_8, .inl (gI G, 201, .inl (fun j : Nat => iI (zF (j : Int)))))] H := hP
  have hD : va_D A [(w0, .inr (10, [.ref nq1, .ref nq5, .null, .int (iI 0), .null, .int (iI 0), .int (iI 0)])), (nq1, .inr (2, [.ref q1_2, .ref q2_3, .ref q3_4, .int (iI 0)])), (q1_2, .inl (gI G, 61, .inl (fun j : Nat => iI (zF (j : Int))))), (q2_3, .inl (gL G, 61, .inr (.inl (fun j : Nat => lI (zF (j : Int)))))), (q3_4, .inl (gL G, 61, .inr (.inl (fun j : Nat => lI (zF (j : Int)))))), (nq5, .inr (4, [.ref q1_6, .ref q2_7, .ref q3_8, .int (iI 0)])), (q1_6, .inl (gI G, 201, .inl (fun j : Nat => iI (zF (j : Int))))), (q2_7, .inl (gI G, 201, .inl (fun j : Nat => iI (zF (j : Int))))), (q3_8, .inl (gI G, 201, .inl (fun j : Nat => iI (zF (j : Int)))))] := hD
  refine lv_aload_n hx hb dX9_init_26 rfl (lv_at hl 0 rfl) ?_
  refine va_new (ci := 1) (fs := [.null, .null, .int (iI 0)]) (C := RX0) (T := TX0) (N := 3) hx hb hts hiX0 tyX0 tyX0_ok hown hw13 hw14 hw15 hK hP hD hS hA rfl (fun j hj => by rcases (show j = 0 ∨ j = 1 ∨ j = 2 by omega) with rfl | rfl | rfl <;> rfl) (by first | exact Nat.le_of_ble_eq_true rfl | (show 0 + 1 + (3) + 1 + (3) + 1 ≤ 12; omega)) (by first | exact Nat.le_of_ble_eq_true rfl | (show 0 + 4 + (183) + 4 + (603) + 3 ≤ 2998; omega)) dX9_init_27 (fun nq9 H hP hD hS => ?_)
  have hP : va_P G.1 vwCl [(w0, .inr (10, [.ref nq1, .ref nq5, .null, .int (iI 0), .null, .int (iI 0), .int (iI 0)])), (nq1, .inr (2, [.ref q1_2, .ref q2_3, .ref q3_4, .int (iI 0)])), (q1_2, .inl (gI G, 61, .inl (fun j : Nat => iI (zF (j : Int))))), (q2_3, .inl (gL G, 61, .inr (.inl (fun j : Nat => lI (zF (j : Int)))))), (q3_4, .inl (gL G, 61, .inr (.inl (fun j : Nat => lI (zF (j : Int)))))), (nq5, .inr (4, [.ref q1_6, .ref q2_7, .ref q3_8, .int (iI 0)])), (q1_6, .inl (gI G, 201, .inl (fun j : Nat => iI (zF (j : Int))))), (q2_7, .inl (gI G, 201, .inl (fun j : Nat => iI (zF (j : Int))))), (q3_8, .inl (gI G, 201, .inl (fun j : Nat => iI (zF (j : Int))))), (nq9, .inr (1, [.null, .null, .int (iI 0)]))] H := hP
  have hD : va_D A [(w0, .inr (10, [.ref nq1, .ref nq5, .null, .int (iI 0), .null, .int (iI 0), .int (iI 0)])), (nq1, .inr (2, [.ref q1_2, .ref q2_3, .ref q3_4, .int (iI 0)])), (q1_2, .inl (gI G, 61, .inl (fun j : Nat => iI (zF (j : Int))))), (q2_3, .inl (gL G, 61, .inr (.inl (fun j : Nat => lI (zF (j : Int)))))), (q3_4, .inl (gL G, 61, .inr (.inl (fun j : Nat => lI (zF (j : Int)))))), (nq5, .inr (4, [.ref q1_6, .ref q2_7, .ref q3_8, .int (iI 0)])), (q1_6, .inl (gI G, 201, .inl (fun j : Nat => iI (zF (j : Int))))), (q2_7, .inl (gI G, 201, .inl (fun j : Nat => iI (zF (j : Int))))), (q3_8, .inl (gI G, 201, .inl (fun j : Nat => iI (zF (j : Int))))), (nq9, .inr (1, [.null, .null, .int (iI 0)]))] := hD
  refine lv_dup hx hb dX9_init_30 rfl ?_
  refine lv_sipush (v := iI (1000)) hx hb dX9_init_31 (by decide) ?_
  refine z_cI (As := [.int (iI 1000)]) (rest := [.ref nq9, .ref w0]) (wc := [(nq9, .inr (1, [.null, .null, .int (iI 0)]))]) (wr := [(w0, .inr (10, [.ref nq1, .ref nq5, .null, .int (iI 0), .null, .int (iI 0), .int (iI 0)])), (nq1, .inr (2, [.ref q1_2, .ref q2_3, .ref q3_4, .int (iI 0)])), (q1_2, .inl (gI G, 61, .inl (fun j : Nat => iI (zF (j : Int))))), (q2_3, .inl (gL G, 61, .inr (.inl (fun j : Nat => lI (zF (j : Int)))))), (q3_4, .inl (gL G, 61, .inr (.inl (fun j : Nat => lI (zF (j : Int)))))), (nq5, .inr (4, [.ref q1_6, .ref q2_7, .ref q3_8, .int (iI 0)])), (q1_6, .inl (gI G, 201, .inl (fun j : Nat => iI (zF (j : Int))))), (q2_7, .inl (gI G, 201, .inl (fun j : Nat => iI (zF (j : Int))))), (q3_8, .inl (gI G, 201, .inl (fun j : Nat => iI (zF (j : Int)))))]) (w1 := (fun uu : (Nat) × (Nat) => [(nq9, .inr (1, [.ref uu.1, .ref uu.2, .int (iI 0)])), (uu.1, .inl (gI G, 1000, .inl (fun j : Nat => iI (zF (j : Int))))), (uu.2, .inl (gL G, 1000, .inr (.inl (fun j : Nat => lI (zF (j : Int))))))])) F hAO C (c_X0_init l G H.size nq9 1000 (by omega)) (cwI 1 hts gX9_init_X0_init rfl rfl rfl hw15 hw16 hw17 rfl (by decide +kernel) (by decide)) hP hD hS [9] [0, 1, 2, 3, 4, 5, 6, 7, 8] rfl rfl (by decide) rfl hl.1 rfl (Nat.le_of_ble_eq_true rfl) dX9_init_34 ⟨(by first | exact Nat.le_of_ble_eq_true rfl | (show 0 + 1 + (3) + 1 + (3) + 1 + (2) ≤ 12; omega)), (by first | exact Nat.le_of_ble_eq_true rfl | (show 0 + 4 + (183) + 4 + (603) + 3 + (1000 + 1000) ≤ 2998; omega))⟩ (fun uu H locs hP hD hS => ?_)
  obtain ⟨q1_10, q2_11⟩ := uu
  have hP : va_P G.1 vwCl [(w0, .inr (10, [.ref nq1, .ref nq5, .null, .int (iI 0), .null, .int (iI 0), .int (iI 0)])), (nq1, .inr (2, [.ref q1_2, .ref q2_3, .ref q3_4, .int (iI 0)])), (q1_2, .inl (gI G, 61, .inl (fun j : Nat => iI (zF (j : Int))))), (q2_3, .inl (gL G, 61, .inr (.inl (fun j : Nat => lI (zF (j : Int)))))), (q3_4, .inl (gL G, 61, .inr (.inl (fun j : Nat => lI (zF (j : Int)))))), (nq5, .inr (4, [.ref q1_6, .ref q2_7, .ref q3_8, .int (iI 0)])), (q1_6, .inl (gI G, 201, .inl (fun j : Nat => iI (zF (j : Int))))), (q2_7, .inl (gI G, 201, .inl (fun j : Nat => iI (zF (j : Int))))), (q3_8, .inl (gI G, 201, .inl (fun j : Nat => iI (zF (j : Int))))), (nq9, .inr (1, [.ref q1_10, .ref q2_11, .int (iI 0)])), (q1_10, .inl (gI G, 1000, .inl (fun j : Nat => iI (zF (j : Int))))), (q2_11, .inl (gL G, 1000, .inr (.inl (fun j : Nat => lI (zF (j : Int))))))] H := hP
  have hD : va_D A [(w0, .inr (10, [.ref nq1, .ref nq5, .null, .int (iI 0), .null, .int (iI 0), .int (iI 0)])), (nq1, .inr (2, [.ref q1_2, .ref q2_3, .ref q3_4, .int (iI 0)])), (q1_2, .inl (gI G, 61, .inl (fun j : Nat => iI (zF (j : Int))))), (q2_3, .inl (gL G, 61, .inr (.inl (fun j : Nat => lI (zF (j : Int)))))), (q3_4, .inl (gL G, 61, .inr (.inl (fun j : Nat => lI (zF (j : Int)))))), (nq5, .inr (4, [.ref q1_6, .ref q2_7, .ref q3_8, .int (iI 0)])), (q1_6, .inl (gI G, 201, .inl (fun j : Nat => iI (zF (j : Int))))), (q2_7, .inl (gI G, 201, .inl (fun j : Nat => iI (zF (j : Int))))), (q3_8, .inl (gI G, 201, .inl (fun j : Nat => iI (zF (j : Int))))), (nq9, .inr (1, [.ref q1_10, .ref q2_11, .int (iI 0)])), (q1_10, .inl (gI G, 1000, .inl (fun j : Nat => iI (zF (j : Int))))), (q2_11, .inl (gL G, 1000, .inr (.inl (fun j : Nat => lI (zF (j : Int))))))] := hD
  refine va_putF (D := G.1) (ci := 10) (v := .ref nq9) (ty := .object "PlainCobol$Acts") (C := RX9) (T := TX9) (N := 7) hx hb hts hiX9 tyX9 tyX9_ok nmX9 hown hK hP hD hS 0 rfl rfl 2 (by decide) hw18 (fun _ h9 => h9) rfl hin rfl (by decide +kernel) rfl rfl (Nat.le_of_ble_eq_true rfl) dX9_init_37 (fun H locs hP hD hS => ?_)
  have hP : va_P G.1 vwCl [(w0, .inr (10, [.ref nq1, .ref nq5, .ref nq9, .int (iI 0), .null, .int (iI 0), .int (iI 0)])), (nq1, .inr (2, [.ref q1_2, .ref q2_3, .ref q3_4, .int (iI 0)])), (q1_2, .inl (gI G, 61, .inl (fun j : Nat => iI (zF (j : Int))))), (q2_3, .inl (gL G, 61, .inr (.inl (fun j : Nat => lI (zF (j : Int)))))), (q3_4, .inl (gL G, 61, .inr (.inl (fun j : Nat => lI (zF (j : Int)))))), (nq5, .inr (4, [.ref q1_6, .ref q2_7, .ref q3_8, .int (iI 0)])), (q1_6, .inl (gI G, 201, .inl (fun j : Nat => iI (zF (j : Int))))), (q2_7, .inl (gI G, 201, .inl (fun j : Nat => iI (zF (j : Int))))), (q3_8, .inl (gI G, 201, .inl (fun j : Nat => iI (zF (j : Int))))), (nq9, .inr (1, [.ref q1_10, .ref q2_11, .int (iI 0)])), (q1_10, .inl (gI G, 1000, .inl (fun j : Nat => iI (zF (j : Int))))), (q2_11, .inl (gL G, 1000, .inr (.inl (fun j : Nat => lI (zF (j : Int))))))] H := hP
  have hD : va_D A [(w0, .inr (10, [.ref nq1, .ref nq5, .ref nq9, .int (iI 0), .null, .int (iI 0), .int (iI 0)])), (nq1, .inr (2, [.ref q1_2, .ref q2_3, .ref q3_4, .int (iI 0)])), (q1_2, .inl (gI G, 61, .inl (fun j : Nat => iI (zF (j : Int))))), (q2_3, .inl (gL G, 61, .inr (.inl (fun j : Nat => lI (zF (j : Int)))))), (q3_4, .inl (gL G, 61, .inr (.inl (fun j : Nat => lI (zF (j : Int)))))), (nq5, .inr (4, [.ref q1_6, .ref q2_7, .ref q3_8, .int (iI 0)])), (q1_6, .inl (gI G, 201, .inl (fun j : Nat => iI (zF (j : Int))))), (q2_7, .inl (gI G, 201, .inl (fun j : Nat => iI (zF (j : Int))))), (q3_8, .inl (gI G, 201, .inl (fun j : Nat => iI (zF (j : Int))))), (nq9, .inr (1, [.ref q1_10, .ref q2_11, .int (iI 0)])), (q1_10, .inl (gI G, 1000, .inl (fun j : Nat => iI (zF (j : Int))))), (q2_11, .inl (gL G, 1000, .inr (.inl (fun j : Nat => lI (zF (j : Int))))))] := hD
  refine lv_aload_n hx hb dX9_init_40 rfl (lv_at hl 0 rfl) ?_
  refine lv_sipush (v := iI (201)) hx hb dX9_init_41 (by decide) ?_
  refine z_newI hx hb hw19 C hP hD hS (201) (by omega) (by omega) (by first | exact Nat.le_of_ble_eq_true rfl | (show 0 + 1 + (3) + 1 + (3) + 1 + (2) + 1 ≤ 12; omega)) (by first | exact Nat.le_of_ble_eq_true rfl | (show 0 + 4 + (183) + 4 + (603) + 3 + (1000 + 1000) + (201) ≤ 2998; omega)) dX9_init_44 (fun nq12 H hP hD hS => ?_)
  have hP : va_P G.1 vwCl [(w0, .inr (10, [.ref nq1, .ref nq5, .ref nq9, .int (iI 0), .null, .int (iI 0), .int (iI 0)])), (nq1, .inr (2, [.ref q1_2, .ref q2_3, .ref q3_4, .int (iI 0)])), (q1_2, .inl (gI G, 61, .inl (fun j : Nat => iI (zF (j : Int))))), (q2_3, .inl (gL G, 61, .inr (.inl (fun j : Nat => lI (zF (j : Int)))))), (q3_4, .inl (gL G, 61, .inr (.inl (fun j : Nat => lI (zF (j : Int)))))), (nq5, .inr (4, [.ref q1_6, .ref q2_7, .ref q3_8, .int (iI 0)])), (q1_6, .inl (gI G, 201, .inl (fun j : Nat => iI (zF (j : Int))))), (q2_7, .inl (gI G, 201, .inl (fun j : Nat => iI (zF (j : Int))))), (q3_8, .inl (gI G, 201, .inl (fun j : Nat => iI (zF (j : Int))))), (nq9, .inr (1, [.ref q1_10, .ref q2_11, .int (iI 0)])), (q1_10, .inl (gI G, 1000, .inl (fun j : Nat => iI (zF (j : Int))))), (q2_11, .inl (gL G, 1000, .inr (.inl (fun j : Nat => lI (zF (j : Int)))))), (nq12, .inl (gI G, 201, .inl (fun j : Nat => iI (zF (j : Int)))))] H := hP
  have hD : va_D A [(w0, .inr (10, [.ref nq1, .ref nq5, .ref nq9, .int (iI 0), .null, .int (iI 0), .int (iI 0)])), (nq1, .inr (2, [.ref q1_2, .ref q2_3, .ref q3_4, .int (iI 0)])), (q1_2, .inl (gI G, 61, .inl (fun j : Nat => iI (zF (j : Int))))), (q2_3, .inl (gL G, 61, .inr (.inl (fun j : Nat => lI (zF (j : Int)))))), (q3_4, .inl (gL G, 61, .inr (.inl (fun j : Nat => lI (zF (j : Int)))))), (nq5, .inr (4, [.ref q1_6, .ref q2_7, .ref q3_8, .int (iI 0)])), (q1_6, .inl (gI G, 201, .inl (fun j : Nat => iI (zF (j : Int))))), (q2_7, .inl (gI G, 201, .inl (fun j : Nat => iI (zF (j : Int))))), (q3_8, .inl (gI G, 201, .inl (fun j : Nat => iI (zF (j : Int))))), (nq9, .inr (1, [.ref q1_10, .ref q2_11, .int (iI 0)])), (q1_10, .inl (gI G, 1000, .inl (fun j : Nat => iI (zF (j : Int))))), (q2_11, .inl (gL G, 1000, .inr (.inl (fun j : Nat => lI (zF (j : Int)))))), (nq12, .inl (gI G, 201, .inl (fun j : Nat => iI (zF (j : Int)))))] := hD
  refine va_putF (D := G.1) (ci := 10) (v := .ref nq12) (ty := .array .int) (C := RX9) (T := TX9) (N := 7) hx hb hts hiX9 tyX9 tyX9_ok nmX9 hown hK hP hD hS 0 rfl rfl 4 (by decide) hw20 (fun _ h9 => h9) rfl hin rfl (by decide +kernel) rfl rfl (Nat.le_of_ble_eq_true rfl) dX9_init_46 (fun H locs hP hD hS => ?_)
  have hP : va_P G.1 vwCl [(w0, .inr (10, [.ref nq1, .ref nq5, .ref nq9, .int (iI 0), .ref nq12, .int (iI 0), .int (iI 0)])), (nq1, .inr (2, [.ref q1_2, .ref q2_3, .ref q3_4, .int (iI 0)])), (q1_2, .inl (gI G, 61, .inl (fun j : Nat => iI (zF (j : Int))))), (q2_3, .inl (gL G, 61, .inr (.inl (fun j : Nat => lI (zF (j : Int)))))), (q3_4, .inl (gL G, 61, .inr (.inl (fun j : Nat => lI (zF (j : Int)))))), (nq5, .inr (4, [.ref q1_6, .ref q2_7, .ref q3_8, .int (iI 0)])), (q1_6, .inl (gI G, 201, .inl (fun j : Nat => iI (zF (j : Int))))), (q2_7, .inl (gI G, 201, .inl (fun j : Nat => iI (zF (j : Int))))), (q3_8, .inl (gI G, 201, .inl (fun j : Nat => iI (zF (j : Int))))), (nq9, .inr (1, [.ref q1_10, .ref q2_11, .int (iI 0)])), (q1_10, .inl (gI G, 1000, .inl (fun j : Nat => iI (zF (j : Int))))), (q2_11, .inl (gL G, 1000, .inr (.inl (fun j : Nat => lI (zF (j : Int)))))), (nq12, .inl (gI G, 201, .inl (fun j : Nat => iI (zF (j : Int)))))] H := hP
  have hD : va_D A [(w0, .inr (10, [.ref nq1, .ref nq5, .ref nq9, .int (iI 0), .ref nq12, .int (iI 0), .int (iI 0)])), (nq1, .inr (2, [.ref q1_2, .ref q2_3, .ref q3_4, .int (iI 0)])), (q1_2, .inl (gI G, 61, .inl (fun j : Nat => iI (zF (j : Int))))), (q2_3, .inl (gL G, 61, .inr (.inl (fun j : Nat => lI (zF (j : Int)))))), (q3_4, .inl (gL G, 61, .inr (.inl (fun j : Nat => lI (zF (j : Int)))))), (nq5, .inr (4, [.ref q1_6, .ref q2_7, .ref q3_8, .int (iI 0)])), (q1_6, .inl (gI G, 201, .inl (fun j : Nat => iI (zF (j : Int))))), (q2_7, .inl (gI G, 201, .inl (fun j : Nat => iI (zF (j : Int))))), (q3_8, .inl (gI G, 201, .inl (fun j : Nat => iI (zF (j : Int))))), (nq9, .inr (1, [.ref q1_10, .ref q2_11, .int (iI 0)])), (q1_10, .inl (gI G, 1000, .inl (fun j : Nat => iI (zF (j : Int))))), (q2_11, .inl (gL G, 1000, .inr (.inl (fun j : Nat => lI (zF (j : Int)))))), (nq12, .inl (gI G, 201, .inl (fun j : Nat => iI (zF (j : Int)))))] := hD
  refine lv_aload_n hx hb dX9_init_49 rfl (lv_at hl 0 rfl) ?_
  refine lv_iload_n hx hb dX9_init_50 rfl (lv_at hl 1 rfl) ?_
  refine va_putF (D := G.1) (ci := 10) (v := .int (iI lim)) (ty := .int) (C := RX9) (T := TX9) (N := 7) hx hb hts hiX9 tyX9 tyX9_ok nmX9 hown hK hP hD hS 0 rfl rfl 3 (by decide) hw21 (fun _ h9 => h9) rfl hin rfl (by decide +kernel) rfl rfl (Nat.le_of_ble_eq_true rfl) dX9_init_51 (fun H locs hP hD hS => ?_)
  have hP : va_P G.1 vwCl [(w0, .inr (10, [.ref nq1, .ref nq5, .ref nq9, .int (iI lim), .ref nq12, .int (iI 0), .int (iI 0)])), (nq1, .inr (2, [.ref q1_2, .ref q2_3, .ref q3_4, .int (iI 0)])), (q1_2, .inl (gI G, 61, .inl (fun j : Nat => iI (zF (j : Int))))), (q2_3, .inl (gL G, 61, .inr (.inl (fun j : Nat => lI (zF (j : Int)))))), (q3_4, .inl (gL G, 61, .inr (.inl (fun j : Nat => lI (zF (j : Int)))))), (nq5, .inr (4, [.ref q1_6, .ref q2_7, .ref q3_8, .int (iI 0)])), (q1_6, .inl (gI G, 201, .inl (fun j : Nat => iI (zF (j : Int))))), (q2_7, .inl (gI G, 201, .inl (fun j : Nat => iI (zF (j : Int))))), (q3_8, .inl (gI G, 201, .inl (fun j : Nat => iI (zF (j : Int))))), (nq9, .inr (1, [.ref q1_10, .ref q2_11, .int (iI 0)])), (q1_10, .inl (gI G, 1000, .inl (fun j : Nat => iI (zF (j : Int))))), (q2_11, .inl (gL G, 1000, .inr (.inl (fun j : Nat => lI (zF (j : Int)))))), (nq12, .inl (gI G, 201, .inl (fun j : Nat => iI (zF (j : Int)))))] H := hP
  have hD : va_D A [(w0, .inr (10, [.ref nq1, .ref nq5, .ref nq9, .int (iI lim), .ref nq12, .int (iI 0), .int (iI 0)])), (nq1, .inr (2, [.ref q1_2, .ref q2_3, .ref q3_4, .int (iI 0)])), (q1_2, .inl (gI G, 61, .inl (fun j : Nat => iI (zF (j : Int))))), (q2_3, .inl (gL G, 61, .inr (.inl (fun j : Nat => lI (zF (j : Int)))))), (q3_4, .inl (gL G, 61, .inr (.inl (fun j : Nat => lI (zF (j : Int)))))), (nq5, .inr (4, [.ref q1_6, .ref q2_7, .ref q3_8, .int (iI 0)])), (q1_6, .inl (gI G, 201, .inl (fun j : Nat => iI (zF (j : Int))))), (q2_7, .inl (gI G, 201, .inl (fun j : Nat => iI (zF (j : Int))))), (q3_8, .inl (gI G, 201, .inl (fun j : Nat => iI (zF (j : Int))))), (nq9, .inr (1, [.ref q1_10, .ref q2_11, .int (iI 0)])), (q1_10, .inl (gI G, 1000, .inl (fun j : Nat => iI (zF (j : Int))))), (q2_11, .inl (gL G, 1000, .inr (.inl (fun j : Nat => lI (zF (j : Int)))))), (nq12, .inl (gI G, 201, .inl (fun j : Nat => iI (zF (j : Int)))))] := hD
  refine W.widen (k := 12) (n := 2998) (by omega) (by omega) ?_
  have hP : va_P G.1 vwCl [(w0, .inr (10, [.ref nq1, .ref nq5, .ref nq9, .int (iI lim), .ref nq12, .int (iI 0), .int (iI 0)])), (nq12, .inl (gI G, 201, .inl (fun j : Nat => iI (zF (j : Int))))), (nq1, .inr (2, [.ref q1_2, .ref q2_3, .ref q3_4, .int (iI 0)])), (q1_2, .inl (gI G, 61, .inl (fun j : Nat => iI (zF (j : Int))))), (q2_3, .inl (gL G, 61, .inr (.inl (fun j : Nat => lI (zF (j : Int)))))), (q3_4, .inl (gL G, 61, .inr (.inl (fun j : Nat => lI (zF (j : Int)))))), (nq5, .inr (4, [.ref q1_6, .ref q2_7, .ref q3_8, .int (iI 0)])), (q1_6, .inl (gI G, 201, .inl (fun j : Nat => iI (zF (j : Int))))), (q2_7, .inl (gI G, 201, .inl (fun j : Nat => iI (zF (j : Int))))), (q3_8, .inl (gI G, 201, .inl (fun j : Nat => iI (zF (j : Int))))), (nq9, .inr (1, [.ref q1_10, .ref q2_11, .int (iI 0)])), (q1_10, .inl (gI G, 1000, .inl (fun j : Nat => iI (zF (j : Int))))), (q2_11, .inl (gL G, 1000, .inr (.inl (fun j : Nat => lI (zF (j : Int))))))] H := hP.sub [0, 12, 1, 2, 3, 4, 5, 6, 7, 8, 9, 10, 11] rfl
  have hD : va_D A [(w0, .inr (10, [.ref nq1, .ref nq5, .ref nq9, .int (iI lim), .ref nq12, .int (iI 0), .int (iI 0)])), (nq12, .inl (gI G, 201, .inl (fun j : Nat => iI (zF (j : Int))))), (nq1, .inr (2, [.ref q1_2, .ref q2_3, .ref q3_4, .int (iI 0)])), (q1_2, .inl (gI G, 61, .inl (fun j : Nat => iI (zF (j : Int))))), (q2_3, .inl (gL G, 61, .inr (.inl (fun j : Nat => lI (zF (j : Int)))))), (q3_4, .inl (gL G, 61, .inr (.inl (fun j : Nat => lI (zF (j : Int)))))), (nq5, .inr (4, [.ref q1_6, .ref q2_7, .ref q3_8, .int (iI 0)])), (q1_6, .inl (gI G, 201, .inl (fun j : Nat => iI (zF (j : Int))))), (q2_7, .inl (gI G, 201, .inl (fun j : Nat => iI (zF (j : Int))))), (q3_8, .inl (gI G, 201, .inl (fun j : Nat => iI (zF (j : Int))))), (nq9, .inr (1, [.ref q1_10, .ref q2_11, .int (iI 0)])), (q1_10, .inl (gI G, 1000, .inl (fun j : Nat => iI (zF (j : Int))))), (q2_11, .inl (gL G, 1000, .inr (.inl (fun j : Nat => lI (zF (j : Int))))))] := hD.sub [0, 12, 1, 2, 3, 4, 5, 6, 7, 8, 9, 10, 11] (by decide) rfl
  exact hret (nq1, q1_2, q2_3, q3_4, nq5, q1_6, q2_7, q3_8, nq9, q1_10, q2_11, nq12) _ ls H locs dX9_init_54 hP hD hS

