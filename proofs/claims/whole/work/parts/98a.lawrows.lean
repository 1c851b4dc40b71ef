/-! rows of the law's own walk -/
abbrev rI (G : Gx) (a n : Nat) (f : Int → Int) : Nat × va_E := (a, .inl (gI G, n, .inl (fun j : Nat => iI (f (j : Int)))))
abbrev rB (G : Gx) (a n : Nat) (f : Int → Int) : Nat × va_E := (a, .inl (gB G, n, .inl (fun j : Nat => iI (f (j : Int)))))
abbrev rZ (G : Gx) (a n : Nat) (f : Int → Int) : Nat × va_E := (a, .inl (gZ G, n, .inl (fun j : Nat => iI (f (j : Int)))))
abbrev rL (G : Gx) (a n : Nat) (f : Int → Int) : Nat × va_E := (a, .inl (gL G, n, .inr (.inl (fun j : Nat => lI (f (j : Int))))))
abbrev rQ (G : Gx) (a n : Nat) (f : Nat → Option Nat) : Nat × va_E := (a, .inl (gQ G, n, .inr (.inr (.inr (.inr f)))))
abbrev rO (a ci : Nat) (fs : List Value) : Nat × va_E := (a, .inr (ci, fs))
def sX (xs : Nat → Int32) (i : Int) : Int := (xs i.toNat).toInt
theorem sX_r (xs : Nat → Int32) (i : Int) : -2147483648 ≤ sX xs i ∧ sX xs i < 2147483648 := r32 _
section LWR
variable {p : Program} {l : Launch} {e : Env} {R : Room} {s : State} {m : MethodId} {args : Array Value} {below : List Frame} {meth : Method} {c : Code} {H : Heap} {locs : List Loc} {cells slots : Nat} {Q : State → Prop}
variable {cc : ByteArray} {pc nL : Nat} {ls : Array Slot} {rest As st0 : List Value} {G : Gx} {A : Nat → Prop} {ws wc wr w1 wn : va_W} {Ts : List Cond} {own : String}
theorem z_sld (hx : p.tables.exec = Jvm.exec) (hb : c.code = cc) {b L : Nat} {xs : Nat → Int32} (hX : va_X b L xs s s.heap) (hbl : b < s.heap.size) (hbA : ¬ A b) (hS : va_S A s.heap H locs) {i : Int} (hi : 0 ≤ i ∧ i < (L : Int) ∧ (L : Int) < 2147483648) (d : decode cc pc = .ok (.iaload, 1))
    (kk : W p l e R s m args below meth c H locs cells slots Q (F0 m (pc + 1) ls (.int (iI (sX xs i)) :: rest))) : W p l e R s m args below meth c H locs cells slots Q (F0 m pc ls (.int (iI i) :: .ref b :: rest)) := by
  refine va_sld hx hb hX hbl hbA hS (iI_in ⟨hi.1, by omega⟩ hi.2.1) d ?_
  rw [iI_clamp ⟨hi.1, by omega⟩]
  unfold sX at kk
  rw [iI_of] at kk
  exact kk
theorem z_slen (hx : p.tables.exec = Jvm.exec) (hb : c.code = cc) {b L : Nat} {xs : Nat → Int32} (hX : va_X b L xs s s.heap) (hbl : b < s.heap.size) (hbA : ¬ A b) (hS : va_S A s.heap H locs) (d : decode cc pc = .ok (.arraylength, 1))
    (kk : W p l e R s m args below meth c H locs cells slots Q (F0 m (pc + 1) ls (.int (iI (L : Int)) :: rest))) : W p l e R s m args below meth c H locs cells slots Q (F0 m pc ls (.ref b :: rest)) := va_slen hx hb hX hbl hbA hS d kk
/-- two ints, or longs, that are one -/
theorem z_same (hx : p.tables.exec = Jvm.exec) (hb : c.code = cc) {x y : Int} {off : Int} {tgt : Nat} (d : decode cc pc = .ok (.if_icmp .eq off, 3)) (ht : (pc : Int) + off = (tgt : Int)) (h : x = y)
    (kk : W p l e R s m args below meth c H locs cells slots Q (F0 m tgt ls rest)) : W p l e R s m args below meth c H locs cells slots Q (F0 m pc ls (.int (iI y) :: .int (iI x) :: rest)) :=
  lv_icmp_eq hx hb d ht (fun _ => kk) (fun q => absurd (congrArg iI h) q)
theorem z_lsame (hx : p.tables.exec = Jvm.exec) (hb : c.code = cc) {x y : Int} {off : Int} {tgt : Nat} (d : decode cc pc = .ok (.lcmp, 1)) (d2 : decode cc (pc + 1) = .ok (.ifCond .eq off, 3)) (ht : ((pc + 1 : Nat) : Int) + off = (tgt : Int)) (h : x = y)
    (kk : W p l e R s m args below meth c H locs cells slots Q (F0 m tgt ls rest)) : W p l e R s m args below meth c H locs cells slots Q (F0 m pc ls (.long (lI y) :: .long (lI x) :: rest)) := by
  subst h
  have q : W p l e R s m args below meth c H locs cells slots Q (F0 m pc ls (.long (lI (lI x).toInt) :: .long (lI (lI x).toInt) :: rest)) := z_lcmp_eq hx hb d d2 ht ⟨r64 _, r64 _⟩ (fun _ => kk) (fun q => absurd rfl q)
  rw [lI_toI] at q
  exact q
theorem va_runSW {y : MethodName} {Pc : Array Value → State → Prop} {Qc : Array Value → State → Outcome → State → Prop} {mc ms : Nat} {free : Addr → Prop} {bytes : ByteArray} {maxL index : Nat} {ret : Option FieldType} {hh : List (Nat × Nat × Nat × Nat)} {g : JFrame}
    (S : CallFix p m c cc nL s args Ts own) (hK : Back l R p e below s args y 3 8 (PreOf R mc ms Pc) (PostOf Qc mc ms free)) (hl : (Cond.methodLink own index y).before args s = true) (hstt : (Cond.static y).before args s = true) (hini : (Cond.initialized y.cls).before args s = true) (hcode : (Cond.codeWith y bytes maxL ret hh).before args s = true)
    (hy : y.cls ≠ "java/lang/invoke/MethodHandle" ∧ y.cls ≠ "java/lang/invoke/VarHandle") (hlen : ∀ sig, parseMethodDescriptor y.desc = some sig → As.length = sig.parameters.length) (hp : PreS s H Pc As)
    (hg : g.method = m) (hsize : g.locals.size = nL) (hstack : g.stack = As.reverse ++ rest) (hW : 2 * g.monitorRoom + (rest.map fun v => v.category).sum ≤ 8) (hdg : decode cc g.pc = .ok (.invokestatic index, 3)) (hf : cells + mc ≤ R.cells ∧ slots + ms ≤ R.slots) :
    va_Run p l e R s m args below meth c H locs cells slots mc ms g rest (Qc As.toArray) free := by
  obtain ⟨hx, hb, hml, ho, -⟩ := S
  intro T hT X
  obtain ⟨mk, methM, cM, hnamed, hmethM, -, -, -, -, -, -, hsigM⟩ := Cond.codeWith_spec hcode
  have hstatic : methM.isStatic = true := Cond.static_spec hnamed hmethM hstt
  obtain ⟨kP, hkP, -⟩ := className_of_methodNamed hnamed
  have hinitP : kP.init = .initialized := Cond.initialized_spec (findClass_of_methodNamed hnamed) hkP hini
  have hdg' : decode c.code g.pc = .ok (.invokestatic index, 3) := by rw [hb]; exact hdg
  obtain ⟨vm₁, X₁, hstep₁⟩ := X.invokestatic hx ho hl hnamed hmethM hstatic hkP hinitP hy (g := g) hg (argsL := As) (rest := rest) (hlen _ hsigM) hstack hdg'
  obtain ⟨v, B, X', ⟨g', mk', t, L, e1, e2, hq, h1, hL, h2, h3⟩, hsteps⟩ := hK m meth c ⟨T.setVm vm₁, locs, cells, slots⟩ { g with stack := rest } (.invokestatic index) mk As.toArray X₁ hg (hsize.trans hml.symm) hdg' hW (X₁.named hnamed) ⟨hf.1, hf.2, hp.2 (T.setVm vm₁) hT X₁.warmed⟩
  obtain ⟨U', l2, c2, s2⟩ := B
  dsimp only [Pt.U, Pt.locs, Pt.cells, Pt.slots] at X' e1 e2 h1 h2 h3 hsteps
  subst h1; subst h2; subst h3
  exact ⟨v, (T.setVm vm₁).calling g' mk' As.toArray, t, U', L, hT, X', hL, e1, e2, hq, fun target h => hstep₁ _ fun acts => by rw [doInvoke_state]; exact hsteps.trans h⟩
/-- the law's at -/
theorem z_lat {RV : Int} {index : Nat} (F : CallFix p m c cc nL s args Ts own) (C : Ctx G A s) (hTz : Tz A s) (hM : CA l G As wc H.size RV w1) (hws : ∀ w ∈ wsL_atT, ∀ (a' : Array Value) (U : State), s.WarmedH U.vm → w.before a' U = true)
    (hlk : (Cond.methodLink own index yL_at).before args s = true) (hstt : (Cond.static yL_at).before args s = true) (hini : (Cond.initialized RL).before args s = true) (hini2 : ∀ (a' : Array Value) (U : State), s.WarmedH U.vm → (Cond.initialized RL).before a' U = true) (hR : 8 + 1 ≤ R.frames ∧ 8 + (5 + 11) + 117 ≤ R.locals)
    (hP : va_P G.1 vwCl ws H) (hD : va_D A ws) (hS : va_S A s.heap H locs) (isC isR : List Nat) (hC : isC.map (fun i => ws[i]?) = wc.map some) (hRr : isR.map (fun i => ws[i]?) = wr.map some) (hdec : va_nd isC = true ∧ va_nd isR = true ∧ ∀ i ∈ isR, i ∉ isC) (hwn : wr ++ w1 = wn)
    (hn : As.length = 4) (hsz : ls.size = nL) (hst : st0 = As.reverse ++ rest) (hW : (rest.map fun v => v.category).sum ≤ 8) (d : decode cc pc = .ok (.invokestatic index, 3)) (hf : cells + 1 ≤ R.cells ∧ slots + 6 ≤ R.slots)
    (kk : ∀ (H1 : Heap) (locs1 : List Loc), va_P G.1 vwCl wn H1 → va_D A wn → va_S A s.heap H1 locs1 → W p l e R s m args below meth c H1 locs1 (cells + 1) (slots + 6) Q (F0 m (pc + 3) ls (.int (iI RV) :: rest))) : W p l e R s m args below meth c H locs cells slots Q (F0 m pc ls st0) := by
  subst hst
  have hFc := va_free (wc := wc) hD hS C.2.1 isC hC
  have hmem : Cond.codeWith yL_at cL_at 5 (some .int) [(0, 10, 13, 13)] ∈ wsL_atT := List.mem_append_left _ List.mem_cons_self
  have hcw : (Cond.codeWith yL_at cL_at 5 (some .int) [(0, 10, 13, 13)]).before args s = true := hws _ hmem args s (State.WarmedH.refl s)
  have hB : Back l R p e below s args yL_at 3 8 (PreOf R 1 6 (va_Pc As (StdT G wc H.size))) (PostOf _ 1 6 _) := va_backW (hh := [(0, 10, 13, 13)]) (bytes := cL_at) (maxL := 5) (ret := some .int) hM (StdT.blind _ _ _ _) rfl rfl hR.1 hR.2 hws hmem hini2
  refine va_calli (va_runSW (As := As) (rest := rest) (g := F0 m pc ls (As.reverse ++ rest)) F hB hlk hstt hini hcw (by decide +kernel) (fun sig h => ?_) ⟨StdT.blind _ _ _ _, fun U hU hW => ⟨rfl, std_call C hP hD hS isC hdec.1 hC U hU hW, tz_call C hTz hD hS isC hC U hU hW⟩⟩ rfl hsz rfl (lv_room hW) d hf) hS (fun q _ h => hFc q h) hFc (fun r u t H1 locs1 ht hvm hw hB hz1 hk1 hS1 => ?_)
  · rw [hn]
    have h4 : (parseMethodDescriptor yL_at.desc).map (fun d => d.parameters.length) = some 4 := by decide +kernel
    rw [h] at h4
    simpa using h4.symm
  subst hw
  obtain ⟨hP1, hD1⟩ := hB
  rw [ht] at hP1
  obtain ⟨hP2, hD2⟩ := va_join (wr := wr) (w1 := w1) hP hD isC isR hC hRr hdec.2.1 hdec.2.2 hk1 hFc hP1 hD1
  rw [hwn] at hP2 hD2
  exact kk H1 locs1 hP2 hD2 hS1
end LWR
/-- the law's cell, over the script as the law has it -/
theorem c_L_cell2 (l : Launch) (b L : Nat) (xs : Nat → Int32) (i : Int) (hL : (L : Int) < 2147483648) (h1 : 0 ≤ i ∧ i < 2147483648) : Met l yL_cell wsL_cell (rz 0 0) (va_Pc [.ref b, .int (iI i)] (fun U => b < U.heap.size ∧ va_X b L xs U U.heap)) (va_Qi (fun r (_ : Unit) => r = iI (if i < (L : Int) then sX xs i else 0)) (fun _ _ => True) (fun _ => False)) 0 0 (fun _ => False) := by
  refine Met.ofW (cc := cL_cell) (maxL := 2) (ret := some .int) (by decide) rfl ?_
  intro p e s m args below meth c s₁ B hml hv
  obtain ⟨rfl, hbl, hX⟩ := hv
  have hr := B.returns
  have hx := B.exec
  have hb := B.bytes
  have hl := lv_entry [.ref b, .int (iI i)] (n := 2) (Nat.le_of_ble_eq_true rfl)
  rw [lg_entry_eq]
  generalize (lg_sl [.ref b, .int (iI i)] ++ List.replicate (2 - (lg_sl [.ref b, .int (iI i)]).length) Slot.unset).toArray = ls at hl ⊢
  have hl : lv_has ls 2 [(0, .ref b), (1, .int (iI i))] := hl
  have hS : va_S (fun _ => False) s.heap s.heap [] := va_S.rf
  refine lv_iload_n hx hb dL_cell_0 rfl (lv_at hl 1 rfl) ?_
  refine lv_aload_n hx hb dL_cell_1 rfl (lv_at hl 0 rfl) ?_
  refine z_slen (A := fun _ => False) hx hb hX hbl id hS dL_cell_2 ?_
  refine z_icmp_ge (tgt := 12) hx hb dL_cell_3 (by decide) (by omega) (fun c_1 => ?_) (fun c_1 => ?_)
  · refine lv_iconst (v := iI (0)) hx hb dL_cell_12 rfl ?_
    exact W.zret hx hb hr rfl (fun t ht hW => ⟨⟨_, (), rfl, by rw [if_neg (by omega)], trivial⟩, hS.F ht⟩) hS.2.2 dL_cell_13
  · refine lv_aload_n hx hb dL_cell_6 rfl (lv_at hl 0 rfl) ?_
    refine lv_iload_n hx hb dL_cell_7 rfl (lv_at hl 1 rfl) ?_
    refine z_sld (A := fun _ => False) hx hb hX hbl id hS (by omega) dL_cell_8 ?_
    refine lv_goto (tgt := 13) hx hb dL_cell_9 (by decide) ?_
    exact W.zret hx hb hr rfl (fun t ht hW => ⟨⟨_, (), rfl, by rw [if_pos (by omega)], trivial⟩, hS.F ht⟩) hS.2.2 dL_cell_13
theorem ws_at {s : State} {args : Array Value} (hts : ∀ w ∈ wsL_law, w.before args s = true) (hTh : ∀ w ∈ wsTh, w.before args s = true) (hcl : (Cond.classLink RL 13 RJx00060).before args s = true) : ∀ w ∈ wsL_atT, ∀ (a' : Array Value) (U : State), s.WarmedH U.vm → w.before a' U = true := fun w hw a' U hW => by
  rcases List.mem_append.mp hw with h | h
  · exact word_at hW (ggL_law_L_at w h).2 (hts w (ggL_law_L_at w h).1)
  · rcases List.mem_append.mp h with h | h
    · exact word_face hW (gTh w h) (hTh w h)
    · rw [List.mem_singleton.mp h]; exact word_face hW (by decide +kernel) hcl
