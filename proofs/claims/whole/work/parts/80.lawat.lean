theorem dL_cell_0 : decode cL_cell 0 = .ok (.iload_n 1, 1) := by decide +kernel
theorem dL_cell_1 : decode cL_cell 1 = .ok (.aload_n 0, 1) := by decide +kernel
theorem dL_cell_2 : decode cL_cell 2 = .ok (.arraylength, 1) := by decide +kernel
theorem dL_cell_3 : decode cL_cell 3 = .ok (.if_icmp .ge 9, 3) := by decide +kernel
theorem dL_cell_6 : decode cL_cell 6 = .ok (.aload_n 0, 1) := by decide +kernel
theorem dL_cell_7 : decode cL_cell 7 = .ok (.iload_n 1, 1) := by decide +kernel
theorem dL_cell_8 : decode cL_cell 8 = .ok (.iaload, 1) := by decide +kernel
theorem dL_cell_9 : decode cL_cell 9 = .ok (.goto 4, 3) := by decide +kernel
theorem dL_cell_12 : decode cL_cell 12 = .ok (.iconst 0, 1) := by decide +kernel
theorem dL_cell_13 : decode cL_cell 13 = .ok (.ireturn, 1) := by decide +kernel
set_option maxRecDepth 20000 in
theorem ggL_at_X10_at : GoodIn wsL_at wsX10_at := goodIn_r _ [5, 6, 7, 8, 9, 10, 11, 12, 13, 14, 15, 16, 17, 18, 19, 20, 21, 22, 23, 24, 25, 26, 27, 28, 29, 30, 31, 32, 33, 34, 35, 36, 37, 38, 39, 40, 41, 42, 43, 44, 45, 46, 47, 48, 49, 50] (by decide +kernel) (by decide +kernel)
set_option maxRecDepth 20000 in
theorem gL_at_X10_at : GoodIn wsL_at (wsV RL 7 RX10 yX10_at wsX10_at) := goodIn_app (goodIn_of _ (by decide +kernel)) ggL_at_X10_at
theorem dL_at_0 : decode cL_at 0 = .ok (.aload_n 3, 1) := by decide +kernel
theorem dL_at_1 : decode cL_at 1 = .ok (.iconst 0, 1) := by decide +kernel
theorem dL_at_2 : decode cL_at 2 = .ok (.aload_n 0, 1) := by decide +kernel
theorem dL_at_3 : decode cL_at 3 = .ok (.iload_n 1, 1) := by decide +kernel
theorem dL_at_4 : decode cL_at 4 = .ok (.iload_n 2, 1) := by decide +kernel
theorem dL_at_5 : decode cL_at 5 = .ok (.invokevirtual 7, 3) := by decide +kernel
theorem dL_at_8 : decode cL_at 8 = .ok (.i2l, 1) := by decide +kernel
theorem dL_at_9 : decode cL_at 9 = .ok (.lastore, 1) := by decide +kernel
theorem dL_at_10 : decode cL_at 10 = .ok (.goto 7, 3) := by decide +kernel
theorem dL_at_13 : decode cL_at 13 = .ok (.astore 4, 2) := by decide +kernel
theorem dL_at_15 : decode cL_at 15 = .ok (.iconst 1, 1) := by decide +kernel
theorem dL_at_16 : decode cL_at 16 = .ok (.ireturn, 1) := by decide +kernel
theorem dL_at_17 : decode cL_at 17 = .ok (.iconst 0, 1) := by decide +kernel
theorem dL_at_18 : decode cL_at 18 = .ok (.ireturn, 1) := by decide +kernel
section ZS
variable {p : Program} {l : Launch} {e : Env} {R : Room} {s : State} {m : MethodId} {args : Array Value} {below : List Frame} {meth : Method} {c : Code} {H : Heap} {locs : List Loc} {cells slots : Nat} {Q : State → Prop}
/-- room may be given away -/
theorem w_more {cells' slots' : Nat} {g : JFrame} (h1 : cells ≤ cells') (h2 : slots ≤ slots') (k : W p l e R s m args below meth c H locs cells' slots' Q g) : W p l e R s m args below meth c H locs cells slots Q g := fun T hT X =>
  k T hT ⟨X.admits, X.cas, X.clock, X.frames, X.room, X.hears, X.method, X.code, X.here, X.tail, X.warmed, X.limits, X.bytes, X.same.weaken (fun y hy _ => hy) h1 h2⟩
end ZS
theorem word_face {s U : State} {args a' : Array Value} {w : Cond} (hW : s.WarmedH U.vm) (hc : (w.onTables && w.keepsFace) = true) (h : w.before args s = true) : w.before a' U = true := by
  simp only [Bool.and_eq_true] at hc
  have h1 := Cond.before_shiftedFace (State.Shifted.of_warmed hW) w hc.2 h
  rw [Cond.onTables_vm (A' := a') (U' := U) U.vm w hc.1, State.setVm_self] at h1
  exact h1
set_option maxRecDepth 20000 in
theorem gTh : ∀ w ∈ wsTh, (w.onTables && w.keepsFace) = true := by decide +kernel
abbrev rzT (f n : Nat) : Room := { frames := f, cells := 1, slots := 6, locals := n }
theorem cwT {R rm : Room} {s : State} {args : Array Value} {own Cn : String} {index maxL n : Nat} {y : MethodName} {bytes : ByteArray} {ret : Option FieldType} {ws : List Cond} (cw : CallW R s args own Cn index y bytes maxL ret ws rm 0 0 n) (hT : ∀ w ∈ wsTh, w.before args s = true) (hR : 7 + 1 ≤ R.frames ∧ 8 + (maxL + 11) + 94 ≤ R.locals) :
    CallW R s args own Cn index y bytes maxL ret (ws ++ wsTh) (rzT 7 94) 1 6 n :=
  ⟨⟨rfl, rfl, hR.1, hR.2, fun w hw a' U hW => by
    rcases List.mem_append.mp hw with h | h
    · exact cw.1.2.2.2.2.1 w h a' U hW
    · exact word_face hW (gTh w h) (hT w h), List.mem_append_left _ cw.1.2.2.2.2.2.1, cw.1.2.2.2.2.2.2⟩, cw.2⟩
def wsL_atT : List Cond := wsL_at ++ (wsTh ++ [.classLink RL 13 RJx00060])
theorem Tz.same {A : Nat → Prop} {u U : State} (hv : u.vm.Alike U.vm) (hh : U.heap = u.heap) (h : Tz A u) : Tz A U := by
  obtain ⟨z1, z2⟩ := h
  exact ⟨by rw [hh]; exact Zs.moved hv z1, by rw [hh]; exact Zs.moved hv z2⟩
theorem tz_call {G : Gx} {A : Nat → Prop} {s : State} {ws wc : va_W} {H : Heap} {locs : List Loc} (C : Ctx G A s) (hz : Tz A s) (hD : va_D A ws) (hS : va_S A s.heap H locs) (is : List Nat) (hC : is.map (fun i => ws[i]?) = wc.map some) :
    ∀ U : State, U.heap = H → s.WarmedH U.vm → Tz (va_A wc H.size) U := by
  intro U hU hW
  have hF := va_free (wc := wc) hD hS C.2.1 is hC
  obtain ⟨z1, z2⟩ := hz
  refine ⟨?_, ?_⟩
  · have h2 := Zs.moved hW.alike ((Zs.kept z1 hS.2.1).narrow hF)
    rw [hU]; exact h2
  · have h2 := Zs.moved hW.alike ((Zs.kept z2 hS.2.1).narrow hF)
    rw [hU]; exact h2
def StdT (G : Gx) (ws : va_W) (sz : Nat) (U : State) : Prop := Std G ws sz U ∧ Tz (va_A ws sz) U
theorem StdT.blind (G : Gx) (av : List Value) (ws : va_W) (sz : Nat) : FrameBlind (va_Pc av (StdT G ws sz)) := by
  intro a U g mk q
  obtain ⟨q0, q1, q2⟩ := q
  have h := Std.blind G av ws sz a U g mk ⟨q0, q1⟩
  exact ⟨q0, h.2, Tz.same (u := U) (U := U.calling g mk a) (Vm.Alike.refl U.vm) rfl q2⟩
