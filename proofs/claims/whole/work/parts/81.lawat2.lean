theorem tab_of {es : List ExceptionTableEntry} {a b c d : Nat} (h : es.map (fun h => (h.startPc, h.endPc, h.handlerPc, h.catchType)) = [(a, b, c, d)]) : es = [⟨a, b, c, d⟩] := by
  match es, h with
  | [], h => simp at h
  | [⟨x1, x2, x3, x4⟩], h => simp at h; obtain ⟨rfl, rfl, rfl, rfl⟩ := h; rfl
  | _ :: _ :: _, h => simp at h
abbrev CA (l : Launch) (G : Gx) (av : List Value) (WS : va_W) (sz : Nat) (RV : Int) (W1 : va_W) : Prop := Met l yL_at wsL_atT (rzT 8 117) (va_Pc av (StdT G WS sz)) (va_Qi (fun r (_ : Unit) => r = iI RV) (fun _ t => va_P G.1 vwCl W1 t.heap ∧ va_D (va_A WS sz) W1) (va_A WS sz)) 1 6 (va_A WS sz)
set_option maxHeartbeats 4000000 in
set_option maxRecDepth 100000 in
theorem c_L_at (l : Launch) (hfl : l.flags = pinnedFlags ++ [noTraceFlag]) (G : Gx) (zz : Nat) (x0 w0 b0 y0 e0 f0 s0 g0 r0 t0 v0 : Nat) (rf : Int) (a0 a1 a2 a3 : Nat) (sz va ke : Int → Int) (mk : Int) (n i : Int) (o0 : Nat) (ou : Int → Int) (hmk : 0 ≤ mk ∧ mk ≤ 60) (hcv : CV sz va mk) (h1 : -2147483648 ≤ n ∧ n < 2147483648) (h2 : -2147483648 ≤ i ∧ i < 2147483648) :
    CA l G [.ref x0, .int (iI n), .int (iI i), .ref o0] [(o0, .inl (gL G, 1, .inr (.inl (fun j : Nat => lI (ou (j : Int)))))), (x0, .inr (11, [.ref w0, .ref a0, .ref b0, .ref y0, .ref e0, .ref f0, .ref s0, .ref g0, .ref r0, .ref t0, .ref v0, .int (iI rf)])), (a0, .inr (2, [.ref a1, .ref a2, .ref a3, .int (iI mk)])), (a1, .inl (gI G, 61, .inl (fun j : Nat => iI (sz (j : Int))))), (a2, .inl (gL G, 61, .inr (.inl (fun j : Nat => lI (va (j : Int)))))), (a3, .inl (gL G, 61, .inr (.inl (fun j : Nat => lI (ke (j : Int))))))] zz (if ((1 ≤ n ∧ n ≤ mk) ∧ 0 ≤ i ∧ i < sz n) then 0 else 1) [(o0, .inl (gL G, 1, .inr (.inl (fun j : Nat => lI ((if ((1 ≤ n ∧ n ≤ mk) ∧ 0 ≤ i ∧ i < sz n) then uF ou 0 (aAt sz va n i) else ou) (j : Int)))))), (x0, .inr (11, [.ref w0, .ref a0, .ref b0, .ref y0, .ref e0, .ref f0, .ref s0, .ref g0, .ref r0, .ref t0, .ref v0, .int (iI rf)])), (a0, .inr (2, [.ref a1, .ref a2, .ref a3, .int (iI mk)])), (a1, .inl (gI G, 61, .inl (fun j : Nat => iI (sz (j : Int))))), (a2, .inl (gL G, 61, .inr (.inl (fun j : Nat => lI (va (j : Int)))))), (a3, .inl (gL G, 61, .inr (.inl (fun j : Nat => lI (ke (j : Int))))))] := by
  refine va_MetW (cc := cL_at) (maxL := 5) (ret := some .int) (hh := [(0, 10, 13, 13)]) (by decide) rfl ?_
  intro p e s m args below meth c s₁ B hml hv
  obtain ⟨rfl, ⟨hsz, hP, hK, hD0, hZ, hT, hN⟩, hTz⟩ := hv
  have hr := B.returns
  have hlocks := B.notSynchronized
  have htsB := atoms_spec (ws := wsL_atT) B.pre
  have hts : ∀ w ∈ wsL_at, w.before [.ref x0, .int (iI n), .int (iI i), .ref o0].toArray s = true := fun w h => htsB w (List.mem_append_left _ h)
  have htt : ∀ w ∈ wsTh, w.before [.ref x0, .int (iI n), .int (iI i), .ref o0].toArray s = true := fun w h => htsB w (List.mem_append_right _ (List.mem_append_left _ h))
  have hcl : (Cond.classLink RL 13 RJx00060).before [.ref x0, .int (iI n), .int (iI i), .ref o0].toArray s = true := htsB _ (List.mem_append_right _ (List.mem_append_right _ List.mem_cons_self))
  have hown : s.vm.findClass RL = some m.cls := findClass_of_methodNamed B.named
  have htab : c.exceptionTable.toList = [⟨0, 10, 13, 13⟩] := by
    obtain ⟨m', meth', c', q1, q2, q3, -, -, q4, -⟩ := Cond.codeWith_spec (hts _ List.mem_cons_self)
    cases B.named.symm.trans q1
    cases B.method.symm.trans q2
    cases (Stand.of_body B).code.symm.trans q3
    exact tab_of q4
  subst hsz
  have hD := hD0.self (sz := s.heap.size)
  generalize hAe : va_A [(o0, .inl (gL G, 1, .inr (.inl (fun j : Nat => lI (ou (j : Int)))))), (x0, .inr (11, [.ref w0, .ref a0, .ref b0, .ref y0, .ref e0, .ref f0, .ref s0, .ref g0, .ref r0, .ref t0, .ref v0, .int (iI rf)])), (a0, .inr (2, [.ref a1, .ref a2, .ref a3, .int (iI mk)])), (a1, .inl (gI G, 61, .inl (fun j : Nat => iI (sz (j : Int))))), (a2, .inl (gL G, 61, .inr (.inl (fun j : Nat => lI (va (j : Int)))))), (a3, .inl (gL G, 61, .inr (.inl (fun j : Nat => lI (ke (j : Int))))))] s.heap.size = A at hD hZ hT hTz ⊢
  have hA : ∀ q : Nat, s.heap.size ≤ q → A q := fun q h => by rw [← hAe]; exact Or.inr h
  have hl := lv_entry [.ref x0, .int (iI n), .int (iI i), .ref o0] (n := 5) (Nat.le_of_ble_eq_true rfl)
  rw [lg_entry_eq]
  generalize (lg_sl [.ref x0, .int (iI n), .int (iI i), .ref o0] ++ List.replicate (5 - (lg_sl [.ref x0, .int (iI n), .int (iI i), .ref o0]).length) Slot.unset).toArray = ls at hl ⊢
  have hx := B.exec
  have hb := B.bytes
  have hl : lv_has ls 5 [(0, .ref x0), (1, .int (iI n)), (2, .int (iI i)), (3, .ref o0)] := hl
  have F : CallFix p m c cL_at 5 s [.ref x0, .int (iI n), .int (iI i), .ref o0].toArray wsL_at RL := ⟨hx, hb, hml, hown, hts⟩
  have C : Ctx G A s := ⟨hK, hA, hZ, hT, hN⟩
  have hS : va_S A s.heap s.heap [] := va_S.rf
  obtain ⟨H, hH⟩ : ∃ H, H = s.heap := ⟨_, rfl⟩
  obtain ⟨locs, hlocs⟩ : ∃ l : List Loc, l = [] := ⟨_, rfl⟩
  have hS : va_S A s.heap H locs := by rw [hH, hlocs]; exact hS
  have hP : va_P G.1 vwCl [(o0, .inl (gL G, 1, .inr (.inl (fun j : Nat => lI (ou (j : Int)))))), (x0, .inr (11, [.ref w0, .ref a0, .ref b0, .ref y0, .ref e0, .ref f0, .ref s0, .ref g0, .ref r0, .ref t0, .ref v0, .int (iI rf)])), (a0, .inr (2, [.ref a1, .ref a2, .ref a3, .int (iI mk)])), (a1, .inl (gI G, 61, .inl (fun j : Nat => iI (sz (j : Int))))), (a2, .inl (gL G, 61, .inr (.inl (fun j : Nat => lI (va (j : Int)))))), (a3, .inl (gL G, 61, .inr (.inl (fun j : Nat => lI (ke (j : Int))))))] H := by rw [hH]; exact hP
  rw [← hH, ← hlocs]
  refine lv_aload_n hx hb dL_at_0 rfl (lv_at hl 3 rfl) ?_
  refine lv_iconst (v := iI (0)) hx hb dL_at_1 rfl ?_
  refine lv_aload_n hx hb dL_at_2 rfl (lv_at hl 0 rfl) ?_
  refine lv_iload_n hx hb dL_at_3 rfl (lv_at hl 1 rfl) ?_
  refine lv_iload_n hx hb dL_at_4 rfl (lv_at hl 2 rfl) ?_
  by_cases hok : ((1 ≤ n ∧ n ≤ mk) ∧ 0 ≤ i ∧ i < sz n)
  · have hvn := hcv n hok.1.1 hok.1.2
    have hdg := dgt_r sz va n i (pw_rng (by omega)).1
    have har : -128 ≤ aAt sz va n i ∧ aAt sz va n i < 128 := (by unfold aAt; split <;> omega)
    refine z_cVi (RV := aAt sz va n i) (As := [.int (iI n), .int (iI i)]) (rest := [.int (iI 0), .ref o0]) (wc := [(x0, .inr (11, [.ref w0, .ref a0, .ref b0, .ref y0, .ref e0, .ref f0, .ref s0, .ref g0, .ref r0, .ref t0, .ref v0, .int (iI rf)])), (a0, .inr (2, [.ref a1, .ref a2, .ref a3, .int (iI mk)])), (a1, .inl (gI G, 61, .inl (fun j : Nat => iI (sz (j : Int))))), (a2, .inl (gL G, 61, .inr (.inl (fun j : Nat => lI (va (j : Int)))))), (a3, .inl (gL G, 61, .inr (.inl (fun j : Nat => lI (ke (j : Int))))))]) (wr := [(o0, .inl (gL G, 1, .inr (.inl (fun j : Nat => lI (ou (j : Int))))))]) (wn := [(o0, .inl (gL G, 1, .inr (.inl (fun j : Nat => lI (ou (j : Int)))))), (x0, .inr (11, [.ref w0, .ref a0, .ref b0, .ref y0, .ref e0, .ref f0, .ref s0, .ref g0, .ref r0, .ref t0, .ref v0, .int (iI rf)])), (a0, .inr (2, [.ref a1, .ref a2, .ref a3, .int (iI mk)])), (a1, .inl (gI G, 61, .inl (fun j : Nat => iI (sz (j : Int))))), (a2, .inl (gL G, 61, .inr (.inl (fun j : Nat => lI (va (j : Int)))))), (a3, .inl (gL G, 61, .inr (.inl (fun j : Nat => lI (ke (j : Int))))))]) F C (c_X10_at_r l G H.size x0 w0 b0 y0 e0 f0 s0 g0 r0 t0 v0 rf a0 a1 a2 a3 sz va ke mk n i hmk hcv h1 h2 hok) (cwV 2 hts gL_at_X10_at rfl rfl rfl (by decide +kernel) (by decide)) hP hD hS (q0 := 1) rfl rfl rfl [1, 2, 3, 4, 5] [0] rfl rfl (by decide) rfl rfl hl.1 rfl (Nat.le_of_ble_eq_true rfl) dL_at_5 (by decide) (fun H locs hP hD hS => ?_)
    refine z_i2l hx hb dL_at_8 (by omega) ?_
    refine z_last hx hb hK hP hD hS 0 1 rfl rfl (by omega) dL_at_9 (fun H locs hP hD hS => ?_)
    refine lv_goto (tgt := 17) hx hb dL_at_10 (by decide) ?_
    refine lv_iconst (v := iI (0)) hx hb dL_at_17 rfl ?_
    refine w_more (cells' := 1) (slots' := 6) (by omega) (by omega) ?_
    refine W.zret hx hb hr rfl (fun t ht hW => ⟨⟨_, (), rfl, (by rw [if_pos hok]), ?_, ?_⟩, hS.F ht⟩) hS.2.2 dL_at_18
    · rw [ht, if_pos hok]; exact hP
    · rw [if_pos hok]; exact hD
  · have hM : MetT l yX10_at (wsX10_at ++ wsTh) (rzT 7 94) (va_Pc [.ref x0, .int (iI n), .int (iI i)] (StdT G [(x0, .inr (11, [.ref w0, .ref a0, .ref b0, .ref y0, .ref e0, .ref f0, .ref s0, .ref g0, .ref r0, .ref t0, .ref v0, .int (iI rf)])), (a0, .inr (2, [.ref a1, .ref a2, .ref a3, .int (iI mk)])), (a1, .inl (gI G, 61, .inl (fun j : Nat => iI (sz (j : Int))))), (a2, .inl (gL G, 61, .inr (.inl (fun j : Nat => lI (va (j : Int)))))), (a3, .inl (gL G, 61, .inr (.inl (fun j : Nat => lI (ke (j : Int))))))] H.size)) (QT RJx00060) 1 6 (fun _ => False) := c_X10_at_t l hfl G H.size x0 w0 b0 y0 e0 f0 s0 g0 r0 t0 v0 rf a0 a1 a2 a3 sz va ke mk n i hmk hcv h1 h2 hok
    refine z_catch (As := [.int (iI n), .int (iI i)]) (rest := [.int (iI 0), .ref o0]) (Cn := RX10) (hs := 0) (ht := 10) (hp := 13) (hi := 13) F hM (cwT (rm := rz 2 35) (cwV 2 hts gL_at_X10_at rfl rfl rfl (by decide +kernel) (by decide)) htt (by decide)) ⟨StdT.blind _ _ _ _, va_recv (ci := 11) (q0 := 1) C.1 hP rfl rfl, fun U hU hW => ⟨rfl, std_call C hP hD hS [1, 2, 3, 4, 5] (by decide) rfl U hU hW, tz_call C hTz hD hS [1, 2, 3, 4, 5] rfl U hU hW⟩⟩ htab (by decide) (by decide) hcl rfl hl.1 rfl (Nat.le_of_ble_eq_true rfl) dL_at_5 (by decide) (fun a H1 hz hk => ?_)
    have hP1 : va_P G.1 vwCl [(o0, .inl (gL G, 1, .inr (.inl (fun j : Nat => lI (ou (j : Int)))))), (x0, .inr (11, [.ref w0, .ref a0, .ref b0, .ref y0, .ref e0, .ref f0, .ref s0, .ref g0, .ref r0, .ref t0, .ref v0, .int (iI rf)])), (a0, .inr (2, [.ref a1, .ref a2, .ref a3, .int (iI mk)])), (a1, .inl (gI G, 61, .inl (fun j : Nat => iI (sz (j : Int))))), (a2, .inl (gL G, 61, .inr (.inl (fun j : Nat => lI (va (j : Int)))))), (a3, .inl (gL G, 61, .inr (.inl (fun j : Nat => lI (ke (j : Int))))))] H1 := hP.kept (fun k x hx => hk x.1 ((hP k x hx).lt))
    have hS1 : va_S A s.heap H1 locs := ⟨Nat.le_trans hS.1 hz, fun q h1 h2 => (hk q (Nat.lt_of_lt_of_le h1 hS.1)).trans (hS.2.1 q h1 h2), hS.2.2⟩
    refine lv_astore (lv' := [(4, .ref a), (0, .ref x0), (1, .int (iI n)), (2, .int (iI i)), (3, .ref o0)]) hx hb dL_at_13 hl (by decide) rfl (fun ls hl => ?_)
    refine lv_iconst (v := iI (1)) hx hb dL_at_15 rfl ?_
    refine W.zret hx hb hr rfl (fun t ht hW => ⟨⟨_, (), rfl, (by rw [if_neg hok]), ?_, ?_⟩, hS1.F ht⟩) hS1.2.2 dL_at_16
    · rw [ht, if_neg hok]; exact hP1
    · rw [if_neg hok]; exact hD

