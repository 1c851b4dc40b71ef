set_option maxHeartbeats 4000000 in
set_option maxRecDepth 100000 in
theorem c_X10_at_r (l : Launch) (G : Gx) (zz : Nat) (x0 w0 b0 y0 e0 f0 s0 g0 r0 t0 v0 : Nat) (rf : Int) (a0 a1 a2 a3 : Nat) (sz va ke : Int → Int) (mk : Int) (n i : Int) (hmk : 0 ≤ mk ∧ mk ≤ 60) (hcv : CV sz va mk) (h1 : -2147483648 ≤ n ∧ n < 2147483648) (h2 : -2147483648 ≤ i ∧ i < 2147483648) (hok : (1 ≤ n ∧ n ≤ mk) ∧ 0 ≤ i ∧ i < sz n) : Ci l yX10_at wsX10_at (rz 2 35) G [.ref x0, .int (iI n), .int (iI i)] [(x0, .inr (11, [.ref w0, .ref a0, .ref b0, .ref y0, .ref e0, .ref f0, .ref s0, .ref g0, .ref r0, .ref t0, .ref v0, .int (iI rf)])), (a0, .inr (2, [.ref a1, .ref a2, .ref a3, .int (iI mk)])), (a1, .inl (gI G, 61, .inl (fun j : Nat => iI (sz (j : Int))))), (a2, .inl (gL G, 61, .inr (.inl (fun j : Nat => lI (va (j : Int)))))), (a3, .inl (gL G, 61, .inr (.inl (fun j : Nat => lI (ke (j : Int))))))] zz (aAt sz va n i) [(x0, .inr (11, [.ref w0, .ref a0, .ref b0, .ref y0, .ref e0, .ref f0, .ref s0, .ref g0, .ref r0, .ref t0, .ref v0, .int (iI rf)])), (a0, .inr (2, [.ref a1, .ref a2, .ref a3, .int (iI mk)])), (a1, .inl (gI G, 61, .inl (fun j : Nat => iI (sz (j : Int))))), (a2, .inl (gL G, 61, .inr (.inl (fun j : Nat => lI (va (j : Int)))))), (a3, .inl (gL G, 61, .inr (.inl (fun j : Nat => lI (ke (j : Int))))))] := by
  refine met_i (cc := cX10_at) (maxL := 4) (ret := (some .byte)) (by decide) rfl (Nat.le_of_ble_eq_true rfl) rfl (by have hvn := hcv n hok.1.1 hok.1.2; have hdg := dgt_r sz va n i (pw_rng (by omega)).1; have hr : -128 ≤ aAt sz va n i ∧ aAt sz va n i < 128 := (by unfold aAt; split <;> omega); show Value.int _ = _; rw [iI_b hr]) ⟨rfl, rfl⟩ ?_
  intro p e s m below meth c A Q F C hP hD hS hret ls hl
  obtain ⟨hx, hb, hml, hown, hts⟩ := id F
  obtain ⟨hK, hA, hZ, hT, hN⟩ := id C
  have hl : lv_has ls 4 [(0, .ref x0), (1, .int (iI n)), (2, .int (iI i))] := hl
  obtain ⟨H, hH⟩ : ∃ H, H = s.heap := ⟨_, rfl⟩
  obtain ⟨locs, hlocs⟩ : ∃ l : List Loc, l = [] := ⟨_, rfl⟩
  have hS : va_S A s.heap H locs := by rw [hH, hlocs]; exact hS
  have hP : va_P G.1 vwCl [(x0, .inr (11, [.ref w0, .ref a0, .ref b0, .ref y0, .ref e0, .ref f0, .ref s0, .ref g0, .ref r0, .ref t0, .ref v0, .int (iI rf)])), (a0, .inr (2, [.ref a1, .ref a2, .ref a3, .int (iI mk)])), (a1, .inl (gI G, 61, .inl (fun j : Nat => iI (sz (j : Int))))), (a2, .inl (gL G, 61, .inr (.inl (fun j : Nat => lI (va (j : Int)))))), (a3, .inl (gL G, 61, .inr (.inl (fun j : Nat => lI (ke (j : Int))))))] H := by rw [hH]; exact hP
  suffices hgo : W p l e (rz 2 35) s m [.ref x0, .int (iI n), .int (iI i)].toArray below meth c H locs 0 0 Q (F0 m 0 ls []) by rw [hH, hlocs] at hgo; exact hgo
  have hiX10 : ∀ w ∈ wsX100, w ∈ wsX10_at := by decide +kernel
  have hw0 := hts (Cond.fieldLink RX10 86 "PlainCobol" "cells" "LPlainCobol$Cells;") (List.mem_of_getElem? (i := 1) rfl)
  have hiX1 : ∀ w ∈ wsX10, w ∈ wsX10_at := by decide +kernel
  have hw1 := hts (Cond.fieldLink RX10 141 "PlainCobol$Cells" "sizes" "[I") (List.mem_of_getElem? (i := 2) rfl)
  have hw2 := hts (Cond.fieldLink RX10 148 "PlainCobol$Cells" "values" "[J") (List.mem_of_getElem? (i := 6) rfl)
  have hvn := hcv n hok.1.1 hok.1.2
  have hpn := pw_rng (i := sz n) (by omega)
  have hpi := pw_rng (i := sz n - 1 - i) (by omega)
  have hdg := dgt_r sz va n i hpi.1
  refine lv_aload_n hx hb dX10_at_0 rfl (lv_at hl 0 rfl) ?_
  refine va_get (D := G.1) (ci := 11) (v := .ref a0) (C := RX10) (T := TX10) (N := 12) hx hb hts hiX10 hown hK hP 0 rfl rfl 1 (by decide) hw0 (fun _ h9 => h9) rfl dX10_at_1 ?_
  refine lv_iload_n hx hb dX10_at_4 rfl (lv_at hl 1 rfl) ?_
  refine z_cVi (RV := (if 1 ≤ n ∧ n ≤ mk then 1 else 0)) (As := [.int (iI n)]) (rest := []) (wc := [(a0, .inr (2, [.ref a1, .ref a2, .ref a3, .int (iI mk)])), (a1, .inl (gI G, 61, .inl (fun j : Nat => iI (sz (j : Int))))), (a2, .inl (gL G, 61, .inr (.inl (fun j : Nat => lI (va (j : Int)))))), (a3, .inl (gL G, 61, .inr (.inl (fun j : Nat => lI (ke (j : Int))))))]) (wr := [(x0, .inr (11, [.ref w0, .ref a0, .ref b0, .ref y0, .ref e0, .ref f0, .ref s0, .ref g0, .ref r0, .ref t0, .ref v0, .int (iI rf)]))]) (wn := [(x0, .inr (11, [.ref w0, .ref a0, .ref b0, .ref y0, .ref e0, .ref f0, .ref s0, .ref g0, .ref r0, .ref t0, .ref v0, .int (iI rf)])), (a0, .inr (2, [.ref a1, .ref a2, .ref a3, .int (iI mk)])), (a1, .inl (gI G, 61, .inl (fun j : Nat => iI (sz (j : Int))))), (a2, .inl (gL G, 61, .inr (.inl (fun j : Nat => lI (va (j : Int)))))), (a3, .inl (gL G, 61, .inr (.inl (fun j : Nat => lI (ke (j : Int))))))]) F C (c_X1_has l G H.size a0 a1 a2 a3 sz va ke mk n (by omega) (by omega)) (cwV 1 hts gX10_at_X1_has rfl rfl rfl (by decide +kernel) (by decide)) hP hD hS (q0 := 1) rfl rfl rfl [1, 2, 3, 4] [0] rfl rfl (by decide) rfl rfl hl.1 rfl (Nat.le_of_ble_eq_true rfl) dX10_at_5 (by decide) (fun H locs hP hD hS => ?_)
  refine z_if_eq (tgt := 28) hx hb dX10_at_8 (by decide) (by split <;> omega) (fun c_1 => ?_) (fun c_1 => ?_)
  · skip
    exfalso; omega
  · skip
    have qc_1 := if_ne0 c_1
    refine lv_iload_n hx hb dX10_at_11 rfl (lv_at hl 2 rfl) ?_
    refine z_if_lt (tgt := 28) hx hb dX10_at_12 (by decide) (by omega) (fun c_2 => ?_) (fun c_2 => ?_)
    · skip
      exfalso; omega
    · skip
      refine lv_iload_n hx hb dX10_at_15 rfl (lv_at hl 2 rfl) ?_
      refine lv_aload_n hx hb dX10_at_16 rfl (lv_at hl 0 rfl) ?_
      refine va_get (D := G.1) (ci := 11) (v := .ref a0) (C := RX10) (T := TX10) (N := 12) hx hb hts hiX10 hown hK hP 0 rfl rfl 1 (by decide) hw0 (fun _ h9 => h9) rfl dX10_at_17 ?_
      refine va_get (D := G.1) (ci := 2) (v := .ref a1) (C := RX1) (T := TX1) (N := 4) hx hb hts hiX1 hown hK hP 1 rfl rfl 0 (by decide) hw1 (fun _ h9 => h9) rfl dX10_at_20 ?_
      refine lv_iload_n hx hb dX10_at_23 rfl (lv_at hl 1 rfl) ?_
      refine z_iald hx hb hK hP 2 0 rfl rfl (by omega) dX10_at_24 ?_
      refine z_icmp_lt (tgt := 36) hx hb dX10_at_25 (by decide) (by omega) (fun c_3 => ?_) (fun c_3 => ?_)
      · skip
        refine lv_aload_n hx hb dX10_at_36 rfl (lv_at hl 0 rfl) ?_
        refine va_get (D := G.1) (ci := 11) (v := .ref a0) (C := RX10) (T := TX10) (N := 12) hx hb hts hiX10 hown hK hP 0 rfl rfl 1 (by decide) hw0 (fun _ h9 => h9) rfl dX10_at_37 ?_
        refine va_get (D := G.1) (ci := 2) (v := .ref a2) (C := RX1) (T := TX1) (N := 4) hx hb hts hiX1 hown hK hP 1 rfl rfl 1 (by decide) hw2 (fun _ h9 => h9) rfl dX10_at_40 ?_
        refine lv_iload_n hx hb dX10_at_43 rfl (lv_at hl 1 rfl) ?_
        refine z_lald hx hb hK hP 3 1 rfl rfl (by omega) dX10_at_44 ?_
        refine lv_lconst (v := lI 0) hx hb dX10_at_45 (by decide) ?_
        have join70 : ∀ (H : Heap) (locs : List Loc), va_P G.1 vwCl [(x0, .inr (11, [.ref w0, .ref a0, .ref b0, .ref y0, .ref e0, .ref f0, .ref s0, .ref g0, .ref r0, .ref t0, .ref v0, .int (iI rf)])), (a0, .inr (2, [.ref a1, .ref a2, .ref a3, .int (iI mk)])), (a1, .inl (gI G, 61, .inl (fun j : Nat => iI (sz (j : Int))))), (a2, .inl (gL G, 61, .inr (.inl (fun j : Nat => lI (va (j : Int)))))), (a3, .inl (gL G, 61, .inr (.inl (fun j : Nat => lI (ke (j : Int))))))] H → va_D A [(x0, .inr (11, [.ref w0, .ref a0, .ref b0, .ref y0, .ref e0, .ref f0, .ref s0, .ref g0, .ref r0, .ref t0, .ref v0, .int (iI rf)])), (a0, .inr (2, [.ref a1, .ref a2, .ref a3, .int (iI mk)])), (a1, .inl (gI G, 61, .inl (fun j : Nat => iI (sz (j : Int))))), (a2, .inl (gL G, 61, .inr (.inl (fun j : Nat => lI (va (j : Int)))))), (a3, .inl (gL G, 61, .inr (.inl (fun j : Nat => lI (ke (j : Int))))))] → va_S A s.heap H locs → W p l e (rz 2 35) s m [.ref x0, .int (iI n), .int (iI i)].toArray below meth c H locs 0 0 Q (F0 m 70 ls [.int (iI (if va n < 0 ∧ i = sz n - 1 then 1 else 0))]) := by
          intro H locs hP hD hS
          refine lv_istore_n (lv' := [(3, .int (iI (if va n < 0 ∧ i = sz n - 1 then 1 else 0))), (0, .ref x0), (1, .int (iI n)), (2, .int (iI i))]) hx hb dX10_at_70 rfl hl (by decide) rfl (fun ls hl => ?_)
          refine lv_iload_n hx hb dX10_at_71 rfl (lv_at hl 0 rfl) ?_
          have join82 : ∀ (H : Heap) (locs : List Loc), va_P G.1 vwCl [(x0, .inr (11, [.ref w0, .ref a0, .ref b0, .ref y0, .ref e0, .ref f0, .ref s0, .ref g0, .ref r0, .ref t0, .ref v0, .int (iI rf)])), (a0, .inr (2, [.ref a1, .ref a2, .ref a3, .int (iI mk)])), (a1, .inl (gI G, 61, .inl (fun j : Nat => iI (sz (j : Int))))), (a2, .inl (gL G, 61, .inr (.inl (fun j : Nat => lI (va (j : Int)))))), (a3, .inl (gL G, 61, .inr (.inl (fun j : Nat => lI (ke (j : Int))))))] H → va_D A [(x0, .inr (11, [.ref w0, .ref a0, .ref b0, .ref y0, .ref e0, .ref f0, .ref s0, .ref g0, .ref r0, .ref t0, .ref v0, .int (iI rf)])), (a0, .inr (2, [.ref a1, .ref a2, .ref a3, .int (iI mk)])), (a1, .inl (gI G, 61, .inl (fun j : Nat => iI (sz (j : Int))))), (a2, .inl (gL G, 61, .inr (.inl (fun j : Nat => lI (va (j : Int)))))), (a3, .inl (gL G, 61, .inr (.inl (fun j : Nat => lI (ke (j : Int))))))] → va_S A s.heap H locs → W p l e (rz 2 35) s m [.ref x0, .int (iI n), .int (iI i)].toArray below meth c H locs 0 0 Q (F0 m 82 ls [.int (iI (if va n < 0 ∧ i = sz n - 1 then 112 else 48))]) := by
            intro H locs hP hD hS
            refine lv_aload_n hx hb dX10_at_82 rfl (lv_at hl 1 rfl) ?_
            refine va_get (D := G.1) (ci := 11) (v := .ref a0) (C := RX10) (T := TX10) (N := 12) hx hb hts hiX10 hown hK hP 0 rfl rfl 1 (by decide) hw0 (fun _ h9 => h9) rfl dX10_at_83 ?_
            refine lv_iload_n hx hb dX10_at_86 rfl (lv_at hl 2 rfl) ?_
            refine lv_iload_n hx hb dX10_at_87 rfl (lv_at hl 3 rfl) ?_
            refine z_cVi (RV := (Int.tmod (Int.tdiv ((Int.natAbs (va n) : Nat) : Int) (pw (sz n - 1 - i))) 10)) (As := [.int (iI n), .int (iI i)]) (rest := [.int (iI (if va n < 0 ∧ i = sz n - 1 then 112 else 48))]) (wc := [(a0, .inr (2, [.ref a1, .ref a2, .ref a3, .int (iI mk)])), (a1, .inl (gI G, 61, .inl (fun j : Nat => iI (sz (j : Int))))), (a2, .inl (gL G, 61, .inr (.inl (fun j : Nat => lI (va (j : Int)))))), (a3, .inl (gL G, 61, .inr (.inl (fun j : Nat => lI (ke (j : Int))))))]) (wr := [(x0, .inr (11, [.ref w0, .ref a0, .ref b0, .ref y0, .ref e0, .ref f0, .ref s0, .ref g0, .ref r0, .ref t0, .ref v0, .int (iI rf)]))]) (wn := [(x0, .inr (11, [.ref w0, .ref a0, .ref b0, .ref y0, .ref e0, .ref f0, .ref s0, .ref g0, .ref r0, .ref t0, .ref v0, .int (iI rf)])), (a0, .inr (2, [.ref a1, .ref a2, .ref a3, .int (iI mk)])), (a1, .inl (gI G, 61, .inl (fun j : Nat => iI (sz (j : Int))))), (a2, .inl (gL G, 61, .inr (.inl (fun j : Nat => lI (va (j : Int)))))), (a3, .inl (gL G, 61, .inr (.inl (fun j : Nat => lI (ke (j : Int))))))]) F C (c_X1_digit l G H.size a0 a1 a2 a3 sz va ke mk n i (by omega) (by omega) (by omega) (by omega)) (cwV 2 hts gX10_at_X1_digit rfl rfl rfl (by decide +kernel) (by decide)) hP hD hS (q0 := 1) rfl rfl rfl [1, 2, 3, 4] [0] rfl rfl (by decide) rfl rfl hl.1 rfl (Nat.le_of_ble_eq_true rfl) dX10_at_88 (by decide) (fun H locs hP hD hS => ?_)
            refine z_top (w := .int (iI (dgt sz va n i))) (congrArg _ (congrArg iI (by rfl))) ?_
            refine z_iadd hx hb dX10_at_91 ?_
            refine z_top (w := .int (iI (aAt sz va n i))) (congrArg _ (congrArg iI (by exact Int.add_comm _ _))) ?_
            refine z_i2b hx hb dX10_at_92 (by unfold aAt; split <;> omega) ?_
            exact hret _ ls H locs dX10_at_93 hP hD hS
          refine z_if_eq (tgt := 80) hx hb dX10_at_72 (by decide) (by split <;> omega) (fun c_5 => ?_) (fun c_5 => ?_)
          · skip
            have qc_5 := if_eq0 c_5
            refine lv_bipush (v := iI (48)) hx hb dX10_at_80 (by decide) ?_
            refine z_top (w := .int (iI (if va n < 0 ∧ i = sz n - 1 then 112 else 48))) (congrArg _ (congrArg iI (by first | exact (if_pos (by omega)).symm | exact (if_neg (by omega)).symm))) ?_
            exact join82 H locs hP hD hS
          · skip
            have qc_5 := if_ne0 c_5
            refine lv_bipush (v := iI (112)) hx hb dX10_at_75 (by decide) ?_
            refine lv_goto (tgt := 82) hx hb dX10_at_77 (by decide) ?_
            refine z_top (w := .int (iI (if va n < 0 ∧ i = sz n - 1 then 112 else 48))) (congrArg _ (congrArg iI (by first | exact (if_pos (by omega)).symm | exact (if_neg (by omega)).symm))) ?_
            exact join82 H locs hP hD hS
        refine z_lcmp_ge (tgt := 69) hx hb dX10_at_46 dX10_at_47 (by decide) (by omega) (fun c_4 => ?_) (fun c_4 => ?_)
        · skip
          refine lv_iconst (v := iI (0)) hx hb dX10_at_69 rfl ?_
          refine z_top (w := .int (iI (if va n < 0 ∧ i = sz n - 1 then 1 else 0))) (congrArg _ (congrArg iI (by first | exact (if_pos (by omega)).symm | exact (if_neg (by omega)).symm))) ?_
          exact join70 H locs hP hD hS
        · skip
          refine lv_iload_n hx hb dX10_at_50 rfl (lv_at hl 2 rfl) ?_
          refine lv_aload_n hx hb dX10_at_51 rfl (lv_at hl 0 rfl) ?_
          refine va_get (D := G.1) (ci := 11) (v := .ref a0) (C := RX10) (T := TX10) (N := 12) hx hb hts hiX10 hown hK hP 0 rfl rfl 1 (by decide) hw0 (fun _ h9 => h9) rfl dX10_at_52 ?_
          refine va_get (D := G.1) (ci := 2) (v := .ref a1) (C := RX1) (T := TX1) (N := 4) hx hb hts hiX1 hown hK hP 1 rfl rfl 0 (by decide) hw1 (fun _ h9 => h9) rfl dX10_at_55 ?_
          refine lv_iload_n hx hb dX10_at_58 rfl (lv_at hl 1 rfl) ?_
          refine z_iald hx hb hK hP 2 0 rfl rfl (by omega) dX10_at_59 ?_
          refine lv_iconst (v := iI (1)) hx hb dX10_at_60 rfl ?_
          refine z_isub hx hb dX10_at_61 ?_
          refine z_icmp_ne (tgt := 69) hx hb dX10_at_62 (by decide) (by omega) (fun c_6 => ?_) (fun c_6 => ?_)
          · skip
            refine lv_iconst (v := iI (0)) hx hb dX10_at_69 rfl ?_
            refine z_top (w := .int (iI (if va n < 0 ∧ i = sz n - 1 then 1 else 0))) (congrArg _ (congrArg iI (by first | exact (if_pos (by omega)).symm | exact (if_neg (by omega)).symm))) ?_
            exact join70 H locs hP hD hS
          · skip
            refine lv_iconst (v := iI (1)) hx hb dX10_at_65 rfl ?_
            refine lv_goto (tgt := 70) hx hb dX10_at_66 (by decide) ?_
            refine z_top (w := .int (iI (if va n < 0 ∧ i = sz n - 1 then 1 else 0))) (congrArg _ (congrArg iI (by first | exact (if_pos (by omega)).symm | exact (if_neg (by omega)).symm))) ?_
            exact join70 H locs hP hD hS
      · skip
        exfalso; omega

