def aReal (va : Int → Int) (mk n : Int) : UInt64 := if 1 ≤ n ∧ n ≤ mk then FP.ddiv (FP.l2d (lI (va n))) (4636737291354636288 : UInt64) else FP.dconst0
set_option maxHeartbeats 4000000 in
set_option maxRecDepth 100000 in
theorem c_X10_real (l : Launch) (G : Gx) (zz : Nat) (x0 w0 b0 y0 e0 f0 s0 g0 r0 t0 v0 : Nat) (rf : Int) (a0 a1 a2 a3 : Nat) (sz va ke : Int → Int) (mk : Int) (n : Int) (h1 : 0 ≤ mk ∧ mk ≤ 60) (h2 : -2147483648 ≤ n ∧ n < 2147483648) (hnan : ∀ z : Int, vf_n64 (FP.ddiv (FP.l2d (lI z)) (4636737291354636288 : UInt64))) : Cd l yX10_real wsX10_real (rz 1 21) G [.ref x0, .int (iI n)] [(x0, .inr (11, [.ref w0, .ref a0, .ref b0, .ref y0, .ref e0, .ref f0, .ref s0, .ref g0, .ref r0, .ref t0, .ref v0, .int (iI rf)])), (a0, .inr (2, [.ref a1, .ref a2, .ref a3, .int (iI mk)])), (a1, .inl (gI G, 61, .inl (fun j : Nat => iI (sz (j : Int))))), (a2, .inl (gL G, 61, .inr (.inl (fun j : Nat => lI (va (j : Int)))))), (a3, .inl (gL G, 61, .inr (.inl (fun j : Nat => lI (ke (j : Int))))))] zz (aReal va mk n) [(x0, .inr (11, [.ref w0, .ref a0, .ref b0, .ref y0, .ref e0, .ref f0, .ref s0, .ref g0, .ref r0, .ref t0, .ref v0, .int (iI rf)])), (a0, .inr (2, [.ref a1, .ref a2, .ref a3, .int (iI mk)])), (a1, .inl (gI G, 61, .inl (fun j : Nat => iI (sz (j : Int))))), (a2, .inl (gL G, 61, .inr (.inl (fun j : Nat => lI (va (j : Int)))))), (a3, .inl (gL G, 61, .inr (.inl (fun j : Nat => lI (ke (j : Int))))))] := by
  refine met_d (cc := cX10_real) (maxL := 2) (by decide) rfl (Nat.le_of_ble_eq_true rfl) ⟨rfl, rfl⟩ ?_
  intro p e s m below meth c A Q F C hP hD hS hret ls hl
  obtain ⟨hx, hb, hml, hown, hts⟩ := id F
  obtain ⟨hK, hA, hZ, hT, hN⟩ := id C
  have hl : lv_has ls 2 [(0, .ref x0), (1, .int (iI n))] := hl
  obtain ⟨H, hH⟩ : ∃ H, H = s.heap := ⟨_, rfl⟩
  obtain ⟨locs, hlocs⟩ : ∃ l : List Loc, l = [] := ⟨_, rfl⟩
  have hS : va_S A s.heap H locs := by rw [hH, hlocs]; exact hS
  have hP : va_P G.1 vwCl [(x0, .inr (11, [.ref w0, .ref a0, .ref b0, .ref y0, .ref e0, .ref f0, .ref s0, .ref g0, .ref r0, .ref t0, .ref v0, .int (iI rf)])), (a0, .inr (2, [.ref a1, .ref a2, .ref a3, .int (iI mk)])), (a1, .inl (gI G, 61, .inl (fun j : Nat => iI (sz (j : Int))))), (a2, .inl (gL G, 61, .inr (.inl (fun j : Nat => lI (va (j : Int)))))), (a3, .inl (gL G, 61, .inr (.inl (fun j : Nat => lI (ke (j : Int))))))] H := by rw [hH]; exact hP
  suffices hgo : W p l e (rz 1 21) s m [.ref x0, .int (iI n)].toArray below meth c H locs 0 0 Q (F0 m 0 ls []) by rw [hH, hlocs] at hgo; exact hgo
  have hiX10 : ∀ w ∈ wsX100, w ∈ wsX10_real := by decide +kernel
  have hw0 := hts (Cond.fieldLink RX10 86 "PlainCobol" "cells" "LPlainCobol$Cells;") (List.mem_of_getElem? (i := 1) rfl)
  have hiX1 : ∀ w ∈ wsX10, w ∈ wsX10_real := by decide +kernel
  have hw1 := hts (Cond.fieldLink RX10 148 "PlainCobol$Cells" "values" "[J") (List.mem_of_getElem? (i := 2) rfl)
  have hw2 := hts (Cond.constantDouble RX10 211 (4636737291354636288)) (List.mem_of_getElem? (i := 3) rfl)
  refine lv_aload_n hx hb dX10_real_0 rfl (lv_at hl 0 rfl) ?_
  refine va_get (D := G.1) (ci := 11) (v := .ref a0) (C := RX10) (T := TX10) (N := 12) hx hb hts hiX10 hown hK hP 0 rfl rfl 1 (by decide) hw0 (fun _ h9 => h9) rfl dX10_real_1 ?_
  refine lv_iload_n hx hb dX10_real_4 rfl (lv_at hl 1 rfl) ?_
  refine z_cVi (RV := (if 1 ≤ n ∧ n ≤ mk then 1 else 0)) (As := [.int (iI n)]) (rest := []) (wc := [(a0, .inr (2, [.ref a1, .ref a2, .ref a3, .int (iI mk)])), (a1, .inl (gI G, 61, .inl (fun j : Nat => iI (sz (j : Int))))), (a2, .inl (gL G, 61, .inr (.inl (fun j : Nat => lI (va (j : Int)))))), (a3, .inl (gL G, 61, .inr (.inl (fun j : Nat => lI (ke (j : Int))))))]) (wr := [(x0, .inr (11, [.ref w0, .ref a0, .ref b0, .ref y0, .ref e0, .ref f0, .ref s0, .ref g0, .ref r0, .ref t0, .ref v0, .int (iI rf)]))]) (wn := [(x0, .inr (11, [.ref w0, .ref a0, .ref b0, .ref y0, .ref e0, .ref f0, .ref s0, .ref g0, .ref r0, .ref t0, .ref v0, .int (iI rf)])), (a0, .inr (2, [.ref a1, .ref a2, .ref a3, .int (iI mk)])), (a1, .inl (gI G, 61, .inl (fun j : Nat => iI (sz (j : Int))))), (a2, .inl (gL G, 61, .inr (.inl (fun j : Nat => lI (va (j : Int)))))), (a3, .inl (gL G, 61, .inr (.inl (fun j : Nat => lI (ke (j : Int))))))]) F C (c_X1_has l G H.size a0 a1 a2 a3 sz va ke mk n (by omega) (by omega)) (cwV 1 hts gX10_real_X1_has rfl rfl rfl (by decide +kernel) (by decide)) hP hD hS (q0 := 1) rfl rfl rfl [1, 2, 3, 4] [0] rfl rfl (by decide) rfl rfl hl.1 rfl (Nat.le_of_ble_eq_true rfl) dX10_real_5 (by decide) (fun H locs hP hD hS => ?_)
  refine z_if_eq (tgt := 28) hx hb dX10_real_8 (by decide) (by split <;> omega) (fun c_1 => ?_) (fun c_1 => ?_)
  · skip
    have qc_1 := if_eq0 c_1
    refine lv_dconst0 hx hb dX10_real_28 ?_
    have r_2 : (FP.dconst0 : UInt64) = (aReal va mk n) := by first | exact (if_pos (by omega)).symm | exact (if_neg (by omega)).symm
    rw [r_2]
    exact hret _ ls H locs dX10_real_29 hP hD hS
  · skip
    have qc_1 := if_ne0 c_1
    refine lv_aload_n hx hb dX10_real_11 rfl (lv_at hl 0 rfl) ?_
    refine va_get (D := G.1) (ci := 11) (v := .ref a0) (C := RX10) (T := TX10) (N := 12) hx hb hts hiX10 hown hK hP 0 rfl rfl 1 (by decide) hw0 (fun _ h9 => h9) rfl dX10_real_12 ?_
    refine va_get (D := G.1) (ci := 2) (v := .ref a2) (C := RX1) (T := TX1) (N := 4) hx hb hts hiX1 hown hK hP 1 rfl rfl 1 (by decide) hw1 (fun _ h9 => h9) rfl dX10_real_15 ?_
    refine lv_iload_n hx hb dX10_real_18 rfl (lv_at hl 1 rfl) ?_
    refine z_lald hx hb hK hP 3 1 rfl rfl (by omega) dX10_real_19 ?_
    refine lv_l2d hx hb dX10_real_20 ?_
    refine lv_ldc2d hx hb hown hw2 dX10_real_21 ?_
    refine lv_ddiv hx hb dX10_real_24 (by exact hnan _) ?_
    refine lv_goto (tgt := 29) hx hb dX10_real_25 (by decide) ?_
    have r_3 : ((FP.ddiv (FP.l2d (lI (va n))) (4636737291354636288 : UInt64)) : UInt64) = (aReal va mk n) := by first | exact (if_pos (by omega)).symm | exact (if_neg (by omega)).symm
    rw [r_3]
    exact hret _ ls H locs dX10_real_29 hP hD hS

set_option maxHeartbeats 4000000 in
set_option maxRecDepth 100000 in
theorem c_X11_real (l : Launch) (G : Gx) (zz : Nat) (m0 m4 m5 m6 m8 m9 m10 m13 m14 m15 m16 m17 m20 m21 m24 m25 m26 m27 m28 m29 : Nat) (lim fa rf mk nk st wn dn hd md al sd : Int) (sz va : Int → Int) (n : Int) (h1 : 0 ≤ mk ∧ mk ≤ 60) (h2 : -2147483648 ≤ n ∧ n < 2147483648) (hnan : ∀ z : Int, vf_n64 (FP.ddiv (FP.l2d (lI z)) (4636737291354636288 : UInt64))) : Cd l yX11_real wsX11_real (rz 1 21) G [.ref m0, .int (iI n)] [(m0, .inr (12, [.int (iI lim), .int (iI fa), .int (iI rf), .int (iI mk), .ref m4, .ref m5, .ref m6, .int (iI nk), .ref m8, .ref m9, .ref m10, .int (iI st), .int (iI wn), .ref m13, .ref m14, .ref m15, .ref m16, .ref m17, .int (iI dn), .int (iI hd), .ref m20, .ref m21, .int (iI md), .int (iI al), .ref m24, .ref m25, .ref m26, .ref m27, .ref m28, .ref m29, .int (iI sd)])), (m4, .inl (gI G, 61, .inl (fun j : Nat => iI (sz (j : Int))))), (m5, .inl (gL G, 61, .inr (.inl (fun j : Nat => lI (va (j : Int))))))] zz (aReal va mk n) [(m0, .inr (12, [.int (iI lim), .int (iI 0), .int (iI rf), .int (iI mk), .ref m4, .ref m5, .ref m6, .int (iI nk), .ref m8, .ref m9, .ref m10, .int (iI st), .int (iI wn), .ref m13, .ref m14, .ref m15, .ref m16, .ref m17, .int (iI dn), .int (iI hd), .ref m20, .ref m21, .int (iI md), .int (iI al), .ref m24, .ref m25, .ref m26, .ref m27, .ref m28, .ref m29, .int (iI sd)])), (m4, .inl (gI G, 61, .inl (fun j : Nat => iI (sz (j : Int))))), (m5, .inl (gL G, 61, .inr (.inl (fun j : Nat => lI (va (j : Int))))))] := by
  refine met_d (cc := cX11_real) (maxL := 2) (by decide) rfl (Nat.le_of_ble_eq_true rfl) ⟨rfl, rfl⟩ ?_
  intro p e s m below meth c A Q F C hP hD hS hret ls hl
  obtain ⟨hx, hb, hml, hown, hts⟩ := id F
  obtain ⟨hK, hA, hZ, hT, hN⟩ := id C
  have hl : lv_has ls 2 [(0, .ref m0), (1, .int (iI n))] := hl
  obtain ⟨H, hH⟩ : ∃ H, H = s.heap := ⟨_, rfl⟩
  obtain ⟨locs, hlocs⟩ : ∃ l : List Loc, l = [] := ⟨_, rfl⟩
  have hS : va_S A s.heap H locs := by rw [hH, hlocs]; exact hS
  have hP : va_P G.1 vwCl [(m0, .inr (12, [.int (iI lim), .int (iI fa), .int (iI rf), .int (iI mk), .ref m4, .ref m5, .ref m6, .int (iI nk), .ref m8, .ref m9, .ref m10, .int (iI st), .int (iI wn), .ref m13, .ref m14, .ref m15, .ref m16, .ref m17, .int (iI dn), .int (iI hd), .ref m20, .ref m21, .int (iI md), .int (iI al), .ref m24, .ref m25, .ref m26, .ref m27, .ref m28, .ref m29, .int (iI sd)])), (m4, .inl (gI G, 61, .inl (fun j : Nat => iI (sz (j : Int))))), (m5, .inl (gL G, 61, .inr (.inl (fun j : Nat => lI (va (j : Int))))))] H := by rw [hH]; exact hP
  suffices hgo : W p l e (rz 1 21) s m [.ref m0, .int (iI n)].toArray below meth c H locs 0 0 Q (F0 m 0 ls []) by rw [hH, hlocs] at hgo; exact hgo
  have hiX11 : ∀ w ∈ wsX110, w ∈ wsX11_real := by decide +kernel
  have hw0 := hts (Cond.fieldLink RX11 75 "PlainCobolModel" "fault" "I") (List.mem_of_getElem? (i := 1) rfl)
  have hw1 := hts (Cond.fieldLink RX11 13 "PlainCobolModel" "values" "[J") (List.mem_of_getElem? (i := 2) rfl)
  have hw2 := hts (Cond.constantDouble RX11 192 (4636737291354636288)) (List.mem_of_getElem? (i := 3) rfl)
  refine lv_aload_n hx hb dX11_real_0 rfl (lv_at hl 0 rfl) ?_
  refine lv_iconst (v := iI (0)) hx hb dX11_real_1 rfl ?_
  refine va_put (D := G.1) (ci := 12) (v := .int (iI 0)) (ty := .int) (C := RX11) (T := TX11) (N := 31) hx hb hts hiX11 tyX11 tyX11_ok nmX11 hown hK hP hD hS 0 rfl rfl 1 (by decide) hw0 (fun _ h9 => h9) rfl (by decide +kernel) rfl rfl (Nat.le_of_ble_eq_true rfl) dX11_real_2 (fun H locs hP hD hS => ?_)
  have hP : va_P G.1 vwCl [(m0, .inr (12, [.int (iI lim), .int (iI 0), .int (iI rf), .int (iI mk), .ref m4, .ref m5, .ref m6, .int (iI nk), .ref m8, .ref m9, .ref m10, .int (iI st), .int (iI wn), .ref m13, .ref m14, .ref m15, .ref m16, .ref m17, .int (iI dn), .int (iI hd), .ref m20, .ref m21, .int (iI md), .int (iI al), .ref m24, .ref m25, .ref m26, .ref m27, .ref m28, .ref m29, .int (iI sd)])), (m4, .inl (gI G, 61, .inl (fun j : Nat => iI (sz (j : Int))))), (m5, .inl (gL G, 61, .inr (.inl (fun j : Nat => lI (va (j : Int))))))] H := hP
  have hD : va_D A [(m0, .inr (12, [.int (iI lim), .int (iI 0), .int (iI rf), .int (iI mk), .ref m4, .ref m5, .ref m6, .int (iI nk), .ref m8, .ref m9, .ref m10, .int (iI st), .int (iI wn), .ref m13, .ref m14, .ref m15, .ref m16, .ref m17, .int (iI dn), .int (iI hd), .ref m20, .ref m21, .int (iI md), .int (iI al), .ref m24, .ref m25, .ref m26, .ref m27, .ref m28, .ref m29, .int (iI sd)])), (m4, .inl (gI G, 61, .inl (fun j : Nat => iI (sz (j : Int))))), (m5, .inl (gL G, 61, .inr (.inl (fun j : Nat => lI (va (j : Int))))))] := hD
  refine lv_aload_n hx hb dX11_real_5 rfl (lv_at hl 0 rfl) ?_
  refine lv_iload_n hx hb dX11_real_6 rfl (lv_at hl 1 rfl) ?_
  refine z_cVi (RV := (if 1 ≤ n ∧ n ≤ mk then 1 else 0)) (As := [.int (iI n)]) (rest := []) (wc := [(m0, .inr (12, [.int (iI lim), .int (iI 0), .int (iI rf), .int (iI mk), .ref m4, .ref m5, .ref m6, .int (iI nk), .ref m8, .ref m9, .ref m10, .int (iI st), .int (iI wn), .ref m13, .ref m14, .ref m15, .ref m16, .ref m17, .int (iI dn), .int (iI hd), .ref m20, .ref m21, .int (iI md), .int (iI al), .ref m24, .ref m25, .ref m26, .ref m27, .ref m28, .ref m29, .int (iI sd)]))]) (wr := [(m4, .inl (gI G, 61, .inl (fun j : Nat => iI (sz (j : Int))))), (m5, .inl (gL G, 61, .inr (.inl (fun j : Nat => lI (va (j : Int))))))]) (wn := [(m4, .inl (gI G, 61, .inl (fun j : Nat => iI (sz (j : Int))))), (m5, .inl (gL G, 61, .inr (.inl (fun j : Nat => lI (va (j : Int)))))), (m0, .inr (12, [.int (iI lim), .int (iI 0), .int (iI rf), .int (iI mk), .ref m4, .ref m5, .ref m6, .int (iI nk), .ref m8, .ref m9, .ref m10, .int (iI st), .int (iI wn), .ref m13, .ref m14, .ref m15, .ref m16, .ref m17, .int (iI dn), .int (iI hd), .ref m20, .ref m21, .int (iI md), .int (iI al), .ref m24, .ref m25, .ref m26, .ref m27, .ref m28, .ref m29, .int (iI sd)]))]) F C (c_X11_isCell l G H.size m0 m4 m5 m6 m8 m9 m10 m13 m14 m15 m16 m17 m20 m21 m24 m25 m26 m27 m28 m29 lim 0 rf mk nk st wn dn hd md al sd n (by omega) (by omega)) (cwV 1 hts gX11_real_X11_isCell rfl rfl rfl (by decide +kernel) (by decide)) hP hD hS (q0 := 0) rfl rfl rfl [0] [1, 2] rfl rfl (by decide) rfl rfl hl.1 rfl (Nat.le_of_ble_eq_true rfl) dX11_real_7 (by decide) (fun H locs hP hD hS => ?_)
  refine z_if_eq (tgt := 27) hx hb dX11_real_10 (by decide) (by split <;> omega) (fun c_1 => ?_) (fun c_1 => ?_)
  · skip
    have qc_1 := if_eq0 c_1
    refine lv_dconst0 hx hb dX11_real_27 ?_
    have hP : va_P G.1 vwCl [(m0, .inr (12, [.int (iI lim), .int (iI 0), .int (iI rf), .int (iI mk), .ref m4, .ref m5, .ref m6, .int (iI nk), .ref m8, .ref m9, .ref m10, .int (iI st), .int (iI wn), .ref m13, .ref m14, .ref m15, .ref m16, .ref m17, .int (iI dn), .int (iI hd), .ref m20, .ref m21, .int (iI md), .int (iI al), .ref m24, .ref m25, .ref m26, .ref m27, .ref m28, .ref m29, .int (iI sd)])), (m4, .inl (gI G, 61, .inl (fun j : Nat => iI (sz (j : Int))))), (m5, .inl (gL G, 61, .inr (.inl (fun j : Nat => lI (va (j : Int))))))] H := hP.sub [2, 0, 1] rfl
    have hD : va_D A [(m0, .inr (12, [.int (iI lim), .int (iI 0), .int (iI rf), .int (iI mk), .ref m4, .ref m5, .ref m6, .int (iI nk), .ref m8, .ref m9, .ref m10, .int (iI st), .int (iI wn), .ref m13, .ref m14, .ref m15, .ref m16, .ref m17, .int (iI dn), .int (iI hd), .ref m20, .ref m21, .int (iI md), .int (iI al), .ref m24, .ref m25, .ref m26, .ref m27, .ref m28, .ref m29, .int (iI sd)])), (m4, .inl (gI G, 61, .inl (fun j : Nat => iI (sz (j : Int))))), (m5, .inl (gL G, 61, .inr (.inl (fun j : Nat => lI (va (j : Int))))))] := hD.sub [2, 0, 1] (by decide) rfl
    have r_2 : (FP.dconst0 : UInt64) = (aReal va mk n) := by first | exact (if_pos (by omega)).symm | exact (if_neg (by omega)).symm
    rw [r_2]
    exact hret _ ls H locs dX11_real_28 hP hD hS
  · skip
    have qc_1 := if_ne0 c_1
    refine lv_aload_n hx hb dX11_real_13 rfl (lv_at hl 0 rfl) ?_
    refine va_get (D := G.1) (ci := 12) (v := .ref m5) (C := RX11) (T := TX11) (N := 31) hx hb hts hiX11 hown hK hP 2 rfl rfl 5 (by decide) hw1 (fun _ h9 => h9) rfl dX11_real_14 ?_
    refine lv_iload_n hx hb dX11_real_17 rfl (lv_at hl 1 rfl) ?_
    refine z_lald hx hb hK hP 1 1 rfl rfl (by omega) dX11_real_18 ?_
    refine lv_l2d hx hb dX11_real_19 ?_
    refine lv_ldc2d hx hb hown hw2 dX11_real_20 ?_
    refine lv_ddiv hx hb dX11_real_23 (by exact hnan _) ?_
    refine lv_goto (tgt := 28) hx hb dX11_real_24 (by decide) ?_
    have hP : va_P G.1 vwCl [(m0, .inr (12, [.int (iI lim), .int (iI 0), .int (iI rf), .int (iI mk), .ref m4, .ref m5, .ref m6, .int (iI nk), .ref m8, .ref m9, .ref m10, .int (iI st), .int (iI wn), .ref m13, .ref m14, .ref m15, .ref m16, .ref m17, .int (iI dn), .int (iI hd), .ref m20, .ref m21, .int (iI md), .int (iI al), .ref m24, .ref m25, .ref m26, .ref m27, .ref m28, .ref m29, .int (iI sd)])), (m4, .inl (gI G, 61, .inl (fun j : Nat => iI (sz (j : Int))))), (m5, .inl (gL G, 61, .inr (.inl (fun j : Nat => lI (va (j : Int))))))] H := hP.sub [2, 0, 1] rfl
    have hD : va_D A [(m0, .inr (12, [.int (iI lim), .int (iI 0), .int (iI rf), .int (iI mk), .ref m4, .ref m5, .ref m6, .int (iI nk), .ref m8, .ref m9, .ref m10, .int (iI st), .int (iI wn), .ref m13, .ref m14, .ref m15, .ref m16, .ref m17, .int (iI dn), .int (iI hd), .ref m20, .ref m21, .int (iI md), .int (iI al), .ref m24, .ref m25, .ref m26, .ref m27, .ref m28, .ref m29, .int (iI sd)])), (m4, .inl (gI G, 61, .inl (fun j : Nat => iI (sz (j : Int))))), (m5, .inl (gL G, 61, .inr (.inl (fun j : Nat => lI (va (j : Int))))))] := hD.sub [2, 0, 1] (by decide) rfl
    have r_3 : ((FP.ddiv (FP.l2d (lI (va n))) (4636737291354636288 : UInt64)) : UInt64) = (aReal va mk n) := by first | exact (if_pos (by omega)).symm | exact (if_neg (by omega)).symm
    rw [r_3]
    exact hret _ ls H locs dX11_real_28 hP hD hS

