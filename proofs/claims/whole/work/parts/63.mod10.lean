theorem pix_rc {r c : Int} (hr : 1 ≤ r ∧ r ≤ 24) (hc : 1 ≤ c ∧ c ≤ 80) : 80 * (r - 1) + c - 1 = pix (r * 100 + c) := by
  unfold pix
  have h1 : Int.tdiv (r * 100 + c) 100 = (r * 100 + c) / 100 := Int.tdiv_eq_ediv_of_nonneg (by omega)
  have h2 : Int.tmod (r * 100 + c) 100 = (r * 100 + c) % 100 := Int.tmod_eq_emod_of_nonneg (by omega)
  omega
set_option maxHeartbeats 4000000 in
set_option maxRecDepth 100000 in
theorem c_X11_at_f (l : Launch) (G : Gx) (zz : Nat) (m0 m4 m5 m6 m8 m9 m10 m13 m14 m15 m16 m17 m20 m21 m24 m25 m26 m27 m28 m29 : Nat) (lim fa rf mk nk st wn dn hd md al sd : Int) (sz va : Int → Int) (n i : Int) (hmk : 0 ≤ mk ∧ mk ≤ 60) (hcv : CV sz va mk) (h1 : -2147483648 ≤ n ∧ n < 2147483648) (h2 : -2147483648 ≤ i ∧ i < 2147483648) (hno : ¬ ((1 ≤ n ∧ n ≤ mk) ∧ 0 ≤ i ∧ i < sz n)) : Ci l yX11_at wsX11_at (rz 1 21) G [.ref m0, .int (iI n), .int (iI i)] [(m0, .inr (12, [.int (iI lim), .int (iI fa), .int (iI rf), .int (iI mk), .ref m4, .ref m5, .ref m6, .int (iI nk), .ref m8, .ref m9, .ref m10, .int (iI st), .int (iI wn), .ref m13, .ref m14, .ref m15, .ref m16, .ref m17, .int (iI dn), .int (iI hd), .ref m20, .ref m21, .int (iI md), .int (iI al), .ref m24, .ref m25, .ref m26, .ref m27, .ref m28, .ref m29, .int (iI sd)])), (m4, .inl (gI G, 61, .inl (fun j : Nat => iI (sz (j : Int))))), (m5, .inl (gL G, 61, .inr (.inl (fun j : Nat => lI (va (j : Int))))))] zz 0 [(m0, .inr (12, [.int (iI lim), .int (iI 1), .int (iI rf), .int (iI mk), .ref m4, .ref m5, .ref m6, .int (iI nk), .ref m8, .ref m9, .ref m10, .int (iI st), .int (iI wn), .ref m13, .ref m14, .ref m15, .ref m16, .ref m17, .int (iI dn), .int (iI hd), .ref m20, .ref m21, .int (iI md), .int (iI al), .ref m24, .ref m25, .ref m26, .ref m27, .ref m28, .ref m29, .int (iI sd)])), (m4, .inl (gI G, 61, .inl (fun j : Nat => iI (sz (j : Int))))), (m5, .inl (gL G, 61, .inr (.inl (fun j : Nat => lI (va (j : Int))))))] := by
  refine met_i (cc := cX11_at) (maxL := 6) (ret := (some .byte)) (by decide) rfl (Nat.le_of_ble_eq_true rfl) rfl (by decide) ⟨rfl, rfl⟩ ?_
  intro p e s m below meth c A Q F C hP hD hS hret ls hl
  obtain ⟨hx, hb, hml, hown, hts⟩ := id F
  obtain ⟨hK, hA, hZ, hT, hN⟩ := id C
  have hl : lv_has ls 6 [(0, .ref m0), (1, .int (iI n)), (2, .int (iI i))] := hl
  obtain ⟨H, hH⟩ : ∃ H, H = s.heap := ⟨_, rfl⟩
  obtain ⟨locs, hlocs⟩ : ∃ l : List Loc, l = [] := ⟨_, rfl⟩
  have hS : va_S A s.heap H locs := by rw [hH, hlocs]; exact hS
  have hP : va_P G.1 vwCl [(m0, .inr (12, [.int (iI lim), .int (iI fa), .int (iI rf), .int (iI mk), .ref m4, .ref m5, .ref m6, .int (iI nk), .ref m8, .ref m9, .ref m10, .int (iI st), .int (iI wn), .ref m13, .ref m14, .ref m15, .ref m16, .ref m17, .int (iI dn), .int (iI hd), .ref m20, .ref m21, .int (iI md), .int (iI al), .ref m24, .ref m25, .ref m26, .ref m27, .ref m28, .ref m29, .int (iI sd)])), (m4, .inl (gI G, 61, .inl (fun j : Nat => iI (sz (j : Int))))), (m5, .inl (gL G, 61, .inr (.inl (fun j : Nat => lI (va (j : Int))))))] H := by rw [hH]; exact hP
  suffices hgo : W p l e (rz 1 21) s m [.ref m0, .int (iI n), .int (iI i)].toArray below meth c H locs 0 0 Q (F0 m 0 ls []) by rw [hH, hlocs] at hgo; exact hgo
  have hiX11 : ∀ w ∈ wsX110, w ∈ wsX11_at := by decide +kernel
  have hw0 := hts (Cond.fieldLink RX11 75 "PlainCobolModel" "fault" "I") (List.mem_of_getElem? (i := 2) rfl)
  have hw1 := hts (Cond.fieldLink RX11 7 "PlainCobolModel" "sizes" "[I") (List.mem_of_getElem? (i := 1) rfl)
  refine lv_aload_n hx hb dX11_at_0 rfl (lv_at hl 0 rfl) ?_
  refine lv_aload_n hx hb dX11_at_1 rfl (lv_at hl 0 rfl) ?_
  refine lv_iload_n hx hb dX11_at_2 rfl (lv_at hl 1 rfl) ?_
  refine z_cVi (RV := (if 1 ≤ n ∧ n ≤ mk then 1 else 0)) (As := [.int (iI n)]) (rest := [.ref m0]) (wc := [(m0, .inr (12, [.int (iI lim), .int (iI fa), .int (iI rf), .int (iI mk), .ref m4, .ref m5, .ref m6, .int (iI nk), .ref m8, .ref m9, .ref m10, .int (iI st), .int (iI wn), .ref m13, .ref m14, .ref m15, .ref m16, .ref m17, .int (iI dn), .int (iI hd), .ref m20, .ref m21, .int (iI md), .int (iI al), .ref m24, .ref m25, .ref m26, .ref m27, .ref m28, .ref m29, .int (iI sd)]))]) (wr := [(m4, .inl (gI G, 61, .inl (fun j : Nat => iI (sz (j : Int))))), (m5, .inl (gL G, 61, .inr (.inl (fun j : Nat => lI (va (j : Int))))))]) (wn := [(m4, .inl (gI G, 61, .inl (fun j : Nat => iI (sz (j : Int))))), (m5, .inl (gL G, 61, .inr (.inl (fun j : Nat => lI (va (j : Int)))))), (m0, .inr (12, [.int (iI lim), .int (iI fa), .int (iI rf), .int (iI mk), .ref m4, .ref m5, .ref m6, .int (iI nk), .ref m8, .ref m9, .ref m10, .int (iI st), .int (iI wn), .ref m13, .ref m14, .ref m15, .ref m16, .ref m17, .int (iI dn), .int (iI hd), .ref m20, .ref m21, .int (iI md), .int (iI al), .ref m24, .ref m25, .ref m26, .ref m27, .ref m28, .ref m29, .int (iI sd)]))]) F C (c_X11_isCell l G H.size m0 m4 m5 m6 m8 m9 m10 m13 m14 m15 m16 m17 m20 m21 m24 m25 m26 m27 m28 m29 lim fa rf mk nk st wn dn hd md al sd n (by omega) (by omega)) (cwV 1 hts gX11_at_X11_isCell rfl rfl rfl (by decide +kernel) (by decide)) hP hD hS (q0 := 0) rfl rfl rfl [0] [1, 2] rfl rfl (by decide) rfl rfl hl.1 rfl (Nat.le_of_ble_eq_true rfl) dX11_at_3 (by decide) (fun H locs hP hD hS => ?_)
  refine z_if_eq (tgt := 35) hx hb dX11_at_6 (by decide) (by split <;> omega) (fun c_1 => ?_) (fun c_1 => ?_)
  · skip
    have qc_1 := if_eq0 c_1
    refine lv_iconst (v := iI (1)) hx hb dX11_at_35 rfl ?_
    refine lv_goto (tgt := 40) hx hb dX11_at_36 (by decide) ?_
    refine va_put (D := G.1) (ci := 12) (v := .int (iI 1)) (ty := .int) (C := RX11) (T := TX11) (N := 31) hx hb hts hiX11 tyX11 tyX11_ok nmX11 hown hK hP hD hS 2 rfl rfl 1 (by decide) hw0 (fun _ h9 => h9) rfl (by decide +kernel) rfl rfl (Nat.le_of_ble_eq_true rfl) dX11_at_40 (fun H locs hP hD hS => ?_)
    have hP : va_P G.1 vwCl [(m4, .inl (gI G, 61, .inl (fun j : Nat => iI (sz (j : Int))))), (m5, .inl (gL G, 61, .inr (.inl (fun j : Nat => lI (va (j : Int)))))), (m0, .inr (12, [.int (iI lim), .int (iI 1), .int (iI rf), .int (iI mk), .ref m4, .ref m5, .ref m6, .int (iI nk), .ref m8, .ref m9, .ref m10, .int (iI st), .int (iI wn), .ref m13, .ref m14, .ref m15, .ref m16, .ref m17, .int (iI dn), .int (iI hd), .ref m20, .ref m21, .int (iI md), .int (iI al), .ref m24, .ref m25, .ref m26, .ref m27, .ref m28, .ref m29, .int (iI sd)]))] H := hP
    have hD : va_D A [(m4, .inl (gI G, 61, .inl (fun j : Nat => iI (sz (j : Int))))), (m5, .inl (gL G, 61, .inr (.inl (fun j : Nat => lI (va (j : Int)))))), (m0, .inr (12, [.int (iI lim), .int (iI 1), .int (iI rf), .int (iI mk), .ref m4, .ref m5, .ref m6, .int (iI nk), .ref m8, .ref m9, .ref m10, .int (iI st), .int (iI wn), .ref m13, .ref m14, .ref m15, .ref m16, .ref m17, .int (iI dn), .int (iI hd), .ref m20, .ref m21, .int (iI md), .int (iI al), .ref m24, .ref m25, .ref m26, .ref m27, .ref m28, .ref m29, .int (iI sd)]))] := hD
    refine lv_aload_n hx hb dX11_at_43 rfl (lv_at hl 0 rfl) ?_
    refine va_get (D := G.1) (ci := 12) (v := .int (iI 1)) (C := RX11) (T := TX11) (N := 31) hx hb hts hiX11 hown hK hP 2 rfl rfl 1 (by decide) hw0 (fun _ h9 => h9) rfl dX11_at_44 ?_
    refine z_if_le (tgt := 52) hx hb dX11_at_47 (by decide) (by omega) (fun c_2 => ?_) (fun c_2 => ?_)
    · skip
      exfalso; omega
    · skip
      refine lv_iconst (v := iI (0)) hx hb dX11_at_50 rfl ?_
      have hP : va_P G.1 vwCl [(m0, .inr (12, [.int (iI lim), .int (iI 1), .int (iI rf), .int (iI mk), .ref m4, .ref m5, .ref m6, .int (iI nk), .ref m8, .ref m9, .ref m10, .int (iI st), .int (iI wn), .ref m13, .ref m14, .ref m15, .ref m16, .ref m17, .int (iI dn), .int (iI hd), .ref m20, .ref m21, .int (iI md), .int (iI al), .ref m24, .ref m25, .ref m26, .ref m27, .ref m28, .ref m29, .int (iI sd)])), (m4, .inl (gI G, 61, .inl (fun j : Nat => iI (sz (j : Int))))), (m5, .inl (gL G, 61, .inr (.inl (fun j : Nat => lI (va (j : Int))))))] H := hP.sub [2, 0, 1] rfl
      have hD : va_D A [(m0, .inr (12, [.int (iI lim), .int (iI 1), .int (iI rf), .int (iI mk), .ref m4, .ref m5, .ref m6, .int (iI nk), .ref m8, .ref m9, .ref m10, .int (iI st), .int (iI wn), .ref m13, .ref m14, .ref m15, .ref m16, .ref m17, .int (iI dn), .int (iI hd), .ref m20, .ref m21, .int (iI md), .int (iI al), .ref m24, .ref m25, .ref m26, .ref m27, .ref m28, .ref m29, .int (iI sd)])), (m4, .inl (gI G, 61, .inl (fun j : Nat => iI (sz (j : Int))))), (m5, .inl (gL G, 61, .inr (.inl (fun j : Nat => lI (va (j : Int))))))] := hD.sub [2, 0, 1] (by decide) rfl
      exact hret _ ls H locs dX11_at_51 hP hD hS
  · skip
    have qc_1 := if_ne0 c_1
    refine lv_iload_n hx hb dX11_at_9 rfl (lv_at hl 2 rfl) ?_
    refine z_if_lt (tgt := 35) hx hb dX11_at_10 (by decide) (by omega) (fun c_3 => ?_) (fun c_3 => ?_)
    · skip
      refine lv_iconst (v := iI (1)) hx hb dX11_at_35 rfl ?_
      refine lv_goto (tgt := 40) hx hb dX11_at_36 (by decide) ?_
      refine va_put (D := G.1) (ci := 12) (v := .int (iI 1)) (ty := .int) (C := RX11) (T := TX11) (N := 31) hx hb hts hiX11 tyX11 tyX11_ok nmX11 hown hK hP hD hS 2 rfl rfl 1 (by decide) hw0 (fun _ h9 => h9) rfl (by decide +kernel) rfl rfl (Nat.le_of_ble_eq_true rfl) dX11_at_40 (fun H locs hP hD hS => ?_)
      have hP : va_P G.1 vwCl [(m4, .inl (gI G, 61, .inl (fun j : Nat => iI (sz (j : Int))))), (m5, .inl (gL G, 61, .inr (.inl (fun j : Nat => lI (va (j : Int)))))), (m0, .inr (12, [.int (iI lim), .int (iI 1), .int (iI rf), .int (iI mk), .ref m4, .ref m5, .ref m6, .int (iI nk), .ref m8, .ref m9, .ref m10, .int (iI st), .int (iI wn), .ref m13, .ref m14, .ref m15, .ref m16, .ref m17, .int (iI dn), .int (iI hd), .ref m20, .ref m21, .int (iI md), .int (iI al), .ref m24, .ref m25, .ref m26, .ref m27, .ref m28, .ref m29, .int (iI sd)]))] H := hP
      have hD : va_D A [(m4, .inl (gI G, 61, .inl (fun j : Nat => iI (sz (j : Int))))), (m5, .inl (gL G, 61, .inr (.inl (fun j : Nat => lI (va (j : Int)))))), (m0, .inr (12, [.int (iI lim), .int (iI 1), .int (iI rf), .int (iI mk), .ref m4, .ref m5, .ref m6, .int (iI nk), .ref m8, .ref m9, .ref m10, .int (iI st), .int (iI wn), .ref m13, .ref m14, .ref m15, .ref m16, .ref m17, .int (iI dn), .int (iI hd), .ref m20, .ref m21, .int (iI md), .int (iI al), .ref m24, .ref m25, .ref m26, .ref m27, .ref m28, .ref m29, .int (iI sd)]))] := hD
      refine lv_aload_n hx hb dX11_at_43 rfl (lv_at hl 0 rfl) ?_
      refine va_get (D := G.1) (ci := 12) (v := .int (iI 1)) (C := RX11) (T := TX11) (N := 31) hx hb hts hiX11 hown hK hP 2 rfl rfl 1 (by decide) hw0 (fun _ h9 => h9) rfl dX11_at_44 ?_
      refine z_if_le (tgt := 52) hx hb dX11_at_47 (by decide) (by omega) (fun c_4 => ?_) (fun c_4 => ?_)
      · skip
        exfalso; omega
      · skip
        refine lv_iconst (v := iI (0)) hx hb dX11_at_50 rfl ?_
        have hP : va_P G.1 vwCl [(m0, .inr (12, [.int (iI lim), .int (iI 1), .int (iI rf), .int (iI mk), .ref m4, .ref m5, .ref m6, .int (iI nk), .ref m8, .ref m9, .ref m10, .int (iI st), .int (iI wn), .ref m13, .ref m14, .ref m15, .ref m16, .ref m17, .int (iI dn), .int (iI hd), .ref m20, .ref m21, .int (iI md), .int (iI al), .ref m24, .ref m25, .ref m26, .ref m27, .ref m28, .ref m29, .int (iI sd)])), (m4, .inl (gI G, 61, .inl (fun j : Nat => iI (sz (j : Int))))), (m5, .inl (gL G, 61, .inr (.inl (fun j : Nat => lI (va (j : Int))))))] H := hP.sub [2, 0, 1] rfl
        have hD : va_D A [(m0, .inr (12, [.int (iI lim), .int (iI 1), .int (iI rf), .int (iI mk), .ref m4, .ref m5, .ref m6, .int (iI nk), .ref m8, .ref m9, .ref m10, .int (iI st), .int (iI wn), .ref m13, .ref m14, .ref m15, .ref m16, .ref m17, .int (iI dn), .int (iI hd), .ref m20, .ref m21, .int (iI md), .int (iI al), .ref m24, .ref m25, .ref m26, .ref m27, .ref m28, .ref m29, .int (iI sd)])), (m4, .inl (gI G, 61, .inl (fun j : Nat => iI (sz (j : Int))))), (m5, .inl (gL G, 61, .inr (.inl (fun j : Nat => lI (va (j : Int))))))] := hD.sub [2, 0, 1] (by decide) rfl
        exact hret _ ls H locs dX11_at_51 hP hD hS
    · skip
      refine lv_iload_n hx hb dX11_at_13 rfl (lv_at hl 2 rfl) ?_
      refine lv_aload_n hx hb dX11_at_14 rfl (lv_at hl 0 rfl) ?_
      refine va_get (D := G.1) (ci := 12) (v := .ref m4) (C := RX11) (T := TX11) (N := 31) hx hb hts hiX11 hown hK hP 2 rfl rfl 4 (by decide) hw1 (fun _ h9 => h9) rfl dX11_at_15 ?_
      refine lv_aload_n hx hb dX11_at_18 rfl (lv_at hl 0 rfl) ?_
      refine lv_iload_n hx hb dX11_at_19 rfl (lv_at hl 1 rfl) ?_
      refine z_cVi (RV := (if 1 ≤ n ∧ n ≤ mk then 1 else 0)) (As := [.int (iI n)]) (rest := [.ref m4, .int (iI i), .ref m0]) (wc := [(m0, .inr (12, [.int (iI lim), .int (iI fa), .int (iI rf), .int (iI mk), .ref m4, .ref m5, .ref m6, .int (iI nk), .ref m8, .ref m9, .ref m10, .int (iI st), .int (iI wn), .ref m13, .ref m14, .ref m15, .ref m16, .ref m17, .int (iI dn), .int (iI hd), .ref m20, .ref m21, .int (iI md), .int (iI al), .ref m24, .ref m25, .ref m26, .ref m27, .ref m28, .ref m29, .int (iI sd)]))]) (wr := [(m4, .inl (gI G, 61, .inl (fun j : Nat => iI (sz (j : Int))))), (m5, .inl (gL G, 61, .inr (.inl (fun j : Nat => lI (va (j : Int))))))]) (wn := [(m4, .inl (gI G, 61, .inl (fun j : Nat => iI (sz (j : Int))))), (m5, .inl (gL G, 61, .inr (.inl (fun j : Nat => lI (va (j : Int)))))), (m0, .inr (12, [.int (iI lim), .int (iI fa), .int (iI rf), .int (iI mk), .ref m4, .ref m5, .ref m6, .int (iI nk), .ref m8, .ref m9, .ref m10, .int (iI st), .int (iI wn), .ref m13, .ref m14, .ref m15, .ref m16, .ref m17, .int (iI dn), .int (iI hd), .ref m20, .ref m21, .int (iI md), .int (iI al), .ref m24, .ref m25, .ref m26, .ref m27, .ref m28, .ref m29, .int (iI sd)]))]) F C (c_X11_isCell l G H.size m0 m4 m5 m6 m8 m9 m10 m13 m14 m15 m16 m17 m20 m21 m24 m25 m26 m27 m28 m29 lim fa rf mk nk st wn dn hd md al sd n (by omega) (by omega)) (cwV 1 hts gX11_at_X11_isCell rfl rfl rfl (by decide +kernel) (by decide)) hP hD hS (q0 := 2) rfl rfl rfl [2] [0, 1] rfl rfl (by decide) rfl rfl hl.1 rfl (Nat.le_of_ble_eq_true rfl) dX11_at_20 (by decide) (fun H locs hP hD hS => ?_)
      refine z_if_eq (tgt := 30) hx hb dX11_at_23 (by decide) (by split <;> omega) (fun c_5 => ?_) (fun c_5 => ?_)
      · skip
        exfalso; omega
      · skip
        have qc_5 := if_ne0 c_5
        refine lv_iload_n hx hb dX11_at_26 rfl (lv_at hl 1 rfl) ?_
        refine lv_goto (tgt := 31) hx hb dX11_at_27 (by decide) ?_
        refine z_iald hx hb hK hP 0 0 rfl rfl (by omega) dX11_at_31 ?_
        refine z_icmp_lt (tgt := 39) hx hb dX11_at_32 (by decide) (by have := hcv n (by omega) (by omega); omega) (fun c_6 => ?_) (fun c_6 => ?_)
        · skip
          exfalso; have := hcv n (by omega) (by omega); omega
        · skip
          refine lv_iconst (v := iI (1)) hx hb dX11_at_35 rfl ?_
          refine lv_goto (tgt := 40) hx hb dX11_at_36 (by decide) ?_
          refine va_put (D := G.1) (ci := 12) (v := .int (iI 1)) (ty := .int) (C := RX11) (T := TX11) (N := 31) hx hb hts hiX11 tyX11 tyX11_ok nmX11 hown hK hP hD hS 2 rfl rfl 1 (by decide) hw0 (fun _ h9 => h9) rfl (by decide +kernel) rfl rfl (Nat.le_of_ble_eq_true rfl) dX11_at_40 (fun H locs hP hD hS => ?_)
          have hP : va_P G.1 vwCl [(m4, .inl (gI G, 61, .inl (fun j : Nat => iI (sz (j : Int))))), (m5, .inl (gL G, 61, .inr (.inl (fun j : Nat => lI (va (j : Int)))))), (m0, .inr (12, [.int (iI lim), .int (iI 1), .int (iI rf), .int (iI mk), .ref m4, .ref m5, .ref m6, .int (iI nk), .ref m8, .ref m9, .ref m10, .int (iI st), .int (iI wn), .ref m13, .ref m14, .ref m15, .ref m16, .ref m17, .int (iI dn), .int (iI hd), .ref m20, .ref m21, .int (iI md), .int (iI al), .ref m24, .ref m25, .ref m26, .ref m27, .ref m28, .ref m29, .int (iI sd)]))] H := hP
          have hD : va_D A [(m4, .inl (gI G, 61, .inl (fun j : Nat => iI (sz (j : Int))))), (m5, .inl (gL G, 61, .inr (.inl (fun j : Nat => lI (va (j : Int)))))), (m0, .inr (12, [.int (iI lim), .int (iI 1), .int (iI rf), .int (iI mk), .ref m4, .ref m5, .ref m6, .int (iI nk), .ref m8, .ref m9, .ref m10, .int (iI st), .int (iI wn), .ref m13, .ref m14, .ref m15, .ref m16, .ref m17, .int (iI dn), .int (iI hd), .ref m20, .ref m21, .int (iI md), .int (iI al), .ref m24, .ref m25, .ref m26, .ref m27, .ref m28, .ref m29, .int (iI sd)]))] := hD
          refine lv_aload_n hx hb dX11_at_43 rfl (lv_at hl 0 rfl) ?_
          refine va_get (D := G.1) (ci := 12) (v := .int (iI 1)) (C := RX11) (T := TX11) (N := 31) hx hb hts hiX11 hown hK hP 2 rfl rfl 1 (by decide) hw0 (fun _ h9 => h9) rfl dX11_at_44 ?_
          refine z_if_le (tgt := 52) hx hb dX11_at_47 (by decide) (by omega) (fun c_7 => ?_) (fun c_7 => ?_)
          · skip
            exfalso; omega
          · skip
            refine lv_iconst (v := iI (0)) hx hb dX11_at_50 rfl ?_
            have hP : va_P G.1 vwCl [(m0, .inr (12, [.int (iI lim), .int (iI 1), .int (iI rf), .int (iI mk), .ref m4, .ref m5, .ref m6, .int (iI nk), .ref m8, .ref m9, .ref m10, .int (iI st), .int (iI wn), .ref m13, .ref m14, .ref m15, .ref m16, .ref m17, .int (iI dn), .int (iI hd), .ref m20, .ref m21, .int (iI md), .int (iI al), .ref m24, .ref m25, .ref m26, .ref m27, .ref m28, .ref m29, .int (iI sd)])), (m4, .inl (gI G, 61, .inl (fun j : Nat => iI (sz (j : Int))))), (m5, .inl (gL G, 61, .inr (.inl (fun j : Nat => lI (va (j : Int))))))] H := hP.sub [2, 0, 1] rfl
            have hD : va_D A [(m0, .inr (12, [.int (iI lim), .int (iI 1), .int (iI rf), .int (iI mk), .ref m4, .ref m5, .ref m6, .int (iI nk), .ref m8, .ref m9, .ref m10, .int (iI st), .int (iI wn), .ref m13, .ref m14, .ref m15, .ref m16, .ref m17, .int (iI dn), .int (iI hd), .ref m20, .ref m21, .int (iI md), .int (iI al), .ref m24, .ref m25, .ref m26, .ref m27, .ref m28, .ref m29, .int (iI sd)])), (m4, .inl (gI G, 61, .inl (fun j : Nat => iI (sz (j : Int))))), (m5, .inl (gL G, 61, .inr (.inl (fun j : Nat => lI (va (j : Int))))))] := hD.sub [2, 0, 1] (by decide) rfl
            exact hret _ ls H locs dX11_at_51 hP hD hS

set_option maxHeartbeats 4000000 in
set_option maxRecDepth 100000 in
theorem c_X11_at_t (l : Launch) (G : Gx) (zz : Nat) (m0 m4 m5 m6 m8 m9 m10 m13 m14 m15 m16 m17 m20 m21 m24 m25 m26 m27 m28 m29 : Nat) (lim fa rf mk nk st wn dn hd md al sd : Int) (sz va : Int → Int) (n i : Int) (hmk : 0 ≤ mk ∧ mk ≤ 60) (hcv : CV sz va mk) (h1 : -2147483648 ≤ n ∧ n < 2147483648) (h2 : -2147483648 ≤ i ∧ i < 2147483648) (hok : (1 ≤ n ∧ n ≤ mk) ∧ 0 ≤ i ∧ i < sz n) : Ci l yX11_at wsX11_at (rz 1 23) G [.ref m0, .int (iI n), .int (iI i)] [(m0, .inr (12, [.int (iI lim), .int (iI fa), .int (iI rf), .int (iI mk), .ref m4, .ref m5, .ref m6, .int (iI nk), .ref m8, .ref m9, .ref m10, .int (iI st), .int (iI wn), .ref m13, .ref m14, .ref m15, .ref m16, .ref m17, .int (iI dn), .int (iI hd), .ref m20, .ref m21, .int (iI md), .int (iI al), .ref m24, .ref m25, .ref m26, .ref m27, .ref m28, .ref m29, .int (iI sd)])), (m4, .inl (gI G, 61, .inl (fun j : Nat => iI (sz (j : Int))))), (m5, .inl (gL G, 61, .inr (.inl (fun j : Nat => lI (va (j : Int))))))] zz (aAt sz va n i) [(m0, .inr (12, [.int (iI lim), .int (iI 0), .int (iI rf), .int (iI mk), .ref m4, .ref m5, .ref m6, .int (iI nk), .ref m8, .ref m9, .ref m10, .int (iI st), .int (iI wn), .ref m13, .ref m14, .ref m15, .ref m16, .ref m17, .int (iI dn), .int (iI hd), .ref m20, .ref m21, .int (iI md), .int (iI al), .ref m24, .ref m25, .ref m26, .ref m27, .ref m28, .ref m29, .int (iI sd)])), (m4, .inl (gI G, 61, .inl (fun j : Nat => iI (sz (j : Int))))), (m5, .inl (gL G, 61, .inr (.inl (fun j : Nat => lI (va (j : Int))))))] := by
  refine met_i (cc := cX11_at) (maxL := 6) (ret := (some .byte)) (by decide) rfl (Nat.le_of_ble_eq_true rfl) rfl (by have hvn := hcv n hok.1.1 hok.1.2; have hdg := dgt_r sz va n i (pw_rng (by omega)).1; have hr : -128 ≤ aAt sz va n i ∧ aAt sz va n i < 128 := (by unfold aAt; split <;> omega); show Value.int _ = _; rw [iI_b hr]) ⟨rfl, rfl⟩ ?_
  intro p e s m below meth c A Q F C hP hD hS hret ls hl
  obtain ⟨hx, hb, hml, hown, hts⟩ := id F
  obtain ⟨hK, hA, hZ, hT, hN⟩ := id C
  have hl : lv_has ls 6 [(0, .ref m0), (1, .int (iI n)), (2, .int (iI i))] := hl
  obtain ⟨H, hH⟩ : ∃ H, H = s.heap := ⟨_, rfl⟩
  obtain ⟨locs, hlocs⟩ : ∃ l : List Loc, l = [] := ⟨_, rfl⟩
  have hS : va_S A s.heap H locs := by rw [hH, hlocs]; exact hS
  have hP : va_P G.1 vwCl [(m0, .inr (12, [.int (iI lim), .int (iI fa), .int (iI rf), .int (iI mk), .ref m4, .ref m5, .ref m6, .int (iI nk), .ref m8, .ref m9, .ref m10, .int (iI st), .int (iI wn), .ref m13, .ref m14, .ref m15, .ref m16, .ref m17, .int (iI dn), .int (iI hd), .ref m20, .ref m21, .int (iI md), .int (iI al), .ref m24, .ref m25, .ref m26, .ref m27, .ref m28, .ref m29, .int (iI sd)])), (m4, .inl (gI G, 61, .inl (fun j : Nat => iI (sz (j : Int))))), (m5, .inl (gL G, 61, .inr (.inl (fun j : Nat => lI (va (j : Int))))))] H := by rw [hH]; exact hP
  suffices hgo : W p l e (rz 1 23) s m [.ref m0, .int (iI n), .int (iI i)].toArray below meth c H locs 0 0 Q (F0 m 0 ls []) by rw [hH, hlocs] at hgo; exact hgo
  have hiX11 : ∀ w ∈ wsX110, w ∈ wsX11_at := by decide +kernel
  have hw0 := hts (Cond.fieldLink RX11 7 "PlainCobolModel" "sizes" "[I") (List.mem_of_getElem? (i := 1) rfl)
  have hw1 := hts (Cond.fieldLink RX11 75 "PlainCobolModel" "fault" "I") (List.mem_of_getElem? (i := 2) rfl)
  have hw2 := hts (Cond.fieldLink RX11 13 "PlainCobolModel" "values" "[J") (List.mem_of_getElem? (i := 3) rfl)
  have hw3 := hts (Cond.constantLong RX11 81 (10)) (List.mem_of_getElem? (i := 4) rfl)
  have hvn := hcv n hok.1.1 hok.1.2
  have hpn := pw_rng (i := sz n) (by omega)
  have hpi := pw_rng (i := sz n - 1 - i) (by omega)
  have hdg := dgt_r sz va n i hpi.1
  refine lv_aload_n hx hb dX11_at_0 rfl (lv_at hl 0 rfl) ?_
  refine lv_aload_n hx hb dX11_at_1 rfl (lv_at hl 0 rfl) ?_
  refine lv_iload_n hx hb dX11_at_2 rfl (lv_at hl 1 rfl) ?_
  refine z_cVi (RV := (if 1 ≤ n ∧ n ≤ mk then 1 else 0)) (As := [.int (iI n)]) (rest := [.ref m0]) (wc := [(m0, .inr (12, [.int (iI lim), .int (iI fa), .int (iI rf), .int (iI mk), .ref m4, .ref m5, .ref m6, .int (iI nk), .ref m8, .ref m9, .ref m10, .int (iI st), .int (iI wn), .ref m13, .ref m14, .ref m15, .ref m16, .ref m17, .int (iI dn), .int (iI hd), .ref m20, .ref m21, .int (iI md), .int (iI al), .ref m24, .ref m25, .ref m26, .ref m27, .ref m28, .ref m29, .int (iI sd)]))]) (wr := [(m4, .inl (gI G, 61, .inl (fun j : Nat => iI (sz (j : Int))))), (m5, .inl (gL G, 61, .inr (.inl (fun j : Nat => lI (va (j : Int))))))]) (wn := [(m4, .inl (gI G, 61, .inl (fun j : Nat => iI (sz (j : Int))))), (m5, .inl (gL G, 61, .inr (.inl (fun j : Nat => lI (va (j : Int)))))), (m0, .inr (12, [.int (iI lim), .int (iI fa), .int (iI rf), .int (iI mk), .ref m4, .ref m5, .ref m6, .int (iI nk), .ref m8, .ref m9, .ref m10, .int (iI st), .int (iI wn), .ref m13, .ref m14, .ref m15, .ref m16, .ref m17, .int (iI dn), .int (iI hd), .ref m20, .ref m21, .int (iI md), .int (iI al), .ref m24, .ref m25, .ref m26, .ref m27, .ref m28, .ref m29, .int (iI sd)]))]) F C (c_X11_isCell l G H.size m0 m4 m5 m6 m8 m9 m10 m13 m14 m15 m16 m17 m20 m21 m24 m25 m26 m27 m28 m29 lim fa rf mk nk st wn dn hd md al sd n (by omega) (by omega)) (cwV 1 hts gX11_at_X11_isCell rfl rfl rfl (by decide +kernel) (by decide)) hP hD hS (q0 := 0) rfl rfl rfl [0] [1, 2] rfl rfl (by decide) rfl rfl hl.1 rfl (Nat.le_of_ble_eq_true rfl) dX11_at_3 (by decide) (fun H locs hP hD hS => ?_)
  refine z_if_eq (tgt := 35) hx hb dX11_at_6 (by decide) (by split <;> omega) (fun c_1 => ?_) (fun c_1 => ?_)
  · skip
    exfalso; omega
  · skip
    have qc_1 := if_ne0 c_1
    refine lv_iload_n hx hb dX11_at_9 rfl (lv_at hl 2 rfl) ?_
    refine z_if_lt (tgt := 35) hx hb dX11_at_10 (by decide) (by omega) (fun c_2 => ?_) (fun c_2 => ?_)
    · skip
      exfalso; omega
    · skip
      refine lv_iload_n hx hb dX11_at_13 rfl (lv_at hl 2 rfl) ?_
      refine lv_aload_n hx hb dX11_at_14 rfl (lv_at hl 0 rfl) ?_
      refine va_get (D := G.1) (ci := 12) (v := .ref m4) (C := RX11) (T := TX11) (N := 31) hx hb hts hiX11 hown hK hP 2 rfl rfl 4 (by decide) hw0 (fun _ h9 => h9) rfl dX11_at_15 ?_
      refine lv_aload_n hx hb dX11_at_18 rfl (lv_at hl 0 rfl) ?_
      refine lv_iload_n hx hb dX11_at_19 rfl (lv_at hl 1 rfl) ?_
      refine z_cVi (RV := (if 1 ≤ n ∧ n ≤ mk then 1 else 0)) (As := [.int (iI n)]) (rest := [.ref m4, .int (iI i), .ref m0]) (wc := [(m0, .inr (12, [.int (iI lim), .int (iI fa), .int (iI rf), .int (iI mk), .ref m4, .ref m5, .ref m6, .int (iI nk), .ref m8, .ref m9, .ref m10, .int (iI st), .int (iI wn), .ref m13, .ref m14, .ref m15, .ref m16, .ref m17, .int (iI dn), .int (iI hd), .ref m20, .ref m21, .int (iI md), .int (iI al), .ref m24, .ref m25, .ref m26, .ref m27, .ref m28, .ref m29, .int (iI sd)]))]) (wr := [(m4, .inl (gI G, 61, .inl (fun j : Nat => iI (sz (j : Int))))), (m5, .inl (gL G, 61, .inr (.inl (fun j : Nat => lI (va (j : Int))))))]) (wn := [(m4, .inl (gI G, 61, .inl (fun j : Nat => iI (sz (j : Int))))), (m5, .inl (gL G, 61, .inr (.inl (fun j : Nat => lI (va (j : Int)))))), (m0, .inr (12, [.int (iI lim), .int (iI fa), .int (iI rf), .int (iI mk), .ref m4, .ref m5, .ref m6, .int (iI nk), .ref m8, .ref m9, .ref m10, .int (iI st), .int (iI wn), .ref m13, .ref m14, .ref m15, .ref m16, .ref m17, .int (iI dn), .int (iI hd), .ref m20, .ref m21, .int (iI md), .int (iI al), .ref m24, .ref m25, .ref m26, .ref m27, .ref m28, .ref m29, .int (iI sd)]))]) F C (c_X11_isCell l G H.size m0 m4 m5 m6 m8 m9 m10 m13 m14 m15 m16 m17 m20 m21 m24 m25 m26 m27 m28 m29 lim fa rf mk nk st wn dn hd md al sd n (by omega) (by omega)) (cwV 1 hts gX11_at_X11_isCell rfl rfl rfl (by decide +kernel) (by decide)) hP hD hS (q0 := 2) rfl rfl rfl [2] [0, 1] rfl rfl (by decide) rfl rfl hl.1 rfl (Nat.le_of_ble_eq_true rfl) dX11_at_20 (by decide) (fun H locs hP hD hS => ?_)
      refine z_if_eq (tgt := 30) hx hb dX11_at_23 (by decide) (by split <;> omega) (fun c_3 => ?_) (fun c_3 => ?_)
      · skip
        exfalso; omega
      · skip
        have qc_3 := if_ne0 c_3
        refine lv_iload_n hx hb dX11_at_26 rfl (lv_at hl 1 rfl) ?_
        refine lv_goto (tgt := 31) hx hb dX11_at_27 (by decide) ?_
        refine z_iald hx hb hK hP 0 0 rfl rfl (by omega) dX11_at_31 ?_
        refine z_icmp_lt (tgt := 39) hx hb dX11_at_32 (by decide) (by omega) (fun c_4 => ?_) (fun c_4 => ?_)
        · skip
          refine lv_iconst (v := iI (0)) hx hb dX11_at_39 rfl ?_
          refine va_put (D := G.1) (ci := 12) (v := .int (iI 0)) (ty := .int) (C := RX11) (T := TX11) (N := 31) hx hb hts hiX11 tyX11 tyX11_ok nmX11 hown hK hP hD hS 2 rfl rfl 1 (by decide) hw1 (fun _ h9 => h9) rfl (by decide +kernel) rfl rfl (Nat.le_of_ble_eq_true rfl) dX11_at_40 (fun H locs hP hD hS => ?_)
          have hP : va_P G.1 vwCl [(m4, .inl (gI G, 61, .inl (fun j : Nat => iI (sz (j : Int))))), (m5, .inl (gL G, 61, .inr (.inl (fun j : Nat => lI (va (j : Int)))))), (m0, .inr (12, [.int (iI lim), .int (iI 0), .int (iI rf), .int (iI mk), .ref m4, .ref m5, .ref m6, .int (iI nk), .ref m8, .ref m9, .ref m10, .int (iI st), .int (iI wn), .ref m13, .ref m14, .ref m15, .ref m16, .ref m17, .int (iI dn), .int (iI hd), .ref m20, .ref m21, .int (iI md), .int (iI al), .ref m24, .ref m25, .ref m26, .ref m27, .ref m28, .ref m29, .int (iI sd)]))] H := hP
          have hD : va_D A [(m4, .inl (gI G, 61, .inl (fun j : Nat => iI (sz (j : Int))))), (m5, .inl (gL G, 61, .inr (.inl (fun j : Nat => lI (va (j : Int)))))), (m0, .inr (12, [.int (iI lim), .int (iI 0), .int (iI rf), .int (iI mk), .ref m4, .ref m5, .ref m6, .int (iI nk), .ref m8, .ref m9, .ref m10, .int (iI st), .int (iI wn), .ref m13, .ref m14, .ref m15, .ref m16, .ref m17, .int (iI dn), .int (iI hd), .ref m20, .ref m21, .int (iI md), .int (iI al), .ref m24, .ref m25, .ref m26, .ref m27, .ref m28, .ref m29, .int (iI sd)]))] := hD
          refine lv_aload_n hx hb dX11_at_43 rfl (lv_at hl 0 rfl) ?_
          refine va_get (D := G.1) (ci := 12) (v := .int (iI 0)) (C := RX11) (T := TX11) (N := 31) hx hb hts hiX11 hown hK hP 2 rfl rfl 1 (by decide) hw1 (fun _ h9 => h9) rfl dX11_at_44 ?_
          refine z_if_le (tgt := 52) hx hb dX11_at_47 (by decide) (by omega) (fun c_5 => ?_) (fun c_5 => ?_)
          · skip
            refine lv_aload_n hx hb dX11_at_52 rfl (lv_at hl 0 rfl) ?_
            refine va_get (D := G.1) (ci := 12) (v := .ref m5) (C := RX11) (T := TX11) (N := 31) hx hb hts hiX11 hown hK hP 2 rfl rfl 5 (by decide) hw2 (fun _ h9 => h9) rfl dX11_at_53 ?_
            refine lv_iload_n hx hb dX11_at_56 rfl (lv_at hl 1 rfl) ?_
            refine z_lald hx hb hK hP 1 1 rfl rfl (by omega) dX11_at_57 ?_
            refine lv_lconst (v := lI 0) hx hb dX11_at_58 (by decide) ?_
            have join79 : ∀ (H : Heap) (locs : List Loc), va_P G.1 vwCl [(m4, .inl (gI G, 61, .inl (fun j : Nat => iI (sz (j : Int))))), (m5, .inl (gL G, 61, .inr (.inl (fun j : Nat => lI (va (j : Int)))))), (m0, .inr (12, [.int (iI lim), .int (iI 0), .int (iI rf), .int (iI mk), .ref m4, .ref m5, .ref m6, .int (iI nk), .ref m8, .ref m9, .ref m10, .int (iI st), .int (iI wn), .ref m13, .ref m14, .ref m15, .ref m16, .ref m17, .int (iI dn), .int (iI hd), .ref m20, .ref m21, .int (iI md), .int (iI al), .ref m24, .ref m25, .ref m26, .ref m27, .ref m28, .ref m29, .int (iI sd)]))] H → va_D A [(m4, .inl (gI G, 61, .inl (fun j : Nat => iI (sz (j : Int))))), (m5, .inl (gL G, 61, .inr (.inl (fun j : Nat => lI (va (j : Int)))))), (m0, .inr (12, [.int (iI lim), .int (iI 0), .int (iI rf), .int (iI mk), .ref m4, .ref m5, .ref m6, .int (iI nk), .ref m8, .ref m9, .ref m10, .int (iI st), .int (iI wn), .ref m13, .ref m14, .ref m15, .ref m16, .ref m17, .int (iI dn), .int (iI hd), .ref m20, .ref m21, .int (iI md), .int (iI al), .ref m24, .ref m25, .ref m26, .ref m27, .ref m28, .ref m29, .int (iI sd)]))] → va_S A s.heap H locs → W p l e (rz 1 23) s m [.ref m0, .int (iI n), .int (iI i)].toArray below meth c H locs 0 0 Q (F0 m 79 ls [.long (lI ((Int.natAbs (va n) : Nat) : Int))]) := by
              intro H locs hP hD hS
              refine lv_lstore_n (lv' := [(3, .long (lI ((Int.natAbs (va n) : Nat) : Int))), (0, .ref m0), (1, .int (iI n)), (2, .int (iI i))]) hx hb dX11_at_79 rfl hl (by decide) rfl (fun ls hl => ?_)
              refine lv_lload_n hx hb dX11_at_80 rfl (lv_at hl 0 rfl) ?_
              refine lv_aload_n hx hb dX11_at_81 rfl (lv_at hl 1 rfl) ?_
              refine va_get (D := G.1) (ci := 12) (v := .ref m4) (C := RX11) (T := TX11) (N := 31) hx hb hts hiX11 hown hK hP 2 rfl rfl 4 (by decide) hw0 (fun _ h9 => h9) rfl dX11_at_82 ?_
              refine lv_iload_n hx hb dX11_at_85 rfl (lv_at hl 2 rfl) ?_
              refine z_iald hx hb hK hP 0 0 rfl rfl (by omega) dX11_at_86 ?_
              refine lv_iconst (v := iI (1)) hx hb dX11_at_87 rfl ?_
              refine z_isub hx hb dX11_at_88 ?_
              refine lv_iload_n hx hb dX11_at_89 rfl (lv_at hl 3 rfl) ?_
              refine z_isub hx hb dX11_at_90 ?_
              refine z_cSl (RV := (pw (((sz n) - 1) - i))) (As := [.int (iI (((sz n) - 1) - i))]) (rest := [.long (lI ((Int.natAbs (va n) : Nat) : Int))]) (wc := []) (wr := [(m4, .inl (gI G, 61, .inl (fun j : Nat => iI (sz (j : Int))))), (m5, .inl (gL G, 61, .inr (.inl (fun j : Nat => lI (va (j : Int)))))), (m0, .inr (12, [.int (iI lim), .int (iI 0), .int (iI rf), .int (iI mk), .ref m4, .ref m5, .ref m6, .int (iI nk), .ref m8, .ref m9, .ref m10, .int (iI st), .int (iI wn), .ref m13, .ref m14, .ref m15, .ref m16, .ref m17, .int (iI dn), .int (iI hd), .ref m20, .ref m21, .int (iI md), .int (iI al), .ref m24, .ref m25, .ref m26, .ref m27, .ref m28, .ref m29, .int (iI sd)]))]) (wn := [(m4, .inl (gI G, 61, .inl (fun j : Nat => iI (sz (j : Int))))), (m5, .inl (gL G, 61, .inr (.inl (fun j : Nat => lI (va (j : Int)))))), (m0, .inr (12, [.int (iI lim), .int (iI 0), .int (iI rf), .int (iI mk), .ref m4, .ref m5, .ref m6, .int (iI nk), .ref m8, .ref m9, .ref m10, .int (iI st), .int (iI wn), .ref m13, .ref m14, .ref m15, .ref m16, .ref m17, .int (iI dn), .int (iI hd), .ref m20, .ref m21, .int (iI md), .int (iI al), .ref m24, .ref m25, .ref m26, .ref m27, .ref m28, .ref m29, .int (iI sd)]))]) F C (c_X11_power l G H.size (((sz n) - 1) - i) (by omega)) (va_cwS 1 hts gX11_at_X11_power rfl rfl rfl (by decide +kernel) (by decide)) hP hD hS [] [0, 1, 2] rfl rfl (by decide) rfl rfl hl.1 rfl (Nat.le_of_ble_eq_true rfl) dX11_at_91 (by decide) (fun H locs hP hD hS => ?_)
              refine z_ldivP hx hb dX11_at_94 (by omega) ?_
              refine lv_ldc2 hx hb hown hw3 dX11_at_95 ?_
              refine z_top (w := .long (lI (10))) rfl ?_
              refine z_lrem hx hb dX11_at_98 (by have := Int.natAbs_tdiv_le_natAbs ((Int.natAbs (va n) : Nat) : Int) (pw (sz n - 1 - i)); omega) ?_
              refine z_top (w := .long (lI (dgt sz va n i))) (congrArg _ (congrArg lI (by rfl))) ?_
              refine z_l2i hx hb dX11_at_99 ?_
              refine lv_istore (lv' := [(5, .int (iI (dgt sz va n i))), (3, .long (lI ((Int.natAbs (va n) : Nat) : Int))), (0, .ref m0), (1, .int (iI n)), (2, .int (iI i))]) hx hb dX11_at_100 hl (by decide) rfl (fun ls hl => ?_)
              refine lv_iload hx hb dX11_at_102 (lv_at hl 0 rfl) ?_
              refine lv_aload_n hx hb dX11_at_104 rfl (lv_at hl 2 rfl) ?_
              refine va_get (D := G.1) (ci := 12) (v := .ref m5) (C := RX11) (T := TX11) (N := 31) hx hb hts hiX11 hown hK hP 2 rfl rfl 5 (by decide) hw2 (fun _ h9 => h9) rfl dX11_at_105 ?_
              refine lv_iload_n hx hb dX11_at_108 rfl (lv_at hl 3 rfl) ?_
              refine z_lald hx hb hK hP 1 1 rfl rfl (by omega) dX11_at_109 ?_
              refine lv_lconst (v := lI 0) hx hb dX11_at_110 (by decide) ?_
              have join134 : ∀ (H : Heap) (locs : List Loc), va_P G.1 vwCl [(m4, .inl (gI G, 61, .inl (fun j : Nat => iI (sz (j : Int))))), (m5, .inl (gL G, 61, .inr (.inl (fun j : Nat => lI (va (j : Int)))))), (m0, .inr (12, [.int (iI lim), .int (iI 0), .int (iI rf), .int (iI mk), .ref m4, .ref m5, .ref m6, .int (iI nk), .ref m8, .ref m9, .ref m10, .int (iI st), .int (iI wn), .ref m13, .ref m14, .ref m15, .ref m16, .ref m17, .int (iI dn), .int (iI hd), .ref m20, .ref m21, .int (iI md), .int (iI al), .ref m24, .ref m25, .ref m26, .ref m27, .ref m28, .ref m29, .int (iI sd)]))] H → va_D A [(m4, .inl (gI G, 61, .inl (fun j : Nat => iI (sz (j : Int))))), (m5, .inl (gL G, 61, .inr (.inl (fun j : Nat => lI (va (j : Int)))))), (m0, .inr (12, [.int (iI lim), .int (iI 0), .int (iI rf), .int (iI mk), .ref m4, .ref m5, .ref m6, .int (iI nk), .ref m8, .ref m9, .ref m10, .int (iI st), .int (iI wn), .ref m13, .ref m14, .ref m15, .ref m16, .ref m17, .int (iI dn), .int (iI hd), .ref m20, .ref m21, .int (iI md), .int (iI al), .ref m24, .ref m25, .ref m26, .ref m27, .ref m28, .ref m29, .int (iI sd)]))] → va_S A s.heap H locs → W p l e (rz 1 23) s m [.ref m0, .int (iI n), .int (iI i)].toArray below meth c H locs 0 0 Q (F0 m 134 ls [.int (iI (if va n < 0 ∧ i = sz n - 1 then 112 else 48)), .int (iI (dgt sz va n i))]) := by
                intro H locs hP hD hS
                refine z_iadd hx hb dX11_at_134 ?_
                refine z_top (w := .int (iI (aAt sz va n i))) (congrArg _ (congrArg iI (by rfl))) ?_
                refine z_i2b hx hb dX11_at_135 (by unfold aAt; split <;> omega) ?_
                have hP : va_P G.1 vwCl [(m0, .inr (12, [.int (iI lim), .int (iI 0), .int (iI rf), .int (iI mk), .ref m4, .ref m5, .ref m6, .int (iI nk), .ref m8, .ref m9, .ref m10, .int (iI st), .int (iI wn), .ref m13, .ref m14, .ref m15, .ref m16, .ref m17, .int (iI dn), .int (iI hd), .ref m20, .ref m21, .int (iI md), .int (iI al), .ref m24, .ref m25, .ref m26, .ref m27, .ref m28, .ref m29, .int (iI sd)])), (m4, .inl (gI G, 61, .inl (fun j : Nat => iI (sz (j : Int))))), (m5, .inl (gL G, 61, .inr (.inl (fun j : Nat => lI (va (j : Int))))))] H := hP.sub [2, 0, 1] rfl
                have hD : va_D A [(m0, .inr (12, [.int (iI lim), .int (iI 0), .int (iI rf), .int (iI mk), .ref m4, .ref m5, .ref m6, .int (iI nk), .ref m8, .ref m9, .ref m10, .int (iI st), .int (iI wn), .ref m13, .ref m14, .ref m15, .ref m16, .ref m17, .int (iI dn), .int (iI hd), .ref m20, .ref m21, .int (iI md), .int (iI al), .ref m24, .ref m25, .ref m26, .ref m27, .ref m28, .ref m29, .int (iI sd)])), (m4, .inl (gI G, 61, .inl (fun j : Nat => iI (sz (j : Int))))), (m5, .inl (gL G, 61, .inr (.inl (fun j : Nat => lI (va (j : Int))))))] := hD.sub [2, 0, 1] (by decide) rfl
                exact hret _ ls H locs dX11_at_136 hP hD hS
              refine z_lcmp_ge (tgt := 132) hx hb dX11_at_111 dX11_at_112 (by decide) (by omega) (fun c_7 => ?_) (fun c_7 => ?_)
              · skip
                refine lv_bipush (v := iI (48)) hx hb dX11_at_132 (by decide) ?_
                refine z_top (w := .int (iI (if va n < 0 ∧ i = sz n - 1 then 112 else 48))) (congrArg _ (congrArg iI (by first | exact (if_pos (by omega)).symm | exact (if_neg (by omega)).symm))) ?_
                exact join134 H locs hP hD hS
              · skip
                refine lv_iload_n hx hb dX11_at_115 rfl (lv_at hl 4 rfl) ?_
                refine lv_aload_n hx hb dX11_at_116 rfl (lv_at hl 2 rfl) ?_
                refine va_get (D := G.1) (ci := 12) (v := .ref m4) (C := RX11) (T := TX11) (N := 31) hx hb hts hiX11 hown hK hP 2 rfl rfl 4 (by decide) hw0 (fun _ h9 => h9) rfl dX11_at_117 ?_
                refine lv_iload_n hx hb dX11_at_120 rfl (lv_at hl 3 rfl) ?_
                refine z_iald hx hb hK hP 0 0 rfl rfl (by omega) dX11_at_121 ?_
                refine lv_iconst (v := iI (1)) hx hb dX11_at_122 rfl ?_
                refine z_isub hx hb dX11_at_123 ?_
                refine z_icmp_ne (tgt := 132) hx hb dX11_at_124 (by decide) (by omega) (fun c_8 => ?_) (fun c_8 => ?_)
                · skip
                  refine lv_bipush (v := iI (48)) hx hb dX11_at_132 (by decide) ?_
                  refine z_top (w := .int (iI (if va n < 0 ∧ i = sz n - 1 then 112 else 48))) (congrArg _ (congrArg iI (by first | exact (if_pos (by omega)).symm | exact (if_neg (by omega)).symm))) ?_
                  exact join134 H locs hP hD hS
                · skip
                  refine lv_bipush (v := iI (112)) hx hb dX11_at_127 (by decide) ?_
                  refine lv_goto (tgt := 134) hx hb dX11_at_129 (by decide) ?_
                  refine z_top (w := .int (iI (if va n < 0 ∧ i = sz n - 1 then 112 else 48))) (congrArg _ (congrArg iI (by first | exact (if_pos (by omega)).symm | exact (if_neg (by omega)).symm))) ?_
                  exact join134 H locs hP hD hS
            refine z_lcmp_ge (tgt := 73) hx hb dX11_at_59 dX11_at_60 (by decide) (by omega) (fun c_6 => ?_) (fun c_6 => ?_)
            · skip
              refine lv_aload_n hx hb dX11_at_73 rfl (lv_at hl 0 rfl) ?_
              refine va_get (D := G.1) (ci := 12) (v := .ref m5) (C := RX11) (T := TX11) (N := 31) hx hb hts hiX11 hown hK hP 2 rfl rfl 5 (by decide) hw2 (fun _ h9 => h9) rfl dX11_at_74 ?_
              refine lv_iload_n hx hb dX11_at_77 rfl (lv_at hl 1 rfl) ?_
              refine z_lald hx hb hK hP 1 1 rfl rfl (by omega) dX11_at_78 ?_
              refine z_top (w := .long (lI ((Int.natAbs (va n) : Nat) : Int))) (congrArg _ (congrArg lI (by omega))) ?_
              exact join79 H locs hP hD hS
            · skip
              refine lv_aload_n hx hb dX11_at_63 rfl (lv_at hl 0 rfl) ?_
              refine va_get (D := G.1) (ci := 12) (v := .ref m5) (C := RX11) (T := TX11) (N := 31) hx hb hts hiX11 hown hK hP 2 rfl rfl 5 (by decide) hw2 (fun _ h9 => h9) rfl dX11_at_64 ?_
              refine lv_iload_n hx hb dX11_at_67 rfl (lv_at hl 1 rfl) ?_
              refine z_lald hx hb hK hP 1 1 rfl rfl (by omega) dX11_at_68 ?_
              refine z_lneg hx hb dX11_at_69 ?_
              refine lv_goto (tgt := 79) hx hb dX11_at_70 (by decide) ?_
              refine z_top (w := .long (lI ((Int.natAbs (va n) : Nat) : Int))) (congrArg _ (congrArg lI (by omega))) ?_
              exact join79 H locs hP hD hS
          · skip
            exfalso; omega
        · skip
          exfalso; omega

set_option maxHeartbeats 4000000 in
set_option maxRecDepth 100000 in
theorem c_X11_number (l : Launch) (G : Gx) (zz : Nat) (m0 m4 m5 m6 m8 m9 m10 m13 m14 m15 m16 m17 m20 m21 m24 m25 m26 m27 m28 m29 : Nat) (lim fa rf mk nk st wn dn hd md al sd : Int) (sz va : Int → Int) (n : Int) (h1 : 0 ≤ mk ∧ mk ≤ 60) (h2 : -2147483648 ≤ n ∧ n < 2147483648) : Cl l yX11_number wsX11_number (rz 1 21) G [.ref m0, .int (iI n)] [(m0, .inr (12, [.int (iI lim), .int (iI fa), .int (iI rf), .int (iI mk), .ref m4, .ref m5, .ref m6, .int (iI nk), .ref m8, .ref m9, .ref m10, .int (iI st), .int (iI wn), .ref m13, .ref m14, .ref m15, .ref m16, .ref m17, .int (iI dn), .int (iI hd), .ref m20, .ref m21, .int (iI md), .int (iI al), .ref m24, .ref m25, .ref m26, .ref m27, .ref m28, .ref m29, .int (iI sd)])), (m4, .inl (gI G, 61, .inl (fun j : Nat => iI (sz (j : Int))))), (m5, .inl (gL G, 61, .inr (.inl (fun j : Nat => lI (va (j : Int))))))] zz (if 1 ≤ n ∧ n ≤ mk then va n else 0) [(m0, .inr (12, [.int (iI lim), .int (iI 0), .int (iI rf), .int (iI mk), .ref m4, .ref m5, .ref m6, .int (iI nk), .ref m8, .ref m9, .ref m10, .int (iI st), .int (iI wn), .ref m13, .ref m14, .ref m15, .ref m16, .ref m17, .int (iI dn), .int (iI hd), .ref m20, .ref m21, .int (iI md), .int (iI al), .ref m24, .ref m25, .ref m26, .ref m27, .ref m28, .ref m29, .int (iI sd)])), (m4, .inl (gI G, 61, .inl (fun j : Nat => iI (sz (j : Int))))), (m5, .inl (gL G, 61, .inr (.inl (fun j : Nat => lI (va (j : Int))))))] := by
  refine met_l (cc := cX11_number) (maxL := 2) (by decide) rfl (Nat.le_of_ble_eq_true rfl) ⟨rfl, rfl⟩ ?_
  intro p e s m below meth c A Q F C hP hD hS hret ls hl
  obtain ⟨hx, hb, hml, hown, hts⟩ := id F
  obtain ⟨hK, hA, hZ, hT, hN⟩ := id C
  have hl : lv_has ls 2 [(0, .ref m0), (1, .int (iI n))] := hl
  obtain ⟨H, hH⟩ : ∃ H, H = s.heap := ⟨_, rfl⟩
  obtain ⟨locs, hlocs⟩ : ∃ l : List Loc, l = [] := ⟨_, rfl⟩
  have hS : va_S A s.heap H locs := by rw [hH, hlocs]; exact hS
  have hP : va_P G.1 vwCl [(m0, .inr (12, [.int (iI lim), .int (iI fa), .int (iI rf), .int (iI mk), .ref m4, .ref m5, .ref m6, .int (iI nk), .ref m8, .ref m9, .ref m10, .int (iI st), .int (iI wn), .ref m13, .ref m14, .ref m15, .ref m16, .ref m17, .int (iI dn), .int (iI hd), .ref m20, .ref m21, .int (iI md), .int (iI al), .ref m24, .ref m25, .ref m26, .ref m27, .ref m28, .ref m29, .int (iI sd)])), (m4, .inl (gI G, 61, .inl (fun j : Nat => iI (sz (j : Int))))), (m5, .inl (gL G, 61, .inr (.inl (fun j : Nat => lI (va (j : Int))))))] H := by rw [hH]; exact hP
  suffices hgo : W p l e (rz 1 21) s m [.ref m0, .int (iI n)].toArray below meth c H locs 0 0 Q (F0 m 0 ls []) by rw [hH, hlocs] at hgo; exact hgo
  have hiX11 : ∀ w ∈ wsX110, w ∈ wsX11_number := by decide +kernel
  have hw0 := hts (Cond.fieldLink RX11 75 "PlainCobolModel" "fault" "I") (List.mem_of_getElem? (i := 1) rfl)
  have hw1 := hts (Cond.fieldLink RX11 13 "PlainCobolModel" "values" "[J") (List.mem_of_getElem? (i := 2) rfl)
  refine lv_aload_n hx hb dX11_number_0 rfl (lv_at hl 0 rfl) ?_
  refine lv_iconst (v := iI (0)) hx hb dX11_number_1 rfl ?_
  refine va_put (D := G.1) (ci := 12) (v := .int (iI 0)) (ty := .int) (C := RX11) (T := TX11) (N := 31) hx hb hts hiX11 tyX11 tyX11_ok nmX11 hown hK hP hD hS 0 rfl rfl 1 (by decide) hw0 (fun _ h9 => h9) rfl (by decide +kernel) rfl rfl (Nat.le_of_ble_eq_true rfl) dX11_number_2 (fun H locs hP hD hS => ?_)
  have hP : va_P G.1 vwCl [(m0, .inr (12, [.int (iI lim), .int (iI 0), .int (iI rf), .int (iI mk), .ref m4, .ref m5, .ref m6, .int (iI nk), .ref m8, .ref m9, .ref m10, .int (iI st), .int (iI wn), .ref m13, .ref m14, .ref m15, .ref m16, .ref m17, .int (iI dn), .int (iI hd), .ref m20, .ref m21, .int (iI md), .int (iI al), .ref m24, .ref m25, .ref m26, .ref m27, .ref m28, .ref m29, .int (iI sd)])), (m4, .inl (gI G, 61, .inl (fun j : Nat => iI (sz (j : Int))))), (m5, .inl (gL G, 61, .inr (.inl (fun j : Nat => lI (va (j : Int))))))] H := hP
  have hD : va_D A [(m0, .inr (12, [.int (iI lim), .int (iI 0), .int (iI rf), .int (iI mk), .ref m4, .ref m5, .ref m6, .int (iI nk), .ref m8, .ref m9, .ref m10, .int (iI st), .int (iI wn), .ref m13, .ref m14, .ref m15, .ref m16, .ref m17, .int (iI dn), .int (iI hd), .ref m20, .ref m21, .int (iI md), .int (iI al), .ref m24, .ref m25, .ref m26, .ref m27, .ref m28, .ref m29, .int (iI sd)])), (m4, .inl (gI G, 61, .inl (fun j : Nat => iI (sz (j : Int))))), (m5, .inl (gL G, 61, .inr (.inl (fun j : Nat => lI (va (j : Int))))))] := hD
  refine lv_aload_n hx hb dX11_number_5 rfl (lv_at hl 0 rfl) ?_
  refine lv_iload_n hx hb dX11_number_6 rfl (lv_at hl 1 rfl) ?_
  refine z_cVi (RV := (if 1 ≤ n ∧ n ≤ mk then 1 else 0)) (As := [.int (iI n)]) (rest := []) (wc := [(m0, .inr (12, [.int (iI lim), .int (iI 0), .int (iI rf), .int (iI mk), .ref m4, .ref m5, .ref m6, .int (iI nk), .ref m8, .ref m9, .ref m10, .int (iI st), .int (iI wn), .ref m13, .ref m14, .ref m15, .ref m16, .ref m17, .int (iI dn), .int (iI hd), .ref m20, .ref m21, .int (iI md), .int (iI al), .ref m24, .ref m25, .ref m26, .ref m27, .ref m28, .ref m29, .int (iI sd)]))]) (wr := [(m4, .inl (gI G, 61, .inl (fun j : Nat => iI (sz (j : Int))))), (m5, .inl (gL G, 61, .inr (.inl (fun j : Nat => lI (va (j : Int))))))]) (wn := [(m4, .inl (gI G, 61, .inl (fun j : Nat => iI (sz (j : Int))))), (m5, .inl (gL G, 61, .inr (.inl (fun j : Nat => lI (va (j : Int)))))), (m0, .inr (12, [.int (iI lim), .int (iI 0), .int (iI rf), .int (iI mk), .ref m4, .ref m5, .ref m6, .int (iI nk), .ref m8, .ref m9, .ref m10, .int (iI st), .int (iI wn), .ref m13, .ref m14, .ref m15, .ref m16, .ref m17, .int (iI dn), .int (iI hd), .ref m20, .ref m21, .int (iI md), .int (iI al), .ref m24, .ref m25, .ref m26, .ref m27, .ref m28, .ref m29, .int (iI sd)]))]) F C (c_X11_isCell l G H.size m0 m4 m5 m6 m8 m9 m10 m13 m14 m15 m16 m17 m20 m21 m24 m25 m26 m27 m28 m29 lim 0 rf mk nk st wn dn hd md al sd n (by omega) (by omega)) (cwV 1 hts gX11_number_X11_isCell rfl rfl rfl (by decide +kernel) (by decide)) hP hD hS (q0 := 0) rfl rfl rfl [0] [1, 2] rfl rfl (by decide) rfl rfl hl.1 rfl (Nat.le_of_ble_eq_true rfl) dX11_number_7 (by decide) (fun H locs hP hD hS => ?_)
  refine z_if_eq (tgt := 22) hx hb dX11_number_10 (by decide) (by split <;> omega) (fun c_1 => ?_) (fun c_1 => ?_)
  · skip
    have qc_1 := if_eq0 c_1
    refine lv_lconst (v := lI 0) hx hb dX11_number_22 (by decide) ?_
    have hP : va_P G.1 vwCl [(m0, .inr (12, [.int (iI lim), .int (iI 0), .int (iI rf), .int (iI mk), .ref m4, .ref m5, .ref m6, .int (iI nk), .ref m8, .ref m9, .ref m10, .int (iI st), .int (iI wn), .ref m13, .ref m14, .ref m15, .ref m16, .ref m17, .int (iI dn), .int (iI hd), .ref m20, .ref m21, .int (iI md), .int (iI al), .ref m24, .ref m25, .ref m26, .ref m27, .ref m28, .ref m29, .int (iI sd)])), (m4, .inl (gI G, 61, .inl (fun j : Nat => iI (sz (j : Int))))), (m5, .inl (gL G, 61, .inr (.inl (fun j : Nat => lI (va (j : Int))))))] H := hP.sub [2, 0, 1] rfl
    have hD : va_D A [(m0, .inr (12, [.int (iI lim), .int (iI 0), .int (iI rf), .int (iI mk), .ref m4, .ref m5, .ref m6, .int (iI nk), .ref m8, .ref m9, .ref m10, .int (iI st), .int (iI wn), .ref m13, .ref m14, .ref m15, .ref m16, .ref m17, .int (iI dn), .int (iI hd), .ref m20, .ref m21, .int (iI md), .int (iI al), .ref m24, .ref m25, .ref m26, .ref m27, .ref m28, .ref m29, .int (iI sd)])), (m4, .inl (gI G, 61, .inl (fun j : Nat => iI (sz (j : Int))))), (m5, .inl (gL G, 61, .inr (.inl (fun j : Nat => lI (va (j : Int))))))] := hD.sub [2, 0, 1] (by decide) rfl
    have r_2 : (0 : Int) = (if 1 ≤ n ∧ n ≤ mk then va n else 0) := by first | exact (if_pos (by omega)).symm | exact (if_neg (by omega)).symm
    rw [r_2]
    exact hret _ ls H locs dX11_number_23 hP hD hS
  · skip
    have qc_1 := if_ne0 c_1
    refine lv_aload_n hx hb dX11_number_13 rfl (lv_at hl 0 rfl) ?_
    refine va_get (D := G.1) (ci := 12) (v := .ref m5) (C := RX11) (T := TX11) (N := 31) hx hb hts hiX11 hown hK hP 2 rfl rfl 5 (by decide) hw1 (fun _ h9 => h9) rfl dX11_number_14 ?_
    refine lv_iload_n hx hb dX11_number_17 rfl (lv_at hl 1 rfl) ?_
    refine z_lald hx hb hK hP 1 1 rfl rfl (by omega) dX11_number_18 ?_
    refine lv_goto (tgt := 23) hx hb dX11_number_19 (by decide) ?_
    have hP : va_P G.1 vwCl [(m0, .inr (12, [.int (iI lim), .int (iI 0), .int (iI rf), .int (iI mk), .ref m4, .ref m5, .ref m6, .int (iI nk), .ref m8, .ref m9, .ref m10, .int (iI st), .int (iI wn), .ref m13, .ref m14, .ref m15, .ref m16, .ref m17, .int (iI dn), .int (iI hd), .ref m20, .ref m21, .int (iI md), .int (iI al), .ref m24, .ref m25, .ref m26, .ref m27, .ref m28, .ref m29, .int (iI sd)])), (m4, .inl (gI G, 61, .inl (fun j : Nat => iI (sz (j : Int))))), (m5, .inl (gL G, 61, .inr (.inl (fun j : Nat => lI (va (j : Int))))))] H := hP.sub [2, 0, 1] rfl
    have hD : va_D A [(m0, .inr (12, [.int (iI lim), .int (iI 0), .int (iI rf), .int (iI mk), .ref m4, .ref m5, .ref m6, .int (iI nk), .ref m8, .ref m9, .ref m10, .int (iI st), .int (iI wn), .ref m13, .ref m14, .ref m15, .ref m16, .ref m17, .int (iI dn), .int (iI hd), .ref m20, .ref m21, .int (iI md), .int (iI al), .ref m24, .ref m25, .ref m26, .ref m27, .ref m28, .ref m29, .int (iI sd)])), (m4, .inl (gI G, 61, .inl (fun j : Nat => iI (sz (j : Int))))), (m5, .inl (gL G, 61, .inr (.inl (fun j : Nat => lI (va (j : Int))))))] := hD.sub [2, 0, 1] (by decide) rfl
    have r_3 : ((va n) : Int) = (if 1 ≤ n ∧ n ≤ mk then va n else 0) := by first | exact (if_pos (by omega)).symm | exact (if_neg (by omega)).symm
    rw [r_3]
    exact hret _ ls H locs dX11_number_23 hP hD hS

set_option maxHeartbeats 4000000 in
set_option maxRecDepth 100000 in
theorem c_X11_record_ (l : Launch) (G : Gx) (zz : Nat) (m0 m4 m5 m6 m8 m9 m10 m13 m14 m15 m16 m17 m20 m21 m24 m25 m26 m27 m28 m29 : Nat) (lim fa rf mk nk st wn dn hd md al sd : Int) (ky fv : Int → Int) (f i what : Int) (hfv : FV ky hd) (h1 : -2147483648 ≤ f ∧ f < 2147483648) (h2 : -2147483648 ≤ i ∧ i < 2147483648) (h3 : -2147483648 ≤ what ∧ what < 2147483648) : Ci l yX11_record_ wsX11_record_ (rz 0 0) G [.ref m0, .int (iI f), .int (iI i), .int (iI what)] [(m0, .inr (12, [.int (iI lim), .int (iI fa), .int (iI rf), .int (iI mk), .ref m4, .ref m5, .ref m6, .int (iI nk), .ref m8, .ref m9, .ref m10, .int (iI st), .int (iI wn), .ref m13, .ref m14, .ref m15, .ref m16, .ref m17, .int (iI dn), .int (iI hd), .ref m20, .ref m21, .int (iI md), .int (iI al), .ref m24, .ref m25, .ref m26, .ref m27, .ref m28, .ref m29, .int (iI sd)])), (m20, .inl (gL G, 1000, .inr (.inl (fun j : Nat => lI (ky (j : Int)))))), (m21, .inl (gL G, 1000, .inr (.inl (fun j : Nat => lI (fv (j : Int))))))] zz (aRec ky fv hd f i what) [(m0, .inr (12, [.int (iI lim), .int (iI 0), .int (iI rf), .int (iI mk), .ref m4, .ref m5, .ref m6, .int (iI nk), .ref m8, .ref m9, .ref m10, .int (iI st), .int (iI wn), .ref m13, .ref m14, .ref m15, .ref m16, .ref m17, .int (iI dn), .int (iI hd), .ref m20, .ref m21, .int (iI md), .int (iI al), .ref m24, .ref m25, .ref m26, .ref m27, .ref m28, .ref m29, .int (iI sd)])), (m20, .inl (gL G, 1000, .inr (.inl (fun j : Nat => lI (ky (j : Int)))))), (m21, .inl (gL G, 1000, .inr (.inl (fun j : Nat => lI (fv (j : Int))))))] := by
  refine met_i (cc := cX11_record_) (maxL := 6) (ret := (some .int)) (by decide) rfl (Nat.le_of_ble_eq_true rfl) rfl rfl ⟨rfl, rfl⟩ ?_
  intro p e s m below meth c A Q F C hP hD hS hret ls hl
  obtain ⟨hx, hb, hml, hown, hts⟩ := id F
  obtain ⟨hK, hA, hZ, hT, hN⟩ := id C
  have hl : lv_has ls 6 [(0, .ref m0), (1, .int (iI f)), (2, .int (iI i)), (3, .int (iI what))] := hl
  obtain ⟨H, hH⟩ : ∃ H, H = s.heap := ⟨_, rfl⟩
  obtain ⟨locs, hlocs⟩ : ∃ l : List Loc, l = [] := ⟨_, rfl⟩
  have hS : va_S A s.heap H locs := by rw [hH, hlocs]; exact hS
  have hP : va_P G.1 vwCl [(m0, .inr (12, [.int (iI lim), .int (iI fa), .int (iI rf), .int (iI mk), .ref m4, .ref m5, .ref m6, .int (iI nk), .ref m8, .ref m9, .ref m10, .int (iI st), .int (iI wn), .ref m13, .ref m14, .ref m15, .ref m16, .ref m17, .int (iI dn), .int (iI hd), .ref m20, .ref m21, .int (iI md), .int (iI al), .ref m24, .ref m25, .ref m26, .ref m27, .ref m28, .ref m29, .int (iI sd)])), (m20, .inl (gL G, 1000, .inr (.inl (fun j : Nat => lI (ky (j : Int)))))), (m21, .inl (gL G, 1000, .inr (.inl (fun j : Nat => lI (fv (j : Int))))))] H := by rw [hH]; exact hP
  suffices hgo : W p l e (rz 0 0) s m [.ref m0, .int (iI f), .int (iI i), .int (iI what)].toArray below meth c H locs 0 0 Q (F0 m 0 ls []) by rw [hH, hlocs] at hgo; exact hgo
  have hiX11 : ∀ w ∈ wsX110, w ∈ wsX11_record_ := by decide +kernel
  have hw0 := hts (Cond.fieldLink RX11 75 "PlainCobolModel" "fault" "I") (List.mem_of_getElem? (i := 1) rfl)
  have hw1 := hts (Cond.fieldLink RX11 178 "PlainCobolModel" "records" "I") (List.mem_of_getElem? (i := 2) rfl)
  have hw2 := hts (Cond.fieldLink RX11 44 "PlainCobolModel" "keys" "[J") (List.mem_of_getElem? (i := 3) rfl)
  have hw3 := hts (Cond.constantLong RX11 187 (1000000)) (List.mem_of_getElem? (i := 4) rfl)
  have hw4 := hts (Cond.fieldLink RX11 47 "PlainCobolModel" "contents" "[J") (List.mem_of_getElem? (i := 5) rfl)
  obtain ⟨hh, hso, hky⟩ := id hfv
  obtain ⟨ha1, ha2⟩ := cnt_z (x := f * 1000000) hh.1 hso
  obtain ⟨hb1, hb2⟩ := cnt_z (x := (f + 1) * 1000000) hh.1 hso
  have hlh : (cnt ky (f * 1000000) hd.toNat) ≤ (cnt ky ((f + 1) * 1000000) hd.toNat) := by (by_cases q : (cnt ky (f * 1000000) hd.toNat) ≤ (cnt ky ((f + 1) * 1000000) hd.toNat)); exact q; (have z1 := ha2 (cnt ky ((f + 1) * 1000000) hd.toNat) (by omega) (by omega)); (have z2 := hb2 (cnt ky ((f + 1) * 1000000) hd.toNat) (by omega) (by omega)); omega
  refine lv_aload_n hx hb dX11_record__0 rfl (lv_at hl 0 rfl) ?_
  refine lv_iconst (v := iI (0)) hx hb dX11_record__1 rfl ?_
  refine va_put (D := G.1) (ci := 12) (v := .int (iI 0)) (ty := .int) (C := RX11) (T := TX11) (N := 31) hx hb hts hiX11 tyX11 tyX11_ok nmX11 hown hK hP hD hS 0 rfl rfl 1 (by decide) hw0 (fun _ h9 => h9) rfl (by decide +kernel) rfl rfl (Nat.le_of_ble_eq_true rfl) dX11_record__2 (fun H locs hP hD hS => ?_)
  have hP : va_P G.1 vwCl [(m0, .inr (12, [.int (iI lim), .int (iI 0), .int (iI rf), .int (iI mk), .ref m4, .ref m5, .ref m6, .int (iI nk), .ref m8, .ref m9, .ref m10, .int (iI st), .int (iI wn), .ref m13, .ref m14, .ref m15, .ref m16, .ref m17, .int (iI dn), .int (iI hd), .ref m20, .ref m21, .int (iI md), .int (iI al), .ref m24, .ref m25, .ref m26, .ref m27, .ref m28, .ref m29, .int (iI sd)])), (m20, .inl (gL G, 1000, .inr (.inl (fun j : Nat => lI (ky (j : Int)))))), (m21, .inl (gL G, 1000, .inr (.inl (fun j : Nat => lI (fv (j : Int))))))] H := hP
  have hD : va_D A [(m0, .inr (12, [.int (iI lim), .int (iI 0), .int (iI rf), .int (iI mk), .ref m4, .ref m5, .ref m6, .int (iI nk), .ref m8, .ref m9, .ref m10, .int (iI st), .int (iI wn), .ref m13, .ref m14, .ref m15, .ref m16, .ref m17, .int (iI dn), .int (iI hd), .ref m20, .ref m21, .int (iI md), .int (iI al), .ref m24, .ref m25, .ref m26, .ref m27, .ref m28, .ref m29, .int (iI sd)])), (m20, .inl (gL G, 1000, .inr (.inl (fun j : Nat => lI (ky (j : Int)))))), (m21, .inl (gL G, 1000, .inr (.inl (fun j : Nat => lI (fv (j : Int))))))] := hD
  refine lv_iload_n hx hb dX11_record__5 rfl (lv_at hl 1 rfl) ?_
  refine z_if_lt (tgt := 27) hx hb dX11_record__6 (by decide) (by omega) (fun c_1 => ?_) (fun c_1 => ?_)
  · skip
    refine lv_iconst (v := iI (-1)) hx hb dX11_record__27 rfl ?_
    have r_2 : ((-1) : Int) = (aRec ky fv hd f i what) := by first | (unfold aRec; (repeat (first | rw [if_pos (by omega)] | rw [if_neg (by omega)])); done) | (unfold aRec; (repeat (first | rw [if_pos (by omega)] | rw [if_neg (by omega)])); rw [show cnt ky (f * 1000000) hd.toNat + i = q by omega]; first | done | omega) | (unfold aRec; (repeat (any_goals split)) <;> first | rfl | omega)
    rw [r_2]
    exact hret _ ls H locs dX11_record__28 hP hD hS
  · skip
    refine lv_iload_n hx hb dX11_record__9 rfl (lv_at hl 1 rfl) ?_
    refine lv_iconst (v := iI (3)) hx hb dX11_record__10 rfl ?_
    refine z_icmp_gt (tgt := 27) hx hb dX11_record__11 (by decide) (by omega) (fun c_3 => ?_) (fun c_3 => ?_)
    · skip
      refine lv_iconst (v := iI (-1)) hx hb dX11_record__27 rfl ?_
      have r_4 : ((-1) : Int) = (aRec ky fv hd f i what) := by first | (unfold aRec; (repeat (first | rw [if_pos (by omega)] | rw [if_neg (by omega)])); done) | (unfold aRec; (repeat (first | rw [if_pos (by omega)] | rw [if_neg (by omega)])); rw [show cnt ky (f * 1000000) hd.toNat + i = q by omega]; first | done | omega) | (unfold aRec; (repeat (any_goals split)) <;> first | rfl | omega)
      rw [r_4]
      exact hret _ ls H locs dX11_record__28 hP hD hS
    · skip
      refine lv_iload_n hx hb dX11_record__14 rfl (lv_at hl 2 rfl) ?_
      refine z_if_lt (tgt := 27) hx hb dX11_record__15 (by decide) (by omega) (fun c_5 => ?_) (fun c_5 => ?_)
      · skip
        refine lv_iconst (v := iI (-1)) hx hb dX11_record__27 rfl ?_
        have r_6 : ((-1) : Int) = (aRec ky fv hd f i what) := by first | (unfold aRec; (repeat (first | rw [if_pos (by omega)] | rw [if_neg (by omega)])); done) | (unfold aRec; (repeat (first | rw [if_pos (by omega)] | rw [if_neg (by omega)])); rw [show cnt ky (f * 1000000) hd.toNat + i = q by omega]; first | done | omega) | (unfold aRec; (repeat (any_goals split)) <;> first | rfl | omega)
        rw [r_6]
        exact hret _ ls H locs dX11_record__28 hP hD hS
      · skip
        refine lv_iload_n hx hb dX11_record__18 rfl (lv_at hl 3 rfl) ?_
        refine z_if_lt (tgt := 27) hx hb dX11_record__19 (by decide) (by omega) (fun c_7 => ?_) (fun c_7 => ?_)
        · skip
          refine lv_iconst (v := iI (-1)) hx hb dX11_record__27 rfl ?_
          have r_8 : ((-1) : Int) = (aRec ky fv hd f i what) := by first | (unfold aRec; (repeat (first | rw [if_pos (by omega)] | rw [if_neg (by omega)])); done) | (unfold aRec; (repeat (first | rw [if_pos (by omega)] | rw [if_neg (by omega)])); rw [show cnt ky (f * 1000000) hd.toNat + i = q by omega]; first | done | omega) | (unfold aRec; (repeat (any_goals split)) <;> first | rfl | omega)
          rw [r_8]
          exact hret _ ls H locs dX11_record__28 hP hD hS
        · skip
          refine lv_iload_n hx hb dX11_record__22 rfl (lv_at hl 3 rfl) ?_
          refine lv_iconst (v := iI (2)) hx hb dX11_record__23 rfl ?_
          refine z_icmp_le (tgt := 29) hx hb dX11_record__24 (by decide) (by omega) (fun c_9 => ?_) (fun c_9 => ?_)
          · skip
            refine lv_iconst (v := iI (0)) hx hb dX11_record__29 rfl ?_
            refine lv_istore (lv' := [(4, .int (iI 0)), (0, .ref m0), (1, .int (iI f)), (2, .int (iI i)), (3, .int (iI what))]) hx hb dX11_record__30 hl (by decide) rfl (fun ls hl => ?_)
            refine lv_iconst (v := iI (0)) hx hb dX11_record__32 rfl ?_
            refine lv_istore (lv' := [(5, .int (iI 0)), (4, .int (iI 0)), (0, .ref m0), (1, .int (iI f)), (2, .int (iI i)), (3, .int (iI what))]) hx hb dX11_record__33 hl (by decide) rfl (fun ls hl => ?_)
            have loop35 : ∀ (N : Nat) (q n : Int) (H : Heap) (locs : List Loc) (ls : Array Slot), ((hd - q).toNat) < N → (0 ≤ q ∧ q ≤ hd ∧ 0 ≤ n ∧ n ≤ q) → ((q ≤ (cnt ky (f * 1000000) hd.toNat) → n = 0) ∧ ((cnt ky (f * 1000000) hd.toNat) ≤ q → q ≤ (cnt ky ((f + 1) * 1000000) hd.toNat) → n = q - (cnt ky (f * 1000000) hd.toNat)) ∧ ((cnt ky ((f + 1) * 1000000) hd.toNat) ≤ q → n = (cnt ky ((f + 1) * 1000000) hd.toNat) - (cnt ky (f * 1000000) hd.toNat)) ∧ n ≤ i) → va_P G.1 vwCl [(m0, .inr (12, [.int (iI lim), .int (iI 0), .int (iI rf), .int (iI mk), .ref m4, .ref m5, .ref m6, .int (iI nk), .ref m8, .ref m9, .ref m10, .int (iI st), .int (iI wn), .ref m13, .ref m14, .ref m15, .ref m16, .ref m17, .int (iI dn), .int (iI hd), .ref m20, .ref m21, .int (iI md), .int (iI al), .ref m24, .ref m25, .ref m26, .ref m27, .ref m28, .ref m29, .int (iI sd)])), (m20, .inl (gL G, 1000, .inr (.inl (fun j : Nat => lI (ky (j : Int)))))), (m21, .inl (gL G, 1000, .inr (.inl (fun j : Nat => lI (fv (j : Int))))))] H → va_D A [(m0, .inr (12, [.int (iI lim), .int (iI 0), .int (iI rf), .int (iI mk), .ref m4, .ref m5, .ref m6, .int (iI nk), .ref m8, .ref m9, .ref m10, .int (iI st), .int (iI wn), .ref m13, .ref m14, .ref m15, .ref m16, .ref m17, .int (iI dn), .int (iI hd), .ref m20, .ref m21, .int (iI md), .int (iI al), .ref m24, .ref m25, .ref m26, .ref m27, .ref m28, .ref m29, .int (iI sd)])), (m20, .inl (gL G, 1000, .inr (.inl (fun j : Nat => lI (ky (j : Int)))))), (m21, .inl (gL G, 1000, .inr (.inl (fun j : Nat => lI (fv (j : Int))))))] → va_S A s.heap H locs → lv_has ls 6 [(0, .ref m0), (1, .int (iI f)), (2, .int (iI i)), (3, .int (iI what)), (4, .int (iI n)), (5, .int (iI q))] → W p l e (rz 0 0) s m [.ref m0, .int (iI f), .int (iI i), .int (iI what)].toArray below meth c H locs 0 0 Q (F0 m 35 ls []) := by
              intro N
              induction N with
              | zero => intro q n H locs ls hm; exact absurd hm (Nat.not_lt_zero _)
              | succ N ih35 =>
                intro q n H locs ls hm jq jn hP hD hS hl
                refine lv_iload hx hb dX11_record__35 (lv_at hl 5 rfl) ?_
                refine lv_aload_n hx hb dX11_record__37 rfl (lv_at hl 0 rfl) ?_
                refine va_get (D := G.1) (ci := 12) (v := .int (iI hd)) (C := RX11) (T := TX11) (N := 31) hx hb hts hiX11 hown hK hP 0 rfl rfl 19 (by decide) hw1 (fun _ h9 => h9) rfl dX11_record__38 ?_
                refine z_icmp_ge (tgt := 125) hx hb dX11_record__41 (by decide) (by omega) (fun c_10 => ?_) (fun c_10 => ?_)
                · skip
                  refine lv_iconst (v := iI (-1)) hx hb dX11_record__125 rfl ?_
                  have r_11 : ((-1) : Int) = (aRec ky fv hd f i what) := by first | (unfold aRec; (repeat (first | rw [if_pos (by omega)] | rw [if_neg (by omega)])); done) | (unfold aRec; (repeat (first | rw [if_pos (by omega)] | rw [if_neg (by omega)])); rw [show cnt ky (f * 1000000) hd.toNat + i = q by omega]; first | done | omega) | (unfold aRec; (repeat (any_goals split)) <;> first | rfl | omega)
                  rw [r_11]
                  exact hret _ ls H locs dX11_record__126 hP hD hS
                · skip
                  have hkq := hky q (by omega) (by omega)
                  have hkd : Int.tdiv (ky q) 1000000 = ky q / 1000000 := Int.tdiv_eq_ediv_of_nonneg (by omega)
                  have hkm : Int.tmod (ky q) 1000000 = ky q % 1000000 := Int.tmod_eq_emod_of_nonneg (by omega)
                  have hz1 := ha2 q (by omega) (by omega)
                  have hz2 := hb2 q (by omega) (by omega)
                  refine lv_aload_n hx hb dX11_record__44 rfl (lv_at hl 0 rfl) ?_
                  refine va_get (D := G.1) (ci := 12) (v := .ref m20) (C := RX11) (T := TX11) (N := 31) hx hb hts hiX11 hown hK hP 0 rfl rfl 20 (by decide) hw2 (fun _ h9 => h9) rfl dX11_record__45 ?_
                  refine lv_iload hx hb dX11_record__48 (lv_at hl 5 rfl) ?_
                  refine z_lald hx hb hK hP 1 1 rfl rfl (by omega) dX11_record__50 ?_
                  refine lv_ldc2 hx hb hown hw3 dX11_record__51 ?_
                  refine z_top (w := .long (lI (1000000))) rfl ?_
                  refine z_ldivP hx hb dX11_record__54 (by omega) ?_
                  refine lv_iload_n hx hb dX11_record__55 rfl (lv_at hl 1 rfl) ?_
                  refine z_i2l hx hb dX11_record__56 (by omega) ?_
                  refine z_lcmp_eq (tgt := 64) hx hb dX11_record__57 dX11_record__58 (by decide) (by omega) (fun c_12 => ?_) (fun c_12 => ?_)
                  · skip
                    refine lv_iload hx hb dX11_record__64 (lv_at hl 4 rfl) ?_
                    refine lv_iload_n hx hb dX11_record__66 rfl (lv_at hl 2 rfl) ?_
                    refine z_icmp_ne (tgt := 116) hx hb dX11_record__67 (by decide) (by omega) (fun c_13 => ?_) (fun c_13 => ?_)
                    · skip
                      refine lv_iinc (v := iI (n + 1)) (lv' := [(4, .int (iI (n + 1))), (0, .ref m0), (1, .int (iI f)), (2, .int (iI i)), (3, .int (iI what)), (5, .int (iI q))]) hx hb dX11_record__116 hl (k := 4) rfl (iI_add n (1)) (by decide) rfl (fun ls hl => ?_)
                      refine lv_iinc (v := iI (q + 1)) (lv' := [(5, .int (iI (q + 1))), (4, .int (iI (n + 1))), (0, .ref m0), (1, .int (iI f)), (2, .int (iI i)), (3, .int (iI what))]) hx hb dX11_record__119 hl (k := 5) rfl (iI_add q (1)) (by decide) rfl (fun ls hl => ?_)
                      refine lv_goto (tgt := 35) hx hb dX11_record__122 (by decide) ?_
                      exact ih35 (q + 1) (n + 1) H locs ls (by omega) (by omega) (by omega) hP hD hS (lv_sub hl [2, 3, 4, 5, 1, 0] rfl)
                    · skip
                      refine lv_iload_n hx hb dX11_record__70 rfl (lv_at hl 3 rfl) ?_
                      refine z_if_ne (tgt := 89) hx hb dX11_record__71 (by decide) (by omega) (fun c_14 => ?_) (fun c_14 => ?_)
                      · skip
                        refine lv_iload_n hx hb dX11_record__89 rfl (lv_at hl 3 rfl) ?_
                        refine lv_iconst (v := iI (1)) hx hb dX11_record__90 rfl ?_
                        refine z_icmp_ne (tgt := 104) hx hb dX11_record__91 (by decide) (by omega) (fun c_15 => ?_) (fun c_15 => ?_)
                        · skip
                          refine lv_aload_n hx hb dX11_record__104 rfl (lv_at hl 0 rfl) ?_
                          refine va_get (D := G.1) (ci := 12) (v := .ref m21) (C := RX11) (T := TX11) (N := 31) hx hb hts hiX11 hown hK hP 0 rfl rfl 21 (by decide) hw4 (fun _ h9 => h9) rfl dX11_record__105 ?_
                          refine lv_iload hx hb dX11_record__108 (lv_at hl 5 rfl) ?_
                          refine z_lald hx hb hK hP 2 1 rfl rfl (by omega) dX11_record__110 ?_
                          refine lv_bipush (v := iI (32)) hx hb dX11_record__111 (by decide) ?_
                          refine z_lshr hx hb dX11_record__113 ?_
                          refine z_l2i hx hb dX11_record__114 ?_
                          have r_16 : ((shrI (fv q) 32) : Int) = (aRec ky fv hd f i what) := by first | (unfold aRec; (repeat (first | rw [if_pos (by omega)] | rw [if_neg (by omega)])); done) | (unfold aRec; (repeat (first | rw [if_pos (by omega)] | rw [if_neg (by omega)])); rw [show cnt ky (f * 1000000) hd.toNat + i = q by omega]; first | done | omega) | (unfold aRec; (repeat (any_goals split)) <;> first | rfl | omega)
                          rw [r_16]
                          exact hret _ ls H locs dX11_record__115 hP hD hS
                        · skip
                          refine lv_aload_n hx hb dX11_record__94 rfl (lv_at hl 0 rfl) ?_
                          refine va_get (D := G.1) (ci := 12) (v := .ref m21) (C := RX11) (T := TX11) (N := 31) hx hb hts hiX11 hown hK hP 0 rfl rfl 21 (by decide) hw4 (fun _ h9 => h9) rfl dX11_record__95 ?_
                          refine lv_iload hx hb dX11_record__98 (lv_at hl 5 rfl) ?_
                          refine z_lald hx hb hK hP 2 1 rfl rfl (by omega) dX11_record__100 ?_
                          refine lv_goto (tgt := 114) hx hb dX11_record__101 (by decide) ?_
                          refine z_l2i hx hb dX11_record__114 ?_
                          have r_17 : ((fv q) : Int) = (aRec ky fv hd f i what) := by first | (unfold aRec; (repeat (first | rw [if_pos (by omega)] | rw [if_neg (by omega)])); done) | (unfold aRec; (repeat (first | rw [if_pos (by omega)] | rw [if_neg (by omega)])); rw [show cnt ky (f * 1000000) hd.toNat + i = q by omega]; first | done | omega) | (unfold aRec; (repeat (any_goals split)) <;> first | rfl | omega)
                          rw [r_17]
                          exact hret _ ls H locs dX11_record__115 hP hD hS
                      · skip
                        refine lv_aload_n hx hb dX11_record__74 rfl (lv_at hl 0 rfl) ?_
                        refine va_get (D := G.1) (ci := 12) (v := .ref m20) (C := RX11) (T := TX11) (N := 31) hx hb hts hiX11 hown hK hP 0 rfl rfl 20 (by decide) hw2 (fun _ h9 => h9) rfl dX11_record__75 ?_
                        refine lv_iload hx hb dX11_record__78 (lv_at hl 5 rfl) ?_
                        refine z_lald hx hb hK hP 1 1 rfl rfl (by omega) dX11_record__80 ?_
                        refine lv_ldc2 hx hb hown hw3 dX11_record__81 ?_
                        refine z_top (w := .long (lI (1000000))) rfl ?_
                        refine z_lrem hx hb dX11_record__84 (by omega) ?_
                        refine z_l2i hx hb dX11_record__85 ?_
                        refine lv_goto (tgt := 115) hx hb dX11_record__86 (by decide) ?_
                        have r_18 : ((Int.tmod (ky q) 1000000) : Int) = (aRec ky fv hd f i what) := by first | (unfold aRec; (repeat (first | rw [if_pos (by omega)] | rw [if_neg (by omega)])); done) | (unfold aRec; (repeat (first | rw [if_pos (by omega)] | rw [if_neg (by omega)])); rw [show cnt ky (f * 1000000) hd.toNat + i = q by omega]; first | done | omega) | (unfold aRec; (repeat (any_goals split)) <;> first | rfl | omega)
                        rw [r_18]
                        exact hret _ ls H locs dX11_record__115 hP hD hS
                  · skip
                    refine lv_goto (tgt := 119) hx hb dX11_record__61 (by decide) ?_
                    refine lv_iinc (v := iI (q + 1)) (lv' := [(5, .int (iI (q + 1))), (0, .ref m0), (1, .int (iI f)), (2, .int (iI i)), (3, .int (iI what)), (4, .int (iI n))]) hx hb dX11_record__119 hl (k := 5) rfl (iI_add q (1)) (by decide) rfl (fun ls hl => ?_)
                    refine lv_goto (tgt := 35) hx hb dX11_record__122 (by decide) ?_
                    exact ih35 (q + 1) n H locs ls (by omega) (by omega) (by omega) hP hD hS (lv_sub hl [1, 2, 3, 4, 5, 0] rfl)
            exact loop35 _ 0 0 H locs ls (Nat.lt_succ_self _) (by omega) (by omega) hP hD hS (lv_sub hl [2, 3, 4, 5, 1, 0] rfl)
          · skip
            refine lv_iconst (v := iI (-1)) hx hb dX11_record__27 rfl ?_
            have r_19 : ((-1) : Int) = (aRec ky fv hd f i what) := by first | (unfold aRec; (repeat (first | rw [if_pos (by omega)] | rw [if_neg (by omega)])); done) | (unfold aRec; (repeat (first | rw [if_pos (by omega)] | rw [if_neg (by omega)])); rw [show cnt ky (f * 1000000) hd.toNat + i = q by omega]; first | done | omega) | (unfold aRec; (repeat (any_goals split)) <;> first | rfl | omega)
            rw [r_19]
            exact hret _ ls H locs dX11_record__28 hP hD hS

set_option maxHeartbeats 4000000 in
set_option maxRecDepth 100000 in
theorem c_X11_second (l : Launch) (G : Gx) (zz : Nat) (m0 m4 m5 m6 m8 m9 m10 m13 m14 m15 m16 m17 m20 m21 m24 m25 m26 m27 m28 m29 : Nat) (lim fa rf mk nk st wn dn hd md al sd : Int)  : Ci l yX11_second wsX11_second (rz 0 0) G [.ref m0] [(m0, .inr (12, [.int (iI lim), .int (iI fa), .int (iI rf), .int (iI mk), .ref m4, .ref m5, .ref m6, .int (iI nk), .ref m8, .ref m9, .ref m10, .int (iI st), .int (iI wn), .ref m13, .ref m14, .ref m15, .ref m16, .ref m17, .int (iI dn), .int (iI hd), .ref m20, .ref m21, .int (iI md), .int (iI al), .ref m24, .ref m25, .ref m26, .ref m27, .ref m28, .ref m29, .int (iI sd)]))] zz (hd + al + sd) [(m0, .inr (12, [.int (iI lim), .int (iI 0), .int (iI rf), .int (iI mk), .ref m4, .ref m5, .ref m6, .int (iI nk), .ref m8, .ref m9, .ref m10, .int (iI st), .int (iI wn), .ref m13, .ref m14, .ref m15, .ref m16, .ref m17, .int (iI dn), .int (iI hd), .ref m20, .ref m21, .int (iI md), .int (iI al), .ref m24, .ref m25, .ref m26, .ref m27, .ref m28, .ref m29, .int (iI sd)]))] := by
  refine met_i (cc := cX11_second) (maxL := 1) (ret := (some .int)) (by decide) rfl (Nat.le_of_ble_eq_true rfl) rfl rfl ⟨rfl, rfl⟩ ?_
  intro p e s m below meth c A Q F C hP hD hS hret ls hl
  obtain ⟨hx, hb, hml, hown, hts⟩ := id F
  obtain ⟨hK, hA, hZ, hT, hN⟩ := id C
  have hl : lv_has ls 1 [(0, .ref m0)] := hl
  obtain ⟨H, hH⟩ : ∃ H, H = s.heap := ⟨_, rfl⟩
  obtain ⟨locs, hlocs⟩ : ∃ l : List Loc, l = [] := ⟨_, rfl⟩
  have hS : va_S A s.heap H locs := by rw [hH, hlocs]; exact hS
  have hP : va_P G.1 vwCl [(m0, .inr (12, [.int (iI lim), .int (iI fa), .int (iI rf), .int (iI mk), .ref m4, .ref m5, .ref m6, .int (iI nk), .ref m8, .ref m9, .ref m10, .int (iI st), .int (iI wn), .ref m13, .ref m14, .ref m15, .ref m16, .ref m17, .int (iI dn), .int (iI hd), .ref m20, .ref m21, .int (iI md), .int (iI al), .ref m24, .ref m25, .ref m26, .ref m27, .ref m28, .ref m29, .int (iI sd)]))] H := by rw [hH]; exact hP
  suffices hgo : W p l e (rz 0 0) s m [.ref m0].toArray below meth c H locs 0 0 Q (F0 m 0 ls []) by rw [hH, hlocs] at hgo; exact hgo
  have hiX11 : ∀ w ∈ wsX110, w ∈ wsX11_second := by decide +kernel
  have hw0 := hts (Cond.fieldLink RX11 75 "PlainCobolModel" "fault" "I") (List.mem_of_getElem? (i := 1) rfl)
  have hw1 := hts (Cond.fieldLink RX11 178 "PlainCobolModel" "records" "I") (List.mem_of_getElem? (i := 2) rfl)
  have hw2 := hts (Cond.fieldLink RX11 184 "PlainCobolModel" "alive" "I") (List.mem_of_getElem? (i := 3) rfl)
  have hw3 := hts (Cond.fieldLink RX11 175 "PlainCobolModel" "signed" "I") (List.mem_of_getElem? (i := 4) rfl)
  refine lv_aload_n hx hb dX11_second_0 rfl (lv_at hl 0 rfl) ?_
  refine lv_iconst (v := iI (0)) hx hb dX11_second_1 rfl ?_
  refine va_put (D := G.1) (ci := 12) (v := .int (iI 0)) (ty := .int) (C := RX11) (T := TX11) (N := 31) hx hb hts hiX11 tyX11 tyX11_ok nmX11 hown hK hP hD hS 0 rfl rfl 1 (by decide) hw0 (fun _ h9 => h9) rfl (by decide +kernel) rfl rfl (Nat.le_of_ble_eq_true rfl) dX11_second_2 (fun H locs hP hD hS => ?_)
  have hP : va_P G.1 vwCl [(m0, .inr (12, [.int (iI lim), .int (iI 0), .int (iI rf), .int (iI mk), .ref m4, .ref m5, .ref m6, .int (iI nk), .ref m8, .ref m9, .ref m10, .int (iI st), .int (iI wn), .ref m13, .ref m14, .ref m15, .ref m16, .ref m17, .int (iI dn), .int (iI hd), .ref m20, .ref m21, .int (iI md), .int (iI al), .ref m24, .ref m25, .ref m26, .ref m27, .ref m28, .ref m29, .int (iI sd)]))] H := hP
  have hD : va_D A [(m0, .inr (12, [.int (iI lim), .int (iI 0), .int (iI rf), .int (iI mk), .ref m4, .ref m5, .ref m6, .int (iI nk), .ref m8, .ref m9, .ref m10, .int (iI st), .int (iI wn), .ref m13, .ref m14, .ref m15, .ref m16, .ref m17, .int (iI dn), .int (iI hd), .ref m20, .ref m21, .int (iI md), .int (iI al), .ref m24, .ref m25, .ref m26, .ref m27, .ref m28, .ref m29, .int (iI sd)]))] := hD
  refine lv_aload_n hx hb dX11_second_5 rfl (lv_at hl 0 rfl) ?_
  refine va_get (D := G.1) (ci := 12) (v := .int (iI hd)) (C := RX11) (T := TX11) (N := 31) hx hb hts hiX11 hown hK hP 0 rfl rfl 19 (by decide) hw1 (fun _ h9 => h9) rfl dX11_second_6 ?_
  refine lv_aload_n hx hb dX11_second_9 rfl (lv_at hl 0 rfl) ?_
  refine va_get (D := G.1) (ci := 12) (v := .int (iI al)) (C := RX11) (T := TX11) (N := 31) hx hb hts hiX11 hown hK hP 0 rfl rfl 23 (by decide) hw2 (fun _ h9 => h9) rfl dX11_second_10 ?_
  refine z_iadd hx hb dX11_second_13 ?_
  refine lv_aload_n hx hb dX11_second_14 rfl (lv_at hl 0 rfl) ?_
  refine va_get (D := G.1) (ci := 12) (v := .int (iI sd)) (C := RX11) (T := TX11) (N := 31) hx hb hts hiX11 hown hK hP 0 rfl rfl 30 (by decide) hw3 (fun _ h9 => h9) rfl dX11_second_15 ?_
  refine z_iadd hx hb dX11_second_18 ?_
  have r_1 : (((hd + al) + sd) : Int) = (hd + al + sd) := by rfl
  rw [r_1]
  exact hret _ ls H locs dX11_second_19 hP hD hS

set_option maxHeartbeats 4000000 in
set_option maxRecDepth 100000 in
theorem c_X11_screen (l : Launch) (G : Gx) (zz : Nat) (m0 m4 m5 m6 m8 m9 m10 m13 m14 m15 m16 m17 m20 m21 m24 m25 m26 m27 m28 m29 : Nat) (lim fa rf mk nk st wn dn hd md al sd : Int) (sg : Int → Int) (r c9 : Int) (hsg : SGV sg) (h1 : -2147483648 ≤ r ∧ r < 2147483648) (h2 : -2147483648 ≤ c9 ∧ c9 < 2147483648) : Ci l yX11_screen wsX11_screen (rz 0 0) G [.ref m0, .int (iI r), .int (iI c9)] [(m0, .inr (12, [.int (iI lim), .int (iI fa), .int (iI rf), .int (iI mk), .ref m4, .ref m5, .ref m6, .int (iI nk), .ref m8, .ref m9, .ref m10, .int (iI st), .int (iI wn), .ref m13, .ref m14, .ref m15, .ref m16, .ref m17, .int (iI dn), .int (iI hd), .ref m20, .ref m21, .int (iI md), .int (iI al), .ref m24, .ref m25, .ref m26, .ref m27, .ref m28, .ref m29, .int (iI sd)])), (m29, .inl (gI G, 1920, .inl (fun j : Nat => iI (sg (j : Int)))))] zz (aScr sg r c9) [(m0, .inr (12, [.int (iI lim), .int (iI 0), .int (iI rf), .int (iI mk), .ref m4, .ref m5, .ref m6, .int (iI nk), .ref m8, .ref m9, .ref m10, .int (iI st), .int (iI wn), .ref m13, .ref m14, .ref m15, .ref m16, .ref m17, .int (iI dn), .int (iI hd), .ref m20, .ref m21, .int (iI md), .int (iI al), .ref m24, .ref m25, .ref m26, .ref m27, .ref m28, .ref m29, .int (iI sd)])), (m29, .inl (gI G, 1920, .inl (fun j : Nat => iI (sg (j : Int)))))] := by
  refine met_i (cc := cX11_screen) (maxL := 4) (ret := (some .int)) (by decide) rfl (Nat.le_of_ble_eq_true rfl) rfl rfl ⟨rfl, rfl⟩ ?_
  intro p e s m below meth c A Q F C hP hD hS hret ls hl
  obtain ⟨hx, hb, hml, hown, hts⟩ := id F
  obtain ⟨hK, hA, hZ, hT, hN⟩ := id C
  have hl : lv_has ls 4 [(0, .ref m0), (1, .int (iI r)), (2, .int (iI c9))] := hl
  obtain ⟨H, hH⟩ : ∃ H, H = s.heap := ⟨_, rfl⟩
  obtain ⟨locs, hlocs⟩ : ∃ l : List Loc, l = [] := ⟨_, rfl⟩
  have hS : va_S A s.heap H locs := by rw [hH, hlocs]; exact hS
  have hP : va_P G.1 vwCl [(m0, .inr (12, [.int (iI lim), .int (iI fa), .int (iI rf), .int (iI mk), .ref m4, .ref m5, .ref m6, .int (iI nk), .ref m8, .ref m9, .ref m10, .int (iI st), .int (iI wn), .ref m13, .ref m14, .ref m15, .ref m16, .ref m17, .int (iI dn), .int (iI hd), .ref m20, .ref m21, .int (iI md), .int (iI al), .ref m24, .ref m25, .ref m26, .ref m27, .ref m28, .ref m29, .int (iI sd)])), (m29, .inl (gI G, 1920, .inl (fun j : Nat => iI (sg (j : Int)))))] H := by rw [hH]; exact hP
  suffices hgo : W p l e (rz 0 0) s m [.ref m0, .int (iI r), .int (iI c9)].toArray below meth c H locs 0 0 Q (F0 m 0 ls []) by rw [hH, hlocs] at hgo; exact hgo
  have hiX11 : ∀ w ∈ wsX110, w ∈ wsX11_screen := by decide +kernel
  have hw0 := hts (Cond.fieldLink RX11 75 "PlainCobolModel" "fault" "I") (List.mem_of_getElem? (i := 1) rfl)
  have hw1 := hts (Cond.fieldLink RX11 66 "PlainCobolModel" "signs" "[I") (List.mem_of_getElem? (i := 2) rfl)
  refine lv_aload_n hx hb dX11_screen_0 rfl (lv_at hl 0 rfl) ?_
  refine lv_iconst (v := iI (0)) hx hb dX11_screen_1 rfl ?_
  refine va_put (D := G.1) (ci := 12) (v := .int (iI 0)) (ty := .int) (C := RX11) (T := TX11) (N := 31) hx hb hts hiX11 tyX11 tyX11_ok nmX11 hown hK hP hD hS 0 rfl rfl 1 (by decide) hw0 (fun _ h9 => h9) rfl (by decide +kernel) rfl rfl (Nat.le_of_ble_eq_true rfl) dX11_screen_2 (fun H locs hP hD hS => ?_)
  have hP : va_P G.1 vwCl [(m0, .inr (12, [.int (iI lim), .int (iI 0), .int (iI rf), .int (iI mk), .ref m4, .ref m5, .ref m6, .int (iI nk), .ref m8, .ref m9, .ref m10, .int (iI st), .int (iI wn), .ref m13, .ref m14, .ref m15, .ref m16, .ref m17, .int (iI dn), .int (iI hd), .ref m20, .ref m21, .int (iI md), .int (iI al), .ref m24, .ref m25, .ref m26, .ref m27, .ref m28, .ref m29, .int (iI sd)])), (m29, .inl (gI G, 1920, .inl (fun j : Nat => iI (sg (j : Int)))))] H := hP
  have hD : va_D A [(m0, .inr (12, [.int (iI lim), .int (iI 0), .int (iI rf), .int (iI mk), .ref m4, .ref m5, .ref m6, .int (iI nk), .ref m8, .ref m9, .ref m10, .int (iI st), .int (iI wn), .ref m13, .ref m14, .ref m15, .ref m16, .ref m17, .int (iI dn), .int (iI hd), .ref m20, .ref m21, .int (iI md), .int (iI al), .ref m24, .ref m25, .ref m26, .ref m27, .ref m28, .ref m29, .int (iI sd)])), (m29, .inl (gI G, 1920, .inl (fun j : Nat => iI (sg (j : Int)))))] := hD
  refine lv_iload_n hx hb dX11_screen_5 rfl (lv_at hl 1 rfl) ?_
  refine lv_iconst (v := iI (1)) hx hb dX11_screen_6 rfl ?_
  refine z_icmp_lt (tgt := 27) hx hb dX11_screen_7 (by decide) (by omega) (fun c_1 => ?_) (fun c_1 => ?_)
  · skip
    refine lv_iconst (v := iI (-1)) hx hb dX11_screen_27 rfl ?_
    have r_2 : ((-1) : Int) = (aScr sg r c9) := by (unfold aScr; (repeat (first | rw [if_pos (by omega)] | rw [if_neg (by omega)])))
    rw [r_2]
    exact hret _ ls H locs dX11_screen_28 hP hD hS
  · skip
    refine lv_iload_n hx hb dX11_screen_10 rfl (lv_at hl 1 rfl) ?_
    refine lv_bipush (v := iI (24)) hx hb dX11_screen_11 (by decide) ?_
    refine z_icmp_gt (tgt := 27) hx hb dX11_screen_13 (by decide) (by omega) (fun c_3 => ?_) (fun c_3 => ?_)
    · skip
      refine lv_iconst (v := iI (-1)) hx hb dX11_screen_27 rfl ?_
      have r_4 : ((-1) : Int) = (aScr sg r c9) := by (unfold aScr; (repeat (first | rw [if_pos (by omega)] | rw [if_neg (by omega)])))
      rw [r_4]
      exact hret _ ls H locs dX11_screen_28 hP hD hS
    · skip
      refine lv_iload_n hx hb dX11_screen_16 rfl (lv_at hl 2 rfl) ?_
      refine lv_iconst (v := iI (1)) hx hb dX11_screen_17 rfl ?_
      refine z_icmp_lt (tgt := 27) hx hb dX11_screen_18 (by decide) (by omega) (fun c_5 => ?_) (fun c_5 => ?_)
      · skip
        refine lv_iconst (v := iI (-1)) hx hb dX11_screen_27 rfl ?_
        have r_6 : ((-1) : Int) = (aScr sg r c9) := by (unfold aScr; (repeat (first | rw [if_pos (by omega)] | rw [if_neg (by omega)])))
        rw [r_6]
        exact hret _ ls H locs dX11_screen_28 hP hD hS
      · skip
        refine lv_iload_n hx hb dX11_screen_21 rfl (lv_at hl 2 rfl) ?_
        refine lv_bipush (v := iI (80)) hx hb dX11_screen_22 (by decide) ?_
        refine z_icmp_le (tgt := 29) hx hb dX11_screen_24 (by decide) (by omega) (fun c_7 => ?_) (fun c_7 => ?_)
        · skip
          refine lv_aload_n hx hb dX11_screen_29 rfl (lv_at hl 0 rfl) ?_
          refine va_get (D := G.1) (ci := 12) (v := .ref m29) (C := RX11) (T := TX11) (N := 31) hx hb hts hiX11 hown hK hP 0 rfl rfl 29 (by decide) hw1 (fun _ h9 => h9) rfl dX11_screen_30 ?_
          refine lv_bipush (v := iI (80)) hx hb dX11_screen_33 (by decide) ?_
          refine lv_iload_n hx hb dX11_screen_35 rfl (lv_at hl 1 rfl) ?_
          refine lv_iconst (v := iI (1)) hx hb dX11_screen_36 rfl ?_
          refine z_isub hx hb dX11_screen_37 ?_
          refine z_imul hx hb dX11_screen_38 ?_
          refine lv_iload_n hx hb dX11_screen_39 rfl (lv_at hl 2 rfl) ?_
          refine z_iadd hx hb dX11_screen_40 ?_
          refine lv_iconst (v := iI (1)) hx hb dX11_screen_41 rfl ?_
          refine z_isub hx hb dX11_screen_42 ?_
          refine z_top (w := .int (iI (pix (r * 100 + c9)))) (congrArg _ (congrArg iI (by exact pix_rc (by omega) (by omega)))) ?_
          have hpx := pix_r (p := r * 100 + c9) (plc_mk (by omega) (by omega))
          have hsx := hsg _ hpx.1 hpx.2
          refine z_iald hx hb hK hP 1 0 rfl rfl (by omega) dX11_screen_43 ?_
          refine lv_istore_n (lv' := [(3, .int (iI (sg (pix (r * 100 + c9))))), (0, .ref m0), (1, .int (iI r)), (2, .int (iI c9))]) hx hb dX11_screen_44 rfl hl (by decide) rfl (fun ls hl => ?_)
          refine lv_iload_n hx hb dX11_screen_45 rfl (lv_at hl 0 rfl) ?_
          refine z_if_ne (tgt := 54) hx hb dX11_screen_46 (by decide) (by omega) (fun c_8 => ?_) (fun c_8 => ?_)
          · skip
            refine lv_iload_n hx hb dX11_screen_54 rfl (lv_at hl 0 rfl) ?_
            have r_9 : ((sg (pix (r * 100 + c9))) : Int) = (aScr sg r c9) := by (unfold aScr; (repeat (first | rw [if_pos (by omega)] | rw [if_neg (by omega)])))
            rw [r_9]
            exact hret _ ls H locs dX11_screen_55 hP hD hS
          · skip
            refine lv_bipush (v := iI (32)) hx hb dX11_screen_49 (by decide) ?_
            refine lv_goto (tgt := 55) hx hb dX11_screen_51 (by decide) ?_
            have r_10 : (32 : Int) = (aScr sg r c9) := by (unfold aScr; (repeat (first | rw [if_pos (by omega)] | rw [if_neg (by omega)])))
            rw [r_10]
            exact hret _ ls H locs dX11_screen_55 hP hD hS
        · skip
          refine lv_iconst (v := iI (-1)) hx hb dX11_screen_27 rfl ?_
          have r_11 : ((-1) : Int) = (aScr sg r c9) := by (unfold aScr; (repeat (first | rw [if_pos (by omega)] | rw [if_neg (by omega)])))
          rw [r_11]
          exact hret _ ls H locs dX11_screen_28 hP hD hS

set_option maxHeartbeats 4000000 in
set_option maxRecDepth 100000 in
theorem c_X11_refused (l : Launch) (G : Gx) (zz : Nat) (m0 m4 m5 m6 m8 m9 m10 m13 m14 m15 m16 m17 m20 m21 m24 m25 m26 m27 m28 m29 : Nat) (lim fa rf mk nk st wn dn hd md al sd : Int)  : Ci l yX11_refused wsX11_refused (rz 0 0) G [.ref m0] [(m0, .inr (12, [.int (iI lim), .int (iI fa), .int (iI rf), .int (iI mk), .ref m4, .ref m5, .ref m6, .int (iI nk), .ref m8, .ref m9, .ref m10, .int (iI st), .int (iI wn), .ref m13, .ref m14, .ref m15, .ref m16, .ref m17, .int (iI dn), .int (iI hd), .ref m20, .ref m21, .int (iI md), .int (iI al), .ref m24, .ref m25, .ref m26, .ref m27, .ref m28, .ref m29, .int (iI sd)]))] zz rf [(m0, .inr (12, [.int (iI lim), .int (iI 0), .int (iI rf), .int (iI mk), .ref m4, .ref m5, .ref m6, .int (iI nk), .ref m8, .ref m9, .ref m10, .int (iI st), .int (iI wn), .ref m13, .ref m14, .ref m15, .ref m16, .ref m17, .int (iI dn), .int (iI hd), .ref m20, .ref m21, .int (iI md), .int (iI al), .ref m24, .ref m25, .ref m26, .ref m27, .ref m28, .ref m29, .int (iI sd)]))] := by
  refine met_i (cc := cX11_refused) (maxL := 1) (ret := (some .int)) (by decide) rfl (Nat.le_of_ble_eq_true rfl) rfl rfl ⟨rfl, rfl⟩ ?_
  intro p e s m below meth c A Q F C hP hD hS hret ls hl
  obtain ⟨hx, hb, hml, hown, hts⟩ := id F
  obtain ⟨hK, hA, hZ, hT, hN⟩ := id C
  have hl : lv_has ls 1 [(0, .ref m0)] := hl
  obtain ⟨H, hH⟩ : ∃ H, H = s.heap := ⟨_, rfl⟩
  obtain ⟨locs, hlocs⟩ : ∃ l : List Loc, l = [] := ⟨_, rfl⟩
  have hS : va_S A s.heap H locs := by rw [hH, hlocs]; exact hS
  have hP : va_P G.1 vwCl [(m0, .inr (12, [.int (iI lim), .int (iI fa), .int (iI rf), .int (iI mk), .ref m4, .ref m5, .ref m6, .int (iI nk), .ref m8, .ref m9, .ref m10, .int (iI st), .int (iI wn), .ref m13, .ref m14, .ref m15, .ref m16, .ref m17, .int (iI dn), .int (iI hd), .ref m20, .ref m21, .int (iI md), .int (iI al), .ref m24, .ref m25, .ref m26, .ref m27, .ref m28, .ref m29, .int (iI sd)]))] H := by rw [hH]; exact hP
  suffices hgo : W p l e (rz 0 0) s m [.ref m0].toArray below meth c H locs 0 0 Q (F0 m 0 ls []) by rw [hH, hlocs] at hgo; exact hgo
  have hiX11 : ∀ w ∈ wsX110, w ∈ wsX11_refused := by decide +kernel
  have hw0 := hts (Cond.fieldLink RX11 75 "PlainCobolModel" "fault" "I") (List.mem_of_getElem? (i := 1) rfl)
  have hw1 := hts (Cond.fieldLink RX11 78 "PlainCobolModel" "refusals" "I") (List.mem_of_getElem? (i := 2) rfl)
  refine lv_aload_n hx hb dX11_refused_0 rfl (lv_at hl 0 rfl) ?_
  refine lv_iconst (v := iI (0)) hx hb dX11_refused_1 rfl ?_
  refine va_put (D := G.1) (ci := 12) (v := .int (iI 0)) (ty := .int) (C := RX11) (T := TX11) (N := 31) hx hb hts hiX11 tyX11 tyX11_ok nmX11 hown hK hP hD hS 0 rfl rfl 1 (by decide) hw0 (fun _ h9 => h9) rfl (by decide +kernel) rfl rfl (Nat.le_of_ble_eq_true rfl) dX11_refused_2 (fun H locs hP hD hS => ?_)
  have hP : va_P G.1 vwCl [(m0, .inr (12, [.int (iI lim), .int (iI 0), .int (iI rf), .int (iI mk), .ref m4, .ref m5, .ref m6, .int (iI nk), .ref m8, .ref m9, .ref m10, .int (iI st), .int (iI wn), .ref m13, .ref m14, .ref m15, .ref m16, .ref m17, .int (iI dn), .int (iI hd), .ref m20, .ref m21, .int (iI md), .int (iI al), .ref m24, .ref m25, .ref m26, .ref m27, .ref m28, .ref m29, .int (iI sd)]))] H := hP
  have hD : va_D A [(m0, .inr (12, [.int (iI lim), .int (iI 0), .int (iI rf), .int (iI mk), .ref m4, .ref m5, .ref m6, .int (iI nk), .ref m8, .ref m9, .ref m10, .int (iI st), .int (iI wn), .ref m13, .ref m14, .ref m15, .ref m16, .ref m17, .int (iI dn), .int (iI hd), .ref m20, .ref m21, .int (iI md), .int (iI al), .ref m24, .ref m25, .ref m26, .ref m27, .ref m28, .ref m29, .int (iI sd)]))] := hD
  refine lv_aload_n hx hb dX11_refused_5 rfl (lv_at hl 0 rfl) ?_
  refine va_get (D := G.1) (ci := 12) (v := .int (iI rf)) (C := RX11) (T := TX11) (N := 31) hx hb hts hiX11 hown hK hP 0 rfl rfl 2 (by decide) hw1 (fun _ h9 => h9) rfl dX11_refused_6 ?_
  exact hret _ ls H locs dX11_refused_9 hP hD hS

set_option maxHeartbeats 4000000 in
set_option maxRecDepth 100000 in
theorem c_X11_count (l : Launch) (G : Gx) (zz : Nat) (m0 m4 m5 m6 m8 m9 m10 m13 m14 m15 m16 m17 m20 m21 m24 m25 m26 m27 m28 m29 : Nat) (lim fa rf mk nk st wn dn hd md al sd : Int) (what : Int) (h1 : -2147483648 ≤ what ∧ what < 2147483648) : Ci l yX11_count wsX11_count (rz 0 0) G [.ref m0, .int (iI what)] [(m0, .inr (12, [.int (iI lim), .int (iI fa), .int (iI rf), .int (iI mk), .ref m4, .ref m5, .ref m6, .int (iI nk), .ref m8, .ref m9, .ref m10, .int (iI st), .int (iI wn), .ref m13, .ref m14, .ref m15, .ref m16, .ref m17, .int (iI dn), .int (iI hd), .ref m20, .ref m21, .int (iI md), .int (iI al), .ref m24, .ref m25, .ref m26, .ref m27, .ref m28, .ref m29, .int (iI sd)]))] zz (aCnt mk nk dn hd al st what) [(m0, .inr (12, [.int (iI lim), .int (iI 0), .int (iI rf), .int (iI mk), .ref m4, .ref m5, .ref m6, .int (iI nk), .ref m8, .ref m9, .ref m10, .int (iI st), .int (iI wn), .ref m13, .ref m14, .ref m15, .ref m16, .ref m17, .int (iI dn), .int (iI hd), .ref m20, .ref m21, .int (iI md), .int (iI al), .ref m24, .ref m25, .ref m26, .ref m27, .ref m28, .ref m29, .int (iI sd)]))] := by
  refine met_i (cc := cX11_count) (maxL := 2) (ret := (some .int)) (by decide) rfl (Nat.le_of_ble_eq_true rfl) rfl rfl ⟨rfl, rfl⟩ ?_
  intro p e s m below meth c A Q F C hP hD hS hret ls hl
  obtain ⟨hx, hb, hml, hown, hts⟩ := id F
  obtain ⟨hK, hA, hZ, hT, hN⟩ := id C
  have hl : lv_has ls 2 [(0, .ref m0), (1, .int (iI what))] := hl
  obtain ⟨H, hH⟩ : ∃ H, H = s.heap := ⟨_, rfl⟩
  obtain ⟨locs, hlocs⟩ : ∃ l : List Loc, l = [] := ⟨_, rfl⟩
  have hS : va_S A s.heap H locs := by rw [hH, hlocs]; exact hS
  have hP : va_P G.1 vwCl [(m0, .inr (12, [.int (iI lim), .int (iI fa), .int (iI rf), .int (iI mk), .ref m4, .ref m5, .ref m6, .int (iI nk), .ref m8, .ref m9, .ref m10, .int (iI st), .int (iI wn), .ref m13, .ref m14, .ref m15, .ref m16, .ref m17, .int (iI dn), .int (iI hd), .ref m20, .ref m21, .int (iI md), .int (iI al), .ref m24, .ref m25, .ref m26, .ref m27, .ref m28, .ref m29, .int (iI sd)]))] H := by rw [hH]; exact hP
  suffices hgo : W p l e (rz 0 0) s m [.ref m0, .int (iI what)].toArray below meth c H locs 0 0 Q (F0 m 0 ls []) by rw [hH, hlocs] at hgo; exact hgo
  have hiX11 : ∀ w ∈ wsX110, w ∈ wsX11_count := by decide +kernel
  have hw0 := hts (Cond.fieldLink RX11 75 "PlainCobolModel" "fault" "I") (List.mem_of_getElem? (i := 1) rfl)
  have hw1 := hts (Cond.fieldLink RX11 114 "PlainCobolModel" "steps" "I") (List.mem_of_getElem? (i := 7) rfl)
  have hw2 := hts (Cond.fieldLink RX11 184 "PlainCobolModel" "alive" "I") (List.mem_of_getElem? (i := 6) rfl)
  have hw3 := hts (Cond.fieldLink RX11 178 "PlainCobolModel" "records" "I") (List.mem_of_getElem? (i := 5) rfl)
  have hw4 := hts (Cond.fieldLink RX11 148 "PlainCobolModel" "done" "I") (List.mem_of_getElem? (i := 4) rfl)
  have hw5 := hts (Cond.fieldLink RX11 86 "PlainCobolModel" "nodes" "I") (List.mem_of_getElem? (i := 3) rfl)
  have hw6 := hts (Cond.fieldLink RX11 83 "PlainCobolModel" "cells" "I") (List.mem_of_getElem? (i := 2) rfl)
  refine lv_aload_n hx hb dX11_count_0 rfl (lv_at hl 0 rfl) ?_
  refine lv_iconst (v := iI (0)) hx hb dX11_count_1 rfl ?_
  refine va_put (D := G.1) (ci := 12) (v := .int (iI 0)) (ty := .int) (C := RX11) (T := TX11) (N := 31) hx hb hts hiX11 tyX11 tyX11_ok nmX11 hown hK hP hD hS 0 rfl rfl 1 (by decide) hw0 (fun _ h9 => h9) rfl (by decide +kernel) rfl rfl (Nat.le_of_ble_eq_true rfl) dX11_count_2 (fun H locs hP hD hS => ?_)
  have hP : va_P G.1 vwCl [(m0, .inr (12, [.int (iI lim), .int (iI 0), .int (iI rf), .int (iI mk), .ref m4, .ref m5, .ref m6, .int (iI nk), .ref m8, .ref m9, .ref m10, .int (iI st), .int (iI wn), .ref m13, .ref m14, .ref m15, .ref m16, .ref m17, .int (iI dn), .int (iI hd), .ref m20, .ref m21, .int (iI md), .int (iI al), .ref m24, .ref m25, .ref m26, .ref m27, .ref m28, .ref m29, .int (iI sd)]))] H := hP
  have hD : va_D A [(m0, .inr (12, [.int (iI lim), .int (iI 0), .int (iI rf), .int (iI mk), .ref m4, .ref m5, .ref m6, .int (iI nk), .ref m8, .ref m9, .ref m10, .int (iI st), .int (iI wn), .ref m13, .ref m14, .ref m15, .ref m16, .ref m17, .int (iI dn), .int (iI hd), .ref m20, .ref m21, .int (iI md), .int (iI al), .ref m24, .ref m25, .ref m26, .ref m27, .ref m28, .ref m29, .int (iI sd)]))] := hD
  refine lv_iload_n hx hb dX11_count_5 rfl (lv_at hl 1 rfl) ?_
  refine z_if_ne (tgt := 16) hx hb dX11_count_6 (by decide) (by omega) (fun c_1 => ?_) (fun c_1 => ?_)
  · skip
    refine lv_iload_n hx hb dX11_count_16 rfl (lv_at hl 1 rfl) ?_
    refine lv_iconst (v := iI (1)) hx hb dX11_count_17 rfl ?_
    refine z_icmp_ne (tgt := 28) hx hb dX11_count_18 (by decide) (by omega) (fun c_2 => ?_) (fun c_2 => ?_)
    · skip
      refine lv_iload_n hx hb dX11_count_28 rfl (lv_at hl 1 rfl) ?_
      refine lv_iconst (v := iI (2)) hx hb dX11_count_29 rfl ?_
      refine z_icmp_ne (tgt := 40) hx hb dX11_count_30 (by decide) (by omega) (fun c_3 => ?_) (fun c_3 => ?_)
      · skip
        refine lv_iload_n hx hb dX11_count_40 rfl (lv_at hl 1 rfl) ?_
        refine lv_iconst (v := iI (3)) hx hb dX11_count_41 rfl ?_
        refine z_icmp_ne (tgt := 52) hx hb dX11_count_42 (by decide) (by omega) (fun c_4 => ?_) (fun c_4 => ?_)
        · skip
          refine lv_iload_n hx hb dX11_count_52 rfl (lv_at hl 1 rfl) ?_
          refine lv_iconst (v := iI (4)) hx hb dX11_count_53 rfl ?_
          refine z_icmp_ne (tgt := 64) hx hb dX11_count_54 (by decide) (by omega) (fun c_5 => ?_) (fun c_5 => ?_)
          · skip
            refine lv_iload_n hx hb dX11_count_64 rfl (lv_at hl 1 rfl) ?_
            refine lv_iconst (v := iI (5)) hx hb dX11_count_65 rfl ?_
            refine z_icmp_ne (tgt := 76) hx hb dX11_count_66 (by decide) (by omega) (fun c_6 => ?_) (fun c_6 => ?_)
            · skip
              refine lv_iconst (v := iI (-1)) hx hb dX11_count_76 rfl ?_
              have r_7 : ((-1) : Int) = (aCnt mk nk dn hd al st what) := by (unfold aCnt; (repeat (first | rw [if_pos (by omega)] | rw [if_neg (by omega)])))
              rw [r_7]
              exact hret _ ls H locs dX11_count_77 hP hD hS
            · skip
              refine lv_aload_n hx hb dX11_count_69 rfl (lv_at hl 0 rfl) ?_
              refine va_get (D := G.1) (ci := 12) (v := .int (iI st)) (C := RX11) (T := TX11) (N := 31) hx hb hts hiX11 hown hK hP 0 rfl rfl 11 (by decide) hw1 (fun _ h9 => h9) rfl dX11_count_70 ?_
              refine lv_goto (tgt := 77) hx hb dX11_count_73 (by decide) ?_
              have r_8 : (st : Int) = (aCnt mk nk dn hd al st what) := by (unfold aCnt; (repeat (first | rw [if_pos (by omega)] | rw [if_neg (by omega)])))
              rw [r_8]
              exact hret _ ls H locs dX11_count_77 hP hD hS
          · skip
            refine lv_aload_n hx hb dX11_count_57 rfl (lv_at hl 0 rfl) ?_
            refine va_get (D := G.1) (ci := 12) (v := .int (iI al)) (C := RX11) (T := TX11) (N := 31) hx hb hts hiX11 hown hK hP 0 rfl rfl 23 (by decide) hw2 (fun _ h9 => h9) rfl dX11_count_58 ?_
            refine lv_goto (tgt := 77) hx hb dX11_count_61 (by decide) ?_
            have r_9 : (al : Int) = (aCnt mk nk dn hd al st what) := by (unfold aCnt; (repeat (first | rw [if_pos (by omega)] | rw [if_neg (by omega)])))
            rw [r_9]
            exact hret _ ls H locs dX11_count_77 hP hD hS
        · skip
          refine lv_aload_n hx hb dX11_count_45 rfl (lv_at hl 0 rfl) ?_
          refine va_get (D := G.1) (ci := 12) (v := .int (iI hd)) (C := RX11) (T := TX11) (N := 31) hx hb hts hiX11 hown hK hP 0 rfl rfl 19 (by decide) hw3 (fun _ h9 => h9) rfl dX11_count_46 ?_
          refine lv_goto (tgt := 77) hx hb dX11_count_49 (by decide) ?_
          have r_10 : (hd : Int) = (aCnt mk nk dn hd al st what) := by (unfold aCnt; (repeat (first | rw [if_pos (by omega)] | rw [if_neg (by omega)])))
          rw [r_10]
          exact hret _ ls H locs dX11_count_77 hP hD hS
      · skip
        refine lv_aload_n hx hb dX11_count_33 rfl (lv_at hl 0 rfl) ?_
        refine va_get (D := G.1) (ci := 12) (v := .int (iI dn)) (C := RX11) (T := TX11) (N := 31) hx hb hts hiX11 hown hK hP 0 rfl rfl 18 (by decide) hw4 (fun _ h9 => h9) rfl dX11_count_34 ?_
        refine lv_goto (tgt := 77) hx hb dX11_count_37 (by decide) ?_
        have r_11 : (dn : Int) = (aCnt mk nk dn hd al st what) := by (unfold aCnt; (repeat (first | rw [if_pos (by omega)] | rw [if_neg (by omega)])))
        rw [r_11]
        exact hret _ ls H locs dX11_count_77 hP hD hS
    · skip
      refine lv_aload_n hx hb dX11_count_21 rfl (lv_at hl 0 rfl) ?_
      refine va_get (D := G.1) (ci := 12) (v := .int (iI nk)) (C := RX11) (T := TX11) (N := 31) hx hb hts hiX11 hown hK hP 0 rfl rfl 7 (by decide) hw5 (fun _ h9 => h9) rfl dX11_count_22 ?_
      refine lv_goto (tgt := 77) hx hb dX11_count_25 (by decide) ?_
      have r_12 : (nk : Int) = (aCnt mk nk dn hd al st what) := by (unfold aCnt; (repeat (first | rw [if_pos (by omega)] | rw [if_neg (by omega)])))
      rw [r_12]
      exact hret _ ls H locs dX11_count_77 hP hD hS
  · skip
    refine lv_aload_n hx hb dX11_count_9 rfl (lv_at hl 0 rfl) ?_
    refine va_get (D := G.1) (ci := 12) (v := .int (iI mk)) (C := RX11) (T := TX11) (N := 31) hx hb hts hiX11 hown hK hP 0 rfl rfl 3 (by decide) hw6 (fun _ h9 => h9) rfl dX11_count_10 ?_
    refine lv_goto (tgt := 77) hx hb dX11_count_13 (by decide) ?_
    have r_13 : (mk : Int) = (aCnt mk nk dn hd al st what) := by (unfold aCnt; (repeat (first | rw [if_pos (by omega)] | rw [if_neg (by omega)])))
    rw [r_13]
    exact hret _ ls H locs dX11_count_77 hP hD hS

