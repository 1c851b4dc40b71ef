set_option maxHeartbeats 4000000 in
set_option maxRecDepth 100000 in
theorem c_X11_step (l : Launch) (G : Gx) (zz : Nat) (m0 m4 m5 m6 m8 m9 m10 m13 m14 m15 m16 m17 m20 m21 m24 m25 m26 m27 m28 m29 : Nat) (lim fa rf mk nk st wn dn hd md al sd : Int) (hls : 0 ≤ st ∧ st ≤ lim ∧ lim ≤ 5000) : Ci l yX11_step wsX11_step (rz 0 0) G [.ref m0] [(m0, .inr (12, [.int (iI lim), .int (iI fa), .int (iI rf), .int (iI mk), .ref m4, .ref m5, .ref m6, .int (iI nk), .ref m8, .ref m9, .ref m10, .int (iI st), .int (iI wn), .ref m13, .ref m14, .ref m15, .ref m16, .ref m17, .int (iI dn), .int (iI hd), .ref m20, .ref m21, .int (iI md), .int (iI al), .ref m24, .ref m25, .ref m26, .ref m27, .ref m28, .ref m29, .int (iI sd)]))] zz (if st < lim then 1 else 0) [(m0, .inr (12, [.int (iI lim), .int (iI fa), .int (iI rf), .int (iI mk), .ref m4, .ref m5, .ref m6, .int (iI nk), .ref m8, .ref m9, .ref m10, .int (iI (addN lim st)), .int (iI wn), .ref m13, .ref m14, .ref m15, .ref m16, .ref m17, .int (iI dn), .int (iI hd), .ref m20, .ref m21, .int (iI md), .int (iI al), .ref m24, .ref m25, .ref m26, .ref m27, .ref m28, .ref m29, .int (iI sd)]))] := by
  refine met_i (cc := cX11_step) (maxL := 1) (ret := (some .boolean)) (by decide) rfl (Nat.le_of_ble_eq_true rfl) rfl (by (repeat (any_goals split)) <;> decide) ⟨rfl, rfl⟩ ?_
  intro p e s m below meth c A Q F C hP hD hS hret ls hl
  obtain ⟨hx, hb, hml, hown, hts⟩ := id F
  obtain ⟨hK, hA, hZ, hT, hN⟩ := id C
  have hl : lv_has ls 1 [(0, .ref m0)] := hl
  obtain ⟨H, hH⟩ : ∃ H, H = s.heap := ⟨_, rfl⟩
  obtain ⟨locs, hlocs⟩ : ∃ l : List Loc, l = [] := ⟨_, rfl⟩
  have hS : va_S A s.heap H locs := by rw [hH, hlocs]; exact hS
  have hP : va_P G.1 vwCl [(m0, .inr (12, [.int (iI lim), .int (iI fa), .int (iI rf), .int (iI mk), .ref m4, .ref m5, .ref m6, .int (iI nk), .ref m8, .ref m9, .ref m10, .int (iI st), .int (iI wn), .ref m13, .ref m14, .ref m15, .ref m16, .ref m17, .int (iI dn), .int (iI hd), .ref m20, .ref m21, .int (iI md), .int (iI al), .ref m24, .ref m25, .ref m26, .ref m27, .ref m28, .ref m29, .int (iI sd)]))] H := by rw [hH]; exact hP
  suffices hgo : W p l e (rz 0 0) s m [.ref m0].toArray below meth c H locs 0 0 Q (F0 m 0 ls []) by rw [hH, hlocs] at hgo; exact hgo
  have hiX11 : ∀ w ∈ wsX110, w ∈ wsX11_step := by decide +kernel
  have hw0 := hts (Cond.fieldLink RX11 114 "PlainCobolModel" "steps" "I") (List.mem_of_getElem? (i := 1) rfl)
  have hw1 := hts (Cond.fieldLink RX11 71 "PlainCobolModel" "most" "I") (List.mem_of_getElem? (i := 2) rfl)
  refine lv_aload_n hx hb dX11_step_0 rfl (lv_at hl 0 rfl) ?_
  refine va_get (D := G.1) (ci := 12) (v := .int (iI st)) (C := RX11) (T := TX11) (N := 31) hx hb hts hiX11 hown hK hP 0 rfl rfl 11 (by decide) hw0 (fun _ h9 => h9) rfl dX11_step_1 ?_
  refine lv_aload_n hx hb dX11_step_4 rfl (lv_at hl 0 rfl) ?_
  refine va_get (D := G.1) (ci := 12) (v := .int (iI lim)) (C := RX11) (T := TX11) (N := 31) hx hb hts hiX11 hown hK hP 0 rfl rfl 0 (by decide) hw1 (fun _ h9 => h9) rfl dX11_step_5 ?_
  refine z_icmp_ne (tgt := 13) hx hb dX11_step_8 (by decide) (by omega) (fun c_1 => ?_) (fun c_1 => ?_)
  · skip
    refine lv_aload_n hx hb dX11_step_13 rfl (lv_at hl 0 rfl) ?_
    refine lv_dup hx hb dX11_step_14 rfl ?_
    refine va_get (D := G.1) (ci := 12) (v := .int (iI st)) (C := RX11) (T := TX11) (N := 31) hx hb hts hiX11 hown hK hP 0 rfl rfl 11 (by decide) hw0 (fun _ h9 => h9) rfl dX11_step_15 ?_
    refine lv_iconst (v := iI (1)) hx hb dX11_step_18 rfl ?_
    refine z_iadd hx hb dX11_step_19 ?_
    refine va_put (D := G.1) (ci := 12) (v := .int (iI (st + 1))) (ty := .int) (C := RX11) (T := TX11) (N := 31) hx hb hts hiX11 tyX11 tyX11_ok nmX11 hown hK hP hD hS 0 rfl rfl 11 (by decide) hw0 (fun _ h9 => h9) rfl (by decide +kernel) rfl rfl (Nat.le_of_ble_eq_true rfl) dX11_step_20 (fun H locs hP hD hS => ?_)
    have hP : va_P G.1 vwCl [(m0, .inr (12, [.int (iI lim), .int (iI fa), .int (iI rf), .int (iI mk), .ref m4, .ref m5, .ref m6, .int (iI nk), .ref m8, .ref m9, .ref m10, .int (iI (st + 1)), .int (iI wn), .ref m13, .ref m14, .ref m15, .ref m16, .ref m17, .int (iI dn), .int (iI hd), .ref m20, .ref m21, .int (iI md), .int (iI al), .ref m24, .ref m25, .ref m26, .ref m27, .ref m28, .ref m29, .int (iI sd)]))] H := hP
    have hD : va_D A [(m0, .inr (12, [.int (iI lim), .int (iI fa), .int (iI rf), .int (iI mk), .ref m4, .ref m5, .ref m6, .int (iI nk), .ref m8, .ref m9, .ref m10, .int (iI (st + 1)), .int (iI wn), .ref m13, .ref m14, .ref m15, .ref m16, .ref m17, .int (iI dn), .int (iI hd), .ref m20, .ref m21, .int (iI md), .int (iI al), .ref m24, .ref m25, .ref m26, .ref m27, .ref m28, .ref m29, .int (iI sd)]))] := hD
    refine lv_iconst (v := iI (1)) hx hb dX11_step_23 rfl ?_
    have e_2 : ((st + 1) : Int) = (addN lim st) := by ((try simp only [addN]); first | exact (if_pos (by omega)).symm | exact (if_neg (by omega)).symm)
    have hP : va_P G.1 vwCl [(m0, .inr (12, [.int (iI lim), .int (iI fa), .int (iI rf), .int (iI mk), .ref m4, .ref m5, .ref m6, .int (iI nk), .ref m8, .ref m9, .ref m10, .int (iI (addN lim st)), .int (iI wn), .ref m13, .ref m14, .ref m15, .ref m16, .ref m17, .int (iI dn), .int (iI hd), .ref m20, .ref m21, .int (iI md), .int (iI al), .ref m24, .ref m25, .ref m26, .ref m27, .ref m28, .ref m29, .int (iI sd)]))] H := by rw [← e_2]; exact hP
    have hD : va_D A [(m0, .inr (12, [.int (iI lim), .int (iI fa), .int (iI rf), .int (iI mk), .ref m4, .ref m5, .ref m6, .int (iI nk), .ref m8, .ref m9, .ref m10, .int (iI (addN lim st)), .int (iI wn), .ref m13, .ref m14, .ref m15, .ref m16, .ref m17, .int (iI dn), .int (iI hd), .ref m20, .ref m21, .int (iI md), .int (iI al), .ref m24, .ref m25, .ref m26, .ref m27, .ref m28, .ref m29, .int (iI sd)]))] := by rw [← e_2]; exact hD
    have r_3 : (1 : Int) = (if st < lim then 1 else 0) := by ((try simp only [addN]); first | exact (if_pos (by omega)).symm | exact (if_neg (by omega)).symm)
    rw [r_3]
    exact hret _ ls H locs dX11_step_24 hP hD hS
  · skip
    refine lv_iconst (v := iI (0)) hx hb dX11_step_11 rfl ?_
    have e_4 : (st : Int) = (addN lim st) := by ((try simp only [addN]); first | exact (if_pos (by omega)).symm | exact (if_neg (by omega)).symm)
    have hP : va_P G.1 vwCl [(m0, .inr (12, [.int (iI lim), .int (iI fa), .int (iI rf), .int (iI mk), .ref m4, .ref m5, .ref m6, .int (iI nk), .ref m8, .ref m9, .ref m10, .int (iI (addN lim st)), .int (iI wn), .ref m13, .ref m14, .ref m15, .ref m16, .ref m17, .int (iI dn), .int (iI hd), .ref m20, .ref m21, .int (iI md), .int (iI al), .ref m24, .ref m25, .ref m26, .ref m27, .ref m28, .ref m29, .int (iI sd)]))] H := by rw [← e_4]; exact hP
    have hD : va_D A [(m0, .inr (12, [.int (iI lim), .int (iI fa), .int (iI rf), .int (iI mk), .ref m4, .ref m5, .ref m6, .int (iI nk), .ref m8, .ref m9, .ref m10, .int (iI (addN lim st)), .int (iI wn), .ref m13, .ref m14, .ref m15, .ref m16, .ref m17, .int (iI dn), .int (iI hd), .ref m20, .ref m21, .int (iI md), .int (iI al), .ref m24, .ref m25, .ref m26, .ref m27, .ref m28, .ref m29, .int (iI sd)]))] := by rw [← e_4]; exact hD
    have r_5 : (0 : Int) = (if st < lim then 1 else 0) := by ((try simp only [addN]); first | exact (if_pos (by omega)).symm | exact (if_neg (by omega)).symm)
    rw [r_5]
    exact hret _ ls H locs dX11_step_12 hP hD hS

set_option maxHeartbeats 4000000 in
set_option maxRecDepth 100000 in
theorem c_X11_push (l : Launch) (G : Gx) (zz : Nat) (m0 m4 m5 m6 m8 m9 m10 m13 m14 m15 m16 m17 m20 m21 m24 m25 m26 m27 m28 m29 : Nat) (lim fa rf mk nk st wn dn hd md al sd : Int) (pi : Int → Int) (x : Int) (h1 : 0 ≤ wn ∧ wn < 900) : Cv l yX11_push wsX11_push (rz 0 0) G [.ref m0, .int (iI x)] [(m0, .inr (12, [.int (iI lim), .int (iI fa), .int (iI rf), .int (iI mk), .ref m4, .ref m5, .ref m6, .int (iI nk), .ref m8, .ref m9, .ref m10, .int (iI st), .int (iI wn), .ref m13, .ref m14, .ref m15, .ref m16, .ref m17, .int (iI dn), .int (iI hd), .ref m20, .ref m21, .int (iI md), .int (iI al), .ref m24, .ref m25, .ref m26, .ref m27, .ref m28, .ref m29, .int (iI sd)])), (m13, .inl (gI G, 900, .inl (fun j : Nat => iI (pi (j : Int)))))] zz [(m0, .inr (12, [.int (iI lim), .int (iI fa), .int (iI rf), .int (iI mk), .ref m4, .ref m5, .ref m6, .int (iI nk), .ref m8, .ref m9, .ref m10, .int (iI st), .int (iI (wn + 1)), .ref m13, .ref m14, .ref m15, .ref m16, .ref m17, .int (iI dn), .int (iI hd), .ref m20, .ref m21, .int (iI md), .int (iI al), .ref m24, .ref m25, .ref m26, .ref m27, .ref m28, .ref m29, .int (iI sd)])), (m13, .inl (gI G, 900, .inl (fun j : Nat => iI ((uF pi wn x) (j : Int)))))] := by
  refine met_v (cc := cX11_push) (maxL := 2) (by decide) rfl (Nat.le_of_ble_eq_true rfl) ⟨rfl, rfl⟩ ?_
  intro p e s m below meth c A Q F C hP hD hS hret ls hl
  obtain ⟨hx, hb, hml, hown, hts⟩ := id F
  obtain ⟨hK, hA, hZ, hT, hN⟩ := id C
  have hl : lv_has ls 2 [(0, .ref m0), (1, .int (iI x))] := hl
  obtain ⟨H, hH⟩ : ∃ H, H = s.heap := ⟨_, rfl⟩
  obtain ⟨locs, hlocs⟩ : ∃ l : List Loc, l = [] := ⟨_, rfl⟩
  have hS : va_S A s.heap H locs := by rw [hH, hlocs]; exact hS
  have hP : va_P G.1 vwCl [(m0, .inr (12, [.int (iI lim), .int (iI fa), .int (iI rf), .int (iI mk), .ref m4, .ref m5, .ref m6, .int (iI nk), .ref m8, .ref m9, .ref m10, .int (iI st), .int (iI wn), .ref m13, .ref m14, .ref m15, .ref m16, .ref m17, .int (iI dn), .int (iI hd), .ref m20, .ref m21, .int (iI md), .int (iI al), .ref m24, .ref m25, .ref m26, .ref m27, .ref m28, .ref m29, .int (iI sd)])), (m13, .inl (gI G, 900, .inl (fun j : Nat => iI (pi (j : Int)))))] H := by rw [hH]; exact hP
  suffices hgo : W p l e (rz 0 0) s m [.ref m0, .int (iI x)].toArray below meth c H locs 0 0 Q (F0 m 0 ls []) by rw [hH, hlocs] at hgo; exact hgo
  have hiX11 : ∀ w ∈ wsX110, w ∈ wsX11_push := by decide +kernel
  have hw0 := hts (Cond.fieldLink RX11 29 "PlainCobolModel" "pile" "[I") (List.mem_of_getElem? (i := 1) rfl)
  have hw1 := hts (Cond.fieldLink RX11 117 "PlainCobolModel" "waiting" "I") (List.mem_of_getElem? (i := 2) rfl)
  refine lv_aload_n hx hb dX11_push_0 rfl (lv_at hl 0 rfl) ?_
  refine va_get (D := G.1) (ci := 12) (v := .ref m13) (C := RX11) (T := TX11) (N := 31) hx hb hts hiX11 hown hK hP 0 rfl rfl 13 (by decide) hw0 (fun _ h9 => h9) rfl dX11_push_1 ?_
  refine lv_aload_n hx hb dX11_push_4 rfl (lv_at hl 0 rfl) ?_
  refine va_get (D := G.1) (ci := 12) (v := .int (iI wn)) (C := RX11) (T := TX11) (N := 31) hx hb hts hiX11 hown hK hP 0 rfl rfl 12 (by decide) hw1 (fun _ h9 => h9) rfl dX11_push_5 ?_
  refine lv_iload_n hx hb dX11_push_8 rfl (lv_at hl 1 rfl) ?_
  refine z_iast hx hb hK hP hD hS 1 0 rfl rfl (by omega) dX11_push_9 (fun H locs hP hD hS => ?_)
  have hP : va_P G.1 vwCl [(m0, .inr (12, [.int (iI lim), .int (iI fa), .int (iI rf), .int (iI mk), .ref m4, .ref m5, .ref m6, .int (iI nk), .ref m8, .ref m9, .ref m10, .int (iI st), .int (iI wn), .ref m13, .ref m14, .ref m15, .ref m16, .ref m17, .int (iI dn), .int (iI hd), .ref m20, .ref m21, .int (iI md), .int (iI al), .ref m24, .ref m25, .ref m26, .ref m27, .ref m28, .ref m29, .int (iI sd)])), (m13, .inl (gI G, 900, .inl (fun j : Nat => iI ((uF pi wn x) (j : Int)))))] H := hP
  have hD : va_D A [(m0, .inr (12, [.int (iI lim), .int (iI fa), .int (iI rf), .int (iI mk), .ref m4, .ref m5, .ref m6, .int (iI nk), .ref m8, .ref m9, .ref m10, .int (iI st), .int (iI wn), .ref m13, .ref m14, .ref m15, .ref m16, .ref m17, .int (iI dn), .int (iI hd), .ref m20, .ref m21, .int (iI md), .int (iI al), .ref m24, .ref m25, .ref m26, .ref m27, .ref m28, .ref m29, .int (iI sd)])), (m13, .inl (gI G, 900, .inl (fun j : Nat => iI ((uF pi wn x) (j : Int)))))] := hD
  refine lv_aload_n hx hb dX11_push_10 rfl (lv_at hl 0 rfl) ?_
  refine lv_dup hx hb dX11_push_11 rfl ?_
  refine va_get (D := G.1) (ci := 12) (v := .int (iI wn)) (C := RX11) (T := TX11) (N := 31) hx hb hts hiX11 hown hK hP 0 rfl rfl 12 (by decide) hw1 (fun _ h9 => h9) rfl dX11_push_12 ?_
  refine lv_iconst (v := iI (1)) hx hb dX11_push_15 rfl ?_
  refine z_iadd hx hb dX11_push_16 ?_
  refine va_put (D := G.1) (ci := 12) (v := .int (iI (wn + 1))) (ty := .int) (C := RX11) (T := TX11) (N := 31) hx hb hts hiX11 tyX11 tyX11_ok nmX11 hown hK hP hD hS 0 rfl rfl 12 (by decide) hw1 (fun _ h9 => h9) rfl (by decide +kernel) rfl rfl (Nat.le_of_ble_eq_true rfl) dX11_push_17 (fun H locs hP hD hS => ?_)
  have hP : va_P G.1 vwCl [(m0, .inr (12, [.int (iI lim), .int (iI fa), .int (iI rf), .int (iI mk), .ref m4, .ref m5, .ref m6, .int (iI nk), .ref m8, .ref m9, .ref m10, .int (iI st), .int (iI (wn + 1)), .ref m13, .ref m14, .ref m15, .ref m16, .ref m17, .int (iI dn), .int (iI hd), .ref m20, .ref m21, .int (iI md), .int (iI al), .ref m24, .ref m25, .ref m26, .ref m27, .ref m28, .ref m29, .int (iI sd)])), (m13, .inl (gI G, 900, .inl (fun j : Nat => iI ((uF pi wn x) (j : Int)))))] H := hP
  have hD : va_D A [(m0, .inr (12, [.int (iI lim), .int (iI fa), .int (iI rf), .int (iI mk), .ref m4, .ref m5, .ref m6, .int (iI nk), .ref m8, .ref m9, .ref m10, .int (iI st), .int (iI (wn + 1)), .ref m13, .ref m14, .ref m15, .ref m16, .ref m17, .int (iI dn), .int (iI hd), .ref m20, .ref m21, .int (iI md), .int (iI al), .ref m24, .ref m25, .ref m26, .ref m27, .ref m28, .ref m29, .int (iI sd)])), (m13, .inl (gI G, 900, .inl (fun j : Nat => iI ((uF pi wn x) (j : Int)))))] := hD
  exact hret _ ls H locs dX11_push_20 hP hD hS

set_option maxHeartbeats 4000000 in
set_option maxRecDepth 100000 in
theorem c_X11_hold (l : Launch) (G : Gx) (zz : Nat) (m0 m4 m5 m6 m8 m9 m10 m13 m14 m15 m16 m17 m20 m21 m24 m25 m26 m27 m28 m29 : Nat) (lim fa rf mk nk st wn dn hd md al sd : Int) (ho ds wh wa : Int → Int) (kd x v : Int) (h0 : 0 ≤ ho 0 ∧ ho 0 ≤ 1000) : Ci l yX11_hold wsX11_hold (rz 0 0) G [.ref m0, .int (iI kd), .long (lI x), .long (lI v)] [(m0, .inr (12, [.int (iI lim), .int (iI fa), .int (iI rf), .int (iI mk), .ref m4, .ref m5, .ref m6, .int (iI nk), .ref m8, .ref m9, .ref m10, .int (iI st), .int (iI wn), .ref m13, .ref m14, .ref m15, .ref m16, .ref m17, .int (iI dn), .int (iI hd), .ref m20, .ref m21, .int (iI md), .int (iI al), .ref m24, .ref m25, .ref m26, .ref m27, .ref m28, .ref m29, .int (iI sd)])), (m14, .inl (gI G, 9, .inl (fun j : Nat => iI (ho (j : Int))))), (m15, .inl (gI G, 1400, .inl (fun j : Nat => iI (ds (j : Int))))), (m16, .inl (gL G, 1400, .inr (.inl (fun j : Nat => lI (wh (j : Int)))))), (m17, .inl (gL G, 1400, .inr (.inl (fun j : Nat => lI (wa (j : Int))))))] zz (if ho 0 < 1000 then 1 else 0) [(m0, .inr (12, [.int (iI lim), .int (iI fa), .int (iI rf), .int (iI mk), .ref m4, .ref m5, .ref m6, .int (iI nk), .ref m8, .ref m9, .ref m10, .int (iI st), .int (iI wn), .ref m13, .ref m14, .ref m15, .ref m16, .ref m17, .int (iI dn), .int (iI hd), .ref m20, .ref m21, .int (iI md), .int (iI al), .ref m24, .ref m25, .ref m26, .ref m27, .ref m28, .ref m29, .int (iI sd)])), (m14, .inl (gI G, 9, .inl (fun j : Nat => iI ((uF ho 0 (addN 1000 (ho 0))) (j : Int))))), (m15, .inl (gI G, 1400, .inl (fun j : Nat => iI ((addF 1000 (ho 0) ds kd) (j : Int))))), (m16, .inl (gL G, 1400, .inr (.inl (fun j : Nat => lI ((addF 1000 (ho 0) wh x) (j : Int)))))), (m17, .inl (gL G, 1400, .inr (.inl (fun j : Nat => lI ((addF 1000 (ho 0) wa v) (j : Int))))))] := by
  refine met_i (cc := cX11_hold) (maxL := 6) (ret := (some .boolean)) (by decide) rfl (Nat.le_of_ble_eq_true rfl) rfl (by (repeat (any_goals split)) <;> decide) ⟨rfl, rfl⟩ ?_
  intro p e s m below meth c A Q F C hP hD hS hret ls hl
  obtain ⟨hx, hb, hml, hown, hts⟩ := id F
  obtain ⟨hK, hA, hZ, hT, hN⟩ := id C
  have hl : lv_has ls 6 [(0, .ref m0), (1, .int (iI kd)), (2, .long (lI x)), (4, .long (lI v))] := hl
  obtain ⟨H, hH⟩ : ∃ H, H = s.heap := ⟨_, rfl⟩
  obtain ⟨locs, hlocs⟩ : ∃ l : List Loc, l = [] := ⟨_, rfl⟩
  have hS : va_S A s.heap H locs := by rw [hH, hlocs]; exact hS
  have hP : va_P G.1 vwCl [(m0, .inr (12, [.int (iI lim), .int (iI fa), .int (iI rf), .int (iI mk), .ref m4, .ref m5, .ref m6, .int (iI nk), .ref m8, .ref m9, .ref m10, .int (iI st), .int (iI wn), .ref m13, .ref m14, .ref m15, .ref m16, .ref m17, .int (iI dn), .int (iI hd), .ref m20, .ref m21, .int (iI md), .int (iI al), .ref m24, .ref m25, .ref m26, .ref m27, .ref m28, .ref m29, .int (iI sd)])), (m14, .inl (gI G, 9, .inl (fun j : Nat => iI (ho (j : Int))))), (m15, .inl (gI G, 1400, .inl (fun j : Nat => iI (ds (j : Int))))), (m16, .inl (gL G, 1400, .inr (.inl (fun j : Nat => lI (wh (j : Int)))))), (m17, .inl (gL G, 1400, .inr (.inl (fun j : Nat => lI (wa (j : Int))))))] H := by rw [hH]; exact hP
  suffices hgo : W p l e (rz 0 0) s m [.ref m0, .int (iI kd), .long (lI x), .long (lI v)].toArray below meth c H locs 0 0 Q (F0 m 0 ls []) by rw [hH, hlocs] at hgo; exact hgo
  have hiX11 : ∀ w ∈ wsX110, w ∈ wsX11_hold := by decide +kernel
  have hw0 := hts (Cond.fieldLink RX11 32 "PlainCobolModel" "held" "[I") (List.mem_of_getElem? (i := 1) rfl)
  have hw1 := hts (Cond.fieldLink RX11 35 "PlainCobolModel" "does" "[I") (List.mem_of_getElem? (i := 2) rfl)
  have hw2 := hts (Cond.fieldLink RX11 38 "PlainCobolModel" "wheres" "[J") (List.mem_of_getElem? (i := 3) rfl)
  have hw3 := hts (Cond.fieldLink RX11 41 "PlainCobolModel" "whats" "[J") (List.mem_of_getElem? (i := 4) rfl)
  refine lv_aload_n hx hb dX11_hold_0 rfl (lv_at hl 0 rfl) ?_
  refine va_get (D := G.1) (ci := 12) (v := .ref m14) (C := RX11) (T := TX11) (N := 31) hx hb hts hiX11 hown hK hP 0 rfl rfl 14 (by decide) hw0 (fun _ h9 => h9) rfl dX11_hold_1 ?_
  refine lv_iconst (v := iI (0)) hx hb dX11_hold_4 rfl ?_
  refine z_iald hx hb hK hP 1 0 rfl rfl (by omega) dX11_hold_5 ?_
  refine lv_sipush (v := iI (1000)) hx hb dX11_hold_6 (by decide) ?_
  refine z_icmp_ne (tgt := 14) hx hb dX11_hold_9 (by decide) (by omega) (fun c_1 => ?_) (fun c_1 => ?_)
  · skip
    refine lv_aload_n hx hb dX11_hold_14 rfl (lv_at hl 0 rfl) ?_
    refine va_get (D := G.1) (ci := 12) (v := .ref m15) (C := RX11) (T := TX11) (N := 31) hx hb hts hiX11 hown hK hP 0 rfl rfl 15 (by decide) hw1 (fun _ h9 => h9) rfl dX11_hold_15 ?_
    refine lv_aload_n hx hb dX11_hold_18 rfl (lv_at hl 0 rfl) ?_
    refine va_get (D := G.1) (ci := 12) (v := .ref m14) (C := RX11) (T := TX11) (N := 31) hx hb hts hiX11 hown hK hP 0 rfl rfl 14 (by decide) hw0 (fun _ h9 => h9) rfl dX11_hold_19 ?_
    refine lv_iconst (v := iI (0)) hx hb dX11_hold_22 rfl ?_
    refine z_iald hx hb hK hP 1 0 rfl rfl (by omega) dX11_hold_23 ?_
    refine lv_iload_n hx hb dX11_hold_24 rfl (lv_at hl 1 rfl) ?_
    refine z_iast hx hb hK hP hD hS 2 0 rfl rfl (by omega) dX11_hold_25 (fun H locs hP hD hS => ?_)
    have hP : va_P G.1 vwCl [(m0, .inr (12, [.int (iI lim), .int (iI fa), .int (iI rf), .int (iI mk), .ref m4, .ref m5, .ref m6, .int (iI nk), .ref m8, .ref m9, .ref m10, .int (iI st), .int (iI wn), .ref m13, .ref m14, .ref m15, .ref m16, .ref m17, .int (iI dn), .int (iI hd), .ref m20, .ref m21, .int (iI md), .int (iI al), .ref m24, .ref m25, .ref m26, .ref m27, .ref m28, .ref m29, .int (iI sd)])), (m14, .inl (gI G, 9, .inl (fun j : Nat => iI (ho (j : Int))))), (m15, .inl (gI G, 1400, .inl (fun j : Nat => iI ((uF ds (ho 0) kd) (j : Int))))), (m16, .inl (gL G, 1400, .inr (.inl (fun j : Nat => lI (wh (j : Int)))))), (m17, .inl (gL G, 1400, .inr (.inl (fun j : Nat => lI (wa (j : Int))))))] H := hP
    have hD : va_D A [(m0, .inr (12, [.int (iI lim), .int (iI fa), .int (iI rf), .int (iI mk), .ref m4, .ref m5, .ref m6, .int (iI nk), .ref m8, .ref m9, .ref m10, .int (iI st), .int (iI wn), .ref m13, .ref m14, .ref m15, .ref m16, .ref m17, .int (iI dn), .int (iI hd), .ref m20, .ref m21, .int (iI md), .int (iI al), .ref m24, .ref m25, .ref m26, .ref m27, .ref m28, .ref m29, .int (iI sd)])), (m14, .inl (gI G, 9, .inl (fun j : Nat => iI (ho (j : Int))))), (m15, .inl (gI G, 1400, .inl (fun j : Nat => iI ((uF ds (ho 0) kd) (j : Int))))), (m16, .inl (gL G, 1400, .inr (.inl (fun j : Nat => lI (wh (j : Int)))))), (m17, .inl (gL G, 1400, .inr (.inl (fun j : Nat => lI (wa (j : Int))))))] := hD
    refine lv_aload_n hx hb dX11_hold_26 rfl (lv_at hl 0 rfl) ?_
    refine va_get (D := G.1) (ci := 12) (v := .ref m16) (C := RX11) (T := TX11) (N := 31) hx hb hts hiX11 hown hK hP 0 rfl rfl 16 (by decide) hw2 (fun _ h9 => h9) rfl dX11_hold_27 ?_
    refine lv_aload_n hx hb dX11_hold_30 rfl (lv_at hl 0 rfl) ?_
    refine va_get (D := G.1) (ci := 12) (v := .ref m14) (C := RX11) (T := TX11) (N := 31) hx hb hts hiX11 hown hK hP 0 rfl rfl 14 (by decide) hw0 (fun _ h9 => h9) rfl dX11_hold_31 ?_
    refine lv_iconst (v := iI (0)) hx hb dX11_hold_34 rfl ?_
    refine z_iald hx hb hK hP 1 0 rfl rfl (by omega) dX11_hold_35 ?_
    refine lv_lload_n hx hb dX11_hold_36 rfl (lv_at hl 2 rfl) ?_
    refine z_last hx hb hK hP hD hS 3 1 rfl rfl (by omega) dX11_hold_37 (fun H locs hP hD hS => ?_)
    have hP : va_P G.1 vwCl [(m0, .inr (12, [.int (iI lim), .int (iI fa), .int (iI rf), .int (iI mk), .ref m4, .ref m5, .ref m6, .int (iI nk), .ref m8, .ref m9, .ref m10, .int (iI st), .int (iI wn), .ref m13, .ref m14, .ref m15, .ref m16, .ref m17, .int (iI dn), .int (iI hd), .ref m20, .ref m21, .int (iI md), .int (iI al), .ref m24, .ref m25, .ref m26, .ref m27, .ref m28, .ref m29, .int (iI sd)])), (m14, .inl (gI G, 9, .inl (fun j : Nat => iI (ho (j : Int))))), (m15, .inl (gI G, 1400, .inl (fun j : Nat => iI ((uF ds (ho 0) kd) (j : Int))))), (m16, .inl (gL G, 1400, .inr (.inl (fun j : Nat => lI ((uF wh (ho 0) x) (j : Int)))))), (m17, .inl (gL G, 1400, .inr (.inl (fun j : Nat => lI (wa (j : Int))))))] H := hP
    have hD : va_D A [(m0, .inr (12, [.int (iI lim), .int (iI fa), .int (iI rf), .int (iI mk), .ref m4, .ref m5, .ref m6, .int (iI nk), .ref m8, .ref m9, .ref m10, .int (iI st), .int (iI wn), .ref m13, .ref m14, .ref m15, .ref m16, .ref m17, .int (iI dn), .int (iI hd), .ref m20, .ref m21, .int (iI md), .int (iI al), .ref m24, .ref m25, .ref m26, .ref m27, .ref m28, .ref m29, .int (iI sd)])), (m14, .inl (gI G, 9, .inl (fun j : Nat => iI (ho (j : Int))))), (m15, .inl (gI G, 1400, .inl (fun j : Nat => iI ((uF ds (ho 0) kd) (j : Int))))), (m16, .inl (gL G, 1400, .inr (.inl (fun j : Nat => lI ((uF wh (ho 0) x) (j : Int)))))), (m17, .inl (gL G, 1400, .inr (.inl (fun j : Nat => lI (wa (j : Int))))))] := hD
    refine lv_aload_n hx hb dX11_hold_38 rfl (lv_at hl 0 rfl) ?_
    refine va_get (D := G.1) (ci := 12) (v := .ref m17) (C := RX11) (T := TX11) (N := 31) hx hb hts hiX11 hown hK hP 0 rfl rfl 17 (by decide) hw3 (fun _ h9 => h9) rfl dX11_hold_39 ?_
    refine lv_aload_n hx hb dX11_hold_42 rfl (lv_at hl 0 rfl) ?_
    refine va_get (D := G.1) (ci := 12) (v := .ref m14) (C := RX11) (T := TX11) (N := 31) hx hb hts hiX11 hown hK hP 0 rfl rfl 14 (by decide) hw0 (fun _ h9 => h9) rfl dX11_hold_43 ?_
    refine lv_iconst (v := iI (0)) hx hb dX11_hold_46 rfl ?_
    refine z_iald hx hb hK hP 1 0 rfl rfl (by omega) dX11_hold_47 ?_
    refine lv_lload hx hb dX11_hold_48 (lv_at hl 3 rfl) ?_
    refine z_last hx hb hK hP hD hS 4 1 rfl rfl (by omega) dX11_hold_50 (fun H locs hP hD hS => ?_)
    have hP : va_P G.1 vwCl [(m0, .inr (12, [.int (iI lim), .int (iI fa), .int (iI rf), .int (iI mk), .ref m4, .ref m5, .ref m6, .int (iI nk), .ref m8, .ref m9, .ref m10, .int (iI st), .int (iI wn), .ref m13, .ref m14, .ref m15, .ref m16, .ref m17, .int (iI dn), .int (iI hd), .ref m20, .ref m21, .int (iI md), .int (iI al), .ref m24, .ref m25, .ref m26, .ref m27, .ref m28, .ref m29, .int (iI sd)])), (m14, .inl (gI G, 9, .inl (fun j : Nat => iI (ho (j : Int))))), (m15, .inl (gI G, 1400, .inl (fun j : Nat => iI ((uF ds (ho 0) kd) (j : Int))))), (m16, .inl (gL G, 1400, .inr (.inl (fun j : Nat => lI ((uF wh (ho 0) x) (j : Int)))))), (m17, .inl (gL G, 1400, .inr (.inl (fun j : Nat => lI ((uF wa (ho 0) v) (j : Int))))))] H := hP
    have hD : va_D A [(m0, .inr (12, [.int (iI lim), .int (iI fa), .int (iI rf), .int (iI mk), .ref m4, .ref m5, .ref m6, .int (iI nk), .ref m8, .ref m9, .ref m10, .int (iI st), .int (iI wn), .ref m13, .ref m14, .ref m15, .ref m16, .ref m17, .int (iI dn), .int (iI hd), .ref m20, .ref m21, .int (iI md), .int (iI al), .ref m24, .ref m25, .ref m26, .ref m27, .ref m28, .ref m29, .int (iI sd)])), (m14, .inl (gI G, 9, .inl (fun j : Nat => iI (ho (j : Int))))), (m15, .inl (gI G, 1400, .inl (fun j : Nat => iI ((uF ds (ho 0) kd) (j : Int))))), (m16, .inl (gL G, 1400, .inr (.inl (fun j : Nat => lI ((uF wh (ho 0) x) (j : Int)))))), (m17, .inl (gL G, 1400, .inr (.inl (fun j : Nat => lI ((uF wa (ho 0) v) (j : Int))))))] := hD
    refine lv_aload_n hx hb dX11_hold_51 rfl (lv_at hl 0 rfl) ?_
    refine va_get (D := G.1) (ci := 12) (v := .ref m14) (C := RX11) (T := TX11) (N := 31) hx hb hts hiX11 hown hK hP 0 rfl rfl 14 (by decide) hw0 (fun _ h9 => h9) rfl dX11_hold_52 ?_
    refine lv_iconst (v := iI (0)) hx hb dX11_hold_55 rfl ?_
    refine lv_dup2_11 hx hb dX11_hold_56 rfl rfl ?_
    refine z_iald hx hb hK hP 1 0 rfl rfl (by omega) dX11_hold_57 ?_
    refine lv_iconst (v := iI (1)) hx hb dX11_hold_58 rfl ?_
    refine z_iadd hx hb dX11_hold_59 ?_
    refine z_iast hx hb hK hP hD hS 1 0 rfl rfl (by omega) dX11_hold_60 (fun H locs hP hD hS => ?_)
    have hP : va_P G.1 vwCl [(m0, .inr (12, [.int (iI lim), .int (iI fa), .int (iI rf), .int (iI mk), .ref m4, .ref m5, .ref m6, .int (iI nk), .ref m8, .ref m9, .ref m10, .int (iI st), .int (iI wn), .ref m13, .ref m14, .ref m15, .ref m16, .ref m17, .int (iI dn), .int (iI hd), .ref m20, .ref m21, .int (iI md), .int (iI al), .ref m24, .ref m25, .ref m26, .ref m27, .ref m28, .ref m29, .int (iI sd)])), (m14, .inl (gI G, 9, .inl (fun j : Nat => iI ((uF ho 0 ((ho 0) + 1)) (j : Int))))), (m15, .inl (gI G, 1400, .inl (fun j : Nat => iI ((uF ds (ho 0) kd) (j : Int))))), (m16, .inl (gL G, 1400, .inr (.inl (fun j : Nat => lI ((uF wh (ho 0) x) (j : Int)))))), (m17, .inl (gL G, 1400, .inr (.inl (fun j : Nat => lI ((uF wa (ho 0) v) (j : Int))))))] H := hP
    have hD : va_D A [(m0, .inr (12, [.int (iI lim), .int (iI fa), .int (iI rf), .int (iI mk), .ref m4, .ref m5, .ref m6, .int (iI nk), .ref m8, .ref m9, .ref m10, .int (iI st), .int (iI wn), .ref m13, .ref m14, .ref m15, .ref m16, .ref m17, .int (iI dn), .int (iI hd), .ref m20, .ref m21, .int (iI md), .int (iI al), .ref m24, .ref m25, .ref m26, .ref m27, .ref m28, .ref m29, .int (iI sd)])), (m14, .inl (gI G, 9, .inl (fun j : Nat => iI ((uF ho 0 ((ho 0) + 1)) (j : Int))))), (m15, .inl (gI G, 1400, .inl (fun j : Nat => iI ((uF ds (ho 0) kd) (j : Int))))), (m16, .inl (gL G, 1400, .inr (.inl (fun j : Nat => lI ((uF wh (ho 0) x) (j : Int)))))), (m17, .inl (gL G, 1400, .inr (.inl (fun j : Nat => lI ((uF wa (ho 0) v) (j : Int))))))] := hD
    refine lv_iconst (v := iI (1)) hx hb dX11_hold_61 rfl ?_
    have e_2 : ((uF ho 0 ((ho 0) + 1)) : Int → Int) = (uF ho 0 (addN 1000 (ho 0))) := by ((try simp only [addF, addN]); first | exact (if_pos (by omega)).symm | exact (if_neg (by omega)).symm | (rw [if_pos (by omega)]; done) | (rw [if_neg (by omega)]; exact (uF_id _ _).symm))
    have e_3 : ((uF ds (ho 0) kd) : Int → Int) = (addF 1000 (ho 0) ds kd) := by ((try simp only [addF, addN]); first | exact (if_pos (by omega)).symm | exact (if_neg (by omega)).symm | (rw [if_pos (by omega)]; done) | (rw [if_neg (by omega)]; exact (uF_id _ _).symm))
    have e_4 : ((uF wh (ho 0) x) : Int → Int) = (addF 1000 (ho 0) wh x) := by ((try simp only [addF, addN]); first | exact (if_pos (by omega)).symm | exact (if_neg (by omega)).symm | (rw [if_pos (by omega)]; done) | (rw [if_neg (by omega)]; exact (uF_id _ _).symm))
    have e_5 : ((uF wa (ho 0) v) : Int → Int) = (addF 1000 (ho 0) wa v) := by ((try simp only [addF, addN]); first | exact (if_pos (by omega)).symm | exact (if_neg (by omega)).symm | (rw [if_pos (by omega)]; done) | (rw [if_neg (by omega)]; exact (uF_id _ _).symm))
    have hP : va_P G.1 vwCl [(m0, .inr (12, [.int (iI lim), .int (iI fa), .int (iI rf), .int (iI mk), .ref m4, .ref m5, .ref m6, .int (iI nk), .ref m8, .ref m9, .ref m10, .int (iI st), .int (iI wn), .ref m13, .ref m14, .ref m15, .ref m16, .ref m17, .int (iI dn), .int (iI hd), .ref m20, .ref m21, .int (iI md), .int (iI al), .ref m24, .ref m25, .ref m26, .ref m27, .ref m28, .ref m29, .int (iI sd)])), (m14, .inl (gI G, 9, .inl (fun j : Nat => iI ((uF ho 0 (addN 1000 (ho 0))) (j : Int))))), (m15, .inl (gI G, 1400, .inl (fun j : Nat => iI ((addF 1000 (ho 0) ds kd) (j : Int))))), (m16, .inl (gL G, 1400, .inr (.inl (fun j : Nat => lI ((addF 1000 (ho 0) wh x) (j : Int)))))), (m17, .inl (gL G, 1400, .inr (.inl (fun j : Nat => lI ((addF 1000 (ho 0) wa v) (j : Int))))))] H := by rw [← e_2, ← e_3, ← e_4, ← e_5]; exact hP
    have hD : va_D A [(m0, .inr (12, [.int (iI lim), .int (iI fa), .int (iI rf), .int (iI mk), .ref m4, .ref m5, .ref m6, .int (iI nk), .ref m8, .ref m9, .ref m10, .int (iI st), .int (iI wn), .ref m13, .ref m14, .ref m15, .ref m16, .ref m17, .int (iI dn), .int (iI hd), .ref m20, .ref m21, .int (iI md), .int (iI al), .ref m24, .ref m25, .ref m26, .ref m27, .ref m28, .ref m29, .int (iI sd)])), (m14, .inl (gI G, 9, .inl (fun j : Nat => iI ((uF ho 0 (addN 1000 (ho 0))) (j : Int))))), (m15, .inl (gI G, 1400, .inl (fun j : Nat => iI ((addF 1000 (ho 0) ds kd) (j : Int))))), (m16, .inl (gL G, 1400, .inr (.inl (fun j : Nat => lI ((addF 1000 (ho 0) wh x) (j : Int)))))), (m17, .inl (gL G, 1400, .inr (.inl (fun j : Nat => lI ((addF 1000 (ho 0) wa v) (j : Int))))))] := by rw [← e_2, ← e_3, ← e_4, ← e_5]; exact hD
    have r_6 : (1 : Int) = (if ho 0 < 1000 then 1 else 0) := by ((try simp only [addF, addN]); first | exact (if_pos (by omega)).symm | exact (if_neg (by omega)).symm | (rw [if_pos (by omega)]; done) | (rw [if_neg (by omega)]; exact (uF_id _ _).symm))
    rw [r_6]
    exact hret _ ls H locs dX11_hold_62 hP hD hS
  · skip
    refine lv_iconst (v := iI (0)) hx hb dX11_hold_12 rfl ?_
    have e_7 : (ho : Int → Int) = (uF ho 0 (addN 1000 (ho 0))) := by ((try simp only [addF, addN]); first | exact (if_pos (by omega)).symm | exact (if_neg (by omega)).symm | (rw [if_pos (by omega)]; done) | (rw [if_neg (by omega)]; exact (uF_id _ _).symm))
    have e_8 : (ds : Int → Int) = (addF 1000 (ho 0) ds kd) := by ((try simp only [addF, addN]); first | exact (if_pos (by omega)).symm | exact (if_neg (by omega)).symm | (rw [if_pos (by omega)]; done) | (rw [if_neg (by omega)]; exact (uF_id _ _).symm))
    have e_9 : (wh : Int → Int) = (addF 1000 (ho 0) wh x) := by ((try simp only [addF, addN]); first | exact (if_pos (by omega)).symm | exact (if_neg (by omega)).symm | (rw [if_pos (by omega)]; done) | (rw [if_neg (by omega)]; exact (uF_id _ _).symm))
    have e_10 : (wa : Int → Int) = (addF 1000 (ho 0) wa v) := by ((try simp only [addF, addN]); first | exact (if_pos (by omega)).symm | exact (if_neg (by omega)).symm | (rw [if_pos (by omega)]; done) | (rw [if_neg (by omega)]; exact (uF_id _ _).symm))
    have hP : va_P G.1 vwCl [(m0, .inr (12, [.int (iI lim), .int (iI fa), .int (iI rf), .int (iI mk), .ref m4, .ref m5, .ref m6, .int (iI nk), .ref m8, .ref m9, .ref m10, .int (iI st), .int (iI wn), .ref m13, .ref m14, .ref m15, .ref m16, .ref m17, .int (iI dn), .int (iI hd), .ref m20, .ref m21, .int (iI md), .int (iI al), .ref m24, .ref m25, .ref m26, .ref m27, .ref m28, .ref m29, .int (iI sd)])), (m14, .inl (gI G, 9, .inl (fun j : Nat => iI ((uF ho 0 (addN 1000 (ho 0))) (j : Int))))), (m15, .inl (gI G, 1400, .inl (fun j : Nat => iI ((addF 1000 (ho 0) ds kd) (j : Int))))), (m16, .inl (gL G, 1400, .inr (.inl (fun j : Nat => lI ((addF 1000 (ho 0) wh x) (j : Int)))))), (m17, .inl (gL G, 1400, .inr (.inl (fun j : Nat => lI ((addF 1000 (ho 0) wa v) (j : Int))))))] H := by rw [← e_7, ← e_8, ← e_9, ← e_10]; exact hP
    have hD : va_D A [(m0, .inr (12, [.int (iI lim), .int (iI fa), .int (iI rf), .int (iI mk), .ref m4, .ref m5, .ref m6, .int (iI nk), .ref m8, .ref m9, .ref m10, .int (iI st), .int (iI wn), .ref m13, .ref m14, .ref m15, .ref m16, .ref m17, .int (iI dn), .int (iI hd), .ref m20, .ref m21, .int (iI md), .int (iI al), .ref m24, .ref m25, .ref m26, .ref m27, .ref m28, .ref m29, .int (iI sd)])), (m14, .inl (gI G, 9, .inl (fun j : Nat => iI ((uF ho 0 (addN 1000 (ho 0))) (j : Int))))), (m15, .inl (gI G, 1400, .inl (fun j : Nat => iI ((addF 1000 (ho 0) ds kd) (j : Int))))), (m16, .inl (gL G, 1400, .inr (.inl (fun j : Nat => lI ((addF 1000 (ho 0) wh x) (j : Int)))))), (m17, .inl (gL G, 1400, .inr (.inl (fun j : Nat => lI ((addF 1000 (ho 0) wa v) (j : Int))))))] := by rw [← e_7, ← e_8, ← e_9, ← e_10]; exact hD
    have r_11 : (0 : Int) = (if ho 0 < 1000 then 1 else 0) := by ((try simp only [addF, addN]); first | exact (if_pos (by omega)).symm | exact (if_neg (by omega)).symm | (rw [if_pos (by omega)]; done) | (rw [if_neg (by omega)]; exact (uF_id _ _).symm))
    rw [r_11]
    exact hret _ ls H locs dX11_hold_13 hP hD hS

set_option maxHeartbeats 4000000 in
set_option maxRecDepth 100000 in
theorem c_X11_become (l : Launch) (G : Gx) (zz : Nat) (m0 m4 m5 m6 m8 m9 m10 m13 m14 m15 m16 m17 m20 m21 m24 m25 m26 m27 m28 m29 : Nat) (lim fa rf mk nk st wn dn hd md al sd : Int) (sz va : Int → Int) (n v : Int) (h1 : 1 ≤ n ∧ n ≤ mk ∧ mk ≤ 60) (h2 : 1 ≤ sz n ∧ sz n ≤ 18) (h3 : -9223372036854775808 < v ∧ v < 9223372036854775808) : Ci l yX11_become wsX11_become (rz 1 23) G [.ref m0, .int (iI n), .long (lI v)] [(m0, .inr (12, [.int (iI lim), .int (iI fa), .int (iI rf), .int (iI mk), .ref m4, .ref m5, .ref m6, .int (iI nk), .ref m8, .ref m9, .ref m10, .int (iI st), .int (iI wn), .ref m13, .ref m14, .ref m15, .ref m16, .ref m17, .int (iI dn), .int (iI hd), .ref m20, .ref m21, .int (iI md), .int (iI al), .ref m24, .ref m25, .ref m26, .ref m27, .ref m28, .ref m29, .int (iI sd)])), (m4, .inl (gI G, 61, .inl (fun j : Nat => iI (sz (j : Int))))), (m5, .inl (gL G, 61, .inr (.inl (fun j : Nat => lI (va (j : Int))))))] zz (2 - beO sz n v) [(m0, .inr (12, [.int (iI lim), .int (iI fa), .int (iI rf), .int (iI mk), .ref m4, .ref m5, .ref m6, .int (iI nk), .ref m8, .ref m9, .ref m10, .int (iI st), .int (iI wn), .ref m13, .ref m14, .ref m15, .ref m16, .ref m17, .int (iI dn), .int (iI hd), .ref m20, .ref m21, .int (iI md), .int (iI al), .ref m24, .ref m25, .ref m26, .ref m27, .ref m28, .ref m29, .int (iI sd)])), (m4, .inl (gI G, 61, .inl (fun j : Nat => iI (sz (j : Int))))), (m5, .inl (gL G, 61, .inr (.inl (fun j : Nat => lI ((beV sz va n v) (j : Int))))))] := by
  refine met_i (cc := cX11_become) (maxL := 6) (ret := (some .boolean)) (by decide) rfl (Nat.le_of_ble_eq_true rfl) rfl (by have hbn : beO sz n v = 1 ∨ beO sz n v = 2 := (by unfold beO; split <;> omega); rcases hbn with q | q <;> rw [q] <;> decide) ⟨rfl, rfl⟩ ?_
  intro p e s m below meth c A Q F C hP hD hS hret ls hl
  obtain ⟨hx, hb, hml, hown, hts⟩ := id F
  obtain ⟨hK, hA, hZ, hT, hN⟩ := id C
  have hl : lv_has ls 6 [(0, .ref m0), (1, .int (iI n)), (2, .long (lI v))] := hl
  obtain ⟨H, hH⟩ : ∃ H, H = s.heap := ⟨_, rfl⟩
  obtain ⟨locs, hlocs⟩ : ∃ l : List Loc, l = [] := ⟨_, rfl⟩
  have hS : va_S A s.heap H locs := by rw [hH, hlocs]; exact hS
  have hP : va_P G.1 vwCl [(m0, .inr (12, [.int (iI lim), .int (iI fa), .int (iI rf), .int (iI mk), .ref m4, .ref m5, .ref m6, .int (iI nk), .ref m8, .ref m9, .ref m10, .int (iI st), .int (iI wn), .ref m13, .ref m14, .ref m15, .ref m16, .ref m17, .int (iI dn), .int (iI hd), .ref m20, .ref m21, .int (iI md), .int (iI al), .ref m24, .ref m25, .ref m26, .ref m27, .ref m28, .ref m29, .int (iI sd)])), (m4, .inl (gI G, 61, .inl (fun j : Nat => iI (sz (j : Int))))), (m5, .inl (gL G, 61, .inr (.inl (fun j : Nat => lI (va (j : Int))))))] H := by rw [hH]; exact hP
  suffices hgo : W p l e (rz 1 23) s m [.ref m0, .int (iI n), .long (lI v)].toArray below meth c H locs 0 0 Q (F0 m 0 ls []) by rw [hH, hlocs] at hgo; exact hgo
  have hiX11 : ∀ w ∈ wsX110, w ∈ wsX11_become := by decide +kernel
  have hw0 := hts (Cond.fieldLink RX11 7 "PlainCobolModel" "sizes" "[I") (List.mem_of_getElem? (i := 1) rfl)
  have hw1 := hts (Cond.fieldLink RX11 13 "PlainCobolModel" "values" "[J") (List.mem_of_getElem? (i := 2) rfl)
  have hpn := pw_rng (i := sz n) (by omega)
  have hbn : beO sz n v = 1 ∨ beO sz n v = 2 := by unfold beO; split <;> omega
  refine lv_aload_n hx hb dX11_become_0 rfl (lv_at hl 0 rfl) ?_
  refine va_get (D := G.1) (ci := 12) (v := .ref m4) (C := RX11) (T := TX11) (N := 31) hx hb hts hiX11 hown hK hP 0 rfl rfl 4 (by decide) hw0 (fun _ h9 => h9) rfl dX11_become_1 ?_
  refine lv_iload_n hx hb dX11_become_4 rfl (lv_at hl 1 rfl) ?_
  refine z_iald hx hb hK hP 1 0 rfl rfl (by omega) dX11_become_5 ?_
  refine z_cSl (RV := (pw (sz n))) (As := [.int (iI (sz n))]) (rest := []) (wc := []) (wr := [(m0, .inr (12, [.int (iI lim), .int (iI fa), .int (iI rf), .int (iI mk), .ref m4, .ref m5, .ref m6, .int (iI nk), .ref m8, .ref m9, .ref m10, .int (iI st), .int (iI wn), .ref m13, .ref m14, .ref m15, .ref m16, .ref m17, .int (iI dn), .int (iI hd), .ref m20, .ref m21, .int (iI md), .int (iI al), .ref m24, .ref m25, .ref m26, .ref m27, .ref m28, .ref m29, .int (iI sd)])), (m4, .inl (gI G, 61, .inl (fun j : Nat => iI (sz (j : Int))))), (m5, .inl (gL G, 61, .inr (.inl (fun j : Nat => lI (va (j : Int))))))]) (wn := [(m0, .inr (12, [.int (iI lim), .int (iI fa), .int (iI rf), .int (iI mk), .ref m4, .ref m5, .ref m6, .int (iI nk), .ref m8, .ref m9, .ref m10, .int (iI st), .int (iI wn), .ref m13, .ref m14, .ref m15, .ref m16, .ref m17, .int (iI dn), .int (iI hd), .ref m20, .ref m21, .int (iI md), .int (iI al), .ref m24, .ref m25, .ref m26, .ref m27, .ref m28, .ref m29, .int (iI sd)])), (m4, .inl (gI G, 61, .inl (fun j : Nat => iI (sz (j : Int))))), (m5, .inl (gL G, 61, .inr (.inl (fun j : Nat => lI (va (j : Int))))))]) F C (c_X11_power l G H.size (sz n) (by omega)) (va_cwS 1 hts gX11_become_X11_power rfl rfl rfl (by decide +kernel) (by decide)) hP hD hS [] [0, 1, 2] rfl rfl (by decide) rfl rfl hl.1 rfl (Nat.le_of_ble_eq_true rfl) dX11_become_6 (by decide) (fun H locs hP hD hS => ?_)
  refine lv_lstore (lv' := [(4, .long (lI (pw (sz n)))), (0, .ref m0), (1, .int (iI n)), (2, .long (lI v))]) hx hb dX11_become_9 hl (by decide) rfl (fun ls hl => ?_)
  refine lv_lload_n hx hb dX11_become_11 rfl (lv_at hl 3 rfl) ?_
  refine lv_lload hx hb dX11_become_12 (lv_at hl 0 rfl) ?_
  refine z_lcmp_ge (tgt := 26) hx hb dX11_become_14 dX11_become_15 (by decide) (by omega) (fun c_1 => ?_) (fun c_1 => ?_)
  · skip
    refine lv_iconst (v := iI (0)) hx hb dX11_become_26 rfl ?_
    have e_2 : (va : Int → Int) = (beV sz va n v) := by ((try simp only [beO, beV]); first | (rw [if_pos (by omega)] <;> try rfl) | (rw [if_neg (by omega)] <;> try rfl))
    have hP : va_P G.1 vwCl [(m0, .inr (12, [.int (iI lim), .int (iI fa), .int (iI rf), .int (iI mk), .ref m4, .ref m5, .ref m6, .int (iI nk), .ref m8, .ref m9, .ref m10, .int (iI st), .int (iI wn), .ref m13, .ref m14, .ref m15, .ref m16, .ref m17, .int (iI dn), .int (iI hd), .ref m20, .ref m21, .int (iI md), .int (iI al), .ref m24, .ref m25, .ref m26, .ref m27, .ref m28, .ref m29, .int (iI sd)])), (m4, .inl (gI G, 61, .inl (fun j : Nat => iI (sz (j : Int))))), (m5, .inl (gL G, 61, .inr (.inl (fun j : Nat => lI ((beV sz va n v) (j : Int))))))] H := by rw [← e_2]; exact hP
    have hD : va_D A [(m0, .inr (12, [.int (iI lim), .int (iI fa), .int (iI rf), .int (iI mk), .ref m4, .ref m5, .ref m6, .int (iI nk), .ref m8, .ref m9, .ref m10, .int (iI st), .int (iI wn), .ref m13, .ref m14, .ref m15, .ref m16, .ref m17, .int (iI dn), .int (iI hd), .ref m20, .ref m21, .int (iI md), .int (iI al), .ref m24, .ref m25, .ref m26, .ref m27, .ref m28, .ref m29, .int (iI sd)])), (m4, .inl (gI G, 61, .inl (fun j : Nat => iI (sz (j : Int))))), (m5, .inl (gL G, 61, .inr (.inl (fun j : Nat => lI ((beV sz va n v) (j : Int))))))] := by rw [← e_2]; exact hD
    have r_3 : (0 : Int) = (2 - beO sz n v) := by ((try simp only [beO, beV]); first | (rw [if_pos (by omega)] <;> try rfl) | (rw [if_neg (by omega)] <;> try rfl))
    rw [r_3]
    exact hret _ ls H locs dX11_become_27 hP hD hS
  · skip
    refine lv_lload_n hx hb dX11_become_18 rfl (lv_at hl 3 rfl) ?_
    refine lv_lload hx hb dX11_become_19 (lv_at hl 0 rfl) ?_
    refine z_lneg hx hb dX11_become_21 ?_
    refine z_lcmp_gt (tgt := 28) hx hb dX11_become_22 dX11_become_23 (by decide) (by omega) (fun c_4 => ?_) (fun c_4 => ?_)
    · skip
      refine lv_aload_n hx hb dX11_become_28 rfl (lv_at hl 1 rfl) ?_
      refine va_get (D := G.1) (ci := 12) (v := .ref m5) (C := RX11) (T := TX11) (N := 31) hx hb hts hiX11 hown hK hP 0 rfl rfl 5 (by decide) hw1 (fun _ h9 => h9) rfl dX11_become_29 ?_
      refine lv_iload_n hx hb dX11_become_32 rfl (lv_at hl 2 rfl) ?_
      refine lv_lload_n hx hb dX11_become_33 rfl (lv_at hl 3 rfl) ?_
      refine z_last hx hb hK hP hD hS 2 1 rfl rfl (by omega) dX11_become_34 (fun H locs hP hD hS => ?_)
      have hP : va_P G.1 vwCl [(m0, .inr (12, [.int (iI lim), .int (iI fa), .int (iI rf), .int (iI mk), .ref m4, .ref m5, .ref m6, .int (iI nk), .ref m8, .ref m9, .ref m10, .int (iI st), .int (iI wn), .ref m13, .ref m14, .ref m15, .ref m16, .ref m17, .int (iI dn), .int (iI hd), .ref m20, .ref m21, .int (iI md), .int (iI al), .ref m24, .ref m25, .ref m26, .ref m27, .ref m28, .ref m29, .int (iI sd)])), (m4, .inl (gI G, 61, .inl (fun j : Nat => iI (sz (j : Int))))), (m5, .inl (gL G, 61, .inr (.inl (fun j : Nat => lI ((uF va n v) (j : Int))))))] H := hP
      have hD : va_D A [(m0, .inr (12, [.int (iI lim), .int (iI fa), .int (iI rf), .int (iI mk), .ref m4, .ref m5, .ref m6, .int (iI nk), .ref m8, .ref m9, .ref m10, .int (iI st), .int (iI wn), .ref m13, .ref m14, .ref m15, .ref m16, .ref m17, .int (iI dn), .int (iI hd), .ref m20, .ref m21, .int (iI md), .int (iI al), .ref m24, .ref m25, .ref m26, .ref m27, .ref m28, .ref m29, .int (iI sd)])), (m4, .inl (gI G, 61, .inl (fun j : Nat => iI (sz (j : Int))))), (m5, .inl (gL G, 61, .inr (.inl (fun j : Nat => lI ((uF va n v) (j : Int))))))] := hD
      refine lv_iconst (v := iI (1)) hx hb dX11_become_35 rfl ?_
      have e_5 : ((uF va n v) : Int → Int) = (beV sz va n v) := by ((try simp only [beO, beV]); first | (rw [if_pos (by omega)] <;> try rfl) | (rw [if_neg (by omega)] <;> try rfl))
      have hP : va_P G.1 vwCl [(m0, .inr (12, [.int (iI lim), .int (iI fa), .int (iI rf), .int (iI mk), .ref m4, .ref m5, .ref m6, .int (iI nk), .ref m8, .ref m9, .ref m10, .int (iI st), .int (iI wn), .ref m13, .ref m14, .ref m15, .ref m16, .ref m17, .int (iI dn), .int (iI hd), .ref m20, .ref m21, .int (iI md), .int (iI al), .ref m24, .ref m25, .ref m26, .ref m27, .ref m28, .ref m29, .int (iI sd)])), (m4, .inl (gI G, 61, .inl (fun j : Nat => iI (sz (j : Int))))), (m5, .inl (gL G, 61, .inr (.inl (fun j : Nat => lI ((beV sz va n v) (j : Int))))))] H := by rw [← e_5]; exact hP
      have hD : va_D A [(m0, .inr (12, [.int (iI lim), .int (iI fa), .int (iI rf), .int (iI mk), .ref m4, .ref m5, .ref m6, .int (iI nk), .ref m8, .ref m9, .ref m10, .int (iI st), .int (iI wn), .ref m13, .ref m14, .ref m15, .ref m16, .ref m17, .int (iI dn), .int (iI hd), .ref m20, .ref m21, .int (iI md), .int (iI al), .ref m24, .ref m25, .ref m26, .ref m27, .ref m28, .ref m29, .int (iI sd)])), (m4, .inl (gI G, 61, .inl (fun j : Nat => iI (sz (j : Int))))), (m5, .inl (gL G, 61, .inr (.inl (fun j : Nat => lI ((beV sz va n v) (j : Int))))))] := by rw [← e_5]; exact hD
      have r_6 : (1 : Int) = (2 - beO sz n v) := by ((try simp only [beO, beV]); first | (rw [if_pos (by omega)] <;> try rfl) | (rw [if_neg (by omega)] <;> try rfl))
      rw [r_6]
      exact hret _ ls H locs dX11_become_36 hP hD hS
    · skip
      refine lv_iconst (v := iI (0)) hx hb dX11_become_26 rfl ?_
      have e_7 : (va : Int → Int) = (beV sz va n v) := by ((try simp only [beO, beV]); first | (rw [if_pos (by omega)] <;> try rfl) | (rw [if_neg (by omega)] <;> try rfl))
      have hP : va_P G.1 vwCl [(m0, .inr (12, [.int (iI lim), .int (iI fa), .int (iI rf), .int (iI mk), .ref m4, .ref m5, .ref m6, .int (iI nk), .ref m8, .ref m9, .ref m10, .int (iI st), .int (iI wn), .ref m13, .ref m14, .ref m15, .ref m16, .ref m17, .int (iI dn), .int (iI hd), .ref m20, .ref m21, .int (iI md), .int (iI al), .ref m24, .ref m25, .ref m26, .ref m27, .ref m28, .ref m29, .int (iI sd)])), (m4, .inl (gI G, 61, .inl (fun j : Nat => iI (sz (j : Int))))), (m5, .inl (gL G, 61, .inr (.inl (fun j : Nat => lI ((beV sz va n v) (j : Int))))))] H := by rw [← e_7]; exact hP
      have hD : va_D A [(m0, .inr (12, [.int (iI lim), .int (iI fa), .int (iI rf), .int (iI mk), .ref m4, .ref m5, .ref m6, .int (iI nk), .ref m8, .ref m9, .ref m10, .int (iI st), .int (iI wn), .ref m13, .ref m14, .ref m15, .ref m16, .ref m17, .int (iI dn), .int (iI hd), .ref m20, .ref m21, .int (iI md), .int (iI al), .ref m24, .ref m25, .ref m26, .ref m27, .ref m28, .ref m29, .int (iI sd)])), (m4, .inl (gI G, 61, .inl (fun j : Nat => iI (sz (j : Int))))), (m5, .inl (gL G, 61, .inr (.inl (fun j : Nat => lI ((beV sz va n v) (j : Int))))))] := by rw [← e_7]; exact hD
      have r_8 : (0 : Int) = (2 - beO sz n v) := by ((try simp only [beO, beV]); first | (rw [if_pos (by omega)] <;> try rfl) | (rw [if_neg (by omega)] <;> try rfl))
      rw [r_8]
      exact hret _ ls H locs dX11_become_27 hP hD hS

set_option maxHeartbeats 4000000 in
set_option maxRecDepth 100000 in
theorem c_X11_multiply (l : Launch) (G : Gx) (zz : Nat) (m0 m4 m5 m6 m8 m9 m10 m13 m14 m15 m16 m17 m20 m21 m24 m25 m26 m27 m28 m29 : Nat) (lim fa rf mk nk st wn dn hd md al sd : Int) (sz va : Int → Int) (x y : Int) (hmk : 0 ≤ mk ∧ mk ≤ 60) (hcv : CV sz va mk) (h1 : 1 ≤ x ∧ x ≤ mk) (h2 : 1 ≤ y ∧ y ≤ mk) : Ci l yX11_multiply wsX11_multiply (rz 1 23) G [.ref m0, .int (iI x), .int (iI y)] [(m0, .inr (12, [.int (iI lim), .int (iI fa), .int (iI rf), .int (iI mk), .ref m4, .ref m5, .ref m6, .int (iI nk), .ref m8, .ref m9, .ref m10, .int (iI st), .int (iI wn), .ref m13, .ref m14, .ref m15, .ref m16, .ref m17, .int (iI dn), .int (iI hd), .ref m20, .ref m21, .int (iI md), .int (iI al), .ref m24, .ref m25, .ref m26, .ref m27, .ref m28, .ref m29, .int (iI sd)])), (m4, .inl (gI G, 61, .inl (fun j : Nat => iI (sz (j : Int))))), (m5, .inl (gL G, 61, .inr (.inl (fun j : Nat => lI (va (j : Int))))))] zz (2 - muO sz va x y) [(m0, .inr (12, [.int (iI lim), .int (iI fa), .int (iI rf), .int (iI mk), .ref m4, .ref m5, .ref m6, .int (iI nk), .ref m8, .ref m9, .ref m10, .int (iI st), .int (iI wn), .ref m13, .ref m14, .ref m15, .ref m16, .ref m17, .int (iI dn), .int (iI hd), .ref m20, .ref m21, .int (iI md), .int (iI al), .ref m24, .ref m25, .ref m26, .ref m27, .ref m28, .ref m29, .int (iI sd)])), (m4, .inl (gI G, 61, .inl (fun j : Nat => iI (sz (j : Int))))), (m5, .inl (gL G, 61, .inr (.inl (fun j : Nat => lI ((muV sz va x y) (j : Int))))))] := by
  refine met_i (cc := cX11_multiply) (maxL := 7) (ret := (some .boolean)) (by decide) rfl (Nat.le_of_ble_eq_true rfl) rfl (by have hbn : muO sz va x y = 1 ∨ muO sz va x y = 2 := (by unfold muO; split; omega; unfold beO; split <;> omega); rcases hbn with q | q <;> rw [q] <;> decide) ⟨rfl, rfl⟩ ?_
  intro p e s m below meth c A Q F C hP hD hS hret ls hl
  obtain ⟨hx, hb, hml, hown, hts⟩ := id F
  obtain ⟨hK, hA, hZ, hT, hN⟩ := id C
  have hl : lv_has ls 7 [(0, .ref m0), (1, .int (iI x)), (2, .int (iI y))] := hl
  obtain ⟨H, hH⟩ : ∃ H, H = s.heap := ⟨_, rfl⟩
  obtain ⟨locs, hlocs⟩ : ∃ l : List Loc, l = [] := ⟨_, rfl⟩
  have hS : va_S A s.heap H locs := by rw [hH, hlocs]; exact hS
  have hP : va_P G.1 vwCl [(m0, .inr (12, [.int (iI lim), .int (iI fa), .int (iI rf), .int (iI mk), .ref m4, .ref m5, .ref m6, .int (iI nk), .ref m8, .ref m9, .ref m10, .int (iI st), .int (iI wn), .ref m13, .ref m14, .ref m15, .ref m16, .ref m17, .int (iI dn), .int (iI hd), .ref m20, .ref m21, .int (iI md), .int (iI al), .ref m24, .ref m25, .ref m26, .ref m27, .ref m28, .ref m29, .int (iI sd)])), (m4, .inl (gI G, 61, .inl (fun j : Nat => iI (sz (j : Int))))), (m5, .inl (gL G, 61, .inr (.inl (fun j : Nat => lI (va (j : Int))))))] H := by rw [hH]; exact hP
  suffices hgo : W p l e (rz 1 23) s m [.ref m0, .int (iI x), .int (iI y)].toArray below meth c H locs 0 0 Q (F0 m 0 ls []) by rw [hH, hlocs] at hgo; exact hgo
  have hiX11 : ∀ w ∈ wsX110, w ∈ wsX11_multiply := by decide +kernel
  have hw0 := hts (Cond.fieldLink RX11 13 "PlainCobolModel" "values" "[J") (List.mem_of_getElem? (i := 1) rfl)
  have hw1 := hts (Cond.fieldLink RX11 7 "PlainCobolModel" "sizes" "[I") (List.mem_of_getElem? (i := 2) rfl)
  have hvx := hcv x h1.1 h1.2
  have hpx := pw_rng (i := sz x) (by omega)
  have hvy := hcv y h2.1 h2.2
  have hpy := pw_rng (i := sz y) (by omega)
  refine lv_aload_n hx hb dX11_multiply_0 rfl (lv_at hl 0 rfl) ?_
  refine va_get (D := G.1) (ci := 12) (v := .ref m5) (C := RX11) (T := TX11) (N := 31) hx hb hts hiX11 hown hK hP 0 rfl rfl 5 (by decide) hw0 (fun _ h9 => h9) rfl dX11_multiply_1 ?_
  refine lv_iload_n hx hb dX11_multiply_4 rfl (lv_at hl 1 rfl) ?_
  refine z_lald hx hb hK hP 2 1 rfl rfl (by omega) dX11_multiply_5 ?_
  refine lv_lconst (v := lI 0) hx hb dX11_multiply_6 (by decide) ?_
  have join27 : ∀ (H : Heap) (locs : List Loc), va_P G.1 vwCl [(m0, .inr (12, [.int (iI lim), .int (iI fa), .int (iI rf), .int (iI mk), .ref m4, .ref m5, .ref m6, .int (iI nk), .ref m8, .ref m9, .ref m10, .int (iI st), .int (iI wn), .ref m13, .ref m14, .ref m15, .ref m16, .ref m17, .int (iI dn), .int (iI hd), .ref m20, .ref m21, .int (iI md), .int (iI al), .ref m24, .ref m25, .ref m26, .ref m27, .ref m28, .ref m29, .int (iI sd)])), (m4, .inl (gI G, 61, .inl (fun j : Nat => iI (sz (j : Int))))), (m5, .inl (gL G, 61, .inr (.inl (fun j : Nat => lI (va (j : Int))))))] H → va_D A [(m0, .inr (12, [.int (iI lim), .int (iI fa), .int (iI rf), .int (iI mk), .ref m4, .ref m5, .ref m6, .int (iI nk), .ref m8, .ref m9, .ref m10, .int (iI st), .int (iI wn), .ref m13, .ref m14, .ref m15, .ref m16, .ref m17, .int (iI dn), .int (iI hd), .ref m20, .ref m21, .int (iI md), .int (iI al), .ref m24, .ref m25, .ref m26, .ref m27, .ref m28, .ref m29, .int (iI sd)])), (m4, .inl (gI G, 61, .inl (fun j : Nat => iI (sz (j : Int))))), (m5, .inl (gL G, 61, .inr (.inl (fun j : Nat => lI (va (j : Int))))))] → va_S A s.heap H locs → W p l e (rz 1 23) s m [.ref m0, .int (iI x), .int (iI y)].toArray below meth c H locs 0 0 Q (F0 m 27 ls [.long (lI ((Int.natAbs (va x) : Nat) : Int))]) := by
    intro H locs hP hD hS
    refine lv_lstore_n (lv' := [(3, .long (lI ((Int.natAbs (va x) : Nat) : Int))), (0, .ref m0), (1, .int (iI x)), (2, .int (iI y))]) hx hb dX11_multiply_27 rfl hl (by decide) rfl (fun ls hl => ?_)
    refine lv_aload_n hx hb dX11_multiply_28 rfl (lv_at hl 1 rfl) ?_
    refine va_get (D := G.1) (ci := 12) (v := .ref m5) (C := RX11) (T := TX11) (N := 31) hx hb hts hiX11 hown hK hP 0 rfl rfl 5 (by decide) hw0 (fun _ h9 => h9) rfl dX11_multiply_29 ?_
    refine lv_iload_n hx hb dX11_multiply_32 rfl (lv_at hl 3 rfl) ?_
    refine z_lald hx hb hK hP 2 1 rfl rfl (by omega) dX11_multiply_33 ?_
    refine lv_lconst (v := lI 0) hx hb dX11_multiply_34 (by decide) ?_
    have join55 : ∀ (H : Heap) (locs : List Loc), va_P G.1 vwCl [(m0, .inr (12, [.int (iI lim), .int (iI fa), .int (iI rf), .int (iI mk), .ref m4, .ref m5, .ref m6, .int (iI nk), .ref m8, .ref m9, .ref m10, .int (iI st), .int (iI wn), .ref m13, .ref m14, .ref m15, .ref m16, .ref m17, .int (iI dn), .int (iI hd), .ref m20, .ref m21, .int (iI md), .int (iI al), .ref m24, .ref m25, .ref m26, .ref m27, .ref m28, .ref m29, .int (iI sd)])), (m4, .inl (gI G, 61, .inl (fun j : Nat => iI (sz (j : Int))))), (m5, .inl (gL G, 61, .inr (.inl (fun j : Nat => lI (va (j : Int))))))] H → va_D A [(m0, .inr (12, [.int (iI lim), .int (iI fa), .int (iI rf), .int (iI mk), .ref m4, .ref m5, .ref m6, .int (iI nk), .ref m8, .ref m9, .ref m10, .int (iI st), .int (iI wn), .ref m13, .ref m14, .ref m15, .ref m16, .ref m17, .int (iI dn), .int (iI hd), .ref m20, .ref m21, .int (iI md), .int (iI al), .ref m24, .ref m25, .ref m26, .ref m27, .ref m28, .ref m29, .int (iI sd)])), (m4, .inl (gI G, 61, .inl (fun j : Nat => iI (sz (j : Int))))), (m5, .inl (gL G, 61, .inr (.inl (fun j : Nat => lI (va (j : Int))))))] → va_S A s.heap H locs → W p l e (rz 1 23) s m [.ref m0, .int (iI x), .int (iI y)].toArray below meth c H locs 0 0 Q (F0 m 55 ls [.long (lI ((Int.natAbs (va y) : Nat) : Int))]) := by
      intro H locs hP hD hS
      refine lv_lstore (lv' := [(5, .long (lI ((Int.natAbs (va y) : Nat) : Int))), (3, .long (lI ((Int.natAbs (va x) : Nat) : Int))), (0, .ref m0), (1, .int (iI x)), (2, .int (iI y))]) hx hb dX11_multiply_55 hl (by decide) rfl (fun ls hl => ?_)
      refine lv_lload_n hx hb dX11_multiply_57 rfl (lv_at hl 1 rfl) ?_
      refine lv_lconst (v := lI 0) hx hb dX11_multiply_58 (by decide) ?_
      refine z_lcmp_le (tgt := 84) hx hb dX11_multiply_59 dX11_multiply_60 (by decide) (by omega) (fun c_3 => ?_) (fun c_3 => ?_)
      · skip
        have hmu := mul_rng (m := pw (sz y) - 1) (a := va x) (b := va y) (Or.inl (by omega))
        refine lv_aload_n hx hb dX11_multiply_84 rfl (lv_at hl 2 rfl) ?_
        refine va_get (D := G.1) (ci := 12) (v := .ref m5) (C := RX11) (T := TX11) (N := 31) hx hb hts hiX11 hown hK hP 0 rfl rfl 5 (by decide) hw0 (fun _ h9 => h9) rfl dX11_multiply_85 ?_
        refine lv_iload_n hx hb dX11_multiply_88 rfl (lv_at hl 4 rfl) ?_
        refine lv_aload_n hx hb dX11_multiply_89 rfl (lv_at hl 2 rfl) ?_
        refine va_get (D := G.1) (ci := 12) (v := .ref m5) (C := RX11) (T := TX11) (N := 31) hx hb hts hiX11 hown hK hP 0 rfl rfl 5 (by decide) hw0 (fun _ h9 => h9) rfl dX11_multiply_90 ?_
        refine lv_iload_n hx hb dX11_multiply_93 rfl (lv_at hl 4 rfl) ?_
        refine z_lald hx hb hK hP 2 1 rfl rfl (by omega) dX11_multiply_94 ?_
        refine lv_aload_n hx hb dX11_multiply_95 rfl (lv_at hl 2 rfl) ?_
        refine va_get (D := G.1) (ci := 12) (v := .ref m5) (C := RX11) (T := TX11) (N := 31) hx hb hts hiX11 hown hK hP 0 rfl rfl 5 (by decide) hw0 (fun _ h9 => h9) rfl dX11_multiply_96 ?_
        refine lv_iload_n hx hb dX11_multiply_99 rfl (lv_at hl 3 rfl) ?_
        refine z_lald hx hb hK hP 2 1 rfl rfl (by omega) dX11_multiply_100 ?_
        refine z_lmul hx hb dX11_multiply_101 ?_
        refine z_last hx hb hK hP hD hS 2 1 rfl rfl (by omega) dX11_multiply_102 (fun H locs hP hD hS => ?_)
        have hP : va_P G.1 vwCl [(m0, .inr (12, [.int (iI lim), .int (iI fa), .int (iI rf), .int (iI mk), .ref m4, .ref m5, .ref m6, .int (iI nk), .ref m8, .ref m9, .ref m10, .int (iI st), .int (iI wn), .ref m13, .ref m14, .ref m15, .ref m16, .ref m17, .int (iI dn), .int (iI hd), .ref m20, .ref m21, .int (iI md), .int (iI al), .ref m24, .ref m25, .ref m26, .ref m27, .ref m28, .ref m29, .int (iI sd)])), (m4, .inl (gI G, 61, .inl (fun j : Nat => iI (sz (j : Int))))), (m5, .inl (gL G, 61, .inr (.inl (fun j : Nat => lI ((uF va y ((va y) * (va x))) (j : Int))))))] H := hP
        have hD : va_D A [(m0, .inr (12, [.int (iI lim), .int (iI fa), .int (iI rf), .int (iI mk), .ref m4, .ref m5, .ref m6, .int (iI nk), .ref m8, .ref m9, .ref m10, .int (iI st), .int (iI wn), .ref m13, .ref m14, .ref m15, .ref m16, .ref m17, .int (iI dn), .int (iI hd), .ref m20, .ref m21, .int (iI md), .int (iI al), .ref m24, .ref m25, .ref m26, .ref m27, .ref m28, .ref m29, .int (iI sd)])), (m4, .inl (gI G, 61, .inl (fun j : Nat => iI (sz (j : Int))))), (m5, .inl (gL G, 61, .inr (.inl (fun j : Nat => lI ((uF va y ((va y) * (va x))) (j : Int))))))] := hD
        refine lv_iconst (v := iI (1)) hx hb dX11_multiply_103 rfl ?_
        have e_4 : ((uF va y ((va y) * (va x))) : Int → Int) = (muV sz va x y) := by first | (rw [muV, if_pos (by omega)]; done) | (rw [muV, if_neg (fun q => by obtain ⟨q1, q2⟩ := q; omega), beV, if_neg (by omega)]; done) | (rw [muO, if_pos (by omega)] <;> try rfl) | (rw [muO, if_neg (fun q => by obtain ⟨q1, q2⟩ := q; omega), beO, if_neg (by omega)] <;> try rfl)
        have hP : va_P G.1 vwCl [(m0, .inr (12, [.int (iI lim), .int (iI fa), .int (iI rf), .int (iI mk), .ref m4, .ref m5, .ref m6, .int (iI nk), .ref m8, .ref m9, .ref m10, .int (iI st), .int (iI wn), .ref m13, .ref m14, .ref m15, .ref m16, .ref m17, .int (iI dn), .int (iI hd), .ref m20, .ref m21, .int (iI md), .int (iI al), .ref m24, .ref m25, .ref m26, .ref m27, .ref m28, .ref m29, .int (iI sd)])), (m4, .inl (gI G, 61, .inl (fun j : Nat => iI (sz (j : Int))))), (m5, .inl (gL G, 61, .inr (.inl (fun j : Nat => lI ((muV sz va x y) (j : Int))))))] H := by rw [← e_4]; exact hP
        have hD : va_D A [(m0, .inr (12, [.int (iI lim), .int (iI fa), .int (iI rf), .int (iI mk), .ref m4, .ref m5, .ref m6, .int (iI nk), .ref m8, .ref m9, .ref m10, .int (iI st), .int (iI wn), .ref m13, .ref m14, .ref m15, .ref m16, .ref m17, .int (iI dn), .int (iI hd), .ref m20, .ref m21, .int (iI md), .int (iI al), .ref m24, .ref m25, .ref m26, .ref m27, .ref m28, .ref m29, .int (iI sd)])), (m4, .inl (gI G, 61, .inl (fun j : Nat => iI (sz (j : Int))))), (m5, .inl (gL G, 61, .inr (.inl (fun j : Nat => lI ((muV sz va x y) (j : Int))))))] := by rw [← e_4]; exact hD
        have r_5 : (1 : Int) = (2 - muO sz va x y) := by first | (rw [muV, if_pos (by omega)]; done) | (rw [muV, if_neg (fun q => by obtain ⟨q1, q2⟩ := q; omega), beV, if_neg (by omega)]; done) | (rw [muO, if_pos (by omega)] <;> try rfl) | (rw [muO, if_neg (fun q => by obtain ⟨q1, q2⟩ := q; omega), beO, if_neg (by omega)] <;> try rfl)
        rw [r_5]
        exact hret _ ls H locs dX11_multiply_104 hP hD hS
      · skip
        refine lv_lload hx hb dX11_multiply_63 (lv_at hl 0 rfl) ?_
        refine lv_aload_n hx hb dX11_multiply_65 rfl (lv_at hl 2 rfl) ?_
        refine va_get (D := G.1) (ci := 12) (v := .ref m4) (C := RX11) (T := TX11) (N := 31) hx hb hts hiX11 hown hK hP 0 rfl rfl 4 (by decide) hw1 (fun _ h9 => h9) rfl dX11_multiply_66 ?_
        refine lv_iload_n hx hb dX11_multiply_69 rfl (lv_at hl 4 rfl) ?_
        refine z_iald hx hb hK hP 1 0 rfl rfl (by omega) dX11_multiply_70 ?_
        refine z_cSl (RV := (pw (sz y))) (As := [.int (iI (sz y))]) (rest := [.long (lI ((Int.natAbs (va y) : Nat) : Int))]) (wc := []) (wr := [(m0, .inr (12, [.int (iI lim), .int (iI fa), .int (iI rf), .int (iI mk), .ref m4, .ref m5, .ref m6, .int (iI nk), .ref m8, .ref m9, .ref m10, .int (iI st), .int (iI wn), .ref m13, .ref m14, .ref m15, .ref m16, .ref m17, .int (iI dn), .int (iI hd), .ref m20, .ref m21, .int (iI md), .int (iI al), .ref m24, .ref m25, .ref m26, .ref m27, .ref m28, .ref m29, .int (iI sd)])), (m4, .inl (gI G, 61, .inl (fun j : Nat => iI (sz (j : Int))))), (m5, .inl (gL G, 61, .inr (.inl (fun j : Nat => lI (va (j : Int))))))]) (wn := [(m0, .inr (12, [.int (iI lim), .int (iI fa), .int (iI rf), .int (iI mk), .ref m4, .ref m5, .ref m6, .int (iI nk), .ref m8, .ref m9, .ref m10, .int (iI st), .int (iI wn), .ref m13, .ref m14, .ref m15, .ref m16, .ref m17, .int (iI dn), .int (iI hd), .ref m20, .ref m21, .int (iI md), .int (iI al), .ref m24, .ref m25, .ref m26, .ref m27, .ref m28, .ref m29, .int (iI sd)])), (m4, .inl (gI G, 61, .inl (fun j : Nat => iI (sz (j : Int))))), (m5, .inl (gL G, 61, .inr (.inl (fun j : Nat => lI (va (j : Int))))))]) F C (c_X11_power l G H.size (sz y) (by omega)) (va_cwS 1 hts gX11_multiply_X11_power rfl rfl rfl (by decide +kernel) (by decide)) hP hD hS [] [0, 1, 2] rfl rfl (by decide) rfl rfl hl.1 rfl (Nat.le_of_ble_eq_true rfl) dX11_multiply_71 (by decide) (fun H locs hP hD hS => ?_)
        refine lv_lconst (v := lI 1) hx hb dX11_multiply_74 (by decide) ?_
        refine z_lsub hx hb dX11_multiply_75 ?_
        refine lv_lload_n hx hb dX11_multiply_76 rfl (lv_at hl 1 rfl) ?_
        refine z_ldivP hx hb dX11_multiply_77 (by omega) ?_
        refine z_lcmp_le (tgt := 84) hx hb dX11_multiply_78 dX11_multiply_79 (by decide) (by have := Int.natAbs_tdiv_le_natAbs (pw (sz y) - 1) ((Int.natAbs (va x) : Nat) : Int); omega) (fun c_6 => ?_) (fun c_6 => ?_)
        · skip
          have hmu := mul_rng (m := pw (sz y) - 1) (a := va x) (b := va y) (Or.inr ⟨by omega, by omega, c_6⟩)
          refine lv_aload_n hx hb dX11_multiply_84 rfl (lv_at hl 2 rfl) ?_
          refine va_get (D := G.1) (ci := 12) (v := .ref m5) (C := RX11) (T := TX11) (N := 31) hx hb hts hiX11 hown hK hP 0 rfl rfl 5 (by decide) hw0 (fun _ h9 => h9) rfl dX11_multiply_85 ?_
          refine lv_iload_n hx hb dX11_multiply_88 rfl (lv_at hl 4 rfl) ?_
          refine lv_aload_n hx hb dX11_multiply_89 rfl (lv_at hl 2 rfl) ?_
          refine va_get (D := G.1) (ci := 12) (v := .ref m5) (C := RX11) (T := TX11) (N := 31) hx hb hts hiX11 hown hK hP 0 rfl rfl 5 (by decide) hw0 (fun _ h9 => h9) rfl dX11_multiply_90 ?_
          refine lv_iload_n hx hb dX11_multiply_93 rfl (lv_at hl 4 rfl) ?_
          refine z_lald hx hb hK hP 2 1 rfl rfl (by omega) dX11_multiply_94 ?_
          refine lv_aload_n hx hb dX11_multiply_95 rfl (lv_at hl 2 rfl) ?_
          refine va_get (D := G.1) (ci := 12) (v := .ref m5) (C := RX11) (T := TX11) (N := 31) hx hb hts hiX11 hown hK hP 0 rfl rfl 5 (by decide) hw0 (fun _ h9 => h9) rfl dX11_multiply_96 ?_
          refine lv_iload_n hx hb dX11_multiply_99 rfl (lv_at hl 3 rfl) ?_
          refine z_lald hx hb hK hP 2 1 rfl rfl (by omega) dX11_multiply_100 ?_
          refine z_lmul hx hb dX11_multiply_101 ?_
          refine z_last hx hb hK hP hD hS 2 1 rfl rfl (by omega) dX11_multiply_102 (fun H locs hP hD hS => ?_)
          have hP : va_P G.1 vwCl [(m0, .inr (12, [.int (iI lim), .int (iI fa), .int (iI rf), .int (iI mk), .ref m4, .ref m5, .ref m6, .int (iI nk), .ref m8, .ref m9, .ref m10, .int (iI st), .int (iI wn), .ref m13, .ref m14, .ref m15, .ref m16, .ref m17, .int (iI dn), .int (iI hd), .ref m20, .ref m21, .int (iI md), .int (iI al), .ref m24, .ref m25, .ref m26, .ref m27, .ref m28, .ref m29, .int (iI sd)])), (m4, .inl (gI G, 61, .inl (fun j : Nat => iI (sz (j : Int))))), (m5, .inl (gL G, 61, .inr (.inl (fun j : Nat => lI ((uF va y ((va y) * (va x))) (j : Int))))))] H := hP
          have hD : va_D A [(m0, .inr (12, [.int (iI lim), .int (iI fa), .int (iI rf), .int (iI mk), .ref m4, .ref m5, .ref m6, .int (iI nk), .ref m8, .ref m9, .ref m10, .int (iI st), .int (iI wn), .ref m13, .ref m14, .ref m15, .ref m16, .ref m17, .int (iI dn), .int (iI hd), .ref m20, .ref m21, .int (iI md), .int (iI al), .ref m24, .ref m25, .ref m26, .ref m27, .ref m28, .ref m29, .int (iI sd)])), (m4, .inl (gI G, 61, .inl (fun j : Nat => iI (sz (j : Int))))), (m5, .inl (gL G, 61, .inr (.inl (fun j : Nat => lI ((uF va y ((va y) * (va x))) (j : Int))))))] := hD
          refine lv_iconst (v := iI (1)) hx hb dX11_multiply_103 rfl ?_
          have e_7 : ((uF va y ((va y) * (va x))) : Int → Int) = (muV sz va x y) := by first | (rw [muV, if_pos (by omega)]; done) | (rw [muV, if_neg (fun q => by obtain ⟨q1, q2⟩ := q; omega), beV, if_neg (by omega)]; done) | (rw [muO, if_pos (by omega)] <;> try rfl) | (rw [muO, if_neg (fun q => by obtain ⟨q1, q2⟩ := q; omega), beO, if_neg (by omega)] <;> try rfl)
          have hP : va_P G.1 vwCl [(m0, .inr (12, [.int (iI lim), .int (iI fa), .int (iI rf), .int (iI mk), .ref m4, .ref m5, .ref m6, .int (iI nk), .ref m8, .ref m9, .ref m10, .int (iI st), .int (iI wn), .ref m13, .ref m14, .ref m15, .ref m16, .ref m17, .int (iI dn), .int (iI hd), .ref m20, .ref m21, .int (iI md), .int (iI al), .ref m24, .ref m25, .ref m26, .ref m27, .ref m28, .ref m29, .int (iI sd)])), (m4, .inl (gI G, 61, .inl (fun j : Nat => iI (sz (j : Int))))), (m5, .inl (gL G, 61, .inr (.inl (fun j : Nat => lI ((muV sz va x y) (j : Int))))))] H := by rw [← e_7]; exact hP
          have hD : va_D A [(m0, .inr (12, [.int (iI lim), .int (iI fa), .int (iI rf), .int (iI mk), .ref m4, .ref m5, .ref m6, .int (iI nk), .ref m8, .ref m9, .ref m10, .int (iI st), .int (iI wn), .ref m13, .ref m14, .ref m15, .ref m16, .ref m17, .int (iI dn), .int (iI hd), .ref m20, .ref m21, .int (iI md), .int (iI al), .ref m24, .ref m25, .ref m26, .ref m27, .ref m28, .ref m29, .int (iI sd)])), (m4, .inl (gI G, 61, .inl (fun j : Nat => iI (sz (j : Int))))), (m5, .inl (gL G, 61, .inr (.inl (fun j : Nat => lI ((muV sz va x y) (j : Int))))))] := by rw [← e_7]; exact hD
          have r_8 : (1 : Int) = (2 - muO sz va x y) := by first | (rw [muV, if_pos (by omega)]; done) | (rw [muV, if_neg (fun q => by obtain ⟨q1, q2⟩ := q; omega), beV, if_neg (by omega)]; done) | (rw [muO, if_pos (by omega)] <;> try rfl) | (rw [muO, if_neg (fun q => by obtain ⟨q1, q2⟩ := q; omega), beO, if_neg (by omega)] <;> try rfl)
          rw [r_8]
          exact hret _ ls H locs dX11_multiply_104 hP hD hS
        · skip
          refine lv_iconst (v := iI (0)) hx hb dX11_multiply_82 rfl ?_
          have e_9 : (va : Int → Int) = (muV sz va x y) := by first | (rw [muV, if_pos (by omega)]; done) | (rw [muV, if_neg (fun q => by obtain ⟨q1, q2⟩ := q; omega), beV, if_neg (by omega)]; done) | (rw [muO, if_pos (by omega)] <;> try rfl) | (rw [muO, if_neg (fun q => by obtain ⟨q1, q2⟩ := q; omega), beO, if_neg (by omega)] <;> try rfl)
          have hP : va_P G.1 vwCl [(m0, .inr (12, [.int (iI lim), .int (iI fa), .int (iI rf), .int (iI mk), .ref m4, .ref m5, .ref m6, .int (iI nk), .ref m8, .ref m9, .ref m10, .int (iI st), .int (iI wn), .ref m13, .ref m14, .ref m15, .ref m16, .ref m17, .int (iI dn), .int (iI hd), .ref m20, .ref m21, .int (iI md), .int (iI al), .ref m24, .ref m25, .ref m26, .ref m27, .ref m28, .ref m29, .int (iI sd)])), (m4, .inl (gI G, 61, .inl (fun j : Nat => iI (sz (j : Int))))), (m5, .inl (gL G, 61, .inr (.inl (fun j : Nat => lI ((muV sz va x y) (j : Int))))))] H := by rw [← e_9]; exact hP
          have hD : va_D A [(m0, .inr (12, [.int (iI lim), .int (iI fa), .int (iI rf), .int (iI mk), .ref m4, .ref m5, .ref m6, .int (iI nk), .ref m8, .ref m9, .ref m10, .int (iI st), .int (iI wn), .ref m13, .ref m14, .ref m15, .ref m16, .ref m17, .int (iI dn), .int (iI hd), .ref m20, .ref m21, .int (iI md), .int (iI al), .ref m24, .ref m25, .ref m26, .ref m27, .ref m28, .ref m29, .int (iI sd)])), (m4, .inl (gI G, 61, .inl (fun j : Nat => iI (sz (j : Int))))), (m5, .inl (gL G, 61, .inr (.inl (fun j : Nat => lI ((muV sz va x y) (j : Int))))))] := by rw [← e_9]; exact hD
          have r_10 : (0 : Int) = (2 - muO sz va x y) := by first | (rw [muV, if_pos (by omega)]; done) | (rw [muV, if_neg (fun q => by obtain ⟨q1, q2⟩ := q; omega), beV, if_neg (by omega)]; done) | (rw [muO, if_pos (by omega)] <;> try rfl) | (rw [muO, if_neg (fun q => by obtain ⟨q1, q2⟩ := q; omega), beO, if_neg (by omega)] <;> try rfl)
          rw [r_10]
          exact hret _ ls H locs dX11_multiply_83 hP hD hS
    refine z_lcmp_ge (tgt := 49) hx hb dX11_multiply_35 dX11_multiply_36 (by decide) (by omega) (fun c_2 => ?_) (fun c_2 => ?_)
    · skip
      refine lv_aload_n hx hb dX11_multiply_49 rfl (lv_at hl 1 rfl) ?_
      refine va_get (D := G.1) (ci := 12) (v := .ref m5) (C := RX11) (T := TX11) (N := 31) hx hb hts hiX11 hown hK hP 0 rfl rfl 5 (by decide) hw0 (fun _ h9 => h9) rfl dX11_multiply_50 ?_
      refine lv_iload_n hx hb dX11_multiply_53 rfl (lv_at hl 3 rfl) ?_
      refine z_lald hx hb hK hP 2 1 rfl rfl (by omega) dX11_multiply_54 ?_
      refine z_top (w := .long (lI ((Int.natAbs (va y) : Nat) : Int))) (congrArg _ (congrArg lI (by omega))) ?_
      exact join55 H locs hP hD hS
    · skip
      refine lv_aload_n hx hb dX11_multiply_39 rfl (lv_at hl 1 rfl) ?_
      refine va_get (D := G.1) (ci := 12) (v := .ref m5) (C := RX11) (T := TX11) (N := 31) hx hb hts hiX11 hown hK hP 0 rfl rfl 5 (by decide) hw0 (fun _ h9 => h9) rfl dX11_multiply_40 ?_
      refine lv_iload_n hx hb dX11_multiply_43 rfl (lv_at hl 3 rfl) ?_
      refine z_lald hx hb hK hP 2 1 rfl rfl (by omega) dX11_multiply_44 ?_
      refine z_lneg hx hb dX11_multiply_45 ?_
      refine lv_goto (tgt := 55) hx hb dX11_multiply_46 (by decide) ?_
      refine z_top (w := .long (lI ((Int.natAbs (va y) : Nat) : Int))) (congrArg _ (congrArg lI (by omega))) ?_
      exact join55 H locs hP hD hS
  refine z_lcmp_ge (tgt := 21) hx hb dX11_multiply_7 dX11_multiply_8 (by decide) (by omega) (fun c_1 => ?_) (fun c_1 => ?_)
  · skip
    refine lv_aload_n hx hb dX11_multiply_21 rfl (lv_at hl 0 rfl) ?_
    refine va_get (D := G.1) (ci := 12) (v := .ref m5) (C := RX11) (T := TX11) (N := 31) hx hb hts hiX11 hown hK hP 0 rfl rfl 5 (by decide) hw0 (fun _ h9 => h9) rfl dX11_multiply_22 ?_
    refine lv_iload_n hx hb dX11_multiply_25 rfl (lv_at hl 1 rfl) ?_
    refine z_lald hx hb hK hP 2 1 rfl rfl (by omega) dX11_multiply_26 ?_
    refine z_top (w := .long (lI ((Int.natAbs (va x) : Nat) : Int))) (congrArg _ (congrArg lI (by omega))) ?_
    exact join27 H locs hP hD hS
  · skip
    refine lv_aload_n hx hb dX11_multiply_11 rfl (lv_at hl 0 rfl) ?_
    refine va_get (D := G.1) (ci := 12) (v := .ref m5) (C := RX11) (T := TX11) (N := 31) hx hb hts hiX11 hown hK hP 0 rfl rfl 5 (by decide) hw0 (fun _ h9 => h9) rfl dX11_multiply_12 ?_
    refine lv_iload_n hx hb dX11_multiply_15 rfl (lv_at hl 1 rfl) ?_
    refine z_lald hx hb hK hP 2 1 rfl rfl (by omega) dX11_multiply_16 ?_
    refine z_lneg hx hb dX11_multiply_17 ?_
    refine lv_goto (tgt := 27) hx hb dX11_multiply_18 (by decide) ?_
    refine z_top (w := .long (lI ((Int.natAbs (va x) : Nat) : Int))) (congrArg _ (congrArg lI (by omega))) ?_
    exact join27 H locs hP hD hS

