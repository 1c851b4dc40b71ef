set_option maxHeartbeats 4000000 in
set_option maxRecDepth 100000 in
theorem c_X11_record_p (l : Launch) (G : Gx) (zz : Nat) (m0 m4 m5 m6 m8 m9 m10 m13 m14 m15 m16 m17 m20 m21 m24 m25 m26 m27 m28 m29 : Nat) (lim fa rf mk nk st wn dn hd md al sd : Int) (ky fv : Int → Int) (x v : Int) (hfv : FV ky hd) (hxr : 0 ≤ x ∧ x < 4000000) (hlt : hd < 1000) : Cv l yX11_record wsX11_record (rz 0 0) G [.ref m0, .int (iI 1), .long (lI x), .long (lI v)] [(m0, .inr (12, [.int (iI lim), .int (iI fa), .int (iI rf), .int (iI mk), .ref m4, .ref m5, .ref m6, .int (iI nk), .ref m8, .ref m9, .ref m10, .int (iI st), .int (iI wn), .ref m13, .ref m14, .ref m15, .ref m16, .ref m17, .int (iI dn), .int (iI hd), .ref m20, .ref m21, .int (iI md), .int (iI al), .ref m24, .ref m25, .ref m26, .ref m27, .ref m28, .ref m29, .int (iI sd)])), (m20, .inl (gL G, 1000, .inr (.inl (fun j : Nat => lI (ky (j : Int)))))), (m21, .inl (gL G, 1000, .inr (.inl (fun j : Nat => lI (fv (j : Int))))))] zz [(m0, .inr (12, [.int (iI lim), .int (iI fa), .int (iI rf), .int (iI mk), .ref m4, .ref m5, .ref m6, .int (iI nk), .ref m8, .ref m9, .ref m10, .int (iI st), .int (iI wn), .ref m13, .ref m14, .ref m15, .ref m16, .ref m17, .int (iI dn), .int (iI (pH ky hd x)), .ref m20, .ref m21, .int (iI md), .int (iI al), .ref m24, .ref m25, .ref m26, .ref m27, .ref m28, .ref m29, .int (iI sd)])), (m20, .inl (gL G, 1000, .inr (.inl (fun j : Nat => lI ((pK ky hd x) (j : Int)))))), (m21, .inl (gL G, 1000, .inr (.inl (fun j : Nat => lI ((pV ky fv hd x v) (j : Int))))))] := by
  refine met_v (cc := cX11_record) (maxL := 9) (by decide) rfl (Nat.le_of_ble_eq_true rfl) ⟨rfl, rfl⟩ ?_
  intro p e s m below meth c A Q F C hP hD hS hret ls hl
  obtain ⟨hx, hb, hml, hown, hts⟩ := id F
  obtain ⟨hK, hA, hZ, hT, hN⟩ := id C
  have hl : lv_has ls 9 [(0, .ref m0), (1, .int (iI 1)), (2, .long (lI x)), (4, .long (lI v))] := hl
  obtain ⟨H, hH⟩ : ∃ H, H = s.heap := ⟨_, rfl⟩
  obtain ⟨locs, hlocs⟩ : ∃ l : List Loc, l = [] := ⟨_, rfl⟩
  have hS : va_S A s.heap H locs := by rw [hH, hlocs]; exact hS
  have hP : va_P G.1 vwCl [(m0, .inr (12, [.int (iI lim), .int (iI fa), .int (iI rf), .int (iI mk), .ref m4, .ref m5, .ref m6, .int (iI nk), .ref m8, .ref m9, .ref m10, .int (iI st), .int (iI wn), .ref m13, .ref m14, .ref m15, .ref m16, .ref m17, .int (iI dn), .int (iI hd), .ref m20, .ref m21, .int (iI md), .int (iI al), .ref m24, .ref m25, .ref m26, .ref m27, .ref m28, .ref m29, .int (iI sd)])), (m20, .inl (gL G, 1000, .inr (.inl (fun j : Nat => lI (ky (j : Int)))))), (m21, .inl (gL G, 1000, .inr (.inl (fun j : Nat => lI (fv (j : Int))))))] H := by rw [hH]; exact hP
  suffices hgo : W p l e (rz 0 0) s m [.ref m0, .int (iI 1), .long (lI x), .long (lI v)].toArray below meth c H locs 0 0 Q (F0 m 0 ls []) by rw [hH, hlocs] at hgo; exact hgo
  have hiX11 : ∀ w ∈ wsX110, w ∈ wsX11_record := by decide +kernel
  have hw0 := hts (Cond.fieldLink RX11 178 "PlainCobolModel" "records" "I") (List.mem_of_getElem? (i := 1) rfl)
  have hw1 := hts (Cond.fieldLink RX11 44 "PlainCobolModel" "keys" "[J") (List.mem_of_getElem? (i := 2) rfl)
  have hw2 := hts (Cond.fieldLink RX11 47 "PlainCobolModel" "contents" "[J") (List.mem_of_getElem? (i := 3) rfl)
  obtain ⟨hh, hso, hky⟩ := id hfv
  obtain ⟨hc1, hc2⟩ := cnt_z (x := x) hh.1 hso
  refine lv_iconst (v := iI (0)) hx hb dX11_record_0 rfl ?_
  refine lv_istore (lv' := [(6, .int (iI 0)), (0, .ref m0), (1, .int (iI 1)), (2, .long (lI x)), (4, .long (lI v))]) hx hb dX11_record_1 hl (by decide) rfl (fun ls hl => ?_)
  have loop3 : ∀ (N : Nat) (i : Int) (H : Heap) (locs : List Loc) (ls : Array Slot), ((hd - i).toNat) < N → (0 ≤ i ∧ i ≤ (cnt ky x hd.toNat)) → va_P G.1 vwCl [(m0, .inr (12, [.int (iI lim), .int (iI fa), .int (iI rf), .int (iI mk), .ref m4, .ref m5, .ref m6, .int (iI nk), .ref m8, .ref m9, .ref m10, .int (iI st), .int (iI wn), .ref m13, .ref m14, .ref m15, .ref m16, .ref m17, .int (iI dn), .int (iI hd), .ref m20, .ref m21, .int (iI md), .int (iI al), .ref m24, .ref m25, .ref m26, .ref m27, .ref m28, .ref m29, .int (iI sd)])), (m20, .inl (gL G, 1000, .inr (.inl (fun j : Nat => lI (ky (j : Int)))))), (m21, .inl (gL G, 1000, .inr (.inl (fun j : Nat => lI (fv (j : Int))))))] H → va_D A [(m0, .inr (12, [.int (iI lim), .int (iI fa), .int (iI rf), .int (iI mk), .ref m4, .ref m5, .ref m6, .int (iI nk), .ref m8, .ref m9, .ref m10, .int (iI st), .int (iI wn), .ref m13, .ref m14, .ref m15, .ref m16, .ref m17, .int (iI dn), .int (iI hd), .ref m20, .ref m21, .int (iI md), .int (iI al), .ref m24, .ref m25, .ref m26, .ref m27, .ref m28, .ref m29, .int (iI sd)])), (m20, .inl (gL G, 1000, .inr (.inl (fun j : Nat => lI (ky (j : Int)))))), (m21, .inl (gL G, 1000, .inr (.inl (fun j : Nat => lI (fv (j : Int))))))] → va_S A s.heap H locs → lv_has ls 9 [(0, .ref m0), (1, .int (iI 1)), (2, .long (lI x)), (4, .long (lI v)), (6, .int (iI i))] → W p l e (rz 0 0) s m [.ref m0, .int (iI 1), .long (lI x), .long (lI v)].toArray below meth c H locs 0 0 Q (F0 m 3 ls []) := by
    intro N
    induction N with
    | zero => intro i H locs ls hm; exact absurd hm (Nat.not_lt_zero _)
    | succ N ih3 =>
      intro i H locs ls hm ji hP hD hS hl
      refine lv_iload hx hb dX11_record_3 (lv_at hl 4 rfl) ?_
      refine lv_aload_n hx hb dX11_record_5 rfl (lv_at hl 0 rfl) ?_
      refine va_get (D := G.1) (ci := 12) (v := .int (iI hd)) (C := RX11) (T := TX11) (N := 31) hx hb hts hiX11 hown hK hP 0 rfl rfl 19 (by decide) hw0 (fun _ h9 => h9) rfl dX11_record_6 ?_
      refine z_icmp_ge (tgt := 30) hx hb dX11_record_9 (by decide) (by omega) (fun c_1 => ?_) (fun c_1 => ?_)
      · skip
        have hic : i = (cnt ky x hd.toNat) := by omega
        refine lv_iload hx hb dX11_record_30 (lv_at hl 4 rfl) ?_
        refine lv_aload_n hx hb dX11_record_32 rfl (lv_at hl 0 rfl) ?_
        refine va_get (D := G.1) (ci := 12) (v := .int (iI hd)) (C := RX11) (T := TX11) (N := 31) hx hb hts hiX11 hown hK hP 0 rfl rfl 19 (by decide) hw0 (fun _ h9 => h9) rfl dX11_record_33 ?_
        have join56 : ∀ (H : Heap) (locs : List Loc), va_P G.1 vwCl [(m0, .inr (12, [.int (iI lim), .int (iI fa), .int (iI rf), .int (iI mk), .ref m4, .ref m5, .ref m6, .int (iI nk), .ref m8, .ref m9, .ref m10, .int (iI st), .int (iI wn), .ref m13, .ref m14, .ref m15, .ref m16, .ref m17, .int (iI dn), .int (iI hd), .ref m20, .ref m21, .int (iI md), .int (iI al), .ref m24, .ref m25, .ref m26, .ref m27, .ref m28, .ref m29, .int (iI sd)])), (m20, .inl (gL G, 1000, .inr (.inl (fun j : Nat => lI (ky (j : Int)))))), (m21, .inl (gL G, 1000, .inr (.inl (fun j : Nat => lI (fv (j : Int))))))] H → va_D A [(m0, .inr (12, [.int (iI lim), .int (iI fa), .int (iI rf), .int (iI mk), .ref m4, .ref m5, .ref m6, .int (iI nk), .ref m8, .ref m9, .ref m10, .int (iI st), .int (iI wn), .ref m13, .ref m14, .ref m15, .ref m16, .ref m17, .int (iI dn), .int (iI hd), .ref m20, .ref m21, .int (iI md), .int (iI al), .ref m24, .ref m25, .ref m26, .ref m27, .ref m28, .ref m29, .int (iI sd)])), (m20, .inl (gL G, 1000, .inr (.inl (fun j : Nat => lI (ky (j : Int)))))), (m21, .inl (gL G, 1000, .inr (.inl (fun j : Nat => lI (fv (j : Int))))))] → va_S A s.heap H locs → W p l e (rz 0 0) s m [.ref m0, .int (iI 1), .long (lI x), .long (lI v)].toArray below meth c H locs 0 0 Q (F0 m 56 ls [.int (iI (if (cnt ky x hd.toNat < hd ∧ ky (cnt ky x hd.toNat) = x) then 1 else 0))]) := by
          intro H locs hP hD hS
          refine lv_istore (lv' := [(7, .int (iI (if (cnt ky x hd.toNat < hd ∧ ky (cnt ky x hd.toNat) = x) then 1 else 0))), (0, .ref m0), (1, .int (iI 1)), (2, .long (lI x)), (4, .long (lI v)), (6, .int (iI i))]) hx hb dX11_record_56 hl (by decide) rfl (fun ls hl => ?_)
          refine lv_iload_n hx hb dX11_record_58 rfl (lv_at hl 2 rfl) ?_
          refine z_if_eq (tgt := 128) hx hb dX11_record_59 (by decide) (by omega) (fun c_3 => ?_) (fun c_3 => ?_)
          · skip
            exfalso; omega
          · skip
            refine lv_iload hx hb dX11_record_62 (lv_at hl 0 rfl) ?_
            refine z_if_ne (tgt := 128) hx hb dX11_record_64 (by decide) (by split <;> omega) (fun c_4 => ?_) (fun c_4 => ?_)
            · skip
              have qc_4 := if_ne0 c_4
              have qF := if_ne0 c_4
              refine lv_iload_n hx hb dX11_record_128 rfl (lv_at hl 2 rfl) ?_
              refine z_if_eq (tgt := 152) hx hb dX11_record_129 (by decide) (by omega) (fun c_5 => ?_) (fun c_5 => ?_)
              · skip
                exfalso; omega
              · skip
                refine lv_aload_n hx hb dX11_record_132 rfl (lv_at hl 1 rfl) ?_
                refine va_get (D := G.1) (ci := 12) (v := .ref m20) (C := RX11) (T := TX11) (N := 31) hx hb hts hiX11 hown hK hP 0 rfl rfl 20 (by decide) hw1 (fun _ h9 => h9) rfl dX11_record_133 ?_
                refine lv_iload hx hb dX11_record_136 (lv_at hl 5 rfl) ?_
                refine lv_lload_n hx hb dX11_record_138 rfl (lv_at hl 3 rfl) ?_
                refine z_last hx hb hK hP hD hS 1 1 rfl rfl (by omega) dX11_record_139 (fun H locs hP hD hS => ?_)
                have hP : va_P G.1 vwCl [(m0, .inr (12, [.int (iI lim), .int (iI fa), .int (iI rf), .int (iI mk), .ref m4, .ref m5, .ref m6, .int (iI nk), .ref m8, .ref m9, .ref m10, .int (iI st), .int (iI wn), .ref m13, .ref m14, .ref m15, .ref m16, .ref m17, .int (iI dn), .int (iI hd), .ref m20, .ref m21, .int (iI md), .int (iI al), .ref m24, .ref m25, .ref m26, .ref m27, .ref m28, .ref m29, .int (iI sd)])), (m20, .inl (gL G, 1000, .inr (.inl (fun j : Nat => lI ((uF ky i x) (j : Int)))))), (m21, .inl (gL G, 1000, .inr (.inl (fun j : Nat => lI (fv (j : Int))))))] H := hP
                have hD : va_D A [(m0, .inr (12, [.int (iI lim), .int (iI fa), .int (iI rf), .int (iI mk), .ref m4, .ref m5, .ref m6, .int (iI nk), .ref m8, .ref m9, .ref m10, .int (iI st), .int (iI wn), .ref m13, .ref m14, .ref m15, .ref m16, .ref m17, .int (iI dn), .int (iI hd), .ref m20, .ref m21, .int (iI md), .int (iI al), .ref m24, .ref m25, .ref m26, .ref m27, .ref m28, .ref m29, .int (iI sd)])), (m20, .inl (gL G, 1000, .inr (.inl (fun j : Nat => lI ((uF ky i x) (j : Int)))))), (m21, .inl (gL G, 1000, .inr (.inl (fun j : Nat => lI (fv (j : Int))))))] := hD
                refine lv_aload_n hx hb dX11_record_140 rfl (lv_at hl 1 rfl) ?_
                refine va_get (D := G.1) (ci := 12) (v := .ref m21) (C := RX11) (T := TX11) (N := 31) hx hb hts hiX11 hown hK hP 0 rfl rfl 21 (by decide) hw2 (fun _ h9 => h9) rfl dX11_record_141 ?_
                refine lv_iload hx hb dX11_record_144 (lv_at hl 5 rfl) ?_
                refine lv_lload hx hb dX11_record_146 (lv_at hl 4 rfl) ?_
                refine z_last hx hb hK hP hD hS 2 1 rfl rfl (by omega) dX11_record_148 (fun H locs hP hD hS => ?_)
                have hP : va_P G.1 vwCl [(m0, .inr (12, [.int (iI lim), .int (iI fa), .int (iI rf), .int (iI mk), .ref m4, .ref m5, .ref m6, .int (iI nk), .ref m8, .ref m9, .ref m10, .int (iI st), .int (iI wn), .ref m13, .ref m14, .ref m15, .ref m16, .ref m17, .int (iI dn), .int (iI hd), .ref m20, .ref m21, .int (iI md), .int (iI al), .ref m24, .ref m25, .ref m26, .ref m27, .ref m28, .ref m29, .int (iI sd)])), (m20, .inl (gL G, 1000, .inr (.inl (fun j : Nat => lI ((uF ky i x) (j : Int)))))), (m21, .inl (gL G, 1000, .inr (.inl (fun j : Nat => lI ((uF fv i v) (j : Int))))))] H := hP
                have hD : va_D A [(m0, .inr (12, [.int (iI lim), .int (iI fa), .int (iI rf), .int (iI mk), .ref m4, .ref m5, .ref m6, .int (iI nk), .ref m8, .ref m9, .ref m10, .int (iI st), .int (iI wn), .ref m13, .ref m14, .ref m15, .ref m16, .ref m17, .int (iI dn), .int (iI hd), .ref m20, .ref m21, .int (iI md), .int (iI al), .ref m24, .ref m25, .ref m26, .ref m27, .ref m28, .ref m29, .int (iI sd)])), (m20, .inl (gL G, 1000, .inr (.inl (fun j : Nat => lI ((uF ky i x) (j : Int)))))), (m21, .inl (gL G, 1000, .inr (.inl (fun j : Nat => lI ((uF fv i v) (j : Int))))))] := hD
                refine lv_goto (tgt := 218) hx hb dX11_record_149 (by decide) ?_
                have e_6 : (hd : Int) = (pH ky hd x) := by first | (rw [pH, if_pos qF]; done) | (rw [pH, if_neg qF]; done) | (rw [pK, if_pos qF, hic]; exact uF_same qF.2) | (rw [pV, if_pos qF, hic]) | (rw [pK, if_neg qF, jk, show q = i by omega, hic]) | (rw [pV, if_neg qF, jf, show q = i by omega, hic])
                have e_7 : ((uF ky i x) : Int → Int) = (pK ky hd x) := by first | (rw [pH, if_pos qF]; done) | (rw [pH, if_neg qF]; done) | (rw [pK, if_pos qF, hic]; exact uF_same qF.2) | (rw [pV, if_pos qF, hic]) | (rw [pK, if_neg qF, jk, show q = i by omega, hic]) | (rw [pV, if_neg qF, jf, show q = i by omega, hic])
                have e_8 : ((uF fv i v) : Int → Int) = (pV ky fv hd x v) := by first | (rw [pH, if_pos qF]; done) | (rw [pH, if_neg qF]; done) | (rw [pK, if_pos qF, hic]; exact uF_same qF.2) | (rw [pV, if_pos qF, hic]) | (rw [pK, if_neg qF, jk, show q = i by omega, hic]) | (rw [pV, if_neg qF, jf, show q = i by omega, hic])
                have hP : va_P G.1 vwCl [(m0, .inr (12, [.int (iI lim), .int (iI fa), .int (iI rf), .int (iI mk), .ref m4, .ref m5, .ref m6, .int (iI nk), .ref m8, .ref m9, .ref m10, .int (iI st), .int (iI wn), .ref m13, .ref m14, .ref m15, .ref m16, .ref m17, .int (iI dn), .int (iI (pH ky hd x)), .ref m20, .ref m21, .int (iI md), .int (iI al), .ref m24, .ref m25, .ref m26, .ref m27, .ref m28, .ref m29, .int (iI sd)])), (m20, .inl (gL G, 1000, .inr (.inl (fun j : Nat => lI ((pK ky hd x) (j : Int)))))), (m21, .inl (gL G, 1000, .inr (.inl (fun j : Nat => lI ((pV ky fv hd x v) (j : Int))))))] H := by rw [← e_6, ← e_7, ← e_8]; exact hP
                have hD : va_D A [(m0, .inr (12, [.int (iI lim), .int (iI fa), .int (iI rf), .int (iI mk), .ref m4, .ref m5, .ref m6, .int (iI nk), .ref m8, .ref m9, .ref m10, .int (iI st), .int (iI wn), .ref m13, .ref m14, .ref m15, .ref m16, .ref m17, .int (iI dn), .int (iI (pH ky hd x)), .ref m20, .ref m21, .int (iI md), .int (iI al), .ref m24, .ref m25, .ref m26, .ref m27, .ref m28, .ref m29, .int (iI sd)])), (m20, .inl (gL G, 1000, .inr (.inl (fun j : Nat => lI ((pK ky hd x) (j : Int)))))), (m21, .inl (gL G, 1000, .inr (.inl (fun j : Nat => lI ((pV ky fv hd x v) (j : Int))))))] := by rw [← e_6, ← e_7, ← e_8]; exact hD
                exact hret _ ls H locs dX11_record_218 hP hD hS
            · skip
              have qc_4 := if_eq0 c_4
              have qF := if_eq0 c_4
              refine lv_aload_n hx hb dX11_record_67 rfl (lv_at hl 1 rfl) ?_
              refine va_get (D := G.1) (ci := 12) (v := .int (iI hd)) (C := RX11) (T := TX11) (N := 31) hx hb hts hiX11 hown hK hP 0 rfl rfl 19 (by decide) hw0 (fun _ h9 => h9) rfl dX11_record_68 ?_
              refine lv_istore (lv' := [(8, .int (iI hd)), (7, .int (iI (if (cnt ky x hd.toNat < hd ∧ ky (cnt ky x hd.toNat) = x) then 1 else 0))), (0, .ref m0), (1, .int (iI 1)), (2, .long (lI x)), (4, .long (lI v)), (6, .int (iI i))]) hx hb dX11_record_71 hl (by decide) rfl (fun ls hl => ?_)
              have loop73 : ∀ (N : Nat) (q : Int) (xk xf : Int → Int) (H : Heap) (locs : List Loc) (ls : Array Slot), ((q - i).toNat) < N → (i ≤ q ∧ q ≤ hd) → (xk = cF ky ky q (q + 1) (hd - q)) → (xf = cF fv fv q (q + 1) (hd - q)) → va_P G.1 vwCl [(m0, .inr (12, [.int (iI lim), .int (iI fa), .int (iI rf), .int (iI mk), .ref m4, .ref m5, .ref m6, .int (iI nk), .ref m8, .ref m9, .ref m10, .int (iI st), .int (iI wn), .ref m13, .ref m14, .ref m15, .ref m16, .ref m17, .int (iI dn), .int (iI hd), .ref m20, .ref m21, .int (iI md), .int (iI al), .ref m24, .ref m25, .ref m26, .ref m27, .ref m28, .ref m29, .int (iI sd)])), (m20, .inl (gL G, 1000, .inr (.inl (fun j : Nat => lI (xk (j : Int)))))), (m21, .inl (gL G, 1000, .inr (.inl (fun j : Nat => lI (xf (j : Int))))))] H → va_D A [(m0, .inr (12, [.int (iI lim), .int (iI fa), .int (iI rf), .int (iI mk), .ref m4, .ref m5, .ref m6, .int (iI nk), .ref m8, .ref m9, .ref m10, .int (iI st), .int (iI wn), .ref m13, .ref m14, .ref m15, .ref m16, .ref m17, .int (iI dn), .int (iI hd), .ref m20, .ref m21, .int (iI md), .int (iI al), .ref m24, .ref m25, .ref m26, .ref m27, .ref m28, .ref m29, .int (iI sd)])), (m20, .inl (gL G, 1000, .inr (.inl (fun j : Nat => lI (xk (j : Int)))))), (m21, .inl (gL G, 1000, .inr (.inl (fun j : Nat => lI (xf (j : Int))))))] → va_S A s.heap H locs → lv_has ls 9 [(0, .ref m0), (1, .int (iI 1)), (2, .long (lI x)), (4, .long (lI v)), (6, .int (iI i)), (7, .int (iI (if cnt ky x hd.toNat < hd ∧ ky (cnt ky x hd.toNat) = x then 1 else 0))), (8, .int (iI q))] → W p l e (rz 0 0) s m [.ref m0, .int (iI 1), .long (lI x), .long (lI v)].toArray below meth c H locs 0 0 Q (F0 m 73 ls []) := by
                intro N
                induction N with
                | zero => intro q xk xf H locs ls hm; exact absurd hm (Nat.not_lt_zero _)
                | succ N ih73 =>
                  intro q xk xf H locs ls hm jq jk jf hP hD hS hl
                  refine lv_iload hx hb dX11_record_73 (lv_at hl 6 rfl) ?_
                  refine lv_iload hx hb dX11_record_75 (lv_at hl 4 rfl) ?_
                  refine z_icmp_le (tgt := 118) hx hb dX11_record_77 (by decide) (by omega) (fun c_9 => ?_) (fun c_9 => ?_)
                  · skip
                    refine lv_aload_n hx hb dX11_record_118 rfl (lv_at hl 0 rfl) ?_
                    refine lv_dup hx hb dX11_record_119 rfl ?_
                    refine va_get (D := G.1) (ci := 12) (v := .int (iI hd)) (C := RX11) (T := TX11) (N := 31) hx hb hts hiX11 hown hK hP 0 rfl rfl 19 (by decide) hw0 (fun _ h9 => h9) rfl dX11_record_120 ?_
                    refine lv_iconst (v := iI (1)) hx hb dX11_record_123 rfl ?_
                    refine z_iadd hx hb dX11_record_124 ?_
                    refine va_put (D := G.1) (ci := 12) (v := .int (iI (hd + 1))) (ty := .int) (C := RX11) (T := TX11) (N := 31) hx hb hts hiX11 tyX11 tyX11_ok nmX11 hown hK hP hD hS 0 rfl rfl 19 (by decide) hw0 (fun _ h9 => h9) rfl (by decide +kernel) rfl rfl (Nat.le_of_ble_eq_true rfl) dX11_record_125 (fun H locs hP hD hS => ?_)
                    have hP : va_P G.1 vwCl [(m0, .inr (12, [.int (iI lim), .int (iI fa), .int (iI rf), .int (iI mk), .ref m4, .ref m5, .ref m6, .int (iI nk), .ref m8, .ref m9, .ref m10, .int (iI st), .int (iI wn), .ref m13, .ref m14, .ref m15, .ref m16, .ref m17, .int (iI dn), .int (iI (hd + 1)), .ref m20, .ref m21, .int (iI md), .int (iI al), .ref m24, .ref m25, .ref m26, .ref m27, .ref m28, .ref m29, .int (iI sd)])), (m20, .inl (gL G, 1000, .inr (.inl (fun j : Nat => lI (xk (j : Int)))))), (m21, .inl (gL G, 1000, .inr (.inl (fun j : Nat => lI (xf (j : Int))))))] H := hP
                    have hD : va_D A [(m0, .inr (12, [.int (iI lim), .int (iI fa), .int (iI rf), .int (iI mk), .ref m4, .ref m5, .ref m6, .int (iI nk), .ref m8, .ref m9, .ref m10, .int (iI st), .int (iI wn), .ref m13, .ref m14, .ref m15, .ref m16, .ref m17, .int (iI dn), .int (iI (hd + 1)), .ref m20, .ref m21, .int (iI md), .int (iI al), .ref m24, .ref m25, .ref m26, .ref m27, .ref m28, .ref m29, .int (iI sd)])), (m20, .inl (gL G, 1000, .inr (.inl (fun j : Nat => lI (xk (j : Int)))))), (m21, .inl (gL G, 1000, .inr (.inl (fun j : Nat => lI (xf (j : Int))))))] := hD
                    refine lv_iload_n hx hb dX11_record_128 rfl (lv_at hl 1 rfl) ?_
                    refine z_if_eq (tgt := 152) hx hb dX11_record_129 (by decide) (by omega) (fun c_10 => ?_) (fun c_10 => ?_)
                    · skip
                      exfalso; omega
                    · skip
                      refine lv_aload_n hx hb dX11_record_132 rfl (lv_at hl 0 rfl) ?_
                      refine va_get (D := G.1) (ci := 12) (v := .ref m20) (C := RX11) (T := TX11) (N := 31) hx hb hts hiX11 hown hK hP 0 rfl rfl 20 (by decide) hw1 (fun _ h9 => h9) rfl dX11_record_133 ?_
                      refine lv_iload hx hb dX11_record_136 (lv_at hl 4 rfl) ?_
                      refine lv_lload_n hx hb dX11_record_138 rfl (lv_at hl 2 rfl) ?_
                      refine z_last hx hb hK hP hD hS 1 1 rfl rfl (by omega) dX11_record_139 (fun H locs hP hD hS => ?_)
                      have hP : va_P G.1 vwCl [(m0, .inr (12, [.int (iI lim), .int (iI fa), .int (iI rf), .int (iI mk), .ref m4, .ref m5, .ref m6, .int (iI nk), .ref m8, .ref m9, .ref m10, .int (iI st), .int (iI wn), .ref m13, .ref m14, .ref m15, .ref m16, .ref m17, .int (iI dn), .int (iI (hd + 1)), .ref m20, .ref m21, .int (iI md), .int (iI al), .ref m24, .ref m25, .ref m26, .ref m27, .ref m28, .ref m29, .int (iI sd)])), (m20, .inl (gL G, 1000, .inr (.inl (fun j : Nat => lI ((uF xk i x) (j : Int)))))), (m21, .inl (gL G, 1000, .inr (.inl (fun j : Nat => lI (xf (j : Int))))))] H := hP
                      have hD : va_D A [(m0, .inr (12, [.int (iI lim), .int (iI fa), .int (iI rf), .int (iI mk), .ref m4, .ref m5, .ref m6, .int (iI nk), .ref m8, .ref m9, .ref m10, .int (iI st), .int (iI wn), .ref m13, .ref m14, .ref m15, .ref m16, .ref m17, .int (iI dn), .int (iI (hd + 1)), .ref m20, .ref m21, .int (iI md), .int (iI al), .ref m24, .ref m25, .ref m26, .ref m27, .ref m28, .ref m29, .int (iI sd)])), (m20, .inl (gL G, 1000, .inr (.inl (fun j : Nat => lI ((uF xk i x) (j : Int)))))), (m21, .inl (gL G, 1000, .inr (.inl (fun j : Nat => lI (xf (j : Int))))))] := hD
                      refine lv_aload_n hx hb dX11_record_140 rfl (lv_at hl 0 rfl) ?_
                      refine va_get (D := G.1) (ci := 12) (v := .ref m21) (C := RX11) (T := TX11) (N := 31) hx hb hts hiX11 hown hK hP 0 rfl rfl 21 (by decide) hw2 (fun _ h9 => h9) rfl dX11_record_141 ?_
                      refine lv_iload hx hb dX11_record_144 (lv_at hl 4 rfl) ?_
                      refine lv_lload hx hb dX11_record_146 (lv_at hl 3 rfl) ?_
                      refine z_last hx hb hK hP hD hS 2 1 rfl rfl (by omega) dX11_record_148 (fun H locs hP hD hS => ?_)
                      have hP : va_P G.1 vwCl [(m0, .inr (12, [.int (iI lim), .int (iI fa), .int (iI rf), .int (iI mk), .ref m4, .ref m5, .ref m6, .int (iI nk), .ref m8, .ref m9, .ref m10, .int (iI st), .int (iI wn), .ref m13, .ref m14, .ref m15, .ref m16, .ref m17, .int (iI dn), .int (iI (hd + 1)), .ref m20, .ref m21, .int (iI md), .int (iI al), .ref m24, .ref m25, .ref m26, .ref m27, .ref m28, .ref m29, .int (iI sd)])), (m20, .inl (gL G, 1000, .inr (.inl (fun j : Nat => lI ((uF xk i x) (j : Int)))))), (m21, .inl (gL G, 1000, .inr (.inl (fun j : Nat => lI ((uF xf i v) (j : Int))))))] H := hP
                      have hD : va_D A [(m0, .inr (12, [.int (iI lim), .int (iI fa), .int (iI rf), .int (iI mk), .ref m4, .ref m5, .ref m6, .int (iI nk), .ref m8, .ref m9, .ref m10, .int (iI st), .int (iI wn), .ref m13, .ref m14, .ref m15, .ref m16, .ref m17, .int (iI dn), .int (iI (hd + 1)), .ref m20, .ref m21, .int (iI md), .int (iI al), .ref m24, .ref m25, .ref m26, .ref m27, .ref m28, .ref m29, .int (iI sd)])), (m20, .inl (gL G, 1000, .inr (.inl (fun j : Nat => lI ((uF xk i x) (j : Int)))))), (m21, .inl (gL G, 1000, .inr (.inl (fun j : Nat => lI ((uF xf i v) (j : Int))))))] := hD
                      refine lv_goto (tgt := 218) hx hb dX11_record_149 (by decide) ?_
                      have e_11 : ((hd + 1) : Int) = (pH ky hd x) := by first | (rw [pH, if_pos qF]; done) | (rw [pH, if_neg qF]; done) | (rw [pK, if_pos qF, hic]; exact uF_same qF.2) | (rw [pV, if_pos qF, hic]) | (rw [pK, if_neg qF, jk, show q = i by omega, hic]) | (rw [pV, if_neg qF, jf, show q = i by omega, hic])
                      have e_12 : ((uF xk i x) : Int → Int) = (pK ky hd x) := by first | (rw [pH, if_pos qF]; done) | (rw [pH, if_neg qF]; done) | (rw [pK, if_pos qF, hic]; exact uF_same qF.2) | (rw [pV, if_pos qF, hic]) | (rw [pK, if_neg qF, jk, show q = i by omega, hic]) | (rw [pV, if_neg qF, jf, show q = i by omega, hic])
                      have e_13 : ((uF xf i v) : Int → Int) = (pV ky fv hd x v) := by first | (rw [pH, if_pos qF]; done) | (rw [pH, if_neg qF]; done) | (rw [pK, if_pos qF, hic]; exact uF_same qF.2) | (rw [pV, if_pos qF, hic]) | (rw [pK, if_neg qF, jk, show q = i by omega, hic]) | (rw [pV, if_neg qF, jf, show q = i by omega, hic])
                      have hP : va_P G.1 vwCl [(m0, .inr (12, [.int (iI lim), .int (iI fa), .int (iI rf), .int (iI mk), .ref m4, .ref m5, .ref m6, .int (iI nk), .ref m8, .ref m9, .ref m10, .int (iI st), .int (iI wn), .ref m13, .ref m14, .ref m15, .ref m16, .ref m17, .int (iI dn), .int (iI (pH ky hd x)), .ref m20, .ref m21, .int (iI md), .int (iI al), .ref m24, .ref m25, .ref m26, .ref m27, .ref m28, .ref m29, .int (iI sd)])), (m20, .inl (gL G, 1000, .inr (.inl (fun j : Nat => lI ((pK ky hd x) (j : Int)))))), (m21, .inl (gL G, 1000, .inr (.inl (fun j : Nat => lI ((pV ky fv hd x v) (j : Int))))))] H := by rw [← e_11, ← e_12, ← e_13]; exact hP
                      have hD : va_D A [(m0, .inr (12, [.int (iI lim), .int (iI fa), .int (iI rf), .int (iI mk), .ref m4, .ref m5, .ref m6, .int (iI nk), .ref m8, .ref m9, .ref m10, .int (iI st), .int (iI wn), .ref m13, .ref m14, .ref m15, .ref m16, .ref m17, .int (iI dn), .int (iI (pH ky hd x)), .ref m20, .ref m21, .int (iI md), .int (iI al), .ref m24, .ref m25, .ref m26, .ref m27, .ref m28, .ref m29, .int (iI sd)])), (m20, .inl (gL G, 1000, .inr (.inl (fun j : Nat => lI ((pK ky hd x) (j : Int)))))), (m21, .inl (gL G, 1000, .inr (.inl (fun j : Nat => lI ((pV ky fv hd x v) (j : Int))))))] := by rw [← e_11, ← e_12, ← e_13]; exact hD
                      exact hret _ ls H locs dX11_record_218 hP hD hS
                  · skip
                    refine lv_aload_n hx hb dX11_record_80 rfl (lv_at hl 0 rfl) ?_
                    refine va_get (D := G.1) (ci := 12) (v := .ref m20) (C := RX11) (T := TX11) (N := 31) hx hb hts hiX11 hown hK hP 0 rfl rfl 20 (by decide) hw1 (fun _ h9 => h9) rfl dX11_record_81 ?_
                    refine lv_iload hx hb dX11_record_84 (lv_at hl 6 rfl) ?_
                    refine lv_aload_n hx hb dX11_record_86 rfl (lv_at hl 0 rfl) ?_
                    refine va_get (D := G.1) (ci := 12) (v := .ref m20) (C := RX11) (T := TX11) (N := 31) hx hb hts hiX11 hown hK hP 0 rfl rfl 20 (by decide) hw1 (fun _ h9 => h9) rfl dX11_record_87 ?_
                    refine lv_iload hx hb dX11_record_90 (lv_at hl 6 rfl) ?_
                    refine lv_iconst (v := iI (1)) hx hb dX11_record_92 rfl ?_
                    refine z_isub hx hb dX11_record_93 ?_
                    refine z_lald hx hb hK hP 1 1 rfl rfl (by omega) dX11_record_94 ?_
                    refine z_last hx hb hK hP hD hS 1 1 rfl rfl (by omega) dX11_record_95 (fun H locs hP hD hS => ?_)
                    have hP : va_P G.1 vwCl [(m0, .inr (12, [.int (iI lim), .int (iI fa), .int (iI rf), .int (iI mk), .ref m4, .ref m5, .ref m6, .int (iI nk), .ref m8, .ref m9, .ref m10, .int (iI st), .int (iI wn), .ref m13, .ref m14, .ref m15, .ref m16, .ref m17, .int (iI dn), .int (iI hd), .ref m20, .ref m21, .int (iI md), .int (iI al), .ref m24, .ref m25, .ref m26, .ref m27, .ref m28, .ref m29, .int (iI sd)])), (m20, .inl (gL G, 1000, .inr (.inl (fun j : Nat => lI ((uF xk q (xk (q - 1))) (j : Int)))))), (m21, .inl (gL G, 1000, .inr (.inl (fun j : Nat => lI (xf (j : Int))))))] H := hP
                    have hD : va_D A [(m0, .inr (12, [.int (iI lim), .int (iI fa), .int (iI rf), .int (iI mk), .ref m4, .ref m5, .ref m6, .int (iI nk), .ref m8, .ref m9, .ref m10, .int (iI st), .int (iI wn), .ref m13, .ref m14, .ref m15, .ref m16, .ref m17, .int (iI dn), .int (iI hd), .ref m20, .ref m21, .int (iI md), .int (iI al), .ref m24, .ref m25, .ref m26, .ref m27, .ref m28, .ref m29, .int (iI sd)])), (m20, .inl (gL G, 1000, .inr (.inl (fun j : Nat => lI ((uF xk q (xk (q - 1))) (j : Int)))))), (m21, .inl (gL G, 1000, .inr (.inl (fun j : Nat => lI (xf (j : Int))))))] := hD
                    refine lv_aload_n hx hb dX11_record_96 rfl (lv_at hl 0 rfl) ?_
                    refine va_get (D := G.1) (ci := 12) (v := .ref m21) (C := RX11) (T := TX11) (N := 31) hx hb hts hiX11 hown hK hP 0 rfl rfl 21 (by decide) hw2 (fun _ h9 => h9) rfl dX11_record_97 ?_
                    refine lv_iload hx hb dX11_record_100 (lv_at hl 6 rfl) ?_
                    refine lv_aload_n hx hb dX11_record_102 rfl (lv_at hl 0 rfl) ?_
                    refine va_get (D := G.1) (ci := 12) (v := .ref m21) (C := RX11) (T := TX11) (N := 31) hx hb hts hiX11 hown hK hP 0 rfl rfl 21 (by decide) hw2 (fun _ h9 => h9) rfl dX11_record_103 ?_
                    refine lv_iload hx hb dX11_record_106 (lv_at hl 6 rfl) ?_
                    refine lv_iconst (v := iI (1)) hx hb dX11_record_108 rfl ?_
                    refine z_isub hx hb dX11_record_109 ?_
                    refine z_lald hx hb hK hP 2 1 rfl rfl (by omega) dX11_record_110 ?_
                    refine z_last hx hb hK hP hD hS 2 1 rfl rfl (by omega) dX11_record_111 (fun H locs hP hD hS => ?_)
                    have hP : va_P G.1 vwCl [(m0, .inr (12, [.int (iI lim), .int (iI fa), .int (iI rf), .int (iI mk), .ref m4, .ref m5, .ref m6, .int (iI nk), .ref m8, .ref m9, .ref m10, .int (iI st), .int (iI wn), .ref m13, .ref m14, .ref m15, .ref m16, .ref m17, .int (iI dn), .int (iI hd), .ref m20, .ref m21, .int (iI md), .int (iI al), .ref m24, .ref m25, .ref m26, .ref m27, .ref m28, .ref m29, .int (iI sd)])), (m20, .inl (gL G, 1000, .inr (.inl (fun j : Nat => lI ((uF xk q (xk (q - 1))) (j : Int)))))), (m21, .inl (gL G, 1000, .inr (.inl (fun j : Nat => lI ((uF xf q (xf (q - 1))) (j : Int))))))] H := hP
                    have hD : va_D A [(m0, .inr (12, [.int (iI lim), .int (iI fa), .int (iI rf), .int (iI mk), .ref m4, .ref m5, .ref m6, .int (iI nk), .ref m8, .ref m9, .ref m10, .int (iI st), .int (iI wn), .ref m13, .ref m14, .ref m15, .ref m16, .ref m17, .int (iI dn), .int (iI hd), .ref m20, .ref m21, .int (iI md), .int (iI al), .ref m24, .ref m25, .ref m26, .ref m27, .ref m28, .ref m29, .int (iI sd)])), (m20, .inl (gL G, 1000, .inr (.inl (fun j : Nat => lI ((uF xk q (xk (q - 1))) (j : Int)))))), (m21, .inl (gL G, 1000, .inr (.inl (fun j : Nat => lI ((uF xf q (xf (q - 1))) (j : Int))))))] := hD
                    refine lv_iinc (v := iI (q - 1)) (lv' := [(8, .int (iI (q - 1))), (0, .ref m0), (1, .int (iI 1)), (2, .long (lI x)), (4, .long (lI v)), (6, .int (iI i)), (7, .int (iI (if cnt ky x hd.toNat < hd ∧ ky (cnt ky x hd.toNat) = x then 1 else 0)))]) hx hb dX11_record_112 hl (k := 6) rfl (by rw [Int.sub_eq_add_neg]; exact iI_add q (-1)) (by decide) rfl (fun ls hl => ?_)
                    refine lv_goto (tgt := 73) hx hb dX11_record_115 (by decide) ?_
                    exact ih73 (q - 1) (uF xk q (xk (q - 1))) (uF xf q (xf (q - 1))) H locs ls (by omega) (by omega) (by rw [jk]; exact cF_up (by omega)) (by rw [jf]; exact cF_up (by omega)) hP hD hS (lv_sub hl [1, 2, 3, 4, 5, 6, 0] rfl)
              have e_14 : ((if (cnt ky x hd.toNat < hd ∧ ky (cnt ky x hd.toNat) = x) then 1 else 0) : Int) = (if cnt ky x hd.toNat < hd ∧ ky (cnt ky x hd.toNat) = x then 1 else 0) := by rfl
              have hl : lv_has ls 9 [(0, .ref m0), (1, .int (iI 1)), (2, .long (lI x)), (4, .long (lI v)), (6, .int (iI i)), (7, .int (iI (if (cnt ky x hd.toNat < hd ∧ ky (cnt ky x hd.toNat) = x) then 1 else 0))), (8, .int (iI hd))] := (lv_sub hl [2, 3, 4, 5, 6, 1, 0] rfl)
              have hl : lv_has ls 9 [(0, .ref m0), (1, .int (iI 1)), (2, .long (lI x)), (4, .long (lI v)), (6, .int (iI i)), (7, .int (iI (if cnt ky x hd.toNat < hd ∧ ky (cnt ky x hd.toNat) = x then 1 else 0))), (8, .int (iI hd))] := by rw [← e_14]; exact hl
              exact loop73 _ hd ky fv H locs ls (Nat.lt_succ_self _) (by omega) (by rw [Int.sub_self]; exact (cF_0 _ _ _ _).symm) (by rw [Int.sub_self]; exact (cF_0 _ _ _ _).symm) hP hD hS hl
        refine z_icmp_ge (tgt := 55) hx hb dX11_record_36 (by decide) (by omega) (fun c_2 => ?_) (fun c_2 => ?_)
        · skip
          refine lv_iconst (v := iI (0)) hx hb dX11_record_55 rfl ?_
          refine z_top (w := .int (iI (if (cnt ky x hd.toNat < hd ∧ ky (cnt ky x hd.toNat) = x) then 1 else 0))) (congrArg _ (congrArg iI (by first | exact (if_neg (fun q => by omega)).symm | exact (if_pos ⟨by omega, by rw [← hic]; omega⟩).symm | exact (if_neg (fun q => by have := q.2; rw [← hic] at this; omega)).symm))) ?_
          exact join56 H locs hP hD hS
        · skip
          refine lv_aload_n hx hb dX11_record_39 rfl (lv_at hl 0 rfl) ?_
          refine va_get (D := G.1) (ci := 12) (v := .ref m20) (C := RX11) (T := TX11) (N := 31) hx hb hts hiX11 hown hK hP 0 rfl rfl 20 (by decide) hw1 (fun _ h9 => h9) rfl dX11_record_40 ?_
          refine lv_iload hx hb dX11_record_43 (lv_at hl 4 rfl) ?_
          refine z_lald hx hb hK hP 1 1 rfl rfl (by omega) dX11_record_45 ?_
          refine lv_lload_n hx hb dX11_record_46 rfl (lv_at hl 2 rfl) ?_
          refine z_lcmp_ne (tgt := 55) hx hb dX11_record_47 dX11_record_48 (by decide) (by have := hky i (by omega) (by omega); omega) (fun c_15 => ?_) (fun c_15 => ?_)
          · skip
            refine lv_iconst (v := iI (0)) hx hb dX11_record_55 rfl ?_
            refine z_top (w := .int (iI (if (cnt ky x hd.toNat < hd ∧ ky (cnt ky x hd.toNat) = x) then 1 else 0))) (congrArg _ (congrArg iI (by first | exact (if_neg (fun q => by omega)).symm | exact (if_pos ⟨by omega, by rw [← hic]; omega⟩).symm | exact (if_neg (fun q => by have := q.2; rw [← hic] at this; omega)).symm))) ?_
            exact join56 H locs hP hD hS
          · skip
            refine lv_iconst (v := iI (1)) hx hb dX11_record_51 rfl ?_
            refine lv_goto (tgt := 56) hx hb dX11_record_52 (by decide) ?_
            refine z_top (w := .int (iI (if (cnt ky x hd.toNat < hd ∧ ky (cnt ky x hd.toNat) = x) then 1 else 0))) (congrArg _ (congrArg iI (by first | exact (if_neg (fun q => by omega)).symm | exact (if_pos ⟨by omega, by rw [← hic]; omega⟩).symm | exact (if_neg (fun q => by have := q.2; rw [← hic] at this; omega)).symm))) ?_
            exact join56 H locs hP hD hS
      · skip
        refine lv_aload_n hx hb dX11_record_12 rfl (lv_at hl 0 rfl) ?_
        refine va_get (D := G.1) (ci := 12) (v := .ref m20) (C := RX11) (T := TX11) (N := 31) hx hb hts hiX11 hown hK hP 0 rfl rfl 20 (by decide) hw1 (fun _ h9 => h9) rfl dX11_record_13 ?_
        refine lv_iload hx hb dX11_record_16 (lv_at hl 4 rfl) ?_
        refine z_lald hx hb hK hP 1 1 rfl rfl (by omega) dX11_record_18 ?_
        refine lv_lload_n hx hb dX11_record_19 rfl (lv_at hl 2 rfl) ?_
        refine z_lcmp_ge (tgt := 30) hx hb dX11_record_20 dX11_record_21 (by decide) (by have := hky i (by omega) (by omega); omega) (fun c_16 => ?_) (fun c_16 => ?_)
        · skip
          have hic : i = (cnt ky x hd.toNat) := by have := hc2 i (by omega) (by omega); omega
          refine lv_iload hx hb dX11_record_30 (lv_at hl 4 rfl) ?_
          refine lv_aload_n hx hb dX11_record_32 rfl (lv_at hl 0 rfl) ?_
          refine va_get (D := G.1) (ci := 12) (v := .int (iI hd)) (C := RX11) (T := TX11) (N := 31) hx hb hts hiX11 hown hK hP 0 rfl rfl 19 (by decide) hw0 (fun _ h9 => h9) rfl dX11_record_33 ?_
          have join56 : ∀ (H : Heap) (locs : List Loc), va_P G.1 vwCl [(m0, .inr (12, [.int (iI lim), .int (iI fa), .int (iI rf), .int (iI mk), .ref m4, .ref m5, .ref m6, .int (iI nk), .ref m8, .ref m9, .ref m10, .int (iI st), .int (iI wn), .ref m13, .ref m14, .ref m15, .ref m16, .ref m17, .int (iI dn), .int (iI hd), .ref m20, .ref m21, .int (iI md), .int (iI al), .ref m24, .ref m25, .ref m26, .ref m27, .ref m28, .ref m29, .int (iI sd)])), (m20, .inl (gL G, 1000, .inr (.inl (fun j : Nat => lI (ky (j : Int)))))), (m21, .inl (gL G, 1000, .inr (.inl (fun j : Nat => lI (fv (j : Int))))))] H → va_D A [(m0, .inr (12, [.int (iI lim), .int (iI fa), .int (iI rf), .int (iI mk), .ref m4, .ref m5, .ref m6, .int (iI nk), .ref m8, .ref m9, .ref m10, .int (iI st), .int (iI wn), .ref m13, .ref m14, .ref m15, .ref m16, .ref m17, .int (iI dn), .int (iI hd), .ref m20, .ref m21, .int (iI md), .int (iI al), .ref m24, .ref m25, .ref m26, .ref m27, .ref m28, .ref m29, .int (iI sd)])), (m20, .inl (gL G, 1000, .inr (.inl (fun j : Nat => lI (ky (j : Int)))))), (m21, .inl (gL G, 1000, .inr (.inl (fun j : Nat => lI (fv (j : Int))))))] → va_S A s.heap H locs → W p l e (rz 0 0) s m [.ref m0, .int (iI 1), .long (lI x), .long (lI v)].toArray below meth c H locs 0 0 Q (F0 m 56 ls [.int (iI (if (cnt ky x hd.toNat < hd ∧ ky (cnt ky x hd.toNat) = x) then 1 else 0))]) := by
            intro H locs hP hD hS
            refine lv_istore (lv' := [(7, .int (iI (if (cnt ky x hd.toNat < hd ∧ ky (cnt ky x hd.toNat) = x) then 1 else 0))), (0, .ref m0), (1, .int (iI 1)), (2, .long (lI x)), (4, .long (lI v)), (6, .int (iI i))]) hx hb dX11_record_56 hl (by decide) rfl (fun ls hl => ?_)
            refine lv_iload_n hx hb dX11_record_58 rfl (lv_at hl 2 rfl) ?_
            refine z_if_eq (tgt := 128) hx hb dX11_record_59 (by decide) (by omega) (fun c_18 => ?_) (fun c_18 => ?_)
            · skip
              exfalso; omega
            · skip
              refine lv_iload hx hb dX11_record_62 (lv_at hl 0 rfl) ?_
              refine z_if_ne (tgt := 128) hx hb dX11_record_64 (by decide) (by split <;> omega) (fun c_19 => ?_) (fun c_19 => ?_)
              · skip
                have qc_19 := if_ne0 c_19
                have qF := if_ne0 c_19
                refine lv_iload_n hx hb dX11_record_128 rfl (lv_at hl 2 rfl) ?_
                refine z_if_eq (tgt := 152) hx hb dX11_record_129 (by decide) (by omega) (fun c_20 => ?_) (fun c_20 => ?_)
                · skip
                  exfalso; omega
                · skip
                  refine lv_aload_n hx hb dX11_record_132 rfl (lv_at hl 1 rfl) ?_
                  refine va_get (D := G.1) (ci := 12) (v := .ref m20) (C := RX11) (T := TX11) (N := 31) hx hb hts hiX11 hown hK hP 0 rfl rfl 20 (by decide) hw1 (fun _ h9 => h9) rfl dX11_record_133 ?_
                  refine lv_iload hx hb dX11_record_136 (lv_at hl 5 rfl) ?_
                  refine lv_lload_n hx hb dX11_record_138 rfl (lv_at hl 3 rfl) ?_
                  refine z_last hx hb hK hP hD hS 1 1 rfl rfl (by omega) dX11_record_139 (fun H locs hP hD hS => ?_)
                  have hP : va_P G.1 vwCl [(m0, .inr (12, [.int (iI lim), .int (iI fa), .int (iI rf), .int (iI mk), .ref m4, .ref m5, .ref m6, .int (iI nk), .ref m8, .ref m9, .ref m10, .int (iI st), .int (iI wn), .ref m13, .ref m14, .ref m15, .ref m16, .ref m17, .int (iI dn), .int (iI hd), .ref m20, .ref m21, .int (iI md), .int (iI al), .ref m24, .ref m25, .ref m26, .ref m27, .ref m28, .ref m29, .int (iI sd)])), (m20, .inl (gL G, 1000, .inr (.inl (fun j : Nat => lI ((uF ky i x) (j : Int)))))), (m21, .inl (gL G, 1000, .inr (.inl (fun j : Nat => lI (fv (j : Int))))))] H := hP
                  have hD : va_D A [(m0, .inr (12, [.int (iI lim), .int (iI fa), .int (iI rf), .int (iI mk), .ref m4, .ref m5, .ref m6, .int (iI nk), .ref m8, .ref m9, .ref m10, .int (iI st), .int (iI wn), .ref m13, .ref m14, .ref m15, .ref m16, .ref m17, .int (iI dn), .int (iI hd), .ref m20, .ref m21, .int (iI md), .int (iI al), .ref m24, .ref m25, .ref m26, .ref m27, .ref m28, .ref m29, .int (iI sd)])), (m20, .inl (gL G, 1000, .inr (.inl (fun j : Nat => lI ((uF ky i x) (j : Int)))))), (m21, .inl (gL G, 1000, .inr (.inl (fun j : Nat => lI (fv (j : Int))))))] := hD
                  refine lv_aload_n hx hb dX11_record_140 rfl (lv_at hl 1 rfl) ?_
                  refine va_get (D := G.1) (ci := 12) (v := .ref m21) (C := RX11) (T := TX11) (N := 31) hx hb hts hiX11 hown hK hP 0 rfl rfl 21 (by decide) hw2 (fun _ h9 => h9) rfl dX11_record_141 ?_
                  refine lv_iload hx hb dX11_record_144 (lv_at hl 5 rfl) ?_
                  refine lv_lload hx hb dX11_record_146 (lv_at hl 4 rfl) ?_
                  refine z_last hx hb hK hP hD hS 2 1 rfl rfl (by omega) dX11_record_148 (fun H locs hP hD hS => ?_)
                  have hP : va_P G.1 vwCl [(m0, .inr (12, [.int (iI lim), .int (iI fa), .int (iI rf), .int (iI mk), .ref m4, .ref m5, .ref m6, .int (iI nk), .ref m8, .ref m9, .ref m10, .int (iI st), .int (iI wn), .ref m13, .ref m14, .ref m15, .ref m16, .ref m17, .int (iI dn), .int (iI hd), .ref m20, .ref m21, .int (iI md), .int (iI al), .ref m24, .ref m25, .ref m26, .ref m27, .ref m28, .ref m29, .int (iI sd)])), (m20, .inl (gL G, 1000, .inr (.inl (fun j : Nat => lI ((uF ky i x) (j : Int)))))), (m21, .inl (gL G, 1000, .inr (.inl (fun j : Nat => lI ((uF fv i v) (j : Int))))))] H := hP
                  have hD : va_D A [(m0, .inr (12, [.int (iI lim), .int (iI fa), .int (iI rf), .int (iI mk), .ref m4, .ref m5, .ref m6, .int (iI nk), .ref m8, .ref m9, .ref m10, .int (iI st), .int (iI wn), .ref m13, .ref m14, .ref m15, .ref m16, .ref m17, .int (iI dn), .int (iI hd), .ref m20, .ref m21, .int (iI md), .int (iI al), .ref m24, .ref m25, .ref m26, .ref m27, .ref m28, .ref m29, .int (iI sd)])), (m20, .inl (gL G, 1000, .inr (.inl (fun j : Nat => lI ((uF ky i x) (j : Int)))))), (m21, .inl (gL G, 1000, .inr (.inl (fun j : Nat => lI ((uF fv i v) (j : Int))))))] := hD
                  refine lv_goto (tgt := 218) hx hb dX11_record_149 (by decide) ?_
                  have e_21 : (hd : Int) = (pH ky hd x) := by first | (rw [pH, if_pos qF]; done) | (rw [pH, if_neg qF]; done) | (rw [pK, if_pos qF, hic]; exact uF_same qF.2) | (rw [pV, if_pos qF, hic]) | (rw [pK, if_neg qF, jk, show q = i by omega, hic]) | (rw [pV, if_neg qF, jf, show q = i by omega, hic])
                  have e_22 : ((uF ky i x) : Int → Int) = (pK ky hd x) := by first | (rw [pH, if_pos qF]; done) | (rw [pH, if_neg qF]; done) | (rw [pK, if_pos qF, hic]; exact uF_same qF.2) | (rw [pV, if_pos qF, hic]) | (rw [pK, if_neg qF, jk, show q = i by omega, hic]) | (rw [pV, if_neg qF, jf, show q = i by omega, hic])
                  have e_23 : ((uF fv i v) : Int → Int) = (pV ky fv hd x v) := by first | (rw [pH, if_pos qF]; done) | (rw [pH, if_neg qF]; done) | (rw [pK, if_pos qF, hic]; exact uF_same qF.2) | (rw [pV, if_pos qF, hic]) | (rw [pK, if_neg qF, jk, show q = i by omega, hic]) | (rw [pV, if_neg qF, jf, show q = i by omega, hic])
                  have hP : va_P G.1 vwCl [(m0, .inr (12, [.int (iI lim), .int (iI fa), .int (iI rf), .int (iI mk), .ref m4, .ref m5, .ref m6, .int (iI nk), .ref m8, .ref m9, .ref m10, .int (iI st), .int (iI wn), .ref m13, .ref m14, .ref m15, .ref m16, .ref m17, .int (iI dn), .int (iI (pH ky hd x)), .ref m20, .ref m21, .int (iI md), .int (iI al), .ref m24, .ref m25, .ref m26, .ref m27, .ref m28, .ref m29, .int (iI sd)])), (m20, .inl (gL G, 1000, .inr (.inl (fun j : Nat => lI ((pK ky hd x) (j : Int)))))), (m21, .inl (gL G, 1000, .inr (.inl (fun j : Nat => lI ((pV ky fv hd x v) (j : Int))))))] H := by rw [← e_21, ← e_22, ← e_23]; exact hP
                  have hD : va_D A [(m0, .inr (12, [.int (iI lim), .int (iI fa), .int (iI rf), .int (iI mk), .ref m4, .ref m5, .ref m6, .int (iI nk), .ref m8, .ref m9, .ref m10, .int (iI st), .int (iI wn), .ref m13, .ref m14, .ref m15, .ref m16, .ref m17, .int (iI dn), .int (iI (pH ky hd x)), .ref m20, .ref m21, .int (iI md), .int (iI al), .ref m24, .ref m25, .ref m26, .ref m27, .ref m28, .ref m29, .int (iI sd)])), (m20, .inl (gL G, 1000, .inr (.inl (fun j : Nat => lI ((pK ky hd x) (j : Int)))))), (m21, .inl (gL G, 1000, .inr (.inl (fun j : Nat => lI ((pV ky fv hd x v) (j : Int))))))] := by rw [← e_21, ← e_22, ← e_23]; exact hD
                  exact hret _ ls H locs dX11_record_218 hP hD hS
              · skip
                have qc_19 := if_eq0 c_19
                have qF := if_eq0 c_19
                refine lv_aload_n hx hb dX11_record_67 rfl (lv_at hl 1 rfl) ?_
                refine va_get (D := G.1) (ci := 12) (v := .int (iI hd)) (C := RX11) (T := TX11) (N := 31) hx hb hts hiX11 hown hK hP 0 rfl rfl 19 (by decide) hw0 (fun _ h9 => h9) rfl dX11_record_68 ?_
                refine lv_istore (lv' := [(8, .int (iI hd)), (7, .int (iI (if (cnt ky x hd.toNat < hd ∧ ky (cnt ky x hd.toNat) = x) then 1 else 0))), (0, .ref m0), (1, .int (iI 1)), (2, .long (lI x)), (4, .long (lI v)), (6, .int (iI i))]) hx hb dX11_record_71 hl (by decide) rfl (fun ls hl => ?_)
                have loop73 : ∀ (N : Nat) (q : Int) (xk xf : Int → Int) (H : Heap) (locs : List Loc) (ls : Array Slot), ((q - i).toNat) < N → (i ≤ q ∧ q ≤ hd) → (xk = cF ky ky q (q + 1) (hd - q)) → (xf = cF fv fv q (q + 1) (hd - q)) → va_P G.1 vwCl [(m0, .inr (12, [.int (iI lim), .int (iI fa), .int (iI rf), .int (iI mk), .ref m4, .ref m5, .ref m6, .int (iI nk), .ref m8, .ref m9, .ref m10, .int (iI st), .int (iI wn), .ref m13, .ref m14, .ref m15, .ref m16, .ref m17, .int (iI dn), .int (iI hd), .ref m20, .ref m21, .int (iI md), .int (iI al), .ref m24, .ref m25, .ref m26, .ref m27, .ref m28, .ref m29, .int (iI sd)])), (m20, .inl (gL G, 1000, .inr (.inl (fun j : Nat => lI (xk (j : Int)))))), (m21, .inl (gL G, 1000, .inr (.inl (fun j : Nat => lI (xf (j : Int))))))] H → va_D A [(m0, .inr (12, [.int (iI lim), .int (iI fa), .int (iI rf), .int (iI mk), .ref m4, .ref m5, .ref m6, .int (iI nk), .ref m8, .ref m9, .ref m10, .int (iI st), .int (iI wn), .ref m13, .ref m14, .ref m15, .ref m16, .ref m17, .int (iI dn), .int (iI hd), .ref m20, .ref m21, .int (iI md), .int (iI al), .ref m24, .ref m25, .ref m26, .ref m27, .ref m28, .ref m29, .int (iI sd)])), (m20, .inl (gL G, 1000, .inr (.inl (fun j : Nat => lI (xk (j : Int)))))), (m21, .inl (gL G, 1000, .inr (.inl (fun j : Nat => lI (xf (j : Int))))))] → va_S A s.heap H locs → lv_has ls 9 [(0, .ref m0), (1, .int (iI 1)), (2, .long (lI x)), (4, .long (lI v)), (6, .int (iI i)), (7, .int (iI (if cnt ky x hd.toNat < hd ∧ ky (cnt ky x hd.toNat) = x then 1 else 0))), (8, .int (iI q))] → W p l e (rz 0 0) s m [.ref m0, .int (iI 1), .long (lI x), .long (lI v)].toArray below meth c H locs 0 0 Q (F0 m 73 ls []) := by
                  intro N
                  induction N with
                  | zero => intro q xk xf H locs ls hm; exact absurd hm (Nat.not_lt_zero _)
                  | succ N ih73 =>
                    intro q xk xf H locs ls hm jq jk jf hP hD hS hl
                    refine lv_iload hx hb dX11_record_73 (lv_at hl 6 rfl) ?_
                    refine lv_iload hx hb dX11_record_75 (lv_at hl 4 rfl) ?_
                    refine z_icmp_le (tgt := 118) hx hb dX11_record_77 (by decide) (by omega) (fun c_24 => ?_) (fun c_24 => ?_)
                    · skip
                      refine lv_aload_n hx hb dX11_record_118 rfl (lv_at hl 0 rfl) ?_
                      refine lv_dup hx hb dX11_record_119 rfl ?_
                      refine va_get (D := G.1) (ci := 12) (v := .int (iI hd)) (C := RX11) (T := TX11) (N := 31) hx hb hts hiX11 hown hK hP 0 rfl rfl 19 (by decide) hw0 (fun _ h9 => h9) rfl dX11_record_120 ?_
                      refine lv_iconst (v := iI (1)) hx hb dX11_record_123 rfl ?_
                      refine z_iadd hx hb dX11_record_124 ?_
                      refine va_put (D := G.1) (ci := 12) (v := .int (iI (hd + 1))) (ty := .int) (C := RX11) (T := TX11) (N := 31) hx hb hts hiX11 tyX11 tyX11_ok nmX11 hown hK hP hD hS 0 rfl rfl 19 (by decide) hw0 (fun _ h9 => h9) rfl (by decide +kernel) rfl rfl (Nat.le_of_ble_eq_true rfl) dX11_record_125 (fun H locs hP hD hS => ?_)
                      have hP : va_P G.1 vwCl [(m0, .inr (12, [.int (iI lim), .int (iI fa), .int (iI rf), .int (iI mk), .ref m4, .ref m5, .ref m6, .int (iI nk), .ref m8, .ref m9, .ref m10, .int (iI st), .int (iI wn), .ref m13, .ref m14, .ref m15, .ref m16, .ref m17, .int (iI dn), .int (iI (hd + 1)), .ref m20, .ref m21, .int (iI md), .int (iI al), .ref m24, .ref m25, .ref m26, .ref m27, .ref m28, .ref m29, .int (iI sd)])), (m20, .inl (gL G, 1000, .inr (.inl (fun j : Nat => lI (xk (j : Int)))))), (m21, .inl (gL G, 1000, .inr (.inl (fun j : Nat => lI (xf (j : Int))))))] H := hP
                      have hD : va_D A [(m0, .inr (12, [.int (iI lim), .int (iI fa), .int (iI rf), .int (iI mk), .ref m4, .ref m5, .ref m6, .int (iI nk), .ref m8, .ref m9, .ref m10, .int (iI st), .int (iI wn), .ref m13, .ref m14, .ref m15, .ref m16, .ref m17, .int (iI dn), .int (iI (hd + 1)), .ref m20, .ref m21, .int (iI md), .int (iI al), .ref m24, .ref m25, .ref m26, .ref m27, .ref m28, .ref m29, .int (iI sd)])), (m20, .inl (gL G, 1000, .inr (.inl (fun j : Nat => lI (xk (j : Int)))))), (m21, .inl (gL G, 1000, .inr (.inl (fun j : Nat => lI (xf (j : Int))))))] := hD
                      refine lv_iload_n hx hb dX11_record_128 rfl (lv_at hl 1 rfl) ?_
                      refine z_if_eq (tgt := 152) hx hb dX11_record_129 (by decide) (by omega) (fun c_25 => ?_) (fun c_25 => ?_)
                      · skip
                        exfalso; omega
                      · skip
                        refine lv_aload_n hx hb dX11_record_132 rfl (lv_at hl 0 rfl) ?_
                        refine va_get (D := G.1) (ci := 12) (v := .ref m20) (C := RX11) (T := TX11) (N := 31) hx hb hts hiX11 hown hK hP 0 rfl rfl 20 (by decide) hw1 (fun _ h9 => h9) rfl dX11_record_133 ?_
                        refine lv_iload hx hb dX11_record_136 (lv_at hl 4 rfl) ?_
                        refine lv_lload_n hx hb dX11_record_138 rfl (lv_at hl 2 rfl) ?_
                        refine z_last hx hb hK hP hD hS 1 1 rfl rfl (by omega) dX11_record_139 (fun H locs hP hD hS => ?_)
                        have hP : va_P G.1 vwCl [(m0, .inr (12, [.int (iI lim), .int (iI fa), .int (iI rf), .int (iI mk), .ref m4, .ref m5, .ref m6, .int (iI nk), .ref m8, .ref m9, .ref m10, .int (iI st), .int (iI wn), .ref m13, .ref m14, .ref m15, .ref m16, .ref m17, .int (iI dn), .int (iI (hd + 1)), .ref m20, .ref m21, .int (iI md), .int (iI al), .ref m24, .ref m25, .ref m26, .ref m27, .ref m28, .ref m29, .int (iI sd)])), (m20, .inl (gL G, 1000, .inr (.inl (fun j : Nat => lI ((uF xk i x) (j : Int)))))), (m21, .inl (gL G, 1000, .inr (.inl (fun j : Nat => lI (xf (j : Int))))))] H := hP
                        have hD : va_D A [(m0, .inr (12, [.int (iI lim), .int (iI fa), .int (iI rf), .int (iI mk), .ref m4, .ref m5, .ref m6, .int (iI nk), .ref m8, .ref m9, .ref m10, .int (iI st), .int (iI wn), .ref m13, .ref m14, .ref m15, .ref m16, .ref m17, .int (iI dn), .int (iI (hd + 1)), .ref m20, .ref m21, .int (iI md), .int (iI al), .ref m24, .ref m25, .ref m26, .ref m27, .ref m28, .ref m29, .int (iI sd)])), (m20, .inl (gL G, 1000, .inr (.inl (fun j : Nat => lI ((uF xk i x) (j : Int)))))), (m21, .inl (gL G, 1000, .inr (.inl (fun j : Nat => lI (xf (j : Int))))))] := hD
                        refine lv_aload_n hx hb dX11_record_140 rfl (lv_at hl 0 rfl) ?_
                        refine va_get (D := G.1) (ci := 12) (v := .ref m21) (C := RX11) (T := TX11) (N := 31) hx hb hts hiX11 hown hK hP 0 rfl rfl 21 (by decide) hw2 (fun _ h9 => h9) rfl dX11_record_141 ?_
                        refine lv_iload hx hb dX11_record_144 (lv_at hl 4 rfl) ?_
                        refine lv_lload hx hb dX11_record_146 (lv_at hl 3 rfl) ?_
                        refine z_last hx hb hK hP hD hS 2 1 rfl rfl (by omega) dX11_record_148 (fun H locs hP hD hS => ?_)
                        have hP : va_P G.1 vwCl [(m0, .inr (12, [.int (iI lim), .int (iI fa), .int (iI rf), .int (iI mk), .ref m4, .ref m5, .ref m6, .int (iI nk), .ref m8, .ref m9, .ref m10, .int (iI st), .int (iI wn), .ref m13, .ref m14, .ref m15, .ref m16, .ref m17, .int (iI dn), .int (iI (hd + 1)), .ref m20, .ref m21, .int (iI md), .int (iI al), .ref m24, .ref m25, .ref m26, .ref m27, .ref m28, .ref m29, .int (iI sd)])), (m20, .inl (gL G, 1000, .inr (.inl (fun j : Nat => lI ((uF xk i x) (j : Int)))))), (m21, .inl (gL G, 1000, .inr (.inl (fun j : Nat => lI ((uF xf i v) (j : Int))))))] H := hP
                        have hD : va_D A [(m0, .inr (12, [.int (iI lim), .int (iI fa), .int (iI rf), .int (iI mk), .ref m4, .ref m5, .ref m6, .int (iI nk), .ref m8, .ref m9, .ref m10, .int (iI st), .int (iI wn), .ref m13, .ref m14, .ref m15, .ref m16, .ref m17, .int (iI dn), .int (iI (hd + 1)), .ref m20, .ref m21, .int (iI md), .int (iI al), .ref m24, .ref m25, .ref m26, .ref m27, .ref m28, .ref m29, .int (iI sd)])), (m20, .inl (gL G, 1000, .inr (.inl (fun j : Nat => lI ((uF xk i x) (j : Int)))))), (m21, .inl (gL G, 1000, .inr (.inl (fun j : Nat => lI ((uF xf i v) (j : Int))))))] := hD
                        refine lv_goto (tgt := 218) hx hb dX11_record_149 (by decide) ?_
                        have e_26 : ((hd + 1) : Int) = (pH ky hd x) := by first | (rw [pH, if_pos qF]; done) | (rw [pH, if_neg qF]; done) | (rw [pK, if_pos qF, hic]; exact uF_same qF.2) | (rw [pV, if_pos qF, hic]) | (rw [pK, if_neg qF, jk, show q = i by omega, hic]) | (rw [pV, if_neg qF, jf, show q = i by omega, hic])
                        have e_27 : ((uF xk i x) : Int → Int) = (pK ky hd x) := by first | (rw [pH, if_pos qF]; done) | (rw [pH, if_neg qF]; done) | (rw [pK, if_pos qF, hic]; exact uF_same qF.2) | (rw [pV, if_pos qF, hic]) | (rw [pK, if_neg qF, jk, show q = i by omega, hic]) | (rw [pV, if_neg qF, jf, show q = i by omega, hic])
                        have e_28 : ((uF xf i v) : Int → Int) = (pV ky fv hd x v) := by first | (rw [pH, if_pos qF]; done) | (rw [pH, if_neg qF]; done) | (rw [pK, if_pos qF, hic]; exact uF_same qF.2) | (rw [pV, if_pos qF, hic]) | (rw [pK, if_neg qF, jk, show q = i by omega, hic]) | (rw [pV, if_neg qF, jf, show q = i by omega, hic])
                        have hP : va_P G.1 vwCl [(m0, .inr (12, [.int (iI lim), .int (iI fa), .int (iI rf), .int (iI mk), .ref m4, .ref m5, .ref m6, .int (iI nk), .ref m8, .ref m9, .ref m10, .int (iI st), .int (iI wn), .ref m13, .ref m14, .ref m15, .ref m16, .ref m17, .int (iI dn), .int (iI (pH ky hd x)), .ref m20, .ref m21, .int (iI md), .int (iI al), .ref m24, .ref m25, .ref m26, .ref m27, .ref m28, .ref m29, .int (iI sd)])), (m20, .inl (gL G, 1000, .inr (.inl (fun j : Nat => lI ((pK ky hd x) (j : Int)))))), (m21, .inl (gL G, 1000, .inr (.inl (fun j : Nat => lI ((pV ky fv hd x v) (j : Int))))))] H := by rw [← e_26, ← e_27, ← e_28]; exact hP
                        have hD : va_D A [(m0, .inr (12, [.int (iI lim), .int (iI fa), .int (iI rf), .int (iI mk), .ref m4, .ref m5, .ref m6, .int (iI nk), .ref m8, .ref m9, .ref m10, .int (iI st), .int (iI wn), .ref m13, .ref m14, .ref m15, .ref m16, .ref m17, .int (iI dn), .int (iI (pH ky hd x)), .ref m20, .ref m21, .int (iI md), .int (iI al), .ref m24, .ref m25, .ref m26, .ref m27, .ref m28, .ref m29, .int (iI sd)])), (m20, .inl (gL G, 1000, .inr (.inl (fun j : Nat => lI ((pK ky hd x) (j : Int)))))), (m21, .inl (gL G, 1000, .inr (.inl (fun j : Nat => lI ((pV ky fv hd x v) (j : Int))))))] := by rw [← e_26, ← e_27, ← e_28]; exact hD
                        exact hret _ ls H locs dX11_record_218 hP hD hS
                    · skip
                      refine lv_aload_n hx hb dX11_record_80 rfl (lv_at hl 0 rfl) ?_
                      refine va_get (D := G.1) (ci := 12) (v := .ref m20) (C := RX11) (T := TX11) (N := 31) hx hb hts hiX11 hown hK hP 0 rfl rfl 20 (by decide) hw1 (fun _ h9 => h9) rfl dX11_record_81 ?_
                      refine lv_iload hx hb dX11_record_84 (lv_at hl 6 rfl) ?_
                      refine lv_aload_n hx hb dX11_record_86 rfl (lv_at hl 0 rfl) ?_
                      refine va_get (D := G.1) (ci := 12) (v := .ref m20) (C := RX11) (T := TX11) (N := 31) hx hb hts hiX11 hown hK hP 0 rfl rfl 20 (by decide) hw1 (fun _ h9 => h9) rfl dX11_record_87 ?_
                      refine lv_iload hx hb dX11_record_90 (lv_at hl 6 rfl) ?_
                      refine lv_iconst (v := iI (1)) hx hb dX11_record_92 rfl ?_
                      refine z_isub hx hb dX11_record_93 ?_
                      refine z_lald hx hb hK hP 1 1 rfl rfl (by omega) dX11_record_94 ?_
                      refine z_last hx hb hK hP hD hS 1 1 rfl rfl (by omega) dX11_record_95 (fun H locs hP hD hS => ?_)
                      have hP : va_P G.1 vwCl [(m0, .inr (12, [.int (iI lim), .int (iI fa), .int (iI rf), .int (iI mk), .ref m4, .ref m5, .ref m6, .int (iI nk), .ref m8, .ref m9, .ref m10, .int (iI st), .int (iI wn), .ref m13, .ref m14, .ref m15, .ref m16, .ref m17, .int (iI dn), .int (iI hd), .ref m20, .ref m21, .int (iI md), .int (iI al), .ref m24, .ref m25, .ref m26, .ref m27, .ref m28, .ref m29, .int (iI sd)])), (m20, .inl (gL G, 1000, .inr (.inl (fun j : Nat => lI ((uF xk q (xk (q - 1))) (j : Int)))))), (m21, .inl (gL G, 1000, .inr (.inl (fun j : Nat => lI (xf (j : Int))))))] H := hP
                      have hD : va_D A [(m0, .inr (12, [.int (iI lim), .int (iI fa), .int (iI rf), .int (iI mk), .ref m4, .ref m5, .ref m6, .int (iI nk), .ref m8, .ref m9, .ref m10, .int (iI st), .int (iI wn), .ref m13, .ref m14, .ref m15, .ref m16, .ref m17, .int (iI dn), .int (iI hd), .ref m20, .ref m21, .int (iI md), .int (iI al), .ref m24, .ref m25, .ref m26, .ref m27, .ref m28, .ref m29, .int (iI sd)])), (m20, .inl (gL G, 1000, .inr (.inl (fun j : Nat => lI ((uF xk q (xk (q - 1))) (j : Int)))))), (m21, .inl (gL G, 1000, .inr (.inl (fun j : Nat => lI (xf (j : Int))))))] := hD
                      refine lv_aload_n hx hb dX11_record_96 rfl (lv_at hl 0 rfl) ?_
                      refine va_get (D := G.1) (ci := 12) (v := .ref m21) (C := RX11) (T := TX11) (N := 31) hx hb hts hiX11 hown hK hP 0 rfl rfl 21 (by decide) hw2 (fun _ h9 => h9) rfl dX11_record_97 ?_
                      refine lv_iload hx hb dX11_record_100 (lv_at hl 6 rfl) ?_
                      refine lv_aload_n hx hb dX11_record_102 rfl (lv_at hl 0 rfl) ?_
                      refine va_get (D := G.1) (ci := 12) (v := .ref m21) (C := RX11) (T := TX11) (N := 31) hx hb hts hiX11 hown hK hP 0 rfl rfl 21 (by decide) hw2 (fun _ h9 => h9) rfl dX11_record_103 ?_
                      refine lv_iload hx hb dX11_record_106 (lv_at hl 6 rfl) ?_
                      refine lv_iconst (v := iI (1)) hx hb dX11_record_108 rfl ?_
                      refine z_isub hx hb dX11_record_109 ?_
                      refine z_lald hx hb hK hP 2 1 rfl rfl (by omega) dX11_record_110 ?_
                      refine z_last hx hb hK hP hD hS 2 1 rfl rfl (by omega) dX11_record_111 (fun H locs hP hD hS => ?_)
                      have hP : va_P G.1 vwCl [(m0, .inr (12, [.int (iI lim), .int (iI fa), .int (iI rf), .int (iI mk), .ref m4, .ref m5, .ref m6, .int (iI nk), .ref m8, .ref m9, .ref m10, .int (iI st), .int (iI wn), .ref m13, .ref m14, .ref m15, .ref m16, .ref m17, .int (iI dn), .int (iI hd), .ref m20, .ref m21, .int (iI md), .int (iI al), .ref m24, .ref m25, .ref m26, .ref m27, .ref m28, .ref m29, .int (iI sd)])), (m20, .inl (gL G, 1000, .inr (.inl (fun j : Nat => lI ((uF xk q (xk (q - 1))) (j : Int)))))), (m21, .inl (gL G, 1000, .inr (.inl (fun j : Nat => lI ((uF xf q (xf (q - 1))) (j : Int))))))] H := hP
                      have hD : va_D A [(m0, .inr (12, [.int (iI lim), .int (iI fa), .int (iI rf), .int (iI mk), .ref m4, .ref m5, .ref m6, .int (iI nk), .ref m8, .ref m9, .ref m10, .int (iI st), .int (iI wn), .ref m13, .ref m14, .ref m15, .ref m16, .ref m17, .int (iI dn), .int (iI hd), .ref m20, .ref m21, .int (iI md), .int (iI al), .ref m24, .ref m25, .ref m26, .ref m27, .ref m28, .ref m29, .int (iI sd)])), (m20, .inl (gL G, 1000, .inr (.inl (fun j : Nat => lI ((uF xk q (xk (q - 1))) (j : Int)))))), (m21, .inl (gL G, 1000, .inr (.inl (fun j : Nat => lI ((uF xf q (xf (q - 1))) (j : Int))))))] := hD
                      refine lv_iinc (v := iI (q - 1)) (lv' := [(8, .int (iI (q - 1))), (0, .ref m0), (1, .int (iI 1)), (2, .long (lI x)), (4, .long (lI v)), (6, .int (iI i)), (7, .int (iI (if cnt ky x hd.toNat < hd ∧ ky (cnt ky x hd.toNat) = x then 1 else 0)))]) hx hb dX11_record_112 hl (k := 6) rfl (by rw [Int.sub_eq_add_neg]; exact iI_add q (-1)) (by decide) rfl (fun ls hl => ?_)
                      refine lv_goto (tgt := 73) hx hb dX11_record_115 (by decide) ?_
                      exact ih73 (q - 1) (uF xk q (xk (q - 1))) (uF xf q (xf (q - 1))) H locs ls (by omega) (by omega) (by rw [jk]; exact cF_up (by omega)) (by rw [jf]; exact cF_up (by omega)) hP hD hS (lv_sub hl [1, 2, 3, 4, 5, 6, 0] rfl)
                have e_29 : ((if (cnt ky x hd.toNat < hd ∧ ky (cnt ky x hd.toNat) = x) then 1 else 0) : Int) = (if cnt ky x hd.toNat < hd ∧ ky (cnt ky x hd.toNat) = x then 1 else 0) := by rfl
                have hl : lv_has ls 9 [(0, .ref m0), (1, .int (iI 1)), (2, .long (lI x)), (4, .long (lI v)), (6, .int (iI i)), (7, .int (iI (if (cnt ky x hd.toNat < hd ∧ ky (cnt ky x hd.toNat) = x) then 1 else 0))), (8, .int (iI hd))] := (lv_sub hl [2, 3, 4, 5, 6, 1, 0] rfl)
                have hl : lv_has ls 9 [(0, .ref m0), (1, .int (iI 1)), (2, .long (lI x)), (4, .long (lI v)), (6, .int (iI i)), (7, .int (iI (if cnt ky x hd.toNat < hd ∧ ky (cnt ky x hd.toNat) = x then 1 else 0))), (8, .int (iI hd))] := by rw [← e_29]; exact hl
                exact loop73 _ hd ky fv H locs ls (Nat.lt_succ_self _) (by omega) (by rw [Int.sub_self]; exact (cF_0 _ _ _ _).symm) (by rw [Int.sub_self]; exact (cF_0 _ _ _ _).symm) hP hD hS hl
          refine z_icmp_ge (tgt := 55) hx hb dX11_record_36 (by decide) (by omega) (fun c_17 => ?_) (fun c_17 => ?_)
          · skip
            refine lv_iconst (v := iI (0)) hx hb dX11_record_55 rfl ?_
            refine z_top (w := .int (iI (if (cnt ky x hd.toNat < hd ∧ ky (cnt ky x hd.toNat) = x) then 1 else 0))) (congrArg _ (congrArg iI (by first | exact (if_neg (fun q => by omega)).symm | exact (if_pos ⟨by omega, by rw [← hic]; omega⟩).symm | exact (if_neg (fun q => by have := q.2; rw [← hic] at this; omega)).symm))) ?_
            exact join56 H locs hP hD hS
          · skip
            refine lv_aload_n hx hb dX11_record_39 rfl (lv_at hl 0 rfl) ?_
            refine va_get (D := G.1) (ci := 12) (v := .ref m20) (C := RX11) (T := TX11) (N := 31) hx hb hts hiX11 hown hK hP 0 rfl rfl 20 (by decide) hw1 (fun _ h9 => h9) rfl dX11_record_40 ?_
            refine lv_iload hx hb dX11_record_43 (lv_at hl 4 rfl) ?_
            refine z_lald hx hb hK hP 1 1 rfl rfl (by omega) dX11_record_45 ?_
            refine lv_lload_n hx hb dX11_record_46 rfl (lv_at hl 2 rfl) ?_
            refine z_lcmp_ne (tgt := 55) hx hb dX11_record_47 dX11_record_48 (by decide) (by have := hky i (by omega) (by omega); omega) (fun c_30 => ?_) (fun c_30 => ?_)
            · skip
              refine lv_iconst (v := iI (0)) hx hb dX11_record_55 rfl ?_
              refine z_top (w := .int (iI (if (cnt ky x hd.toNat < hd ∧ ky (cnt ky x hd.toNat) = x) then 1 else 0))) (congrArg _ (congrArg iI (by first | exact (if_neg (fun q => by omega)).symm | exact (if_pos ⟨by omega, by rw [← hic]; omega⟩).symm | exact (if_neg (fun q => by have := q.2; rw [← hic] at this; omega)).symm))) ?_
              exact join56 H locs hP hD hS
            · skip
              refine lv_iconst (v := iI (1)) hx hb dX11_record_51 rfl ?_
              refine lv_goto (tgt := 56) hx hb dX11_record_52 (by decide) ?_
              refine z_top (w := .int (iI (if (cnt ky x hd.toNat < hd ∧ ky (cnt ky x hd.toNat) = x) then 1 else 0))) (congrArg _ (congrArg iI (by first | exact (if_neg (fun q => by omega)).symm | exact (if_pos ⟨by omega, by rw [← hic]; omega⟩).symm | exact (if_neg (fun q => by have := q.2; rw [← hic] at this; omega)).symm))) ?_
              exact join56 H locs hP hD hS
        · skip
          have hil := (hc2 i (by omega) (by omega)).mp c_16
          refine lv_iinc (v := iI (i + 1)) (lv' := [(6, .int (iI (i + 1))), (0, .ref m0), (1, .int (iI 1)), (2, .long (lI x)), (4, .long (lI v))]) hx hb dX11_record_24 hl (k := 4) rfl (iI_add i (1)) (by decide) rfl (fun ls hl => ?_)
          refine lv_goto (tgt := 3) hx hb dX11_record_27 (by decide) ?_
          exact ih3 (i + 1) H locs ls (by omega) (by omega) hP hD hS (lv_sub hl [1, 2, 3, 4, 0] rfl)
  exact loop3 _ 0 H locs ls (Nat.lt_succ_self _) (by omega) hP hD hS (lv_sub hl [1, 2, 3, 4, 0] rfl)

set_option maxHeartbeats 4000000 in
set_option maxRecDepth 100000 in
theorem c_X11_record_d (l : Launch) (G : Gx) (zz : Nat) (m0 m4 m5 m6 m8 m9 m10 m13 m14 m15 m16 m17 m20 m21 m24 m25 m26 m27 m28 m29 : Nat) (lim fa rf mk nk st wn dn hd md al sd : Int) (ky fv : Int → Int) (x v : Int) (hfv : FV ky hd) (hxr : 0 ≤ x ∧ x < 4000000) (hlt : hd < 1000) : Cv l yX11_record wsX11_record (rz 0 0) G [.ref m0, .int (iI 0), .long (lI x), .long (lI v)] [(m0, .inr (12, [.int (iI lim), .int (iI fa), .int (iI rf), .int (iI mk), .ref m4, .ref m5, .ref m6, .int (iI nk), .ref m8, .ref m9, .ref m10, .int (iI st), .int (iI wn), .ref m13, .ref m14, .ref m15, .ref m16, .ref m17, .int (iI dn), .int (iI hd), .ref m20, .ref m21, .int (iI md), .int (iI al), .ref m24, .ref m25, .ref m26, .ref m27, .ref m28, .ref m29, .int (iI sd)])), (m20, .inl (gL G, 1000, .inr (.inl (fun j : Nat => lI (ky (j : Int)))))), (m21, .inl (gL G, 1000, .inr (.inl (fun j : Nat => lI (fv (j : Int))))))] zz [(m0, .inr (12, [.int (iI lim), .int (iI fa), .int (iI rf), .int (iI mk), .ref m4, .ref m5, .ref m6, .int (iI nk), .ref m8, .ref m9, .ref m10, .int (iI st), .int (iI wn), .ref m13, .ref m14, .ref m15, .ref m16, .ref m17, .int (iI dn), .int (iI (dH ky hd x)), .ref m20, .ref m21, .int (iI md), .int (iI al), .ref m24, .ref m25, .ref m26, .ref m27, .ref m28, .ref m29, .int (iI sd)])), (m20, .inl (gL G, 1000, .inr (.inl (fun j : Nat => lI ((dK ky ky hd x) (j : Int)))))), (m21, .inl (gL G, 1000, .inr (.inl (fun j : Nat => lI ((dK ky fv hd x) (j : Int))))))] := by
  refine met_v (cc := cX11_record) (maxL := 9) (by decide) rfl (Nat.le_of_ble_eq_true rfl) ⟨rfl, rfl⟩ ?_
  intro p e s m below meth c A Q F C hP hD hS hret ls hl
  obtain ⟨hx, hb, hml, hown, hts⟩ := id F
  obtain ⟨hK, hA, hZ, hT, hN⟩ := id C
  have hl : lv_has ls 9 [(0, .ref m0), (1, .int (iI 0)), (2, .long (lI x)), (4, .long (lI v))] := hl
  obtain ⟨H, hH⟩ : ∃ H, H = s.heap := ⟨_, rfl⟩
  obtain ⟨locs, hlocs⟩ : ∃ l : List Loc, l = [] := ⟨_, rfl⟩
  have hS : va_S A s.heap H locs := by rw [hH, hlocs]; exact hS
  have hP : va_P G.1 vwCl [(m0, .inr (12, [.int (iI lim), .int (iI fa), .int (iI rf), .int (iI mk), .ref m4, .ref m5, .ref m6, .int (iI nk), .ref m8, .ref m9, .ref m10, .int (iI st), .int (iI wn), .ref m13, .ref m14, .ref m15, .ref m16, .ref m17, .int (iI dn), .int (iI hd), .ref m20, .ref m21, .int (iI md), .int (iI al), .ref m24, .ref m25, .ref m26, .ref m27, .ref m28, .ref m29, .int (iI sd)])), (m20, .inl (gL G, 1000, .inr (.inl (fun j : Nat => lI (ky (j : Int)))))), (m21, .inl (gL G, 1000, .inr (.inl (fun j : Nat => lI (fv (j : Int))))))] H := by rw [hH]; exact hP
  suffices hgo : W p l e (rz 0 0) s m [.ref m0, .int (iI 0), .long (lI x), .long (lI v)].toArray below meth c H locs 0 0 Q (F0 m 0 ls []) by rw [hH, hlocs] at hgo; exact hgo
  have hiX11 : ∀ w ∈ wsX110, w ∈ wsX11_record := by decide +kernel
  have hw0 := hts (Cond.fieldLink RX11 178 "PlainCobolModel" "records" "I") (List.mem_of_getElem? (i := 1) rfl)
  have hw1 := hts (Cond.fieldLink RX11 44 "PlainCobolModel" "keys" "[J") (List.mem_of_getElem? (i := 2) rfl)
  have hw2 := hts (Cond.fieldLink RX11 47 "PlainCobolModel" "contents" "[J") (List.mem_of_getElem? (i := 3) rfl)
  obtain ⟨hh, hso, hky⟩ := id hfv
  obtain ⟨hc1, hc2⟩ := cnt_z (x := x) hh.1 hso
  refine lv_iconst (v := iI (0)) hx hb dX11_record_0 rfl ?_
  refine lv_istore (lv' := [(6, .int (iI 0)), (0, .ref m0), (1, .int (iI 0)), (2, .long (lI x)), (4, .long (lI v))]) hx hb dX11_record_1 hl (by decide) rfl (fun ls hl => ?_)
  have loop3 : ∀ (N : Nat) (i : Int) (H : Heap) (locs : List Loc) (ls : Array Slot), ((hd - i).toNat) < N → (0 ≤ i ∧ i ≤ (cnt ky x hd.toNat)) → va_P G.1 vwCl [(m0, .inr (12, [.int (iI lim), .int (iI fa), .int (iI rf), .int (iI mk), .ref m4, .ref m5, .ref m6, .int (iI nk), .ref m8, .ref m9, .ref m10, .int (iI st), .int (iI wn), .ref m13, .ref m14, .ref m15, .ref m16, .ref m17, .int (iI dn), .int (iI hd), .ref m20, .ref m21, .int (iI md), .int (iI al), .ref m24, .ref m25, .ref m26, .ref m27, .ref m28, .ref m29, .int (iI sd)])), (m20, .inl (gL G, 1000, .inr (.inl (fun j : Nat => lI (ky (j : Int)))))), (m21, .inl (gL G, 1000, .inr (.inl (fun j : Nat => lI (fv (j : Int))))))] H → va_D A [(m0, .inr (12, [.int (iI lim), .int (iI fa), .int (iI rf), .int (iI mk), .ref m4, .ref m5, .ref m6, .int (iI nk), .ref m8, .ref m9, .ref m10, .int (iI st), .int (iI wn), .ref m13, .ref m14, .ref m15, .ref m16, .ref m17, .int (iI dn), .int (iI hd), .ref m20, .ref m21, .int (iI md), .int (iI al), .ref m24, .ref m25, .ref m26, .ref m27, .ref m28, .ref m29, .int (iI sd)])), (m20, .inl (gL G, 1000, .inr (.inl (fun j : Nat => lI (ky (j : Int)))))), (m21, .inl (gL G, 1000, .inr (.inl (fun j : Nat => lI (fv (j : Int))))))] → va_S A s.heap H locs → lv_has ls 9 [(0, .ref m0), (1, .int (iI 0)), (2, .long (lI x)), (4, .long (lI v)), (6, .int (iI i))] → W p l e (rz 0 0) s m [.ref m0, .int (iI 0), .long (lI x), .long (lI v)].toArray below meth c H locs 0 0 Q (F0 m 3 ls []) := by
    intro N
    induction N with
    | zero => intro i H locs ls hm; exact absurd hm (Nat.not_lt_zero _)
    | succ N ih3 =>
      intro i H locs ls hm ji hP hD hS hl
      refine lv_iload hx hb dX11_record_3 (lv_at hl 4 rfl) ?_
      refine lv_aload_n hx hb dX11_record_5 rfl (lv_at hl 0 rfl) ?_
      refine va_get (D := G.1) (ci := 12) (v := .int (iI hd)) (C := RX11) (T := TX11) (N := 31) hx hb hts hiX11 hown hK hP 0 rfl rfl 19 (by decide) hw0 (fun _ h9 => h9) rfl dX11_record_6 ?_
      refine z_icmp_ge (tgt := 30) hx hb dX11_record_9 (by decide) (by omega) (fun c_1 => ?_) (fun c_1 => ?_)
      · skip
        have hic : i = (cnt ky x hd.toNat) := by omega
        refine lv_iload hx hb dX11_record_30 (lv_at hl 4 rfl) ?_
        refine lv_aload_n hx hb dX11_record_32 rfl (lv_at hl 0 rfl) ?_
        refine va_get (D := G.1) (ci := 12) (v := .int (iI hd)) (C := RX11) (T := TX11) (N := 31) hx hb hts hiX11 hown hK hP 0 rfl rfl 19 (by decide) hw0 (fun _ h9 => h9) rfl dX11_record_33 ?_
        have join56 : ∀ (H : Heap) (locs : List Loc), va_P G.1 vwCl [(m0, .inr (12, [.int (iI lim), .int (iI fa), .int (iI rf), .int (iI mk), .ref m4, .ref m5, .ref m6, .int (iI nk), .ref m8, .ref m9, .ref m10, .int (iI st), .int (iI wn), .ref m13, .ref m14, .ref m15, .ref m16, .ref m17, .int (iI dn), .int (iI hd), .ref m20, .ref m21, .int (iI md), .int (iI al), .ref m24, .ref m25, .ref m26, .ref m27, .ref m28, .ref m29, .int (iI sd)])), (m20, .inl (gL G, 1000, .inr (.inl (fun j : Nat => lI (ky (j : Int)))))), (m21, .inl (gL G, 1000, .inr (.inl (fun j : Nat => lI (fv (j : Int))))))] H → va_D A [(m0, .inr (12, [.int (iI lim), .int (iI fa), .int (iI rf), .int (iI mk), .ref m4, .ref m5, .ref m6, .int (iI nk), .ref m8, .ref m9, .ref m10, .int (iI st), .int (iI wn), .ref m13, .ref m14, .ref m15, .ref m16, .ref m17, .int (iI dn), .int (iI hd), .ref m20, .ref m21, .int (iI md), .int (iI al), .ref m24, .ref m25, .ref m26, .ref m27, .ref m28, .ref m29, .int (iI sd)])), (m20, .inl (gL G, 1000, .inr (.inl (fun j : Nat => lI (ky (j : Int)))))), (m21, .inl (gL G, 1000, .inr (.inl (fun j : Nat => lI (fv (j : Int))))))] → va_S A s.heap H locs → W p l e (rz 0 0) s m [.ref m0, .int (iI 0), .long (lI x), .long (lI v)].toArray below meth c H locs 0 0 Q (F0 m 56 ls [.int (iI (if (cnt ky x hd.toNat < hd ∧ ky (cnt ky x hd.toNat) = x) then 1 else 0))]) := by
          intro H locs hP hD hS
          refine lv_istore (lv' := [(7, .int (iI (if (cnt ky x hd.toNat < hd ∧ ky (cnt ky x hd.toNat) = x) then 1 else 0))), (0, .ref m0), (1, .int (iI 0)), (2, .long (lI x)), (4, .long (lI v)), (6, .int (iI i))]) hx hb dX11_record_56 hl (by decide) rfl (fun ls hl => ?_)
          refine lv_iload_n hx hb dX11_record_58 rfl (lv_at hl 2 rfl) ?_
          refine z_if_eq (tgt := 128) hx hb dX11_record_59 (by decide) (by omega) (fun c_3 => ?_) (fun c_3 => ?_)
          · skip
            refine lv_iload_n hx hb dX11_record_128 rfl (lv_at hl 2 rfl) ?_
            refine z_if_eq (tgt := 152) hx hb dX11_record_129 (by decide) (by omega) (fun c_4 => ?_) (fun c_4 => ?_)
            · skip
              refine lv_iload hx hb dX11_record_152 (lv_at hl 0 rfl) ?_
              refine z_if_eq (tgt := 218) hx hb dX11_record_154 (by decide) (by split <;> omega) (fun c_5 => ?_) (fun c_5 => ?_)
              · skip
                have qc_5 := if_eq0 c_5
                have qF := if_eq0 c_5
                have e_6 : (hd : Int) = (dH ky hd x) := by first | (rw [dH, if_pos qF]; done) | (rw [dH, if_neg qF]; done) | (rw [dK, if_neg qF]; done) | (rw [dK, if_pos qF, jk, show q = hd - 1 by omega, hic]) | (rw [dK, if_pos qF, jf, show q = hd - 1 by omega, hic])
                have e_7 : (ky : Int → Int) = (dK ky ky hd x) := by first | (rw [dH, if_pos qF]; done) | (rw [dH, if_neg qF]; done) | (rw [dK, if_neg qF]; done) | (rw [dK, if_pos qF, jk, show q = hd - 1 by omega, hic]) | (rw [dK, if_pos qF, jf, show q = hd - 1 by omega, hic])
                have e_8 : (fv : Int → Int) = (dK ky fv hd x) := by first | (rw [dH, if_pos qF]; done) | (rw [dH, if_neg qF]; done) | (rw [dK, if_neg qF]; done) | (rw [dK, if_pos qF, jk, show q = hd - 1 by omega, hic]) | (rw [dK, if_pos qF, jf, show q = hd - 1 by omega, hic])
                have hP : va_P G.1 vwCl [(m0, .inr (12, [.int (iI lim), .int (iI fa), .int (iI rf), .int (iI mk), .ref m4, .ref m5, .ref m6, .int (iI nk), .ref m8, .ref m9, .ref m10, .int (iI st), .int (iI wn), .ref m13, .ref m14, .ref m15, .ref m16, .ref m17, .int (iI dn), .int (iI (dH ky hd x)), .ref m20, .ref m21, .int (iI md), .int (iI al), .ref m24, .ref m25, .ref m26, .ref m27, .ref m28, .ref m29, .int (iI sd)])), (m20, .inl (gL G, 1000, .inr (.inl (fun j : Nat => lI ((dK ky ky hd x) (j : Int)))))), (m21, .inl (gL G, 1000, .inr (.inl (fun j : Nat => lI ((dK ky fv hd x) (j : Int))))))] H := by rw [← e_6, ← e_7, ← e_8]; exact hP
                have hD : va_D A [(m0, .inr (12, [.int (iI lim), .int (iI fa), .int (iI rf), .int (iI mk), .ref m4, .ref m5, .ref m6, .int (iI nk), .ref m8, .ref m9, .ref m10, .int (iI st), .int (iI wn), .ref m13, .ref m14, .ref m15, .ref m16, .ref m17, .int (iI dn), .int (iI (dH ky hd x)), .ref m20, .ref m21, .int (iI md), .int (iI al), .ref m24, .ref m25, .ref m26, .ref m27, .ref m28, .ref m29, .int (iI sd)])), (m20, .inl (gL G, 1000, .inr (.inl (fun j : Nat => lI ((dK ky ky hd x) (j : Int)))))), (m21, .inl (gL G, 1000, .inr (.inl (fun j : Nat => lI ((dK ky fv hd x) (j : Int))))))] := by rw [← e_6, ← e_7, ← e_8]; exact hD
                exact hret _ ls H locs dX11_record_218 hP hD hS
              · skip
                have qc_5 := if_ne0 c_5
                have qF := if_ne0 c_5
                refine lv_aload_n hx hb dX11_record_157 rfl (lv_at hl 1 rfl) ?_
                refine lv_dup hx hb dX11_record_158 rfl ?_
                refine va_get (D := G.1) (ci := 12) (v := .int (iI hd)) (C := RX11) (T := TX11) (N := 31) hx hb hts hiX11 hown hK hP 0 rfl rfl 19 (by decide) hw0 (fun _ h9 => h9) rfl dX11_record_159 ?_
                refine lv_iconst (v := iI (1)) hx hb dX11_record_162 rfl ?_
                refine z_isub hx hb dX11_record_163 ?_
                refine va_put (D := G.1) (ci := 12) (v := .int (iI (hd - 1))) (ty := .int) (C := RX11) (T := TX11) (N := 31) hx hb hts hiX11 tyX11 tyX11_ok nmX11 hown hK hP hD hS 0 rfl rfl 19 (by decide) hw0 (fun _ h9 => h9) rfl (by decide +kernel) rfl rfl (Nat.le_of_ble_eq_true rfl) dX11_record_164 (fun H locs hP hD hS => ?_)
                have hP : va_P G.1 vwCl [(m0, .inr (12, [.int (iI lim), .int (iI fa), .int (iI rf), .int (iI mk), .ref m4, .ref m5, .ref m6, .int (iI nk), .ref m8, .ref m9, .ref m10, .int (iI st), .int (iI wn), .ref m13, .ref m14, .ref m15, .ref m16, .ref m17, .int (iI dn), .int (iI (hd - 1)), .ref m20, .ref m21, .int (iI md), .int (iI al), .ref m24, .ref m25, .ref m26, .ref m27, .ref m28, .ref m29, .int (iI sd)])), (m20, .inl (gL G, 1000, .inr (.inl (fun j : Nat => lI (ky (j : Int)))))), (m21, .inl (gL G, 1000, .inr (.inl (fun j : Nat => lI (fv (j : Int))))))] H := hP
                have hD : va_D A [(m0, .inr (12, [.int (iI lim), .int (iI fa), .int (iI rf), .int (iI mk), .ref m4, .ref m5, .ref m6, .int (iI nk), .ref m8, .ref m9, .ref m10, .int (iI st), .int (iI wn), .ref m13, .ref m14, .ref m15, .ref m16, .ref m17, .int (iI dn), .int (iI (hd - 1)), .ref m20, .ref m21, .int (iI md), .int (iI al), .ref m24, .ref m25, .ref m26, .ref m27, .ref m28, .ref m29, .int (iI sd)])), (m20, .inl (gL G, 1000, .inr (.inl (fun j : Nat => lI (ky (j : Int)))))), (m21, .inl (gL G, 1000, .inr (.inl (fun j : Nat => lI (fv (j : Int))))))] := hD
                refine lv_iload hx hb dX11_record_167 (lv_at hl 5 rfl) ?_
                refine lv_istore (lv' := [(8, .int (iI i)), (7, .int (iI (if (cnt ky x hd.toNat < hd ∧ ky (cnt ky x hd.toNat) = x) then 1 else 0))), (0, .ref m0), (1, .int (iI 0)), (2, .long (lI x)), (4, .long (lI v)), (6, .int (iI i))]) hx hb dX11_record_169 hl (by decide) rfl (fun ls hl => ?_)
                have loop171 : ∀ (N : Nat) (q : Int) (xk xf : Int → Int) (H : Heap) (locs : List Loc) (ls : Array Slot), ((hd - q).toNat) < N → (i ≤ q ∧ q ≤ hd - 1) → (xk = cF ky ky (i + 1) i (q - i)) → (xf = cF fv fv (i + 1) i (q - i)) → va_P G.1 vwCl [(m0, .inr (12, [.int (iI lim), .int (iI fa), .int (iI rf), .int (iI mk), .ref m4, .ref m5, .ref m6, .int (iI nk), .ref m8, .ref m9, .ref m10, .int (iI st), .int (iI wn), .ref m13, .ref m14, .ref m15, .ref m16, .ref m17, .int (iI dn), .int (iI (hd - 1)), .ref m20, .ref m21, .int (iI md), .int (iI al), .ref m24, .ref m25, .ref m26, .ref m27, .ref m28, .ref m29, .int (iI sd)])), (m20, .inl (gL G, 1000, .inr (.inl (fun j : Nat => lI (xk (j : Int)))))), (m21, .inl (gL G, 1000, .inr (.inl (fun j : Nat => lI (xf (j : Int))))))] H → va_D A [(m0, .inr (12, [.int (iI lim), .int (iI fa), .int (iI rf), .int (iI mk), .ref m4, .ref m5, .ref m6, .int (iI nk), .ref m8, .ref m9, .ref m10, .int (iI st), .int (iI wn), .ref m13, .ref m14, .ref m15, .ref m16, .ref m17, .int (iI dn), .int (iI (hd - 1)), .ref m20, .ref m21, .int (iI md), .int (iI al), .ref m24, .ref m25, .ref m26, .ref m27, .ref m28, .ref m29, .int (iI sd)])), (m20, .inl (gL G, 1000, .inr (.inl (fun j : Nat => lI (xk (j : Int)))))), (m21, .inl (gL G, 1000, .inr (.inl (fun j : Nat => lI (xf (j : Int))))))] → va_S A s.heap H locs → lv_has ls 9 [(0, .ref m0), (1, .int (iI 0)), (2, .long (lI x)), (4, .long (lI v)), (6, .int (iI i)), (7, .int (iI (if cnt ky x hd.toNat < hd ∧ ky (cnt ky x hd.toNat) = x then 1 else 0))), (8, .int (iI q))] → W p l e (rz 0 0) s m [.ref m0, .int (iI 0), .long (lI x), .long (lI v)].toArray below meth c H locs 0 0 Q (F0 m 171 ls []) := by
                  intro N
                  induction N with
                  | zero => intro q xk xf H locs ls hm; exact absurd hm (Nat.not_lt_zero _)
                  | succ N ih171 =>
                    intro q xk xf H locs ls hm jq jk jf hP hD hS hl
                    refine lv_iload hx hb dX11_record_171 (lv_at hl 6 rfl) ?_
                    refine lv_aload_n hx hb dX11_record_173 rfl (lv_at hl 0 rfl) ?_
                    refine va_get (D := G.1) (ci := 12) (v := .int (iI (hd - 1))) (C := RX11) (T := TX11) (N := 31) hx hb hts hiX11 hown hK hP 0 rfl rfl 19 (by decide) hw0 (fun _ h9 => h9) rfl dX11_record_174 ?_
                    refine z_icmp_ge (tgt := 218) hx hb dX11_record_177 (by decide) (by omega) (fun c_9 => ?_) (fun c_9 => ?_)
                    · skip
                      have e_10 : ((hd - 1) : Int) = (dH ky hd x) := by first | (rw [dH, if_pos qF]; done) | (rw [dH, if_neg qF]; done) | (rw [dK, if_neg qF]; done) | (rw [dK, if_pos qF, jk, show q = hd - 1 by omega, hic]) | (rw [dK, if_pos qF, jf, show q = hd - 1 by omega, hic])
                      have e_11 : (xk : Int → Int) = (dK ky ky hd x) := by first | (rw [dH, if_pos qF]; done) | (rw [dH, if_neg qF]; done) | (rw [dK, if_neg qF]; done) | (rw [dK, if_pos qF, jk, show q = hd - 1 by omega, hic]) | (rw [dK, if_pos qF, jf, show q = hd - 1 by omega, hic])
                      have e_12 : (xf : Int → Int) = (dK ky fv hd x) := by first | (rw [dH, if_pos qF]; done) | (rw [dH, if_neg qF]; done) | (rw [dK, if_neg qF]; done) | (rw [dK, if_pos qF, jk, show q = hd - 1 by omega, hic]) | (rw [dK, if_pos qF, jf, show q = hd - 1 by omega, hic])
                      have hP : va_P G.1 vwCl [(m0, .inr (12, [.int (iI lim), .int (iI fa), .int (iI rf), .int (iI mk), .ref m4, .ref m5, .ref m6, .int (iI nk), .ref m8, .ref m9, .ref m10, .int (iI st), .int (iI wn), .ref m13, .ref m14, .ref m15, .ref m16, .ref m17, .int (iI dn), .int (iI (dH ky hd x)), .ref m20, .ref m21, .int (iI md), .int (iI al), .ref m24, .ref m25, .ref m26, .ref m27, .ref m28, .ref m29, .int (iI sd)])), (m20, .inl (gL G, 1000, .inr (.inl (fun j : Nat => lI ((dK ky ky hd x) (j : Int)))))), (m21, .inl (gL G, 1000, .inr (.inl (fun j : Nat => lI ((dK ky fv hd x) (j : Int))))))] H := by rw [← e_10, ← e_11, ← e_12]; exact hP
                      have hD : va_D A [(m0, .inr (12, [.int (iI lim), .int (iI fa), .int (iI rf), .int (iI mk), .ref m4, .ref m5, .ref m6, .int (iI nk), .ref m8, .ref m9, .ref m10, .int (iI st), .int (iI wn), .ref m13, .ref m14, .ref m15, .ref m16, .ref m17, .int (iI dn), .int (iI (dH ky hd x)), .ref m20, .ref m21, .int (iI md), .int (iI al), .ref m24, .ref m25, .ref m26, .ref m27, .ref m28, .ref m29, .int (iI sd)])), (m20, .inl (gL G, 1000, .inr (.inl (fun j : Nat => lI ((dK ky ky hd x) (j : Int)))))), (m21, .inl (gL G, 1000, .inr (.inl (fun j : Nat => lI ((dK ky fv hd x) (j : Int))))))] := by rw [← e_10, ← e_11, ← e_12]; exact hD
                      exact hret _ ls H locs dX11_record_218 hP hD hS
                    · skip
                      refine lv_aload_n hx hb dX11_record_180 rfl (lv_at hl 0 rfl) ?_
                      refine va_get (D := G.1) (ci := 12) (v := .ref m20) (C := RX11) (T := TX11) (N := 31) hx hb hts hiX11 hown hK hP 0 rfl rfl 20 (by decide) hw1 (fun _ h9 => h9) rfl dX11_record_181 ?_
                      refine lv_iload hx hb dX11_record_184 (lv_at hl 6 rfl) ?_
                      refine lv_aload_n hx hb dX11_record_186 rfl (lv_at hl 0 rfl) ?_
                      refine va_get (D := G.1) (ci := 12) (v := .ref m20) (C := RX11) (T := TX11) (N := 31) hx hb hts hiX11 hown hK hP 0 rfl rfl 20 (by decide) hw1 (fun _ h9 => h9) rfl dX11_record_187 ?_
                      refine lv_iload hx hb dX11_record_190 (lv_at hl 6 rfl) ?_
                      refine lv_iconst (v := iI (1)) hx hb dX11_record_192 rfl ?_
                      refine z_iadd hx hb dX11_record_193 ?_
                      refine z_lald hx hb hK hP 1 1 rfl rfl (by omega) dX11_record_194 ?_
                      refine z_last hx hb hK hP hD hS 1 1 rfl rfl (by omega) dX11_record_195 (fun H locs hP hD hS => ?_)
                      have hP : va_P G.1 vwCl [(m0, .inr (12, [.int (iI lim), .int (iI fa), .int (iI rf), .int (iI mk), .ref m4, .ref m5, .ref m6, .int (iI nk), .ref m8, .ref m9, .ref m10, .int (iI st), .int (iI wn), .ref m13, .ref m14, .ref m15, .ref m16, .ref m17, .int (iI dn), .int (iI (hd - 1)), .ref m20, .ref m21, .int (iI md), .int (iI al), .ref m24, .ref m25, .ref m26, .ref m27, .ref m28, .ref m29, .int (iI sd)])), (m20, .inl (gL G, 1000, .inr (.inl (fun j : Nat => lI ((uF xk q (xk (q + 1))) (j : Int)))))), (m21, .inl (gL G, 1000, .inr (.inl (fun j : Nat => lI (xf (j : Int))))))] H := hP
                      have hD : va_D A [(m0, .inr (12, [.int (iI lim), .int (iI fa), .int (iI rf), .int (iI mk), .ref m4, .ref m5, .ref m6, .int (iI nk), .ref m8, .ref m9, .ref m10, .int (iI st), .int (iI wn), .ref m13, .ref m14, .ref m15, .ref m16, .ref m17, .int (iI dn), .int (iI (hd - 1)), .ref m20, .ref m21, .int (iI md), .int (iI al), .ref m24, .ref m25, .ref m26, .ref m27, .ref m28, .ref m29, .int (iI sd)])), (m20, .inl (gL G, 1000, .inr (.inl (fun j : Nat => lI ((uF xk q (xk (q + 1))) (j : Int)))))), (m21, .inl (gL G, 1000, .inr (.inl (fun j : Nat => lI (xf (j : Int))))))] := hD
                      refine lv_aload_n hx hb dX11_record_196 rfl (lv_at hl 0 rfl) ?_
                      refine va_get (D := G.1) (ci := 12) (v := .ref m21) (C := RX11) (T := TX11) (N := 31) hx hb hts hiX11 hown hK hP 0 rfl rfl 21 (by decide) hw2 (fun _ h9 => h9) rfl dX11_record_197 ?_
                      refine lv_iload hx hb dX11_record_200 (lv_at hl 6 rfl) ?_
                      refine lv_aload_n hx hb dX11_record_202 rfl (lv_at hl 0 rfl) ?_
                      refine va_get (D := G.1) (ci := 12) (v := .ref m21) (C := RX11) (T := TX11) (N := 31) hx hb hts hiX11 hown hK hP 0 rfl rfl 21 (by decide) hw2 (fun _ h9 => h9) rfl dX11_record_203 ?_
                      refine lv_iload hx hb dX11_record_206 (lv_at hl 6 rfl) ?_
                      refine lv_iconst (v := iI (1)) hx hb dX11_record_208 rfl ?_
                      refine z_iadd hx hb dX11_record_209 ?_
                      refine z_lald hx hb hK hP 2 1 rfl rfl (by omega) dX11_record_210 ?_
                      refine z_last hx hb hK hP hD hS 2 1 rfl rfl (by omega) dX11_record_211 (fun H locs hP hD hS => ?_)
                      have hP : va_P G.1 vwCl [(m0, .inr (12, [.int (iI lim), .int (iI fa), .int (iI rf), .int (iI mk), .ref m4, .ref m5, .ref m6, .int (iI nk), .ref m8, .ref m9, .ref m10, .int (iI st), .int (iI wn), .ref m13, .ref m14, .ref m15, .ref m16, .ref m17, .int (iI dn), .int (iI (hd - 1)), .ref m20, .ref m21, .int (iI md), .int (iI al), .ref m24, .ref m25, .ref m26, .ref m27, .ref m28, .ref m29, .int (iI sd)])), (m20, .inl (gL G, 1000, .inr (.inl (fun j : Nat => lI ((uF xk q (xk (q + 1))) (j : Int)))))), (m21, .inl (gL G, 1000, .inr (.inl (fun j : Nat => lI ((uF xf q (xf (q + 1))) (j : Int))))))] H := hP
                      have hD : va_D A [(m0, .inr (12, [.int (iI lim), .int (iI fa), .int (iI rf), .int (iI mk), .ref m4, .ref m5, .ref m6, .int (iI nk), .ref m8, .ref m9, .ref m10, .int (iI st), .int (iI wn), .ref m13, .ref m14, .ref m15, .ref m16, .ref m17, .int (iI dn), .int (iI (hd - 1)), .ref m20, .ref m21, .int (iI md), .int (iI al), .ref m24, .ref m25, .ref m26, .ref m27, .ref m28, .ref m29, .int (iI sd)])), (m20, .inl (gL G, 1000, .inr (.inl (fun j : Nat => lI ((uF xk q (xk (q + 1))) (j : Int)))))), (m21, .inl (gL G, 1000, .inr (.inl (fun j : Nat => lI ((uF xf q (xf (q + 1))) (j : Int))))))] := hD
                      refine lv_iinc (v := iI (q + 1)) (lv' := [(8, .int (iI (q + 1))), (0, .ref m0), (1, .int (iI 0)), (2, .long (lI x)), (4, .long (lI v)), (6, .int (iI i)), (7, .int (iI (if cnt ky x hd.toNat < hd ∧ ky (cnt ky x hd.toNat) = x then 1 else 0)))]) hx hb dX11_record_212 hl (k := 6) rfl (iI_add q (1)) (by decide) rfl (fun ls hl => ?_)
                      refine lv_goto (tgt := 171) hx hb dX11_record_215 (by decide) ?_
                      exact ih171 (q + 1) (uF xk q (xk (q + 1))) (uF xf q (xf (q + 1))) H locs ls (by omega) (by omega) (by rw [jk]; exact cF_dn (by omega)) (by rw [jf]; exact cF_dn (by omega)) hP hD hS (lv_sub hl [1, 2, 3, 4, 5, 6, 0] rfl)
                have e_13 : ((if (cnt ky x hd.toNat < hd ∧ ky (cnt ky x hd.toNat) = x) then 1 else 0) : Int) = (if cnt ky x hd.toNat < hd ∧ ky (cnt ky x hd.toNat) = x then 1 else 0) := by rfl
                have hl : lv_has ls 9 [(0, .ref m0), (1, .int (iI 0)), (2, .long (lI x)), (4, .long (lI v)), (6, .int (iI i)), (7, .int (iI (if (cnt ky x hd.toNat < hd ∧ ky (cnt ky x hd.toNat) = x) then 1 else 0))), (8, .int (iI i))] := (lv_sub hl [2, 3, 4, 5, 6, 1, 0] rfl)
                have hl : lv_has ls 9 [(0, .ref m0), (1, .int (iI 0)), (2, .long (lI x)), (4, .long (lI v)), (6, .int (iI i)), (7, .int (iI (if cnt ky x hd.toNat < hd ∧ ky (cnt ky x hd.toNat) = x then 1 else 0))), (8, .int (iI i))] := by rw [← e_13]; exact hl
                exact loop171 _ i ky fv H locs ls (Nat.lt_succ_self _) (by omega) (by rw [Int.sub_self]; exact (cF_0 _ _ _ _).symm) (by rw [Int.sub_self]; exact (cF_0 _ _ _ _).symm) hP hD hS hl
            · skip
              exfalso; omega
          · skip
            exfalso; omega
        refine z_icmp_ge (tgt := 55) hx hb dX11_record_36 (by decide) (by omega) (fun c_2 => ?_) (fun c_2 => ?_)
        · skip
          refine lv_iconst (v := iI (0)) hx hb dX11_record_55 rfl ?_
          refine z_top (w := .int (iI (if (cnt ky x hd.toNat < hd ∧ ky (cnt ky x hd.toNat) = x) then 1 else 0))) (congrArg _ (congrArg iI (by first | exact (if_neg (fun q => by omega)).symm | exact (if_pos ⟨by omega, by rw [← hic]; omega⟩).symm | exact (if_neg (fun q => by have := q.2; rw [← hic] at this; omega)).symm))) ?_
          exact join56 H locs hP hD hS
        · skip
          refine lv_aload_n hx hb dX11_record_39 rfl (lv_at hl 0 rfl) ?_
          refine va_get (D := G.1) (ci := 12) (v := .ref m20) (C := RX11) (T := TX11) (N := 31) hx hb hts hiX11 hown hK hP 0 rfl rfl 20 (by decide) hw1 (fun _ h9 => h9) rfl dX11_record_40 ?_
          refine lv_iload hx hb dX11_record_43 (lv_at hl 4 rfl) ?_
          refine z_lald hx hb hK hP 1 1 rfl rfl (by omega) dX11_record_45 ?_
          refine lv_lload_n hx hb dX11_record_46 rfl (lv_at hl 2 rfl) ?_
          refine z_lcmp_ne (tgt := 55) hx hb dX11_record_47 dX11_record_48 (by decide) (by have := hky i (by omega) (by omega); omega) (fun c_14 => ?_) (fun c_14 => ?_)
          · skip
            refine lv_iconst (v := iI (0)) hx hb dX11_record_55 rfl ?_
            refine z_top (w := .int (iI (if (cnt ky x hd.toNat < hd ∧ ky (cnt ky x hd.toNat) = x) then 1 else 0))) (congrArg _ (congrArg iI (by first | exact (if_neg (fun q => by omega)).symm | exact (if_pos ⟨by omega, by rw [← hic]; omega⟩).symm | exact (if_neg (fun q => by have := q.2; rw [← hic] at this; omega)).symm))) ?_
            exact join56 H locs hP hD hS
          · skip
            refine lv_iconst (v := iI (1)) hx hb dX11_record_51 rfl ?_
            refine lv_goto (tgt := 56) hx hb dX11_record_52 (by decide) ?_
            refine z_top (w := .int (iI (if (cnt ky x hd.toNat < hd ∧ ky (cnt ky x hd.toNat) = x) then 1 else 0))) (congrArg _ (congrArg iI (by first | exact (if_neg (fun q => by omega)).symm | exact (if_pos ⟨by omega, by rw [← hic]; omega⟩).symm | exact (if_neg (fun q => by have := q.2; rw [← hic] at this; omega)).symm))) ?_
            exact join56 H locs hP hD hS
      · skip
        refine lv_aload_n hx hb dX11_record_12 rfl (lv_at hl 0 rfl) ?_
        refine va_get (D := G.1) (ci := 12) (v := .ref m20) (C := RX11) (T := TX11) (N := 31) hx hb hts hiX11 hown hK hP 0 rfl rfl 20 (by decide) hw1 (fun _ h9 => h9) rfl dX11_record_13 ?_
        refine lv_iload hx hb dX11_record_16 (lv_at hl 4 rfl) ?_
        refine z_lald hx hb hK hP 1 1 rfl rfl (by omega) dX11_record_18 ?_
        refine lv_lload_n hx hb dX11_record_19 rfl (lv_at hl 2 rfl) ?_
        refine z_lcmp_ge (tgt := 30) hx hb dX11_record_20 dX11_record_21 (by decide) (by have := hky i (by omega) (by omega); omega) (fun c_15 => ?_) (fun c_15 => ?_)
        · skip
          have hic : i = (cnt ky x hd.toNat) := by have := hc2 i (by omega) (by omega); omega
          refine lv_iload hx hb dX11_record_30 (lv_at hl 4 rfl) ?_
          refine lv_aload_n hx hb dX11_record_32 rfl (lv_at hl 0 rfl) ?_
          refine va_get (D := G.1) (ci := 12) (v := .int (iI hd)) (C := RX11) (T := TX11) (N := 31) hx hb hts hiX11 hown hK hP 0 rfl rfl 19 (by decide) hw0 (fun _ h9 => h9) rfl dX11_record_33 ?_
          have join56 : ∀ (H : Heap) (locs : List Loc), va_P G.1 vwCl [(m0, .inr (12, [.int (iI lim), .int (iI fa), .int (iI rf), .int (iI mk), .ref m4, .ref m5, .ref m6, .int (iI nk), .ref m8, .ref m9, .ref m10, .int (iI st), .int (iI wn), .ref m13, .ref m14, .ref m15, .ref m16, .ref m17, .int (iI dn), .int (iI hd), .ref m20, .ref m21, .int (iI md), .int (iI al), .ref m24, .ref m25, .ref m26, .ref m27, .ref m28, .ref m29, .int (iI sd)])), (m20, .inl (gL G, 1000, .inr (.inl (fun j : Nat => lI (ky (j : Int)))))), (m21, .inl (gL G, 1000, .inr (.inl (fun j : Nat => lI (fv (j : Int))))))] H → va_D A [(m0, .inr (12, [.int (iI lim), .int (iI fa), .int (iI rf), .int (iI mk), .ref m4, .ref m5, .ref m6, .int (iI nk), .ref m8, .ref m9, .ref m10, .int (iI st), .int (iI wn), .ref m13, .ref m14, .ref m15, .ref m16, .ref m17, .int (iI dn), .int (iI hd), .ref m20, .ref m21, .int (iI md), .int (iI al), .ref m24, .ref m25, .ref m26, .ref m27, .ref m28, .ref m29, .int (iI sd)])), (m20, .inl (gL G, 1000, .inr (.inl (fun j : Nat => lI (ky (j : Int)))))), (m21, .inl (gL G, 1000, .inr (.inl (fun j : Nat => lI (fv (j : Int))))))] → va_S A s.heap H locs → W p l e (rz 0 0) s m [.ref m0, .int (iI 0), .long (lI x), .long (lI v)].toArray below meth c H locs 0 0 Q (F0 m 56 ls [.int (iI (if (cnt ky x hd.toNat < hd ∧ ky (cnt ky x hd.toNat) = x) then 1 else 0))]) := by
            intro H locs hP hD hS
            refine lv_istore (lv' := [(7, .int (iI (if (cnt ky x hd.toNat < hd ∧ ky (cnt ky x hd.toNat) = x) then 1 else 0))), (0, .ref m0), (1, .int (iI 0)), (2, .long (lI x)), (4, .long (lI v)), (6, .int (iI i))]) hx hb dX11_record_56 hl (by decide) rfl (fun ls hl => ?_)
            refine lv_iload_n hx hb dX11_record_58 rfl (lv_at hl 2 rfl) ?_
            refine z_if_eq (tgt := 128) hx hb dX11_record_59 (by decide) (by omega) (fun c_17 => ?_) (fun c_17 => ?_)
            · skip
              refine lv_iload_n hx hb dX11_record_128 rfl (lv_at hl 2 rfl) ?_
              refine z_if_eq (tgt := 152) hx hb dX11_record_129 (by decide) (by omega) (fun c_18 => ?_) (fun c_18 => ?_)
              · skip
                refine lv_iload hx hb dX11_record_152 (lv_at hl 0 rfl) ?_
                refine z_if_eq (tgt := 218) hx hb dX11_record_154 (by decide) (by split <;> omega) (fun c_19 => ?_) (fun c_19 => ?_)
                · skip
                  have qc_19 := if_eq0 c_19
                  have qF := if_eq0 c_19
                  have e_20 : (hd : Int) = (dH ky hd x) := by first | (rw [dH, if_pos qF]; done) | (rw [dH, if_neg qF]; done) | (rw [dK, if_neg qF]; done) | (rw [dK, if_pos qF, jk, show q = hd - 1 by omega, hic]) | (rw [dK, if_pos qF, jf, show q = hd - 1 by omega, hic])
                  have e_21 : (ky : Int → Int) = (dK ky ky hd x) := by first | (rw [dH, if_pos qF]; done) | (rw [dH, if_neg qF]; done) | (rw [dK, if_neg qF]; done) | (rw [dK, if_pos qF, jk, show q = hd - 1 by omega, hic]) | (rw [dK, if_pos qF, jf, show q = hd - 1 by omega, hic])
                  have e_22 : (fv : Int → Int) = (dK ky fv hd x) := by first | (rw [dH, if_pos qF]; done) | (rw [dH, if_neg qF]; done) | (rw [dK, if_neg qF]; done) | (rw [dK, if_pos qF, jk, show q = hd - 1 by omega, hic]) | (rw [dK, if_pos qF, jf, show q = hd - 1 by omega, hic])
                  have hP : va_P G.1 vwCl [(m0, .inr (12, [.int (iI lim), .int (iI fa), .int (iI rf), .int (iI mk), .ref m4, .ref m5, .ref m6, .int (iI nk), .ref m8, .ref m9, .ref m10, .int (iI st), .int (iI wn), .ref m13, .ref m14, .ref m15, .ref m16, .ref m17, .int (iI dn), .int (iI (dH ky hd x)), .ref m20, .ref m21, .int (iI md), .int (iI al), .ref m24, .ref m25, .ref m26, .ref m27, .ref m28, .ref m29, .int (iI sd)])), (m20, .inl (gL G, 1000, .inr (.inl (fun j : Nat => lI ((dK ky ky hd x) (j : Int)))))), (m21, .inl (gL G, 1000, .inr (.inl (fun j : Nat => lI ((dK ky fv hd x) (j : Int))))))] H := by rw [← e_20, ← e_21, ← e_22]; exact hP
                  have hD : va_D A [(m0, .inr (12, [.int (iI lim), .int (iI fa), .int (iI rf), .int (iI mk), .ref m4, .ref m5, .ref m6, .int (iI nk), .ref m8, .ref m9, .ref m10, .int (iI st), .int (iI wn), .ref m13, .ref m14, .ref m15, .ref m16, .ref m17, .int (iI dn), .int (iI (dH ky hd x)), .ref m20, .ref m21, .int (iI md), .int (iI al), .ref m24, .ref m25, .ref m26, .ref m27, .ref m28, .ref m29, .int (iI sd)])), (m20, .inl (gL G, 1000, .inr (.inl (fun j : Nat => lI ((dK ky ky hd x) (j : Int)))))), (m21, .inl (gL G, 1000, .inr (.inl (fun j : Nat => lI ((dK ky fv hd x) (j : Int))))))] := by rw [← e_20, ← e_21, ← e_22]; exact hD
                  exact hret _ ls H locs dX11_record_218 hP hD hS
                · skip
                  have qc_19 := if_ne0 c_19
                  have qF := if_ne0 c_19
                  refine lv_aload_n hx hb dX11_record_157 rfl (lv_at hl 1 rfl) ?_
                  refine lv_dup hx hb dX11_record_158 rfl ?_
                  refine va_get (D := G.1) (ci := 12) (v := .int (iI hd)) (C := RX11) (T := TX11) (N := 31) hx hb hts hiX11 hown hK hP 0 rfl rfl 19 (by decide) hw0 (fun _ h9 => h9) rfl dX11_record_159 ?_
                  refine lv_iconst (v := iI (1)) hx hb dX11_record_162 rfl ?_
                  refine z_isub hx hb dX11_record_163 ?_
                  refine va_put (D := G.1) (ci := 12) (v := .int (iI (hd - 1))) (ty := .int) (C := RX11) (T := TX11) (N := 31) hx hb hts hiX11 tyX11 tyX11_ok nmX11 hown hK hP hD hS 0 rfl rfl 19 (by decide) hw0 (fun _ h9 => h9) rfl (by decide +kernel) rfl rfl (Nat.le_of_ble_eq_true rfl) dX11_record_164 (fun H locs hP hD hS => ?_)
                  have hP : va_P G.1 vwCl [(m0, .inr (12, [.int (iI lim), .int (iI fa), .int (iI rf), .int (iI mk), .ref m4, .ref m5, .ref m6, .int (iI nk), .ref m8, .ref m9, .ref m10, .int (iI st), .int (iI wn), .ref m13, .ref m14, .ref m15, .ref m16, .ref m17, .int (iI dn), .int (iI (hd - 1)), .ref m20, .ref m21, .int (iI md), .int (iI al), .ref m24, .ref m25, .ref m26, .ref m27, .ref m28, .ref m29, .int (iI sd)])), (m20, .inl (gL G, 1000, .inr (.inl (fun j : Nat => lI (ky (j : Int)))))), (m21, .inl (gL G, 1000, .inr (.inl (fun j : Nat => lI (fv (j : Int))))))] H := hP
                  have hD : va_D A [(m0, .inr (12, [.int (iI lim), .int (iI fa), .int (iI rf), .int (iI mk), .ref m4, .ref m5, .ref m6, .int (iI nk), .ref m8, .ref m9, .ref m10, .int (iI st), .int (iI wn), .ref m13, .ref m14, .ref m15, .ref m16, .ref m17, .int (iI dn), .int (iI (hd - 1)), .ref m20, .ref m21, .int (iI md), .int (iI al), .ref m24, .ref m25, .ref m26, .ref m27, .ref m28, .ref m29, .int (iI sd)])), (m20, .inl (gL G, 1000, .inr (.inl (fun j : Nat => lI (ky (j : Int)))))), (m21, .inl (gL G, 1000, .inr (.inl (fun j : Nat => lI (fv (j : Int))))))] := hD
                  refine lv_iload hx hb dX11_record_167 (lv_at hl 5 rfl) ?_
                  refine lv_istore (lv' := [(8, .int (iI i)), (7, .int (iI (if (cnt ky x hd.toNat < hd ∧ ky (cnt ky x hd.toNat) = x) then 1 else 0))), (0, .ref m0), (1, .int (iI 0)), (2, .long (lI x)), (4, .long (lI v)), (6, .int (iI i))]) hx hb dX11_record_169 hl (by decide) rfl (fun ls hl => ?_)
                  have loop171 : ∀ (N : Nat) (q : Int) (xk xf : Int → Int) (H : Heap) (locs : List Loc) (ls : Array Slot), ((hd - q).toNat) < N → (i ≤ q ∧ q ≤ hd - 1) → (xk = cF ky ky (i + 1) i (q - i)) → (xf = cF fv fv (i + 1) i (q - i)) → va_P G.1 vwCl [(m0, .inr (12, [.int (iI lim), .int (iI fa), .int (iI rf), .int (iI mk), .ref m4, .ref m5, .ref m6, .int (iI nk), .ref m8, .ref m9, .ref m10, .int (iI st), .int (iI wn), .ref m13, .ref m14, .ref m15, .ref m16, .ref m17, .int (iI dn), .int (iI (hd - 1)), .ref m20, .ref m21, .int (iI md), .int (iI al), .ref m24, .ref m25, .ref m26, .ref m27, .ref m28, .ref m29, .int (iI sd)])), (m20, .inl (gL G, 1000, .inr (.inl (fun j : Nat => lI (xk (j : Int)))))), (m21, .inl (gL G, 1000, .inr (.inl (fun j : Nat => lI (xf (j : Int))))))] H → va_D A [(m0, .inr (12, [.int (iI lim), .int (iI fa), .int (iI rf), .int (iI mk), .ref m4, .ref m5, .ref m6, .int (iI nk), .ref m8, .ref m9, .ref m10, .int (iI st), .int (iI wn), .ref m13, .ref m14, .ref m15, .ref m16, .ref m17, .int (iI dn), .int (iI (hd - 1)), .ref m20, .ref m21, .int (iI md), .int (iI al), .ref m24, .ref m25, .ref m26, .ref m27, .ref m28, .ref m29, .int (iI sd)])), (m20, .inl (gL G, 1000, .inr (.inl (fun j : Nat => lI (xk (j : Int)))))), (m21, .inl (gL G, 1000, .inr (.inl (fun j : Nat => lI (xf (j : Int))))))] → va_S A s.heap H locs → lv_has ls 9 [(0, .ref m0), (1, .int (iI 0)), (2, .long (lI x)), (4, .long (lI v)), (6, .int (iI i)), (7, .int (iI (if cnt ky x hd.toNat < hd ∧ ky (cnt ky x hd.toNat) = x then 1 else 0))), (8, .int (iI q))] → W p l e (rz 0 0) s m [.ref m0, .int (iI 0), .long (lI x), .long (lI v)].toArray below meth c H locs 0 0 Q (F0 m 171 ls []) := by
                    intro N
                    induction N with
                    | zero => intro q xk xf H locs ls hm; exact absurd hm (Nat.not_lt_zero _)
                    | succ N ih171 =>
                      intro q xk xf H locs ls hm jq jk jf hP hD hS hl
                      refine lv_iload hx hb dX11_record_171 (lv_at hl 6 rfl) ?_
                      refine lv_aload_n hx hb dX11_record_173 rfl (lv_at hl 0 rfl) ?_
                      refine va_get (D := G.1) (ci := 12) (v := .int (iI (hd - 1))) (C := RX11) (T := TX11) (N := 31) hx hb hts hiX11 hown hK hP 0 rfl rfl 19 (by decide) hw0 (fun _ h9 => h9) rfl dX11_record_174 ?_
                      refine z_icmp_ge (tgt := 218) hx hb dX11_record_177 (by decide) (by omega) (fun c_23 => ?_) (fun c_23 => ?_)
                      · skip
                        have e_24 : ((hd - 1) : Int) = (dH ky hd x) := by first | (rw [dH, if_pos qF]; done) | (rw [dH, if_neg qF]; done) | (rw [dK, if_neg qF]; done) | (rw [dK, if_pos qF, jk, show q = hd - 1 by omega, hic]) | (rw [dK, if_pos qF, jf, show q = hd - 1 by omega, hic])
                        have e_25 : (xk : Int → Int) = (dK ky ky hd x) := by first | (rw [dH, if_pos qF]; done) | (rw [dH, if_neg qF]; done) | (rw [dK, if_neg qF]; done) | (rw [dK, if_pos qF, jk, show q = hd - 1 by omega, hic]) | (rw [dK, if_pos qF, jf, show q = hd - 1 by omega, hic])
                        have e_26 : (xf : Int → Int) = (dK ky fv hd x) := by first | (rw [dH, if_pos qF]; done) | (rw [dH, if_neg qF]; done) | (rw [dK, if_neg qF]; done) | (rw [dK, if_pos qF, jk, show q = hd - 1 by omega, hic]) | (rw [dK, if_pos qF, jf, show q = hd - 1 by omega, hic])
                        have hP : va_P G.1 vwCl [(m0, .inr (12, [.int (iI lim), .int (iI fa), .int (iI rf), .int (iI mk), .ref m4, .ref m5, .ref m6, .int (iI nk), .ref m8, .ref m9, .ref m10, .int (iI st), .int (iI wn), .ref m13, .ref m14, .ref m15, .ref m16, .ref m17, .int (iI dn), .int (iI (dH ky hd x)), .ref m20, .ref m21, .int (iI md), .int (iI al), .ref m24, .ref m25, .ref m26, .ref m27, .ref m28, .ref m29, .int (iI sd)])), (m20, .inl (gL G, 1000, .inr (.inl (fun j : Nat => lI ((dK ky ky hd x) (j : Int)))))), (m21, .inl (gL G, 1000, .inr (.inl (fun j : Nat => lI ((dK ky fv hd x) (j : Int))))))] H := by rw [← e_24, ← e_25, ← e_26]; exact hP
                        have hD : va_D A [(m0, .inr (12, [.int (iI lim), .int (iI fa), .int (iI rf), .int (iI mk), .ref m4, .ref m5, .ref m6, .int (iI nk), .ref m8, .ref m9, .ref m10, .int (iI st), .int (iI wn), .ref m13, .ref m14, .ref m15, .ref m16, .ref m17, .int (iI dn), .int (iI (dH ky hd x)), .ref m20, .ref m21, .int (iI md), .int (iI al), .ref m24, .ref m25, .ref m26, .ref m27, .ref m28, .ref m29, .int (iI sd)])), (m20, .inl (gL G, 1000, .inr (.inl (fun j : Nat => lI ((dK ky ky hd x) (j : Int)))))), (m21, .inl (gL G, 1000, .inr (.inl (fun j : Nat => lI ((dK ky fv hd x) (j : Int))))))] := by rw [← e_24, ← e_25, ← e_26]; exact hD
                        exact hret _ ls H locs dX11_record_218 hP hD hS
                      · skip
                        refine lv_aload_n hx hb dX11_record_180 rfl (lv_at hl 0 rfl) ?_
                        refine va_get (D := G.1) (ci := 12) (v := .ref m20) (C := RX11) (T := TX11) (N := 31) hx hb hts hiX11 hown hK hP 0 rfl rfl 20 (by decide) hw1 (fun _ h9 => h9) rfl dX11_record_181 ?_
                        refine lv_iload hx hb dX11_record_184 (lv_at hl 6 rfl) ?_
                        refine lv_aload_n hx hb dX11_record_186 rfl (lv_at hl 0 rfl) ?_
                        refine va_get (D := G.1) (ci := 12) (v := .ref m20) (C := RX11) (T := TX11) (N := 31) hx hb hts hiX11 hown hK hP 0 rfl rfl 20 (by decide) hw1 (fun _ h9 => h9) rfl dX11_record_187 ?_
                        refine lv_iload hx hb dX11_record_190 (lv_at hl 6 rfl) ?_
                        refine lv_iconst (v := iI (1)) hx hb dX11_record_192 rfl ?_
                        refine z_iadd hx hb dX11_record_193 ?_
                        refine z_lald hx hb hK hP 1 1 rfl rfl (by omega) dX11_record_194 ?_
                        refine z_last hx hb hK hP hD hS 1 1 rfl rfl (by omega) dX11_record_195 (fun H locs hP hD hS => ?_)
                        have hP : va_P G.1 vwCl [(m0, .inr (12, [.int (iI lim), .int (iI fa), .int (iI rf), .int (iI mk), .ref m4, .ref m5, .ref m6, .int (iI nk), .ref m8, .ref m9, .ref m10, .int (iI st), .int (iI wn), .ref m13, .ref m14, .ref m15, .ref m16, .ref m17, .int (iI dn), .int (iI (hd - 1)), .ref m20, .ref m21, .int (iI md), .int (iI al), .ref m24, .ref m25, .ref m26, .ref m27, .ref m28, .ref m29, .int (iI sd)])), (m20, .inl (gL G, 1000, .inr (.inl (fun j : Nat => lI ((uF xk q (xk (q + 1))) (j : Int)))))), (m21, .inl (gL G, 1000, .inr (.inl (fun j : Nat => lI (xf (j : Int))))))] H := hP
                        have hD : va_D A [(m0, .inr (12, [.int (iI lim), .int (iI fa), .int (iI rf), .int (iI mk), .ref m4, .ref m5, .ref m6, .int (iI nk), .ref m8, .ref m9, .ref m10, .int (iI st), .int (iI wn), .ref m13, .ref m14, .ref m15, .ref m16, .ref m17, .int (iI dn), .int (iI (hd - 1)), .ref m20, .ref m21, .int (iI md), .int (iI al), .ref m24, .ref m25, .ref m26, .ref m27, .ref m28, .ref m29, .int (iI sd)])), (m20, .inl (gL G, 1000, .inr (.inl (fun j : Nat => lI ((uF xk q (xk (q + 1))) (j : Int)))))), (m21, .inl (gL G, 1000, .inr (.inl (fun j : Nat => lI (xf (j : Int))))))] := hD
                        refine lv_aload_n hx hb dX11_record_196 rfl (lv_at hl 0 rfl) ?_
                        refine va_get (D := G.1) (ci := 12) (v := .ref m21) (C := RX11) (T := TX11) (N := 31) hx hb hts hiX11 hown hK hP 0 rfl rfl 21 (by decide) hw2 (fun _ h9 => h9) rfl dX11_record_197 ?_
                        refine lv_iload hx hb dX11_record_200 (lv_at hl 6 rfl) ?_
                        refine lv_aload_n hx hb dX11_record_202 rfl (lv_at hl 0 rfl) ?_
                        refine va_get (D := G.1) (ci := 12) (v := .ref m21) (C := RX11) (T := TX11) (N := 31) hx hb hts hiX11 hown hK hP 0 rfl rfl 21 (by decide) hw2 (fun _ h9 => h9) rfl dX11_record_203 ?_
                        refine lv_iload hx hb dX11_record_206 (lv_at hl 6 rfl) ?_
                        refine lv_iconst (v := iI (1)) hx hb dX11_record_208 rfl ?_
                        refine z_iadd hx hb dX11_record_209 ?_
                        refine z_lald hx hb hK hP 2 1 rfl rfl (by omega) dX11_record_210 ?_
                        refine z_last hx hb hK hP hD hS 2 1 rfl rfl (by omega) dX11_record_211 (fun H locs hP hD hS => ?_)
                        have hP : va_P G.1 vwCl [(m0, .inr (12, [.int (iI lim), .int (iI fa), .int (iI rf), .int (iI mk), .ref m4, .ref m5, .ref m6, .int (iI nk), .ref m8, .ref m9, .ref m10, .int (iI st), .int (iI wn), .ref m13, .ref m14, .ref m15, .ref m16, .ref m17, .int (iI dn), .int (iI (hd - 1)), .ref m20, .ref m21, .int (iI md), .int (iI al), .ref m24, .ref m25, .ref m26, .ref m27, .ref m28, .ref m29, .int (iI sd)])), (m20, .inl (gL G, 1000, .inr (.inl (fun j : Nat => lI ((uF xk q (xk (q + 1))) (j : Int)))))), (m21, .inl (gL G, 1000, .inr (.inl (fun j : Nat => lI ((uF xf q (xf (q + 1))) (j : Int))))))] H := hP
                        have hD : va_D A [(m0, .inr (12, [.int (iI lim), .int (iI fa), .int (iI rf), .int (iI mk), .ref m4, .ref m5, .ref m6, .int (iI nk), .ref m8, .ref m9, .ref m10, .int (iI st), .int (iI wn), .ref m13, .ref m14, .ref m15, .ref m16, .ref m17, .int (iI dn), .int (iI (hd - 1)), .ref m20, .ref m21, .int (iI md), .int (iI al), .ref m24, .ref m25, .ref m26, .ref m27, .ref m28, .ref m29, .int (iI sd)])), (m20, .inl (gL G, 1000, .inr (.inl (fun j : Nat => lI ((uF xk q (xk (q + 1))) (j : Int)))))), (m21, .inl (gL G, 1000, .inr (.inl (fun j : Nat => lI ((uF xf q (xf (q + 1))) (j : Int))))))] := hD
                        refine lv_iinc (v := iI (q + 1)) (lv' := [(8, .int (iI (q + 1))), (0, .ref m0), (1, .int (iI 0)), (2, .long (lI x)), (4, .long (lI v)), (6, .int (iI i)), (7, .int (iI (if cnt ky x hd.toNat < hd ∧ ky (cnt ky x hd.toNat) = x then 1 else 0)))]) hx hb dX11_record_212 hl (k := 6) rfl (iI_add q (1)) (by decide) rfl (fun ls hl => ?_)
                        refine lv_goto (tgt := 171) hx hb dX11_record_215 (by decide) ?_
                        exact ih171 (q + 1) (uF xk q (xk (q + 1))) (uF xf q (xf (q + 1))) H locs ls (by omega) (by omega) (by rw [jk]; exact cF_dn (by omega)) (by rw [jf]; exact cF_dn (by omega)) hP hD hS (lv_sub hl [1, 2, 3, 4, 5, 6, 0] rfl)
                  have e_27 : ((if (cnt ky x hd.toNat < hd ∧ ky (cnt ky x hd.toNat) = x) then 1 else 0) : Int) = (if cnt ky x hd.toNat < hd ∧ ky (cnt ky x hd.toNat) = x then 1 else 0) := by rfl
                  have hl : lv_has ls 9 [(0, .ref m0), (1, .int (iI 0)), (2, .long (lI x)), (4, .long (lI v)), (6, .int (iI i)), (7, .int (iI (if (cnt ky x hd.toNat < hd ∧ ky (cnt ky x hd.toNat) = x) then 1 else 0))), (8, .int (iI i))] := (lv_sub hl [2, 3, 4, 5, 6, 1, 0] rfl)
                  have hl : lv_has ls 9 [(0, .ref m0), (1, .int (iI 0)), (2, .long (lI x)), (4, .long (lI v)), (6, .int (iI i)), (7, .int (iI (if cnt ky x hd.toNat < hd ∧ ky (cnt ky x hd.toNat) = x then 1 else 0))), (8, .int (iI i))] := by rw [← e_27]; exact hl
                  exact loop171 _ i ky fv H locs ls (Nat.lt_succ_self _) (by omega) (by rw [Int.sub_self]; exact (cF_0 _ _ _ _).symm) (by rw [Int.sub_self]; exact (cF_0 _ _ _ _).symm) hP hD hS hl
              · skip
                exfalso; omega
            · skip
              exfalso; omega
          refine z_icmp_ge (tgt := 55) hx hb dX11_record_36 (by decide) (by omega) (fun c_16 => ?_) (fun c_16 => ?_)
          · skip
            refine lv_iconst (v := iI (0)) hx hb dX11_record_55 rfl ?_
            refine z_top (w := .int (iI (if (cnt ky x hd.toNat < hd ∧ ky (cnt ky x hd.toNat) = x) then 1 else 0))) (congrArg _ (congrArg iI (by first | exact (if_neg (fun q => by omega)).symm | exact (if_pos ⟨by omega, by rw [← hic]; omega⟩).symm | exact (if_neg (fun q => by have := q.2; rw [← hic] at this; omega)).symm))) ?_
            exact join56 H locs hP hD hS
          · skip
            refine lv_aload_n hx hb dX11_record_39 rfl (lv_at hl 0 rfl) ?_
            refine va_get (D := G.1) (ci := 12) (v := .ref m20) (C := RX11) (T := TX11) (N := 31) hx hb hts hiX11 hown hK hP 0 rfl rfl 20 (by decide) hw1 (fun _ h9 => h9) rfl dX11_record_40 ?_
            refine lv_iload hx hb dX11_record_43 (lv_at hl 4 rfl) ?_
            refine z_lald hx hb hK hP 1 1 rfl rfl (by omega) dX11_record_45 ?_
            refine lv_lload_n hx hb dX11_record_46 rfl (lv_at hl 2 rfl) ?_
            refine z_lcmp_ne (tgt := 55) hx hb dX11_record_47 dX11_record_48 (by decide) (by have := hky i (by omega) (by omega); omega) (fun c_28 => ?_) (fun c_28 => ?_)
            · skip
              refine lv_iconst (v := iI (0)) hx hb dX11_record_55 rfl ?_
              refine z_top (w := .int (iI (if (cnt ky x hd.toNat < hd ∧ ky (cnt ky x hd.toNat) = x) then 1 else 0))) (congrArg _ (congrArg iI (by first | exact (if_neg (fun q => by omega)).symm | exact (if_pos ⟨by omega, by rw [← hic]; omega⟩).symm | exact (if_neg (fun q => by have := q.2; rw [← hic] at this; omega)).symm))) ?_
              exact join56 H locs hP hD hS
            · skip
              refine lv_iconst (v := iI (1)) hx hb dX11_record_51 rfl ?_
              refine lv_goto (tgt := 56) hx hb dX11_record_52 (by decide) ?_
              refine z_top (w := .int (iI (if (cnt ky x hd.toNat < hd ∧ ky (cnt ky x hd.toNat) = x) then 1 else 0))) (congrArg _ (congrArg iI (by first | exact (if_neg (fun q => by omega)).symm | exact (if_pos ⟨by omega, by rw [← hic]; omega⟩).symm | exact (if_neg (fun q => by have := q.2; rw [← hic] at this; omega)).symm))) ?_
              exact join56 H locs hP hD hS
        · skip
          have hil := (hc2 i (by omega) (by omega)).mp c_15
          refine lv_iinc (v := iI (i + 1)) (lv' := [(6, .int (iI (i + 1))), (0, .ref m0), (1, .int (iI 0)), (2, .long (lI x)), (4, .long (lI v))]) hx hb dX11_record_24 hl (k := 4) rfl (iI_add i (1)) (by decide) rfl (fun ls hl => ?_)
          refine lv_goto (tgt := 3) hx hb dX11_record_27 (by decide) ?_
          exact ih3 (i + 1) H locs ls (by omega) (by omega) hP hD hS (lv_sub hl [1, 2, 3, 4, 0] rfl)
  exact loop3 _ 0 H locs ls (Nat.lt_succ_self _) (by omega) hP hD hS (lv_sub hl [1, 2, 3, 4, 0] rfl)

set_option maxHeartbeats 4000000 in
set_option maxRecDepth 100000 in
theorem c_X11_insert (l : Launch) (G : Gx) (zz : Nat) (m0 m4 m5 m6 m8 m9 m10 m13 m14 m15 m16 m17 m20 m21 m24 m25 m26 m27 m28 m29 : Nat) (lim fa rf mk nk st wn dn hd md al sd : Int) (ab tr sv : Int → Int) (x v : Int) (hg : MGV (md, al, ab, tr, sv)) (h1 : 0 ≤ x ∧ x ≤ 100) : Cv l yX11_insert wsX11_insert (rz 0 0) G [.ref m0, .int (iI x), .long (lI v)] [(m0, .inr (12, [.int (iI lim), .int (iI fa), .int (iI rf), .int (iI mk), .ref m4, .ref m5, .ref m6, .int (iI nk), .ref m8, .ref m9, .ref m10, .int (iI st), .int (iI wn), .ref m13, .ref m14, .ref m15, .ref m16, .ref m17, .int (iI dn), .int (iI hd), .ref m20, .ref m21, .int (iI md), .int (iI al), .ref m24, .ref m25, .ref m26, .ref m27, .ref m28, .ref m29, .int (iI sd)])), (m24, .inl (gI G, 101, .inl (fun j : Nat => iI (ab (j : Int))))), (m25, .inl (gZ G, 101, .inl (fun j : Nat => iI (tr (j : Int))))), (m26, .inl (gL G, 101, .inr (.inl (fun j : Nat => lI (sv (j : Int))))))] zz [(m0, .inr (12, [.int (iI lim), .int (iI fa), .int (iI rf), .int (iI mk), .ref m4, .ref m5, .ref m6, .int (iI nk), .ref m8, .ref m9, .ref m10, .int (iI st), .int (iI wn), .ref m13, .ref m14, .ref m15, .ref m16, .ref m17, .int (iI dn), .int (iI hd), .ref m20, .ref m21, .int (iI ((mIns (md, al, ab, tr, sv) x v).1)), .int (iI ((mIns (md, al, ab, tr, sv) x v).2.1)), .ref m24, .ref m25, .ref m26, .ref m27, .ref m28, .ref m29, .int (iI sd)])), (m24, .inl (gI G, 101, .inl (fun j : Nat => iI ((mIns (md, al, ab, tr, sv) x v).2.2.1 (j : Int))))), (m25, .inl (gZ G, 101, .inl (fun j : Nat => iI ((mIns (md, al, ab, tr, sv) x v).2.2.2.1 (j : Int))))), (m26, .inl (gL G, 101, .inr (.inl (fun j : Nat => lI ((mIns (md, al, ab, tr, sv) x v).2.2.2.2 (j : Int))))))] := by
  refine met_v (cc := cX11_insert) (maxL := 4) (by decide) rfl (Nat.le_of_ble_eq_true rfl) ⟨rfl, rfl⟩ ?_
  intro p e s m below meth c A Q F C hP hD hS hret ls hl
  obtain ⟨hx, hb, hml, hown, hts⟩ := id F
  obtain ⟨hK, hA, hZ, hT, hN⟩ := id C
  have hl : lv_has ls 4 [(0, .ref m0), (1, .int (iI x)), (2, .long (lI v))] := hl
  obtain ⟨H, hH⟩ : ∃ H, H = s.heap := ⟨_, rfl⟩
  obtain ⟨locs, hlocs⟩ : ∃ l : List Loc, l = [] := ⟨_, rfl⟩
  have hS : va_S A s.heap H locs := by rw [hH, hlocs]; exact hS
  have hP : va_P G.1 vwCl [(m0, .inr (12, [.int (iI lim), .int (iI fa), .int (iI rf), .int (iI mk), .ref m4, .ref m5, .ref m6, .int (iI nk), .ref m8, .ref m9, .ref m10, .int (iI st), .int (iI wn), .ref m13, .ref m14, .ref m15, .ref m16, .ref m17, .int (iI dn), .int (iI hd), .ref m20, .ref m21, .int (iI md), .int (iI al), .ref m24, .ref m25, .ref m26, .ref m27, .ref m28, .ref m29, .int (iI sd)])), (m24, .inl (gI G, 101, .inl (fun j : Nat => iI (ab (j : Int))))), (m25, .inl (gZ G, 101, .inl (fun j : Nat => iI (tr (j : Int))))), (m26, .inl (gL G, 101, .inr (.inl (fun j : Nat => lI (sv (j : Int))))))] H := by rw [hH]; exact hP
  suffices hgo : W p l e (rz 0 0) s m [.ref m0, .int (iI x), .long (lI v)].toArray below meth c H locs 0 0 Q (F0 m 0 ls []) by rw [hH, hlocs] at hgo; exact hgo
  have hiX11 : ∀ w ∈ wsX110, w ∈ wsX11_insert := by decide +kernel
  have hw0 := hts (Cond.fieldLink RX11 181 "PlainCobolModel" "segments" "I") (List.mem_of_getElem? (i := 1) rfl)
  have hw1 := hts (Cond.fieldLink RX11 184 "PlainCobolModel" "alive" "I") (List.mem_of_getElem? (i := 3) rfl)
  have hw2 := hts (Cond.fieldLink RX11 50 "PlainCobolModel" "above" "[I") (List.mem_of_getElem? (i := 4) rfl)
  have hw3 := hts (Cond.fieldLink RX11 53 "PlainCobolModel" "there" "[Z") (List.mem_of_getElem? (i := 2) rfl)
  have hw4 := hts (Cond.fieldLink RX11 57 "PlainCobolModel" "holds" "[J") (List.mem_of_getElem? (i := 5) rfl)
  have g1 : 0 ≤ md ∧ md ≤ 100 := hg.1
  have g2 : ∀ j, 0 ≤ j → j ≤ 100 → tr j = 0 ∨ tr j = 1 := hg.2.1
  have g3 : ∀ j, md < j → j ≤ 100 → tr j = 0 := hg.2.2.1
  have g5 : ∀ j, 1 ≤ j → j ≤ md → 0 ≤ ab j ∧ ab j < j := hg.2.2.2.2
  refine lv_aload_n hx hb dX11_insert_0 rfl (lv_at hl 0 rfl) ?_
  refine va_get (D := G.1) (ci := 12) (v := .int (iI md)) (C := RX11) (T := TX11) (N := 31) hx hb hts hiX11 hown hK hP 0 rfl rfl 22 (by decide) hw0 (fun _ h9 => h9) rfl dX11_insert_1 ?_
  refine lv_bipush (v := iI (100)) hx hb dX11_insert_4 (by decide) ?_
  refine z_icmp_eq (tgt := 22) hx hb dX11_insert_6 (by decide) (by omega) (fun c_1 => ?_) (fun c_1 => ?_)
  · skip
    have e_2 : (md : Int) = (mIns (md, al, ab, tr, sv) x v).1 := by first | (rw [mIns_t (by dsimp only; omega)]; done) | (rw [mIns_f (by dsimp only; omega)]; done)
    have e_3 : (al : Int) = (mIns (md, al, ab, tr, sv) x v).2.1 := by first | (rw [mIns_t (by dsimp only; omega)]; done) | (rw [mIns_f (by dsimp only; omega)]; done)
    have e_4 : (ab : Int → Int) = (mIns (md, al, ab, tr, sv) x v).2.2.1 := by first | (rw [mIns_t (by dsimp only; omega)]; done) | (rw [mIns_f (by dsimp only; omega)]; done)
    have e_5 : (tr : Int → Int) = (mIns (md, al, ab, tr, sv) x v).2.2.2.1 := by first | (rw [mIns_t (by dsimp only; omega)]; done) | (rw [mIns_f (by dsimp only; omega)]; done)
    have e_6 : (sv : Int → Int) = (mIns (md, al, ab, tr, sv) x v).2.2.2.2 := by first | (rw [mIns_t (by dsimp only; omega)]; done) | (rw [mIns_f (by dsimp only; omega)]; done)
    have hP : va_P G.1 vwCl [(m0, .inr (12, [.int (iI lim), .int (iI fa), .int (iI rf), .int (iI mk), .ref m4, .ref m5, .ref m6, .int (iI nk), .ref m8, .ref m9, .ref m10, .int (iI st), .int (iI wn), .ref m13, .ref m14, .ref m15, .ref m16, .ref m17, .int (iI dn), .int (iI hd), .ref m20, .ref m21, .int (iI ((mIns (md, al, ab, tr, sv) x v).1)), .int (iI ((mIns (md, al, ab, tr, sv) x v).2.1)), .ref m24, .ref m25, .ref m26, .ref m27, .ref m28, .ref m29, .int (iI sd)])), (m24, .inl (gI G, 101, .inl (fun j : Nat => iI ((mIns (md, al, ab, tr, sv) x v).2.2.1 (j : Int))))), (m25, .inl (gZ G, 101, .inl (fun j : Nat => iI ((mIns (md, al, ab, tr, sv) x v).2.2.2.1 (j : Int))))), (m26, .inl (gL G, 101, .inr (.inl (fun j : Nat => lI ((mIns (md, al, ab, tr, sv) x v).2.2.2.2 (j : Int))))))] H := by rw [← e_2, ← e_3, ← e_4, ← e_5, ← e_6]; exact hP
    have hD : va_D A [(m0, .inr (12, [.int (iI lim), .int (iI fa), .int (iI rf), .int (iI mk), .ref m4, .ref m5, .ref m6, .int (iI nk), .ref m8, .ref m9, .ref m10, .int (iI st), .int (iI wn), .ref m13, .ref m14, .ref m15, .ref m16, .ref m17, .int (iI dn), .int (iI hd), .ref m20, .ref m21, .int (iI ((mIns (md, al, ab, tr, sv) x v).1)), .int (iI ((mIns (md, al, ab, tr, sv) x v).2.1)), .ref m24, .ref m25, .ref m26, .ref m27, .ref m28, .ref m29, .int (iI sd)])), (m24, .inl (gI G, 101, .inl (fun j : Nat => iI ((mIns (md, al, ab, tr, sv) x v).2.2.1 (j : Int))))), (m25, .inl (gZ G, 101, .inl (fun j : Nat => iI ((mIns (md, al, ab, tr, sv) x v).2.2.2.1 (j : Int))))), (m26, .inl (gL G, 101, .inr (.inl (fun j : Nat => lI ((mIns (md, al, ab, tr, sv) x v).2.2.2.2 (j : Int))))))] := by rw [← e_2, ← e_3, ← e_4, ← e_5, ← e_6]; exact hD
    exact hret _ ls H locs dX11_insert_22 hP hD hS
  · skip
    refine lv_iload_n hx hb dX11_insert_9 rfl (lv_at hl 1 rfl) ?_
    refine z_if_le (tgt := 23) hx hb dX11_insert_10 (by decide) (by omega) (fun c_7 => ?_) (fun c_7 => ?_)
    · skip
      refine lv_aload_n hx hb dX11_insert_23 rfl (lv_at hl 0 rfl) ?_
      refine lv_dup hx hb dX11_insert_24 rfl ?_
      refine va_get (D := G.1) (ci := 12) (v := .int (iI md)) (C := RX11) (T := TX11) (N := 31) hx hb hts hiX11 hown hK hP 0 rfl rfl 22 (by decide) hw0 (fun _ h9 => h9) rfl dX11_insert_25 ?_
      refine lv_iconst (v := iI (1)) hx hb dX11_insert_28 rfl ?_
      refine z_iadd hx hb dX11_insert_29 ?_
      refine va_put (D := G.1) (ci := 12) (v := .int (iI (md + 1))) (ty := .int) (C := RX11) (T := TX11) (N := 31) hx hb hts hiX11 tyX11 tyX11_ok nmX11 hown hK hP hD hS 0 rfl rfl 22 (by decide) hw0 (fun _ h9 => h9) rfl (by decide +kernel) rfl rfl (Nat.le_of_ble_eq_true rfl) dX11_insert_30 (fun H locs hP hD hS => ?_)
      have hP : va_P G.1 vwCl [(m0, .inr (12, [.int (iI lim), .int (iI fa), .int (iI rf), .int (iI mk), .ref m4, .ref m5, .ref m6, .int (iI nk), .ref m8, .ref m9, .ref m10, .int (iI st), .int (iI wn), .ref m13, .ref m14, .ref m15, .ref m16, .ref m17, .int (iI dn), .int (iI hd), .ref m20, .ref m21, .int (iI (md + 1)), .int (iI al), .ref m24, .ref m25, .ref m26, .ref m27, .ref m28, .ref m29, .int (iI sd)])), (m24, .inl (gI G, 101, .inl (fun j : Nat => iI (ab (j : Int))))), (m25, .inl (gZ G, 101, .inl (fun j : Nat => iI (tr (j : Int))))), (m26, .inl (gL G, 101, .inr (.inl (fun j : Nat => lI (sv (j : Int))))))] H := hP
      have hD : va_D A [(m0, .inr (12, [.int (iI lim), .int (iI fa), .int (iI rf), .int (iI mk), .ref m4, .ref m5, .ref m6, .int (iI nk), .ref m8, .ref m9, .ref m10, .int (iI st), .int (iI wn), .ref m13, .ref m14, .ref m15, .ref m16, .ref m17, .int (iI dn), .int (iI hd), .ref m20, .ref m21, .int (iI (md + 1)), .int (iI al), .ref m24, .ref m25, .ref m26, .ref m27, .ref m28, .ref m29, .int (iI sd)])), (m24, .inl (gI G, 101, .inl (fun j : Nat => iI (ab (j : Int))))), (m25, .inl (gZ G, 101, .inl (fun j : Nat => iI (tr (j : Int))))), (m26, .inl (gL G, 101, .inr (.inl (fun j : Nat => lI (sv (j : Int))))))] := hD
      refine lv_aload_n hx hb dX11_insert_33 rfl (lv_at hl 0 rfl) ?_
      refine lv_dup hx hb dX11_insert_34 rfl ?_
      refine va_get (D := G.1) (ci := 12) (v := .int (iI al)) (C := RX11) (T := TX11) (N := 31) hx hb hts hiX11 hown hK hP 0 rfl rfl 23 (by decide) hw1 (fun _ h9 => h9) rfl dX11_insert_35 ?_
      refine lv_iconst (v := iI (1)) hx hb dX11_insert_38 rfl ?_
      refine z_iadd hx hb dX11_insert_39 ?_
      refine va_put (D := G.1) (ci := 12) (v := .int (iI (al + 1))) (ty := .int) (C := RX11) (T := TX11) (N := 31) hx hb hts hiX11 tyX11 tyX11_ok nmX11 hown hK hP hD hS 0 rfl rfl 23 (by decide) hw1 (fun _ h9 => h9) rfl (by decide +kernel) rfl rfl (Nat.le_of_ble_eq_true rfl) dX11_insert_40 (fun H locs hP hD hS => ?_)
      have hP : va_P G.1 vwCl [(m0, .inr (12, [.int (iI lim), .int (iI fa), .int (iI rf), .int (iI mk), .ref m4, .ref m5, .ref m6, .int (iI nk), .ref m8, .ref m9, .ref m10, .int (iI st), .int (iI wn), .ref m13, .ref m14, .ref m15, .ref m16, .ref m17, .int (iI dn), .int (iI hd), .ref m20, .ref m21, .int (iI (md + 1)), .int (iI (al + 1)), .ref m24, .ref m25, .ref m26, .ref m27, .ref m28, .ref m29, .int (iI sd)])), (m24, .inl (gI G, 101, .inl (fun j : Nat => iI (ab (j : Int))))), (m25, .inl (gZ G, 101, .inl (fun j : Nat => iI (tr (j : Int))))), (m26, .inl (gL G, 101, .inr (.inl (fun j : Nat => lI (sv (j : Int))))))] H := hP
      have hD : va_D A [(m0, .inr (12, [.int (iI lim), .int (iI fa), .int (iI rf), .int (iI mk), .ref m4, .ref m5, .ref m6, .int (iI nk), .ref m8, .ref m9, .ref m10, .int (iI st), .int (iI wn), .ref m13, .ref m14, .ref m15, .ref m16, .ref m17, .int (iI dn), .int (iI hd), .ref m20, .ref m21, .int (iI (md + 1)), .int (iI (al + 1)), .ref m24, .ref m25, .ref m26, .ref m27, .ref m28, .ref m29, .int (iI sd)])), (m24, .inl (gI G, 101, .inl (fun j : Nat => iI (ab (j : Int))))), (m25, .inl (gZ G, 101, .inl (fun j : Nat => iI (tr (j : Int))))), (m26, .inl (gL G, 101, .inr (.inl (fun j : Nat => lI (sv (j : Int))))))] := hD
      refine lv_aload_n hx hb dX11_insert_43 rfl (lv_at hl 0 rfl) ?_
      refine va_get (D := G.1) (ci := 12) (v := .ref m24) (C := RX11) (T := TX11) (N := 31) hx hb hts hiX11 hown hK hP 0 rfl rfl 24 (by decide) hw2 (fun _ h9 => h9) rfl dX11_insert_44 ?_
      refine lv_aload_n hx hb dX11_insert_47 rfl (lv_at hl 0 rfl) ?_
      refine va_get (D := G.1) (ci := 12) (v := .int (iI (md + 1))) (C := RX11) (T := TX11) (N := 31) hx hb hts hiX11 hown hK hP 0 rfl rfl 22 (by decide) hw0 (fun _ h9 => h9) rfl dX11_insert_48 ?_
      refine lv_iload_n hx hb dX11_insert_51 rfl (lv_at hl 1 rfl) ?_
      refine z_iast hx hb hK hP hD hS 1 0 rfl rfl (by omega) dX11_insert_52 (fun H locs hP hD hS => ?_)
      have hP : va_P G.1 vwCl [(m0, .inr (12, [.int (iI lim), .int (iI fa), .int (iI rf), .int (iI mk), .ref m4, .ref m5, .ref m6, .int (iI nk), .ref m8, .ref m9, .ref m10, .int (iI st), .int (iI wn), .ref m13, .ref m14, .ref m15, .ref m16, .ref m17, .int (iI dn), .int (iI hd), .ref m20, .ref m21, .int (iI (md + 1)), .int (iI (al + 1)), .ref m24, .ref m25, .ref m26, .ref m27, .ref m28, .ref m29, .int (iI sd)])), (m24, .inl (gI G, 101, .inl (fun j : Nat => iI ((uF ab (md + 1) x) (j : Int))))), (m25, .inl (gZ G, 101, .inl (fun j : Nat => iI (tr (j : Int))))), (m26, .inl (gL G, 101, .inr (.inl (fun j : Nat => lI (sv (j : Int))))))] H := hP
      have hD : va_D A [(m0, .inr (12, [.int (iI lim), .int (iI fa), .int (iI rf), .int (iI mk), .ref m4, .ref m5, .ref m6, .int (iI nk), .ref m8, .ref m9, .ref m10, .int (iI st), .int (iI wn), .ref m13, .ref m14, .ref m15, .ref m16, .ref m17, .int (iI dn), .int (iI hd), .ref m20, .ref m21, .int (iI (md + 1)), .int (iI (al + 1)), .ref m24, .ref m25, .ref m26, .ref m27, .ref m28, .ref m29, .int (iI sd)])), (m24, .inl (gI G, 101, .inl (fun j : Nat => iI ((uF ab (md + 1) x) (j : Int))))), (m25, .inl (gZ G, 101, .inl (fun j : Nat => iI (tr (j : Int))))), (m26, .inl (gL G, 101, .inr (.inl (fun j : Nat => lI (sv (j : Int))))))] := hD
      refine lv_aload_n hx hb dX11_insert_53 rfl (lv_at hl 0 rfl) ?_
      refine va_get (D := G.1) (ci := 12) (v := .ref m25) (C := RX11) (T := TX11) (N := 31) hx hb hts hiX11 hown hK hP 0 rfl rfl 25 (by decide) hw3 (fun _ h9 => h9) rfl dX11_insert_54 ?_
      refine lv_aload_n hx hb dX11_insert_57 rfl (lv_at hl 0 rfl) ?_
      refine va_get (D := G.1) (ci := 12) (v := .int (iI (md + 1))) (C := RX11) (T := TX11) (N := 31) hx hb hts hiX11 hown hK hP 0 rfl rfl 22 (by decide) hw0 (fun _ h9 => h9) rfl dX11_insert_58 ?_
      refine lv_iconst (v := iI (1)) hx hb dX11_insert_61 rfl ?_
      refine z_zast hx hb hK hP hD hS 2 3 rfl rfl (by omega) (by decide) dX11_insert_62 (fun H locs hP hD hS => ?_)
      have hP : va_P G.1 vwCl [(m0, .inr (12, [.int (iI lim), .int (iI fa), .int (iI rf), .int (iI mk), .ref m4, .ref m5, .ref m6, .int (iI nk), .ref m8, .ref m9, .ref m10, .int (iI st), .int (iI wn), .ref m13, .ref m14, .ref m15, .ref m16, .ref m17, .int (iI dn), .int (iI hd), .ref m20, .ref m21, .int (iI (md + 1)), .int (iI (al + 1)), .ref m24, .ref m25, .ref m26, .ref m27, .ref m28, .ref m29, .int (iI sd)])), (m24, .inl (gI G, 101, .inl (fun j : Nat => iI ((uF ab (md + 1) x) (j : Int))))), (m25, .inl (gZ G, 101, .inl (fun j : Nat => iI ((uF tr (md + 1) 1) (j : Int))))), (m26, .inl (gL G, 101, .inr (.inl (fun j : Nat => lI (sv (j : Int))))))] H := hP
      have hD : va_D A [(m0, .inr (12, [.int (iI lim), .int (iI fa), .int (iI rf), .int (iI mk), .ref m4, .ref m5, .ref m6, .int (iI nk), .ref m8, .ref m9, .ref m10, .int (iI st), .int (iI wn), .ref m13, .ref m14, .ref m15, .ref m16, .ref m17, .int (iI dn), .int (iI hd), .ref m20, .ref m21, .int (iI (md + 1)), .int (iI (al + 1)), .ref m24, .ref m25, .ref m26, .ref m27, .ref m28, .ref m29, .int (iI sd)])), (m24, .inl (gI G, 101, .inl (fun j : Nat => iI ((uF ab (md + 1) x) (j : Int))))), (m25, .inl (gZ G, 101, .inl (fun j : Nat => iI ((uF tr (md + 1) 1) (j : Int))))), (m26, .inl (gL G, 101, .inr (.inl (fun j : Nat => lI (sv (j : Int))))))] := hD
      refine lv_aload_n hx hb dX11_insert_63 rfl (lv_at hl 0 rfl) ?_
      refine va_get (D := G.1) (ci := 12) (v := .ref m26) (C := RX11) (T := TX11) (N := 31) hx hb hts hiX11 hown hK hP 0 rfl rfl 26 (by decide) hw4 (fun _ h9 => h9) rfl dX11_insert_64 ?_
      refine lv_aload_n hx hb dX11_insert_67 rfl (lv_at hl 0 rfl) ?_
      refine va_get (D := G.1) (ci := 12) (v := .int (iI (md + 1))) (C := RX11) (T := TX11) (N := 31) hx hb hts hiX11 hown hK hP 0 rfl rfl 22 (by decide) hw0 (fun _ h9 => h9) rfl dX11_insert_68 ?_
      refine lv_lload_n hx hb dX11_insert_71 rfl (lv_at hl 2 rfl) ?_
      refine z_last hx hb hK hP hD hS 3 1 rfl rfl (by omega) dX11_insert_72 (fun H locs hP hD hS => ?_)
      have hP : va_P G.1 vwCl [(m0, .inr (12, [.int (iI lim), .int (iI fa), .int (iI rf), .int (iI mk), .ref m4, .ref m5, .ref m6, .int (iI nk), .ref m8, .ref m9, .ref m10, .int (iI st), .int (iI wn), .ref m13, .ref m14, .ref m15, .ref m16, .ref m17, .int (iI dn), .int (iI hd), .ref m20, .ref m21, .int (iI (md + 1)), .int (iI (al + 1)), .ref m24, .ref m25, .ref m26, .ref m27, .ref m28, .ref m29, .int (iI sd)])), (m24, .inl (gI G, 101, .inl (fun j : Nat => iI ((uF ab (md + 1) x) (j : Int))))), (m25, .inl (gZ G, 101, .inl (fun j : Nat => iI ((uF tr (md + 1) 1) (j : Int))))), (m26, .inl (gL G, 101, .inr (.inl (fun j : Nat => lI ((uF sv (md + 1) v) (j : Int))))))] H := hP
      have hD : va_D A [(m0, .inr (12, [.int (iI lim), .int (iI fa), .int (iI rf), .int (iI mk), .ref m4, .ref m5, .ref m6, .int (iI nk), .ref m8, .ref m9, .ref m10, .int (iI st), .int (iI wn), .ref m13, .ref m14, .ref m15, .ref m16, .ref m17, .int (iI dn), .int (iI hd), .ref m20, .ref m21, .int (iI (md + 1)), .int (iI (al + 1)), .ref m24, .ref m25, .ref m26, .ref m27, .ref m28, .ref m29, .int (iI sd)])), (m24, .inl (gI G, 101, .inl (fun j : Nat => iI ((uF ab (md + 1) x) (j : Int))))), (m25, .inl (gZ G, 101, .inl (fun j : Nat => iI ((uF tr (md + 1) 1) (j : Int))))), (m26, .inl (gL G, 101, .inr (.inl (fun j : Nat => lI ((uF sv (md + 1) v) (j : Int))))))] := hD
      have e_8 : ((md + 1) : Int) = (mIns (md, al, ab, tr, sv) x v).1 := by first | (rw [mIns_t (by dsimp only; omega)]; done) | (rw [mIns_f (by dsimp only; omega)]; done)
      have e_9 : ((al + 1) : Int) = (mIns (md, al, ab, tr, sv) x v).2.1 := by first | (rw [mIns_t (by dsimp only; omega)]; done) | (rw [mIns_f (by dsimp only; omega)]; done)
      have e_10 : ((uF ab (md + 1) x) : Int → Int) = (mIns (md, al, ab, tr, sv) x v).2.2.1 := by first | (rw [mIns_t (by dsimp only; omega)]; done) | (rw [mIns_f (by dsimp only; omega)]; done)
      have e_11 : ((uF tr (md + 1) 1) : Int → Int) = (mIns (md, al, ab, tr, sv) x v).2.2.2.1 := by first | (rw [mIns_t (by dsimp only; omega)]; done) | (rw [mIns_f (by dsimp only; omega)]; done)
      have e_12 : ((uF sv (md + 1) v) : Int → Int) = (mIns (md, al, ab, tr, sv) x v).2.2.2.2 := by first | (rw [mIns_t (by dsimp only; omega)]; done) | (rw [mIns_f (by dsimp only; omega)]; done)
      have hP : va_P G.1 vwCl [(m0, .inr (12, [.int (iI lim), .int (iI fa), .int (iI rf), .int (iI mk), .ref m4, .ref m5, .ref m6, .int (iI nk), .ref m8, .ref m9, .ref m10, .int (iI st), .int (iI wn), .ref m13, .ref m14, .ref m15, .ref m16, .ref m17, .int (iI dn), .int (iI hd), .ref m20, .ref m21, .int (iI ((mIns (md, al, ab, tr, sv) x v).1)), .int (iI ((mIns (md, al, ab, tr, sv) x v).2.1)), .ref m24, .ref m25, .ref m26, .ref m27, .ref m28, .ref m29, .int (iI sd)])), (m24, .inl (gI G, 101, .inl (fun j : Nat => iI ((mIns (md, al, ab, tr, sv) x v).2.2.1 (j : Int))))), (m25, .inl (gZ G, 101, .inl (fun j : Nat => iI ((mIns (md, al, ab, tr, sv) x v).2.2.2.1 (j : Int))))), (m26, .inl (gL G, 101, .inr (.inl (fun j : Nat => lI ((mIns (md, al, ab, tr, sv) x v).2.2.2.2 (j : Int))))))] H := by rw [← e_8, ← e_9, ← e_10, ← e_11, ← e_12]; exact hP
      have hD : va_D A [(m0, .inr (12, [.int (iI lim), .int (iI fa), .int (iI rf), .int (iI mk), .ref m4, .ref m5, .ref m6, .int (iI nk), .ref m8, .ref m9, .ref m10, .int (iI st), .int (iI wn), .ref m13, .ref m14, .ref m15, .ref m16, .ref m17, .int (iI dn), .int (iI hd), .ref m20, .ref m21, .int (iI ((mIns (md, al, ab, tr, sv) x v).1)), .int (iI ((mIns (md, al, ab, tr, sv) x v).2.1)), .ref m24, .ref m25, .ref m26, .ref m27, .ref m28, .ref m29, .int (iI sd)])), (m24, .inl (gI G, 101, .inl (fun j : Nat => iI ((mIns (md, al, ab, tr, sv) x v).2.2.1 (j : Int))))), (m25, .inl (gZ G, 101, .inl (fun j : Nat => iI ((mIns (md, al, ab, tr, sv) x v).2.2.2.1 (j : Int))))), (m26, .inl (gL G, 101, .inr (.inl (fun j : Nat => lI ((mIns (md, al, ab, tr, sv) x v).2.2.2.2 (j : Int))))))] := by rw [← e_8, ← e_9, ← e_10, ← e_11, ← e_12]; exact hD
      exact hret _ ls H locs dX11_insert_73 hP hD hS
    · skip
      refine lv_aload_n hx hb dX11_insert_13 rfl (lv_at hl 0 rfl) ?_
      refine va_get (D := G.1) (ci := 12) (v := .ref m25) (C := RX11) (T := TX11) (N := 31) hx hb hts hiX11 hown hK hP 0 rfl rfl 25 (by decide) hw3 (fun _ h9 => h9) rfl dX11_insert_14 ?_
      refine lv_iload_n hx hb dX11_insert_17 rfl (lv_at hl 1 rfl) ?_
      refine z_zald hx hb hK hP 2 3 rfl rfl (by omega) dX11_insert_18 ?_
      refine z_if_ne (tgt := 23) hx hb dX11_insert_19 (by decide) (by have := g2 x (by omega) (by omega); omega) (fun c_13 => ?_) (fun c_13 => ?_)
      · skip
        refine lv_aload_n hx hb dX11_insert_23 rfl (lv_at hl 0 rfl) ?_
        refine lv_dup hx hb dX11_insert_24 rfl ?_
        refine va_get (D := G.1) (ci := 12) (v := .int (iI md)) (C := RX11) (T := TX11) (N := 31) hx hb hts hiX11 hown hK hP 0 rfl rfl 22 (by decide) hw0 (fun _ h9 => h9) rfl dX11_insert_25 ?_
        refine lv_iconst (v := iI (1)) hx hb dX11_insert_28 rfl ?_
        refine z_iadd hx hb dX11_insert_29 ?_
        refine va_put (D := G.1) (ci := 12) (v := .int (iI (md + 1))) (ty := .int) (C := RX11) (T := TX11) (N := 31) hx hb hts hiX11 tyX11 tyX11_ok nmX11 hown hK hP hD hS 0 rfl rfl 22 (by decide) hw0 (fun _ h9 => h9) rfl (by decide +kernel) rfl rfl (Nat.le_of_ble_eq_true rfl) dX11_insert_30 (fun H locs hP hD hS => ?_)
        have hP : va_P G.1 vwCl [(m0, .inr (12, [.int (iI lim), .int (iI fa), .int (iI rf), .int (iI mk), .ref m4, .ref m5, .ref m6, .int (iI nk), .ref m8, .ref m9, .ref m10, .int (iI st), .int (iI wn), .ref m13, .ref m14, .ref m15, .ref m16, .ref m17, .int (iI dn), .int (iI hd), .ref m20, .ref m21, .int (iI (md + 1)), .int (iI al), .ref m24, .ref m25, .ref m26, .ref m27, .ref m28, .ref m29, .int (iI sd)])), (m24, .inl (gI G, 101, .inl (fun j : Nat => iI (ab (j : Int))))), (m25, .inl (gZ G, 101, .inl (fun j : Nat => iI (tr (j : Int))))), (m26, .inl (gL G, 101, .inr (.inl (fun j : Nat => lI (sv (j : Int))))))] H := hP
        have hD : va_D A [(m0, .inr (12, [.int (iI lim), .int (iI fa), .int (iI rf), .int (iI mk), .ref m4, .ref m5, .ref m6, .int (iI nk), .ref m8, .ref m9, .ref m10, .int (iI st), .int (iI wn), .ref m13, .ref m14, .ref m15, .ref m16, .ref m17, .int (iI dn), .int (iI hd), .ref m20, .ref m21, .int (iI (md + 1)), .int (iI al), .ref m24, .ref m25, .ref m26, .ref m27, .ref m28, .ref m29, .int (iI sd)])), (m24, .inl (gI G, 101, .inl (fun j : Nat => iI (ab (j : Int))))), (m25, .inl (gZ G, 101, .inl (fun j : Nat => iI (tr (j : Int))))), (m26, .inl (gL G, 101, .inr (.inl (fun j : Nat => lI (sv (j : Int))))))] := hD
        refine lv_aload_n hx hb dX11_insert_33 rfl (lv_at hl 0 rfl) ?_
        refine lv_dup hx hb dX11_insert_34 rfl ?_
        refine va_get (D := G.1) (ci := 12) (v := .int (iI al)) (C := RX11) (T := TX11) (N := 31) hx hb hts hiX11 hown hK hP 0 rfl rfl 23 (by decide) hw1 (fun _ h9 => h9) rfl dX11_insert_35 ?_
        refine lv_iconst (v := iI (1)) hx hb dX11_insert_38 rfl ?_
        refine z_iadd hx hb dX11_insert_39 ?_
        refine va_put (D := G.1) (ci := 12) (v := .int (iI (al + 1))) (ty := .int) (C := RX11) (T := TX11) (N := 31) hx hb hts hiX11 tyX11 tyX11_ok nmX11 hown hK hP hD hS 0 rfl rfl 23 (by decide) hw1 (fun _ h9 => h9) rfl (by decide +kernel) rfl rfl (Nat.le_of_ble_eq_true rfl) dX11_insert_40 (fun H locs hP hD hS => ?_)
        have hP : va_P G.1 vwCl [(m0, .inr (12, [.int (iI lim), .int (iI fa), .int (iI rf), .int (iI mk), .ref m4, .ref m5, .ref m6, .int (iI nk), .ref m8, .ref m9, .ref m10, .int (iI st), .int (iI wn), .ref m13, .ref m14, .ref m15, .ref m16, .ref m17, .int (iI dn), .int (iI hd), .ref m20, .ref m21, .int (iI (md + 1)), .int (iI (al + 1)), .ref m24, .ref m25, .ref m26, .ref m27, .ref m28, .ref m29, .int (iI sd)])), (m24, .inl (gI G, 101, .inl (fun j : Nat => iI (ab (j : Int))))), (m25, .inl (gZ G, 101, .inl (fun j : Nat => iI (tr (j : Int))))), (m26, .inl (gL G, 101, .inr (.inl (fun j : Nat => lI (sv (j : Int))))))] H := hP
        have hD : va_D A [(m0, .inr (12, [.int (iI lim), .int (iI fa), .int (iI rf), .int (iI mk), .ref m4, .ref m5, .ref m6, .int (iI nk), .ref m8, .ref m9, .ref m10, .int (iI st), .int (iI wn), .ref m13, .ref m14, .ref m15, .ref m16, .ref m17, .int (iI dn), .int (iI hd), .ref m20, .ref m21, .int (iI (md + 1)), .int (iI (al + 1)), .ref m24, .ref m25, .ref m26, .ref m27, .ref m28, .ref m29, .int (iI sd)])), (m24, .inl (gI G, 101, .inl (fun j : Nat => iI (ab (j : Int))))), (m25, .inl (gZ G, 101, .inl (fun j : Nat => iI (tr (j : Int))))), (m26, .inl (gL G, 101, .inr (.inl (fun j : Nat => lI (sv (j : Int))))))] := hD
        refine lv_aload_n hx hb dX11_insert_43 rfl (lv_at hl 0 rfl) ?_
        refine va_get (D := G.1) (ci := 12) (v := .ref m24) (C := RX11) (T := TX11) (N := 31) hx hb hts hiX11 hown hK hP 0 rfl rfl 24 (by decide) hw2 (fun _ h9 => h9) rfl dX11_insert_44 ?_
        refine lv_aload_n hx hb dX11_insert_47 rfl (lv_at hl 0 rfl) ?_
        refine va_get (D := G.1) (ci := 12) (v := .int (iI (md + 1))) (C := RX11) (T := TX11) (N := 31) hx hb hts hiX11 hown hK hP 0 rfl rfl 22 (by decide) hw0 (fun _ h9 => h9) rfl dX11_insert_48 ?_
        refine lv_iload_n hx hb dX11_insert_51 rfl (lv_at hl 1 rfl) ?_
        refine z_iast hx hb hK hP hD hS 1 0 rfl rfl (by omega) dX11_insert_52 (fun H locs hP hD hS => ?_)
        have hP : va_P G.1 vwCl [(m0, .inr (12, [.int (iI lim), .int (iI fa), .int (iI rf), .int (iI mk), .ref m4, .ref m5, .ref m6, .int (iI nk), .ref m8, .ref m9, .ref m10, .int (iI st), .int (iI wn), .ref m13, .ref m14, .ref m15, .ref m16, .ref m17, .int (iI dn), .int (iI hd), .ref m20, .ref m21, .int (iI (md + 1)), .int (iI (al + 1)), .ref m24, .ref m25, .ref m26, .ref m27, .ref m28, .ref m29, .int (iI sd)])), (m24, .inl (gI G, 101, .inl (fun j : Nat => iI ((uF ab (md + 1) x) (j : Int))))), (m25, .inl (gZ G, 101, .inl (fun j : Nat => iI (tr (j : Int))))), (m26, .inl (gL G, 101, .inr (.inl (fun j : Nat => lI (sv (j : Int))))))] H := hP
        have hD : va_D A [(m0, .inr (12, [.int (iI lim), .int (iI fa), .int (iI rf), .int (iI mk), .ref m4, .ref m5, .ref m6, .int (iI nk), .ref m8, .ref m9, .ref m10, .int (iI st), .int (iI wn), .ref m13, .ref m14, .ref m15, .ref m16, .ref m17, .int (iI dn), .int (iI hd), .ref m20, .ref m21, .int (iI (md + 1)), .int (iI (al + 1)), .ref m24, .ref m25, .ref m26, .ref m27, .ref m28, .ref m29, .int (iI sd)])), (m24, .inl (gI G, 101, .inl (fun j : Nat => iI ((uF ab (md + 1) x) (j : Int))))), (m25, .inl (gZ G, 101, .inl (fun j : Nat => iI (tr (j : Int))))), (m26, .inl (gL G, 101, .inr (.inl (fun j : Nat => lI (sv (j : Int))))))] := hD
        refine lv_aload_n hx hb dX11_insert_53 rfl (lv_at hl 0 rfl) ?_
        refine va_get (D := G.1) (ci := 12) (v := .ref m25) (C := RX11) (T := TX11) (N := 31) hx hb hts hiX11 hown hK hP 0 rfl rfl 25 (by decide) hw3 (fun _ h9 => h9) rfl dX11_insert_54 ?_
        refine lv_aload_n hx hb dX11_insert_57 rfl (lv_at hl 0 rfl) ?_
        refine va_get (D := G.1) (ci := 12) (v := .int (iI (md + 1))) (C := RX11) (T := TX11) (N := 31) hx hb hts hiX11 hown hK hP 0 rfl rfl 22 (by decide) hw0 (fun _ h9 => h9) rfl dX11_insert_58 ?_
        refine lv_iconst (v := iI (1)) hx hb dX11_insert_61 rfl ?_
        refine z_zast hx hb hK hP hD hS 2 3 rfl rfl (by omega) (by decide) dX11_insert_62 (fun H locs hP hD hS => ?_)
        have hP : va_P G.1 vwCl [(m0, .inr (12, [.int (iI lim), .int (iI fa), .int (iI rf), .int (iI mk), .ref m4, .ref m5, .ref m6, .int (iI nk), .ref m8, .ref m9, .ref m10, .int (iI st), .int (iI wn), .ref m13, .ref m14, .ref m15, .ref m16, .ref m17, .int (iI dn), .int (iI hd), .ref m20, .ref m21, .int (iI (md + 1)), .int (iI (al + 1)), .ref m24, .ref m25, .ref m26, .ref m27, .ref m28, .ref m29, .int (iI sd)])), (m24, .inl (gI G, 101, .inl (fun j : Nat => iI ((uF ab (md + 1) x) (j : Int))))), (m25, .inl (gZ G, 101, .inl (fun j : Nat => iI ((uF tr (md + 1) 1) (j : Int))))), (m26, .inl (gL G, 101, .inr (.inl (fun j : Nat => lI (sv (j : Int))))))] H := hP
        have hD : va_D A [(m0, .inr (12, [.int (iI lim), .int (iI fa), .int (iI rf), .int (iI mk), .ref m4, .ref m5, .ref m6, .int (iI nk), .ref m8, .ref m9, .ref m10, .int (iI st), .int (iI wn), .ref m13, .ref m14, .ref m15, .ref m16, .ref m17, .int (iI dn), .int (iI hd), .ref m20, .ref m21, .int (iI (md + 1)), .int (iI (al + 1)), .ref m24, .ref m25, .ref m26, .ref m27, .ref m28, .ref m29, .int (iI sd)])), (m24, .inl (gI G, 101, .inl (fun j : Nat => iI ((uF ab (md + 1) x) (j : Int))))), (m25, .inl (gZ G, 101, .inl (fun j : Nat => iI ((uF tr (md + 1) 1) (j : Int))))), (m26, .inl (gL G, 101, .inr (.inl (fun j : Nat => lI (sv (j : Int))))))] := hD
        refine lv_aload_n hx hb dX11_insert_63 rfl (lv_at hl 0 rfl) ?_
        refine va_get (D := G.1) (ci := 12) (v := .ref m26) (C := RX11) (T := TX11) (N := 31) hx hb hts hiX11 hown hK hP 0 rfl rfl 26 (by decide) hw4 (fun _ h9 => h9) rfl dX11_insert_64 ?_
        refine lv_aload_n hx hb dX11_insert_67 rfl (lv_at hl 0 rfl) ?_
        refine va_get (D := G.1) (ci := 12) (v := .int (iI (md + 1))) (C := RX11) (T := TX11) (N := 31) hx hb hts hiX11 hown hK hP 0 rfl rfl 22 (by decide) hw0 (fun _ h9 => h9) rfl dX11_insert_68 ?_
        refine lv_lload_n hx hb dX11_insert_71 rfl (lv_at hl 2 rfl) ?_
        refine z_last hx hb hK hP hD hS 3 1 rfl rfl (by omega) dX11_insert_72 (fun H locs hP hD hS => ?_)
        have hP : va_P G.1 vwCl [(m0, .inr (12, [.int (iI lim), .int (iI fa), .int (iI rf), .int (iI mk), .ref m4, .ref m5, .ref m6, .int (iI nk), .ref m8, .ref m9, .ref m10, .int (iI st), .int (iI wn), .ref m13, .ref m14, .ref m15, .ref m16, .ref m17, .int (iI dn), .int (iI hd), .ref m20, .ref m21, .int (iI (md + 1)), .int (iI (al + 1)), .ref m24, .ref m25, .ref m26, .ref m27, .ref m28, .ref m29, .int (iI sd)])), (m24, .inl (gI G, 101, .inl (fun j : Nat => iI ((uF ab (md + 1) x) (j : Int))))), (m25, .inl (gZ G, 101, .inl (fun j : Nat => iI ((uF tr (md + 1) 1) (j : Int))))), (m26, .inl (gL G, 101, .inr (.inl (fun j : Nat => lI ((uF sv (md + 1) v) (j : Int))))))] H := hP
        have hD : va_D A [(m0, .inr (12, [.int (iI lim), .int (iI fa), .int (iI rf), .int (iI mk), .ref m4, .ref m5, .ref m6, .int (iI nk), .ref m8, .ref m9, .ref m10, .int (iI st), .int (iI wn), .ref m13, .ref m14, .ref m15, .ref m16, .ref m17, .int (iI dn), .int (iI hd), .ref m20, .ref m21, .int (iI (md + 1)), .int (iI (al + 1)), .ref m24, .ref m25, .ref m26, .ref m27, .ref m28, .ref m29, .int (iI sd)])), (m24, .inl (gI G, 101, .inl (fun j : Nat => iI ((uF ab (md + 1) x) (j : Int))))), (m25, .inl (gZ G, 101, .inl (fun j : Nat => iI ((uF tr (md + 1) 1) (j : Int))))), (m26, .inl (gL G, 101, .inr (.inl (fun j : Nat => lI ((uF sv (md + 1) v) (j : Int))))))] := hD
        have e_14 : ((md + 1) : Int) = (mIns (md, al, ab, tr, sv) x v).1 := by first | (rw [mIns_t (by dsimp only; omega)]; done) | (rw [mIns_f (by dsimp only; omega)]; done)
        have e_15 : ((al + 1) : Int) = (mIns (md, al, ab, tr, sv) x v).2.1 := by first | (rw [mIns_t (by dsimp only; omega)]; done) | (rw [mIns_f (by dsimp only; omega)]; done)
        have e_16 : ((uF ab (md + 1) x) : Int → Int) = (mIns (md, al, ab, tr, sv) x v).2.2.1 := by first | (rw [mIns_t (by dsimp only; omega)]; done) | (rw [mIns_f (by dsimp only; omega)]; done)
        have e_17 : ((uF tr (md + 1) 1) : Int → Int) = (mIns (md, al, ab, tr, sv) x v).2.2.2.1 := by first | (rw [mIns_t (by dsimp only; omega)]; done) | (rw [mIns_f (by dsimp only; omega)]; done)
        have e_18 : ((uF sv (md + 1) v) : Int → Int) = (mIns (md, al, ab, tr, sv) x v).2.2.2.2 := by first | (rw [mIns_t (by dsimp only; omega)]; done) | (rw [mIns_f (by dsimp only; omega)]; done)
        have hP : va_P G.1 vwCl [(m0, .inr (12, [.int (iI lim), .int (iI fa), .int (iI rf), .int (iI mk), .ref m4, .ref m5, .ref m6, .int (iI nk), .ref m8, .ref m9, .ref m10, .int (iI st), .int (iI wn), .ref m13, .ref m14, .ref m15, .ref m16, .ref m17, .int (iI dn), .int (iI hd), .ref m20, .ref m21, .int (iI ((mIns (md, al, ab, tr, sv) x v).1)), .int (iI ((mIns (md, al, ab, tr, sv) x v).2.1)), .ref m24, .ref m25, .ref m26, .ref m27, .ref m28, .ref m29, .int (iI sd)])), (m24, .inl (gI G, 101, .inl (fun j : Nat => iI ((mIns (md, al, ab, tr, sv) x v).2.2.1 (j : Int))))), (m25, .inl (gZ G, 101, .inl (fun j : Nat => iI ((mIns (md, al, ab, tr, sv) x v).2.2.2.1 (j : Int))))), (m26, .inl (gL G, 101, .inr (.inl (fun j : Nat => lI ((mIns (md, al, ab, tr, sv) x v).2.2.2.2 (j : Int))))))] H := by rw [← e_14, ← e_15, ← e_16, ← e_17, ← e_18]; exact hP
        have hD : va_D A [(m0, .inr (12, [.int (iI lim), .int (iI fa), .int (iI rf), .int (iI mk), .ref m4, .ref m5, .ref m6, .int (iI nk), .ref m8, .ref m9, .ref m10, .int (iI st), .int (iI wn), .ref m13, .ref m14, .ref m15, .ref m16, .ref m17, .int (iI dn), .int (iI hd), .ref m20, .ref m21, .int (iI ((mIns (md, al, ab, tr, sv) x v).1)), .int (iI ((mIns (md, al, ab, tr, sv) x v).2.1)), .ref m24, .ref m25, .ref m26, .ref m27, .ref m28, .ref m29, .int (iI sd)])), (m24, .inl (gI G, 101, .inl (fun j : Nat => iI ((mIns (md, al, ab, tr, sv) x v).2.2.1 (j : Int))))), (m25, .inl (gZ G, 101, .inl (fun j : Nat => iI ((mIns (md, al, ab, tr, sv) x v).2.2.2.1 (j : Int))))), (m26, .inl (gL G, 101, .inr (.inl (fun j : Nat => lI ((mIns (md, al, ab, tr, sv) x v).2.2.2.2 (j : Int))))))] := by rw [← e_14, ← e_15, ← e_16, ← e_17, ← e_18]; exact hD
        exact hret _ ls H locs dX11_insert_73 hP hD hS
      · skip
        have e_19 : (md : Int) = (mIns (md, al, ab, tr, sv) x v).1 := by first | (rw [mIns_t (by dsimp only; omega)]; done) | (rw [mIns_f (by dsimp only; omega)]; done)
        have e_20 : (al : Int) = (mIns (md, al, ab, tr, sv) x v).2.1 := by first | (rw [mIns_t (by dsimp only; omega)]; done) | (rw [mIns_f (by dsimp only; omega)]; done)
        have e_21 : (ab : Int → Int) = (mIns (md, al, ab, tr, sv) x v).2.2.1 := by first | (rw [mIns_t (by dsimp only; omega)]; done) | (rw [mIns_f (by dsimp only; omega)]; done)
        have e_22 : (tr : Int → Int) = (mIns (md, al, ab, tr, sv) x v).2.2.2.1 := by first | (rw [mIns_t (by dsimp only; omega)]; done) | (rw [mIns_f (by dsimp only; omega)]; done)
        have e_23 : (sv : Int → Int) = (mIns (md, al, ab, tr, sv) x v).2.2.2.2 := by first | (rw [mIns_t (by dsimp only; omega)]; done) | (rw [mIns_f (by dsimp only; omega)]; done)
        have hP : va_P G.1 vwCl [(m0, .inr (12, [.int (iI lim), .int (iI fa), .int (iI rf), .int (iI mk), .ref m4, .ref m5, .ref m6, .int (iI nk), .ref m8, .ref m9, .ref m10, .int (iI st), .int (iI wn), .ref m13, .ref m14, .ref m15, .ref m16, .ref m17, .int (iI dn), .int (iI hd), .ref m20, .ref m21, .int (iI ((mIns (md, al, ab, tr, sv) x v).1)), .int (iI ((mIns (md, al, ab, tr, sv) x v).2.1)), .ref m24, .ref m25, .ref m26, .ref m27, .ref m28, .ref m29, .int (iI sd)])), (m24, .inl (gI G, 101, .inl (fun j : Nat => iI ((mIns (md, al, ab, tr, sv) x v).2.2.1 (j : Int))))), (m25, .inl (gZ G, 101, .inl (fun j : Nat => iI ((mIns (md, al, ab, tr, sv) x v).2.2.2.1 (j : Int))))), (m26, .inl (gL G, 101, .inr (.inl (fun j : Nat => lI ((mIns (md, al, ab, tr, sv) x v).2.2.2.2 (j : Int))))))] H := by rw [← e_19, ← e_20, ← e_21, ← e_22, ← e_23]; exact hP
        have hD : va_D A [(m0, .inr (12, [.int (iI lim), .int (iI fa), .int (iI rf), .int (iI mk), .ref m4, .ref m5, .ref m6, .int (iI nk), .ref m8, .ref m9, .ref m10, .int (iI st), .int (iI wn), .ref m13, .ref m14, .ref m15, .ref m16, .ref m17, .int (iI dn), .int (iI hd), .ref m20, .ref m21, .int (iI ((mIns (md, al, ab, tr, sv) x v).1)), .int (iI ((mIns (md, al, ab, tr, sv) x v).2.1)), .ref m24, .ref m25, .ref m26, .ref m27, .ref m28, .ref m29, .int (iI sd)])), (m24, .inl (gI G, 101, .inl (fun j : Nat => iI ((mIns (md, al, ab, tr, sv) x v).2.2.1 (j : Int))))), (m25, .inl (gZ G, 101, .inl (fun j : Nat => iI ((mIns (md, al, ab, tr, sv) x v).2.2.2.1 (j : Int))))), (m26, .inl (gL G, 101, .inr (.inl (fun j : Nat => lI ((mIns (md, al, ab, tr, sv) x v).2.2.2.2 (j : Int))))))] := by rw [← e_19, ← e_20, ← e_21, ← e_22, ← e_23]; exact hD
        exact hret _ ls H locs dX11_insert_22 hP hD hS

set_option maxHeartbeats 4000000 in
set_option maxRecDepth 100000 in
theorem c_X11_delete (l : Launch) (G : Gx) (zz : Nat) (m0 m4 m5 m6 m8 m9 m10 m13 m14 m15 m16 m17 m20 m21 m24 m25 m26 m27 m28 m29 : Nat) (lim fa rf mk nk st wn dn hd md al sd : Int) (ab tr sv : Int → Int) (x : Int) (hg : MGV (md, al, ab, tr, sv)) (h1 : 1 ≤ x ∧ x ≤ 100) : Cv l yX11_delete wsX11_delete (rz 0 0) G [.ref m0, .int (iI x)] [(m0, .inr (12, [.int (iI lim), .int (iI fa), .int (iI rf), .int (iI mk), .ref m4, .ref m5, .ref m6, .int (iI nk), .ref m8, .ref m9, .ref m10, .int (iI st), .int (iI wn), .ref m13, .ref m14, .ref m15, .ref m16, .ref m17, .int (iI dn), .int (iI hd), .ref m20, .ref m21, .int (iI md), .int (iI al), .ref m24, .ref m25, .ref m26, .ref m27, .ref m28, .ref m29, .int (iI sd)])), (m24, .inl (gI G, 101, .inl (fun j : Nat => iI (ab (j : Int))))), (m25, .inl (gZ G, 101, .inl (fun j : Nat => iI (tr (j : Int))))), (m26, .inl (gL G, 101, .inr (.inl (fun j : Nat => lI (sv (j : Int))))))] zz [(m0, .inr (12, [.int (iI lim), .int (iI fa), .int (iI rf), .int (iI mk), .ref m4, .ref m5, .ref m6, .int (iI nk), .ref m8, .ref m9, .ref m10, .int (iI st), .int (iI wn), .ref m13, .ref m14, .ref m15, .ref m16, .ref m17, .int (iI dn), .int (iI hd), .ref m20, .ref m21, .int (iI ((mDel (md, al, ab, tr, sv) x).1)), .int (iI ((mDel (md, al, ab, tr, sv) x).2.1)), .ref m24, .ref m25, .ref m26, .ref m27, .ref m28, .ref m29, .int (iI sd)])), (m24, .inl (gI G, 101, .inl (fun j : Nat => iI ((mDel (md, al, ab, tr, sv) x).2.2.1 (j : Int))))), (m25, .inl (gZ G, 101, .inl (fun j : Nat => iI ((mDel (md, al, ab, tr, sv) x).2.2.2.1 (j : Int))))), (m26, .inl (gL G, 101, .inr (.inl (fun j : Nat => lI ((mDel (md, al, ab, tr, sv) x).2.2.2.2 (j : Int))))))] := by
  refine met_v (cc := cX11_delete) (maxL := 3) (by decide) rfl (Nat.le_of_ble_eq_true rfl) ⟨rfl, rfl⟩ ?_
  intro p e s m below meth c A Q F C hP hD hS hret ls hl
  obtain ⟨hx, hb, hml, hown, hts⟩ := id F
  obtain ⟨hK, hA, hZ, hT, hN⟩ := id C
  have hl : lv_has ls 3 [(0, .ref m0), (1, .int (iI x))] := hl
  obtain ⟨H, hH⟩ : ∃ H, H = s.heap := ⟨_, rfl⟩
  obtain ⟨locs, hlocs⟩ : ∃ l : List Loc, l = [] := ⟨_, rfl⟩
  have hS : va_S A s.heap H locs := by rw [hH, hlocs]; exact hS
  have hP : va_P G.1 vwCl [(m0, .inr (12, [.int (iI lim), .int (iI fa), .int (iI rf), .int (iI mk), .ref m4, .ref m5, .ref m6, .int (iI nk), .ref m8, .ref m9, .ref m10, .int (iI st), .int (iI wn), .ref m13, .ref m14, .ref m15, .ref m16, .ref m17, .int (iI dn), .int (iI hd), .ref m20, .ref m21, .int (iI md), .int (iI al), .ref m24, .ref m25, .ref m26, .ref m27, .ref m28, .ref m29, .int (iI sd)])), (m24, .inl (gI G, 101, .inl (fun j : Nat => iI (ab (j : Int))))), (m25, .inl (gZ G, 101, .inl (fun j : Nat => iI (tr (j : Int))))), (m26, .inl (gL G, 101, .inr (.inl (fun j : Nat => lI (sv (j : Int))))))] H := by rw [hH]; exact hP
  suffices hgo : W p l e (rz 0 0) s m [.ref m0, .int (iI x)].toArray below meth c H locs 0 0 Q (F0 m 0 ls []) by rw [hH, hlocs] at hgo; exact hgo
  have hiX11 : ∀ w ∈ wsX110, w ∈ wsX11_delete := by decide +kernel
  have hw0 := hts (Cond.fieldLink RX11 53 "PlainCobolModel" "there" "[Z") (List.mem_of_getElem? (i := 1) rfl)
  have hw1 := hts (Cond.fieldLink RX11 184 "PlainCobolModel" "alive" "I") (List.mem_of_getElem? (i := 2) rfl)
  have hw2 := hts (Cond.fieldLink RX11 181 "PlainCobolModel" "segments" "I") (List.mem_of_getElem? (i := 3) rfl)
  have hw3 := hts (Cond.fieldLink RX11 50 "PlainCobolModel" "above" "[I") (List.mem_of_getElem? (i := 4) rfl)
  have g1 : 0 ≤ md ∧ md ≤ 100 := hg.1
  have g2 : ∀ j, 0 ≤ j → j ≤ 100 → tr j = 0 ∨ tr j = 1 := hg.2.1
  have g3 : ∀ j, md < j → j ≤ 100 → tr j = 0 := hg.2.2.1
  have g5 : ∀ j, 1 ≤ j → j ≤ md → 0 ≤ ab j ∧ ab j < j := hg.2.2.2.2
  refine lv_aload_n hx hb dX11_delete_0 rfl (lv_at hl 0 rfl) ?_
  refine va_get (D := G.1) (ci := 12) (v := .ref m25) (C := RX11) (T := TX11) (N := 31) hx hb hts hiX11 hown hK hP 0 rfl rfl 25 (by decide) hw0 (fun _ h9 => h9) rfl dX11_delete_1 ?_
  refine lv_iload_n hx hb dX11_delete_4 rfl (lv_at hl 1 rfl) ?_
  refine z_zald hx hb hK hP 2 3 rfl rfl (by omega) dX11_delete_5 ?_
  refine z_if_ne (tgt := 10) hx hb dX11_delete_6 (by decide) (by have := g2 x (by omega) (by omega); omega) (fun c_1 => ?_) (fun c_1 => ?_)
  · skip
    refine lv_aload_n hx hb dX11_delete_10 rfl (lv_at hl 0 rfl) ?_
    refine va_get (D := G.1) (ci := 12) (v := .ref m25) (C := RX11) (T := TX11) (N := 31) hx hb hts hiX11 hown hK hP 0 rfl rfl 25 (by decide) hw0 (fun _ h9 => h9) rfl dX11_delete_11 ?_
    refine lv_iload_n hx hb dX11_delete_14 rfl (lv_at hl 1 rfl) ?_
    refine lv_iconst (v := iI (0)) hx hb dX11_delete_15 rfl ?_
    refine z_zast hx hb hK hP hD hS 2 3 rfl rfl (by omega) (by decide) dX11_delete_16 (fun H locs hP hD hS => ?_)
    have hP : va_P G.1 vwCl [(m0, .inr (12, [.int (iI lim), .int (iI fa), .int (iI rf), .int (iI mk), .ref m4, .ref m5, .ref m6, .int (iI nk), .ref m8, .ref m9, .ref m10, .int (iI st), .int (iI wn), .ref m13, .ref m14, .ref m15, .ref m16, .ref m17, .int (iI dn), .int (iI hd), .ref m20, .ref m21, .int (iI md), .int (iI al), .ref m24, .ref m25, .ref m26, .ref m27, .ref m28, .ref m29, .int (iI sd)])), (m24, .inl (gI G, 101, .inl (fun j : Nat => iI (ab (j : Int))))), (m25, .inl (gZ G, 101, .inl (fun j : Nat => iI ((uF tr x 0) (j : Int))))), (m26, .inl (gL G, 101, .inr (.inl (fun j : Nat => lI (sv (j : Int))))))] H := hP
    have hD : va_D A [(m0, .inr (12, [.int (iI lim), .int (iI fa), .int (iI rf), .int (iI mk), .ref m4, .ref m5, .ref m6, .int (iI nk), .ref m8, .ref m9, .ref m10, .int (iI st), .int (iI wn), .ref m13, .ref m14, .ref m15, .ref m16, .ref m17, .int (iI dn), .int (iI hd), .ref m20, .ref m21, .int (iI md), .int (iI al), .ref m24, .ref m25, .ref m26, .ref m27, .ref m28, .ref m29, .int (iI sd)])), (m24, .inl (gI G, 101, .inl (fun j : Nat => iI (ab (j : Int))))), (m25, .inl (gZ G, 101, .inl (fun j : Nat => iI ((uF tr x 0) (j : Int))))), (m26, .inl (gL G, 101, .inr (.inl (fun j : Nat => lI (sv (j : Int))))))] := hD
    refine lv_aload_n hx hb dX11_delete_17 rfl (lv_at hl 0 rfl) ?_
    refine lv_dup hx hb dX11_delete_18 rfl ?_
    refine va_get (D := G.1) (ci := 12) (v := .int (iI al)) (C := RX11) (T := TX11) (N := 31) hx hb hts hiX11 hown hK hP 0 rfl rfl 23 (by decide) hw1 (fun _ h9 => h9) rfl dX11_delete_19 ?_
    refine lv_iconst (v := iI (1)) hx hb dX11_delete_22 rfl ?_
    refine z_isub hx hb dX11_delete_23 ?_
    refine va_put (D := G.1) (ci := 12) (v := .int (iI (al - 1))) (ty := .int) (C := RX11) (T := TX11) (N := 31) hx hb hts hiX11 tyX11 tyX11_ok nmX11 hown hK hP hD hS 0 rfl rfl 23 (by decide) hw1 (fun _ h9 => h9) rfl (by decide +kernel) rfl rfl (Nat.le_of_ble_eq_true rfl) dX11_delete_24 (fun H locs hP hD hS => ?_)
    have hP : va_P G.1 vwCl [(m0, .inr (12, [.int (iI lim), .int (iI fa), .int (iI rf), .int (iI mk), .ref m4, .ref m5, .ref m6, .int (iI nk), .ref m8, .ref m9, .ref m10, .int (iI st), .int (iI wn), .ref m13, .ref m14, .ref m15, .ref m16, .ref m17, .int (iI dn), .int (iI hd), .ref m20, .ref m21, .int (iI md), .int (iI (al - 1)), .ref m24, .ref m25, .ref m26, .ref m27, .ref m28, .ref m29, .int (iI sd)])), (m24, .inl (gI G, 101, .inl (fun j : Nat => iI (ab (j : Int))))), (m25, .inl (gZ G, 101, .inl (fun j : Nat => iI ((uF tr x 0) (j : Int))))), (m26, .inl (gL G, 101, .inr (.inl (fun j : Nat => lI (sv (j : Int))))))] H := hP
    have hD : va_D A [(m0, .inr (12, [.int (iI lim), .int (iI fa), .int (iI rf), .int (iI mk), .ref m4, .ref m5, .ref m6, .int (iI nk), .ref m8, .ref m9, .ref m10, .int (iI st), .int (iI wn), .ref m13, .ref m14, .ref m15, .ref m16, .ref m17, .int (iI dn), .int (iI hd), .ref m20, .ref m21, .int (iI md), .int (iI (al - 1)), .ref m24, .ref m25, .ref m26, .ref m27, .ref m28, .ref m29, .int (iI sd)])), (m24, .inl (gI G, 101, .inl (fun j : Nat => iI (ab (j : Int))))), (m25, .inl (gZ G, 101, .inl (fun j : Nat => iI ((uF tr x 0) (j : Int))))), (m26, .inl (gL G, 101, .inr (.inl (fun j : Nat => lI (sv (j : Int))))))] := hD
    refine lv_iload_n hx hb dX11_delete_27 rfl (lv_at hl 1 rfl) ?_
    refine lv_iconst (v := iI (1)) hx hb dX11_delete_28 rfl ?_
    refine z_iadd hx hb dX11_delete_29 ?_
    refine lv_istore_n (lv' := [(2, .int (iI (x + 1))), (0, .ref m0), (1, .int (iI x))]) hx hb dX11_delete_30 rfl hl (by decide) rfl (fun ls hl => ?_)
    have loop31 : ∀ (N : Nat) (i xa : Int) (xt : Int → Int) (H : Heap) (locs : List Loc) (ls : Array Slot), ((md + 1 - i).toNat) < N → (x + 1 ≤ i ∧ i ≤ md + 1) → (TR0 xt md) → (dlM ab (md + 1 - i).toNat i xt xa = dlM ab (md + 1 - (x + 1)).toNat (x + 1) (uF tr x 0) (al - 1)) → va_P G.1 vwCl [(m0, .inr (12, [.int (iI lim), .int (iI fa), .int (iI rf), .int (iI mk), .ref m4, .ref m5, .ref m6, .int (iI nk), .ref m8, .ref m9, .ref m10, .int (iI st), .int (iI wn), .ref m13, .ref m14, .ref m15, .ref m16, .ref m17, .int (iI dn), .int (iI hd), .ref m20, .ref m21, .int (iI md), .int (iI xa), .ref m24, .ref m25, .ref m26, .ref m27, .ref m28, .ref m29, .int (iI sd)])), (m24, .inl (gI G, 101, .inl (fun j : Nat => iI (ab (j : Int))))), (m25, .inl (gZ G, 101, .inl (fun j : Nat => iI (xt (j : Int))))), (m26, .inl (gL G, 101, .inr (.inl (fun j : Nat => lI (sv (j : Int))))))] H → va_D A [(m0, .inr (12, [.int (iI lim), .int (iI fa), .int (iI rf), .int (iI mk), .ref m4, .ref m5, .ref m6, .int (iI nk), .ref m8, .ref m9, .ref m10, .int (iI st), .int (iI wn), .ref m13, .ref m14, .ref m15, .ref m16, .ref m17, .int (iI dn), .int (iI hd), .ref m20, .ref m21, .int (iI md), .int (iI xa), .ref m24, .ref m25, .ref m26, .ref m27, .ref m28, .ref m29, .int (iI sd)])), (m24, .inl (gI G, 101, .inl (fun j : Nat => iI (ab (j : Int))))), (m25, .inl (gZ G, 101, .inl (fun j : Nat => iI (xt (j : Int))))), (m26, .inl (gL G, 101, .inr (.inl (fun j : Nat => lI (sv (j : Int))))))] → va_S A s.heap H locs → lv_has ls 3 [(0, .ref m0), (1, .int (iI x)), (2, .int (iI i))] → W p l e (rz 0 0) s m [.ref m0, .int (iI x)].toArray below meth c H locs 0 0 Q (F0 m 31 ls []) := by
      intro N
      induction N with
      | zero => intro i xa xt H locs ls hm; exact absurd hm (Nat.not_lt_zero _)
      | succ N ih31 =>
        intro i xa xt H locs ls hm ji jt jd hP hD hS hl
        refine lv_iload_n hx hb dX11_delete_31 rfl (lv_at hl 2 rfl) ?_
        refine lv_aload_n hx hb dX11_delete_32 rfl (lv_at hl 0 rfl) ?_
        refine va_get (D := G.1) (ci := 12) (v := .int (iI md)) (C := RX11) (T := TX11) (N := 31) hx hb hts hiX11 hown hK hP 0 rfl rfl 22 (by decide) hw2 (fun _ h9 => h9) rfl dX11_delete_33 ?_
        refine z_icmp_gt (tgt := 94) hx hb dX11_delete_36 (by decide) (by omega) (fun c_2 => ?_) (fun c_2 => ?_)
        · skip
          have e_3 : (md : Int) = (mDel (md, al, ab, tr, sv) x).1 := by first | (rw [mDel_f (by dsimp only; omega)]; done) | (rw [mDel_t (by dsimp only; omega)]; done) | (rw [mDel_t (by dsimp only; omega)]; dsimp only; rw [← jd, dlM_e (by omega)])
          have e_4 : (xa : Int) = (mDel (md, al, ab, tr, sv) x).2.1 := by first | (rw [mDel_f (by dsimp only; omega)]; done) | (rw [mDel_t (by dsimp only; omega)]; done) | (rw [mDel_t (by dsimp only; omega)]; dsimp only; rw [← jd, dlM_e (by omega)])
          have e_5 : (ab : Int → Int) = (mDel (md, al, ab, tr, sv) x).2.2.1 := by first | (rw [mDel_f (by dsimp only; omega)]; done) | (rw [mDel_t (by dsimp only; omega)]; done) | (rw [mDel_t (by dsimp only; omega)]; dsimp only; rw [← jd, dlM_e (by omega)])
          have e_6 : (xt : Int → Int) = (mDel (md, al, ab, tr, sv) x).2.2.2.1 := by first | (rw [mDel_f (by dsimp only; omega)]; done) | (rw [mDel_t (by dsimp only; omega)]; done) | (rw [mDel_t (by dsimp only; omega)]; dsimp only; rw [← jd, dlM_e (by omega)])
          have e_7 : (sv : Int → Int) = (mDel (md, al, ab, tr, sv) x).2.2.2.2 := by first | (rw [mDel_f (by dsimp only; omega)]; done) | (rw [mDel_t (by dsimp only; omega)]; done) | (rw [mDel_t (by dsimp only; omega)]; dsimp only; rw [← jd, dlM_e (by omega)])
          have hP : va_P G.1 vwCl [(m0, .inr (12, [.int (iI lim), .int (iI fa), .int (iI rf), .int (iI mk), .ref m4, .ref m5, .ref m6, .int (iI nk), .ref m8, .ref m9, .ref m10, .int (iI st), .int (iI wn), .ref m13, .ref m14, .ref m15, .ref m16, .ref m17, .int (iI dn), .int (iI hd), .ref m20, .ref m21, .int (iI ((mDel (md, al, ab, tr, sv) x).1)), .int (iI ((mDel (md, al, ab, tr, sv) x).2.1)), .ref m24, .ref m25, .ref m26, .ref m27, .ref m28, .ref m29, .int (iI sd)])), (m24, .inl (gI G, 101, .inl (fun j : Nat => iI ((mDel (md, al, ab, tr, sv) x).2.2.1 (j : Int))))), (m25, .inl (gZ G, 101, .inl (fun j : Nat => iI ((mDel (md, al, ab, tr, sv) x).2.2.2.1 (j : Int))))), (m26, .inl (gL G, 101, .inr (.inl (fun j : Nat => lI ((mDel (md, al, ab, tr, sv) x).2.2.2.2 (j : Int))))))] H := by rw [← e_3, ← e_4, ← e_5, ← e_6, ← e_7]; exact hP
          have hD : va_D A [(m0, .inr (12, [.int (iI lim), .int (iI fa), .int (iI rf), .int (iI mk), .ref m4, .ref m5, .ref m6, .int (iI nk), .ref m8, .ref m9, .ref m10, .int (iI st), .int (iI wn), .ref m13, .ref m14, .ref m15, .ref m16, .ref m17, .int (iI dn), .int (iI hd), .ref m20, .ref m21, .int (iI ((mDel (md, al, ab, tr, sv) x).1)), .int (iI ((mDel (md, al, ab, tr, sv) x).2.1)), .ref m24, .ref m25, .ref m26, .ref m27, .ref m28, .ref m29, .int (iI sd)])), (m24, .inl (gI G, 101, .inl (fun j : Nat => iI ((mDel (md, al, ab, tr, sv) x).2.2.1 (j : Int))))), (m25, .inl (gZ G, 101, .inl (fun j : Nat => iI ((mDel (md, al, ab, tr, sv) x).2.2.2.1 (j : Int))))), (m26, .inl (gL G, 101, .inr (.inl (fun j : Nat => lI ((mDel (md, al, ab, tr, sv) x).2.2.2.2 (j : Int))))))] := by rw [← e_3, ← e_4, ← e_5, ← e_6, ← e_7]; exact hD
          exact hret _ ls H locs dX11_delete_94 hP hD hS
        · skip
          refine lv_aload_n hx hb dX11_delete_39 rfl (lv_at hl 0 rfl) ?_
          refine va_get (D := G.1) (ci := 12) (v := .ref m25) (C := RX11) (T := TX11) (N := 31) hx hb hts hiX11 hown hK hP 0 rfl rfl 25 (by decide) hw0 (fun _ h9 => h9) rfl dX11_delete_40 ?_
          refine lv_iload_n hx hb dX11_delete_43 rfl (lv_at hl 2 rfl) ?_
          refine z_zald hx hb hK hP 2 3 rfl rfl (by omega) dX11_delete_44 ?_
          have ha1 := g5 i (by omega) (by omega)
          refine z_if_eq (tgt := 88) hx hb dX11_delete_45 (by decide) (by have := jt.1 i (by omega) (by omega); omega) (fun c_8 => ?_) (fun c_8 => ?_)
          · skip
            refine lv_iinc (v := iI (i + 1)) (lv' := [(2, .int (iI (i + 1))), (0, .ref m0), (1, .int (iI x))]) hx hb dX11_delete_88 hl (k := 2) rfl (iI_add i (1)) (by decide) rfl (fun ls hl => ?_)
            refine lv_goto (tgt := 31) hx hb dX11_delete_91 (by decide) ?_
            exact ih31 (i + 1) xa xt H locs ls (by omega) (by omega) (by first | exact jt | exact TR0_clr jt) (by rw [← jd]; first | exact (dlM_t (by omega) (by omega)).symm | exact (dlM_f (by omega) (by omega)).symm) hP hD hS (lv_sub hl [1, 2, 0] rfl)
          · skip
            refine lv_aload_n hx hb dX11_delete_48 rfl (lv_at hl 0 rfl) ?_
            refine va_get (D := G.1) (ci := 12) (v := .ref m24) (C := RX11) (T := TX11) (N := 31) hx hb hts hiX11 hown hK hP 0 rfl rfl 24 (by decide) hw3 (fun _ h9 => h9) rfl dX11_delete_49 ?_
            refine lv_iload_n hx hb dX11_delete_52 rfl (lv_at hl 2 rfl) ?_
            refine z_iald hx hb hK hP 1 0 rfl rfl (by omega) dX11_delete_53 ?_
            refine z_if_le (tgt := 88) hx hb dX11_delete_54 (by decide) (by omega) (fun c_9 => ?_) (fun c_9 => ?_)
            · skip
              refine lv_iinc (v := iI (i + 1)) (lv' := [(2, .int (iI (i + 1))), (0, .ref m0), (1, .int (iI x))]) hx hb dX11_delete_88 hl (k := 2) rfl (iI_add i (1)) (by decide) rfl (fun ls hl => ?_)
              refine lv_goto (tgt := 31) hx hb dX11_delete_91 (by decide) ?_
              exact ih31 (i + 1) xa xt H locs ls (by omega) (by omega) (by first | exact jt | exact TR0_clr jt) (by rw [← jd]; first | exact (dlM_t (by omega) (by omega)).symm | exact (dlM_f (by omega) (by omega)).symm) hP hD hS (lv_sub hl [1, 2, 0] rfl)
            · skip
              refine lv_aload_n hx hb dX11_delete_57 rfl (lv_at hl 0 rfl) ?_
              refine va_get (D := G.1) (ci := 12) (v := .ref m25) (C := RX11) (T := TX11) (N := 31) hx hb hts hiX11 hown hK hP 0 rfl rfl 25 (by decide) hw0 (fun _ h9 => h9) rfl dX11_delete_58 ?_
              refine lv_aload_n hx hb dX11_delete_61 rfl (lv_at hl 0 rfl) ?_
              refine va_get (D := G.1) (ci := 12) (v := .ref m24) (C := RX11) (T := TX11) (N := 31) hx hb hts hiX11 hown hK hP 0 rfl rfl 24 (by decide) hw3 (fun _ h9 => h9) rfl dX11_delete_62 ?_
              refine lv_iload_n hx hb dX11_delete_65 rfl (lv_at hl 2 rfl) ?_
              refine z_iald hx hb hK hP 1 0 rfl rfl (by omega) dX11_delete_66 ?_
              refine z_zald hx hb hK hP 2 3 rfl rfl (by omega) dX11_delete_67 ?_
              refine z_if_ne (tgt := 88) hx hb dX11_delete_68 (by decide) (by have := jt.1 (ab i) (by omega) (by omega); omega) (fun c_10 => ?_) (fun c_10 => ?_)
              · skip
                refine lv_iinc (v := iI (i + 1)) (lv' := [(2, .int (iI (i + 1))), (0, .ref m0), (1, .int (iI x))]) hx hb dX11_delete_88 hl (k := 2) rfl (iI_add i (1)) (by decide) rfl (fun ls hl => ?_)
                refine lv_goto (tgt := 31) hx hb dX11_delete_91 (by decide) ?_
                exact ih31 (i + 1) xa xt H locs ls (by omega) (by omega) (by first | exact jt | exact TR0_clr jt) (by rw [← jd]; first | exact (dlM_t (by omega) (by omega)).symm | exact (dlM_f (by omega) (by omega)).symm) hP hD hS (lv_sub hl [1, 2, 0] rfl)
              · skip
                refine lv_aload_n hx hb dX11_delete_71 rfl (lv_at hl 0 rfl) ?_
                refine va_get (D := G.1) (ci := 12) (v := .ref m25) (C := RX11) (T := TX11) (N := 31) hx hb hts hiX11 hown hK hP 0 rfl rfl 25 (by decide) hw0 (fun _ h9 => h9) rfl dX11_delete_72 ?_
                refine lv_iload_n hx hb dX11_delete_75 rfl (lv_at hl 2 rfl) ?_
                refine lv_iconst (v := iI (0)) hx hb dX11_delete_76 rfl ?_
                refine z_zast hx hb hK hP hD hS 2 3 rfl rfl (by omega) (by decide) dX11_delete_77 (fun H locs hP hD hS => ?_)
                have hP : va_P G.1 vwCl [(m0, .inr (12, [.int (iI lim), .int (iI fa), .int (iI rf), .int (iI mk), .ref m4, .ref m5, .ref m6, .int (iI nk), .ref m8, .ref m9, .ref m10, .int (iI st), .int (iI wn), .ref m13, .ref m14, .ref m15, .ref m16, .ref m17, .int (iI dn), .int (iI hd), .ref m20, .ref m21, .int (iI md), .int (iI xa), .ref m24, .ref m25, .ref m26, .ref m27, .ref m28, .ref m29, .int (iI sd)])), (m24, .inl (gI G, 101, .inl (fun j : Nat => iI (ab (j : Int))))), (m25, .inl (gZ G, 101, .inl (fun j : Nat => iI ((uF xt i 0) (j : Int))))), (m26, .inl (gL G, 101, .inr (.inl (fun j : Nat => lI (sv (j : Int))))))] H := hP
                have hD : va_D A [(m0, .inr (12, [.int (iI lim), .int (iI fa), .int (iI rf), .int (iI mk), .ref m4, .ref m5, .ref m6, .int (iI nk), .ref m8, .ref m9, .ref m10, .int (iI st), .int (iI wn), .ref m13, .ref m14, .ref m15, .ref m16, .ref m17, .int (iI dn), .int (iI hd), .ref m20, .ref m21, .int (iI md), .int (iI xa), .ref m24, .ref m25, .ref m26, .ref m27, .ref m28, .ref m29, .int (iI sd)])), (m24, .inl (gI G, 101, .inl (fun j : Nat => iI (ab (j : Int))))), (m25, .inl (gZ G, 101, .inl (fun j : Nat => iI ((uF xt i 0) (j : Int))))), (m26, .inl (gL G, 101, .inr (.inl (fun j : Nat => lI (sv (j : Int))))))] := hD
                refine lv_aload_n hx hb dX11_delete_78 rfl (lv_at hl 0 rfl) ?_
                refine lv_dup hx hb dX11_delete_79 rfl ?_
                refine va_get (D := G.1) (ci := 12) (v := .int (iI xa)) (C := RX11) (T := TX11) (N := 31) hx hb hts hiX11 hown hK hP 0 rfl rfl 23 (by decide) hw1 (fun _ h9 => h9) rfl dX11_delete_80 ?_
                refine lv_iconst (v := iI (1)) hx hb dX11_delete_83 rfl ?_
                refine z_isub hx hb dX11_delete_84 ?_
                refine va_put (D := G.1) (ci := 12) (v := .int (iI (xa - 1))) (ty := .int) (C := RX11) (T := TX11) (N := 31) hx hb hts hiX11 tyX11 tyX11_ok nmX11 hown hK hP hD hS 0 rfl rfl 23 (by decide) hw1 (fun _ h9 => h9) rfl (by decide +kernel) rfl rfl (Nat.le_of_ble_eq_true rfl) dX11_delete_85 (fun H locs hP hD hS => ?_)
                have hP : va_P G.1 vwCl [(m0, .inr (12, [.int (iI lim), .int (iI fa), .int (iI rf), .int (iI mk), .ref m4, .ref m5, .ref m6, .int (iI nk), .ref m8, .ref m9, .ref m10, .int (iI st), .int (iI wn), .ref m13, .ref m14, .ref m15, .ref m16, .ref m17, .int (iI dn), .int (iI hd), .ref m20, .ref m21, .int (iI md), .int (iI (xa - 1)), .ref m24, .ref m25, .ref m26, .ref m27, .ref m28, .ref m29, .int (iI sd)])), (m24, .inl (gI G, 101, .inl (fun j : Nat => iI (ab (j : Int))))), (m25, .inl (gZ G, 101, .inl (fun j : Nat => iI ((uF xt i 0) (j : Int))))), (m26, .inl (gL G, 101, .inr (.inl (fun j : Nat => lI (sv (j : Int))))))] H := hP
                have hD : va_D A [(m0, .inr (12, [.int (iI lim), .int (iI fa), .int (iI rf), .int (iI mk), .ref m4, .ref m5, .ref m6, .int (iI nk), .ref m8, .ref m9, .ref m10, .int (iI st), .int (iI wn), .ref m13, .ref m14, .ref m15, .ref m16, .ref m17, .int (iI dn), .int (iI hd), .ref m20, .ref m21, .int (iI md), .int (iI (xa - 1)), .ref m24, .ref m25, .ref m26, .ref m27, .ref m28, .ref m29, .int (iI sd)])), (m24, .inl (gI G, 101, .inl (fun j : Nat => iI (ab (j : Int))))), (m25, .inl (gZ G, 101, .inl (fun j : Nat => iI ((uF xt i 0) (j : Int))))), (m26, .inl (gL G, 101, .inr (.inl (fun j : Nat => lI (sv (j : Int))))))] := hD
                refine lv_iinc (v := iI (i + 1)) (lv' := [(2, .int (iI (i + 1))), (0, .ref m0), (1, .int (iI x))]) hx hb dX11_delete_88 hl (k := 2) rfl (iI_add i (1)) (by decide) rfl (fun ls hl => ?_)
                refine lv_goto (tgt := 31) hx hb dX11_delete_91 (by decide) ?_
                exact ih31 (i + 1) (xa - 1) (uF xt i 0) H locs ls (by omega) (by omega) (by first | exact jt | exact TR0_clr jt) (by rw [← jd]; first | exact (dlM_t (by omega) (by omega)).symm | exact (dlM_f (by omega) (by omega)).symm) hP hD hS (lv_sub hl [1, 2, 0] rfl)
    exact loop31 _ (x + 1) (al - 1) (uF tr x 0) H locs ls (Nat.lt_succ_self _) (by have : x ≤ md := (by by_cases q : md < x; exact absurd (g3 x q h1.2) (by omega); omega); omega) (by exact TR0_clr ⟨g2, g3, hg.2.2.2.1⟩) (by rfl) hP hD hS (lv_sub hl [1, 2, 0] rfl)
  · skip
    have e_11 : (md : Int) = (mDel (md, al, ab, tr, sv) x).1 := by first | (rw [mDel_f (by dsimp only; omega)]; done) | (rw [mDel_t (by dsimp only; omega)]; done) | (rw [mDel_t (by dsimp only; omega)]; dsimp only; rw [← jd, dlM_e (by omega)])
    have e_12 : (al : Int) = (mDel (md, al, ab, tr, sv) x).2.1 := by first | (rw [mDel_f (by dsimp only; omega)]; done) | (rw [mDel_t (by dsimp only; omega)]; done) | (rw [mDel_t (by dsimp only; omega)]; dsimp only; rw [← jd, dlM_e (by omega)])
    have e_13 : (ab : Int → Int) = (mDel (md, al, ab, tr, sv) x).2.2.1 := by first | (rw [mDel_f (by dsimp only; omega)]; done) | (rw [mDel_t (by dsimp only; omega)]; done) | (rw [mDel_t (by dsimp only; omega)]; dsimp only; rw [← jd, dlM_e (by omega)])
    have e_14 : (tr : Int → Int) = (mDel (md, al, ab, tr, sv) x).2.2.2.1 := by first | (rw [mDel_f (by dsimp only; omega)]; done) | (rw [mDel_t (by dsimp only; omega)]; done) | (rw [mDel_t (by dsimp only; omega)]; dsimp only; rw [← jd, dlM_e (by omega)])
    have e_15 : (sv : Int → Int) = (mDel (md, al, ab, tr, sv) x).2.2.2.2 := by first | (rw [mDel_f (by dsimp only; omega)]; done) | (rw [mDel_t (by dsimp only; omega)]; done) | (rw [mDel_t (by dsimp only; omega)]; dsimp only; rw [← jd, dlM_e (by omega)])
    have hP : va_P G.1 vwCl [(m0, .inr (12, [.int (iI lim), .int (iI fa), .int (iI rf), .int (iI mk), .ref m4, .ref m5, .ref m6, .int (iI nk), .ref m8, .ref m9, .ref m10, .int (iI st), .int (iI wn), .ref m13, .ref m14, .ref m15, .ref m16, .ref m17, .int (iI dn), .int (iI hd), .ref m20, .ref m21, .int (iI ((mDel (md, al, ab, tr, sv) x).1)), .int (iI ((mDel (md, al, ab, tr, sv) x).2.1)), .ref m24, .ref m25, .ref m26, .ref m27, .ref m28, .ref m29, .int (iI sd)])), (m24, .inl (gI G, 101, .inl (fun j : Nat => iI ((mDel (md, al, ab, tr, sv) x).2.2.1 (j : Int))))), (m25, .inl (gZ G, 101, .inl (fun j : Nat => iI ((mDel (md, al, ab, tr, sv) x).2.2.2.1 (j : Int))))), (m26, .inl (gL G, 101, .inr (.inl (fun j : Nat => lI ((mDel (md, al, ab, tr, sv) x).2.2.2.2 (j : Int))))))] H := by rw [← e_11, ← e_12, ← e_13, ← e_14, ← e_15]; exact hP
    have hD : va_D A [(m0, .inr (12, [.int (iI lim), .int (iI fa), .int (iI rf), .int (iI mk), .ref m4, .ref m5, .ref m6, .int (iI nk), .ref m8, .ref m9, .ref m10, .int (iI st), .int (iI wn), .ref m13, .ref m14, .ref m15, .ref m16, .ref m17, .int (iI dn), .int (iI hd), .ref m20, .ref m21, .int (iI ((mDel (md, al, ab, tr, sv) x).1)), .int (iI ((mDel (md, al, ab, tr, sv) x).2.1)), .ref m24, .ref m25, .ref m26, .ref m27, .ref m28, .ref m29, .int (iI sd)])), (m24, .inl (gI G, 101, .inl (fun j : Nat => iI ((mDel (md, al, ab, tr, sv) x).2.2.1 (j : Int))))), (m25, .inl (gZ G, 101, .inl (fun j : Nat => iI ((mDel (md, al, ab, tr, sv) x).2.2.2.1 (j : Int))))), (m26, .inl (gL G, 101, .inr (.inl (fun j : Nat => lI ((mDel (md, al, ab, tr, sv) x).2.2.2.2 (j : Int))))))] := by rw [← e_11, ← e_12, ← e_13, ← e_14, ← e_15]; exact hD
    exact hret _ ls H locs dX11_delete_9 hP hD hS

set_option maxHeartbeats 4000000 in
set_option maxRecDepth 100000 in
theorem c_X11_sign (l : Launch) (G : Gx) (zz : Nat) (m0 m4 m5 m6 m8 m9 m10 m13 m14 m15 m16 m17 m20 m21 m24 m25 m26 m27 m28 m29 : Nat) (lim fa rf mk nk st wn dn hd md al sd : Int) (sg : Int → Int) (x c9 : Int) (h1 : 0 ≤ x ∧ x < 1920) (hsg : SGV sg) : Cv l yX11_sign wsX11_sign (rz 0 0) G [.ref m0, .int (iI x), .int (iI c9)] [(m0, .inr (12, [.int (iI lim), .int (iI fa), .int (iI rf), .int (iI mk), .ref m4, .ref m5, .ref m6, .int (iI nk), .ref m8, .ref m9, .ref m10, .int (iI st), .int (iI wn), .ref m13, .ref m14, .ref m15, .ref m16, .ref m17, .int (iI dn), .int (iI hd), .ref m20, .ref m21, .int (iI md), .int (iI al), .ref m24, .ref m25, .ref m26, .ref m27, .ref m28, .ref m29, .int (iI sd)])), (m29, .inl (gI G, 1920, .inl (fun j : Nat => iI (sg (j : Int)))))] zz [(m0, .inr (12, [.int (iI lim), .int (iI fa), .int (iI rf), .int (iI mk), .ref m4, .ref m5, .ref m6, .int (iI nk), .ref m8, .ref m9, .ref m10, .int (iI st), .int (iI wn), .ref m13, .ref m14, .ref m15, .ref m16, .ref m17, .int (iI dn), .int (iI hd), .ref m20, .ref m21, .int (iI md), .int (iI al), .ref m24, .ref m25, .ref m26, .ref m27, .ref m28, .ref m29, .int (iI (sd + (if sg x = 0 then 1 else 0)))])), (m29, .inl (gI G, 1920, .inl (fun j : Nat => iI ((uF sg x c9) (j : Int)))))] := by
  refine met_v (cc := cX11_sign) (maxL := 3) (by decide) rfl (Nat.le_of_ble_eq_true rfl) ⟨rfl, rfl⟩ ?_
  intro p e s m below meth c A Q F C hP hD hS hret ls hl
  obtain ⟨hx, hb, hml, hown, hts⟩ := id F
  obtain ⟨hK, hA, hZ, hT, hN⟩ := id C
  have hl : lv_has ls 3 [(0, .ref m0), (1, .int (iI x)), (2, .int (iI c9))] := hl
  obtain ⟨H, hH⟩ : ∃ H, H = s.heap := ⟨_, rfl⟩
  obtain ⟨locs, hlocs⟩ : ∃ l : List Loc, l = [] := ⟨_, rfl⟩
  have hS : va_S A s.heap H locs := by rw [hH, hlocs]; exact hS
  have hP : va_P G.1 vwCl [(m0, .inr (12, [.int (iI lim), .int (iI fa), .int (iI rf), .int (iI mk), .ref m4, .ref m5, .ref m6, .int (iI nk), .ref m8, .ref m9, .ref m10, .int (iI st), .int (iI wn), .ref m13, .ref m14, .ref m15, .ref m16, .ref m17, .int (iI dn), .int (iI hd), .ref m20, .ref m21, .int (iI md), .int (iI al), .ref m24, .ref m25, .ref m26, .ref m27, .ref m28, .ref m29, .int (iI sd)])), (m29, .inl (gI G, 1920, .inl (fun j : Nat => iI (sg (j : Int)))))] H := by rw [hH]; exact hP
  suffices hgo : W p l e (rz 0 0) s m [.ref m0, .int (iI x), .int (iI c9)].toArray below meth c H locs 0 0 Q (F0 m 0 ls []) by rw [hH, hlocs] at hgo; exact hgo
  have hiX11 : ∀ w ∈ wsX110, w ∈ wsX11_sign := by decide +kernel
  have hw0 := hts (Cond.fieldLink RX11 175 "PlainCobolModel" "signed" "I") (List.mem_of_getElem? (i := 1) rfl)
  have hw1 := hts (Cond.fieldLink RX11 66 "PlainCobolModel" "signs" "[I") (List.mem_of_getElem? (i := 2) rfl)
  refine lv_aload_n hx hb dX11_sign_0 rfl (lv_at hl 0 rfl) ?_
  refine lv_dup hx hb dX11_sign_1 rfl ?_
  refine va_get (D := G.1) (ci := 12) (v := .int (iI sd)) (C := RX11) (T := TX11) (N := 31) hx hb hts hiX11 hown hK hP 0 rfl rfl 30 (by decide) hw0 (fun _ h9 => h9) rfl dX11_sign_2 ?_
  refine lv_aload_n hx hb dX11_sign_5 rfl (lv_at hl 0 rfl) ?_
  refine va_get (D := G.1) (ci := 12) (v := .ref m29) (C := RX11) (T := TX11) (N := 31) hx hb hts hiX11 hown hK hP 0 rfl rfl 29 (by decide) hw1 (fun _ h9 => h9) rfl dX11_sign_6 ?_
  refine lv_iload_n hx hb dX11_sign_9 rfl (lv_at hl 1 rfl) ?_
  refine z_iald hx hb hK hP 1 0 rfl rfl (by omega) dX11_sign_10 ?_
  have join19 : ∀ (H : Heap) (locs : List Loc), va_P G.1 vwCl [(m0, .inr (12, [.int (iI lim), .int (iI fa), .int (iI rf), .int (iI mk), .ref m4, .ref m5, .ref m6, .int (iI nk), .ref m8, .ref m9, .ref m10, .int (iI st), .int (iI wn), .ref m13, .ref m14, .ref m15, .ref m16, .ref m17, .int (iI dn), .int (iI hd), .ref m20, .ref m21, .int (iI md), .int (iI al), .ref m24, .ref m25, .ref m26, .ref m27, .ref m28, .ref m29, .int (iI sd)])), (m29, .inl (gI G, 1920, .inl (fun j : Nat => iI (sg (j : Int)))))] H → va_D A [(m0, .inr (12, [.int (iI lim), .int (iI fa), .int (iI rf), .int (iI mk), .ref m4, .ref m5, .ref m6, .int (iI nk), .ref m8, .ref m9, .ref m10, .int (iI st), .int (iI wn), .ref m13, .ref m14, .ref m15, .ref m16, .ref m17, .int (iI dn), .int (iI hd), .ref m20, .ref m21, .int (iI md), .int (iI al), .ref m24, .ref m25, .ref m26, .ref m27, .ref m28, .ref m29, .int (iI sd)])), (m29, .inl (gI G, 1920, .inl (fun j : Nat => iI (sg (j : Int)))))] → va_S A s.heap H locs → W p l e (rz 0 0) s m [.ref m0, .int (iI x), .int (iI c9)].toArray below meth c H locs 0 0 Q (F0 m 19 ls [.int (iI (if sg x = 0 then 1 else 0)), .int (iI sd), .ref m0]) := by
    intro H locs hP hD hS
    refine z_iadd hx hb dX11_sign_19 ?_
    refine va_put (D := G.1) (ci := 12) (v := .int (iI (sd + (if sg x = 0 then 1 else 0)))) (ty := .int) (C := RX11) (T := TX11) (N := 31) hx hb hts hiX11 tyX11 tyX11_ok nmX11 hown hK hP hD hS 0 rfl rfl 30 (by decide) hw0 (fun _ h9 => h9) rfl (by decide +kernel) rfl rfl (Nat.le_of_ble_eq_true rfl) dX11_sign_20 (fun H locs hP hD hS => ?_)
    have hP : va_P G.1 vwCl [(m0, .inr (12, [.int (iI lim), .int (iI fa), .int (iI rf), .int (iI mk), .ref m4, .ref m5, .ref m6, .int (iI nk), .ref m8, .ref m9, .ref m10, .int (iI st), .int (iI wn), .ref m13, .ref m14, .ref m15, .ref m16, .ref m17, .int (iI dn), .int (iI hd), .ref m20, .ref m21, .int (iI md), .int (iI al), .ref m24, .ref m25, .ref m26, .ref m27, .ref m28, .ref m29, .int (iI (sd + (if sg x = 0 then 1 else 0)))])), (m29, .inl (gI G, 1920, .inl (fun j : Nat => iI (sg (j : Int)))))] H := hP
    have hD : va_D A [(m0, .inr (12, [.int (iI lim), .int (iI fa), .int (iI rf), .int (iI mk), .ref m4, .ref m5, .ref m6, .int (iI nk), .ref m8, .ref m9, .ref m10, .int (iI st), .int (iI wn), .ref m13, .ref m14, .ref m15, .ref m16, .ref m17, .int (iI dn), .int (iI hd), .ref m20, .ref m21, .int (iI md), .int (iI al), .ref m24, .ref m25, .ref m26, .ref m27, .ref m28, .ref m29, .int (iI (sd + (if sg x = 0 then 1 else 0)))])), (m29, .inl (gI G, 1920, .inl (fun j : Nat => iI (sg (j : Int)))))] := hD
    refine lv_aload_n hx hb dX11_sign_23 rfl (lv_at hl 0 rfl) ?_
    refine va_get (D := G.1) (ci := 12) (v := .ref m29) (C := RX11) (T := TX11) (N := 31) hx hb hts hiX11 hown hK hP 0 rfl rfl 29 (by decide) hw1 (fun _ h9 => h9) rfl dX11_sign_24 ?_
    refine lv_iload_n hx hb dX11_sign_27 rfl (lv_at hl 1 rfl) ?_
    refine lv_iload_n hx hb dX11_sign_28 rfl (lv_at hl 2 rfl) ?_
    refine z_iast hx hb hK hP hD hS 1 0 rfl rfl (by omega) dX11_sign_29 (fun H locs hP hD hS => ?_)
    have hP : va_P G.1 vwCl [(m0, .inr (12, [.int (iI lim), .int (iI fa), .int (iI rf), .int (iI mk), .ref m4, .ref m5, .ref m6, .int (iI nk), .ref m8, .ref m9, .ref m10, .int (iI st), .int (iI wn), .ref m13, .ref m14, .ref m15, .ref m16, .ref m17, .int (iI dn), .int (iI hd), .ref m20, .ref m21, .int (iI md), .int (iI al), .ref m24, .ref m25, .ref m26, .ref m27, .ref m28, .ref m29, .int (iI (sd + (if sg x = 0 then 1 else 0)))])), (m29, .inl (gI G, 1920, .inl (fun j : Nat => iI ((uF sg x c9) (j : Int)))))] H := hP
    have hD : va_D A [(m0, .inr (12, [.int (iI lim), .int (iI fa), .int (iI rf), .int (iI mk), .ref m4, .ref m5, .ref m6, .int (iI nk), .ref m8, .ref m9, .ref m10, .int (iI st), .int (iI wn), .ref m13, .ref m14, .ref m15, .ref m16, .ref m17, .int (iI dn), .int (iI hd), .ref m20, .ref m21, .int (iI md), .int (iI al), .ref m24, .ref m25, .ref m26, .ref m27, .ref m28, .ref m29, .int (iI (sd + (if sg x = 0 then 1 else 0)))])), (m29, .inl (gI G, 1920, .inl (fun j : Nat => iI ((uF sg x c9) (j : Int)))))] := hD
    exact hret _ ls H locs dX11_sign_30 hP hD hS
  refine z_if_ne (tgt := 18) hx hb dX11_sign_11 (by decide) (by have := hsg x (by omega) (by omega); omega) (fun c_1 => ?_) (fun c_1 => ?_)
  · skip
    refine lv_iconst (v := iI (0)) hx hb dX11_sign_18 rfl ?_
    refine z_top (w := .int (iI (if sg x = 0 then 1 else 0))) (congrArg _ (congrArg iI (by first | exact (if_pos (by omega)).symm | exact (if_neg (by omega)).symm))) ?_
    exact join19 H locs hP hD hS
  · skip
    refine lv_iconst (v := iI (1)) hx hb dX11_sign_14 rfl ?_
    refine lv_goto (tgt := 19) hx hb dX11_sign_15 (by decide) ?_
    refine z_top (w := .int (iI (if sg x = 0 then 1 else 0))) (congrArg _ (congrArg iI (by first | exact (if_pos (by omega)).symm | exact (if_neg (by omega)).symm))) ?_
    exact join19 H locs hP hD hS

