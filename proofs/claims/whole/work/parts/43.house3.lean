set_option maxHeartbeats 4000000 in
set_option maxRecDepth 100000 in
theorem c_X10_segment (l : Launch) (G : Gx) (zz : Nat) (x0 w0 a0 b0 y0 e0 f0 g0 r0 t0 v0 : Nat) (rf : Int) (s0 s1 s2 s3 s4 : Nat) (od ab dp sv : Int → Int) (th md : Int) (i what : Int) (hg : GV (od, ab, dp, sv, th, md)) (h1 : -2147483648 ≤ i ∧ i < 2147483648) (h2 : -2147483648 ≤ what ∧ what < 2147483648) : Ci l yX10_segment wsX10_segment (rz 1 21) G [.ref x0, .int (iI i), .int (iI what)] [(x0, .inr (11, [.ref w0, .ref a0, .ref b0, .ref y0, .ref e0, .ref f0, .ref s0, .ref g0, .ref r0, .ref t0, .ref v0, .int (iI rf)])), (s0, .inr (9, [.ref s1, .ref s2, .ref s3, .ref s4, .int (iI th), .int (iI md)])), (s1, .inl (gI G, 100, .inl (fun j : Nat => iI (od (j : Int))))), (s2, .inl (gI G, 101, .inl (fun j : Nat => iI (ab (j : Int))))), (s3, .inl (gI G, 101, .inl (fun j : Nat => iI (dp (j : Int))))), (s4, .inl (gL G, 101, .inr (.inl (fun j : Nat => lI (sv (j : Int))))))] zz (aSeg od ab dp sv th i what) [(x0, .inr (11, [.ref w0, .ref a0, .ref b0, .ref y0, .ref e0, .ref f0, .ref s0, .ref g0, .ref r0, .ref t0, .ref v0, .int (iI rf)])), (s0, .inr (9, [.ref s1, .ref s2, .ref s3, .ref s4, .int (iI th), .int (iI md)])), (s1, .inl (gI G, 100, .inl (fun j : Nat => iI (od (j : Int))))), (s2, .inl (gI G, 101, .inl (fun j : Nat => iI (ab (j : Int))))), (s3, .inl (gI G, 101, .inl (fun j : Nat => iI (dp (j : Int))))), (s4, .inl (gL G, 101, .inr (.inl (fun j : Nat => lI (sv (j : Int))))))] := by
  refine met_i (cc := cX10_segment) (maxL := 4) (ret := (some .int)) (by decide) rfl (Nat.le_of_ble_eq_true rfl) rfl rfl ⟨rfl, rfl⟩ ?_
  intro p e s m below meth c A Q F C hP hD hS hret ls hl
  obtain ⟨hx, hb, hml, hown, hts⟩ := id F
  obtain ⟨hK, hA, hZ, hT, hN⟩ := id C
  have hl : lv_has ls 4 [(0, .ref x0), (1, .int (iI i)), (2, .int (iI what))] := hl
  obtain ⟨H, hH⟩ : ∃ H, H = s.heap := ⟨_, rfl⟩
  obtain ⟨locs, hlocs⟩ : ∃ l : List Loc, l = [] := ⟨_, rfl⟩
  have hS : va_S A s.heap H locs := by rw [hH, hlocs]; exact hS
  have hP : va_P G.1 vwCl [(x0, .inr (11, [.ref w0, .ref a0, .ref b0, .ref y0, .ref e0, .ref f0, .ref s0, .ref g0, .ref r0, .ref t0, .ref v0, .int (iI rf)])), (s0, .inr (9, [.ref s1, .ref s2, .ref s3, .ref s4, .int (iI th), .int (iI md)])), (s1, .inl (gI G, 100, .inl (fun j : Nat => iI (od (j : Int))))), (s2, .inl (gI G, 101, .inl (fun j : Nat => iI (ab (j : Int))))), (s3, .inl (gI G, 101, .inl (fun j : Nat => iI (dp (j : Int))))), (s4, .inl (gL G, 101, .inr (.inl (fun j : Nat => lI (sv (j : Int))))))] H := by rw [hH]; exact hP
  suffices hgo : W p l e (rz 1 21) s m [.ref x0, .int (iI i), .int (iI what)].toArray below meth c H locs 0 0 Q (F0 m 0 ls []) by rw [hH, hlocs] at hgo; exact hgo
  have hiX10 : ∀ w ∈ wsX100, w ∈ wsX10_segment := by decide +kernel
  have hw0 := hts (Cond.fieldLink RX10 32 "PlainCobol" "segments" "LPlainCobol$Segments;") (List.mem_of_getElem? (i := 1) rfl)
  have hiX8 : ∀ w ∈ wsX80, w ∈ wsX10_segment := by decide +kernel
  have hw1 := hts (Cond.fieldLink RX10 192 "PlainCobol$Segments" "there" "I") (List.mem_of_getElem? (i := 2) rfl)
  have hw2 := hts (Cond.fieldLink RX10 195 "PlainCobol$Segments" "order" "[I") (List.mem_of_getElem? (i := 3) rfl)
  have hw3 := hts (Cond.fieldLink RX10 198 "PlainCobol$Segments" "above" "[I") (List.mem_of_getElem? (i := 4) rfl)
  have hw4 := hts (Cond.fieldLink RX10 201 "PlainCobol$Segments" "depths" "[I") (List.mem_of_getElem? (i := 5) rfl)
  have hw5 := hts (Cond.fieldLink RX10 204 "PlainCobol$Segments" "values" "[J") (List.mem_of_getElem? (i := 6) rfl)
  have hg1 : 0 ≤ th ∧ th ≤ md ∧ md ≤ 100 := hg.1
  have hg2 : ∀ j, 0 ≤ j → j < th → 1 ≤ od j ∧ od j ≤ md := hg.2.1
  refine lv_iload_n hx hb dX10_segment_0 rfl (lv_at hl 1 rfl) ?_
  refine z_if_lt (tgt := 15) hx hb dX10_segment_1 (by decide) (by omega) (fun c_1 => ?_) (fun c_1 => ?_)
  · skip
    refine lv_iconst (v := iI (-1)) hx hb dX10_segment_15 rfl ?_
    have r_2 : ((-1) : Int) = (aSeg od ab dp sv th i what) := by (unfold aSeg; (repeat (first | rw [if_pos (by omega)] | rw [if_neg (by omega)])))
    rw [r_2]
    exact hret _ ls H locs dX10_segment_16 hP hD hS
  · skip
    refine lv_iload_n hx hb dX10_segment_4 rfl (lv_at hl 1 rfl) ?_
    refine lv_aload_n hx hb dX10_segment_5 rfl (lv_at hl 0 rfl) ?_
    refine va_get (D := G.1) (ci := 11) (v := .ref s0) (C := RX10) (T := TX10) (N := 12) hx hb hts hiX10 hown hK hP 0 rfl rfl 6 (by decide) hw0 (fun _ h9 => h9) rfl dX10_segment_6 ?_
    refine va_get (D := G.1) (ci := 9) (v := .int (iI th)) (C := RX8) (T := TX8) (N := 6) hx hb hts hiX8 hown hK hP 1 rfl rfl 4 (by decide) hw1 (fun _ h9 => h9) rfl dX10_segment_9 ?_
    refine z_icmp_lt (tgt := 17) hx hb dX10_segment_12 (by decide) (by omega) (fun c_3 => ?_) (fun c_3 => ?_)
    · skip
      refine lv_aload_n hx hb dX10_segment_17 rfl (lv_at hl 0 rfl) ?_
      refine va_get (D := G.1) (ci := 11) (v := .ref s0) (C := RX10) (T := TX10) (N := 12) hx hb hts hiX10 hown hK hP 0 rfl rfl 6 (by decide) hw0 (fun _ h9 => h9) rfl dX10_segment_18 ?_
      refine va_get (D := G.1) (ci := 9) (v := .ref s1) (C := RX8) (T := TX8) (N := 6) hx hb hts hiX8 hown hK hP 1 rfl rfl 0 (by decide) hw2 (fun _ h9 => h9) rfl dX10_segment_21 ?_
      refine lv_iload_n hx hb dX10_segment_24 rfl (lv_at hl 1 rfl) ?_
      refine z_iald hx hb hK hP 2 0 rfl rfl (by omega) dX10_segment_25 ?_
      refine lv_istore_n (lv' := [(3, .int (iI (od i))), (0, .ref x0), (1, .int (iI i)), (2, .int (iI what))]) hx hb dX10_segment_26 rfl hl (by decide) rfl (fun ls hl => ?_)
      have hgi := hg2 i (by omega) (by omega)
      refine lv_iload_n hx hb dX10_segment_27 rfl (lv_at hl 3 rfl) ?_
      by_cases k_4 : what = 0
      · skip
        refine z_tswIn (tgt := 64) hx hb dX10_segment_28 (by omega) 0 k_4 (by decide) (off := 36) rfl (by decide) ?_
        refine lv_iload_n hx hb dX10_segment_64 rfl (lv_at hl 0 rfl) ?_
        have r_5 : ((od i) : Int) = (aSeg od ab dp sv th i what) := by (unfold aSeg; (repeat (first | rw [if_pos (by omega)] | rw [if_neg (by omega)])))
        rw [r_5]
        exact hret _ ls H locs dX10_segment_65 hP hD hS
      by_cases k_6 : what = 1
      · skip
        refine z_tswIn (tgt := 66) hx hb dX10_segment_28 (by omega) 1 k_6 (by decide) (off := 38) rfl (by decide) ?_
        refine lv_aload_n hx hb dX10_segment_66 rfl (lv_at hl 1 rfl) ?_
        refine va_get (D := G.1) (ci := 11) (v := .ref s0) (C := RX10) (T := TX10) (N := 12) hx hb hts hiX10 hown hK hP 0 rfl rfl 6 (by decide) hw0 (fun _ h9 => h9) rfl dX10_segment_67 ?_
        refine va_get (D := G.1) (ci := 9) (v := .ref s2) (C := RX8) (T := TX8) (N := 6) hx hb hts hiX8 hown hK hP 1 rfl rfl 1 (by decide) hw3 (fun _ h9 => h9) rfl dX10_segment_70 ?_
        refine lv_iload_n hx hb dX10_segment_73 rfl (lv_at hl 0 rfl) ?_
        refine z_iald hx hb hK hP 3 0 rfl rfl (by omega) dX10_segment_74 ?_
        have r_7 : ((ab (od i)) : Int) = (aSeg od ab dp sv th i what) := by (unfold aSeg; (repeat (first | rw [if_pos (by omega)] | rw [if_neg (by omega)])))
        rw [r_7]
        exact hret _ ls H locs dX10_segment_75 hP hD hS
      by_cases k_8 : what = 2
      · skip
        refine z_tswIn (tgt := 76) hx hb dX10_segment_28 (by omega) 2 k_8 (by decide) (off := 48) rfl (by decide) ?_
        refine lv_aload_n hx hb dX10_segment_76 rfl (lv_at hl 1 rfl) ?_
        refine va_get (D := G.1) (ci := 11) (v := .ref s0) (C := RX10) (T := TX10) (N := 12) hx hb hts hiX10 hown hK hP 0 rfl rfl 6 (by decide) hw0 (fun _ h9 => h9) rfl dX10_segment_77 ?_
        refine va_get (D := G.1) (ci := 9) (v := .ref s3) (C := RX8) (T := TX8) (N := 6) hx hb hts hiX8 hown hK hP 1 rfl rfl 2 (by decide) hw4 (fun _ h9 => h9) rfl dX10_segment_80 ?_
        refine lv_iload_n hx hb dX10_segment_83 rfl (lv_at hl 0 rfl) ?_
        refine z_iald hx hb hK hP 4 0 rfl rfl (by omega) dX10_segment_84 ?_
        have r_9 : ((dp (od i)) : Int) = (aSeg od ab dp sv th i what) := by (unfold aSeg; (repeat (first | rw [if_pos (by omega)] | rw [if_neg (by omega)])))
        rw [r_9]
        exact hret _ ls H locs dX10_segment_85 hP hD hS
      by_cases k_10 : what = 3
      · skip
        refine z_tswIn (tgt := 86) hx hb dX10_segment_28 (by omega) 3 k_10 (by decide) (off := 58) rfl (by decide) ?_
        refine lv_aload_n hx hb dX10_segment_86 rfl (lv_at hl 1 rfl) ?_
        refine va_get (D := G.1) (ci := 11) (v := .ref s0) (C := RX10) (T := TX10) (N := 12) hx hb hts hiX10 hown hK hP 0 rfl rfl 6 (by decide) hw0 (fun _ h9 => h9) rfl dX10_segment_87 ?_
        refine va_get (D := G.1) (ci := 9) (v := .ref s4) (C := RX8) (T := TX8) (N := 6) hx hb hts hiX8 hown hK hP 1 rfl rfl 3 (by decide) hw5 (fun _ h9 => h9) rfl dX10_segment_90 ?_
        refine lv_iload_n hx hb dX10_segment_93 rfl (lv_at hl 0 rfl) ?_
        refine z_lald hx hb hK hP 5 1 rfl rfl (by omega) dX10_segment_94 ?_
        refine z_cSi (RV := (sv (od i))) (As := [.long (lI (sv (od i)))]) (rest := []) (wc := []) (wr := [(x0, .inr (11, [.ref w0, .ref a0, .ref b0, .ref y0, .ref e0, .ref f0, .ref s0, .ref g0, .ref r0, .ref t0, .ref v0, .int (iI rf)])), (s0, .inr (9, [.ref s1, .ref s2, .ref s3, .ref s4, .int (iI th), .int (iI md)])), (s1, .inl (gI G, 100, .inl (fun j : Nat => iI (od (j : Int))))), (s2, .inl (gI G, 101, .inl (fun j : Nat => iI (ab (j : Int))))), (s3, .inl (gI G, 101, .inl (fun j : Nat => iI (dp (j : Int))))), (s4, .inl (gL G, 101, .inr (.inl (fun j : Nat => lI (sv (j : Int))))))]) (wn := [(x0, .inr (11, [.ref w0, .ref a0, .ref b0, .ref y0, .ref e0, .ref f0, .ref s0, .ref g0, .ref r0, .ref t0, .ref v0, .int (iI rf)])), (s0, .inr (9, [.ref s1, .ref s2, .ref s3, .ref s4, .int (iI th), .int (iI md)])), (s1, .inl (gI G, 100, .inl (fun j : Nat => iI (od (j : Int))))), (s2, .inl (gI G, 101, .inl (fun j : Nat => iI (ab (j : Int))))), (s3, .inl (gI G, 101, .inl (fun j : Nat => iI (dp (j : Int))))), (s4, .inl (gL G, 101, .inr (.inl (fun j : Nat => lI (sv (j : Int))))))]) F C (c_X10_lowest l G H.size (sv (od i)) ) (va_cwS 1 hts gX10_segment_X10_lowest rfl rfl rfl (by decide +kernel) (by decide)) hP hD hS [] [0, 1, 2, 3, 4, 5] rfl rfl (by decide) rfl rfl hl.1 rfl (Nat.le_of_ble_eq_true rfl) dX10_segment_95 (by decide) (fun H locs hP hD hS => ?_)
        have r_11 : ((sv (od i)) : Int) = (aSeg od ab dp sv th i what) := by (unfold aSeg; (repeat (first | rw [if_pos (by omega)] | rw [if_neg (by omega)])))
        rw [r_11]
        exact hret _ ls H locs dX10_segment_98 hP hD hS
      by_cases k_12 : what = 4
      · skip
        refine z_tswIn (tgt := 99) hx hb dX10_segment_28 (by omega) 4 k_12 (by decide) (off := 71) rfl (by decide) ?_
        refine lv_aload_n hx hb dX10_segment_99 rfl (lv_at hl 1 rfl) ?_
        refine va_get (D := G.1) (ci := 11) (v := .ref s0) (C := RX10) (T := TX10) (N := 12) hx hb hts hiX10 hown hK hP 0 rfl rfl 6 (by decide) hw0 (fun _ h9 => h9) rfl dX10_segment_100 ?_
        refine va_get (D := G.1) (ci := 9) (v := .ref s4) (C := RX8) (T := TX8) (N := 6) hx hb hts hiX8 hown hK hP 1 rfl rfl 3 (by decide) hw5 (fun _ h9 => h9) rfl dX10_segment_103 ?_
        refine lv_iload_n hx hb dX10_segment_106 rfl (lv_at hl 0 rfl) ?_
        refine z_lald hx hb hK hP 5 1 rfl rfl (by omega) dX10_segment_107 ?_
        refine z_cSi (RV := (shrI (sv (od i)) 32)) (As := [.long (lI (sv (od i)))]) (rest := []) (wc := []) (wr := [(x0, .inr (11, [.ref w0, .ref a0, .ref b0, .ref y0, .ref e0, .ref f0, .ref s0, .ref g0, .ref r0, .ref t0, .ref v0, .int (iI rf)])), (s0, .inr (9, [.ref s1, .ref s2, .ref s3, .ref s4, .int (iI th), .int (iI md)])), (s1, .inl (gI G, 100, .inl (fun j : Nat => iI (od (j : Int))))), (s2, .inl (gI G, 101, .inl (fun j : Nat => iI (ab (j : Int))))), (s3, .inl (gI G, 101, .inl (fun j : Nat => iI (dp (j : Int))))), (s4, .inl (gL G, 101, .inr (.inl (fun j : Nat => lI (sv (j : Int))))))]) (wn := [(x0, .inr (11, [.ref w0, .ref a0, .ref b0, .ref y0, .ref e0, .ref f0, .ref s0, .ref g0, .ref r0, .ref t0, .ref v0, .int (iI rf)])), (s0, .inr (9, [.ref s1, .ref s2, .ref s3, .ref s4, .int (iI th), .int (iI md)])), (s1, .inl (gI G, 100, .inl (fun j : Nat => iI (od (j : Int))))), (s2, .inl (gI G, 101, .inl (fun j : Nat => iI (ab (j : Int))))), (s3, .inl (gI G, 101, .inl (fun j : Nat => iI (dp (j : Int))))), (s4, .inl (gL G, 101, .inr (.inl (fun j : Nat => lI (sv (j : Int))))))]) F C (c_X10_highest l G H.size (sv (od i)) ) (va_cwS 1 hts gX10_segment_X10_highest rfl rfl rfl (by decide +kernel) (by decide)) hP hD hS [] [0, 1, 2, 3, 4, 5] rfl rfl (by decide) rfl rfl hl.1 rfl (Nat.le_of_ble_eq_true rfl) dX10_segment_108 (by decide) (fun H locs hP hD hS => ?_)
        have r_13 : ((shrI (sv (od i)) 32) : Int) = (aSeg od ab dp sv th i what) := by (unfold aSeg; (repeat (first | rw [if_pos (by omega)] | rw [if_neg (by omega)])))
        rw [r_13]
        exact hret _ ls H locs dX10_segment_111 hP hD hS
      refine z_tswOut (tgt := 112) hx hb dX10_segment_28 (by omega) (by omega) (by decide) ?_
      refine lv_iconst (v := iI (-1)) hx hb dX10_segment_112 rfl ?_
      have r_14 : ((-1) : Int) = (aSeg od ab dp sv th i what) := by (unfold aSeg; (repeat (first | rw [if_pos (by omega)] | rw [if_neg (by omega)])))
      rw [r_14]
      exact hret _ ls H locs dX10_segment_113 hP hD hS
    · skip
      refine lv_iconst (v := iI (-1)) hx hb dX10_segment_15 rfl ?_
      have r_15 : ((-1) : Int) = (aSeg od ab dp sv th i what) := by (unfold aSeg; (repeat (first | rw [if_pos (by omega)] | rw [if_neg (by omega)])))
      rw [r_15]
      exact hret _ ls H locs dX10_segment_16 hP hD hS

set_option maxHeartbeats 4000000 in
set_option maxRecDepth 100000 in
theorem c_X10_screen (l : Launch) (G : Gx) (zz : Nat) (x0 w0 a0 b0 y0 e0 f0 s0 r0 t0 v0 : Nat) (rf : Int) (g0 g1 : Nat) (sg : Int → Int) (r c9 : Int) (hsg : ∀ j, 0 ≤ j → j < 1920 → -128 ≤ sg j ∧ sg j < 128) (h1 : -2147483648 ≤ r ∧ r < 2147483648) (h2 : -2147483648 ≤ c9 ∧ c9 < 2147483648) : Ci l yX10_screen wsX10_screen (rz 1 20) G [.ref x0, .int (iI r), .int (iI c9)] [(x0, .inr (11, [.ref w0, .ref a0, .ref b0, .ref y0, .ref e0, .ref f0, .ref s0, .ref g0, .ref r0, .ref t0, .ref v0, .int (iI rf)])), (g0, .inr (5, [.ref g1])), (g1, .inl (gB G, 1920, .inl (fun j : Nat => iI (sg (j : Int)))))] zz (aScr sg r c9) [(x0, .inr (11, [.ref w0, .ref a0, .ref b0, .ref y0, .ref e0, .ref f0, .ref s0, .ref g0, .ref r0, .ref t0, .ref v0, .int (iI rf)])), (g0, .inr (5, [.ref g1])), (g1, .inl (gB G, 1920, .inl (fun j : Nat => iI (sg (j : Int)))))] := by
  refine met_i (cc := cX10_screen) (maxL := 4) (ret := (some .int)) (by decide) rfl (Nat.le_of_ble_eq_true rfl) rfl rfl ⟨rfl, rfl⟩ ?_
  intro p e s m below meth c A Q F C hP hD hS hret ls hl
  obtain ⟨hx, hb, hml, hown, hts⟩ := id F
  obtain ⟨hK, hA, hZ, hT, hN⟩ := id C
  have hl : lv_has ls 4 [(0, .ref x0), (1, .int (iI r)), (2, .int (iI c9))] := hl
  obtain ⟨H, hH⟩ : ∃ H, H = s.heap := ⟨_, rfl⟩
  obtain ⟨locs, hlocs⟩ : ∃ l : List Loc, l = [] := ⟨_, rfl⟩
  have hS : va_S A s.heap H locs := by rw [hH, hlocs]; exact hS
  have hP : va_P G.1 vwCl [(x0, .inr (11, [.ref w0, .ref a0, .ref b0, .ref y0, .ref e0, .ref f0, .ref s0, .ref g0, .ref r0, .ref t0, .ref v0, .int (iI rf)])), (g0, .inr (5, [.ref g1])), (g1, .inl (gB G, 1920, .inl (fun j : Nat => iI (sg (j : Int)))))] H := by rw [hH]; exact hP
  suffices hgo : W p l e (rz 1 20) s m [.ref x0, .int (iI r), .int (iI c9)].toArray below meth c H locs 0 0 Q (F0 m 0 ls []) by rw [hH, hlocs] at hgo; exact hgo
  have hiX10 : ∀ w ∈ wsX100, w ∈ wsX10_screen := by decide +kernel
  have hw0 := hts (Cond.fieldLink RX10 39 "PlainCobol" "signs" "LPlainCobol$Screen;") (List.mem_of_getElem? (i := 1) rfl)
  have hiX4 : ∀ w ∈ wsX40, w ∈ wsX10_screen := by decide +kernel
  have hw1 := hts (Cond.fieldLink RX10 205 "PlainCobol$Screen" "signs" "[B") (List.mem_of_getElem? (i := 2) rfl)
  refine lv_iload_n hx hb dX10_screen_0 rfl (lv_at hl 1 rfl) ?_
  refine lv_iconst (v := iI (1)) hx hb dX10_screen_1 rfl ?_
  refine z_icmp_lt (tgt := 22) hx hb dX10_screen_2 (by decide) (by omega) (fun c_1 => ?_) (fun c_1 => ?_)
  · skip
    refine lv_iconst (v := iI (-1)) hx hb dX10_screen_22 rfl ?_
    have r_2 : ((-1) : Int) = (aScr sg r c9) := by (unfold aScr; (repeat (first | rw [if_pos (by omega)] | rw [if_neg (by omega)])))
    rw [r_2]
    exact hret _ ls H locs dX10_screen_23 hP hD hS
  · skip
    refine lv_iload_n hx hb dX10_screen_5 rfl (lv_at hl 1 rfl) ?_
    refine lv_bipush (v := iI (24)) hx hb dX10_screen_6 (by decide) ?_
    refine z_icmp_gt (tgt := 22) hx hb dX10_screen_8 (by decide) (by omega) (fun c_3 => ?_) (fun c_3 => ?_)
    · skip
      refine lv_iconst (v := iI (-1)) hx hb dX10_screen_22 rfl ?_
      have r_4 : ((-1) : Int) = (aScr sg r c9) := by (unfold aScr; (repeat (first | rw [if_pos (by omega)] | rw [if_neg (by omega)])))
      rw [r_4]
      exact hret _ ls H locs dX10_screen_23 hP hD hS
    · skip
      refine lv_iload_n hx hb dX10_screen_11 rfl (lv_at hl 2 rfl) ?_
      refine lv_iconst (v := iI (1)) hx hb dX10_screen_12 rfl ?_
      refine z_icmp_lt (tgt := 22) hx hb dX10_screen_13 (by decide) (by omega) (fun c_5 => ?_) (fun c_5 => ?_)
      · skip
        refine lv_iconst (v := iI (-1)) hx hb dX10_screen_22 rfl ?_
        have r_6 : ((-1) : Int) = (aScr sg r c9) := by (unfold aScr; (repeat (first | rw [if_pos (by omega)] | rw [if_neg (by omega)])))
        rw [r_6]
        exact hret _ ls H locs dX10_screen_23 hP hD hS
      · skip
        refine lv_iload_n hx hb dX10_screen_16 rfl (lv_at hl 2 rfl) ?_
        refine lv_bipush (v := iI (80)) hx hb dX10_screen_17 (by decide) ?_
        refine z_icmp_le (tgt := 24) hx hb dX10_screen_19 (by decide) (by omega) (fun c_7 => ?_) (fun c_7 => ?_)
        · skip
          refine lv_aload_n hx hb dX10_screen_24 rfl (lv_at hl 0 rfl) ?_
          refine va_get (D := G.1) (ci := 11) (v := .ref g0) (C := RX10) (T := TX10) (N := 12) hx hb hts hiX10 hown hK hP 0 rfl rfl 7 (by decide) hw0 (fun _ h9 => h9) rfl dX10_screen_25 ?_
          refine va_get (D := G.1) (ci := 5) (v := .ref g1) (C := RX4) (T := TX4) (N := 1) hx hb hts hiX4 hown hK hP 1 rfl rfl 0 (by decide) hw1 (fun _ h9 => h9) rfl dX10_screen_28 ?_
          refine lv_iload_n hx hb dX10_screen_31 rfl (lv_at hl 1 rfl) ?_
          refine lv_bipush (v := iI (100)) hx hb dX10_screen_32 (by decide) ?_
          refine z_imul hx hb dX10_screen_34 ?_
          refine lv_iload_n hx hb dX10_screen_35 rfl (lv_at hl 2 rfl) ?_
          refine z_iadd hx hb dX10_screen_36 ?_
          refine z_cSi (RV := (pix ((r * 100) + c9))) (As := [.int (iI ((r * 100) + c9))]) (rest := [.ref g1]) (wc := []) (wr := [(x0, .inr (11, [.ref w0, .ref a0, .ref b0, .ref y0, .ref e0, .ref f0, .ref s0, .ref g0, .ref r0, .ref t0, .ref v0, .int (iI rf)])), (g0, .inr (5, [.ref g1])), (g1, .inl (gB G, 1920, .inl (fun j : Nat => iI (sg (j : Int)))))]) (wn := [(x0, .inr (11, [.ref w0, .ref a0, .ref b0, .ref y0, .ref e0, .ref f0, .ref s0, .ref g0, .ref r0, .ref t0, .ref v0, .int (iI rf)])), (g0, .inr (5, [.ref g1])), (g1, .inl (gB G, 1920, .inl (fun j : Nat => iI (sg (j : Int)))))]) F C (c_X10_placeIndex l G H.size ((r * 100) + c9) (by omega)) (va_cwS 1 hts gX10_screen_X10_placeIndex rfl rfl rfl (by decide +kernel) (by decide)) hP hD hS [] [0, 1, 2] rfl rfl (by decide) rfl rfl hl.1 rfl (Nat.le_of_ble_eq_true rfl) dX10_screen_37 (by decide) (fun H locs hP hD hS => ?_)
          have hpx := pix_r (p := r * 100 + c9) (plc_mk (by omega) (by omega))
          have hsx := hsg _ hpx.1 hpx.2
          refine z_bald hx hb hK hP 2 2 rfl rfl (by omega) dX10_screen_40 ?_
          refine lv_istore_n (lv' := [(3, .int (iI (sg (pix ((r * 100) + c9))))), (0, .ref x0), (1, .int (iI r)), (2, .int (iI c9))]) hx hb dX10_screen_41 rfl hl (by decide) rfl (fun ls hl => ?_)
          refine lv_iload_n hx hb dX10_screen_42 rfl (lv_at hl 0 rfl) ?_
          refine z_if_ne (tgt := 51) hx hb dX10_screen_43 (by decide) (by omega) (fun c_8 => ?_) (fun c_8 => ?_)
          · skip
            refine lv_iload_n hx hb dX10_screen_51 rfl (lv_at hl 0 rfl) ?_
            have r_9 : ((sg (pix ((r * 100) + c9))) : Int) = (aScr sg r c9) := by (unfold aScr; (repeat (first | rw [if_pos (by omega)] | rw [if_neg (by omega)])))
            rw [r_9]
            exact hret _ ls H locs dX10_screen_52 hP hD hS
          · skip
            refine lv_bipush (v := iI (32)) hx hb dX10_screen_46 (by decide) ?_
            refine lv_goto (tgt := 52) hx hb dX10_screen_48 (by decide) ?_
            have r_10 : (32 : Int) = (aScr sg r c9) := by (unfold aScr; (repeat (first | rw [if_pos (by omega)] | rw [if_neg (by omega)])))
            rw [r_10]
            exact hret _ ls H locs dX10_screen_52 hP hD hS
        · skip
          refine lv_iconst (v := iI (-1)) hx hb dX10_screen_22 rfl ?_
          have r_11 : ((-1) : Int) = (aScr sg r c9) := by (unfold aScr; (repeat (first | rw [if_pos (by omega)] | rw [if_neg (by omega)])))
          rw [r_11]
          exact hret _ ls H locs dX10_screen_23 hP hD hS

set_option maxHeartbeats 4000000 in
set_option maxRecDepth 100000 in
theorem c_X10_refused (l : Launch) (G : Gx) (zz : Nat) (x0 w0 a0 b0 y0 e0 f0 s0 g0 r0 t0 v0 : Nat) (rf : Int)  : Ci l yX10_refused wsX10_refused (rz 0 0) G [.ref x0] [(x0, .inr (11, [.ref w0, .ref a0, .ref b0, .ref y0, .ref e0, .ref f0, .ref s0, .ref g0, .ref r0, .ref t0, .ref v0, .int (iI rf)]))] zz rf [(x0, .inr (11, [.ref w0, .ref a0, .ref b0, .ref y0, .ref e0, .ref f0, .ref s0, .ref g0, .ref r0, .ref t0, .ref v0, .int (iI rf)]))] := by
  refine met_i (cc := cX10_refused) (maxL := 1) (ret := (some .int)) (by decide) rfl (Nat.le_of_ble_eq_true rfl) rfl rfl ⟨rfl, rfl⟩ ?_
  intro p e s m below meth c A Q F C hP hD hS hret ls hl
  obtain ⟨hx, hb, hml, hown, hts⟩ := id F
  obtain ⟨hK, hA, hZ, hT, hN⟩ := id C
  have hl : lv_has ls 1 [(0, .ref x0)] := hl
  obtain ⟨H, hH⟩ : ∃ H, H = s.heap := ⟨_, rfl⟩
  obtain ⟨locs, hlocs⟩ : ∃ l : List Loc, l = [] := ⟨_, rfl⟩
  have hS : va_S A s.heap H locs := by rw [hH, hlocs]; exact hS
  have hP : va_P G.1 vwCl [(x0, .inr (11, [.ref w0, .ref a0, .ref b0, .ref y0, .ref e0, .ref f0, .ref s0, .ref g0, .ref r0, .ref t0, .ref v0, .int (iI rf)]))] H := by rw [hH]; exact hP
  suffices hgo : W p l e (rz 0 0) s m [.ref x0].toArray below meth c H locs 0 0 Q (F0 m 0 ls []) by rw [hH, hlocs] at hgo; exact hgo
  have hiX10 : ∀ w ∈ wsX100, w ∈ wsX10_refused := by decide +kernel
  have hw0 := hts (Cond.fieldLink RX10 213 "PlainCobol" "refusals" "I") (List.mem_of_getElem? (i := 1) rfl)
  refine lv_aload_n hx hb dX10_refused_0 rfl (lv_at hl 0 rfl) ?_
  refine va_get (D := G.1) (ci := 11) (v := .int (iI rf)) (C := RX10) (T := TX10) (N := 12) hx hb hts hiX10 hown hK hP 0 rfl rfl 11 (by decide) hw0 (fun _ h9 => h9) rfl dX10_refused_1 ?_
  exact hret _ ls H locs dX10_refused_4 hP hD hS

set_option maxHeartbeats 4000000 in
set_option maxRecDepth 100000 in
theorem c_X10_count (l : Launch) (G : Gx) (zz : Nat) (x0 w0 y0 e0 g0 r0 t0 v0 : Nat) (rf : Int) (a0 a1 a2 a3 : Nat) (sz va ke : Int → Int) (mk : Int) (b0 b1 b2 b3 : Nat) (ki fi se : Int → Int) (nk : Int) (w1 : Nat) (lim ht st : Int) (u0 : Nat) (e1 e2 : Nat) (rc rv : Int → Int) (rk : Int) (f0 f1 f2 : Nat) (ky fv : Int → Int) (hd : Int) (s0 s1 s2 s3 s4 : Nat) (od ab dp sv : Int → Int) (th md : Int) (what : Int) (h1 : -2147483648 ≤ what ∧ what < 2147483648) : Ci l yX10_count wsX10_count (rz 0 0) G [.ref x0, .int (iI what)] [(x0, .inr (11, [.ref w0, .ref a0, .ref b0, .ref y0, .ref e0, .ref f0, .ref s0, .ref g0, .ref r0, .ref t0, .ref v0, .int (iI rf)])), (w0, .inr (10, [.ref a0, .ref b0, .ref u0, .int (iI lim), .ref w1, .int (iI ht), .int (iI st)])), (a0, .inr (2, [.ref a1, .ref a2, .ref a3, .int (iI mk)])), (a1, .inl (gI G, 61, .inl (fun j : Nat => iI (sz (j : Int))))), (a2, .inl (gL G, 61, .inr (.inl (fun j : Nat => lI (va (j : Int)))))), (a3, .inl (gL G, 61, .inr (.inl (fun j : Nat => lI (ke (j : Int)))))), (b0, .inr (4, [.ref b1, .ref b2, .ref b3, .int (iI nk)])), (b1, .inl (gI G, 201, .inl (fun j : Nat => iI (ki (j : Int))))), (b2, .inl (gI G, 201, .inl (fun j : Nat => iI (fi (j : Int))))), (b3, .inl (gI G, 201, .inl (fun j : Nat => iI (se (j : Int))))), (e0, .inr (1, [.ref e1, .ref e2, .int (iI rk)])), (e1, .inl (gI G, 1000, .inl (fun j : Nat => iI (rc (j : Int))))), (e2, .inl (gL G, 1000, .inr (.inl (fun j : Nat => lI (rv (j : Int)))))), (f0, .inr (3, [.ref f1, .ref f2, .int (iI hd)])), (f1, .inl (gI G, 1000, .inl (fun j : Nat => iI (ky (j : Int))))), (f2, .inl (gL G, 1000, .inr (.inl (fun j : Nat => lI (fv (j : Int)))))), (s0, .inr (9, [.ref s1, .ref s2, .ref s3, .ref s4, .int (iI th), .int (iI md)])), (s1, .inl (gI G, 100, .inl (fun j : Nat => iI (od (j : Int))))), (s2, .inl (gI G, 101, .inl (fun j : Nat => iI (ab (j : Int))))), (s3, .inl (gI G, 101, .inl (fun j : Nat => iI (dp (j : Int))))), (s4, .inl (gL G, 101, .inr (.inl (fun j : Nat => lI (sv (j : Int))))))] zz (aCnt mk nk rk hd th st what) [(x0, .inr (11, [.ref w0, .ref a0, .ref b0, .ref y0, .ref e0, .ref f0, .ref s0, .ref g0, .ref r0, .ref t0, .ref v0, .int (iI rf)])), (w0, .inr (10, [.ref a0, .ref b0, .ref u0, .int (iI lim), .ref w1, .int (iI ht), .int (iI st)])), (a0, .inr (2, [.ref a1, .ref a2, .ref a3, .int (iI mk)])), (a1, .inl (gI G, 61, .inl (fun j : Nat => iI (sz (j : Int))))), (a2, .inl (gL G, 61, .inr (.inl (fun j : Nat => lI (va (j : Int)))))), (a3, .inl (gL G, 61, .inr (.inl (fun j : Nat => lI (ke (j : Int)))))), (b0, .inr (4, [.ref b1, .ref b2, .ref b3, .int (iI nk)])), (b1, .inl (gI G, 201, .inl (fun j : Nat => iI (ki (j : Int))))), (b2, .inl (gI G, 201, .inl (fun j : Nat => iI (fi (j : Int))))), (b3, .inl (gI G, 201, .inl (fun j : Nat => iI (se (j : Int))))), (e0, .inr (1, [.ref e1, .ref e2, .int (iI rk)])), (e1, .inl (gI G, 1000, .inl (fun j : Nat => iI (rc (j : Int))))), (e2, .inl (gL G, 1000, .inr (.inl (fun j : Nat => lI (rv (j : Int)))))), (f0, .inr (3, [.ref f1, .ref f2, .int (iI hd)])), (f1, .inl (gI G, 1000, .inl (fun j : Nat => iI (ky (j : Int))))), (f2, .inl (gL G, 1000, .inr (.inl (fun j : Nat => lI (fv (j : Int)))))), (s0, .inr (9, [.ref s1, .ref s2, .ref s3, .ref s4, .int (iI th), .int (iI md)])), (s1, .inl (gI G, 100, .inl (fun j : Nat => iI (od (j : Int))))), (s2, .inl (gI G, 101, .inl (fun j : Nat => iI (ab (j : Int))))), (s3, .inl (gI G, 101, .inl (fun j : Nat => iI (dp (j : Int))))), (s4, .inl (gL G, 101, .inr (.inl (fun j : Nat => lI (sv (j : Int))))))] := by
  refine met_i (cc := cX10_count) (maxL := 2) (ret := (some .int)) (by decide) rfl (Nat.le_of_ble_eq_true rfl) rfl rfl ⟨rfl, rfl⟩ ?_
  intro p e s m below meth c A Q F C hP hD hS hret ls hl
  obtain ⟨hx, hb, hml, hown, hts⟩ := id F
  obtain ⟨hK, hA, hZ, hT, hN⟩ := id C
  have hl : lv_has ls 2 [(0, .ref x0), (1, .int (iI what))] := hl
  obtain ⟨H, hH⟩ : ∃ H, H = s.heap := ⟨_, rfl⟩
  obtain ⟨locs, hlocs⟩ : ∃ l : List Loc, l = [] := ⟨_, rfl⟩
  have hS : va_S A s.heap H locs := by rw [hH, hlocs]; exact hS
  have hP : va_P G.1 vwCl [(x0, .inr (11, [.ref w0, .ref a0, .ref b0, .ref y0, .ref e0, .ref f0, .ref s0, .ref g0, .ref r0, .ref t0, .ref v0, .int (iI rf)])), (w0, .inr (10, [.ref a0, .ref b0, .ref u0, .int (iI lim), .ref w1, .int (iI ht), .int (iI st)])), (a0, .inr (2, [.ref a1, .ref a2, .ref a3, .int (iI mk)])), (a1, .inl (gI G, 61, .inl (fun j : Nat => iI (sz (j : Int))))), (a2, .inl (gL G, 61, .inr (.inl (fun j : Nat => lI (va (j : Int)))))), (a3, .inl (gL G, 61, .inr (.inl (fun j : Nat => lI (ke (j : Int)))))), (b0, .inr (4, [.ref b1, .ref b2, .ref b3, .int (iI nk)])), (b1, .inl (gI G, 201, .inl (fun j : Nat => iI (ki (j : Int))))), (b2, .inl (gI G, 201, .inl (fun j : Nat => iI (fi (j : Int))))), (b3, .inl (gI G, 201, .inl (fun j : Nat => iI (se (j : Int))))), (e0, .inr (1, [.ref e1, .ref e2, .int (iI rk)])), (e1, .inl (gI G, 1000, .inl (fun j : Nat => iI (rc (j : Int))))), (e2, .inl (gL G, 1000, .inr (.inl (fun j : Nat => lI (rv (j : Int)))))), (f0, .inr (3, [.ref f1, .ref f2, .int (iI hd)])), (f1, .inl (gI G, 1000, .inl (fun j : Nat => iI (ky (j : Int))))), (f2, .inl (gL G, 1000, .inr (.inl (fun j : Nat => lI (fv (j : Int)))))), (s0, .inr (9, [.ref s1, .ref s2, .ref s3, .ref s4, .int (iI th), .int (iI md)])), (s1, .inl (gI G, 100, .inl (fun j : Nat => iI (od (j : Int))))), (s2, .inl (gI G, 101, .inl (fun j : Nat => iI (ab (j : Int))))), (s3, .inl (gI G, 101, .inl (fun j : Nat => iI (dp (j : Int))))), (s4, .inl (gL G, 101, .inr (.inl (fun j : Nat => lI (sv (j : Int))))))] H := by rw [hH]; exact hP
  suffices hgo : W p l e (rz 0 0) s m [.ref x0, .int (iI what)].toArray below meth c H locs 0 0 Q (F0 m 0 ls []) by rw [hH, hlocs] at hgo; exact hgo
  have hiX10 : ∀ w ∈ wsX100, w ∈ wsX10_count := by decide +kernel
  have hw0 := hts (Cond.fieldLink RX10 86 "PlainCobol" "cells" "LPlainCobol$Cells;") (List.mem_of_getElem? (i := 1) rfl)
  have hiX1 : ∀ w ∈ wsX10, w ∈ wsX10_count := by decide +kernel
  have hw1 := hts (Cond.fieldLink RX10 99 "PlainCobol$Cells" "made" "I") (List.mem_of_getElem? (i := 2) rfl)
  have hw2 := hts (Cond.fieldLink RX10 91 "PlainCobol" "nodes" "LPlainCobol$Nodes;") (List.mem_of_getElem? (i := 3) rfl)
  have hiX3 : ∀ w ∈ wsX30, w ∈ wsX10_count := by decide +kernel
  have hw3 := hts (Cond.fieldLink RX10 117 "PlainCobol$Nodes" "made" "I") (List.mem_of_getElem? (i := 4) rfl)
  have hw4 := hts (Cond.fieldLink RX10 18 "PlainCobol" "row" "LPlainCobol$Acts;") (List.mem_of_getElem? (i := 5) rfl)
  have hiX0 : ∀ w ∈ wsX00, w ∈ wsX10_count := by decide +kernel
  have hw5 := hts (Cond.fieldLink RX10 130 "PlainCobol$Acts" "size" "I") (List.mem_of_getElem? (i := 6) rfl)
  have hw6 := hts (Cond.fieldLink RX10 25 "PlainCobol" "files" "LPlainCobol$Files;") (List.mem_of_getElem? (i := 7) rfl)
  have hiX2 : ∀ w ∈ wsX20, w ∈ wsX10_count := by decide +kernel
  have hw7 := hts (Cond.fieldLink RX10 216 "PlainCobol$Files" "held" "I") (List.mem_of_getElem? (i := 8) rfl)
  have hw8 := hts (Cond.fieldLink RX10 32 "PlainCobol" "segments" "LPlainCobol$Segments;") (List.mem_of_getElem? (i := 9) rfl)
  have hiX8 : ∀ w ∈ wsX80, w ∈ wsX10_count := by decide +kernel
  have hw9 := hts (Cond.fieldLink RX10 192 "PlainCobol$Segments" "there" "I") (List.mem_of_getElem? (i := 10) rfl)
  have hw10 := hts (Cond.fieldLink RX10 78 "PlainCobol" "walker" "LPlainCobol$Walker;") (List.mem_of_getElem? (i := 11) rfl)
  have hiX9 : ∀ w ∈ wsX90, w ∈ wsX10_count := by decide +kernel
  have hw11 := hts (Cond.fieldLink RX10 219 "PlainCobol$Walker" "steps" "I") (List.mem_of_getElem? (i := 12) rfl)
  refine lv_iload_n hx hb dX10_count_0 rfl (lv_at hl 1 rfl) ?_
  by_cases k_1 : what = 0
  · skip
    refine z_tswIn (tgt := 40) hx hb dX10_count_1 (by omega) 0 k_1 (by decide) (off := 39) rfl (by decide) ?_
    refine lv_aload_n hx hb dX10_count_40 rfl (lv_at hl 0 rfl) ?_
    refine va_get (D := G.1) (ci := 11) (v := .ref a0) (C := RX10) (T := TX10) (N := 12) hx hb hts hiX10 hown hK hP 0 rfl rfl 1 (by decide) hw0 (fun _ h9 => h9) rfl dX10_count_41 ?_
    refine va_get (D := G.1) (ci := 2) (v := .int (iI mk)) (C := RX1) (T := TX1) (N := 4) hx hb hts hiX1 hown hK hP 2 rfl rfl 3 (by decide) hw1 (fun _ h9 => h9) rfl dX10_count_44 ?_
    have r_2 : (mk : Int) = (aCnt mk nk rk hd th st what) := by (unfold aCnt; (repeat (first | rw [if_pos (by omega)] | rw [if_neg (by omega)])))
    rw [r_2]
    exact hret _ ls H locs dX10_count_47 hP hD hS
  by_cases k_3 : what = 1
  · skip
    refine z_tswIn (tgt := 48) hx hb dX10_count_1 (by omega) 1 k_3 (by decide) (off := 47) rfl (by decide) ?_
    refine lv_aload_n hx hb dX10_count_48 rfl (lv_at hl 0 rfl) ?_
    refine va_get (D := G.1) (ci := 11) (v := .ref b0) (C := RX10) (T := TX10) (N := 12) hx hb hts hiX10 hown hK hP 0 rfl rfl 2 (by decide) hw2 (fun _ h9 => h9) rfl dX10_count_49 ?_
    refine va_get (D := G.1) (ci := 4) (v := .int (iI nk)) (C := RX3) (T := TX3) (N := 4) hx hb hts hiX3 hown hK hP 6 rfl rfl 3 (by decide) hw3 (fun _ h9 => h9) rfl dX10_count_52 ?_
    have r_4 : (nk : Int) = (aCnt mk nk rk hd th st what) := by (unfold aCnt; (repeat (first | rw [if_pos (by omega)] | rw [if_neg (by omega)])))
    rw [r_4]
    exact hret _ ls H locs dX10_count_55 hP hD hS
  by_cases k_5 : what = 2
  · skip
    refine z_tswIn (tgt := 56) hx hb dX10_count_1 (by omega) 2 k_5 (by decide) (off := 55) rfl (by decide) ?_
    refine lv_aload_n hx hb dX10_count_56 rfl (lv_at hl 0 rfl) ?_
    refine va_get (D := G.1) (ci := 11) (v := .ref e0) (C := RX10) (T := TX10) (N := 12) hx hb hts hiX10 hown hK hP 0 rfl rfl 4 (by decide) hw4 (fun _ h9 => h9) rfl dX10_count_57 ?_
    refine va_get (D := G.1) (ci := 1) (v := .int (iI rk)) (C := RX0) (T := TX0) (N := 3) hx hb hts hiX0 hown hK hP 10 rfl rfl 2 (by decide) hw5 (fun _ h9 => h9) rfl dX10_count_60 ?_
    have r_6 : (rk : Int) = (aCnt mk nk rk hd th st what) := by (unfold aCnt; (repeat (first | rw [if_pos (by omega)] | rw [if_neg (by omega)])))
    rw [r_6]
    exact hret _ ls H locs dX10_count_63 hP hD hS
  by_cases k_7 : what = 3
  · skip
    refine z_tswIn (tgt := 64) hx hb dX10_count_1 (by omega) 3 k_7 (by decide) (off := 63) rfl (by decide) ?_
    refine lv_aload_n hx hb dX10_count_64 rfl (lv_at hl 0 rfl) ?_
    refine va_get (D := G.1) (ci := 11) (v := .ref f0) (C := RX10) (T := TX10) (N := 12) hx hb hts hiX10 hown hK hP 0 rfl rfl 5 (by decide) hw6 (fun _ h9 => h9) rfl dX10_count_65 ?_
    refine va_get (D := G.1) (ci := 3) (v := .int (iI hd)) (C := RX2) (T := TX2) (N := 3) hx hb hts hiX2 hown hK hP 13 rfl rfl 2 (by decide) hw7 (fun _ h9 => h9) rfl dX10_count_68 ?_
    have r_8 : (hd : Int) = (aCnt mk nk rk hd th st what) := by (unfold aCnt; (repeat (first | rw [if_pos (by omega)] | rw [if_neg (by omega)])))
    rw [r_8]
    exact hret _ ls H locs dX10_count_71 hP hD hS
  by_cases k_9 : what = 4
  · skip
    refine z_tswIn (tgt := 72) hx hb dX10_count_1 (by omega) 4 k_9 (by decide) (off := 71) rfl (by decide) ?_
    refine lv_aload_n hx hb dX10_count_72 rfl (lv_at hl 0 rfl) ?_
    refine va_get (D := G.1) (ci := 11) (v := .ref s0) (C := RX10) (T := TX10) (N := 12) hx hb hts hiX10 hown hK hP 0 rfl rfl 6 (by decide) hw8 (fun _ h9 => h9) rfl dX10_count_73 ?_
    refine va_get (D := G.1) (ci := 9) (v := .int (iI th)) (C := RX8) (T := TX8) (N := 6) hx hb hts hiX8 hown hK hP 16 rfl rfl 4 (by decide) hw9 (fun _ h9 => h9) rfl dX10_count_76 ?_
    have r_10 : (th : Int) = (aCnt mk nk rk hd th st what) := by (unfold aCnt; (repeat (first | rw [if_pos (by omega)] | rw [if_neg (by omega)])))
    rw [r_10]
    exact hret _ ls H locs dX10_count_79 hP hD hS
  by_cases k_11 : what = 5
  · skip
    refine z_tswIn (tgt := 80) hx hb dX10_count_1 (by omega) 5 k_11 (by decide) (off := 79) rfl (by decide) ?_
    refine lv_aload_n hx hb dX10_count_80 rfl (lv_at hl 0 rfl) ?_
    refine va_get (D := G.1) (ci := 11) (v := .ref w0) (C := RX10) (T := TX10) (N := 12) hx hb hts hiX10 hown hK hP 0 rfl rfl 0 (by decide) hw10 (fun _ h9 => h9) rfl dX10_count_81 ?_
    refine va_get (D := G.1) (ci := 10) (v := .int (iI st)) (C := RX9) (T := TX9) (N := 7) hx hb hts hiX9 hown hK hP 1 rfl rfl 6 (by decide) hw11 (fun _ h9 => h9) rfl dX10_count_84 ?_
    have r_12 : (st : Int) = (aCnt mk nk rk hd th st what) := by (unfold aCnt; (repeat (first | rw [if_pos (by omega)] | rw [if_neg (by omega)])))
    rw [r_12]
    exact hret _ ls H locs dX10_count_87 hP hD hS
  refine z_tswOut (tgt := 88) hx hb dX10_count_1 (by omega) (by omega) (by decide) ?_
  refine lv_iconst (v := iI (-1)) hx hb dX10_count_88 rfl ?_
  have r_13 : ((-1) : Int) = (aCnt mk nk rk hd th st what) := by (unfold aCnt; (repeat (first | rw [if_pos (by omega)] | rw [if_neg (by omega)])))
  rw [r_13]
  exact hret _ ls H locs dX10_count_89 hP hD hS

