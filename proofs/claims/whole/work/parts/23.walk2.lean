set_option maxHeartbeats 4000000 in
set_option maxRecDepth 100000 in
theorem c_X9_display (l : Launch) (G : Gx) (zz : Nat) (w0 w1 b0 : Nat) (a0 a1 a2 a3 : Nat) (sz va ke : Int → Int) (mk : Int) (u0 u1 u2 cp : Nat) (co ve : Int → Int) (k : Int) (lim ht st : Int) (n pl : Int) (hmk : 0 ≤ mk ∧ mk ≤ 60) (hcv : ∀ c, 1 ≤ c → c ≤ mk → 1 ≤ sz c ∧ sz c ≤ 18 ∧ -pw (sz c) < va c ∧ va c < pw (sz c)) (h0 : 0 ≤ k ∧ k ≤ (cp : Int) ∧ (cp : Int) ≤ 1000) (h1 : 1 ≤ n ∧ n ≤ mk) (h2 : 100 ≤ pl ∧ pl ≤ 2480 ∧ 1 ≤ Int.tmod pl 100 ∧ Int.tmod pl 100 ≤ 80) : Ci l yX9_display wsX9_display (rz 2 35) G [.ref w0, .int (iI n), .int (iI pl)] [(w0, .inr (10, [.ref a0, .ref b0, .ref u0, .int (iI lim), .ref w1, .int (iI ht), .int (iI st)])), (a0, .inr (2, [.ref a1, .ref a2, .ref a3, .int (iI mk)])), (a1, .inl (gI G, 61, .inl (fun j : Nat => iI (sz (j : Int))))), (a2, .inl (gL G, 61, .inr (.inl (fun j : Nat => lI (va (j : Int)))))), (a3, .inl (gL G, 61, .inr (.inl (fun j : Nat => lI (ke (j : Int)))))), (u0, .inr (1, [.ref u1, .ref u2, .int (iI k)])), (u1, .inl (gI G, cp, .inl (fun j : Nat => iI (co (j : Int))))), (u2, .inl (gL G, cp, .inr (.inl (fun j : Nat => lI (ve (j : Int))))))] zz (dpO cp k (dlen sz va n pl)) [(w0, .inr (10, [.ref a0, .ref b0, .ref u0, .int (iI lim), .ref w1, .int (iI ht), .int (iI st)])), (a0, .inr (2, [.ref a1, .ref a2, .ref a3, .int (iI mk)])), (a1, .inl (gI G, 61, .inl (fun j : Nat => iI (sz (j : Int))))), (a2, .inl (gL G, 61, .inr (.inl (fun j : Nat => lI (va (j : Int)))))), (a3, .inl (gL G, 61, .inr (.inl (fun j : Nat => lI (ke (j : Int)))))), (u0, .inr (1, [.ref u1, .ref u2, .int (iI (k + (dpN cp k (dlen sz va n pl))))])), (u1, .inl (gI G, cp, .inl (fun j : Nat => iI ((flF co k (dpN cp k (dlen sz va n pl)) (fun j => 4 * 4000000 + (pl + j))) (j : Int))))), (u2, .inl (gL G, cp, .inr (.inl (fun j : Nat => lI ((flF ve k (dpN cp k (dlen sz va n pl)) (sgn sz va n)) (j : Int))))))] := by
  refine met_i (cc := cX9_display) (maxL := 8) (ret := (some .int)) (by decide) rfl (Nat.le_of_ble_eq_true rfl) rfl rfl ⟨rfl, rfl⟩ ?_
  intro p e s m below meth c A Q F C hP hD hS hret ls hl
  obtain ⟨hx, hb, hml, hown, hts⟩ := id F
  obtain ⟨hK, hA, hZ, hT, hN⟩ := id C
  have hl : lv_has ls 8 [(0, .ref w0), (1, .int (iI n)), (2, .int (iI pl))] := hl
  obtain ⟨H, hH⟩ : ∃ H, H = s.heap := ⟨_, rfl⟩
  obtain ⟨locs, hlocs⟩ : ∃ l : List Loc, l = [] := ⟨_, rfl⟩
  have hS : va_S A s.heap H locs := by rw [hH, hlocs]; exact hS
  have hP : va_P G.1 vwCl [(w0, .inr (10, [.ref a0, .ref b0, .ref u0, .int (iI lim), .ref w1, .int (iI ht), .int (iI st)])), (a0, .inr (2, [.ref a1, .ref a2, .ref a3, .int (iI mk)])), (a1, .inl (gI G, 61, .inl (fun j : Nat => iI (sz (j : Int))))), (a2, .inl (gL G, 61, .inr (.inl (fun j : Nat => lI (va (j : Int)))))), (a3, .inl (gL G, 61, .inr (.inl (fun j : Nat => lI (ke (j : Int)))))), (u0, .inr (1, [.ref u1, .ref u2, .int (iI k)])), (u1, .inl (gI G, cp, .inl (fun j : Nat => iI (co (j : Int))))), (u2, .inl (gL G, cp, .inr (.inl (fun j : Nat => lI (ve (j : Int))))))] H := by rw [hH]; exact hP
  suffices hgo : W p l e (rz 2 35) s m [.ref w0, .int (iI n), .int (iI pl)].toArray below meth c H locs 0 0 Q (F0 m 0 ls []) by rw [hH, hlocs] at hgo; exact hgo
  have hiX9 : ∀ w ∈ wsX90, w ∈ wsX9_display := by decide +kernel
  have hw0 := hts (Cond.fieldLink RX9 12 "PlainCobol$Walker" "cells" "LPlainCobol$Cells;") (List.mem_of_getElem? (i := 1) rfl)
  have hiX1 : ∀ w ∈ wsX10, w ∈ wsX9_display := by decide +kernel
  have hw1 := hts (Cond.fieldLink RX9 78 "PlainCobol$Cells" "values" "[J") (List.mem_of_getElem? (i := 2) rfl)
  have hw2 := hts (Cond.fieldLink RX9 118 "PlainCobol$Cells" "sizes" "[I") (List.mem_of_getElem? (i := 3) rfl)
  have hw3 := hts (Cond.methodLink RX9 121 Lib.Math.min.name) (List.mem_of_getElem? (i := 4) rfl)
  have hw4 := hts (Cond.static Lib.Math.min.name) (List.mem_of_getElem? (i := 5) rfl)
  have hw5 := hts (Cond.initialized "java/lang/Math") (List.mem_of_getElem? (i := 6) rfl)
  have hw6 := hts (Cond.code Lib.Math.min.name Lib.Math.min.code 2 (some .int)) (List.mem_of_getElem? (i := 7) rfl)
  have hw7 := hts (Cond.fieldLink RX9 30 "PlainCobol$Walker" "unit" "LPlainCobol$Acts;") (List.mem_of_getElem? (i := 8) rfl)
  have hvn := hcv n h1.1 h1.2
  have hpn := pw_rng (i := sz n) (by omega)
  have hng := neg1_r (va n)
  have hLE : dlen sz va n pl = min (neg1 (va n) + sz n) (81 - Int.tmod pl 100) := rfl
  refine lv_aload_n hx hb dX9_display_0 rfl (lv_at hl 0 rfl) ?_
  refine va_get (D := G.1) (ci := 10) (v := .ref a0) (C := RX9) (T := TX9) (N := 7) hx hb hts hiX9 hown hK hP 0 rfl rfl 0 (by decide) hw0 (fun _ h9 => h9) rfl dX9_display_1 ?_
  refine va_get (D := G.1) (ci := 2) (v := .ref a2) (C := RX1) (T := TX1) (N := 4) hx hb hts hiX1 hown hK hP 1 rfl rfl 1 (by decide) hw1 (fun _ h9 => h9) rfl dX9_display_4 ?_
  refine lv_iload_n hx hb dX9_display_7 rfl (lv_at hl 1 rfl) ?_
  refine z_lald hx hb hK hP 3 1 rfl rfl (by omega) dX9_display_8 ?_
  refine lv_lconst (v := lI 0) hx hb dX9_display_9 (by decide) ?_
  have join19 : ∀ (H : Heap) (locs : List Loc), va_P G.1 vwCl [(w0, .inr (10, [.ref a0, .ref b0, .ref u0, .int (iI lim), .ref w1, .int (iI ht), .int (iI st)])), (a0, .inr (2, [.ref a1, .ref a2, .ref a3, .int (iI mk)])), (a1, .inl (gI G, 61, .inl (fun j : Nat => iI (sz (j : Int))))), (a2, .inl (gL G, 61, .inr (.inl (fun j : Nat => lI (va (j : Int)))))), (a3, .inl (gL G, 61, .inr (.inl (fun j : Nat => lI (ke (j : Int)))))), (u0, .inr (1, [.ref u1, .ref u2, .int (iI k)])), (u1, .inl (gI G, cp, .inl (fun j : Nat => iI (co (j : Int))))), (u2, .inl (gL G, cp, .inr (.inl (fun j : Nat => lI (ve (j : Int))))))] H → va_D A [(w0, .inr (10, [.ref a0, .ref b0, .ref u0, .int (iI lim), .ref w1, .int (iI ht), .int (iI st)])), (a0, .inr (2, [.ref a1, .ref a2, .ref a3, .int (iI mk)])), (a1, .inl (gI G, 61, .inl (fun j : Nat => iI (sz (j : Int))))), (a2, .inl (gL G, 61, .inr (.inl (fun j : Nat => lI (va (j : Int)))))), (a3, .inl (gL G, 61, .inr (.inl (fun j : Nat => lI (ke (j : Int)))))), (u0, .inr (1, [.ref u1, .ref u2, .int (iI k)])), (u1, .inl (gI G, cp, .inl (fun j : Nat => iI (co (j : Int))))), (u2, .inl (gL G, cp, .inr (.inl (fun j : Nat => lI (ve (j : Int))))))] → va_S A s.heap H locs → W p l e (rz 2 35) s m [.ref w0, .int (iI n), .int (iI pl)].toArray below meth c H locs 0 0 Q (F0 m 19 ls [.int (iI (neg1 (va n)))]) := by
    intro H locs hP hD hS
    refine lv_istore_n (lv' := [(3, .int (iI (neg1 (va n)))), (0, .ref w0), (1, .int (iI n)), (2, .int (iI pl))]) hx hb dX9_display_19 rfl hl (by decide) rfl (fun ls hl => ?_)
    refine lv_bipush (v := iI (81)) hx hb dX9_display_20 (by decide) ?_
    refine lv_iload_n hx hb dX9_display_22 rfl (lv_at hl 3 rfl) ?_
    refine lv_bipush (v := iI (100)) hx hb dX9_display_23 (by decide) ?_
    refine z_irem hx hb dX9_display_25 (by omega) ?_
    refine z_isub hx hb dX9_display_26 ?_
    refine lv_istore (lv' := [(4, .int (iI (81 - (Int.tmod pl 100)))), (3, .int (iI (neg1 (va n)))), (0, .ref w0), (1, .int (iI n)), (2, .int (iI pl))]) hx hb dX9_display_27 hl (by decide) rfl (fun ls hl => ?_)
    refine lv_iload_n hx hb dX9_display_29 rfl (lv_at hl 1 rfl) ?_
    refine lv_aload_n hx hb dX9_display_30 rfl (lv_at hl 2 rfl) ?_
    refine va_get (D := G.1) (ci := 10) (v := .ref a0) (C := RX9) (T := TX9) (N := 7) hx hb hts hiX9 hown hK hP 0 rfl rfl 0 (by decide) hw0 (fun _ h9 => h9) rfl dX9_display_31 ?_
    refine va_get (D := G.1) (ci := 2) (v := .ref a1) (C := RX1) (T := TX1) (N := 4) hx hb hts hiX1 hown hK hP 1 rfl rfl 0 (by decide) hw2 (fun _ h9 => h9) rfl dX9_display_34 ?_
    refine lv_iload_n hx hb dX9_display_37 rfl (lv_at hl 3 rfl) ?_
    refine z_iald hx hb hK hP 2 0 rfl rfl (by omega) dX9_display_38 ?_
    refine z_iadd hx hb dX9_display_39 ?_
    refine lv_iload hx hb dX9_display_40 (lv_at hl 0 rfl) ?_
    refine z_imin hx hb (hml.trans hl.1.symm) hown hw3 hw4 hw5 hw6 ⟨by decide, Nat.le_of_ble_eq_true rfl⟩ ⟨by decide, by decide⟩ (by omega) dX9_display_42 ?_
    refine z_top (w := .int (iI (dlen sz va n pl))) (congrArg _ (congrArg iI (by rfl))) ?_
    refine lv_istore (lv' := [(5, .int (iI (dlen sz va n pl))), (4, .int (iI (81 - (Int.tmod pl 100)))), (3, .int (iI (neg1 (va n)))), (0, .ref w0), (1, .int (iI n)), (2, .int (iI pl))]) hx hb dX9_display_45 hl (by decide) rfl (fun ls hl => ?_)
    refine lv_iconst (v := iI (0)) hx hb dX9_display_47 rfl ?_
    refine lv_istore (lv' := [(6, .int (iI 0)), (5, .int (iI (dlen sz va n pl))), (4, .int (iI (81 - (Int.tmod pl 100)))), (3, .int (iI (neg1 (va n)))), (0, .ref w0), (1, .int (iI n)), (2, .int (iI pl))]) hx hb dX9_display_48 hl (by decide) rfl (fun ls hl => ?_)
    have loop50 : ∀ (N : Nat) (i : Int) (H : Heap) (locs : List Loc) (ls : Array Slot), (((dlen sz va n pl) - i).toNat) < N → (0 ≤ i ∧ i ≤ (dlen sz va n pl)) → (k + i ≤ (cp : Int)) → va_P G.1 vwCl [(w0, .inr (10, [.ref a0, .ref b0, .ref u0, .int (iI lim), .ref w1, .int (iI ht), .int (iI st)])), (a0, .inr (2, [.ref a1, .ref a2, .ref a3, .int (iI mk)])), (a1, .inl (gI G, 61, .inl (fun j : Nat => iI (sz (j : Int))))), (a2, .inl (gL G, 61, .inr (.inl (fun j : Nat => lI (va (j : Int)))))), (a3, .inl (gL G, 61, .inr (.inl (fun j : Nat => lI (ke (j : Int)))))), (u0, .inr (1, [.ref u1, .ref u2, .int (iI (k + i))])), (u1, .inl (gI G, cp, .inl (fun j : Nat => iI ((flF co k i (fun j => 4 * 4000000 + (pl + j))) (j : Int))))), (u2, .inl (gL G, cp, .inr (.inl (fun j : Nat => lI ((flF ve k i (sgn sz va n)) (j : Int))))))] H → va_D A [(w0, .inr (10, [.ref a0, .ref b0, .ref u0, .int (iI lim), .ref w1, .int (iI ht), .int (iI st)])), (a0, .inr (2, [.ref a1, .ref a2, .ref a3, .int (iI mk)])), (a1, .inl (gI G, 61, .inl (fun j : Nat => iI (sz (j : Int))))), (a2, .inl (gL G, 61, .inr (.inl (fun j : Nat => lI (va (j : Int)))))), (a3, .inl (gL G, 61, .inr (.inl (fun j : Nat => lI (ke (j : Int)))))), (u0, .inr (1, [.ref u1, .ref u2, .int (iI (k + i))])), (u1, .inl (gI G, cp, .inl (fun j : Nat => iI ((flF co k i (fun j => 4 * 4000000 + (pl + j))) (j : Int))))), (u2, .inl (gL G, cp, .inr (.inl (fun j : Nat => lI ((flF ve k i (sgn sz va n)) (j : Int))))))] → va_S A s.heap H locs → lv_has ls 8 [(0, .ref w0), (1, .int (iI n)), (2, .int (iI pl)), (3, .int (iI (neg1 (va n)))), (5, .int (iI (dlen sz va n pl))), (6, .int (iI i))] → W p l e (rz 2 35) s m [.ref w0, .int (iI n), .int (iI pl)].toArray below meth c H locs 0 0 Q (F0 m 50 ls []) := by
      intro N
      induction N with
      | zero => intro i H locs ls hm; exact absurd hm (Nat.not_lt_zero _)
      | succ N ih50 =>
        intro i H locs ls hm hi hki hP hD hS hl
        refine lv_iload hx hb dX9_display_50 (lv_at hl 5 rfl) ?_
        refine lv_iload hx hb dX9_display_52 (lv_at hl 4 rfl) ?_
        refine z_icmp_ge (tgt := 111) hx hb dX9_display_54 (by decide) (by omega) (fun c_2 => ?_) (fun c_2 => ?_)
        · skip
          refine lv_iconst (v := iI (1)) hx hb dX9_display_111 rfl ?_
          have e_3 : ((k + i) : Int) = (k + (dpN cp k (dlen sz va n pl))) := by first | (rw [show dpN cp k (dlen sz va n pl) = i by unfold dpN; omega]; done) | (rw [show dpN cp k (dlen sz va n pl) = i by unfold dpN; omega]; simp only [addF, addN, if_neg hlt]) | (unfold dpO; first | exact (if_pos (by omega)).symm | exact (if_neg (by omega)).symm)
          have e_4 : ((flF co k i (fun j => 4 * 4000000 + (pl + j))) : Int → Int) = (flF co k (dpN cp k (dlen sz va n pl)) (fun j => 4 * 4000000 + (pl + j))) := by first | (rw [show dpN cp k (dlen sz va n pl) = i by unfold dpN; omega]; done) | (rw [show dpN cp k (dlen sz va n pl) = i by unfold dpN; omega]; simp only [addF, addN, if_neg hlt]) | (unfold dpO; first | exact (if_pos (by omega)).symm | exact (if_neg (by omega)).symm)
          have e_5 : ((flF ve k i (sgn sz va n)) : Int → Int) = (flF ve k (dpN cp k (dlen sz va n pl)) (sgn sz va n)) := by first | (rw [show dpN cp k (dlen sz va n pl) = i by unfold dpN; omega]; done) | (rw [show dpN cp k (dlen sz va n pl) = i by unfold dpN; omega]; simp only [addF, addN, if_neg hlt]) | (unfold dpO; first | exact (if_pos (by omega)).symm | exact (if_neg (by omega)).symm)
          have hP : va_P G.1 vwCl [(w0, .inr (10, [.ref a0, .ref b0, .ref u0, .int (iI lim), .ref w1, .int (iI ht), .int (iI st)])), (a0, .inr (2, [.ref a1, .ref a2, .ref a3, .int (iI mk)])), (a1, .inl (gI G, 61, .inl (fun j : Nat => iI (sz (j : Int))))), (a2, .inl (gL G, 61, .inr (.inl (fun j : Nat => lI (va (j : Int)))))), (a3, .inl (gL G, 61, .inr (.inl (fun j : Nat => lI (ke (j : Int)))))), (u0, .inr (1, [.ref u1, .ref u2, .int (iI (k + (dpN cp k (dlen sz va n pl))))])), (u1, .inl (gI G, cp, .inl (fun j : Nat => iI ((flF co k (dpN cp k (dlen sz va n pl)) (fun j => 4 * 4000000 + (pl + j))) (j : Int))))), (u2, .inl (gL G, cp, .inr (.inl (fun j : Nat => lI ((flF ve k (dpN cp k (dlen sz va n pl)) (sgn sz va n)) (j : Int))))))] H := by rw [← e_3, ← e_4, ← e_5]; exact hP
          have hD : va_D A [(w0, .inr (10, [.ref a0, .ref b0, .ref u0, .int (iI lim), .ref w1, .int (iI ht), .int (iI st)])), (a0, .inr (2, [.ref a1, .ref a2, .ref a3, .int (iI mk)])), (a1, .inl (gI G, 61, .inl (fun j : Nat => iI (sz (j : Int))))), (a2, .inl (gL G, 61, .inr (.inl (fun j : Nat => lI (va (j : Int)))))), (a3, .inl (gL G, 61, .inr (.inl (fun j : Nat => lI (ke (j : Int)))))), (u0, .inr (1, [.ref u1, .ref u2, .int (iI (k + (dpN cp k (dlen sz va n pl))))])), (u1, .inl (gI G, cp, .inl (fun j : Nat => iI ((flF co k (dpN cp k (dlen sz va n pl)) (fun j => 4 * 4000000 + (pl + j))) (j : Int))))), (u2, .inl (gL G, cp, .inr (.inl (fun j : Nat => lI ((flF ve k (dpN cp k (dlen sz va n pl)) (sgn sz va n)) (j : Int))))))] := by rw [← e_3, ← e_4, ← e_5]; exact hD
          have r_6 : (1 : Int) = (dpO cp k (dlen sz va n pl)) := by first | (rw [show dpN cp k (dlen sz va n pl) = i by unfold dpN; omega]; done) | (rw [show dpN cp k (dlen sz va n pl) = i by unfold dpN; omega]; simp only [addF, addN, if_neg hlt]) | (unfold dpO; first | exact (if_pos (by omega)).symm | exact (if_neg (by omega)).symm)
          rw [r_6]
          exact hret _ ls H locs dX9_display_112 hP hD hS
        · skip
          refine lv_iload hx hb dX9_display_57 (lv_at hl 5 rfl) ?_
          refine lv_iload_n hx hb dX9_display_59 rfl (lv_at hl 3 rfl) ?_
          have join83 : ∀ (H : Heap) (locs : List Loc), va_P G.1 vwCl [(w0, .inr (10, [.ref a0, .ref b0, .ref u0, .int (iI lim), .ref w1, .int (iI ht), .int (iI st)])), (a0, .inr (2, [.ref a1, .ref a2, .ref a3, .int (iI mk)])), (a1, .inl (gI G, 61, .inl (fun j : Nat => iI (sz (j : Int))))), (a2, .inl (gL G, 61, .inr (.inl (fun j : Nat => lI (va (j : Int)))))), (a3, .inl (gL G, 61, .inr (.inl (fun j : Nat => lI (ke (j : Int)))))), (u0, .inr (1, [.ref u1, .ref u2, .int (iI (k + i))])), (u1, .inl (gI G, cp, .inl (fun j : Nat => iI ((flF co k i (fun j => 4 * 4000000 + (pl + j))) (j : Int))))), (u2, .inl (gL G, cp, .inr (.inl (fun j : Nat => lI ((flF ve k i (sgn sz va n)) (j : Int))))))] H → va_D A [(w0, .inr (10, [.ref a0, .ref b0, .ref u0, .int (iI lim), .ref w1, .int (iI ht), .int (iI st)])), (a0, .inr (2, [.ref a1, .ref a2, .ref a3, .int (iI mk)])), (a1, .inl (gI G, 61, .inl (fun j : Nat => iI (sz (j : Int))))), (a2, .inl (gL G, 61, .inr (.inl (fun j : Nat => lI (va (j : Int)))))), (a3, .inl (gL G, 61, .inr (.inl (fun j : Nat => lI (ke (j : Int)))))), (u0, .inr (1, [.ref u1, .ref u2, .int (iI (k + i))])), (u1, .inl (gI G, cp, .inl (fun j : Nat => iI ((flF co k i (fun j => 4 * 4000000 + (pl + j))) (j : Int))))), (u2, .inl (gL G, cp, .inr (.inl (fun j : Nat => lI ((flF ve k i (sgn sz va n)) (j : Int))))))] → va_S A s.heap H locs → W p l e (rz 2 35) s m [.ref w0, .int (iI n), .int (iI pl)].toArray below meth c H locs 0 0 Q (F0 m 83 ls [.int (iI (sgn sz va n i))]) := by
            intro H locs hP hD hS
            refine lv_istore (lv' := [(7, .int (iI (sgn sz va n i))), (0, .ref w0), (1, .int (iI n)), (2, .int (iI pl)), (3, .int (iI (neg1 (va n)))), (5, .int (iI (dlen sz va n pl))), (6, .int (iI i))]) hx hb dX9_display_83 hl (by decide) rfl (fun ls hl => ?_)
            refine lv_aload_n hx hb dX9_display_85 rfl (lv_at hl 1 rfl) ?_
            refine va_get (D := G.1) (ci := 10) (v := .ref u0) (C := RX9) (T := TX9) (N := 7) hx hb hts hiX9 hown hK hP 0 rfl rfl 2 (by decide) hw7 (fun _ h9 => h9) rfl dX9_display_86 ?_
            refine lv_iconst (v := iI (4)) hx hb dX9_display_89 rfl ?_
            refine lv_iload_n hx hb dX9_display_90 rfl (lv_at hl 3 rfl) ?_
            refine lv_iload hx hb dX9_display_91 (lv_at hl 6 rfl) ?_
            refine z_iadd hx hb dX9_display_93 ?_
            refine lv_iload hx hb dX9_display_94 (lv_at hl 0 rfl) ?_
            have hs := sgn_r sz va n i (by omega) (by omega)
            refine z_i2l hx hb dX9_display_96 (by omega) ?_
            refine z_cVi (RV := (if (k + i) < (cp : Int) then 1 else 0)) (As := [.int (iI 4), .int (iI (pl + i)), .long (lI (sgn sz va n i))]) (rest := []) (wc := [(u0, .inr (1, [.ref u1, .ref u2, .int (iI (k + i))])), (u1, .inl (gI G, cp, .inl (fun j : Nat => iI ((flF co k i (fun j => 4 * 4000000 + (pl + j))) (j : Int))))), (u2, .inl (gL G, cp, .inr (.inl (fun j : Nat => lI ((flF ve k i (sgn sz va n)) (j : Int))))))]) (wr := [(w0, .inr (10, [.ref a0, .ref b0, .ref u0, .int (iI lim), .ref w1, .int (iI ht), .int (iI st)])), (a0, .inr (2, [.ref a1, .ref a2, .ref a3, .int (iI mk)])), (a1, .inl (gI G, 61, .inl (fun j : Nat => iI (sz (j : Int))))), (a2, .inl (gL G, 61, .inr (.inl (fun j : Nat => lI (va (j : Int)))))), (a3, .inl (gL G, 61, .inr (.inl (fun j : Nat => lI (ke (j : Int))))))]) (wn := [(w0, .inr (10, [.ref a0, .ref b0, .ref u0, .int (iI lim), .ref w1, .int (iI ht), .int (iI st)])), (a0, .inr (2, [.ref a1, .ref a2, .ref a3, .int (iI mk)])), (a1, .inl (gI G, 61, .inl (fun j : Nat => iI (sz (j : Int))))), (a2, .inl (gL G, 61, .inr (.inl (fun j : Nat => lI (va (j : Int)))))), (a3, .inl (gL G, 61, .inr (.inl (fun j : Nat => lI (ke (j : Int)))))), (u0, .inr (1, [.ref u1, .ref u2, .int (iI (addN cp (k + i)))])), (u1, .inl (gI G, cp, .inl (fun j : Nat => iI ((addF cp (k + i) (flF co k i (fun j => 4 * 4000000 + (pl + j))) (4 * 4000000 + (pl + i))) (j : Int))))), (u2, .inl (gL G, cp, .inr (.inl (fun j : Nat => lI ((addF cp (k + i) (flF ve k i (sgn sz va n)) (sgn sz va n i)) (j : Int))))))]) F C (c_X0_add l G H.size u0 u1 u2 cp (flF co k i (fun j => 4 * 4000000 + (pl + j))) (flF ve k i (sgn sz va n)) (k + i) 4 (pl + i) (sgn sz va n i) (by omega)) (cwV 3 hts gX9_display_X0_add rfl rfl rfl (by decide +kernel) (by decide)) hP hD hS (q0 := 5) rfl rfl rfl [5, 6, 7] [0, 1, 2, 3, 4] rfl rfl (by decide) rfl rfl hl.1 rfl (Nat.le_of_ble_eq_true rfl) dX9_display_97 (by decide) (fun H locs hP hD hS => ?_)
            refine z_if_ne (tgt := 105) hx hb dX9_display_100 (by decide) (by split <;> omega) (fun c_8 => ?_) (fun c_8 => ?_)
            · skip
              have hlt : k + i < (cp : Int) := by (by_cases q : k + i < (cp : Int)); exact q; rw [if_neg q] at c_8; omega
              refine lv_iinc (v := iI (i + 1)) (lv' := [(6, .int (iI (i + 1))), (7, .int (iI (sgn sz va n i))), (0, .ref w0), (1, .int (iI n)), (2, .int (iI pl)), (3, .int (iI (neg1 (va n)))), (5, .int (iI (dlen sz va n pl)))]) hx hb dX9_display_105 hl (k := 6) rfl (iI_add i (1)) (by decide) rfl (fun ls hl => ?_)
              refine lv_goto (tgt := 50) hx hb dX9_display_108 (by decide) ?_
              have e_9 : ((addN cp (k + i)) : Int) = (k + (i + 1)) := by first | (exact (flF_0 _ _ _).symm) | (simp only [addF, addN, if_pos hlt]; exact flF_s _ _ (by omega) (by first | rfl | exact (if_pos (by omega)).symm | exact (if_neg (by omega)).symm)) | (simp only [addN, if_pos hlt]; omega) | omega
              have e_10 : ((addF cp (k + i) (flF co k i (fun j => 4 * 4000000 + (pl + j))) (4 * 4000000 + (pl + i))) : Int → Int) = (flF co k (i + 1) (fun j => 4 * 4000000 + (pl + j))) := by first | (exact (flF_0 _ _ _).symm) | (simp only [addF, addN, if_pos hlt]; exact flF_s _ _ (by omega) (by first | rfl | exact (if_pos (by omega)).symm | exact (if_neg (by omega)).symm)) | (simp only [addN, if_pos hlt]; omega) | omega
              have e_11 : ((addF cp (k + i) (flF ve k i (sgn sz va n)) (sgn sz va n i)) : Int → Int) = (flF ve k (i + 1) (sgn sz va n)) := by first | (exact (flF_0 _ _ _).symm) | (simp only [addF, addN, if_pos hlt]; exact flF_s _ _ (by omega) (by first | rfl | exact (if_pos (by omega)).symm | exact (if_neg (by omega)).symm)) | (simp only [addN, if_pos hlt]; omega) | omega
              have hP : va_P G.1 vwCl [(w0, .inr (10, [.ref a0, .ref b0, .ref u0, .int (iI lim), .ref w1, .int (iI ht), .int (iI st)])), (a0, .inr (2, [.ref a1, .ref a2, .ref a3, .int (iI mk)])), (a1, .inl (gI G, 61, .inl (fun j : Nat => iI (sz (j : Int))))), (a2, .inl (gL G, 61, .inr (.inl (fun j : Nat => lI (va (j : Int)))))), (a3, .inl (gL G, 61, .inr (.inl (fun j : Nat => lI (ke (j : Int)))))), (u0, .inr (1, [.ref u1, .ref u2, .int (iI (k + (i + 1)))])), (u1, .inl (gI G, cp, .inl (fun j : Nat => iI ((flF co k (i + 1) (fun j => 4 * 4000000 + (pl + j))) (j : Int))))), (u2, .inl (gL G, cp, .inr (.inl (fun j : Nat => lI ((flF ve k (i + 1) (sgn sz va n)) (j : Int))))))] H := by rw [← e_9, ← e_10, ← e_11]; exact hP
              have hD : va_D A [(w0, .inr (10, [.ref a0, .ref b0, .ref u0, .int (iI lim), .ref w1, .int (iI ht), .int (iI st)])), (a0, .inr (2, [.ref a1, .ref a2, .ref a3, .int (iI mk)])), (a1, .inl (gI G, 61, .inl (fun j : Nat => iI (sz (j : Int))))), (a2, .inl (gL G, 61, .inr (.inl (fun j : Nat => lI (va (j : Int)))))), (a3, .inl (gL G, 61, .inr (.inl (fun j : Nat => lI (ke (j : Int)))))), (u0, .inr (1, [.ref u1, .ref u2, .int (iI (k + (i + 1)))])), (u1, .inl (gI G, cp, .inl (fun j : Nat => iI ((flF co k (i + 1) (fun j => 4 * 4000000 + (pl + j))) (j : Int))))), (u2, .inl (gL G, cp, .inr (.inl (fun j : Nat => lI ((flF ve k (i + 1) (sgn sz va n)) (j : Int))))))] := by rw [← e_9, ← e_10, ← e_11]; exact hD
              exact ih50 (i + 1) H locs ls (by omega) (by omega) (by omega) hP hD hS (lv_sub hl [2, 3, 4, 5, 6, 0] rfl)
            · skip
              have hlt : ¬ k + i < (cp : Int) := by intro q; rw [if_pos q] at c_8; omega
              refine lv_iconst (v := iI (2)) hx hb dX9_display_103 rfl ?_
              have e_12 : ((addN cp (k + i)) : Int) = (k + (dpN cp k (dlen sz va n pl))) := by first | (rw [show dpN cp k (dlen sz va n pl) = i by unfold dpN; omega]; done) | (rw [show dpN cp k (dlen sz va n pl) = i by unfold dpN; omega]; simp only [addF, addN, if_neg hlt]) | (unfold dpO; first | exact (if_pos (by omega)).symm | exact (if_neg (by omega)).symm)
              have e_13 : ((addF cp (k + i) (flF co k i (fun j => 4 * 4000000 + (pl + j))) (4 * 4000000 + (pl + i))) : Int → Int) = (flF co k (dpN cp k (dlen sz va n pl)) (fun j => 4 * 4000000 + (pl + j))) := by first | (rw [show dpN cp k (dlen sz va n pl) = i by unfold dpN; omega]; done) | (rw [show dpN cp k (dlen sz va n pl) = i by unfold dpN; omega]; simp only [addF, addN, if_neg hlt]) | (unfold dpO; first | exact (if_pos (by omega)).symm | exact (if_neg (by omega)).symm)
              have e_14 : ((addF cp (k + i) (flF ve k i (sgn sz va n)) (sgn sz va n i)) : Int → Int) = (flF ve k (dpN cp k (dlen sz va n pl)) (sgn sz va n)) := by first | (rw [show dpN cp k (dlen sz va n pl) = i by unfold dpN; omega]; done) | (rw [show dpN cp k (dlen sz va n pl) = i by unfold dpN; omega]; simp only [addF, addN, if_neg hlt]) | (unfold dpO; first | exact (if_pos (by omega)).symm | exact (if_neg (by omega)).symm)
              have hP : va_P G.1 vwCl [(w0, .inr (10, [.ref a0, .ref b0, .ref u0, .int (iI lim), .ref w1, .int (iI ht), .int (iI st)])), (a0, .inr (2, [.ref a1, .ref a2, .ref a3, .int (iI mk)])), (a1, .inl (gI G, 61, .inl (fun j : Nat => iI (sz (j : Int))))), (a2, .inl (gL G, 61, .inr (.inl (fun j : Nat => lI (va (j : Int)))))), (a3, .inl (gL G, 61, .inr (.inl (fun j : Nat => lI (ke (j : Int)))))), (u0, .inr (1, [.ref u1, .ref u2, .int (iI (k + (dpN cp k (dlen sz va n pl))))])), (u1, .inl (gI G, cp, .inl (fun j : Nat => iI ((flF co k (dpN cp k (dlen sz va n pl)) (fun j => 4 * 4000000 + (pl + j))) (j : Int))))), (u2, .inl (gL G, cp, .inr (.inl (fun j : Nat => lI ((flF ve k (dpN cp k (dlen sz va n pl)) (sgn sz va n)) (j : Int))))))] H := by rw [← e_12, ← e_13, ← e_14]; exact hP
              have hD : va_D A [(w0, .inr (10, [.ref a0, .ref b0, .ref u0, .int (iI lim), .ref w1, .int (iI ht), .int (iI st)])), (a0, .inr (2, [.ref a1, .ref a2, .ref a3, .int (iI mk)])), (a1, .inl (gI G, 61, .inl (fun j : Nat => iI (sz (j : Int))))), (a2, .inl (gL G, 61, .inr (.inl (fun j : Nat => lI (va (j : Int)))))), (a3, .inl (gL G, 61, .inr (.inl (fun j : Nat => lI (ke (j : Int)))))), (u0, .inr (1, [.ref u1, .ref u2, .int (iI (k + (dpN cp k (dlen sz va n pl))))])), (u1, .inl (gI G, cp, .inl (fun j : Nat => iI ((flF co k (dpN cp k (dlen sz va n pl)) (fun j => 4 * 4000000 + (pl + j))) (j : Int))))), (u2, .inl (gL G, cp, .inr (.inl (fun j : Nat => lI ((flF ve k (dpN cp k (dlen sz va n pl)) (sgn sz va n)) (j : Int))))))] := by rw [← e_12, ← e_13, ← e_14]; exact hD
              have r_15 : (2 : Int) = (dpO cp k (dlen sz va n pl)) := by first | (rw [show dpN cp k (dlen sz va n pl) = i by unfold dpN; omega]; done) | (rw [show dpN cp k (dlen sz va n pl) = i by unfold dpN; omega]; simp only [addF, addN, if_neg hlt]) | (unfold dpO; first | exact (if_pos (by omega)).symm | exact (if_neg (by omega)).symm)
              rw [r_15]
              exact hret _ ls H locs dX9_display_104 hP hD hS
          refine z_icmp_ge (tgt := 68) hx hb dX9_display_60 (by decide) (by omega) (fun c_7 => ?_) (fun c_7 => ?_)
          · skip
            refine lv_bipush (v := iI (48)) hx hb dX9_display_68 (by decide) ?_
            refine lv_aload_n hx hb dX9_display_70 rfl (lv_at hl 0 rfl) ?_
            refine va_get (D := G.1) (ci := 10) (v := .ref a0) (C := RX9) (T := TX9) (N := 7) hx hb hts hiX9 hown hK hP 0 rfl rfl 0 (by decide) hw0 (fun _ h9 => h9) rfl dX9_display_71 ?_
            refine lv_iload_n hx hb dX9_display_74 rfl (lv_at hl 1 rfl) ?_
            refine lv_iload hx hb dX9_display_75 (lv_at hl 5 rfl) ?_
            refine lv_iload_n hx hb dX9_display_77 rfl (lv_at hl 3 rfl) ?_
            refine z_isub hx hb dX9_display_78 ?_
            refine z_cVi (RV := (Int.tmod (Int.tdiv ((Int.natAbs (va n) : Nat) : Int) (pw (sz n - 1 - (i - (neg1 (va n)))))) 10)) (As := [.int (iI n), .int (iI (i - (neg1 (va n))))]) (rest := [.int (iI 48)]) (wc := [(a0, .inr (2, [.ref a1, .ref a2, .ref a3, .int (iI mk)])), (a1, .inl (gI G, 61, .inl (fun j : Nat => iI (sz (j : Int))))), (a2, .inl (gL G, 61, .inr (.inl (fun j : Nat => lI (va (j : Int)))))), (a3, .inl (gL G, 61, .inr (.inl (fun j : Nat => lI (ke (j : Int))))))]) (wr := [(w0, .inr (10, [.ref a0, .ref b0, .ref u0, .int (iI lim), .ref w1, .int (iI ht), .int (iI st)])), (u0, .inr (1, [.ref u1, .ref u2, .int (iI (k + i))])), (u1, .inl (gI G, cp, .inl (fun j : Nat => iI ((flF co k i (fun j => 4 * 4000000 + (pl + j))) (j : Int))))), (u2, .inl (gL G, cp, .inr (.inl (fun j : Nat => lI ((flF ve k i (sgn sz va n)) (j : Int))))))]) (wn := [(w0, .inr (10, [.ref a0, .ref b0, .ref u0, .int (iI lim), .ref w1, .int (iI ht), .int (iI st)])), (u0, .inr (1, [.ref u1, .ref u2, .int (iI (k + i))])), (u1, .inl (gI G, cp, .inl (fun j : Nat => iI ((flF co k i (fun j => 4 * 4000000 + (pl + j))) (j : Int))))), (u2, .inl (gL G, cp, .inr (.inl (fun j : Nat => lI ((flF ve k i (sgn sz va n)) (j : Int)))))), (a0, .inr (2, [.ref a1, .ref a2, .ref a3, .int (iI mk)])), (a1, .inl (gI G, 61, .inl (fun j : Nat => iI (sz (j : Int))))), (a2, .inl (gL G, 61, .inr (.inl (fun j : Nat => lI (va (j : Int)))))), (a3, .inl (gL G, 61, .inr (.inl (fun j : Nat => lI (ke (j : Int))))))]) F C (c_X1_digit l G H.size a0 a1 a2 a3 sz va ke mk n (i - (neg1 (va n))) (by omega) (by omega) (by omega) (by omega)) (cwV 2 hts gX9_display_X1_digit rfl rfl rfl (by decide +kernel) (by decide)) hP hD hS (q0 := 1) rfl rfl rfl [1, 2, 3, 4] [0, 5, 6, 7] rfl rfl (by decide) rfl rfl hl.1 rfl (Nat.le_of_ble_eq_true rfl) dX9_display_79 (by decide) (fun H locs hP hD hS => ?_)
            refine z_top (w := .int (iI (dgt sz va n (i - neg1 (va n))))) (congrArg _ (congrArg iI (by rfl))) ?_
            refine z_iadd hx hb dX9_display_82 ?_
            have hP : va_P G.1 vwCl [(w0, .inr (10, [.ref a0, .ref b0, .ref u0, .int (iI lim), .ref w1, .int (iI ht), .int (iI st)])), (a0, .inr (2, [.ref a1, .ref a2, .ref a3, .int (iI mk)])), (a1, .inl (gI G, 61, .inl (fun j : Nat => iI (sz (j : Int))))), (a2, .inl (gL G, 61, .inr (.inl (fun j : Nat => lI (va (j : Int)))))), (a3, .inl (gL G, 61, .inr (.inl (fun j : Nat => lI (ke (j : Int)))))), (u0, .inr (1, [.ref u1, .ref u2, .int (iI (k + i))])), (u1, .inl (gI G, cp, .inl (fun j : Nat => iI ((flF co k i (fun j => 4 * 4000000 + (pl + j))) (j : Int))))), (u2, .inl (gL G, cp, .inr (.inl (fun j : Nat => lI ((flF ve k i (sgn sz va n)) (j : Int))))))] H := hP.sub [0, 4, 5, 6, 7, 1, 2, 3] rfl
            have hD : va_D A [(w0, .inr (10, [.ref a0, .ref b0, .ref u0, .int (iI lim), .ref w1, .int (iI ht), .int (iI st)])), (a0, .inr (2, [.ref a1, .ref a2, .ref a3, .int (iI mk)])), (a1, .inl (gI G, 61, .inl (fun j : Nat => iI (sz (j : Int))))), (a2, .inl (gL G, 61, .inr (.inl (fun j : Nat => lI (va (j : Int)))))), (a3, .inl (gL G, 61, .inr (.inl (fun j : Nat => lI (ke (j : Int)))))), (u0, .inr (1, [.ref u1, .ref u2, .int (iI (k + i))])), (u1, .inl (gI G, cp, .inl (fun j : Nat => iI ((flF co k i (fun j => 4 * 4000000 + (pl + j))) (j : Int))))), (u2, .inl (gL G, cp, .inr (.inl (fun j : Nat => lI ((flF ve k i (sgn sz va n)) (j : Int))))))] := hD.sub [0, 4, 5, 6, 7, 1, 2, 3] (by decide) rfl
            refine z_top (w := .int (iI (sgn sz va n i))) (congrArg _ (congrArg iI (by unfold sgn; first | exact (if_pos (by omega)).symm | exact (if_neg (by omega)).symm))) ?_
            exact join83 H locs hP hD hS
          · skip
            refine lv_bipush (v := iI (45)) hx hb dX9_display_63 (by decide) ?_
            refine lv_goto (tgt := 83) hx hb dX9_display_65 (by decide) ?_
            refine z_top (w := .int (iI (sgn sz va n i))) (congrArg _ (congrArg iI (by unfold sgn; first | exact (if_pos (by omega)).symm | exact (if_neg (by omega)).symm))) ?_
            exact join83 H locs hP hD hS
    have e_16 : (k : Int) = (k + 0) := by first | (exact (flF_0 _ _ _).symm) | (simp only [addF, addN, if_pos hlt]; exact flF_s _ _ (by omega) (by first | rfl | exact (if_pos (by omega)).symm | exact (if_neg (by omega)).symm)) | (simp only [addN, if_pos hlt]; omega) | omega
    have e_17 : (co : Int → Int) = (flF co k 0 (fun j => 4 * 4000000 + (pl + j))) := by first | (exact (flF_0 _ _ _).symm) | (simp only [addF, addN, if_pos hlt]; exact flF_s _ _ (by omega) (by first | rfl | exact (if_pos (by omega)).symm | exact (if_neg (by omega)).symm)) | (simp only [addN, if_pos hlt]; omega) | omega
    have e_18 : (ve : Int → Int) = (flF ve k 0 (sgn sz va n)) := by first | (exact (flF_0 _ _ _).symm) | (simp only [addF, addN, if_pos hlt]; exact flF_s _ _ (by omega) (by first | rfl | exact (if_pos (by omega)).symm | exact (if_neg (by omega)).symm)) | (simp only [addN, if_pos hlt]; omega) | omega
    have hP : va_P G.1 vwCl [(w0, .inr (10, [.ref a0, .ref b0, .ref u0, .int (iI lim), .ref w1, .int (iI ht), .int (iI st)])), (a0, .inr (2, [.ref a1, .ref a2, .ref a3, .int (iI mk)])), (a1, .inl (gI G, 61, .inl (fun j : Nat => iI (sz (j : Int))))), (a2, .inl (gL G, 61, .inr (.inl (fun j : Nat => lI (va (j : Int)))))), (a3, .inl (gL G, 61, .inr (.inl (fun j : Nat => lI (ke (j : Int)))))), (u0, .inr (1, [.ref u1, .ref u2, .int (iI (k + 0))])), (u1, .inl (gI G, cp, .inl (fun j : Nat => iI ((flF co k 0 (fun j => 4 * 4000000 + (pl + j))) (j : Int))))), (u2, .inl (gL G, cp, .inr (.inl (fun j : Nat => lI ((flF ve k 0 (sgn sz va n)) (j : Int))))))] H := by rw [← e_16, ← e_17, ← e_18]; exact hP
    have hD : va_D A [(w0, .inr (10, [.ref a0, .ref b0, .ref u0, .int (iI lim), .ref w1, .int (iI ht), .int (iI st)])), (a0, .inr (2, [.ref a1, .ref a2, .ref a3, .int (iI mk)])), (a1, .inl (gI G, 61, .inl (fun j : Nat => iI (sz (j : Int))))), (a2, .inl (gL G, 61, .inr (.inl (fun j : Nat => lI (va (j : Int)))))), (a3, .inl (gL G, 61, .inr (.inl (fun j : Nat => lI (ke (j : Int)))))), (u0, .inr (1, [.ref u1, .ref u2, .int (iI (k + 0))])), (u1, .inl (gI G, cp, .inl (fun j : Nat => iI ((flF co k 0 (fun j => 4 * 4000000 + (pl + j))) (j : Int))))), (u2, .inl (gL G, cp, .inr (.inl (fun j : Nat => lI ((flF ve k 0 (sgn sz va n)) (j : Int))))))] := by rw [← e_16, ← e_17, ← e_18]; exact hD
    exact loop50 _ 0 H locs ls (Nat.lt_succ_self _) (by omega) (by omega) hP hD hS (lv_sub hl [4, 5, 6, 3, 1, 0] rfl)
  refine z_lcmp_ge (tgt := 18) hx hb dX9_display_10 dX9_display_11 (by decide) (by omega) (fun c_1 => ?_) (fun c_1 => ?_)
  · skip
    refine lv_iconst (v := iI (0)) hx hb dX9_display_18 rfl ?_
    refine z_top (w := .int (iI (neg1 (va n)))) (congrArg _ (congrArg iI (by unfold neg1; first | exact (if_pos (by omega)).symm | exact (if_neg (by omega)).symm))) ?_
    exact join19 H locs hP hD hS
  · skip
    refine lv_iconst (v := iI (1)) hx hb dX9_display_14 rfl ?_
    refine lv_goto (tgt := 19) hx hb dX9_display_15 (by decide) ?_
    refine z_top (w := .int (iI (neg1 (va n)))) (congrArg _ (congrArg iI (by unfold neg1; first | exact (if_pos (by omega)).symm | exact (if_neg (by omega)).symm))) ?_
    exact join19 H locs hP hD hS

set_option maxHeartbeats 4000000 in
set_option maxRecDepth 100000 in
theorem c_X9_store (l : Launch) (G : Gx) (zz : Nat) (w0 w1 a0 b0 : Nat) (u0 u1 u2 cp : Nat) (co ve : Int → Int) (k : Int) (lim ht st : Int) (x v : Int) (h0 : 0 ≤ k ∧ k ≤ (cp : Int) ∧ (cp : Int) ≤ 1000) (h1 : -9223372036854775808 ≤ x ∧ x < 9223372036854775808) : Ci l yX9_store wsX9_store (rz 1 24) G [.ref w0, .long (lI x), .long (lI v)] [(w0, .inr (10, [.ref a0, .ref b0, .ref u0, .int (iI lim), .ref w1, .int (iI ht), .int (iI st)])), (u0, .inr (1, [.ref u1, .ref u2, .int (iI k)])), (u1, .inl (gI G, cp, .inl (fun j : Nat => iI (co (j : Int))))), (u2, .inl (gL G, cp, .inr (.inl (fun j : Nat => lI (ve (j : Int))))))] zz (soO cp k x) [(w0, .inr (10, [.ref a0, .ref b0, .ref u0, .int (iI lim), .ref w1, .int (iI ht), .int (iI st)])), (u0, .inr (1, [.ref u1, .ref u2, .int (iI (soK cp k x))])), (u1, .inl (gI G, cp, .inl (fun j : Nat => iI ((soF cp k x co (0 * 4000000 + x)) (j : Int))))), (u2, .inl (gL G, cp, .inr (.inl (fun j : Nat => lI ((soF cp k x ve v) (j : Int))))))] := by
  refine met_i (cc := cX9_store) (maxL := 5) (ret := (some .int)) (by decide) rfl (Nat.le_of_ble_eq_true rfl) rfl rfl ⟨rfl, rfl⟩ ?_
  intro p e s m below meth c A Q F C hP hD hS hret ls hl
  obtain ⟨hx, hb, hml, hown, hts⟩ := id F
  obtain ⟨hK, hA, hZ, hT, hN⟩ := id C
  have hl : lv_has ls 5 [(0, .ref w0), (1, .long (lI x)), (3, .long (lI v))] := hl
  obtain ⟨H, hH⟩ : ∃ H, H = s.heap := ⟨_, rfl⟩
  obtain ⟨locs, hlocs⟩ : ∃ l : List Loc, l = [] := ⟨_, rfl⟩
  have hS : va_S A s.heap H locs := by rw [hH, hlocs]; exact hS
  have hP : va_P G.1 vwCl [(w0, .inr (10, [.ref a0, .ref b0, .ref u0, .int (iI lim), .ref w1, .int (iI ht), .int (iI st)])), (u0, .inr (1, [.ref u1, .ref u2, .int (iI k)])), (u1, .inl (gI G, cp, .inl (fun j : Nat => iI (co (j : Int))))), (u2, .inl (gL G, cp, .inr (.inl (fun j : Nat => lI (ve (j : Int))))))] H := by rw [hH]; exact hP
  suffices hgo : W p l e (rz 1 24) s m [.ref w0, .long (lI x), .long (lI v)].toArray below meth c H locs 0 0 Q (F0 m 0 ls []) by rw [hH, hlocs] at hgo; exact hgo
  have hw0 := hts (Cond.constantLong RX9 131 (1000000)) (List.mem_of_getElem? (i := 1) rfl)
  have hiX9 : ∀ w ∈ wsX90, w ∈ wsX9_store := by decide +kernel
  have hw1 := hts (Cond.fieldLink RX9 30 "PlainCobol$Walker" "unit" "LPlainCobol$Acts;") (List.mem_of_getElem? (i := 2) rfl)
  refine lv_lload_n hx hb dX9_store_0 rfl (lv_at hl 1 rfl) ?_
  refine lv_lconst (v := lI 0) hx hb dX9_store_1 (by decide) ?_
  refine z_lcmp_lt (tgt := 14) hx hb dX9_store_2 dX9_store_3 (by decide) (by omega) (fun c_1 => ?_) (fun c_1 => ?_)
  · skip
    refine lv_iconst (v := iI (2)) hx hb dX9_store_14 rfl ?_
    have e_2 : (k : Int) = (soK cp k x) := by (first | unfold soF | unfold soK | unfold soO); first | exact (if_pos (by omega)).symm | exact (if_neg (by omega)).symm
    have e_3 : (co : Int → Int) = (soF cp k x co (0 * 4000000 + x)) := by (first | unfold soF | unfold soK | unfold soO); first | exact (if_pos (by omega)).symm | exact (if_neg (by omega)).symm
    have e_4 : (ve : Int → Int) = (soF cp k x ve v) := by (first | unfold soF | unfold soK | unfold soO); first | exact (if_pos (by omega)).symm | exact (if_neg (by omega)).symm
    have hP : va_P G.1 vwCl [(w0, .inr (10, [.ref a0, .ref b0, .ref u0, .int (iI lim), .ref w1, .int (iI ht), .int (iI st)])), (u0, .inr (1, [.ref u1, .ref u2, .int (iI (soK cp k x))])), (u1, .inl (gI G, cp, .inl (fun j : Nat => iI ((soF cp k x co (0 * 4000000 + x)) (j : Int))))), (u2, .inl (gL G, cp, .inr (.inl (fun j : Nat => lI ((soF cp k x ve v) (j : Int))))))] H := by rw [← e_2, ← e_3, ← e_4]; exact hP
    have hD : va_D A [(w0, .inr (10, [.ref a0, .ref b0, .ref u0, .int (iI lim), .ref w1, .int (iI ht), .int (iI st)])), (u0, .inr (1, [.ref u1, .ref u2, .int (iI (soK cp k x))])), (u1, .inl (gI G, cp, .inl (fun j : Nat => iI ((soF cp k x co (0 * 4000000 + x)) (j : Int))))), (u2, .inl (gL G, cp, .inr (.inl (fun j : Nat => lI ((soF cp k x ve v) (j : Int))))))] := by rw [← e_2, ← e_3, ← e_4]; exact hD
    have r_5 : (2 : Int) = (soO cp k x) := by (first | unfold soF | unfold soK | unfold soO); first | exact (if_pos (by omega)).symm | exact (if_neg (by omega)).symm
    rw [r_5]
    exact hret _ ls H locs dX9_store_15 hP hD hS
  · skip
    refine lv_lload_n hx hb dX9_store_6 rfl (lv_at hl 1 rfl) ?_
    refine lv_ldc2 hx hb hown hw0 dX9_store_7 ?_
    refine z_top (w := .long (lI (1000000))) rfl ?_
    refine z_lcmp_lt (tgt := 16) hx hb dX9_store_10 dX9_store_11 (by decide) (by omega) (fun c_6 => ?_) (fun c_6 => ?_)
    · skip
      refine lv_aload_n hx hb dX9_store_16 rfl (lv_at hl 0 rfl) ?_
      refine va_get (D := G.1) (ci := 10) (v := .ref u0) (C := RX9) (T := TX9) (N := 7) hx hb hts hiX9 hown hK hP 0 rfl rfl 2 (by decide) hw1 (fun _ h9 => h9) rfl dX9_store_17 ?_
      refine lv_iconst (v := iI (0)) hx hb dX9_store_20 rfl ?_
      refine lv_lload_n hx hb dX9_store_21 rfl (lv_at hl 1 rfl) ?_
      refine z_l2i hx hb dX9_store_22 ?_
      refine lv_lload_n hx hb dX9_store_23 rfl (lv_at hl 2 rfl) ?_
      refine z_cVi (RV := (if k < (cp : Int) then 1 else 0)) (As := [.int (iI 0), .int (iI x), .long (lI v)]) (rest := []) (wc := [(u0, .inr (1, [.ref u1, .ref u2, .int (iI k)])), (u1, .inl (gI G, cp, .inl (fun j : Nat => iI (co (j : Int))))), (u2, .inl (gL G, cp, .inr (.inl (fun j : Nat => lI (ve (j : Int))))))]) (wr := [(w0, .inr (10, [.ref a0, .ref b0, .ref u0, .int (iI lim), .ref w1, .int (iI ht), .int (iI st)]))]) (wn := [(w0, .inr (10, [.ref a0, .ref b0, .ref u0, .int (iI lim), .ref w1, .int (iI ht), .int (iI st)])), (u0, .inr (1, [.ref u1, .ref u2, .int (iI (addN cp k))])), (u1, .inl (gI G, cp, .inl (fun j : Nat => iI ((addF cp k co (0 * 4000000 + x)) (j : Int))))), (u2, .inl (gL G, cp, .inr (.inl (fun j : Nat => lI ((addF cp k ve v) (j : Int))))))]) F C (c_X0_add l G H.size u0 u1 u2 cp co ve k 0 x v (by omega)) (cwV 3 hts gX9_store_X0_add rfl rfl rfl (by decide +kernel) (by decide)) hP hD hS (q0 := 1) rfl rfl rfl [1, 2, 3] [0] rfl rfl (by decide) rfl rfl hl.1 rfl (Nat.le_of_ble_eq_true rfl) dX9_store_24 (by decide) (fun H locs hP hD hS => ?_)
      refine z_if_eq (tgt := 34) hx hb dX9_store_27 (by decide) (by split <;> omega) (fun c_7 => ?_) (fun c_7 => ?_)
      · skip
        have hlt : ¬ k < (cp : Int) := by intro q; rw [if_pos q] at c_7; omega
        refine lv_iconst (v := iI (2)) hx hb dX9_store_34 rfl ?_
        have e_8 : ((addN cp k) : Int) = (soK cp k x) := by (first | unfold soF | unfold soK | unfold soO); first | exact (if_pos (by omega)).symm | exact (if_neg (by omega)).symm
        have e_9 : ((addF cp k co (0 * 4000000 + x)) : Int → Int) = (soF cp k x co (0 * 4000000 + x)) := by (first | unfold soF | unfold soK | unfold soO); first | exact (if_pos (by omega)).symm | exact (if_neg (by omega)).symm
        have e_10 : ((addF cp k ve v) : Int → Int) = (soF cp k x ve v) := by (first | unfold soF | unfold soK | unfold soO); first | exact (if_pos (by omega)).symm | exact (if_neg (by omega)).symm
        have hP : va_P G.1 vwCl [(w0, .inr (10, [.ref a0, .ref b0, .ref u0, .int (iI lim), .ref w1, .int (iI ht), .int (iI st)])), (u0, .inr (1, [.ref u1, .ref u2, .int (iI (soK cp k x))])), (u1, .inl (gI G, cp, .inl (fun j : Nat => iI ((soF cp k x co (0 * 4000000 + x)) (j : Int))))), (u2, .inl (gL G, cp, .inr (.inl (fun j : Nat => lI ((soF cp k x ve v) (j : Int))))))] H := by rw [← e_8, ← e_9, ← e_10]; exact hP
        have hD : va_D A [(w0, .inr (10, [.ref a0, .ref b0, .ref u0, .int (iI lim), .ref w1, .int (iI ht), .int (iI st)])), (u0, .inr (1, [.ref u1, .ref u2, .int (iI (soK cp k x))])), (u1, .inl (gI G, cp, .inl (fun j : Nat => iI ((soF cp k x co (0 * 4000000 + x)) (j : Int))))), (u2, .inl (gL G, cp, .inr (.inl (fun j : Nat => lI ((soF cp k x ve v) (j : Int))))))] := by rw [← e_8, ← e_9, ← e_10]; exact hD
        have r_11 : (2 : Int) = (soO cp k x) := by (first | unfold soF | unfold soK | unfold soO); first | exact (if_pos (by omega)).symm | exact (if_neg (by omega)).symm
        rw [r_11]
        exact hret _ ls H locs dX9_store_35 hP hD hS
      · skip
        have hlt : k < (cp : Int) := by (by_cases q : k < (cp : Int)); exact q; rw [if_neg q] at c_7; omega
        refine lv_iconst (v := iI (1)) hx hb dX9_store_30 rfl ?_
        refine lv_goto (tgt := 35) hx hb dX9_store_31 (by decide) ?_
        have e_12 : ((addN cp k) : Int) = (soK cp k x) := by (first | unfold soF | unfold soK | unfold soO); first | exact (if_pos (by omega)).symm | exact (if_neg (by omega)).symm
        have e_13 : ((addF cp k co (0 * 4000000 + x)) : Int → Int) = (soF cp k x co (0 * 4000000 + x)) := by (first | unfold soF | unfold soK | unfold soO); first | exact (if_pos (by omega)).symm | exact (if_neg (by omega)).symm
        have e_14 : ((addF cp k ve v) : Int → Int) = (soF cp k x ve v) := by (first | unfold soF | unfold soK | unfold soO); first | exact (if_pos (by omega)).symm | exact (if_neg (by omega)).symm
        have hP : va_P G.1 vwCl [(w0, .inr (10, [.ref a0, .ref b0, .ref u0, .int (iI lim), .ref w1, .int (iI ht), .int (iI st)])), (u0, .inr (1, [.ref u1, .ref u2, .int (iI (soK cp k x))])), (u1, .inl (gI G, cp, .inl (fun j : Nat => iI ((soF cp k x co (0 * 4000000 + x)) (j : Int))))), (u2, .inl (gL G, cp, .inr (.inl (fun j : Nat => lI ((soF cp k x ve v) (j : Int))))))] H := by rw [← e_12, ← e_13, ← e_14]; exact hP
        have hD : va_D A [(w0, .inr (10, [.ref a0, .ref b0, .ref u0, .int (iI lim), .ref w1, .int (iI ht), .int (iI st)])), (u0, .inr (1, [.ref u1, .ref u2, .int (iI (soK cp k x))])), (u1, .inl (gI G, cp, .inl (fun j : Nat => iI ((soF cp k x co (0 * 4000000 + x)) (j : Int))))), (u2, .inl (gL G, cp, .inr (.inl (fun j : Nat => lI ((soF cp k x ve v) (j : Int))))))] := by rw [← e_12, ← e_13, ← e_14]; exact hD
        have r_15 : (1 : Int) = (soO cp k x) := by (first | unfold soF | unfold soK | unfold soO); first | exact (if_pos (by omega)).symm | exact (if_neg (by omega)).symm
        rw [r_15]
        exact hret _ ls H locs dX9_store_35 hP hD hS
    · skip
      refine lv_iconst (v := iI (2)) hx hb dX9_store_14 rfl ?_
      have e_16 : (k : Int) = (soK cp k x) := by (first | unfold soF | unfold soK | unfold soO); first | exact (if_pos (by omega)).symm | exact (if_neg (by omega)).symm
      have e_17 : (co : Int → Int) = (soF cp k x co (0 * 4000000 + x)) := by (first | unfold soF | unfold soK | unfold soO); first | exact (if_pos (by omega)).symm | exact (if_neg (by omega)).symm
      have e_18 : (ve : Int → Int) = (soF cp k x ve v) := by (first | unfold soF | unfold soK | unfold soO); first | exact (if_pos (by omega)).symm | exact (if_neg (by omega)).symm
      have hP : va_P G.1 vwCl [(w0, .inr (10, [.ref a0, .ref b0, .ref u0, .int (iI lim), .ref w1, .int (iI ht), .int (iI st)])), (u0, .inr (1, [.ref u1, .ref u2, .int (iI (soK cp k x))])), (u1, .inl (gI G, cp, .inl (fun j : Nat => iI ((soF cp k x co (0 * 4000000 + x)) (j : Int))))), (u2, .inl (gL G, cp, .inr (.inl (fun j : Nat => lI ((soF cp k x ve v) (j : Int))))))] H := by rw [← e_16, ← e_17, ← e_18]; exact hP
      have hD : va_D A [(w0, .inr (10, [.ref a0, .ref b0, .ref u0, .int (iI lim), .ref w1, .int (iI ht), .int (iI st)])), (u0, .inr (1, [.ref u1, .ref u2, .int (iI (soK cp k x))])), (u1, .inl (gI G, cp, .inl (fun j : Nat => iI ((soF cp k x co (0 * 4000000 + x)) (j : Int))))), (u2, .inl (gL G, cp, .inr (.inl (fun j : Nat => lI ((soF cp k x ve v) (j : Int))))))] := by rw [← e_16, ← e_17, ← e_18]; exact hD
      have r_19 : (2 : Int) = (soO cp k x) := by (first | unfold soF | unfold soK | unfold soO); first | exact (if_pos (by omega)).symm | exact (if_neg (by omega)).symm
      rw [r_19]
      exact hret _ ls H locs dX9_store_15 hP hD hS

