abbrev okC (mk n : Int) : Prop := (1 ≤ n ∧ n ≤ 18) ∧ mk < 60
def aCell (mk n : Int) : Int := if n < 1 ∨ 18 < n then -4 else if 60 ≤ mk then -1 else mk + 1
abbrev okN (mk nk kd x y : Int) : Prop := (0 ≤ kd ∧ kd ≤ 12) ∧ (kd ≠ 0 → kd ≠ 6 → kd ≠ 11 → 1 ≤ x ∧ x ≤ mk) ∧ ((1 ≤ kd ∧ kd ≤ 5) ∨ kd = 10 → 1 ≤ y ∧ y ≤ mk) ∧ ((6 ≤ kd ∧ kd ≤ 8) ∨ kd = 12 → 1 ≤ y ∧ y ≤ nk) ∧ (kd = 6 → 1 ≤ x ∧ x ≤ nk)
def aNode (mk nk kd x y : Int) : Int := if ¬ okN mk nk kd x y then -2 else if kd = 9 ∧ ¬ PLC y then -4 else if 200 ≤ nk then -1 else nk + 1
theorem tdiv_r (x : Int) {b : Int} (hb : 1 ≤ b) : -((Int.natAbs x : Nat) : Int) ≤ Int.tdiv x b ∧ Int.tdiv x b ≤ ((Int.natAbs x : Nat) : Int) := by
  have := Int.natAbs_tdiv_le_natAbs x b; omega
theorem tdiv_100 (x : Int) : -((Int.natAbs x : Nat) : Int) / 100 - 1 ≤ Int.tdiv x 100 ∧ Int.tdiv x 100 ≤ ((Int.natAbs x : Nat) : Int) / 100 := by
  have h := Int.natAbs_tdiv x 100
  have h2 : (Int.natAbs x).div (Int.natAbs 100) = Int.natAbs x / 100 := rfl
  omega
theorem tmod_r (x : Int) {b : Int} (hb : 1 ≤ b) : -b < Int.tmod x b ∧ Int.tmod x b < b := ⟨Int.lt_tmod_of_pos x (by omega), Int.tmod_lt_of_pos x (by omega)⟩
theorem plc_iff (p : Int) : (1 ≤ Int.tdiv p 100 ∧ Int.tdiv p 100 ≤ 24 ∧ 1 ≤ Int.tmod p 100 ∧ Int.tmod p 100 ≤ 80) ↔ PLC p := by
  by_cases h : 0 ≤ p
  · have h1 : Int.tdiv p 100 = p / 100 := Int.tdiv_eq_ediv_of_nonneg h
    have h2 : Int.tmod p 100 = p % 100 := Int.tmod_eq_emod_of_nonneg h
    unfold PLC; rw [h1, h2]; omega
  · have h1 : Int.tdiv p 100 = -(Int.tdiv (-p) 100) := by rw [Int.neg_tdiv, Int.neg_neg]
    have h2 := Int.tdiv_nonneg (a := -p) (b := 100) (by omega) (by omega)
    unfold PLC; omega
theorem plc_mk {r c : Int} (hr : 1 ≤ r ∧ r ≤ 24) (hc : 1 ≤ c ∧ c ≤ 80) : PLC (r * 100 + c) := by
  have h2 : Int.tmod (r * 100 + c) 100 = (r * 100 + c) % 100 := Int.tmod_eq_emod_of_nonneg (by omega)
  unfold PLC; rw [h2]; omega
def aRec (ky fv : Int → Int) (hd f i what : Int) : Int := if f < 0 ∨ 4 ≤ f then -1 else if i < 0 ∨ cnt ky ((f + 1) * 1000000) hd.toNat - cnt ky (f * 1000000) hd.toNat ≤ i then -1 else if what = 0 then ky (cnt ky (f * 1000000) hd.toNat + i) - f * 1000000 else if what = 1 then fv (cnt ky (f * 1000000) hd.toNat + i) else if what = 2 then shrI (fv (cnt ky (f * 1000000) hd.toNat + i)) 32 else -1
abbrev okL (kd a b : Int) : Prop := (0 ≤ kd ∧ kd ≤ 4) ∧ (kd = 0 ∨ kd = 1 → 0 ≤ a ∧ a < 4000000) ∧ (kd = 2 → 0 ≤ a ∧ a ≤ 100) ∧ (kd = 3 → 1 ≤ a ∧ a ≤ 100) ∧ (kd = 4 → PLC a ∧ 32 ≤ b ∧ b ≤ 126)
def aAct (k u kd a b : Int) : Int := if ¬ (1 ≤ u ∧ u ≤ 8 ∧ 0 ≤ kd ∧ kd ≤ 4) then -2 else if ¬ okL kd a b then -4 else if 50 ≤ k then -1 else k + 1
def aSeg (od ab dp sv : Int → Int) (th i what : Int) : Int := if i < 0 ∨ th ≤ i then -1 else if what = 0 then od i else if what = 1 then ab (od i) else if what = 2 then dp (od i) else if what = 3 then sv (od i) else if what = 4 then shrI (sv (od i)) 32 else -1
def aScr (sg : Int → Int) (r c : Int) : Int := if r < 1 ∨ 24 < r ∨ c < 1 ∨ 80 < c then -1 else if sg (pix (r * 100 + c)) = 0 then 32 else sg (pix (r * 100 + c))
def aCnt (mk nk rk hd th st what : Int) : Int := if what = 0 then mk else if what = 1 then nk else if what = 2 then rk else if what = 3 then hd else if what = 4 then th else if what = 5 then st else -1
set_option maxHeartbeats 4000000 in
set_option maxRecDepth 100000 in
theorem c_X10_refuse (l : Launch) (G : Gx) (zz : Nat) (x0 w0 a0 b0 y0 e0 f0 s0 g0 r0 t0 v0 : Nat) (rf : Int) (x : Int)  : Ci l yX10_refuse wsX10_refuse (rz 0 0) G [.ref x0, .int (iI x)] [(x0, .inr (11, [.ref w0, .ref a0, .ref b0, .ref y0, .ref e0, .ref f0, .ref s0, .ref g0, .ref r0, .ref t0, .ref v0, .int (iI rf)]))] zz x [(x0, .inr (11, [.ref w0, .ref a0, .ref b0, .ref y0, .ref e0, .ref f0, .ref s0, .ref g0, .ref r0, .ref t0, .ref v0, .int (iI (rf + 1))]))] := by
  refine met_i (cc := cX10_refuse) (maxL := 2) (ret := (some .int)) (by decide) rfl (Nat.le_of_ble_eq_true rfl) rfl rfl ⟨rfl, rfl⟩ ?_
  intro p e s m below meth c A Q F C hP hD hS hret ls hl
  obtain ⟨hx, hb, hml, hown, hts⟩ := id F
  obtain ⟨hK, hA, hZ, hT, hN⟩ := id C
  have hl : lv_has ls 2 [(0, .ref x0), (1, .int (iI x))] := hl
  obtain ⟨H, hH⟩ : ∃ H, H = s.heap := ⟨_, rfl⟩
  obtain ⟨locs, hlocs⟩ : ∃ l : List Loc, l = [] := ⟨_, rfl⟩
  have hS : va_S A s.heap H locs := by rw [hH, hlocs]; exact hS
  have hP : va_P G.1 vwCl [(x0, .inr (11, [.ref w0, .ref a0, .ref b0, .ref y0, .ref e0, .ref f0, .ref s0, .ref g0, .ref r0, .ref t0, .ref v0, .int (iI rf)]))] H := by rw [hH]; exact hP
  suffices hgo : W p l e (rz 0 0) s m [.ref x0, .int (iI x)].toArray below meth c H locs 0 0 Q (F0 m 0 ls []) by rw [hH, hlocs] at hgo; exact hgo
  have hiX10 : ∀ w ∈ wsX100, w ∈ wsX10_refuse := by decide +kernel
  have hw0 := hts (Cond.fieldLink RX10 213 "PlainCobol" "refusals" "I") (List.mem_of_getElem? (i := 1) rfl)
  refine lv_aload_n hx hb dX10_refuse_0 rfl (lv_at hl 0 rfl) ?_
  refine lv_dup hx hb dX10_refuse_1 rfl ?_
  refine va_get (D := G.1) (ci := 11) (v := .int (iI rf)) (C := RX10) (T := TX10) (N := 12) hx hb hts hiX10 hown hK hP 0 rfl rfl 11 (by decide) hw0 (fun _ h9 => h9) rfl dX10_refuse_2 ?_
  refine lv_iconst (v := iI (1)) hx hb dX10_refuse_5 rfl ?_
  refine z_iadd hx hb dX10_refuse_6 ?_
  refine va_put (D := G.1) (ci := 11) (v := .int (iI (rf + 1))) (ty := .int) (C := RX10) (T := TX10) (N := 12) hx hb hts hiX10 tyX10 tyX10_ok nmX10 hown hK hP hD hS 0 rfl rfl 11 (by decide) hw0 (fun _ h9 => h9) rfl (by decide +kernel) rfl rfl (Nat.le_of_ble_eq_true rfl) dX10_refuse_7 (fun H locs hP hD hS => ?_)
  have hP : va_P G.1 vwCl [(x0, .inr (11, [.ref w0, .ref a0, .ref b0, .ref y0, .ref e0, .ref f0, .ref s0, .ref g0, .ref r0, .ref t0, .ref v0, .int (iI (rf + 1))]))] H := hP
  have hD : va_D A [(x0, .inr (11, [.ref w0, .ref a0, .ref b0, .ref y0, .ref e0, .ref f0, .ref s0, .ref g0, .ref r0, .ref t0, .ref v0, .int (iI (rf + 1))]))] := hD
  refine lv_iload_n hx hb dX10_refuse_10 rfl (lv_at hl 1 rfl) ?_
  exact hret _ ls H locs dX10_refuse_11 hP hD hS

set_option maxHeartbeats 4000000 in
set_option maxRecDepth 100000 in
theorem c_X10_cell (l : Launch) (G : Gx) (zz : Nat) (x0 w0 b0 y0 e0 f0 s0 g0 r0 t0 v0 : Nat) (rf : Int) (a0 a1 a2 a3 : Nat) (sz va ke : Int → Int) (mk : Int) (n v : Int) (h1 : 0 ≤ mk ∧ mk ≤ 60) (h2 : -2147483648 ≤ n ∧ n < 2147483648) (h3 : -9223372036854775808 ≤ v ∧ v < 9223372036854775808) : Ci l yX10_cell wsX10_cell (rz 1 23) G [.ref x0, .int (iI n), .long (lI v)] [(x0, .inr (11, [.ref w0, .ref a0, .ref b0, .ref y0, .ref e0, .ref f0, .ref s0, .ref g0, .ref r0, .ref t0, .ref v0, .int (iI rf)])), (a0, .inr (2, [.ref a1, .ref a2, .ref a3, .int (iI mk)])), (a1, .inl (gI G, 61, .inl (fun j : Nat => iI (sz (j : Int))))), (a2, .inl (gL G, 61, .inr (.inl (fun j : Nat => lI (va (j : Int)))))), (a3, .inl (gL G, 61, .inr (.inl (fun j : Nat => lI (ke (j : Int))))))] zz (aCell mk n) [(x0, .inr (11, [.ref w0, .ref a0, .ref b0, .ref y0, .ref e0, .ref f0, .ref s0, .ref g0, .ref r0, .ref t0, .ref v0, .int (iI (sI (okC mk n) (rf + 1) rf))])), (a0, .inr (2, [.ref a1, .ref a2, .ref a3, .int (iI (sI (okC mk n) mk (mk + 1)))])), (a1, .inl (gI G, 61, .inl (fun j : Nat => iI ((sIF (okC mk n) sz (uF sz (mk + 1) n)) (j : Int))))), (a2, .inl (gL G, 61, .inr (.inl (fun j : Nat => lI ((sIF (okC mk n) va (uF va (mk + 1) (Int.tmod v (pw n)))) (j : Int)))))), (a3, .inl (gL G, 61, .inr (.inl (fun j : Nat => lI (ke (j : Int))))))] := by
  refine met_i (cc := cX10_cell) (maxL := 4) (ret := (some .int)) (by decide) rfl (Nat.le_of_ble_eq_true rfl) rfl rfl ⟨rfl, rfl⟩ ?_
  intro p e s m below meth c A Q F C hP hD hS hret ls hl
  obtain ⟨hx, hb, hml, hown, hts⟩ := id F
  obtain ⟨hK, hA, hZ, hT, hN⟩ := id C
  have hl : lv_has ls 4 [(0, .ref x0), (1, .int (iI n)), (2, .long (lI v))] := hl
  obtain ⟨H, hH⟩ : ∃ H, H = s.heap := ⟨_, rfl⟩
  obtain ⟨locs, hlocs⟩ : ∃ l : List Loc, l = [] := ⟨_, rfl⟩
  have hS : va_S A s.heap H locs := by rw [hH, hlocs]; exact hS
  have hP : va_P G.1 vwCl [(x0, .inr (11, [.ref w0, .ref a0, .ref b0, .ref y0, .ref e0, .ref f0, .ref s0, .ref g0, .ref r0, .ref t0, .ref v0, .int (iI rf)])), (a0, .inr (2, [.ref a1, .ref a2, .ref a3, .int (iI mk)])), (a1, .inl (gI G, 61, .inl (fun j : Nat => iI (sz (j : Int))))), (a2, .inl (gL G, 61, .inr (.inl (fun j : Nat => lI (va (j : Int)))))), (a3, .inl (gL G, 61, .inr (.inl (fun j : Nat => lI (ke (j : Int))))))] H := by rw [hH]; exact hP
  suffices hgo : W p l e (rz 1 23) s m [.ref x0, .int (iI n), .long (lI v)].toArray below meth c H locs 0 0 Q (F0 m 0 ls []) by rw [hH, hlocs] at hgo; exact hgo
  have hiX10 : ∀ w ∈ wsX100, w ∈ wsX10_cell := by decide +kernel
  have hw0 := hts (Cond.fieldLink RX10 86 "PlainCobol" "cells" "LPlainCobol$Cells;") (List.mem_of_getElem? (i := 1) rfl)
  have hiX1 : ∀ w ∈ wsX10, w ∈ wsX10_cell := by decide +kernel
  have hw1 := hts (Cond.fieldLink RX10 99 "PlainCobol$Cells" "made" "I") (List.mem_of_getElem? (i := 2) rfl)
  refine lv_iload_n hx hb dX10_cell_0 rfl (lv_at hl 1 rfl) ?_
  refine lv_iconst (v := iI (1)) hx hb dX10_cell_1 rfl ?_
  refine z_icmp_lt (tgt := 11) hx hb dX10_cell_2 (by decide) (by omega) (fun c_1 => ?_) (fun c_1 => ?_)
  · skip
    refine lv_aload_n hx hb dX10_cell_11 rfl (lv_at hl 0 rfl) ?_
    refine lv_bipush (v := iI (-4)) hx hb dX10_cell_12 (by decide) ?_
    refine z_cVi (RV := (-4)) (As := [.int (iI (-4))]) (rest := []) (wc := [(x0, .inr (11, [.ref w0, .ref a0, .ref b0, .ref y0, .ref e0, .ref f0, .ref s0, .ref g0, .ref r0, .ref t0, .ref v0, .int (iI rf)]))]) (wr := [(a0, .inr (2, [.ref a1, .ref a2, .ref a3, .int (iI mk)])), (a1, .inl (gI G, 61, .inl (fun j : Nat => iI (sz (j : Int))))), (a2, .inl (gL G, 61, .inr (.inl (fun j : Nat => lI (va (j : Int)))))), (a3, .inl (gL G, 61, .inr (.inl (fun j : Nat => lI (ke (j : Int))))))]) (wn := [(a0, .inr (2, [.ref a1, .ref a2, .ref a3, .int (iI mk)])), (a1, .inl (gI G, 61, .inl (fun j : Nat => iI (sz (j : Int))))), (a2, .inl (gL G, 61, .inr (.inl (fun j : Nat => lI (va (j : Int)))))), (a3, .inl (gL G, 61, .inr (.inl (fun j : Nat => lI (ke (j : Int)))))), (x0, .inr (11, [.ref w0, .ref a0, .ref b0, .ref y0, .ref e0, .ref f0, .ref s0, .ref g0, .ref r0, .ref t0, .ref v0, .int (iI (rf + 1))]))]) F C (c_X10_refuse l G H.size x0 w0 a0 b0 y0 e0 f0 s0 g0 r0 t0 v0 rf (-4) ) (cwV 1 hts gX10_cell_X10_refuse rfl rfl rfl (by decide +kernel) (by decide)) hP hD hS (q0 := 0) rfl rfl rfl [0] [1, 2, 3, 4] rfl rfl (by decide) rfl rfl hl.1 rfl (Nat.le_of_ble_eq_true rfl) dX10_cell_14 (by decide) (fun H locs hP hD hS => ?_)
    have hP : va_P G.1 vwCl [(x0, .inr (11, [.ref w0, .ref a0, .ref b0, .ref y0, .ref e0, .ref f0, .ref s0, .ref g0, .ref r0, .ref t0, .ref v0, .int (iI (rf + 1))])), (a0, .inr (2, [.ref a1, .ref a2, .ref a3, .int (iI mk)])), (a1, .inl (gI G, 61, .inl (fun j : Nat => iI (sz (j : Int))))), (a2, .inl (gL G, 61, .inr (.inl (fun j : Nat => lI (va (j : Int)))))), (a3, .inl (gL G, 61, .inr (.inl (fun j : Nat => lI (ke (j : Int))))))] H := hP.sub [4, 0, 1, 2, 3] rfl
    have hD : va_D A [(x0, .inr (11, [.ref w0, .ref a0, .ref b0, .ref y0, .ref e0, .ref f0, .ref s0, .ref g0, .ref r0, .ref t0, .ref v0, .int (iI (rf + 1))])), (a0, .inr (2, [.ref a1, .ref a2, .ref a3, .int (iI mk)])), (a1, .inl (gI G, 61, .inl (fun j : Nat => iI (sz (j : Int))))), (a2, .inl (gL G, 61, .inr (.inl (fun j : Nat => lI (va (j : Int)))))), (a3, .inl (gL G, 61, .inr (.inl (fun j : Nat => lI (ke (j : Int))))))] := hD.sub [4, 0, 1, 2, 3] (by decide) rfl
    have e_2 : ((rf + 1) : Int) = (sI (okC mk n) (rf + 1) rf) := by first | omega | exact (sI_t (by omega)).symm | exact (sI_f (by omega)).symm | exact (sIF_t (by omega)).symm | exact (sIF_f (by omega)).symm | (unfold aCell; (repeat (first | rw [if_pos (by omega)] | rw [if_neg (by omega)])))
    have e_3 : (mk : Int) = (sI (okC mk n) mk (mk + 1)) := by first | omega | exact (sI_t (by omega)).symm | exact (sI_f (by omega)).symm | exact (sIF_t (by omega)).symm | exact (sIF_f (by omega)).symm | (unfold aCell; (repeat (first | rw [if_pos (by omega)] | rw [if_neg (by omega)])))
    have e_4 : (sz : Int → Int) = (sIF (okC mk n) sz (uF sz (mk + 1) n)) := by first | omega | exact (sI_t (by omega)).symm | exact (sI_f (by omega)).symm | exact (sIF_t (by omega)).symm | exact (sIF_f (by omega)).symm | (unfold aCell; (repeat (first | rw [if_pos (by omega)] | rw [if_neg (by omega)])))
    have e_5 : (va : Int → Int) = (sIF (okC mk n) va (uF va (mk + 1) (Int.tmod v (pw n)))) := by first | omega | exact (sI_t (by omega)).symm | exact (sI_f (by omega)).symm | exact (sIF_t (by omega)).symm | exact (sIF_f (by omega)).symm | (unfold aCell; (repeat (first | rw [if_pos (by omega)] | rw [if_neg (by omega)])))
    have hP : va_P G.1 vwCl [(x0, .inr (11, [.ref w0, .ref a0, .ref b0, .ref y0, .ref e0, .ref f0, .ref s0, .ref g0, .ref r0, .ref t0, .ref v0, .int (iI (sI (okC mk n) (rf + 1) rf))])), (a0, .inr (2, [.ref a1, .ref a2, .ref a3, .int (iI (sI (okC mk n) mk (mk + 1)))])), (a1, .inl (gI G, 61, .inl (fun j : Nat => iI ((sIF (okC mk n) sz (uF sz (mk + 1) n)) (j : Int))))), (a2, .inl (gL G, 61, .inr (.inl (fun j : Nat => lI ((sIF (okC mk n) va (uF va (mk + 1) (Int.tmod v (pw n)))) (j : Int)))))), (a3, .inl (gL G, 61, .inr (.inl (fun j : Nat => lI (ke (j : Int))))))] H := by rw [← e_2, ← e_3, ← e_4, ← e_5]; exact hP
    have hD : va_D A [(x0, .inr (11, [.ref w0, .ref a0, .ref b0, .ref y0, .ref e0, .ref f0, .ref s0, .ref g0, .ref r0, .ref t0, .ref v0, .int (iI (sI (okC mk n) (rf + 1) rf))])), (a0, .inr (2, [.ref a1, .ref a2, .ref a3, .int (iI (sI (okC mk n) mk (mk + 1)))])), (a1, .inl (gI G, 61, .inl (fun j : Nat => iI ((sIF (okC mk n) sz (uF sz (mk + 1) n)) (j : Int))))), (a2, .inl (gL G, 61, .inr (.inl (fun j : Nat => lI ((sIF (okC mk n) va (uF va (mk + 1) (Int.tmod v (pw n)))) (j : Int)))))), (a3, .inl (gL G, 61, .inr (.inl (fun j : Nat => lI (ke (j : Int))))))] := by rw [← e_2, ← e_3, ← e_4, ← e_5]; exact hD
    have r_6 : ((-4) : Int) = (aCell mk n) := by first | omega | exact (sI_t (by omega)).symm | exact (sI_f (by omega)).symm | exact (sIF_t (by omega)).symm | exact (sIF_f (by omega)).symm | (unfold aCell; (repeat (first | rw [if_pos (by omega)] | rw [if_neg (by omega)])))
    rw [r_6]
    exact hret _ ls H locs dX10_cell_17 hP hD hS
  · skip
    refine lv_iload_n hx hb dX10_cell_5 rfl (lv_at hl 1 rfl) ?_
    refine lv_bipush (v := iI (18)) hx hb dX10_cell_6 (by decide) ?_
    refine z_icmp_le (tgt := 18) hx hb dX10_cell_8 (by decide) (by omega) (fun c_7 => ?_) (fun c_7 => ?_)
    · skip
      refine lv_aload_n hx hb dX10_cell_18 rfl (lv_at hl 0 rfl) ?_
      refine va_get (D := G.1) (ci := 11) (v := .ref a0) (C := RX10) (T := TX10) (N := 12) hx hb hts hiX10 hown hK hP 0 rfl rfl 1 (by decide) hw0 (fun _ h9 => h9) rfl dX10_cell_19 ?_
      refine va_get (D := G.1) (ci := 2) (v := .int (iI mk)) (C := RX1) (T := TX1) (N := 4) hx hb hts hiX1 hown hK hP 1 rfl rfl 3 (by decide) hw1 (fun _ h9 => h9) rfl dX10_cell_22 ?_
      refine lv_bipush (v := iI (60)) hx hb dX10_cell_25 (by decide) ?_
      refine z_icmp_lt (tgt := 36) hx hb dX10_cell_27 (by decide) (by omega) (fun c_8 => ?_) (fun c_8 => ?_)
      · skip
        refine lv_aload_n hx hb dX10_cell_36 rfl (lv_at hl 0 rfl) ?_
        refine va_get (D := G.1) (ci := 11) (v := .ref a0) (C := RX10) (T := TX10) (N := 12) hx hb hts hiX10 hown hK hP 0 rfl rfl 1 (by decide) hw0 (fun _ h9 => h9) rfl dX10_cell_37 ?_
        refine lv_iload_n hx hb dX10_cell_40 rfl (lv_at hl 1 rfl) ?_
        refine lv_lload_n hx hb dX10_cell_41 rfl (lv_at hl 2 rfl) ?_
        refine z_cVi (RV := (mk + 1)) (As := [.int (iI n), .long (lI v)]) (rest := []) (wc := [(a0, .inr (2, [.ref a1, .ref a2, .ref a3, .int (iI mk)])), (a1, .inl (gI G, 61, .inl (fun j : Nat => iI (sz (j : Int))))), (a2, .inl (gL G, 61, .inr (.inl (fun j : Nat => lI (va (j : Int)))))), (a3, .inl (gL G, 61, .inr (.inl (fun j : Nat => lI (ke (j : Int))))))]) (wr := [(x0, .inr (11, [.ref w0, .ref a0, .ref b0, .ref y0, .ref e0, .ref f0, .ref s0, .ref g0, .ref r0, .ref t0, .ref v0, .int (iI rf)]))]) (wn := [(x0, .inr (11, [.ref w0, .ref a0, .ref b0, .ref y0, .ref e0, .ref f0, .ref s0, .ref g0, .ref r0, .ref t0, .ref v0, .int (iI rf)])), (a0, .inr (2, [.ref a1, .ref a2, .ref a3, .int (iI (mk + 1))])), (a1, .inl (gI G, 61, .inl (fun j : Nat => iI ((uF sz (mk + 1) n) (j : Int))))), (a2, .inl (gL G, 61, .inr (.inl (fun j : Nat => lI ((uF va (mk + 1) (Int.tmod v (pw n))) (j : Int)))))), (a3, .inl (gL G, 61, .inr (.inl (fun j : Nat => lI (ke (j : Int))))))]) F C (c_X1_make l G H.size a0 a1 a2 a3 sz va ke mk n v (by omega) (by omega) (by omega)) (cwV 2 hts gX10_cell_X1_make rfl rfl rfl (by decide +kernel) (by decide)) hP hD hS (q0 := 1) rfl rfl rfl [1, 2, 3, 4] [0] rfl rfl (by decide) rfl rfl hl.1 rfl (Nat.le_of_ble_eq_true rfl) dX10_cell_42 (by decide) (fun H locs hP hD hS => ?_)
        have e_9 : (rf : Int) = (sI (okC mk n) (rf + 1) rf) := by first | omega | exact (sI_t (by omega)).symm | exact (sI_f (by omega)).symm | exact (sIF_t (by omega)).symm | exact (sIF_f (by omega)).symm | (unfold aCell; (repeat (first | rw [if_pos (by omega)] | rw [if_neg (by omega)])))
        have e_10 : ((mk + 1) : Int) = (sI (okC mk n) mk (mk + 1)) := by first | omega | exact (sI_t (by omega)).symm | exact (sI_f (by omega)).symm | exact (sIF_t (by omega)).symm | exact (sIF_f (by omega)).symm | (unfold aCell; (repeat (first | rw [if_pos (by omega)] | rw [if_neg (by omega)])))
        have e_11 : ((uF sz (mk + 1) n) : Int → Int) = (sIF (okC mk n) sz (uF sz (mk + 1) n)) := by first | omega | exact (sI_t (by omega)).symm | exact (sI_f (by omega)).symm | exact (sIF_t (by omega)).symm | exact (sIF_f (by omega)).symm | (unfold aCell; (repeat (first | rw [if_pos (by omega)] | rw [if_neg (by omega)])))
        have e_12 : ((uF va (mk + 1) (Int.tmod v (pw n))) : Int → Int) = (sIF (okC mk n) va (uF va (mk + 1) (Int.tmod v (pw n)))) := by first | omega | exact (sI_t (by omega)).symm | exact (sI_f (by omega)).symm | exact (sIF_t (by omega)).symm | exact (sIF_f (by omega)).symm | (unfold aCell; (repeat (first | rw [if_pos (by omega)] | rw [if_neg (by omega)])))
        have hP : va_P G.1 vwCl [(x0, .inr (11, [.ref w0, .ref a0, .ref b0, .ref y0, .ref e0, .ref f0, .ref s0, .ref g0, .ref r0, .ref t0, .ref v0, .int (iI (sI (okC mk n) (rf + 1) rf))])), (a0, .inr (2, [.ref a1, .ref a2, .ref a3, .int (iI (sI (okC mk n) mk (mk + 1)))])), (a1, .inl (gI G, 61, .inl (fun j : Nat => iI ((sIF (okC mk n) sz (uF sz (mk + 1) n)) (j : Int))))), (a2, .inl (gL G, 61, .inr (.inl (fun j : Nat => lI ((sIF (okC mk n) va (uF va (mk + 1) (Int.tmod v (pw n)))) (j : Int)))))), (a3, .inl (gL G, 61, .inr (.inl (fun j : Nat => lI (ke (j : Int))))))] H := by rw [← e_9, ← e_10, ← e_11, ← e_12]; exact hP
        have hD : va_D A [(x0, .inr (11, [.ref w0, .ref a0, .ref b0, .ref y0, .ref e0, .ref f0, .ref s0, .ref g0, .ref r0, .ref t0, .ref v0, .int (iI (sI (okC mk n) (rf + 1) rf))])), (a0, .inr (2, [.ref a1, .ref a2, .ref a3, .int (iI (sI (okC mk n) mk (mk + 1)))])), (a1, .inl (gI G, 61, .inl (fun j : Nat => iI ((sIF (okC mk n) sz (uF sz (mk + 1) n)) (j : Int))))), (a2, .inl (gL G, 61, .inr (.inl (fun j : Nat => lI ((sIF (okC mk n) va (uF va (mk + 1) (Int.tmod v (pw n)))) (j : Int)))))), (a3, .inl (gL G, 61, .inr (.inl (fun j : Nat => lI (ke (j : Int))))))] := by rw [← e_9, ← e_10, ← e_11, ← e_12]; exact hD
        have r_13 : ((mk + 1) : Int) = (aCell mk n) := by first | omega | exact (sI_t (by omega)).symm | exact (sI_f (by omega)).symm | exact (sIF_t (by omega)).symm | exact (sIF_f (by omega)).symm | (unfold aCell; (repeat (first | rw [if_pos (by omega)] | rw [if_neg (by omega)])))
        rw [r_13]
        exact hret _ ls H locs dX10_cell_45 hP hD hS
      · skip
        refine lv_aload_n hx hb dX10_cell_30 rfl (lv_at hl 0 rfl) ?_
        refine lv_iconst (v := iI (-1)) hx hb dX10_cell_31 rfl ?_
        refine z_cVi (RV := (-1)) (As := [.int (iI (-1))]) (rest := []) (wc := [(x0, .inr (11, [.ref w0, .ref a0, .ref b0, .ref y0, .ref e0, .ref f0, .ref s0, .ref g0, .ref r0, .ref t0, .ref v0, .int (iI rf)]))]) (wr := [(a0, .inr (2, [.ref a1, .ref a2, .ref a3, .int (iI mk)])), (a1, .inl (gI G, 61, .inl (fun j : Nat => iI (sz (j : Int))))), (a2, .inl (gL G, 61, .inr (.inl (fun j : Nat => lI (va (j : Int)))))), (a3, .inl (gL G, 61, .inr (.inl (fun j : Nat => lI (ke (j : Int))))))]) (wn := [(a0, .inr (2, [.ref a1, .ref a2, .ref a3, .int (iI mk)])), (a1, .inl (gI G, 61, .inl (fun j : Nat => iI (sz (j : Int))))), (a2, .inl (gL G, 61, .inr (.inl (fun j : Nat => lI (va (j : Int)))))), (a3, .inl (gL G, 61, .inr (.inl (fun j : Nat => lI (ke (j : Int)))))), (x0, .inr (11, [.ref w0, .ref a0, .ref b0, .ref y0, .ref e0, .ref f0, .ref s0, .ref g0, .ref r0, .ref t0, .ref v0, .int (iI (rf + 1))]))]) F C (c_X10_refuse l G H.size x0 w0 a0 b0 y0 e0 f0 s0 g0 r0 t0 v0 rf (-1) ) (cwV 1 hts gX10_cell_X10_refuse rfl rfl rfl (by decide +kernel) (by decide)) hP hD hS (q0 := 0) rfl rfl rfl [0] [1, 2, 3, 4] rfl rfl (by decide) rfl rfl hl.1 rfl (Nat.le_of_ble_eq_true rfl) dX10_cell_32 (by decide) (fun H locs hP hD hS => ?_)
        have hP : va_P G.1 vwCl [(x0, .inr (11, [.ref w0, .ref a0, .ref b0, .ref y0, .ref e0, .ref f0, .ref s0, .ref g0, .ref r0, .ref t0, .ref v0, .int (iI (rf + 1))])), (a0, .inr (2, [.ref a1, .ref a2, .ref a3, .int (iI mk)])), (a1, .inl (gI G, 61, .inl (fun j : Nat => iI (sz (j : Int))))), (a2, .inl (gL G, 61, .inr (.inl (fun j : Nat => lI (va (j : Int)))))), (a3, .inl (gL G, 61, .inr (.inl (fun j : Nat => lI (ke (j : Int))))))] H := hP.sub [4, 0, 1, 2, 3] rfl
        have hD : va_D A [(x0, .inr (11, [.ref w0, .ref a0, .ref b0, .ref y0, .ref e0, .ref f0, .ref s0, .ref g0, .ref r0, .ref t0, .ref v0, .int (iI (rf + 1))])), (a0, .inr (2, [.ref a1, .ref a2, .ref a3, .int (iI mk)])), (a1, .inl (gI G, 61, .inl (fun j : Nat => iI (sz (j : Int))))), (a2, .inl (gL G, 61, .inr (.inl (fun j : Nat => lI (va (j : Int)))))), (a3, .inl (gL G, 61, .inr (.inl (fun j : Nat => lI (ke (j : Int))))))] := hD.sub [4, 0, 1, 2, 3] (by decide) rfl
        have e_14 : ((rf + 1) : Int) = (sI (okC mk n) (rf + 1) rf) := by first | omega | exact (sI_t (by omega)).symm | exact (sI_f (by omega)).symm | exact (sIF_t (by omega)).symm | exact (sIF_f (by omega)).symm | (unfold aCell; (repeat (first | rw [if_pos (by omega)] | rw [if_neg (by omega)])))
        have e_15 : (mk : Int) = (sI (okC mk n) mk (mk + 1)) := by first | omega | exact (sI_t (by omega)).symm | exact (sI_f (by omega)).symm | exact (sIF_t (by omega)).symm | exact (sIF_f (by omega)).symm | (unfold aCell; (repeat (first | rw [if_pos (by omega)] | rw [if_neg (by omega)])))
        have e_16 : (sz : Int → Int) = (sIF (okC mk n) sz (uF sz (mk + 1) n)) := by first | omega | exact (sI_t (by omega)).symm | exact (sI_f (by omega)).symm | exact (sIF_t (by omega)).symm | exact (sIF_f (by omega)).symm | (unfold aCell; (repeat (first | rw [if_pos (by omega)] | rw [if_neg (by omega)])))
        have e_17 : (va : Int → Int) = (sIF (okC mk n) va (uF va (mk + 1) (Int.tmod v (pw n)))) := by first | omega | exact (sI_t (by omega)).symm | exact (sI_f (by omega)).symm | exact (sIF_t (by omega)).symm | exact (sIF_f (by omega)).symm | (unfold aCell; (repeat (first | rw [if_pos (by omega)] | rw [if_neg (by omega)])))
        have hP : va_P G.1 vwCl [(x0, .inr (11, [.ref w0, .ref a0, .ref b0, .ref y0, .ref e0, .ref f0, .ref s0, .ref g0, .ref r0, .ref t0, .ref v0, .int (iI (sI (okC mk n) (rf + 1) rf))])), (a0, .inr (2, [.ref a1, .ref a2, .ref a3, .int (iI (sI (okC mk n) mk (mk + 1)))])), (a1, .inl (gI G, 61, .inl (fun j : Nat => iI ((sIF (okC mk n) sz (uF sz (mk + 1) n)) (j : Int))))), (a2, .inl (gL G, 61, .inr (.inl (fun j : Nat => lI ((sIF (okC mk n) va (uF va (mk + 1) (Int.tmod v (pw n)))) (j : Int)))))), (a3, .inl (gL G, 61, .inr (.inl (fun j : Nat => lI (ke (j : Int))))))] H := by rw [← e_14, ← e_15, ← e_16, ← e_17]; exact hP
        have hD : va_D A [(x0, .inr (11, [.ref w0, .ref a0, .ref b0, .ref y0, .ref e0, .ref f0, .ref s0, .ref g0, .ref r0, .ref t0, .ref v0, .int (iI (sI (okC mk n) (rf + 1) rf))])), (a0, .inr (2, [.ref a1, .ref a2, .ref a3, .int (iI (sI (okC mk n) mk (mk + 1)))])), (a1, .inl (gI G, 61, .inl (fun j : Nat => iI ((sIF (okC mk n) sz (uF sz (mk + 1) n)) (j : Int))))), (a2, .inl (gL G, 61, .inr (.inl (fun j : Nat => lI ((sIF (okC mk n) va (uF va (mk + 1) (Int.tmod v (pw n)))) (j : Int)))))), (a3, .inl (gL G, 61, .inr (.inl (fun j : Nat => lI (ke (j : Int))))))] := by rw [← e_14, ← e_15, ← e_16, ← e_17]; exact hD
        have r_18 : ((-1) : Int) = (aCell mk n) := by first | omega | exact (sI_t (by omega)).symm | exact (sI_f (by omega)).symm | exact (sIF_t (by omega)).symm | exact (sIF_f (by omega)).symm | (unfold aCell; (repeat (first | rw [if_pos (by omega)] | rw [if_neg (by omega)])))
        rw [r_18]
        exact hret _ ls H locs dX10_cell_35 hP hD hS
    · skip
      refine lv_aload_n hx hb dX10_cell_11 rfl (lv_at hl 0 rfl) ?_
      refine lv_bipush (v := iI (-4)) hx hb dX10_cell_12 (by decide) ?_
      refine z_cVi (RV := (-4)) (As := [.int (iI (-4))]) (rest := []) (wc := [(x0, .inr (11, [.ref w0, .ref a0, .ref b0, .ref y0, .ref e0, .ref f0, .ref s0, .ref g0, .ref r0, .ref t0, .ref v0, .int (iI rf)]))]) (wr := [(a0, .inr (2, [.ref a1, .ref a2, .ref a3, .int (iI mk)])), (a1, .inl (gI G, 61, .inl (fun j : Nat => iI (sz (j : Int))))), (a2, .inl (gL G, 61, .inr (.inl (fun j : Nat => lI (va (j : Int)))))), (a3, .inl (gL G, 61, .inr (.inl (fun j : Nat => lI (ke (j : Int))))))]) (wn := [(a0, .inr (2, [.ref a1, .ref a2, .ref a3, .int (iI mk)])), (a1, .inl (gI G, 61, .inl (fun j : Nat => iI (sz (j : Int))))), (a2, .inl (gL G, 61, .inr (.inl (fun j : Nat => lI (va (j : Int)))))), (a3, .inl (gL G, 61, .inr (.inl (fun j : Nat => lI (ke (j : Int)))))), (x0, .inr (11, [.ref w0, .ref a0, .ref b0, .ref y0, .ref e0, .ref f0, .ref s0, .ref g0, .ref r0, .ref t0, .ref v0, .int (iI (rf + 1))]))]) F C (c_X10_refuse l G H.size x0 w0 a0 b0 y0 e0 f0 s0 g0 r0 t0 v0 rf (-4) ) (cwV 1 hts gX10_cell_X10_refuse rfl rfl rfl (by decide +kernel) (by decide)) hP hD hS (q0 := 0) rfl rfl rfl [0] [1, 2, 3, 4] rfl rfl (by decide) rfl rfl hl.1 rfl (Nat.le_of_ble_eq_true rfl) dX10_cell_14 (by decide) (fun H locs hP hD hS => ?_)
      have hP : va_P G.1 vwCl [(x0, .inr (11, [.ref w0, .ref a0, .ref b0, .ref y0, .ref e0, .ref f0, .ref s0, .ref g0, .ref r0, .ref t0, .ref v0, .int (iI (rf + 1))])), (a0, .inr (2, [.ref a1, .ref a2, .ref a3, .int (iI mk)])), (a1, .inl (gI G, 61, .inl (fun j : Nat => iI (sz (j : Int))))), (a2, .inl (gL G, 61, .inr (.inl (fun j : Nat => lI (va (j : Int)))))), (a3, .inl (gL G, 61, .inr (.inl (fun j : Nat => lI (ke (j : Int))))))] H := hP.sub [4, 0, 1, 2, 3] rfl
      have hD : va_D A [(x0, .inr (11, [.ref w0, .ref a0, .ref b0, .ref y0, .ref e0, .ref f0, .ref s0, .ref g0, .ref r0, .ref t0, .ref v0, .int (iI (rf + 1))])), (a0, .inr (2, [.ref a1, .ref a2, .ref a3, .int (iI mk)])), (a1, .inl (gI G, 61, .inl (fun j : Nat => iI (sz (j : Int))))), (a2, .inl (gL G, 61, .inr (.inl (fun j : Nat => lI (va (j : Int)))))), (a3, .inl (gL G, 61, .inr (.inl (fun j : Nat => lI (ke (j : Int))))))] := hD.sub [4, 0, 1, 2, 3] (by decide) rfl
      have e_19 : ((rf + 1) : Int) = (sI (okC mk n) (rf + 1) rf) := by first | omega | exact (sI_t (by omega)).symm | exact (sI_f (by omega)).symm | exact (sIF_t (by omega)).symm | exact (sIF_f (by omega)).symm | (unfold aCell; (repeat (first | rw [if_pos (by omega)] | rw [if_neg (by omega)])))
      have e_20 : (mk : Int) = (sI (okC mk n) mk (mk + 1)) := by first | omega | exact (sI_t (by omega)).symm | exact (sI_f (by omega)).symm | exact (sIF_t (by omega)).symm | exact (sIF_f (by omega)).symm | (unfold aCell; (repeat (first | rw [if_pos (by omega)] | rw [if_neg (by omega)])))
      have e_21 : (sz : Int → Int) = (sIF (okC mk n) sz (uF sz (mk + 1) n)) := by first | omega | exact (sI_t (by omega)).symm | exact (sI_f (by omega)).symm | exact (sIF_t (by omega)).symm | exact (sIF_f (by omega)).symm | (unfold aCell; (repeat (first | rw [if_pos (by omega)] | rw [if_neg (by omega)])))
      have e_22 : (va : Int → Int) = (sIF (okC mk n) va (uF va (mk + 1) (Int.tmod v (pw n)))) := by first | omega | exact (sI_t (by omega)).symm | exact (sI_f (by omega)).symm | exact (sIF_t (by omega)).symm | exact (sIF_f (by omega)).symm | (unfold aCell; (repeat (first | rw [if_pos (by omega)] | rw [if_neg (by omega)])))
      have hP : va_P G.1 vwCl [(x0, .inr (11, [.ref w0, .ref a0, .ref b0, .ref y0, .ref e0, .ref f0, .ref s0, .ref g0, .ref r0, .ref t0, .ref v0, .int (iI (sI (okC mk n) (rf + 1) rf))])), (a0, .inr (2, [.ref a1, .ref a2, .ref a3, .int (iI (sI (okC mk n) mk (mk + 1)))])), (a1, .inl (gI G, 61, .inl (fun j : Nat => iI ((sIF (okC mk n) sz (uF sz (mk + 1) n)) (j : Int))))), (a2, .inl (gL G, 61, .inr (.inl (fun j : Nat => lI ((sIF (okC mk n) va (uF va (mk + 1) (Int.tmod v (pw n)))) (j : Int)))))), (a3, .inl (gL G, 61, .inr (.inl (fun j : Nat => lI (ke (j : Int))))))] H := by rw [← e_19, ← e_20, ← e_21, ← e_22]; exact hP
      have hD : va_D A [(x0, .inr (11, [.ref w0, .ref a0, .ref b0, .ref y0, .ref e0, .ref f0, .ref s0, .ref g0, .ref r0, .ref t0, .ref v0, .int (iI (sI (okC mk n) (rf + 1) rf))])), (a0, .inr (2, [.ref a1, .ref a2, .ref a3, .int (iI (sI (okC mk n) mk (mk + 1)))])), (a1, .inl (gI G, 61, .inl (fun j : Nat => iI ((sIF (okC mk n) sz (uF sz (mk + 1) n)) (j : Int))))), (a2, .inl (gL G, 61, .inr (.inl (fun j : Nat => lI ((sIF (okC mk n) va (uF va (mk + 1) (Int.tmod v (pw n)))) (j : Int)))))), (a3, .inl (gL G, 61, .inr (.inl (fun j : Nat => lI (ke (j : Int))))))] := by rw [← e_19, ← e_20, ← e_21, ← e_22]; exact hD
      have r_23 : ((-4) : Int) = (aCell mk n) := by first | omega | exact (sI_t (by omega)).symm | exact (sI_f (by omega)).symm | exact (sIF_t (by omega)).symm | exact (sIF_f (by omega)).symm | (unfold aCell; (repeat (first | rw [if_pos (by omega)] | rw [if_neg (by omega)])))
      rw [r_23]
      exact hret _ ls H locs dX10_cell_17 hP hD hS

set_option maxHeartbeats 4000000 in
set_option maxRecDepth 100000 in
theorem c_X10_lacksPart (l : Launch) (G : Gx) (zz : Nat) (x0 w0 y0 e0 f0 s0 g0 r0 t0 v0 : Nat) (rf : Int) (a0 a1 a2 a3 : Nat) (sz va ke : Int → Int) (mk : Int) (b0 b1 b2 b3 : Nat) (ki fi se : Int → Int) (nk : Int) (kd x y : Int) (h1 : 0 ≤ mk ∧ mk ≤ 60) (h2 : 0 ≤ nk ∧ nk ≤ 200) (h3 : -2147483648 ≤ kd ∧ kd < 2147483648) (h4 : -2147483648 ≤ x ∧ x < 2147483648) (h5 : -2147483648 ≤ y ∧ y < 2147483648) : Ci l yX10_lacksPart wsX10_lacksPart (rz 1 21) G [.ref x0, .int (iI kd), .int (iI x), .int (iI y)] [(x0, .inr (11, [.ref w0, .ref a0, .ref b0, .ref y0, .ref e0, .ref f0, .ref s0, .ref g0, .ref r0, .ref t0, .ref v0, .int (iI rf)])), (a0, .inr (2, [.ref a1, .ref a2, .ref a3, .int (iI mk)])), (a1, .inl (gI G, 61, .inl (fun j : Nat => iI (sz (j : Int))))), (a2, .inl (gL G, 61, .inr (.inl (fun j : Nat => lI (va (j : Int)))))), (a3, .inl (gL G, 61, .inr (.inl (fun j : Nat => lI (ke (j : Int)))))), (b0, .inr (4, [.ref b1, .ref b2, .ref b3, .int (iI nk)])), (b1, .inl (gI G, 201, .inl (fun j : Nat => iI (ki (j : Int))))), (b2, .inl (gI G, 201, .inl (fun j : Nat => iI (fi (j : Int))))), (b3, .inl (gI G, 201, .inl (fun j : Nat => iI (se (j : Int)))))] zz (if okN mk nk kd x y then 0 else 1) [(x0, .inr (11, [.ref w0, .ref a0, .ref b0, .ref y0, .ref e0, .ref f0, .ref s0, .ref g0, .ref r0, .ref t0, .ref v0, .int (iI rf)])), (a0, .inr (2, [.ref a1, .ref a2, .ref a3, .int (iI mk)])), (a1, .inl (gI G, 61, .inl (fun j : Nat => iI (sz (j : Int))))), (a2, .inl (gL G, 61, .inr (.inl (fun j : Nat => lI (va (j : Int)))))), (a3, .inl (gL G, 61, .inr (.inl (fun j : Nat => lI (ke (j : Int)))))), (b0, .inr (4, [.ref b1, .ref b2, .ref b3, .int (iI nk)])), (b1, .inl (gI G, 201, .inl (fun j : Nat => iI (ki (j : Int))))), (b2, .inl (gI G, 201, .inl (fun j : Nat => iI (fi (j : Int))))), (b3, .inl (gI G, 201, .inl (fun j : Nat => iI (se (j : Int)))))] := by
  refine met_i (cc := cX10_lacksPart) (maxL := 4) (ret := (some .boolean)) (by decide) rfl (Nat.le_of_ble_eq_true rfl) rfl (by (repeat (any_goals split)) <;> decide) ⟨rfl, rfl⟩ ?_
  intro p e s m below meth c A Q F C hP hD hS hret ls hl
  obtain ⟨hx, hb, hml, hown, hts⟩ := id F
  obtain ⟨hK, hA, hZ, hT, hN⟩ := id C
  have hl : lv_has ls 4 [(0, .ref x0), (1, .int (iI kd)), (2, .int (iI x)), (3, .int (iI y))] := hl
  obtain ⟨H, hH⟩ : ∃ H, H = s.heap := ⟨_, rfl⟩
  obtain ⟨locs, hlocs⟩ : ∃ l : List Loc, l = [] := ⟨_, rfl⟩
  have hS : va_S A s.heap H locs := by rw [hH, hlocs]; exact hS
  have hP : va_P G.1 vwCl [(x0, .inr (11, [.ref w0, .ref a0, .ref b0, .ref y0, .ref e0, .ref f0, .ref s0, .ref g0, .ref r0, .ref t0, .ref v0, .int (iI rf)])), (a0, .inr (2, [.ref a1, .ref a2, .ref a3, .int (iI mk)])), (a1, .inl (gI G, 61, .inl (fun j : Nat => iI (sz (j : Int))))), (a2, .inl (gL G, 61, .inr (.inl (fun j : Nat => lI (va (j : Int)))))), (a3, .inl (gL G, 61, .inr (.inl (fun j : Nat => lI (ke (j : Int)))))), (b0, .inr (4, [.ref b1, .ref b2, .ref b3, .int (iI nk)])), (b1, .inl (gI G, 201, .inl (fun j : Nat => iI (ki (j : Int))))), (b2, .inl (gI G, 201, .inl (fun j : Nat => iI (fi (j : Int))))), (b3, .inl (gI G, 201, .inl (fun j : Nat => iI (se (j : Int)))))] H := by rw [hH]; exact hP
  suffices hgo : W p l e (rz 1 21) s m [.ref x0, .int (iI kd), .int (iI x), .int (iI y)].toArray below meth c H locs 0 0 Q (F0 m 0 ls []) by rw [hH, hlocs] at hgo; exact hgo
  have hiX10 : ∀ w ∈ wsX100, w ∈ wsX10_lacksPart := by decide +kernel
  have hw0 := hts (Cond.fieldLink RX10 86 "PlainCobol" "cells" "LPlainCobol$Cells;") (List.mem_of_getElem? (i := 1) rfl)
  have hw1 := hts (Cond.fieldLink RX10 91 "PlainCobol" "nodes" "LPlainCobol$Nodes;") (List.mem_of_getElem? (i := 2) rfl)
  refine lv_iload_n hx hb dX10_lacksPart_0 rfl (lv_at hl 1 rfl) ?_
  by_cases k_1 : kd = 0
  · skip
    refine z_tswIn (tgt := 68) hx hb dX10_lacksPart_1 (by omega) 0 k_1 (by decide) (off := 67) rfl (by decide) ?_
    refine lv_iconst (v := iI (0)) hx hb dX10_lacksPart_68 rfl ?_
    have r_2 : (0 : Int) = (if okN mk nk kd x y then 0 else 1) := by first | exact (if_pos (by omega)).symm | exact (if_neg (by omega)).symm
    rw [r_2]
    exact hret _ ls H locs dX10_lacksPart_69 hP hD hS
  by_cases k_3 : kd = 1
  · skip
    refine z_tswIn (tgt := 70) hx hb dX10_lacksPart_1 (by omega) 1 k_3 (by decide) (off := 69) rfl (by decide) ?_
    refine lv_aload_n hx hb dX10_lacksPart_70 rfl (lv_at hl 0 rfl) ?_
    refine va_get (D := G.1) (ci := 11) (v := .ref a0) (C := RX10) (T := TX10) (N := 12) hx hb hts hiX10 hown hK hP 0 rfl rfl 1 (by decide) hw0 (fun _ h9 => h9) rfl dX10_lacksPart_71 ?_
    refine lv_iload_n hx hb dX10_lacksPart_74 rfl (lv_at hl 2 rfl) ?_
    refine z_cVi (RV := (if 1 ≤ x ∧ x ≤ mk then 1 else 0)) (As := [.int (iI x)]) (rest := []) (wc := [(a0, .inr (2, [.ref a1, .ref a2, .ref a3, .int (iI mk)])), (a1, .inl (gI G, 61, .inl (fun j : Nat => iI (sz (j : Int))))), (a2, .inl (gL G, 61, .inr (.inl (fun j : Nat => lI (va (j : Int)))))), (a3, .inl (gL G, 61, .inr (.inl (fun j : Nat => lI (ke (j : Int))))))]) (wr := [(x0, .inr (11, [.ref w0, .ref a0, .ref b0, .ref y0, .ref e0, .ref f0, .ref s0, .ref g0, .ref r0, .ref t0, .ref v0, .int (iI rf)])), (b0, .inr (4, [.ref b1, .ref b2, .ref b3, .int (iI nk)])), (b1, .inl (gI G, 201, .inl (fun j : Nat => iI (ki (j : Int))))), (b2, .inl (gI G, 201, .inl (fun j : Nat => iI (fi (j : Int))))), (b3, .inl (gI G, 201, .inl (fun j : Nat => iI (se (j : Int)))))]) (wn := [(x0, .inr (11, [.ref w0, .ref a0, .ref b0, .ref y0, .ref e0, .ref f0, .ref s0, .ref g0, .ref r0, .ref t0, .ref v0, .int (iI rf)])), (b0, .inr (4, [.ref b1, .ref b2, .ref b3, .int (iI nk)])), (b1, .inl (gI G, 201, .inl (fun j : Nat => iI (ki (j : Int))))), (b2, .inl (gI G, 201, .inl (fun j : Nat => iI (fi (j : Int))))), (b3, .inl (gI G, 201, .inl (fun j : Nat => iI (se (j : Int))))), (a0, .inr (2, [.ref a1, .ref a2, .ref a3, .int (iI mk)])), (a1, .inl (gI G, 61, .inl (fun j : Nat => iI (sz (j : Int))))), (a2, .inl (gL G, 61, .inr (.inl (fun j : Nat => lI (va (j : Int)))))), (a3, .inl (gL G, 61, .inr (.inl (fun j : Nat => lI (ke (j : Int))))))]) F C (c_X1_has l G H.size a0 a1 a2 a3 sz va ke mk x (by omega) (by omega)) (cwV 1 hts gX10_lacksPart_X1_has rfl rfl rfl (by decide +kernel) (by decide)) hP hD hS (q0 := 1) rfl rfl rfl [1, 2, 3, 4] [0, 5, 6, 7, 8] rfl rfl (by decide) rfl rfl hl.1 rfl (Nat.le_of_ble_eq_true rfl) dX10_lacksPart_75 (by decide) (fun H locs hP hD hS => ?_)
    refine z_if_eq (tgt := 92) hx hb dX10_lacksPart_78 (by decide) (by split <;> omega) (fun c_4 => ?_) (fun c_4 => ?_)
    · skip
      have qc_4 := if_eq0 c_4
      refine lv_iconst (v := iI (1)) hx hb dX10_lacksPart_92 rfl ?_
      refine lv_goto (tgt := 97) hx hb dX10_lacksPart_93 (by decide) ?_
      have hP : va_P G.1 vwCl [(x0, .inr (11, [.ref w0, .ref a0, .ref b0, .ref y0, .ref e0, .ref f0, .ref s0, .ref g0, .ref r0, .ref t0, .ref v0, .int (iI rf)])), (a0, .inr (2, [.ref a1, .ref a2, .ref a3, .int (iI mk)])), (a1, .inl (gI G, 61, .inl (fun j : Nat => iI (sz (j : Int))))), (a2, .inl (gL G, 61, .inr (.inl (fun j : Nat => lI (va (j : Int)))))), (a3, .inl (gL G, 61, .inr (.inl (fun j : Nat => lI (ke (j : Int)))))), (b0, .inr (4, [.ref b1, .ref b2, .ref b3, .int (iI nk)])), (b1, .inl (gI G, 201, .inl (fun j : Nat => iI (ki (j : Int))))), (b2, .inl (gI G, 201, .inl (fun j : Nat => iI (fi (j : Int))))), (b3, .inl (gI G, 201, .inl (fun j : Nat => iI (se (j : Int)))))] H := hP.sub [0, 5, 6, 7, 8, 1, 2, 3, 4] rfl
      have hD : va_D A [(x0, .inr (11, [.ref w0, .ref a0, .ref b0, .ref y0, .ref e0, .ref f0, .ref s0, .ref g0, .ref r0, .ref t0, .ref v0, .int (iI rf)])), (a0, .inr (2, [.ref a1, .ref a2, .ref a3, .int (iI mk)])), (a1, .inl (gI G, 61, .inl (fun j : Nat => iI (sz (j : Int))))), (a2, .inl (gL G, 61, .inr (.inl (fun j : Nat => lI (va (j : Int)))))), (a3, .inl (gL G, 61, .inr (.inl (fun j : Nat => lI (ke (j : Int)))))), (b0, .inr (4, [.ref b1, .ref b2, .ref b3, .int (iI nk)])), (b1, .inl (gI G, 201, .inl (fun j : Nat => iI (ki (j : Int))))), (b2, .inl (gI G, 201, .inl (fun j : Nat => iI (fi (j : Int))))), (b3, .inl (gI G, 201, .inl (fun j : Nat => iI (se (j : Int)))))] := hD.sub [0, 5, 6, 7, 8, 1, 2, 3, 4] (by decide) rfl
      have r_5 : (1 : Int) = (if okN mk nk kd x y then 0 else 1) := by first | exact (if_pos (by omega)).symm | exact (if_neg (by omega)).symm
      rw [r_5]
      exact hret _ ls H locs dX10_lacksPart_97 hP hD hS
    · skip
      have qc_4 := if_ne0 c_4
      refine lv_aload_n hx hb dX10_lacksPart_81 rfl (lv_at hl 0 rfl) ?_
      refine va_get (D := G.1) (ci := 11) (v := .ref a0) (C := RX10) (T := TX10) (N := 12) hx hb hts hiX10 hown hK hP 0 rfl rfl 1 (by decide) hw0 (fun _ h9 => h9) rfl dX10_lacksPart_82 ?_
      refine lv_iload_n hx hb dX10_lacksPart_85 rfl (lv_at hl 3 rfl) ?_
      refine z_cVi (RV := (if 1 ≤ y ∧ y ≤ mk then 1 else 0)) (As := [.int (iI y)]) (rest := []) (wc := [(a0, .inr (2, [.ref a1, .ref a2, .ref a3, .int (iI mk)])), (a1, .inl (gI G, 61, .inl (fun j : Nat => iI (sz (j : Int))))), (a2, .inl (gL G, 61, .inr (.inl (fun j : Nat => lI (va (j : Int)))))), (a3, .inl (gL G, 61, .inr (.inl (fun j : Nat => lI (ke (j : Int))))))]) (wr := [(x0, .inr (11, [.ref w0, .ref a0, .ref b0, .ref y0, .ref e0, .ref f0, .ref s0, .ref g0, .ref r0, .ref t0, .ref v0, .int (iI rf)])), (b0, .inr (4, [.ref b1, .ref b2, .ref b3, .int (iI nk)])), (b1, .inl (gI G, 201, .inl (fun j : Nat => iI (ki (j : Int))))), (b2, .inl (gI G, 201, .inl (fun j : Nat => iI (fi (j : Int))))), (b3, .inl (gI G, 201, .inl (fun j : Nat => iI (se (j : Int)))))]) (wn := [(x0, .inr (11, [.ref w0, .ref a0, .ref b0, .ref y0, .ref e0, .ref f0, .ref s0, .ref g0, .ref r0, .ref t0, .ref v0, .int (iI rf)])), (b0, .inr (4, [.ref b1, .ref b2, .ref b3, .int (iI nk)])), (b1, .inl (gI G, 201, .inl (fun j : Nat => iI (ki (j : Int))))), (b2, .inl (gI G, 201, .inl (fun j : Nat => iI (fi (j : Int))))), (b3, .inl (gI G, 201, .inl (fun j : Nat => iI (se (j : Int))))), (a0, .inr (2, [.ref a1, .ref a2, .ref a3, .int (iI mk)])), (a1, .inl (gI G, 61, .inl (fun j : Nat => iI (sz (j : Int))))), (a2, .inl (gL G, 61, .inr (.inl (fun j : Nat => lI (va (j : Int)))))), (a3, .inl (gL G, 61, .inr (.inl (fun j : Nat => lI (ke (j : Int))))))]) F C (c_X1_has l G H.size a0 a1 a2 a3 sz va ke mk y (by omega) (by omega)) (cwV 1 hts gX10_lacksPart_X1_has rfl rfl rfl (by decide +kernel) (by decide)) hP hD hS (q0 := 5) rfl rfl rfl [5, 6, 7, 8] [0, 1, 2, 3, 4] rfl rfl (by decide) rfl rfl hl.1 rfl (Nat.le_of_ble_eq_true rfl) dX10_lacksPart_86 (by decide) (fun H locs hP hD hS => ?_)
      refine z_if_ne (tgt := 96) hx hb dX10_lacksPart_89 (by decide) (by split <;> omega) (fun c_6 => ?_) (fun c_6 => ?_)
      · skip
        have qc_6 := if_ne0 c_6
        refine lv_iconst (v := iI (0)) hx hb dX10_lacksPart_96 rfl ?_
        have hP : va_P G.1 vwCl [(x0, .inr (11, [.ref w0, .ref a0, .ref b0, .ref y0, .ref e0, .ref f0, .ref s0, .ref g0, .ref r0, .ref t0, .ref v0, .int (iI rf)])), (a0, .inr (2, [.ref a1, .ref a2, .ref a3, .int (iI mk)])), (a1, .inl (gI G, 61, .inl (fun j : Nat => iI (sz (j : Int))))), (a2, .inl (gL G, 61, .inr (.inl (fun j : Nat => lI (va (j : Int)))))), (a3, .inl (gL G, 61, .inr (.inl (fun j : Nat => lI (ke (j : Int)))))), (b0, .inr (4, [.ref b1, .ref b2, .ref b3, .int (iI nk)])), (b1, .inl (gI G, 201, .inl (fun j : Nat => iI (ki (j : Int))))), (b2, .inl (gI G, 201, .inl (fun j : Nat => iI (fi (j : Int))))), (b3, .inl (gI G, 201, .inl (fun j : Nat => iI (se (j : Int)))))] H := hP.sub [0, 5, 6, 7, 8, 1, 2, 3, 4] rfl
        have hD : va_D A [(x0, .inr (11, [.ref w0, .ref a0, .ref b0, .ref y0, .ref e0, .ref f0, .ref s0, .ref g0, .ref r0, .ref t0, .ref v0, .int (iI rf)])), (a0, .inr (2, [.ref a1, .ref a2, .ref a3, .int (iI mk)])), (a1, .inl (gI G, 61, .inl (fun j : Nat => iI (sz (j : Int))))), (a2, .inl (gL G, 61, .inr (.inl (fun j : Nat => lI (va (j : Int)))))), (a3, .inl (gL G, 61, .inr (.inl (fun j : Nat => lI (ke (j : Int)))))), (b0, .inr (4, [.ref b1, .ref b2, .ref b3, .int (iI nk)])), (b1, .inl (gI G, 201, .inl (fun j : Nat => iI (ki (j : Int))))), (b2, .inl (gI G, 201, .inl (fun j : Nat => iI (fi (j : Int))))), (b3, .inl (gI G, 201, .inl (fun j : Nat => iI (se (j : Int)))))] := hD.sub [0, 5, 6, 7, 8, 1, 2, 3, 4] (by decide) rfl
        have r_7 : (0 : Int) = (if okN mk nk kd x y then 0 else 1) := by first | exact (if_pos (by omega)).symm | exact (if_neg (by omega)).symm
        rw [r_7]
        exact hret _ ls H locs dX10_lacksPart_97 hP hD hS
      · skip
        have qc_6 := if_eq0 c_6
        refine lv_iconst (v := iI (1)) hx hb dX10_lacksPart_92 rfl ?_
        refine lv_goto (tgt := 97) hx hb dX10_lacksPart_93 (by decide) ?_
        have hP : va_P G.1 vwCl [(x0, .inr (11, [.ref w0, .ref a0, .ref b0, .ref y0, .ref e0, .ref f0, .ref s0, .ref g0, .ref r0, .ref t0, .ref v0, .int (iI rf)])), (a0, .inr (2, [.ref a1, .ref a2, .ref a3, .int (iI mk)])), (a1, .inl (gI G, 61, .inl (fun j : Nat => iI (sz (j : Int))))), (a2, .inl (gL G, 61, .inr (.inl (fun j : Nat => lI (va (j : Int)))))), (a3, .inl (gL G, 61, .inr (.inl (fun j : Nat => lI (ke (j : Int)))))), (b0, .inr (4, [.ref b1, .ref b2, .ref b3, .int (iI nk)])), (b1, .inl (gI G, 201, .inl (fun j : Nat => iI (ki (j : Int))))), (b2, .inl (gI G, 201, .inl (fun j : Nat => iI (fi (j : Int))))), (b3, .inl (gI G, 201, .inl (fun j : Nat => iI (se (j : Int)))))] H := hP.sub [0, 5, 6, 7, 8, 1, 2, 3, 4] rfl
        have hD : va_D A [(x0, .inr (11, [.ref w0, .ref a0, .ref b0, .ref y0, .ref e0, .ref f0, .ref s0, .ref g0, .ref r0, .ref t0, .ref v0, .int (iI rf)])), (a0, .inr (2, [.ref a1, .ref a2, .ref a3, .int (iI mk)])), (a1, .inl (gI G, 61, .inl (fun j : Nat => iI (sz (j : Int))))), (a2, .inl (gL G, 61, .inr (.inl (fun j : Nat => lI (va (j : Int)))))), (a3, .inl (gL G, 61, .inr (.inl (fun j : Nat => lI (ke (j : Int)))))), (b0, .inr (4, [.ref b1, .ref b2, .ref b3, .int (iI nk)])), (b1, .inl (gI G, 201, .inl (fun j : Nat => iI (ki (j : Int))))), (b2, .inl (gI G, 201, .inl (fun j : Nat => iI (fi (j : Int))))), (b3, .inl (gI G, 201, .inl (fun j : Nat => iI (se (j : Int)))))] := hD.sub [0, 5, 6, 7, 8, 1, 2, 3, 4] (by decide) rfl
        have r_8 : (1 : Int) = (if okN mk nk kd x y then 0 else 1) := by first | exact (if_pos (by omega)).symm | exact (if_neg (by omega)).symm
        rw [r_8]
        exact hret _ ls H locs dX10_lacksPart_97 hP hD hS
  by_cases k_9 : kd = 2
  · skip
    refine z_tswIn (tgt := 70) hx hb dX10_lacksPart_1 (by omega) 2 k_9 (by decide) (off := 69) rfl (by decide) ?_
    refine lv_aload_n hx hb dX10_lacksPart_70 rfl (lv_at hl 0 rfl) ?_
    refine va_get (D := G.1) (ci := 11) (v := .ref a0) (C := RX10) (T := TX10) (N := 12) hx hb hts hiX10 hown hK hP 0 rfl rfl 1 (by decide) hw0 (fun _ h9 => h9) rfl dX10_lacksPart_71 ?_
    refine lv_iload_n hx hb dX10_lacksPart_74 rfl (lv_at hl 2 rfl) ?_
    refine z_cVi (RV := (if 1 ≤ x ∧ x ≤ mk then 1 else 0)) (As := [.int (iI x)]) (rest := []) (wc := [(a0, .inr (2, [.ref a1, .ref a2, .ref a3, .int (iI mk)])), (a1, .inl (gI G, 61, .inl (fun j : Nat => iI (sz (j : Int))))), (a2, .inl (gL G, 61, .inr (.inl (fun j : Nat => lI (va (j : Int)))))), (a3, .inl (gL G, 61, .inr (.inl (fun j : Nat => lI (ke (j : Int))))))]) (wr := [(x0, .inr (11, [.ref w0, .ref a0, .ref b0, .ref y0, .ref e0, .ref f0, .ref s0, .ref g0, .ref r0, .ref t0, .ref v0, .int (iI rf)])), (b0, .inr (4, [.ref b1, .ref b2, .ref b3, .int (iI nk)])), (b1, .inl (gI G, 201, .inl (fun j : Nat => iI (ki (j : Int))))), (b2, .inl (gI G, 201, .inl (fun j : Nat => iI (fi (j : Int))))), (b3, .inl (gI G, 201, .inl (fun j : Nat => iI (se (j : Int)))))]) (wn := [(x0, .inr (11, [.ref w0, .ref a0, .ref b0, .ref y0, .ref e0, .ref f0, .ref s0, .ref g0, .ref r0, .ref t0, .ref v0, .int (iI rf)])), (b0, .inr (4, [.ref b1, .ref b2, .ref b3, .int (iI nk)])), (b1, .inl (gI G, 201, .inl (fun j : Nat => iI (ki (j : Int))))), (b2, .inl (gI G, 201, .inl (fun j : Nat => iI (fi (j : Int))))), (b3, .inl (gI G, 201, .inl (fun j : Nat => iI (se (j : Int))))), (a0, .inr (2, [.ref a1, .ref a2, .ref a3, .int (iI mk)])), (a1, .inl (gI G, 61, .inl (fun j : Nat => iI (sz (j : Int))))), (a2, .inl (gL G, 61, .inr (.inl (fun j : Nat => lI (va (j : Int)))))), (a3, .inl (gL G, 61, .inr (.inl (fun j : Nat => lI (ke (j : Int))))))]) F C (c_X1_has l G H.size a0 a1 a2 a3 sz va ke mk x (by omega) (by omega)) (cwV 1 hts gX10_lacksPart_X1_has rfl rfl rfl (by decide +kernel) (by decide)) hP hD hS (q0 := 1) rfl rfl rfl [1, 2, 3, 4] [0, 5, 6, 7, 8] rfl rfl (by decide) rfl rfl hl.1 rfl (Nat.le_of_ble_eq_true rfl) dX10_lacksPart_75 (by decide) (fun H locs hP hD hS => ?_)
    refine z_if_eq (tgt := 92) hx hb dX10_lacksPart_78 (by decide) (by split <;> omega) (fun c_10 => ?_) (fun c_10 => ?_)
    · skip
      have qc_10 := if_eq0 c_10
      refine lv_iconst (v := iI (1)) hx hb dX10_lacksPart_92 rfl ?_
      refine lv_goto (tgt := 97) hx hb dX10_lacksPart_93 (by decide) ?_
      have hP : va_P G.1 vwCl [(x0, .inr (11, [.ref w0, .ref a0, .ref b0, .ref y0, .ref e0, .ref f0, .ref s0, .ref g0, .ref r0, .ref t0, .ref v0, .int (iI rf)])), (a0, .inr (2, [.ref a1, .ref a2, .ref a3, .int (iI mk)])), (a1, .inl (gI G, 61, .inl (fun j : Nat => iI (sz (j : Int))))), (a2, .inl (gL G, 61, .inr (.inl (fun j : Nat => lI (va (j : Int)))))), (a3, .inl (gL G, 61, .inr (.inl (fun j : Nat => lI (ke (j : Int)))))), (b0, .inr (4, [.ref b1, .ref b2, .ref b3, .int (iI nk)])), (b1, .inl (gI G, 201, .inl (fun j : Nat => iI (ki (j : Int))))), (b2, .inl (gI G, 201, .inl (fun j : Nat => iI (fi (j : Int))))), (b3, .inl (gI G, 201, .inl (fun j : Nat => iI (se (j : Int)))))] H := hP.sub [0, 5, 6, 7, 8, 1, 2, 3, 4] rfl
      have hD : va_D A [(x0, .inr (11, [.ref w0, .ref a0, .ref b0, .ref y0, .ref e0, .ref f0, .ref s0, .ref g0, .ref r0, .ref t0, .ref v0, .int (iI rf)])), (a0, .inr (2, [.ref a1, .ref a2, .ref a3, .int (iI mk)])), (a1, .inl (gI G, 61, .inl (fun j : Nat => iI (sz (j : Int))))), (a2, .inl (gL G, 61, .inr (.inl (fun j : Nat => lI (va (j : Int)))))), (a3, .inl (gL G, 61, .inr (.inl (fun j : Nat => lI (ke (j : Int)))))), (b0, .inr (4, [.ref b1, .ref b2, .ref b3, .int (iI nk)])), (b1, .inl (gI G, 201, .inl (fun j : Nat => iI (ki (j : Int))))), (b2, .inl (gI G, 201, .inl (fun j : Nat => iI (fi (j : Int))))), (b3, .inl (gI G, 201, .inl (fun j : Nat => iI (se (j : Int)))))] := hD.sub [0, 5, 6, 7, 8, 1, 2, 3, 4] (by decide) rfl
      have r_11 : (1 : Int) = (if okN mk nk kd x y then 0 else 1) := by first | exact (if_pos (by omega)).symm | exact (if_neg (by omega)).symm
      rw [r_11]
      exact hret _ ls H locs dX10_lacksPart_97 hP hD hS
    · skip
      have qc_10 := if_ne0 c_10
      refine lv_aload_n hx hb dX10_lacksPart_81 rfl (lv_at hl 0 rfl) ?_
      refine va_get (D := G.1) (ci := 11) (v := .ref a0) (C := RX10) (T := TX10) (N := 12) hx hb hts hiX10 hown hK hP 0 rfl rfl 1 (by decide) hw0 (fun _ h9 => h9) rfl dX10_lacksPart_82 ?_
      refine lv_iload_n hx hb dX10_lacksPart_85 rfl (lv_at hl 3 rfl) ?_
      refine z_cVi (RV := (if 1 ≤ y ∧ y ≤ mk then 1 else 0)) (As := [.int (iI y)]) (rest := []) (wc := [(a0, .inr (2, [.ref a1, .ref a2, .ref a3, .int (iI mk)])), (a1, .inl (gI G, 61, .inl (fun j : Nat => iI (sz (j : Int))))), (a2, .inl (gL G, 61, .inr (.inl (fun j : Nat => lI (va (j : Int)))))), (a3, .inl (gL G, 61, .inr (.inl (fun j : Nat => lI (ke (j : Int))))))]) (wr := [(x0, .inr (11, [.ref w0, .ref a0, .ref b0, .ref y0, .ref e0, .ref f0, .ref s0, .ref g0, .ref r0, .ref t0, .ref v0, .int (iI rf)])), (b0, .inr (4, [.ref b1, .ref b2, .ref b3, .int (iI nk)])), (b1, .inl (gI G, 201, .inl (fun j : Nat => iI (ki (j : Int))))), (b2, .inl (gI G, 201, .inl (fun j : Nat => iI (fi (j : Int))))), (b3, .inl (gI G, 201, .inl (fun j : Nat => iI (se (j : Int)))))]) (wn := [(x0, .inr (11, [.ref w0, .ref a0, .ref b0, .ref y0, .ref e0, .ref f0, .ref s0, .ref g0, .ref r0, .ref t0, .ref v0, .int (iI rf)])), (b0, .inr (4, [.ref b1, .ref b2, .ref b3, .int (iI nk)])), (b1, .inl (gI G, 201, .inl (fun j : Nat => iI (ki (j : Int))))), (b2, .inl (gI G, 201, .inl (fun j : Nat => iI (fi (j : Int))))), (b3, .inl (gI G, 201, .inl (fun j : Nat => iI (se (j : Int))))), (a0, .inr (2, [.ref a1, .ref a2, .ref a3, .int (iI mk)])), (a1, .inl (gI G, 61, .inl (fun j : Nat => iI (sz (j : Int))))), (a2, .inl (gL G, 61, .inr (.inl (fun j : Nat => lI (va (j : Int)))))), (a3, .inl (gL G, 61, .inr (.inl (fun j : Nat => lI (ke (j : Int))))))]) F C (c_X1_has l G H.size a0 a1 a2 a3 sz va ke mk y (by omega) (by omega)) (cwV 1 hts gX10_lacksPart_X1_has rfl rfl rfl (by decide +kernel) (by decide)) hP hD hS (q0 := 5) rfl rfl rfl [5, 6, 7, 8] [0, 1, 2, 3, 4] rfl rfl (by decide) rfl rfl hl.1 rfl (Nat.le_of_ble_eq_true rfl) dX10_lacksPart_86 (by decide) (fun H locs hP hD hS => ?_)
      refine z_if_ne (tgt := 96) hx hb dX10_lacksPart_89 (by decide) (by split <;> omega) (fun c_12 => ?_) (fun c_12 => ?_)
      · skip
        have qc_12 := if_ne0 c_12
        refine lv_iconst (v := iI (0)) hx hb dX10_lacksPart_96 rfl ?_
        have hP : va_P G.1 vwCl [(x0, .inr (11, [.ref w0, .ref a0, .ref b0, .ref y0, .ref e0, .ref f0, .ref s0, .ref g0, .ref r0, .ref t0, .ref v0, .int (iI rf)])), (a0, .inr (2, [.ref a1, .ref a2, .ref a3, .int (iI mk)])), (a1, .inl (gI G, 61, .inl (fun j : Nat => iI (sz (j : Int))))), (a2, .inl (gL G, 61, .inr (.inl (fun j : Nat => lI (va (j : Int)))))), (a3, .inl (gL G, 61, .inr (.inl (fun j : Nat => lI (ke (j : Int)))))), (b0, .inr (4, [.ref b1, .ref b2, .ref b3, .int (iI nk)])), (b1, .inl (gI G, 201, .inl (fun j : Nat => iI (ki (j : Int))))), (b2, .inl (gI G, 201, .inl (fun j : Nat => iI (fi (j : Int))))), (b3, .inl (gI G, 201, .inl (fun j : Nat => iI (se (j : Int)))))] H := hP.sub [0, 5, 6, 7, 8, 1, 2, 3, 4] rfl
        have hD : va_D A [(x0, .inr (11, [.ref w0, .ref a0, .ref b0, .ref y0, .ref e0, .ref f0, .ref s0, .ref g0, .ref r0, .ref t0, .ref v0, .int (iI rf)])), (a0, .inr (2, [.ref a1, .ref a2, .ref a3, .int (iI mk)])), (a1, .inl (gI G, 61, .inl (fun j : Nat => iI (sz (j : Int))))), (a2, .inl (gL G, 61, .inr (.inl (fun j : Nat => lI (va (j : Int)))))), (a3, .inl (gL G, 61, .inr (.inl (fun j : Nat => lI (ke (j : Int)))))), (b0, .inr (4, [.ref b1, .ref b2, .ref b3, .int (iI nk)])), (b1, .inl (gI G, 201, .inl (fun j : Nat => iI (ki (j : Int))))), (b2, .inl (gI G, 201, .inl (fun j : Nat => iI (fi (j : Int))))), (b3, .inl (gI G, 201, .inl (fun j : Nat => iI (se (j : Int)))))] := hD.sub [0, 5, 6, 7, 8, 1, 2, 3, 4] (by decide) rfl
        have r_13 : (0 : Int) = (if okN mk nk kd x y then 0 else 1) := by first | exact (if_pos (by omega)).symm | exact (if_neg (by omega)).symm
        rw [r_13]
        exact hret _ ls H locs dX10_lacksPart_97 hP hD hS
      · skip
        have qc_12 := if_eq0 c_12
        refine lv_iconst (v := iI (1)) hx hb dX10_lacksPart_92 rfl ?_
        refine lv_goto (tgt := 97) hx hb dX10_lacksPart_93 (by decide) ?_
        have hP : va_P G.1 vwCl [(x0, .inr (11, [.ref w0, .ref a0, .ref b0, .ref y0, .ref e0, .ref f0, .ref s0, .ref g0, .ref r0, .ref t0, .ref v0, .int (iI rf)])), (a0, .inr (2, [.ref a1, .ref a2, .ref a3, .int (iI mk)])), (a1, .inl (gI G, 61, .inl (fun j : Nat => iI (sz (j : Int))))), (a2, .inl (gL G, 61, .inr (.inl (fun j : Nat => lI (va (j : Int)))))), (a3, .inl (gL G, 61, .inr (.inl (fun j : Nat => lI (ke (j : Int)))))), (b0, .inr (4, [.ref b1, .ref b2, .ref b3, .int (iI nk)])), (b1, .inl (gI G, 201, .inl (fun j : Nat => iI (ki (j : Int))))), (b2, .inl (gI G, 201, .inl (fun j : Nat => iI (fi (j : Int))))), (b3, .inl (gI G, 201, .inl (fun j : Nat => iI (se (j : Int)))))] H := hP.sub [0, 5, 6, 7, 8, 1, 2, 3, 4] rfl
        have hD : va_D A [(x0, .inr (11, [.ref w0, .ref a0, .ref b0, .ref y0, .ref e0, .ref f0, .ref s0, .ref g0, .ref r0, .ref t0, .ref v0, .int (iI rf)])), (a0, .inr (2, [.ref a1, .ref a2, .ref a3, .int (iI mk)])), (a1, .inl (gI G, 61, .inl (fun j : Nat => iI (sz (j : Int))))), (a2, .inl (gL G, 61, .inr (.inl (fun j : Nat => lI (va (j : Int)))))), (a3, .inl (gL G, 61, .inr (.inl (fun j : Nat => lI (ke (j : Int)))))), (b0, .inr (4, [.ref b1, .ref b2, .ref b3, .int (iI nk)])), (b1, .inl (gI G, 201, .inl (fun j : Nat => iI (ki (j : Int))))), (b2, .inl (gI G, 201, .inl (fun j : Nat => iI (fi (j : Int))))), (b3, .inl (gI G, 201, .inl (fun j : Nat => iI (se (j : Int)))))] := hD.sub [0, 5, 6, 7, 8, 1, 2, 3, 4] (by decide) rfl
        have r_14 : (1 : Int) = (if okN mk nk kd x y then 0 else 1) := by first | exact (if_pos (by omega)).symm | exact (if_neg (by omega)).symm
        rw [r_14]
        exact hret _ ls H locs dX10_lacksPart_97 hP hD hS
  by_cases k_15 : kd = 3
  · skip
    refine z_tswIn (tgt := 70) hx hb dX10_lacksPart_1 (by omega) 3 k_15 (by decide) (off := 69) rfl (by decide) ?_
    refine lv_aload_n hx hb dX10_lacksPart_70 rfl (lv_at hl 0 rfl) ?_
    refine va_get (D := G.1) (ci := 11) (v := .ref a0) (C := RX10) (T := TX10) (N := 12) hx hb hts hiX10 hown hK hP 0 rfl rfl 1 (by decide) hw0 (fun _ h9 => h9) rfl dX10_lacksPart_71 ?_
    refine lv_iload_n hx hb dX10_lacksPart_74 rfl (lv_at hl 2 rfl) ?_
    refine z_cVi (RV := (if 1 ≤ x ∧ x ≤ mk then 1 else 0)) (As := [.int (iI x)]) (rest := []) (wc := [(a0, .inr (2, [.ref a1, .ref a2, .ref a3, .int (iI mk)])), (a1, .inl (gI G, 61, .inl (fun j : Nat => iI (sz (j : Int))))), (a2, .inl (gL G, 61, .inr (.inl (fun j : Nat => lI (va (j : Int)))))), (a3, .inl (gL G, 61, .inr (.inl (fun j : Nat => lI (ke (j : Int))))))]) (wr := [(x0, .inr (11, [.ref w0, .ref a0, .ref b0, .ref y0, .ref e0, .ref f0, .ref s0, .ref g0, .ref r0, .ref t0, .ref v0, .int (iI rf)])), (b0, .inr (4, [.ref b1, .ref b2, .ref b3, .int (iI nk)])), (b1, .inl (gI G, 201, .inl (fun j : Nat => iI (ki (j : Int))))), (b2, .inl (gI G, 201, .inl (fun j : Nat => iI (fi (j : Int))))), (b3, .inl (gI G, 201, .inl (fun j : Nat => iI (se (j : Int)))))]) (wn := [(x0, .inr (11, [.ref w0, .ref a0, .ref b0, .ref y0, .ref e0, .ref f0, .ref s0, .ref g0, .ref r0, .ref t0, .ref v0, .int (iI rf)])), (b0, .inr (4, [.ref b1, .ref b2, .ref b3, .int (iI nk)])), (b1, .inl (gI G, 201, .inl (fun j : Nat => iI (ki (j : Int))))), (b2, .inl (gI G, 201, .inl (fun j : Nat => iI (fi (j : Int))))), (b3, .inl (gI G, 201, .inl (fun j : Nat => iI (se (j : Int))))), (a0, .inr (2, [.ref a1, .ref a2, .ref a3, .int (iI mk)])), (a1, .inl (gI G, 61, .inl (fun j : Nat => iI (sz (j : Int))))), (a2, .inl (gL G, 61, .inr (.inl (fun j : Nat => lI (va (j : Int)))))), (a3, .inl (gL G, 61, .inr (.inl (fun j : Nat => lI (ke (j : Int))))))]) F C (c_X1_has l G H.size a0 a1 a2 a3 sz va ke mk x (by omega) (by omega)) (cwV 1 hts gX10_lacksPart_X1_has rfl rfl rfl (by decide +kernel) (by decide)) hP hD hS (q0 := 1) rfl rfl rfl [1, 2, 3, 4] [0, 5, 6, 7, 8] rfl rfl (by decide) rfl rfl hl.1 rfl (Nat.le_of_ble_eq_true rfl) dX10_lacksPart_75 (by decide) (fun H locs hP hD hS => ?_)
    refine z_if_eq (tgt := 92) hx hb dX10_lacksPart_78 (by decide) (by split <;> omega) (fun c_16 => ?_) (fun c_16 => ?_)
    · skip
      have qc_16 := if_eq0 c_16
      refine lv_iconst (v := iI (1)) hx hb dX10_lacksPart_92 rfl ?_
      refine lv_goto (tgt := 97) hx hb dX10_lacksPart_93 (by decide) ?_
      have hP : va_P G.1 vwCl [(x0, .inr (11, [.ref w0, .ref a0, .ref b0, .ref y0, .ref e0, .ref f0, .ref s0, .ref g0, .ref r0, .ref t0, .ref v0, .int (iI rf)])), (a0, .inr (2, [.ref a1, .ref a2, .ref a3, .int (iI mk)])), (a1, .inl (gI G, 61, .inl (fun j : Nat => iI (sz (j : Int))))), (a2, .inl (gL G, 61, .inr (.inl (fun j : Nat => lI (va (j : Int)))))), (a3, .inl (gL G, 61, .inr (.inl (fun j : Nat => lI (ke (j : Int)))))), (b0, .inr (4, [.ref b1, .ref b2, .ref b3, .int (iI nk)])), (b1, .inl (gI G, 201, .inl (fun j : Nat => iI (ki (j : Int))))), (b2, .inl (gI G, 201, .inl (fun j : Nat => iI (fi (j : Int))))), (b3, .inl (gI G, 201, .inl (fun j : Nat => iI (se (j : Int)))))] H := hP.sub [0, 5, 6, 7, 8, 1, 2, 3, 4] rfl
      have hD : va_D A [(x0, .inr (11, [.ref w0, .ref a0, .ref b0, .ref y0, .ref e0, .ref f0, .ref s0, .ref g0, .ref r0, .ref t0, .ref v0, .int (iI rf)])), (a0, .inr (2, [.ref a1, .ref a2, .ref a3, .int (iI mk)])), (a1, .inl (gI G, 61, .inl (fun j : Nat => iI (sz (j : Int))))), (a2, .inl (gL G, 61, .inr (.inl (fun j : Nat => lI (va (j : Int)))))), (a3, .inl (gL G, 61, .inr (.inl (fun j : Nat => lI (ke (j : Int)))))), (b0, .inr (4, [.ref b1, .ref b2, .ref b3, .int (iI nk)])), (b1, .inl (gI G, 201, .inl (fun j : Nat => iI (ki (j : Int))))), (b2, .inl (gI G, 201, .inl (fun j : Nat => iI (fi (j : Int))))), (b3, .inl (gI G, 201, .inl (fun j : Nat => iI (se (j : Int)))))] := hD.sub [0, 5, 6, 7, 8, 1, 2, 3, 4] (by decide) rfl
      have r_17 : (1 : Int) = (if okN mk nk kd x y then 0 else 1) := by first | exact (if_pos (by omega)).symm | exact (if_neg (by omega)).symm
      rw [r_17]
      exact hret _ ls H locs dX10_lacksPart_97 hP hD hS
    · skip
      have qc_16 := if_ne0 c_16
      refine lv_aload_n hx hb dX10_lacksPart_81 rfl (lv_at hl 0 rfl) ?_
      refine va_get (D := G.1) (ci := 11) (v := .ref a0) (C := RX10) (T := TX10) (N := 12) hx hb hts hiX10 hown hK hP 0 rfl rfl 1 (by decide) hw0 (fun _ h9 => h9) rfl dX10_lacksPart_82 ?_
      refine lv_iload_n hx hb dX10_lacksPart_85 rfl (lv_at hl 3 rfl) ?_
      refine z_cVi (RV := (if 1 ≤ y ∧ y ≤ mk then 1 else 0)) (As := [.int (iI y)]) (rest := []) (wc := [(a0, .inr (2, [.ref a1, .ref a2, .ref a3, .int (iI mk)])), (a1, .inl (gI G, 61, .inl (fun j : Nat => iI (sz (j : Int))))), (a2, .inl (gL G, 61, .inr (.inl (fun j : Nat => lI (va (j : Int)))))), (a3, .inl (gL G, 61, .inr (.inl (fun j : Nat => lI (ke (j : Int))))))]) (wr := [(x0, .inr (11, [.ref w0, .ref a0, .ref b0, .ref y0, .ref e0, .ref f0, .ref s0, .ref g0, .ref r0, .ref t0, .ref v0, .int (iI rf)])), (b0, .inr (4, [.ref b1, .ref b2, .ref b3, .int (iI nk)])), (b1, .inl (gI G, 201, .inl (fun j : Nat => iI (ki (j : Int))))), (b2, .inl (gI G, 201, .inl (fun j : Nat => iI (fi (j : Int))))), (b3, .inl (gI G, 201, .inl (fun j : Nat => iI (se (j : Int)))))]) (wn := [(x0, .inr (11, [.ref w0, .ref a0, .ref b0, .ref y0, .ref e0, .ref f0, .ref s0, .ref g0, .ref r0, .ref t0, .ref v0, .int (iI rf)])), (b0, .inr (4, [.ref b1, .ref b2, .ref b3, .int (iI nk)])), (b1, .inl (gI G, 201, .inl (fun j : Nat => iI (ki (j : Int))))), (b2, .inl (gI G, 201, .inl (fun j : Nat => iI (fi (j : Int))))), (b3, .inl (gI G, 201, .inl (fun j : Nat => iI (se (j : Int))))), (a0, .inr (2, [.ref a1, .ref a2, .ref a3, .int (iI mk)])), (a1, .inl (gI G, 61, .inl (fun j : Nat => iI (sz (j : Int))))), (a2, .inl (gL G, 61, .inr (.inl (fun j : Nat => lI (va (j : Int)))))), (a3, .inl (gL G, 61, .inr (.inl (fun j : Nat => lI (ke (j : Int))))))]) F C (c_X1_has l G H.size a0 a1 a2 a3 sz va ke mk y (by omega) (by omega)) (cwV 1 hts gX10_lacksPart_X1_has rfl rfl rfl (by decide +kernel) (by decide)) hP hD hS (q0 := 5) rfl rfl rfl [5, 6, 7, 8] [0, 1, 2, 3, 4] rfl rfl (by decide) rfl rfl hl.1 rfl (Nat.le_of_ble_eq_true rfl) dX10_lacksPart_86 (by decide) (fun H locs hP hD hS => ?_)
      refine z_if_ne (tgt := 96) hx hb dX10_lacksPart_89 (by decide) (by split <;> omega) (fun c_18 => ?_) (fun c_18 => ?_)
      · skip
        have qc_18 := if_ne0 c_18
        refine lv_iconst (v := iI (0)) hx hb dX10_lacksPart_96 rfl ?_
        have hP : va_P G.1 vwCl [(x0, .inr (11, [.ref w0, .ref a0, .ref b0, .ref y0, .ref e0, .ref f0, .ref s0, .ref g0, .ref r0, .ref t0, .ref v0, .int (iI rf)])), (a0, .inr (2, [.ref a1, .ref a2, .ref a3, .int (iI mk)])), (a1, .inl (gI G, 61, .inl (fun j : Nat => iI (sz (j : Int))))), (a2, .inl (gL G, 61, .inr (.inl (fun j : Nat => lI (va (j : Int)))))), (a3, .inl (gL G, 61, .inr (.inl (fun j : Nat => lI (ke (j : Int)))))), (b0, .inr (4, [.ref b1, .ref b2, .ref b3, .int (iI nk)])), (b1, .inl (gI G, 201, .inl (fun j : Nat => iI (ki (j : Int))))), (b2, .inl (gI G, 201, .inl (fun j : Nat => iI (fi (j : Int))))), (b3, .inl (gI G, 201, .inl (fun j : Nat => iI (se (j : Int)))))] H := hP.sub [0, 5, 6, 7, 8, 1, 2, 3, 4] rfl
        have hD : va_D A [(x0, .inr (11, [.ref w0, .ref a0, .ref b0, .ref y0, .ref e0, .ref f0, .ref s0, .ref g0, .ref r0, .ref t0, .ref v0, .int (iI rf)])), (a0, .inr (2, [.ref a1, .ref a2, .ref a3, .int (iI mk)])), (a1, .inl (gI G, 61, .inl (fun j : Nat => iI (sz (j : Int))))), (a2, .inl (gL G, 61, .inr (.inl (fun j : Nat => lI (va (j : Int)))))), (a3, .inl (gL G, 61, .inr (.inl (fun j : Nat => lI (ke (j : Int)))))), (b0, .inr (4, [.ref b1, .ref b2, .ref b3, .int (iI nk)])), (b1, .inl (gI G, 201, .inl (fun j : Nat => iI (ki (j : Int))))), (b2, .inl (gI G, 201, .inl (fun j : Nat => iI (fi (j : Int))))), (b3, .inl (gI G, 201, .inl (fun j : Nat => iI (se (j : Int)))))] := hD.sub [0, 5, 6, 7, 8, 1, 2, 3, 4] (by decide) rfl
        have r_19 : (0 : Int) = (if okN mk nk kd x y then 0 else 1) := by first | exact (if_pos (by omega)).symm | exact (if_neg (by omega)).symm
        rw [r_19]
        exact hret _ ls H locs dX10_lacksPart_97 hP hD hS
      · skip
        have qc_18 := if_eq0 c_18
        refine lv_iconst (v := iI (1)) hx hb dX10_lacksPart_92 rfl ?_
        refine lv_goto (tgt := 97) hx hb dX10_lacksPart_93 (by decide) ?_
        have hP : va_P G.1 vwCl [(x0, .inr (11, [.ref w0, .ref a0, .ref b0, .ref y0, .ref e0, .ref f0, .ref s0, .ref g0, .ref r0, .ref t0, .ref v0, .int (iI rf)])), (a0, .inr (2, [.ref a1, .ref a2, .ref a3, .int (iI mk)])), (a1, .inl (gI G, 61, .inl (fun j : Nat => iI (sz (j : Int))))), (a2, .inl (gL G, 61, .inr (.inl (fun j : Nat => lI (va (j : Int)))))), (a3, .inl (gL G, 61, .inr (.inl (fun j : Nat => lI (ke (j : Int)))))), (b0, .inr (4, [.ref b1, .ref b2, .ref b3, .int (iI nk)])), (b1, .inl (gI G, 201, .inl (fun j : Nat => iI (ki (j : Int))))), (b2, .inl (gI G, 201, .inl (fun j : Nat => iI (fi (j : Int))))), (b3, .inl (gI G, 201, .inl (fun j : Nat => iI (se (j : Int)))))] H := hP.sub [0, 5, 6, 7, 8, 1, 2, 3, 4] rfl
        have hD : va_D A [(x0, .inr (11, [.ref w0, .ref a0, .ref b0, .ref y0, .ref e0, .ref f0, .ref s0, .ref g0, .ref r0, .ref t0, .ref v0, .int (iI rf)])), (a0, .inr (2, [.ref a1, .ref a2, .ref a3, .int (iI mk)])), (a1, .inl (gI G, 61, .inl (fun j : Nat => iI (sz (j : Int))))), (a2, .inl (gL G, 61, .inr (.inl (fun j : Nat => lI (va (j : Int)))))), (a3, .inl (gL G, 61, .inr (.inl (fun j : Nat => lI (ke (j : Int)))))), (b0, .inr (4, [.ref b1, .ref b2, .ref b3, .int (iI nk)])), (b1, .inl (gI G, 201, .inl (fun j : Nat => iI (ki (j : Int))))), (b2, .inl (gI G, 201, .inl (fun j : Nat => iI (fi (j : Int))))), (b3, .inl (gI G, 201, .inl (fun j : Nat => iI (se (j : Int)))))] := hD.sub [0, 5, 6, 7, 8, 1, 2, 3, 4] (by decide) rfl
        have r_20 : (1 : Int) = (if okN mk nk kd x y then 0 else 1) := by first | exact (if_pos (by omega)).symm | exact (if_neg (by omega)).symm
        rw [r_20]
        exact hret _ ls H locs dX10_lacksPart_97 hP hD hS
  by_cases k_21 : kd = 4
  · skip
    refine z_tswIn (tgt := 70) hx hb dX10_lacksPart_1 (by omega) 4 k_21 (by decide) (off := 69) rfl (by decide) ?_
    refine lv_aload_n hx hb dX10_lacksPart_70 rfl (lv_at hl 0 rfl) ?_
    refine va_get (D := G.1) (ci := 11) (v := .ref a0) (C := RX10) (T := TX10) (N := 12) hx hb hts hiX10 hown hK hP 0 rfl rfl 1 (by decide) hw0 (fun _ h9 => h9) rfl dX10_lacksPart_71 ?_
    refine lv_iload_n hx hb dX10_lacksPart_74 rfl (lv_at hl 2 rfl) ?_
    refine z_cVi (RV := (if 1 ≤ x ∧ x ≤ mk then 1 else 0)) (As := [.int (iI x)]) (rest := []) (wc := [(a0, .inr (2, [.ref a1, .ref a2, .ref a3, .int (iI mk)])), (a1, .inl (gI G, 61, .inl (fun j : Nat => iI (sz (j : Int))))), (a2, .inl (gL G, 61, .inr (.inl (fun j : Nat => lI (va (j : Int)))))), (a3, .inl (gL G, 61, .inr (.inl (fun j : Nat => lI (ke (j : Int))))))]) (wr := [(x0, .inr (11, [.ref w0, .ref a0, .ref b0, .ref y0, .ref e0, .ref f0, .ref s0, .ref g0, .ref r0, .ref t0, .ref v0, .int (iI rf)])), (b0, .inr (4, [.ref b1, .ref b2, .ref b3, .int (iI nk)])), (b1, .inl (gI G, 201, .inl (fun j : Nat => iI (ki (j : Int))))), (b2, .inl (gI G, 201, .inl (fun j : Nat => iI (fi (j : Int))))), (b3, .inl (gI G, 201, .inl (fun j : Nat => iI (se (j : Int)))))]) (wn := [(x0, .inr (11, [.ref w0, .ref a0, .ref b0, .ref y0, .ref e0, .ref f0, .ref s0, .ref g0, .ref r0, .ref t0, .ref v0, .int (iI rf)])), (b0, .inr (4, [.ref b1, .ref b2, .ref b3, .int (iI nk)])), (b1, .inl (gI G, 201, .inl (fun j : Nat => iI (ki (j : Int))))), (b2, .inl (gI G, 201, .inl (fun j : Nat => iI (fi (j : Int))))), (b3, .inl (gI G, 201, .inl (fun j : Nat => iI (se (j : Int))))), (a0, .inr (2, [.ref a1, .ref a2, .ref a3, .int (iI mk)])), (a1, .inl (gI G, 61, .inl (fun j : Nat => iI (sz (j : Int))))), (a2, .inl (gL G, 61, .inr (.inl (fun j : Nat => lI (va (j : Int)))))), (a3, .inl (gL G, 61, .inr (.inl (fun j : Nat => lI (ke (j : Int))))))]) F C (c_X1_has l G H.size a0 a1 a2 a3 sz va ke mk x (by omega) (by omega)) (cwV 1 hts gX10_lacksPart_X1_has rfl rfl rfl (by decide +kernel) (by decide)) hP hD hS (q0 := 1) rfl rfl rfl [1, 2, 3, 4] [0, 5, 6, 7, 8] rfl rfl (by decide) rfl rfl hl.1 rfl (Nat.le_of_ble_eq_true rfl) dX10_lacksPart_75 (by decide) (fun H locs hP hD hS => ?_)
    refine z_if_eq (tgt := 92) hx hb dX10_lacksPart_78 (by decide) (by split <;> omega) (fun c_22 => ?_) (fun c_22 => ?_)
    · skip
      have qc_22 := if_eq0 c_22
      refine lv_iconst (v := iI (1)) hx hb dX10_lacksPart_92 rfl ?_
      refine lv_goto (tgt := 97) hx hb dX10_lacksPart_93 (by decide) ?_
      have hP : va_P G.1 vwCl [(x0, .inr (11, [.ref w0, .ref a0, .ref b0, .ref y0, .ref e0, .ref f0, .ref s0, .ref g0, .ref r0, .ref t0, .ref v0, .int (iI rf)])), (a0, .inr (2, [.ref a1, .ref a2, .ref a3, .int (iI mk)])), (a1, .inl (gI G, 61, .inl (fun j : Nat => iI (sz (j : Int))))), (a2, .inl (gL G, 61, .inr (.inl (fun j : Nat => lI (va (j : Int)))))), (a3, .inl (gL G, 61, .inr (.inl (fun j : Nat => lI (ke (j : Int)))))), (b0, .inr (4, [.ref b1, .ref b2, .ref b3, .int (iI nk)])), (b1, .inl (gI G, 201, .inl (fun j : Nat => iI (ki (j : Int))))), (b2, .inl (gI G, 201, .inl (fun j : Nat => iI (fi (j : Int))))), (b3, .inl (gI G, 201, .inl (fun j : Nat => iI (se (j : Int)))))] H := hP.sub [0, 5, 6, 7, 8, 1, 2, 3, 4] rfl
      have hD : va_D A [(x0, .inr (11, [.ref w0, .ref a0, .ref b0, .ref y0, .ref e0, .ref f0, .ref s0, .ref g0, .ref r0, .ref t0, .ref v0, .int (iI rf)])), (a0, .inr (2, [.ref a1, .ref a2, .ref a3, .int (iI mk)])), (a1, .inl (gI G, 61, .inl (fun j : Nat => iI (sz (j : Int))))), (a2, .inl (gL G, 61, .inr (.inl (fun j : Nat => lI (va (j : Int)))))), (a3, .inl (gL G, 61, .inr (.inl (fun j : Nat => lI (ke (j : Int)))))), (b0, .inr (4, [.ref b1, .ref b2, .ref b3, .int (iI nk)])), (b1, .inl (gI G, 201, .inl (fun j : Nat => iI (ki (j : Int))))), (b2, .inl (gI G, 201, .inl (fun j : Nat => iI (fi (j : Int))))), (b3, .inl (gI G, 201, .inl (fun j : Nat => iI (se (j : Int)))))] := hD.sub [0, 5, 6, 7, 8, 1, 2, 3, 4] (by decide) rfl
      have r_23 : (1 : Int) = (if okN mk nk kd x y then 0 else 1) := by first | exact (if_pos (by omega)).symm | exact (if_neg (by omega)).symm
      rw [r_23]
      exact hret _ ls H locs dX10_lacksPart_97 hP hD hS
    · skip
      have qc_22 := if_ne0 c_22
      refine lv_aload_n hx hb dX10_lacksPart_81 rfl (lv_at hl 0 rfl) ?_
      refine va_get (D := G.1) (ci := 11) (v := .ref a0) (C := RX10) (T := TX10) (N := 12) hx hb hts hiX10 hown hK hP 0 rfl rfl 1 (by decide) hw0 (fun _ h9 => h9) rfl dX10_lacksPart_82 ?_
      refine lv_iload_n hx hb dX10_lacksPart_85 rfl (lv_at hl 3 rfl) ?_
      refine z_cVi (RV := (if 1 ≤ y ∧ y ≤ mk then 1 else 0)) (As := [.int (iI y)]) (rest := []) (wc := [(a0, .inr (2, [.ref a1, .ref a2, .ref a3, .int (iI mk)])), (a1, .inl (gI G, 61, .inl (fun j : Nat => iI (sz (j : Int))))), (a2, .inl (gL G, 61, .inr (.inl (fun j : Nat => lI (va (j : Int)))))), (a3, .inl (gL G, 61, .inr (.inl (fun j : Nat => lI (ke (j : Int))))))]) (wr := [(x0, .inr (11, [.ref w0, .ref a0, .ref b0, .ref y0, .ref e0, .ref f0, .ref s0, .ref g0, .ref r0, .ref t0, .ref v0, .int (iI rf)])), (b0, .inr (4, [.ref b1, .ref b2, .ref b3, .int (iI nk)])), (b1, .inl (gI G, 201, .inl (fun j : Nat => iI (ki (j : Int))))), (b2, .inl (gI G, 201, .inl (fun j : Nat => iI (fi (j : Int))))), (b3, .inl (gI G, 201, .inl (fun j : Nat => iI (se (j : Int)))))]) (wn := [(x0, .inr (11, [.ref w0, .ref a0, .ref b0, .ref y0, .ref e0, .ref f0, .ref s0, .ref g0, .ref r0, .ref t0, .ref v0, .int (iI rf)])), (b0, .inr (4, [.ref b1, .ref b2, .ref b3, .int (iI nk)])), (b1, .inl (gI G, 201, .inl (fun j : Nat => iI (ki (j : Int))))), (b2, .inl (gI G, 201, .inl (fun j : Nat => iI (fi (j : Int))))), (b3, .inl (gI G, 201, .inl (fun j : Nat => iI (se (j : Int))))), (a0, .inr (2, [.ref a1, .ref a2, .ref a3, .int (iI mk)])), (a1, .inl (gI G, 61, .inl (fun j : Nat => iI (sz (j : Int))))), (a2, .inl (gL G, 61, .inr (.inl (fun j : Nat => lI (va (j : Int)))))), (a3, .inl (gL G, 61, .inr (.inl (fun j : Nat => lI (ke (j : Int))))))]) F C (c_X1_has l G H.size a0 a1 a2 a3 sz va ke mk y (by omega) (by omega)) (cwV 1 hts gX10_lacksPart_X1_has rfl rfl rfl (by decide +kernel) (by decide)) hP hD hS (q0 := 5) rfl rfl rfl [5, 6, 7, 8] [0, 1, 2, 3, 4] rfl rfl (by decide) rfl rfl hl.1 rfl (Nat.le_of_ble_eq_true rfl) dX10_lacksPart_86 (by decide) (fun H locs hP hD hS => ?_)
      refine z_if_ne (tgt := 96) hx hb dX10_lacksPart_89 (by decide) (by split <;> omega) (fun c_24 => ?_) (fun c_24 => ?_)
      · skip
        have qc_24 := if_ne0 c_24
        refine lv_iconst (v := iI (0)) hx hb dX10_lacksPart_96 rfl ?_
        have hP : va_P G.1 vwCl [(x0, .inr (11, [.ref w0, .ref a0, .ref b0, .ref y0, .ref e0, .ref f0, .ref s0, .ref g0, .ref r0, .ref t0, .ref v0, .int (iI rf)])), (a0, .inr (2, [.ref a1, .ref a2, .ref a3, .int (iI mk)])), (a1, .inl (gI G, 61, .inl (fun j : Nat => iI (sz (j : Int))))), (a2, .inl (gL G, 61, .inr (.inl (fun j : Nat => lI (va (j : Int)))))), (a3, .inl (gL G, 61, .inr (.inl (fun j : Nat => lI (ke (j : Int)))))), (b0, .inr (4, [.ref b1, .ref b2, .ref b3, .int (iI nk)])), (b1, .inl (gI G, 201, .inl (fun j : Nat => iI (ki (j : Int))))), (b2, .inl (gI G, 201, .inl (fun j : Nat => iI (fi (j : Int))))), (b3, .inl (gI G, 201, .inl (fun j : Nat => iI (se (j : Int)))))] H := hP.sub [0, 5, 6, 7, 8, 1, 2, 3, 4] rfl
        have hD : va_D A [(x0, .inr (11, [.ref w0, .ref a0, .ref b0, .ref y0, .ref e0, .ref f0, .ref s0, .ref g0, .ref r0, .ref t0, .ref v0, .int (iI rf)])), (a0, .inr (2, [.ref a1, .ref a2, .ref a3, .int (iI mk)])), (a1, .inl (gI G, 61, .inl (fun j : Nat => iI (sz (j : Int))))), (a2, .inl (gL G, 61, .inr (.inl (fun j : Nat => lI (va (j : Int)))))), (a3, .inl (gL G, 61, .inr (.inl (fun j : Nat => lI (ke (j : Int)))))), (b0, .inr (4, [.ref b1, .ref b2, .ref b3, .int (iI nk)])), (b1, .inl (gI G, 201, .inl (fun j : Nat => iI (ki (j : Int))))), (b2, .inl (gI G, 201, .inl (fun j : Nat => iI (fi (j : Int))))), (b3, .inl (gI G, 201, .inl (fun j : Nat => iI (se (j : Int)))))] := hD.sub [0, 5, 6, 7, 8, 1, 2, 3, 4] (by decide) rfl
        have r_25 : (0 : Int) = (if okN mk nk kd x y then 0 else 1) := by first | exact (if_pos (by omega)).symm | exact (if_neg (by omega)).symm
        rw [r_25]
        exact hret _ ls H locs dX10_lacksPart_97 hP hD hS
      · skip
        have qc_24 := if_eq0 c_24
        refine lv_iconst (v := iI (1)) hx hb dX10_lacksPart_92 rfl ?_
        refine lv_goto (tgt := 97) hx hb dX10_lacksPart_93 (by decide) ?_
        have hP : va_P G.1 vwCl [(x0, .inr (11, [.ref w0, .ref a0, .ref b0, .ref y0, .ref e0, .ref f0, .ref s0, .ref g0, .ref r0, .ref t0, .ref v0, .int (iI rf)])), (a0, .inr (2, [.ref a1, .ref a2, .ref a3, .int (iI mk)])), (a1, .inl (gI G, 61, .inl (fun j : Nat => iI (sz (j : Int))))), (a2, .inl (gL G, 61, .inr (.inl (fun j : Nat => lI (va (j : Int)))))), (a3, .inl (gL G, 61, .inr (.inl (fun j : Nat => lI (ke (j : Int)))))), (b0, .inr (4, [.ref b1, .ref b2, .ref b3, .int (iI nk)])), (b1, .inl (gI G, 201, .inl (fun j : Nat => iI (ki (j : Int))))), (b2, .inl (gI G, 201, .inl (fun j : Nat => iI (fi (j : Int))))), (b3, .inl (gI G, 201, .inl (fun j : Nat => iI (se (j : Int)))))] H := hP.sub [0, 5, 6, 7, 8, 1, 2, 3, 4] rfl
        have hD : va_D A [(x0, .inr (11, [.ref w0, .ref a0, .ref b0, .ref y0, .ref e0, .ref f0, .ref s0, .ref g0, .ref r0, .ref t0, .ref v0, .int (iI rf)])), (a0, .inr (2, [.ref a1, .ref a2, .ref a3, .int (iI mk)])), (a1, .inl (gI G, 61, .inl (fun j : Nat => iI (sz (j : Int))))), (a2, .inl (gL G, 61, .inr (.inl (fun j : Nat => lI (va (j : Int)))))), (a3, .inl (gL G, 61, .inr (.inl (fun j : Nat => lI (ke (j : Int)))))), (b0, .inr (4, [.ref b1, .ref b2, .ref b3, .int (iI nk)])), (b1, .inl (gI G, 201, .inl (fun j : Nat => iI (ki (j : Int))))), (b2, .inl (gI G, 201, .inl (fun j : Nat => iI (fi (j : Int))))), (b3, .inl (gI G, 201, .inl (fun j : Nat => iI (se (j : Int)))))] := hD.sub [0, 5, 6, 7, 8, 1, 2, 3, 4] (by decide) rfl
        have r_26 : (1 : Int) = (if okN mk nk kd x y then 0 else 1) := by first | exact (if_pos (by omega)).symm | exact (if_neg (by omega)).symm
        rw [r_26]
        exact hret _ ls H locs dX10_lacksPart_97 hP hD hS
  by_cases k_27 : kd = 5
  · skip
    refine z_tswIn (tgt := 70) hx hb dX10_lacksPart_1 (by omega) 5 k_27 (by decide) (off := 69) rfl (by decide) ?_
    refine lv_aload_n hx hb dX10_lacksPart_70 rfl (lv_at hl 0 rfl) ?_
    refine va_get (D := G.1) (ci := 11) (v := .ref a0) (C := RX10) (T := TX10) (N := 12) hx hb hts hiX10 hown hK hP 0 rfl rfl 1 (by decide) hw0 (fun _ h9 => h9) rfl dX10_lacksPart_71 ?_
    refine lv_iload_n hx hb dX10_lacksPart_74 rfl (lv_at hl 2 rfl) ?_
    refine z_cVi (RV := (if 1 ≤ x ∧ x ≤ mk then 1 else 0)) (As := [.int (iI x)]) (rest := []) (wc := [(a0, .inr (2, [.ref a1, .ref a2, .ref a3, .int (iI mk)])), (a1, .inl (gI G, 61, .inl (fun j : Nat => iI (sz (j : Int))))), (a2, .inl (gL G, 61, .inr (.inl (fun j : Nat => lI (va (j : Int)))))), (a3, .inl (gL G, 61, .inr (.inl (fun j : Nat => lI (ke (j : Int))))))]) (wr := [(x0, .inr (11, [.ref w0, .ref a0, .ref b0, .ref y0, .ref e0, .ref f0, .ref s0, .ref g0, .ref r0, .ref t0, .ref v0, .int (iI rf)])), (b0, .inr (4, [.ref b1, .ref b2, .ref b3, .int (iI nk)])), (b1, .inl (gI G, 201, .inl (fun j : Nat => iI (ki (j : Int))))), (b2, .inl (gI G, 201, .inl (fun j : Nat => iI (fi (j : Int))))), (b3, .inl (gI G, 201, .inl (fun j : Nat => iI (se (j : Int)))))]) (wn := [(x0, .inr (11, [.ref w0, .ref a0, .ref b0, .ref y0, .ref e0, .ref f0, .ref s0, .ref g0, .ref r0, .ref t0, .ref v0, .int (iI rf)])), (b0, .inr (4, [.ref b1, .ref b2, .ref b3, .int (iI nk)])), (b1, .inl (gI G, 201, .inl (fun j : Nat => iI (ki (j : Int))))), (b2, .inl (gI G, 201, .inl (fun j : Nat => iI (fi (j : Int))))), (b3, .inl (gI G, 201, .inl (fun j : Nat => iI (se (j : Int))))), (a0, .inr (2, [.ref a1, .ref a2, .ref a3, .int (iI mk)])), (a1, .inl (gI G, 61, .inl (fun j : Nat => iI (sz (j : Int))))), (a2, .inl (gL G, 61, .inr (.inl (fun j : Nat => lI (va (j : Int)))))), (a3, .inl (gL G, 61, .inr (.inl (fun j : Nat => lI (ke (j : Int))))))]) F C (c_X1_has l G H.size a0 a1 a2 a3 sz va ke mk x (by omega) (by omega)) (cwV 1 hts gX10_lacksPart_X1_has rfl rfl rfl (by decide +kernel) (by decide)) hP hD hS (q0 := 1) rfl rfl rfl [1, 2, 3, 4] [0, 5, 6, 7, 8] rfl rfl (by decide) rfl rfl hl.1 rfl (Nat.le_of_ble_eq_true rfl) dX10_lacksPart_75 (by decide) (fun H locs hP hD hS => ?_)
    refine z_if_eq (tgt := 92) hx hb dX10_lacksPart_78 (by decide) (by split <;> omega) (fun c_28 => ?_) (fun c_28 => ?_)
    · skip
      have qc_28 := if_eq0 c_28
      refine lv_iconst (v := iI (1)) hx hb dX10_lacksPart_92 rfl ?_
      refine lv_goto (tgt := 97) hx hb dX10_lacksPart_93 (by decide) ?_
      have hP : va_P G.1 vwCl [(x0, .inr (11, [.ref w0, .ref a0, .ref b0, .ref y0, .ref e0, .ref f0, .ref s0, .ref g0, .ref r0, .ref t0, .ref v0, .int (iI rf)])), (a0, .inr (2, [.ref a1, .ref a2, .ref a3, .int (iI mk)])), (a1, .inl (gI G, 61, .inl (fun j : Nat => iI (sz (j : Int))))), (a2, .inl (gL G, 61, .inr (.inl (fun j : Nat => lI (va (j : Int)))))), (a3, .inl (gL G, 61, .inr (.inl (fun j : Nat => lI (ke (j : Int)))))), (b0, .inr (4, [.ref b1, .ref b2, .ref b3, .int (iI nk)])), (b1, .inl (gI G, 201, .inl (fun j : Nat => iI (ki (j : Int))))), (b2, .inl (gI G, 201, .inl (fun j : Nat => iI (fi (j : Int))))), (b3, .inl (gI G, 201, .inl (fun j : Nat => iI (se (j : Int)))))] H := hP.sub [0, 5, 6, 7, 8, 1, 2, 3, 4] rfl
      have hD : va_D A [(x0, .inr (11, [.ref w0, .ref a0, .ref b0, .ref y0, .ref e0, .ref f0, .ref s0, .ref g0, .ref r0, .ref t0, .ref v0, .int (iI rf)])), (a0, .inr (2, [.ref a1, .ref a2, .ref a3, .int (iI mk)])), (a1, .inl (gI G, 61, .inl (fun j : Nat => iI (sz (j : Int))))), (a2, .inl (gL G, 61, .inr (.inl (fun j : Nat => lI (va (j : Int)))))), (a3, .inl (gL G, 61, .inr (.inl (fun j : Nat => lI (ke (j : Int)))))), (b0, .inr (4, [.ref b1, .ref b2, .ref b3, .int (iI nk)])), (b1, .inl (gI G, 201, .inl (fun j : Nat => iI (ki (j : Int))))), (b2, .inl (gI G, 201, .inl (fun j : Nat => iI (fi (j : Int))))), (b3, .inl (gI G, 201, .inl (fun j : Nat => iI (se (j : Int)))))] := hD.sub [0, 5, 6, 7, 8, 1, 2, 3, 4] (by decide) rfl
      have r_29 : (1 : Int) = (if okN mk nk kd x y then 0 else 1) := by first | exact (if_pos (by omega)).symm | exact (if_neg (by omega)).symm
      rw [r_29]
      exact hret _ ls H locs dX10_lacksPart_97 hP hD hS
    · skip
      have qc_28 := if_ne0 c_28
      refine lv_aload_n hx hb dX10_lacksPart_81 rfl (lv_at hl 0 rfl) ?_
      refine va_get (D := G.1) (ci := 11) (v := .ref a0) (C := RX10) (T := TX10) (N := 12) hx hb hts hiX10 hown hK hP 0 rfl rfl 1 (by decide) hw0 (fun _ h9 => h9) rfl dX10_lacksPart_82 ?_
      refine lv_iload_n hx hb dX10_lacksPart_85 rfl (lv_at hl 3 rfl) ?_
      refine z_cVi (RV := (if 1 ≤ y ∧ y ≤ mk then 1 else 0)) (As := [.int (iI y)]) (rest := []) (wc := [(a0, .inr (2, [.ref a1, .ref a2, .ref a3, .int (iI mk)])), (a1, .inl (gI G, 61, .inl (fun j : Nat => iI (sz (j : Int))))), (a2, .inl (gL G, 61, .inr (.inl (fun j : Nat => lI (va (j : Int)))))), (a3, .inl (gL G, 61, .inr (.inl (fun j : Nat => lI (ke (j : Int))))))]) (wr := [(x0, .inr (11, [.ref w0, .ref a0, .ref b0, .ref y0, .ref e0, .ref f0, .ref s0, .ref g0, .ref r0, .ref t0, .ref v0, .int (iI rf)])), (b0, .inr (4, [.ref b1, .ref b2, .ref b3, .int (iI nk)])), (b1, .inl (gI G, 201, .inl (fun j : Nat => iI (ki (j : Int))))), (b2, .inl (gI G, 201, .inl (fun j : Nat => iI (fi (j : Int))))), (b3, .inl (gI G, 201, .inl (fun j : Nat => iI (se (j : Int)))))]) (wn := [(x0, .inr (11, [.ref w0, .ref a0, .ref b0, .ref y0, .ref e0, .ref f0, .ref s0, .ref g0, .ref r0, .ref t0, .ref v0, .int (iI rf)])), (b0, .inr (4, [.ref b1, .ref b2, .ref b3, .int (iI nk)])), (b1, .inl (gI G, 201, .inl (fun j : Nat => iI (ki (j : Int))))), (b2, .inl (gI G, 201, .inl (fun j : Nat => iI (fi (j : Int))))), (b3, .inl (gI G, 201, .inl (fun j : Nat => iI (se (j : Int))))), (a0, .inr (2, [.ref a1, .ref a2, .ref a3, .int (iI mk)])), (a1, .inl (gI G, 61, .inl (fun j : Nat => iI (sz (j : Int))))), (a2, .inl (gL G, 61, .inr (.inl (fun j : Nat => lI (va (j : Int)))))), (a3, .inl (gL G, 61, .inr (.inl (fun j : Nat => lI (ke (j : Int))))))]) F C (c_X1_has l G H.size a0 a1 a2 a3 sz va ke mk y (by omega) (by omega)) (cwV 1 hts gX10_lacksPart_X1_has rfl rfl rfl (by decide +kernel) (by decide)) hP hD hS (q0 := 5) rfl rfl rfl [5, 6, 7, 8] [0, 1, 2, 3, 4] rfl rfl (by decide) rfl rfl hl.1 rfl (Nat.le_of_ble_eq_true rfl) dX10_lacksPart_86 (by decide) (fun H locs hP hD hS => ?_)
      refine z_if_ne (tgt := 96) hx hb dX10_lacksPart_89 (by decide) (by split <;> omega) (fun c_30 => ?_) (fun c_30 => ?_)
      · skip
        have qc_30 := if_ne0 c_30
        refine lv_iconst (v := iI (0)) hx hb dX10_lacksPart_96 rfl ?_
        have hP : va_P G.1 vwCl [(x0, .inr (11, [.ref w0, .ref a0, .ref b0, .ref y0, .ref e0, .ref f0, .ref s0, .ref g0, .ref r0, .ref t0, .ref v0, .int (iI rf)])), (a0, .inr (2, [.ref a1, .ref a2, .ref a3, .int (iI mk)])), (a1, .inl (gI G, 61, .inl (fun j : Nat => iI (sz (j : Int))))), (a2, .inl (gL G, 61, .inr (.inl (fun j : Nat => lI (va (j : Int)))))), (a3, .inl (gL G, 61, .inr (.inl (fun j : Nat => lI (ke (j : Int)))))), (b0, .inr (4, [.ref b1, .ref b2, .ref b3, .int (iI nk)])), (b1, .inl (gI G, 201, .inl (fun j : Nat => iI (ki (j : Int))))), (b2, .inl (gI G, 201, .inl (fun j : Nat => iI (fi (j : Int))))), (b3, .inl (gI G, 201, .inl (fun j : Nat => iI (se (j : Int)))))] H := hP.sub [0, 5, 6, 7, 8, 1, 2, 3, 4] rfl
        have hD : va_D A [(x0, .inr (11, [.ref w0, .ref a0, .ref b0, .ref y0, .ref e0, .ref f0, .ref s0, .ref g0, .ref r0, .ref t0, .ref v0, .int (iI rf)])), (a0, .inr (2, [.ref a1, .ref a2, .ref a3, .int (iI mk)])), (a1, .inl (gI G, 61, .inl (fun j : Nat => iI (sz (j : Int))))), (a2, .inl (gL G, 61, .inr (.inl (fun j : Nat => lI (va (j : Int)))))), (a3, .inl (gL G, 61, .inr (.inl (fun j : Nat => lI (ke (j : Int)))))), (b0, .inr (4, [.ref b1, .ref b2, .ref b3, .int (iI nk)])), (b1, .inl (gI G, 201, .inl (fun j : Nat => iI (ki (j : Int))))), (b2, .inl (gI G, 201, .inl (fun j : Nat => iI (fi (j : Int))))), (b3, .inl (gI G, 201, .inl (fun j : Nat => iI (se (j : Int)))))] := hD.sub [0, 5, 6, 7, 8, 1, 2, 3, 4] (by decide) rfl
        have r_31 : (0 : Int) = (if okN mk nk kd x y then 0 else 1) := by first | exact (if_pos (by omega)).symm | exact (if_neg (by omega)).symm
        rw [r_31]
        exact hret _ ls H locs dX10_lacksPart_97 hP hD hS
      · skip
        have qc_30 := if_eq0 c_30
        refine lv_iconst (v := iI (1)) hx hb dX10_lacksPart_92 rfl ?_
        refine lv_goto (tgt := 97) hx hb dX10_lacksPart_93 (by decide) ?_
        have hP : va_P G.1 vwCl [(x0, .inr (11, [.ref w0, .ref a0, .ref b0, .ref y0, .ref e0, .ref f0, .ref s0, .ref g0, .ref r0, .ref t0, .ref v0, .int (iI rf)])), (a0, .inr (2, [.ref a1, .ref a2, .ref a3, .int (iI mk)])), (a1, .inl (gI G, 61, .inl (fun j : Nat => iI (sz (j : Int))))), (a2, .inl (gL G, 61, .inr (.inl (fun j : Nat => lI (va (j : Int)))))), (a3, .inl (gL G, 61, .inr (.inl (fun j : Nat => lI (ke (j : Int)))))), (b0, .inr (4, [.ref b1, .ref b2, .ref b3, .int (iI nk)])), (b1, .inl (gI G, 201, .inl (fun j : Nat => iI (ki (j : Int))))), (b2, .inl (gI G, 201, .inl (fun j : Nat => iI (fi (j : Int))))), (b3, .inl (gI G, 201, .inl (fun j : Nat => iI (se (j : Int)))))] H := hP.sub [0, 5, 6, 7, 8, 1, 2, 3, 4] rfl
        have hD : va_D A [(x0, .inr (11, [.ref w0, .ref a0, .ref b0, .ref y0, .ref e0, .ref f0, .ref s0, .ref g0, .ref r0, .ref t0, .ref v0, .int (iI rf)])), (a0, .inr (2, [.ref a1, .ref a2, .ref a3, .int (iI mk)])), (a1, .inl (gI G, 61, .inl (fun j : Nat => iI (sz (j : Int))))), (a2, .inl (gL G, 61, .inr (.inl (fun j : Nat => lI (va (j : Int)))))), (a3, .inl (gL G, 61, .inr (.inl (fun j : Nat => lI (ke (j : Int)))))), (b0, .inr (4, [.ref b1, .ref b2, .ref b3, .int (iI nk)])), (b1, .inl (gI G, 201, .inl (fun j : Nat => iI (ki (j : Int))))), (b2, .inl (gI G, 201, .inl (fun j : Nat => iI (fi (j : Int))))), (b3, .inl (gI G, 201, .inl (fun j : Nat => iI (se (j : Int)))))] := hD.sub [0, 5, 6, 7, 8, 1, 2, 3, 4] (by decide) rfl
        have r_32 : (1 : Int) = (if okN mk nk kd x y then 0 else 1) := by first | exact (if_pos (by omega)).symm | exact (if_neg (by omega)).symm
        rw [r_32]
        exact hret _ ls H locs dX10_lacksPart_97 hP hD hS
  by_cases k_33 : kd = 6
  · skip
    refine z_tswIn (tgt := 98) hx hb dX10_lacksPart_1 (by omega) 6 k_33 (by decide) (off := 97) rfl (by decide) ?_
    refine lv_aload_n hx hb dX10_lacksPart_98 rfl (lv_at hl 0 rfl) ?_
    refine va_get (D := G.1) (ci := 11) (v := .ref b0) (C := RX10) (T := TX10) (N := 12) hx hb hts hiX10 hown hK hP 0 rfl rfl 2 (by decide) hw1 (fun _ h9 => h9) rfl dX10_lacksPart_99 ?_
    refine lv_iload_n hx hb dX10_lacksPart_102 rfl (lv_at hl 2 rfl) ?_
    refine z_cVi (RV := (if 1 ≤ x ∧ x ≤ nk then 1 else 0)) (As := [.int (iI x)]) (rest := []) (wc := [(b0, .inr (4, [.ref b1, .ref b2, .ref b3, .int (iI nk)])), (b1, .inl (gI G, 201, .inl (fun j : Nat => iI (ki (j : Int))))), (b2, .inl (gI G, 201, .inl (fun j : Nat => iI (fi (j : Int))))), (b3, .inl (gI G, 201, .inl (fun j : Nat => iI (se (j : Int)))))]) (wr := [(x0, .inr (11, [.ref w0, .ref a0, .ref b0, .ref y0, .ref e0, .ref f0, .ref s0, .ref g0, .ref r0, .ref t0, .ref v0, .int (iI rf)])), (a0, .inr (2, [.ref a1, .ref a2, .ref a3, .int (iI mk)])), (a1, .inl (gI G, 61, .inl (fun j : Nat => iI (sz (j : Int))))), (a2, .inl (gL G, 61, .inr (.inl (fun j : Nat => lI (va (j : Int)))))), (a3, .inl (gL G, 61, .inr (.inl (fun j : Nat => lI (ke (j : Int))))))]) (wn := [(x0, .inr (11, [.ref w0, .ref a0, .ref b0, .ref y0, .ref e0, .ref f0, .ref s0, .ref g0, .ref r0, .ref t0, .ref v0, .int (iI rf)])), (a0, .inr (2, [.ref a1, .ref a2, .ref a3, .int (iI mk)])), (a1, .inl (gI G, 61, .inl (fun j : Nat => iI (sz (j : Int))))), (a2, .inl (gL G, 61, .inr (.inl (fun j : Nat => lI (va (j : Int)))))), (a3, .inl (gL G, 61, .inr (.inl (fun j : Nat => lI (ke (j : Int)))))), (b0, .inr (4, [.ref b1, .ref b2, .ref b3, .int (iI nk)])), (b1, .inl (gI G, 201, .inl (fun j : Nat => iI (ki (j : Int))))), (b2, .inl (gI G, 201, .inl (fun j : Nat => iI (fi (j : Int))))), (b3, .inl (gI G, 201, .inl (fun j : Nat => iI (se (j : Int)))))]) F C (c_X3_has l G H.size b0 b1 b2 b3 ki fi se nk x (by omega) (by omega)) (cwV 1 hts gX10_lacksPart_X3_has rfl rfl rfl (by decide +kernel) (by decide)) hP hD hS (q0 := 5) rfl rfl rfl [5, 6, 7, 8] [0, 1, 2, 3, 4] rfl rfl (by decide) rfl rfl hl.1 rfl (Nat.le_of_ble_eq_true rfl) dX10_lacksPart_103 (by decide) (fun H locs hP hD hS => ?_)
    refine z_if_eq (tgt := 120) hx hb dX10_lacksPart_106 (by decide) (by split <;> omega) (fun c_34 => ?_) (fun c_34 => ?_)
    · skip
      have qc_34 := if_eq0 c_34
      refine lv_iconst (v := iI (1)) hx hb dX10_lacksPart_120 rfl ?_
      refine lv_goto (tgt := 125) hx hb dX10_lacksPart_121 (by decide) ?_
      have r_35 : (1 : Int) = (if okN mk nk kd x y then 0 else 1) := by first | exact (if_pos (by omega)).symm | exact (if_neg (by omega)).symm
      rw [r_35]
      exact hret _ ls H locs dX10_lacksPart_125 hP hD hS
    · skip
      have qc_34 := if_ne0 c_34
      refine lv_aload_n hx hb dX10_lacksPart_109 rfl (lv_at hl 0 rfl) ?_
      refine va_get (D := G.1) (ci := 11) (v := .ref b0) (C := RX10) (T := TX10) (N := 12) hx hb hts hiX10 hown hK hP 0 rfl rfl 2 (by decide) hw1 (fun _ h9 => h9) rfl dX10_lacksPart_110 ?_
      refine lv_iload_n hx hb dX10_lacksPart_113 rfl (lv_at hl 3 rfl) ?_
      refine z_cVi (RV := (if 1 ≤ y ∧ y ≤ nk then 1 else 0)) (As := [.int (iI y)]) (rest := []) (wc := [(b0, .inr (4, [.ref b1, .ref b2, .ref b3, .int (iI nk)])), (b1, .inl (gI G, 201, .inl (fun j : Nat => iI (ki (j : Int))))), (b2, .inl (gI G, 201, .inl (fun j : Nat => iI (fi (j : Int))))), (b3, .inl (gI G, 201, .inl (fun j : Nat => iI (se (j : Int)))))]) (wr := [(x0, .inr (11, [.ref w0, .ref a0, .ref b0, .ref y0, .ref e0, .ref f0, .ref s0, .ref g0, .ref r0, .ref t0, .ref v0, .int (iI rf)])), (a0, .inr (2, [.ref a1, .ref a2, .ref a3, .int (iI mk)])), (a1, .inl (gI G, 61, .inl (fun j : Nat => iI (sz (j : Int))))), (a2, .inl (gL G, 61, .inr (.inl (fun j : Nat => lI (va (j : Int)))))), (a3, .inl (gL G, 61, .inr (.inl (fun j : Nat => lI (ke (j : Int))))))]) (wn := [(x0, .inr (11, [.ref w0, .ref a0, .ref b0, .ref y0, .ref e0, .ref f0, .ref s0, .ref g0, .ref r0, .ref t0, .ref v0, .int (iI rf)])), (a0, .inr (2, [.ref a1, .ref a2, .ref a3, .int (iI mk)])), (a1, .inl (gI G, 61, .inl (fun j : Nat => iI (sz (j : Int))))), (a2, .inl (gL G, 61, .inr (.inl (fun j : Nat => lI (va (j : Int)))))), (a3, .inl (gL G, 61, .inr (.inl (fun j : Nat => lI (ke (j : Int)))))), (b0, .inr (4, [.ref b1, .ref b2, .ref b3, .int (iI nk)])), (b1, .inl (gI G, 201, .inl (fun j : Nat => iI (ki (j : Int))))), (b2, .inl (gI G, 201, .inl (fun j : Nat => iI (fi (j : Int))))), (b3, .inl (gI G, 201, .inl (fun j : Nat => iI (se (j : Int)))))]) F C (c_X3_has l G H.size b0 b1 b2 b3 ki fi se nk y (by omega) (by omega)) (cwV 1 hts gX10_lacksPart_X3_has rfl rfl rfl (by decide +kernel) (by decide)) hP hD hS (q0 := 5) rfl rfl rfl [5, 6, 7, 8] [0, 1, 2, 3, 4] rfl rfl (by decide) rfl rfl hl.1 rfl (Nat.le_of_ble_eq_true rfl) dX10_lacksPart_114 (by decide) (fun H locs hP hD hS => ?_)
      refine z_if_ne (tgt := 124) hx hb dX10_lacksPart_117 (by decide) (by split <;> omega) (fun c_36 => ?_) (fun c_36 => ?_)
      · skip
        have qc_36 := if_ne0 c_36
        refine lv_iconst (v := iI (0)) hx hb dX10_lacksPart_124 rfl ?_
        have r_37 : (0 : Int) = (if okN mk nk kd x y then 0 else 1) := by first | exact (if_pos (by omega)).symm | exact (if_neg (by omega)).symm
        rw [r_37]
        exact hret _ ls H locs dX10_lacksPart_125 hP hD hS
      · skip
        have qc_36 := if_eq0 c_36
        refine lv_iconst (v := iI (1)) hx hb dX10_lacksPart_120 rfl ?_
        refine lv_goto (tgt := 125) hx hb dX10_lacksPart_121 (by decide) ?_
        have r_38 : (1 : Int) = (if okN mk nk kd x y then 0 else 1) := by first | exact (if_pos (by omega)).symm | exact (if_neg (by omega)).symm
        rw [r_38]
        exact hret _ ls H locs dX10_lacksPart_125 hP hD hS
  by_cases k_39 : kd = 7
  · skip
    refine z_tswIn (tgt := 126) hx hb dX10_lacksPart_1 (by omega) 7 k_39 (by decide) (off := 125) rfl (by decide) ?_
    refine lv_aload_n hx hb dX10_lacksPart_126 rfl (lv_at hl 0 rfl) ?_
    refine va_get (D := G.1) (ci := 11) (v := .ref a0) (C := RX10) (T := TX10) (N := 12) hx hb hts hiX10 hown hK hP 0 rfl rfl 1 (by decide) hw0 (fun _ h9 => h9) rfl dX10_lacksPart_127 ?_
    refine lv_iload_n hx hb dX10_lacksPart_130 rfl (lv_at hl 2 rfl) ?_
    refine z_cVi (RV := (if 1 ≤ x ∧ x ≤ mk then 1 else 0)) (As := [.int (iI x)]) (rest := []) (wc := [(a0, .inr (2, [.ref a1, .ref a2, .ref a3, .int (iI mk)])), (a1, .inl (gI G, 61, .inl (fun j : Nat => iI (sz (j : Int))))), (a2, .inl (gL G, 61, .inr (.inl (fun j : Nat => lI (va (j : Int)))))), (a3, .inl (gL G, 61, .inr (.inl (fun j : Nat => lI (ke (j : Int))))))]) (wr := [(x0, .inr (11, [.ref w0, .ref a0, .ref b0, .ref y0, .ref e0, .ref f0, .ref s0, .ref g0, .ref r0, .ref t0, .ref v0, .int (iI rf)])), (b0, .inr (4, [.ref b1, .ref b2, .ref b3, .int (iI nk)])), (b1, .inl (gI G, 201, .inl (fun j : Nat => iI (ki (j : Int))))), (b2, .inl (gI G, 201, .inl (fun j : Nat => iI (fi (j : Int))))), (b3, .inl (gI G, 201, .inl (fun j : Nat => iI (se (j : Int)))))]) (wn := [(x0, .inr (11, [.ref w0, .ref a0, .ref b0, .ref y0, .ref e0, .ref f0, .ref s0, .ref g0, .ref r0, .ref t0, .ref v0, .int (iI rf)])), (b0, .inr (4, [.ref b1, .ref b2, .ref b3, .int (iI nk)])), (b1, .inl (gI G, 201, .inl (fun j : Nat => iI (ki (j : Int))))), (b2, .inl (gI G, 201, .inl (fun j : Nat => iI (fi (j : Int))))), (b3, .inl (gI G, 201, .inl (fun j : Nat => iI (se (j : Int))))), (a0, .inr (2, [.ref a1, .ref a2, .ref a3, .int (iI mk)])), (a1, .inl (gI G, 61, .inl (fun j : Nat => iI (sz (j : Int))))), (a2, .inl (gL G, 61, .inr (.inl (fun j : Nat => lI (va (j : Int)))))), (a3, .inl (gL G, 61, .inr (.inl (fun j : Nat => lI (ke (j : Int))))))]) F C (c_X1_has l G H.size a0 a1 a2 a3 sz va ke mk x (by omega) (by omega)) (cwV 1 hts gX10_lacksPart_X1_has rfl rfl rfl (by decide +kernel) (by decide)) hP hD hS (q0 := 1) rfl rfl rfl [1, 2, 3, 4] [0, 5, 6, 7, 8] rfl rfl (by decide) rfl rfl hl.1 rfl (Nat.le_of_ble_eq_true rfl) dX10_lacksPart_131 (by decide) (fun H locs hP hD hS => ?_)
    refine z_if_eq (tgt := 148) hx hb dX10_lacksPart_134 (by decide) (by split <;> omega) (fun c_40 => ?_) (fun c_40 => ?_)
    · skip
      have qc_40 := if_eq0 c_40
      refine lv_iconst (v := iI (1)) hx hb dX10_lacksPart_148 rfl ?_
      refine lv_goto (tgt := 153) hx hb dX10_lacksPart_149 (by decide) ?_
      have hP : va_P G.1 vwCl [(x0, .inr (11, [.ref w0, .ref a0, .ref b0, .ref y0, .ref e0, .ref f0, .ref s0, .ref g0, .ref r0, .ref t0, .ref v0, .int (iI rf)])), (a0, .inr (2, [.ref a1, .ref a2, .ref a3, .int (iI mk)])), (a1, .inl (gI G, 61, .inl (fun j : Nat => iI (sz (j : Int))))), (a2, .inl (gL G, 61, .inr (.inl (fun j : Nat => lI (va (j : Int)))))), (a3, .inl (gL G, 61, .inr (.inl (fun j : Nat => lI (ke (j : Int)))))), (b0, .inr (4, [.ref b1, .ref b2, .ref b3, .int (iI nk)])), (b1, .inl (gI G, 201, .inl (fun j : Nat => iI (ki (j : Int))))), (b2, .inl (gI G, 201, .inl (fun j : Nat => iI (fi (j : Int))))), (b3, .inl (gI G, 201, .inl (fun j : Nat => iI (se (j : Int)))))] H := hP.sub [0, 5, 6, 7, 8, 1, 2, 3, 4] rfl
      have hD : va_D A [(x0, .inr (11, [.ref w0, .ref a0, .ref b0, .ref y0, .ref e0, .ref f0, .ref s0, .ref g0, .ref r0, .ref t0, .ref v0, .int (iI rf)])), (a0, .inr (2, [.ref a1, .ref a2, .ref a3, .int (iI mk)])), (a1, .inl (gI G, 61, .inl (fun j : Nat => iI (sz (j : Int))))), (a2, .inl (gL G, 61, .inr (.inl (fun j : Nat => lI (va (j : Int)))))), (a3, .inl (gL G, 61, .inr (.inl (fun j : Nat => lI (ke (j : Int)))))), (b0, .inr (4, [.ref b1, .ref b2, .ref b3, .int (iI nk)])), (b1, .inl (gI G, 201, .inl (fun j : Nat => iI (ki (j : Int))))), (b2, .inl (gI G, 201, .inl (fun j : Nat => iI (fi (j : Int))))), (b3, .inl (gI G, 201, .inl (fun j : Nat => iI (se (j : Int)))))] := hD.sub [0, 5, 6, 7, 8, 1, 2, 3, 4] (by decide) rfl
      have r_41 : (1 : Int) = (if okN mk nk kd x y then 0 else 1) := by first | exact (if_pos (by omega)).symm | exact (if_neg (by omega)).symm
      rw [r_41]
      exact hret _ ls H locs dX10_lacksPart_153 hP hD hS
    · skip
      have qc_40 := if_ne0 c_40
      refine lv_aload_n hx hb dX10_lacksPart_137 rfl (lv_at hl 0 rfl) ?_
      refine va_get (D := G.1) (ci := 11) (v := .ref b0) (C := RX10) (T := TX10) (N := 12) hx hb hts hiX10 hown hK hP 0 rfl rfl 2 (by decide) hw1 (fun _ h9 => h9) rfl dX10_lacksPart_138 ?_
      refine lv_iload_n hx hb dX10_lacksPart_141 rfl (lv_at hl 3 rfl) ?_
      refine z_cVi (RV := (if 1 ≤ y ∧ y ≤ nk then 1 else 0)) (As := [.int (iI y)]) (rest := []) (wc := [(b0, .inr (4, [.ref b1, .ref b2, .ref b3, .int (iI nk)])), (b1, .inl (gI G, 201, .inl (fun j : Nat => iI (ki (j : Int))))), (b2, .inl (gI G, 201, .inl (fun j : Nat => iI (fi (j : Int))))), (b3, .inl (gI G, 201, .inl (fun j : Nat => iI (se (j : Int)))))]) (wr := [(x0, .inr (11, [.ref w0, .ref a0, .ref b0, .ref y0, .ref e0, .ref f0, .ref s0, .ref g0, .ref r0, .ref t0, .ref v0, .int (iI rf)])), (a0, .inr (2, [.ref a1, .ref a2, .ref a3, .int (iI mk)])), (a1, .inl (gI G, 61, .inl (fun j : Nat => iI (sz (j : Int))))), (a2, .inl (gL G, 61, .inr (.inl (fun j : Nat => lI (va (j : Int)))))), (a3, .inl (gL G, 61, .inr (.inl (fun j : Nat => lI (ke (j : Int))))))]) (wn := [(x0, .inr (11, [.ref w0, .ref a0, .ref b0, .ref y0, .ref e0, .ref f0, .ref s0, .ref g0, .ref r0, .ref t0, .ref v0, .int (iI rf)])), (a0, .inr (2, [.ref a1, .ref a2, .ref a3, .int (iI mk)])), (a1, .inl (gI G, 61, .inl (fun j : Nat => iI (sz (j : Int))))), (a2, .inl (gL G, 61, .inr (.inl (fun j : Nat => lI (va (j : Int)))))), (a3, .inl (gL G, 61, .inr (.inl (fun j : Nat => lI (ke (j : Int)))))), (b0, .inr (4, [.ref b1, .ref b2, .ref b3, .int (iI nk)])), (b1, .inl (gI G, 201, .inl (fun j : Nat => iI (ki (j : Int))))), (b2, .inl (gI G, 201, .inl (fun j : Nat => iI (fi (j : Int))))), (b3, .inl (gI G, 201, .inl (fun j : Nat => iI (se (j : Int)))))]) F C (c_X3_has l G H.size b0 b1 b2 b3 ki fi se nk y (by omega) (by omega)) (cwV 1 hts gX10_lacksPart_X3_has rfl rfl rfl (by decide +kernel) (by decide)) hP hD hS (q0 := 1) rfl rfl rfl [1, 2, 3, 4] [0, 5, 6, 7, 8] rfl rfl (by decide) rfl rfl hl.1 rfl (Nat.le_of_ble_eq_true rfl) dX10_lacksPart_142 (by decide) (fun H locs hP hD hS => ?_)
      refine z_if_ne (tgt := 152) hx hb dX10_lacksPart_145 (by decide) (by split <;> omega) (fun c_42 => ?_) (fun c_42 => ?_)
      · skip
        have qc_42 := if_ne0 c_42
        refine lv_iconst (v := iI (0)) hx hb dX10_lacksPart_152 rfl ?_
        have r_43 : (0 : Int) = (if okN mk nk kd x y then 0 else 1) := by first | exact (if_pos (by omega)).symm | exact (if_neg (by omega)).symm
        rw [r_43]
        exact hret _ ls H locs dX10_lacksPart_153 hP hD hS
      · skip
        have qc_42 := if_eq0 c_42
        refine lv_iconst (v := iI (1)) hx hb dX10_lacksPart_148 rfl ?_
        refine lv_goto (tgt := 153) hx hb dX10_lacksPart_149 (by decide) ?_
        have r_44 : (1 : Int) = (if okN mk nk kd x y then 0 else 1) := by first | exact (if_pos (by omega)).symm | exact (if_neg (by omega)).symm
        rw [r_44]
        exact hret _ ls H locs dX10_lacksPart_153 hP hD hS
  by_cases k_45 : kd = 8
  · skip
    refine z_tswIn (tgt := 126) hx hb dX10_lacksPart_1 (by omega) 8 k_45 (by decide) (off := 125) rfl (by decide) ?_
    refine lv_aload_n hx hb dX10_lacksPart_126 rfl (lv_at hl 0 rfl) ?_
    refine va_get (D := G.1) (ci := 11) (v := .ref a0) (C := RX10) (T := TX10) (N := 12) hx hb hts hiX10 hown hK hP 0 rfl rfl 1 (by decide) hw0 (fun _ h9 => h9) rfl dX10_lacksPart_127 ?_
    refine lv_iload_n hx hb dX10_lacksPart_130 rfl (lv_at hl 2 rfl) ?_
    refine z_cVi (RV := (if 1 ≤ x ∧ x ≤ mk then 1 else 0)) (As := [.int (iI x)]) (rest := []) (wc := [(a0, .inr (2, [.ref a1, .ref a2, .ref a3, .int (iI mk)])), (a1, .inl (gI G, 61, .inl (fun j : Nat => iI (sz (j : Int))))), (a2, .inl (gL G, 61, .inr (.inl (fun j : Nat => lI (va (j : Int)))))), (a3, .inl (gL G, 61, .inr (.inl (fun j : Nat => lI (ke (j : Int))))))]) (wr := [(x0, .inr (11, [.ref w0, .ref a0, .ref b0, .ref y0, .ref e0, .ref f0, .ref s0, .ref g0, .ref r0, .ref t0, .ref v0, .int (iI rf)])), (b0, .inr (4, [.ref b1, .ref b2, .ref b3, .int (iI nk)])), (b1, .inl (gI G, 201, .inl (fun j : Nat => iI (ki (j : Int))))), (b2, .inl (gI G, 201, .inl (fun j : Nat => iI (fi (j : Int))))), (b3, .inl (gI G, 201, .inl (fun j : Nat => iI (se (j : Int)))))]) (wn := [(x0, .inr (11, [.ref w0, .ref a0, .ref b0, .ref y0, .ref e0, .ref f0, .ref s0, .ref g0, .ref r0, .ref t0, .ref v0, .int (iI rf)])), (b0, .inr (4, [.ref b1, .ref b2, .ref b3, .int (iI nk)])), (b1, .inl (gI G, 201, .inl (fun j : Nat => iI (ki (j : Int))))), (b2, .inl (gI G, 201, .inl (fun j : Nat => iI (fi (j : Int))))), (b3, .inl (gI G, 201, .inl (fun j : Nat => iI (se (j : Int))))), (a0, .inr (2, [.ref a1, .ref a2, .ref a3, .int (iI mk)])), (a1, .inl (gI G, 61, .inl (fun j : Nat => iI (sz (j : Int))))), (a2, .inl (gL G, 61, .inr (.inl (fun j : Nat => lI (va (j : Int)))))), (a3, .inl (gL G, 61, .inr (.inl (fun j : Nat => lI (ke (j : Int))))))]) F C (c_X1_has l G H.size a0 a1 a2 a3 sz va ke mk x (by omega) (by omega)) (cwV 1 hts gX10_lacksPart_X1_has rfl rfl rfl (by decide +kernel) (by decide)) hP hD hS (q0 := 1) rfl rfl rfl [1, 2, 3, 4] [0, 5, 6, 7, 8] rfl rfl (by decide) rfl rfl hl.1 rfl (Nat.le_of_ble_eq_true rfl) dX10_lacksPart_131 (by decide) (fun H locs hP hD hS => ?_)
    refine z_if_eq (tgt := 148) hx hb dX10_lacksPart_134 (by decide) (by split <;> omega) (fun c_46 => ?_) (fun c_46 => ?_)
    · skip
      have qc_46 := if_eq0 c_46
      refine lv_iconst (v := iI (1)) hx hb dX10_lacksPart_148 rfl ?_
      refine lv_goto (tgt := 153) hx hb dX10_lacksPart_149 (by decide) ?_
      have hP : va_P G.1 vwCl [(x0, .inr (11, [.ref w0, .ref a0, .ref b0, .ref y0, .ref e0, .ref f0, .ref s0, .ref g0, .ref r0, .ref t0, .ref v0, .int (iI rf)])), (a0, .inr (2, [.ref a1, .ref a2, .ref a3, .int (iI mk)])), (a1, .inl (gI G, 61, .inl (fun j : Nat => iI (sz (j : Int))))), (a2, .inl (gL G, 61, .inr (.inl (fun j : Nat => lI (va (j : Int)))))), (a3, .inl (gL G, 61, .inr (.inl (fun j : Nat => lI (ke (j : Int)))))), (b0, .inr (4, [.ref b1, .ref b2, .ref b3, .int (iI nk)])), (b1, .inl (gI G, 201, .inl (fun j : Nat => iI (ki (j : Int))))), (b2, .inl (gI G, 201, .inl (fun j : Nat => iI (fi (j : Int))))), (b3, .inl (gI G, 201, .inl (fun j : Nat => iI (se (j : Int)))))] H := hP.sub [0, 5, 6, 7, 8, 1, 2, 3, 4] rfl
      have hD : va_D A [(x0, .inr (11, [.ref w0, .ref a0, .ref b0, .ref y0, .ref e0, .ref f0, .ref s0, .ref g0, .ref r0, .ref t0, .ref v0, .int (iI rf)])), (a0, .inr (2, [.ref a1, .ref a2, .ref a3, .int (iI mk)])), (a1, .inl (gI G, 61, .inl (fun j : Nat => iI (sz (j : Int))))), (a2, .inl (gL G, 61, .inr (.inl (fun j : Nat => lI (va (j : Int)))))), (a3, .inl (gL G, 61, .inr (.inl (fun j : Nat => lI (ke (j : Int)))))), (b0, .inr (4, [.ref b1, .ref b2, .ref b3, .int (iI nk)])), (b1, .inl (gI G, 201, .inl (fun j : Nat => iI (ki (j : Int))))), (b2, .inl (gI G, 201, .inl (fun j : Nat => iI (fi (j : Int))))), (b3, .inl (gI G, 201, .inl (fun j : Nat => iI (se (j : Int)))))] := hD.sub [0, 5, 6, 7, 8, 1, 2, 3, 4] (by decide) rfl
      have r_47 : (1 : Int) = (if okN mk nk kd x y then 0 else 1) := by first | exact (if_pos (by omega)).symm | exact (if_neg (by omega)).symm
      rw [r_47]
      exact hret _ ls H locs dX10_lacksPart_153 hP hD hS
    · skip
      have qc_46 := if_ne0 c_46
      refine lv_aload_n hx hb dX10_lacksPart_137 rfl (lv_at hl 0 rfl) ?_
      refine va_get (D := G.1) (ci := 11) (v := .ref b0) (C := RX10) (T := TX10) (N := 12) hx hb hts hiX10 hown hK hP 0 rfl rfl 2 (by decide) hw1 (fun _ h9 => h9) rfl dX10_lacksPart_138 ?_
      refine lv_iload_n hx hb dX10_lacksPart_141 rfl (lv_at hl 3 rfl) ?_
      refine z_cVi (RV := (if 1 ≤ y ∧ y ≤ nk then 1 else 0)) (As := [.int (iI y)]) (rest := []) (wc := [(b0, .inr (4, [.ref b1, .ref b2, .ref b3, .int (iI nk)])), (b1, .inl (gI G, 201, .inl (fun j : Nat => iI (ki (j : Int))))), (b2, .inl (gI G, 201, .inl (fun j : Nat => iI (fi (j : Int))))), (b3, .inl (gI G, 201, .inl (fun j : Nat => iI (se (j : Int)))))]) (wr := [(x0, .inr (11, [.ref w0, .ref a0, .ref b0, .ref y0, .ref e0, .ref f0, .ref s0, .ref g0, .ref r0, .ref t0, .ref v0, .int (iI rf)])), (a0, .inr (2, [.ref a1, .ref a2, .ref a3, .int (iI mk)])), (a1, .inl (gI G, 61, .inl (fun j : Nat => iI (sz (j : Int))))), (a2, .inl (gL G, 61, .inr (.inl (fun j : Nat => lI (va (j : Int)))))), (a3, .inl (gL G, 61, .inr (.inl (fun j : Nat => lI (ke (j : Int))))))]) (wn := [(x0, .inr (11, [.ref w0, .ref a0, .ref b0, .ref y0, .ref e0, .ref f0, .ref s0, .ref g0, .ref r0, .ref t0, .ref v0, .int (iI rf)])), (a0, .inr (2, [.ref a1, .ref a2, .ref a3, .int (iI mk)])), (a1, .inl (gI G, 61, .inl (fun j : Nat => iI (sz (j : Int))))), (a2, .inl (gL G, 61, .inr (.inl (fun j : Nat => lI (va (j : Int)))))), (a3, .inl (gL G, 61, .inr (.inl (fun j : Nat => lI (ke (j : Int)))))), (b0, .inr (4, [.ref b1, .ref b2, .ref b3, .int (iI nk)])), (b1, .inl (gI G, 201, .inl (fun j : Nat => iI (ki (j : Int))))), (b2, .inl (gI G, 201, .inl (fun j : Nat => iI (fi (j : Int))))), (b3, .inl (gI G, 201, .inl (fun j : Nat => iI (se (j : Int)))))]) F C (c_X3_has l G H.size b0 b1 b2 b3 ki fi se nk y (by omega) (by omega)) (cwV 1 hts gX10_lacksPart_X3_has rfl rfl rfl (by decide +kernel) (by decide)) hP hD hS (q0 := 1) rfl rfl rfl [1, 2, 3, 4] [0, 5, 6, 7, 8] rfl rfl (by decide) rfl rfl hl.1 rfl (Nat.le_of_ble_eq_true rfl) dX10_lacksPart_142 (by decide) (fun H locs hP hD hS => ?_)
      refine z_if_ne (tgt := 152) hx hb dX10_lacksPart_145 (by decide) (by split <;> omega) (fun c_48 => ?_) (fun c_48 => ?_)
      · skip
        have qc_48 := if_ne0 c_48
        refine lv_iconst (v := iI (0)) hx hb dX10_lacksPart_152 rfl ?_
        have r_49 : (0 : Int) = (if okN mk nk kd x y then 0 else 1) := by first | exact (if_pos (by omega)).symm | exact (if_neg (by omega)).symm
        rw [r_49]
        exact hret _ ls H locs dX10_lacksPart_153 hP hD hS
      · skip
        have qc_48 := if_eq0 c_48
        refine lv_iconst (v := iI (1)) hx hb dX10_lacksPart_148 rfl ?_
        refine lv_goto (tgt := 153) hx hb dX10_lacksPart_149 (by decide) ?_
        have r_50 : (1 : Int) = (if okN mk nk kd x y then 0 else 1) := by first | exact (if_pos (by omega)).symm | exact (if_neg (by omega)).symm
        rw [r_50]
        exact hret _ ls H locs dX10_lacksPart_153 hP hD hS
  by_cases k_51 : kd = 9
  · skip
    refine z_tswIn (tgt := 154) hx hb dX10_lacksPart_1 (by omega) 9 k_51 (by decide) (off := 153) rfl (by decide) ?_
    refine lv_aload_n hx hb dX10_lacksPart_154 rfl (lv_at hl 0 rfl) ?_
    refine va_get (D := G.1) (ci := 11) (v := .ref a0) (C := RX10) (T := TX10) (N := 12) hx hb hts hiX10 hown hK hP 0 rfl rfl 1 (by decide) hw0 (fun _ h9 => h9) rfl dX10_lacksPart_155 ?_
    refine lv_iload_n hx hb dX10_lacksPart_158 rfl (lv_at hl 2 rfl) ?_
    refine z_cVi (RV := (if 1 ≤ x ∧ x ≤ mk then 1 else 0)) (As := [.int (iI x)]) (rest := []) (wc := [(a0, .inr (2, [.ref a1, .ref a2, .ref a3, .int (iI mk)])), (a1, .inl (gI G, 61, .inl (fun j : Nat => iI (sz (j : Int))))), (a2, .inl (gL G, 61, .inr (.inl (fun j : Nat => lI (va (j : Int)))))), (a3, .inl (gL G, 61, .inr (.inl (fun j : Nat => lI (ke (j : Int))))))]) (wr := [(x0, .inr (11, [.ref w0, .ref a0, .ref b0, .ref y0, .ref e0, .ref f0, .ref s0, .ref g0, .ref r0, .ref t0, .ref v0, .int (iI rf)])), (b0, .inr (4, [.ref b1, .ref b2, .ref b3, .int (iI nk)])), (b1, .inl (gI G, 201, .inl (fun j : Nat => iI (ki (j : Int))))), (b2, .inl (gI G, 201, .inl (fun j : Nat => iI (fi (j : Int))))), (b3, .inl (gI G, 201, .inl (fun j : Nat => iI (se (j : Int)))))]) (wn := [(x0, .inr (11, [.ref w0, .ref a0, .ref b0, .ref y0, .ref e0, .ref f0, .ref s0, .ref g0, .ref r0, .ref t0, .ref v0, .int (iI rf)])), (b0, .inr (4, [.ref b1, .ref b2, .ref b3, .int (iI nk)])), (b1, .inl (gI G, 201, .inl (fun j : Nat => iI (ki (j : Int))))), (b2, .inl (gI G, 201, .inl (fun j : Nat => iI (fi (j : Int))))), (b3, .inl (gI G, 201, .inl (fun j : Nat => iI (se (j : Int))))), (a0, .inr (2, [.ref a1, .ref a2, .ref a3, .int (iI mk)])), (a1, .inl (gI G, 61, .inl (fun j : Nat => iI (sz (j : Int))))), (a2, .inl (gL G, 61, .inr (.inl (fun j : Nat => lI (va (j : Int)))))), (a3, .inl (gL G, 61, .inr (.inl (fun j : Nat => lI (ke (j : Int))))))]) F C (c_X1_has l G H.size a0 a1 a2 a3 sz va ke mk x (by omega) (by omega)) (cwV 1 hts gX10_lacksPart_X1_has rfl rfl rfl (by decide +kernel) (by decide)) hP hD hS (q0 := 1) rfl rfl rfl [1, 2, 3, 4] [0, 5, 6, 7, 8] rfl rfl (by decide) rfl rfl hl.1 rfl (Nat.le_of_ble_eq_true rfl) dX10_lacksPart_159 (by decide) (fun H locs hP hD hS => ?_)
    refine z_if_ne (tgt := 169) hx hb dX10_lacksPart_162 (by decide) (by split <;> omega) (fun c_52 => ?_) (fun c_52 => ?_)
    · skip
      have qc_52 := if_ne0 c_52
      refine lv_iconst (v := iI (0)) hx hb dX10_lacksPart_169 rfl ?_
      have hP : va_P G.1 vwCl [(x0, .inr (11, [.ref w0, .ref a0, .ref b0, .ref y0, .ref e0, .ref f0, .ref s0, .ref g0, .ref r0, .ref t0, .ref v0, .int (iI rf)])), (a0, .inr (2, [.ref a1, .ref a2, .ref a3, .int (iI mk)])), (a1, .inl (gI G, 61, .inl (fun j : Nat => iI (sz (j : Int))))), (a2, .inl (gL G, 61, .inr (.inl (fun j : Nat => lI (va (j : Int)))))), (a3, .inl (gL G, 61, .inr (.inl (fun j : Nat => lI (ke (j : Int)))))), (b0, .inr (4, [.ref b1, .ref b2, .ref b3, .int (iI nk)])), (b1, .inl (gI G, 201, .inl (fun j : Nat => iI (ki (j : Int))))), (b2, .inl (gI G, 201, .inl (fun j : Nat => iI (fi (j : Int))))), (b3, .inl (gI G, 201, .inl (fun j : Nat => iI (se (j : Int)))))] H := hP.sub [0, 5, 6, 7, 8, 1, 2, 3, 4] rfl
      have hD : va_D A [(x0, .inr (11, [.ref w0, .ref a0, .ref b0, .ref y0, .ref e0, .ref f0, .ref s0, .ref g0, .ref r0, .ref t0, .ref v0, .int (iI rf)])), (a0, .inr (2, [.ref a1, .ref a2, .ref a3, .int (iI mk)])), (a1, .inl (gI G, 61, .inl (fun j : Nat => iI (sz (j : Int))))), (a2, .inl (gL G, 61, .inr (.inl (fun j : Nat => lI (va (j : Int)))))), (a3, .inl (gL G, 61, .inr (.inl (fun j : Nat => lI (ke (j : Int)))))), (b0, .inr (4, [.ref b1, .ref b2, .ref b3, .int (iI nk)])), (b1, .inl (gI G, 201, .inl (fun j : Nat => iI (ki (j : Int))))), (b2, .inl (gI G, 201, .inl (fun j : Nat => iI (fi (j : Int))))), (b3, .inl (gI G, 201, .inl (fun j : Nat => iI (se (j : Int)))))] := hD.sub [0, 5, 6, 7, 8, 1, 2, 3, 4] (by decide) rfl
      have r_53 : (0 : Int) = (if okN mk nk kd x y then 0 else 1) := by first | exact (if_pos (by omega)).symm | exact (if_neg (by omega)).symm
      rw [r_53]
      exact hret _ ls H locs dX10_lacksPart_170 hP hD hS
    · skip
      have qc_52 := if_eq0 c_52
      refine lv_iconst (v := iI (1)) hx hb dX10_lacksPart_165 rfl ?_
      refine lv_goto (tgt := 170) hx hb dX10_lacksPart_166 (by decide) ?_
      have hP : va_P G.1 vwCl [(x0, .inr (11, [.ref w0, .ref a0, .ref b0, .ref y0, .ref e0, .ref f0, .ref s0, .ref g0, .ref r0, .ref t0, .ref v0, .int (iI rf)])), (a0, .inr (2, [.ref a1, .ref a2, .ref a3, .int (iI mk)])), (a1, .inl (gI G, 61, .inl (fun j : Nat => iI (sz (j : Int))))), (a2, .inl (gL G, 61, .inr (.inl (fun j : Nat => lI (va (j : Int)))))), (a3, .inl (gL G, 61, .inr (.inl (fun j : Nat => lI (ke (j : Int)))))), (b0, .inr (4, [.ref b1, .ref b2, .ref b3, .int (iI nk)])), (b1, .inl (gI G, 201, .inl (fun j : Nat => iI (ki (j : Int))))), (b2, .inl (gI G, 201, .inl (fun j : Nat => iI (fi (j : Int))))), (b3, .inl (gI G, 201, .inl (fun j : Nat => iI (se (j : Int)))))] H := hP.sub [0, 5, 6, 7, 8, 1, 2, 3, 4] rfl
      have hD : va_D A [(x0, .inr (11, [.ref w0, .ref a0, .ref b0, .ref y0, .ref e0, .ref f0, .ref s0, .ref g0, .ref r0, .ref t0, .ref v0, .int (iI rf)])), (a0, .inr (2, [.ref a1, .ref a2, .ref a3, .int (iI mk)])), (a1, .inl (gI G, 61, .inl (fun j : Nat => iI (sz (j : Int))))), (a2, .inl (gL G, 61, .inr (.inl (fun j : Nat => lI (va (j : Int)))))), (a3, .inl (gL G, 61, .inr (.inl (fun j : Nat => lI (ke (j : Int)))))), (b0, .inr (4, [.ref b1, .ref b2, .ref b3, .int (iI nk)])), (b1, .inl (gI G, 201, .inl (fun j : Nat => iI (ki (j : Int))))), (b2, .inl (gI G, 201, .inl (fun j : Nat => iI (fi (j : Int))))), (b3, .inl (gI G, 201, .inl (fun j : Nat => iI (se (j : Int)))))] := hD.sub [0, 5, 6, 7, 8, 1, 2, 3, 4] (by decide) rfl
      have r_54 : (1 : Int) = (if okN mk nk kd x y then 0 else 1) := by first | exact (if_pos (by omega)).symm | exact (if_neg (by omega)).symm
      rw [r_54]
      exact hret _ ls H locs dX10_lacksPart_170 hP hD hS
  by_cases k_55 : kd = 10
  · skip
    refine z_tswIn (tgt := 70) hx hb dX10_lacksPart_1 (by omega) 10 k_55 (by decide) (off := 69) rfl (by decide) ?_
    refine lv_aload_n hx hb dX10_lacksPart_70 rfl (lv_at hl 0 rfl) ?_
    refine va_get (D := G.1) (ci := 11) (v := .ref a0) (C := RX10) (T := TX10) (N := 12) hx hb hts hiX10 hown hK hP 0 rfl rfl 1 (by decide) hw0 (fun _ h9 => h9) rfl dX10_lacksPart_71 ?_
    refine lv_iload_n hx hb dX10_lacksPart_74 rfl (lv_at hl 2 rfl) ?_
    refine z_cVi (RV := (if 1 ≤ x ∧ x ≤ mk then 1 else 0)) (As := [.int (iI x)]) (rest := []) (wc := [(a0, .inr (2, [.ref a1, .ref a2, .ref a3, .int (iI mk)])), (a1, .inl (gI G, 61, .inl (fun j : Nat => iI (sz (j : Int))))), (a2, .inl (gL G, 61, .inr (.inl (fun j : Nat => lI (va (j : Int)))))), (a3, .inl (gL G, 61, .inr (.inl (fun j : Nat => lI (ke (j : Int))))))]) (wr := [(x0, .inr (11, [.ref w0, .ref a0, .ref b0, .ref y0, .ref e0, .ref f0, .ref s0, .ref g0, .ref r0, .ref t0, .ref v0, .int (iI rf)])), (b0, .inr (4, [.ref b1, .ref b2, .ref b3, .int (iI nk)])), (b1, .inl (gI G, 201, .inl (fun j : Nat => iI (ki (j : Int))))), (b2, .inl (gI G, 201, .inl (fun j : Nat => iI (fi (j : Int))))), (b3, .inl (gI G, 201, .inl (fun j : Nat => iI (se (j : Int)))))]) (wn := [(x0, .inr (11, [.ref w0, .ref a0, .ref b0, .ref y0, .ref e0, .ref f0, .ref s0, .ref g0, .ref r0, .ref t0, .ref v0, .int (iI rf)])), (b0, .inr (4, [.ref b1, .ref b2, .ref b3, .int (iI nk)])), (b1, .inl (gI G, 201, .inl (fun j : Nat => iI (ki (j : Int))))), (b2, .inl (gI G, 201, .inl (fun j : Nat => iI (fi (j : Int))))), (b3, .inl (gI G, 201, .inl (fun j : Nat => iI (se (j : Int))))), (a0, .inr (2, [.ref a1, .ref a2, .ref a3, .int (iI mk)])), (a1, .inl (gI G, 61, .inl (fun j : Nat => iI (sz (j : Int))))), (a2, .inl (gL G, 61, .inr (.inl (fun j : Nat => lI (va (j : Int)))))), (a3, .inl (gL G, 61, .inr (.inl (fun j : Nat => lI (ke (j : Int))))))]) F C (c_X1_has l G H.size a0 a1 a2 a3 sz va ke mk x (by omega) (by omega)) (cwV 1 hts gX10_lacksPart_X1_has rfl rfl rfl (by decide +kernel) (by decide)) hP hD hS (q0 := 1) rfl rfl rfl [1, 2, 3, 4] [0, 5, 6, 7, 8] rfl rfl (by decide) rfl rfl hl.1 rfl (Nat.le_of_ble_eq_true rfl) dX10_lacksPart_75 (by decide) (fun H locs hP hD hS => ?_)
    refine z_if_eq (tgt := 92) hx hb dX10_lacksPart_78 (by decide) (by split <;> omega) (fun c_56 => ?_) (fun c_56 => ?_)
    · skip
      have qc_56 := if_eq0 c_56
      refine lv_iconst (v := iI (1)) hx hb dX10_lacksPart_92 rfl ?_
      refine lv_goto (tgt := 97) hx hb dX10_lacksPart_93 (by decide) ?_
      have hP : va_P G.1 vwCl [(x0, .inr (11, [.ref w0, .ref a0, .ref b0, .ref y0, .ref e0, .ref f0, .ref s0, .ref g0, .ref r0, .ref t0, .ref v0, .int (iI rf)])), (a0, .inr (2, [.ref a1, .ref a2, .ref a3, .int (iI mk)])), (a1, .inl (gI G, 61, .inl (fun j : Nat => iI (sz (j : Int))))), (a2, .inl (gL G, 61, .inr (.inl (fun j : Nat => lI (va (j : Int)))))), (a3, .inl (gL G, 61, .inr (.inl (fun j : Nat => lI (ke (j : Int)))))), (b0, .inr (4, [.ref b1, .ref b2, .ref b3, .int (iI nk)])), (b1, .inl (gI G, 201, .inl (fun j : Nat => iI (ki (j : Int))))), (b2, .inl (gI G, 201, .inl (fun j : Nat => iI (fi (j : Int))))), (b3, .inl (gI G, 201, .inl (fun j : Nat => iI (se (j : Int)))))] H := hP.sub [0, 5, 6, 7, 8, 1, 2, 3, 4] rfl
      have hD : va_D A [(x0, .inr (11, [.ref w0, .ref a0, .ref b0, .ref y0, .ref e0, .ref f0, .ref s0, .ref g0, .ref r0, .ref t0, .ref v0, .int (iI rf)])), (a0, .inr (2, [.ref a1, .ref a2, .ref a3, .int (iI mk)])), (a1, .inl (gI G, 61, .inl (fun j : Nat => iI (sz (j : Int))))), (a2, .inl (gL G, 61, .inr (.inl (fun j : Nat => lI (va (j : Int)))))), (a3, .inl (gL G, 61, .inr (.inl (fun j : Nat => lI (ke (j : Int)))))), (b0, .inr (4, [.ref b1, .ref b2, .ref b3, .int (iI nk)])), (b1, .inl (gI G, 201, .inl (fun j : Nat => iI (ki (j : Int))))), (b2, .inl (gI G, 201, .inl (fun j : Nat => iI (fi (j : Int))))), (b3, .inl (gI G, 201, .inl (fun j : Nat => iI (se (j : Int)))))] := hD.sub [0, 5, 6, 7, 8, 1, 2, 3, 4] (by decide) rfl
      have r_57 : (1 : Int) = (if okN mk nk kd x y then 0 else 1) := by first | exact (if_pos (by omega)).symm | exact (if_neg (by omega)).symm
      rw [r_57]
      exact hret _ ls H locs dX10_lacksPart_97 hP hD hS
    · skip
      have qc_56 := if_ne0 c_56
      refine lv_aload_n hx hb dX10_lacksPart_81 rfl (lv_at hl 0 rfl) ?_
      refine va_get (D := G.1) (ci := 11) (v := .ref a0) (C := RX10) (T := TX10) (N := 12) hx hb hts hiX10 hown hK hP 0 rfl rfl 1 (by decide) hw0 (fun _ h9 => h9) rfl dX10_lacksPart_82 ?_
      refine lv_iload_n hx hb dX10_lacksPart_85 rfl (lv_at hl 3 rfl) ?_
      refine z_cVi (RV := (if 1 ≤ y ∧ y ≤ mk then 1 else 0)) (As := [.int (iI y)]) (rest := []) (wc := [(a0, .inr (2, [.ref a1, .ref a2, .ref a3, .int (iI mk)])), (a1, .inl (gI G, 61, .inl (fun j : Nat => iI (sz (j : Int))))), (a2, .inl (gL G, 61, .inr (.inl (fun j : Nat => lI (va (j : Int)))))), (a3, .inl (gL G, 61, .inr (.inl (fun j : Nat => lI (ke (j : Int))))))]) (wr := [(x0, .inr (11, [.ref w0, .ref a0, .ref b0, .ref y0, .ref e0, .ref f0, .ref s0, .ref g0, .ref r0, .ref t0, .ref v0, .int (iI rf)])), (b0, .inr (4, [.ref b1, .ref b2, .ref b3, .int (iI nk)])), (b1, .inl (gI G, 201, .inl (fun j : Nat => iI (ki (j : Int))))), (b2, .inl (gI G, 201, .inl (fun j : Nat => iI (fi (j : Int))))), (b3, .inl (gI G, 201, .inl (fun j : Nat => iI (se (j : Int)))))]) (wn := [(x0, .inr (11, [.ref w0, .ref a0, .ref b0, .ref y0, .ref e0, .ref f0, .ref s0, .ref g0, .ref r0, .ref t0, .ref v0, .int (iI rf)])), (b0, .inr (4, [.ref b1, .ref b2, .ref b3, .int (iI nk)])), (b1, .inl (gI G, 201, .inl (fun j : Nat => iI (ki (j : Int))))), (b2, .inl (gI G, 201, .inl (fun j : Nat => iI (fi (j : Int))))), (b3, .inl (gI G, 201, .inl (fun j : Nat => iI (se (j : Int))))), (a0, .inr (2, [.ref a1, .ref a2, .ref a3, .int (iI mk)])), (a1, .inl (gI G, 61, .inl (fun j : Nat => iI (sz (j : Int))))), (a2, .inl (gL G, 61, .inr (.inl (fun j : Nat => lI (va (j : Int)))))), (a3, .inl (gL G, 61, .inr (.inl (fun j : Nat => lI (ke (j : Int))))))]) F C (c_X1_has l G H.size a0 a1 a2 a3 sz va ke mk y (by omega) (by omega)) (cwV 1 hts gX10_lacksPart_X1_has rfl rfl rfl (by decide +kernel) (by decide)) hP hD hS (q0 := 5) rfl rfl rfl [5, 6, 7, 8] [0, 1, 2, 3, 4] rfl rfl (by decide) rfl rfl hl.1 rfl (Nat.le_of_ble_eq_true rfl) dX10_lacksPart_86 (by decide) (fun H locs hP hD hS => ?_)
      refine z_if_ne (tgt := 96) hx hb dX10_lacksPart_89 (by decide) (by split <;> omega) (fun c_58 => ?_) (fun c_58 => ?_)
      · skip
        have qc_58 := if_ne0 c_58
        refine lv_iconst (v := iI (0)) hx hb dX10_lacksPart_96 rfl ?_
        have hP : va_P G.1 vwCl [(x0, .inr (11, [.ref w0, .ref a0, .ref b0, .ref y0, .ref e0, .ref f0, .ref s0, .ref g0, .ref r0, .ref t0, .ref v0, .int (iI rf)])), (a0, .inr (2, [.ref a1, .ref a2, .ref a3, .int (iI mk)])), (a1, .inl (gI G, 61, .inl (fun j : Nat => iI (sz (j : Int))))), (a2, .inl (gL G, 61, .inr (.inl (fun j : Nat => lI (va (j : Int)))))), (a3, .inl (gL G, 61, .inr (.inl (fun j : Nat => lI (ke (j : Int)))))), (b0, .inr (4, [.ref b1, .ref b2, .ref b3, .int (iI nk)])), (b1, .inl (gI G, 201, .inl (fun j : Nat => iI (ki (j : Int))))), (b2, .inl (gI G, 201, .inl (fun j : Nat => iI (fi (j : Int))))), (b3, .inl (gI G, 201, .inl (fun j : Nat => iI (se (j : Int)))))] H := hP.sub [0, 5, 6, 7, 8, 1, 2, 3, 4] rfl
        have hD : va_D A [(x0, .inr (11, [.ref w0, .ref a0, .ref b0, .ref y0, .ref e0, .ref f0, .ref s0, .ref g0, .ref r0, .ref t0, .ref v0, .int (iI rf)])), (a0, .inr (2, [.ref a1, .ref a2, .ref a3, .int (iI mk)])), (a1, .inl (gI G, 61, .inl (fun j : Nat => iI (sz (j : Int))))), (a2, .inl (gL G, 61, .inr (.inl (fun j : Nat => lI (va (j : Int)))))), (a3, .inl (gL G, 61, .inr (.inl (fun j : Nat => lI (ke (j : Int)))))), (b0, .inr (4, [.ref b1, .ref b2, .ref b3, .int (iI nk)])), (b1, .inl (gI G, 201, .inl (fun j : Nat => iI (ki (j : Int))))), (b2, .inl (gI G, 201, .inl (fun j : Nat => iI (fi (j : Int))))), (b3, .inl (gI G, 201, .inl (fun j : Nat => iI (se (j : Int)))))] := hD.sub [0, 5, 6, 7, 8, 1, 2, 3, 4] (by decide) rfl
        have r_59 : (0 : Int) = (if okN mk nk kd x y then 0 else 1) := by first | exact (if_pos (by omega)).symm | exact (if_neg (by omega)).symm
        rw [r_59]
        exact hret _ ls H locs dX10_lacksPart_97 hP hD hS
      · skip
        have qc_58 := if_eq0 c_58
        refine lv_iconst (v := iI (1)) hx hb dX10_lacksPart_92 rfl ?_
        refine lv_goto (tgt := 97) hx hb dX10_lacksPart_93 (by decide) ?_
        have hP : va_P G.1 vwCl [(x0, .inr (11, [.ref w0, .ref a0, .ref b0, .ref y0, .ref e0, .ref f0, .ref s0, .ref g0, .ref r0, .ref t0, .ref v0, .int (iI rf)])), (a0, .inr (2, [.ref a1, .ref a2, .ref a3, .int (iI mk)])), (a1, .inl (gI G, 61, .inl (fun j : Nat => iI (sz (j : Int))))), (a2, .inl (gL G, 61, .inr (.inl (fun j : Nat => lI (va (j : Int)))))), (a3, .inl (gL G, 61, .inr (.inl (fun j : Nat => lI (ke (j : Int)))))), (b0, .inr (4, [.ref b1, .ref b2, .ref b3, .int (iI nk)])), (b1, .inl (gI G, 201, .inl (fun j : Nat => iI (ki (j : Int))))), (b2, .inl (gI G, 201, .inl (fun j : Nat => iI (fi (j : Int))))), (b3, .inl (gI G, 201, .inl (fun j : Nat => iI (se (j : Int)))))] H := hP.sub [0, 5, 6, 7, 8, 1, 2, 3, 4] rfl
        have hD : va_D A [(x0, .inr (11, [.ref w0, .ref a0, .ref b0, .ref y0, .ref e0, .ref f0, .ref s0, .ref g0, .ref r0, .ref t0, .ref v0, .int (iI rf)])), (a0, .inr (2, [.ref a1, .ref a2, .ref a3, .int (iI mk)])), (a1, .inl (gI G, 61, .inl (fun j : Nat => iI (sz (j : Int))))), (a2, .inl (gL G, 61, .inr (.inl (fun j : Nat => lI (va (j : Int)))))), (a3, .inl (gL G, 61, .inr (.inl (fun j : Nat => lI (ke (j : Int)))))), (b0, .inr (4, [.ref b1, .ref b2, .ref b3, .int (iI nk)])), (b1, .inl (gI G, 201, .inl (fun j : Nat => iI (ki (j : Int))))), (b2, .inl (gI G, 201, .inl (fun j : Nat => iI (fi (j : Int))))), (b3, .inl (gI G, 201, .inl (fun j : Nat => iI (se (j : Int)))))] := hD.sub [0, 5, 6, 7, 8, 1, 2, 3, 4] (by decide) rfl
        have r_60 : (1 : Int) = (if okN mk nk kd x y then 0 else 1) := by first | exact (if_pos (by omega)).symm | exact (if_neg (by omega)).symm
        rw [r_60]
        exact hret _ ls H locs dX10_lacksPart_97 hP hD hS
  by_cases k_61 : kd = 11
  · skip
    refine z_tswIn (tgt := 68) hx hb dX10_lacksPart_1 (by omega) 11 k_61 (by decide) (off := 67) rfl (by decide) ?_
    refine lv_iconst (v := iI (0)) hx hb dX10_lacksPart_68 rfl ?_
    have r_62 : (0 : Int) = (if okN mk nk kd x y then 0 else 1) := by first | exact (if_pos (by omega)).symm | exact (if_neg (by omega)).symm
    rw [r_62]
    exact hret _ ls H locs dX10_lacksPart_69 hP hD hS
  by_cases k_63 : kd = 12
  · skip
    refine z_tswIn (tgt := 126) hx hb dX10_lacksPart_1 (by omega) 12 k_63 (by decide) (off := 125) rfl (by decide) ?_
    refine lv_aload_n hx hb dX10_lacksPart_126 rfl (lv_at hl 0 rfl) ?_
    refine va_get (D := G.1) (ci := 11) (v := .ref a0) (C := RX10) (T := TX10) (N := 12) hx hb hts hiX10 hown hK hP 0 rfl rfl 1 (by decide) hw0 (fun _ h9 => h9) rfl dX10_lacksPart_127 ?_
    refine lv_iload_n hx hb dX10_lacksPart_130 rfl (lv_at hl 2 rfl) ?_
    refine z_cVi (RV := (if 1 ≤ x ∧ x ≤ mk then 1 else 0)) (As := [.int (iI x)]) (rest := []) (wc := [(a0, .inr (2, [.ref a1, .ref a2, .ref a3, .int (iI mk)])), (a1, .inl (gI G, 61, .inl (fun j : Nat => iI (sz (j : Int))))), (a2, .inl (gL G, 61, .inr (.inl (fun j : Nat => lI (va (j : Int)))))), (a3, .inl (gL G, 61, .inr (.inl (fun j : Nat => lI (ke (j : Int))))))]) (wr := [(x0, .inr (11, [.ref w0, .ref a0, .ref b0, .ref y0, .ref e0, .ref f0, .ref s0, .ref g0, .ref r0, .ref t0, .ref v0, .int (iI rf)])), (b0, .inr (4, [.ref b1, .ref b2, .ref b3, .int (iI nk)])), (b1, .inl (gI G, 201, .inl (fun j : Nat => iI (ki (j : Int))))), (b2, .inl (gI G, 201, .inl (fun j : Nat => iI (fi (j : Int))))), (b3, .inl (gI G, 201, .inl (fun j : Nat => iI (se (j : Int)))))]) (wn := [(x0, .inr (11, [.ref w0, .ref a0, .ref b0, .ref y0, .ref e0, .ref f0, .ref s0, .ref g0, .ref r0, .ref t0, .ref v0, .int (iI rf)])), (b0, .inr (4, [.ref b1, .ref b2, .ref b3, .int (iI nk)])), (b1, .inl (gI G, 201, .inl (fun j : Nat => iI (ki (j : Int))))), (b2, .inl (gI G, 201, .inl (fun j : Nat => iI (fi (j : Int))))), (b3, .inl (gI G, 201, .inl (fun j : Nat => iI (se (j : Int))))), (a0, .inr (2, [.ref a1, .ref a2, .ref a3, .int (iI mk)])), (a1, .inl (gI G, 61, .inl (fun j : Nat => iI (sz (j : Int))))), (a2, .inl (gL G, 61, .inr (.inl (fun j : Nat => lI (va (j : Int)))))), (a3, .inl (gL G, 61, .inr (.inl (fun j : Nat => lI (ke (j : Int))))))]) F C (c_X1_has l G H.size a0 a1 a2 a3 sz va ke mk x (by omega) (by omega)) (cwV 1 hts gX10_lacksPart_X1_has rfl rfl rfl (by decide +kernel) (by decide)) hP hD hS (q0 := 1) rfl rfl rfl [1, 2, 3, 4] [0, 5, 6, 7, 8] rfl rfl (by decide) rfl rfl hl.1 rfl (Nat.le_of_ble_eq_true rfl) dX10_lacksPart_131 (by decide) (fun H locs hP hD hS => ?_)
    refine z_if_eq (tgt := 148) hx hb dX10_lacksPart_134 (by decide) (by split <;> omega) (fun c_64 => ?_) (fun c_64 => ?_)
    · skip
      have qc_64 := if_eq0 c_64
      refine lv_iconst (v := iI (1)) hx hb dX10_lacksPart_148 rfl ?_
      refine lv_goto (tgt := 153) hx hb dX10_lacksPart_149 (by decide) ?_
      have hP : va_P G.1 vwCl [(x0, .inr (11, [.ref w0, .ref a0, .ref b0, .ref y0, .ref e0, .ref f0, .ref s0, .ref g0, .ref r0, .ref t0, .ref v0, .int (iI rf)])), (a0, .inr (2, [.ref a1, .ref a2, .ref a3, .int (iI mk)])), (a1, .inl (gI G, 61, .inl (fun j : Nat => iI (sz (j : Int))))), (a2, .inl (gL G, 61, .inr (.inl (fun j : Nat => lI (va (j : Int)))))), (a3, .inl (gL G, 61, .inr (.inl (fun j : Nat => lI (ke (j : Int)))))), (b0, .inr (4, [.ref b1, .ref b2, .ref b3, .int (iI nk)])), (b1, .inl (gI G, 201, .inl (fun j : Nat => iI (ki (j : Int))))), (b2, .inl (gI G, 201, .inl (fun j : Nat => iI (fi (j : Int))))), (b3, .inl (gI G, 201, .inl (fun j : Nat => iI (se (j : Int)))))] H := hP.sub [0, 5, 6, 7, 8, 1, 2, 3, 4] rfl
      have hD : va_D A [(x0, .inr (11, [.ref w0, .ref a0, .ref b0, .ref y0, .ref e0, .ref f0, .ref s0, .ref g0, .ref r0, .ref t0, .ref v0, .int (iI rf)])), (a0, .inr (2, [.ref a1, .ref a2, .ref a3, .int (iI mk)])), (a1, .inl (gI G, 61, .inl (fun j : Nat => iI (sz (j : Int))))), (a2, .inl (gL G, 61, .inr (.inl (fun j : Nat => lI (va (j : Int)))))), (a3, .inl (gL G, 61, .inr (.inl (fun j : Nat => lI (ke (j : Int)))))), (b0, .inr (4, [.ref b1, .ref b2, .ref b3, .int (iI nk)])), (b1, .inl (gI G, 201, .inl (fun j : Nat => iI (ki (j : Int))))), (b2, .inl (gI G, 201, .inl (fun j : Nat => iI (fi (j : Int))))), (b3, .inl (gI G, 201, .inl (fun j : Nat => iI (se (j : Int)))))] := hD.sub [0, 5, 6, 7, 8, 1, 2, 3, 4] (by decide) rfl
      have r_65 : (1 : Int) = (if okN mk nk kd x y then 0 else 1) := by first | exact (if_pos (by omega)).symm | exact (if_neg (by omega)).symm
      rw [r_65]
      exact hret _ ls H locs dX10_lacksPart_153 hP hD hS
    · skip
      have qc_64 := if_ne0 c_64
      refine lv_aload_n hx hb dX10_lacksPart_137 rfl (lv_at hl 0 rfl) ?_
      refine va_get (D := G.1) (ci := 11) (v := .ref b0) (C := RX10) (T := TX10) (N := 12) hx hb hts hiX10 hown hK hP 0 rfl rfl 2 (by decide) hw1 (fun _ h9 => h9) rfl dX10_lacksPart_138 ?_
      refine lv_iload_n hx hb dX10_lacksPart_141 rfl (lv_at hl 3 rfl) ?_
      refine z_cVi (RV := (if 1 ≤ y ∧ y ≤ nk then 1 else 0)) (As := [.int (iI y)]) (rest := []) (wc := [(b0, .inr (4, [.ref b1, .ref b2, .ref b3, .int (iI nk)])), (b1, .inl (gI G, 201, .inl (fun j : Nat => iI (ki (j : Int))))), (b2, .inl (gI G, 201, .inl (fun j : Nat => iI (fi (j : Int))))), (b3, .inl (gI G, 201, .inl (fun j : Nat => iI (se (j : Int)))))]) (wr := [(x0, .inr (11, [.ref w0, .ref a0, .ref b0, .ref y0, .ref e0, .ref f0, .ref s0, .ref g0, .ref r0, .ref t0, .ref v0, .int (iI rf)])), (a0, .inr (2, [.ref a1, .ref a2, .ref a3, .int (iI mk)])), (a1, .inl (gI G, 61, .inl (fun j : Nat => iI (sz (j : Int))))), (a2, .inl (gL G, 61, .inr (.inl (fun j : Nat => lI (va (j : Int)))))), (a3, .inl (gL G, 61, .inr (.inl (fun j : Nat => lI (ke (j : Int))))))]) (wn := [(x0, .inr (11, [.ref w0, .ref a0, .ref b0, .ref y0, .ref e0, .ref f0, .ref s0, .ref g0, .ref r0, .ref t0, .ref v0, .int (iI rf)])), (a0, .inr (2, [.ref a1, .ref a2, .ref a3, .int (iI mk)])), (a1, .inl (gI G, 61, .inl (fun j : Nat => iI (sz (j : Int))))), (a2, .inl (gL G, 61, .inr (.inl (fun j : Nat => lI (va (j : Int)))))), (a3, .inl (gL G, 61, .inr (.inl (fun j : Nat => lI (ke (j : Int)))))), (b0, .inr (4, [.ref b1, .ref b2, .ref b3, .int (iI nk)])), (b1, .inl (gI G, 201, .inl (fun j : Nat => iI (ki (j : Int))))), (b2, .inl (gI G, 201, .inl (fun j : Nat => iI (fi (j : Int))))), (b3, .inl (gI G, 201, .inl (fun j : Nat => iI (se (j : Int)))))]) F C (c_X3_has l G H.size b0 b1 b2 b3 ki fi se nk y (by omega) (by omega)) (cwV 1 hts gX10_lacksPart_X3_has rfl rfl rfl (by decide +kernel) (by decide)) hP hD hS (q0 := 1) rfl rfl rfl [1, 2, 3, 4] [0, 5, 6, 7, 8] rfl rfl (by decide) rfl rfl hl.1 rfl (Nat.le_of_ble_eq_true rfl) dX10_lacksPart_142 (by decide) (fun H locs hP hD hS => ?_)
      refine z_if_ne (tgt := 152) hx hb dX10_lacksPart_145 (by decide) (by split <;> omega) (fun c_66 => ?_) (fun c_66 => ?_)
      · skip
        have qc_66 := if_ne0 c_66
        refine lv_iconst (v := iI (0)) hx hb dX10_lacksPart_152 rfl ?_
        have r_67 : (0 : Int) = (if okN mk nk kd x y then 0 else 1) := by first | exact (if_pos (by omega)).symm | exact (if_neg (by omega)).symm
        rw [r_67]
        exact hret _ ls H locs dX10_lacksPart_153 hP hD hS
      · skip
        have qc_66 := if_eq0 c_66
        refine lv_iconst (v := iI (1)) hx hb dX10_lacksPart_148 rfl ?_
        refine lv_goto (tgt := 153) hx hb dX10_lacksPart_149 (by decide) ?_
        have r_68 : (1 : Int) = (if okN mk nk kd x y then 0 else 1) := by first | exact (if_pos (by omega)).symm | exact (if_neg (by omega)).symm
        rw [r_68]
        exact hret _ ls H locs dX10_lacksPart_153 hP hD hS
  refine z_tswOut (tgt := 171) hx hb dX10_lacksPart_1 (by omega) (by omega) (by decide) ?_
  refine lv_iconst (v := iI (1)) hx hb dX10_lacksPart_171 rfl ?_
  have r_69 : (1 : Int) = (if okN mk nk kd x y then 0 else 1) := by first | exact (if_pos (by omega)).symm | exact (if_neg (by omega)).symm
  rw [r_69]
  exact hret _ ls H locs dX10_lacksPart_172 hP hD hS

set_option maxHeartbeats 4000000 in
set_option maxRecDepth 100000 in
theorem c_X10_isPlace (l : Launch) (G : Gx) (zz : Nat) (x : Int) (h1 : -9223372036854775808 ≤ x ∧ x < 9223372036854775808) : Ci l yX10_isPlace wsX10_isPlace (rz 0 0) G [.long (lI x)] [] zz (if PLC x then 1 else 0) [] := by
  refine met_i (cc := cX10_isPlace) (maxL := 6) (ret := (some .boolean)) (by decide) rfl (Nat.le_of_ble_eq_true rfl) rfl (by (repeat (any_goals split)) <;> decide) ⟨rfl, rfl⟩ ?_
  intro p e s m below meth c A Q F C hP hD hS hret ls hl
  obtain ⟨hx, hb, hml, hown, hts⟩ := id F
  obtain ⟨hK, hA, hZ, hT, hN⟩ := id C
  have hl : lv_has ls 6 [(0, .long (lI x))] := hl
  obtain ⟨H, hH⟩ : ∃ H, H = s.heap := ⟨_, rfl⟩
  obtain ⟨locs, hlocs⟩ : ∃ l : List Loc, l = [] := ⟨_, rfl⟩
  have hS : va_S A s.heap H locs := by rw [hH, hlocs]; exact hS
  have hP : va_P G.1 vwCl [] H := by rw [hH]; exact hP
  suffices hgo : W p l e (rz 0 0) s m [.long (lI x)].toArray below meth c H locs 0 0 Q (F0 m 0 ls []) by rw [hH, hlocs] at hgo; exact hgo
  have hw0 := hts (Cond.constantLong RX10 224 (100)) (List.mem_of_getElem? (i := 1) rfl)
  have hw1 := hts (Cond.constantLong RX10 230 (24)) (List.mem_of_getElem? (i := 2) rfl)
  have hw2 := hts (Cond.constantLong RX10 232 (80)) (List.mem_of_getElem? (i := 3) rfl)
  have hpl := plc_iff x
  have hdr := tdiv_100 x
  have hmr := tmod_r x (b := 100) (by decide)
  refine lv_lload_n hx hb dX10_isPlace_0 rfl (lv_at hl 0 rfl) ?_
  refine lv_ldc2 hx hb hown hw0 dX10_isPlace_1 ?_
  refine z_top (w := .long (lI (100))) rfl ?_
  refine z_lrem hx hb dX10_isPlace_4 (by omega) ?_
  refine lv_lstore_n (lv' := [(2, .long (lI (Int.tmod x 100))), (0, .long (lI x))]) hx hb dX10_isPlace_5 rfl hl (by decide) rfl (fun ls hl => ?_)
  refine lv_lload_n hx hb dX10_isPlace_6 rfl (lv_at hl 1 rfl) ?_
  refine lv_ldc2 hx hb hown hw0 dX10_isPlace_7 ?_
  refine z_top (w := .long (lI (100))) rfl ?_
  refine z_ldivP hx hb dX10_isPlace_10 (by omega) ?_
  refine lv_lstore (lv' := [(4, .long (lI (Int.tdiv x 100))), (2, .long (lI (Int.tmod x 100))), (0, .long (lI x))]) hx hb dX10_isPlace_11 hl (by decide) rfl (fun ls hl => ?_)
  refine lv_lload hx hb dX10_isPlace_13 (lv_at hl 0 rfl) ?_
  refine lv_lconst (v := lI 1) hx hb dX10_isPlace_15 (by decide) ?_
  refine z_lcmp_lt (tgt := 47) hx hb dX10_isPlace_16 dX10_isPlace_17 (by decide) (by omega) (fun c_1 => ?_) (fun c_1 => ?_)
  · skip
    refine lv_iconst (v := iI (0)) hx hb dX10_isPlace_47 rfl ?_
    have r_2 : (0 : Int) = (if PLC x then 1 else 0) := by first | exact (if_pos (hpl.mp (by omega))).symm | exact (if_neg (fun q => by have := hpl.mpr q; omega)).symm
    rw [r_2]
    exact hret _ ls H locs dX10_isPlace_48 hP hD hS
  · skip
    refine lv_lload hx hb dX10_isPlace_20 (lv_at hl 0 rfl) ?_
    refine lv_ldc2 hx hb hown hw1 dX10_isPlace_22 ?_
    refine z_top (w := .long (lI (24))) rfl ?_
    refine z_lcmp_gt (tgt := 47) hx hb dX10_isPlace_25 dX10_isPlace_26 (by decide) (by omega) (fun c_3 => ?_) (fun c_3 => ?_)
    · skip
      refine lv_iconst (v := iI (0)) hx hb dX10_isPlace_47 rfl ?_
      have r_4 : (0 : Int) = (if PLC x then 1 else 0) := by first | exact (if_pos (hpl.mp (by omega))).symm | exact (if_neg (fun q => by have := hpl.mpr q; omega)).symm
      rw [r_4]
      exact hret _ ls H locs dX10_isPlace_48 hP hD hS
    · skip
      refine lv_lload_n hx hb dX10_isPlace_29 rfl (lv_at hl 1 rfl) ?_
      refine lv_lconst (v := lI 1) hx hb dX10_isPlace_30 (by decide) ?_
      refine z_lcmp_lt (tgt := 47) hx hb dX10_isPlace_31 dX10_isPlace_32 (by decide) (by omega) (fun c_5 => ?_) (fun c_5 => ?_)
      · skip
        refine lv_iconst (v := iI (0)) hx hb dX10_isPlace_47 rfl ?_
        have r_6 : (0 : Int) = (if PLC x then 1 else 0) := by first | exact (if_pos (hpl.mp (by omega))).symm | exact (if_neg (fun q => by have := hpl.mpr q; omega)).symm
        rw [r_6]
        exact hret _ ls H locs dX10_isPlace_48 hP hD hS
      · skip
        refine lv_lload_n hx hb dX10_isPlace_35 rfl (lv_at hl 1 rfl) ?_
        refine lv_ldc2 hx hb hown hw2 dX10_isPlace_36 ?_
        refine z_top (w := .long (lI (80))) rfl ?_
        refine z_lcmp_gt (tgt := 47) hx hb dX10_isPlace_39 dX10_isPlace_40 (by decide) (by omega) (fun c_7 => ?_) (fun c_7 => ?_)
        · skip
          refine lv_iconst (v := iI (0)) hx hb dX10_isPlace_47 rfl ?_
          have r_8 : (0 : Int) = (if PLC x then 1 else 0) := by first | exact (if_pos (hpl.mp (by omega))).symm | exact (if_neg (fun q => by have := hpl.mpr q; omega)).symm
          rw [r_8]
          exact hret _ ls H locs dX10_isPlace_48 hP hD hS
        · skip
          refine lv_iconst (v := iI (1)) hx hb dX10_isPlace_43 rfl ?_
          refine lv_goto (tgt := 48) hx hb dX10_isPlace_44 (by decide) ?_
          have r_9 : (1 : Int) = (if PLC x then 1 else 0) := by first | exact (if_pos (hpl.mp (by omega))).symm | exact (if_neg (fun q => by have := hpl.mpr q; omega)).symm
          rw [r_9]
          exact hret _ ls H locs dX10_isPlace_48 hP hD hS

set_option maxHeartbeats 4000000 in
set_option maxRecDepth 100000 in
theorem c_X10_node (l : Launch) (G : Gx) (zz : Nat) (x0 w0 y0 e0 f0 s0 g0 r0 t0 v0 : Nat) (rf : Int) (a0 a1 a2 a3 : Nat) (sz va ke : Int → Int) (mk : Int) (b0 b1 b2 b3 : Nat) (ki fi se : Int → Int) (nk : Int) (kd x y : Int) (h1 : 0 ≤ mk ∧ mk ≤ 60) (h2 : 0 ≤ nk ∧ nk ≤ 200) (h3 : -2147483648 ≤ kd ∧ kd < 2147483648) (h4 : -2147483648 ≤ x ∧ x < 2147483648) (h5 : -2147483648 ≤ y ∧ y < 2147483648) : Ci l yX10_node wsX10_node (rz 2 44) G [.ref x0, .int (iI kd), .int (iI x), .int (iI y)] [(x0, .inr (11, [.ref w0, .ref a0, .ref b0, .ref y0, .ref e0, .ref f0, .ref s0, .ref g0, .ref r0, .ref t0, .ref v0, .int (iI rf)])), (a0, .inr (2, [.ref a1, .ref a2, .ref a3, .int (iI mk)])), (a1, .inl (gI G, 61, .inl (fun j : Nat => iI (sz (j : Int))))), (a2, .inl (gL G, 61, .inr (.inl (fun j : Nat => lI (va (j : Int)))))), (a3, .inl (gL G, 61, .inr (.inl (fun j : Nat => lI (ke (j : Int)))))), (b0, .inr (4, [.ref b1, .ref b2, .ref b3, .int (iI nk)])), (b1, .inl (gI G, 201, .inl (fun j : Nat => iI (ki (j : Int))))), (b2, .inl (gI G, 201, .inl (fun j : Nat => iI (fi (j : Int))))), (b3, .inl (gI G, 201, .inl (fun j : Nat => iI (se (j : Int)))))] zz (aNode mk nk kd x y) [(x0, .inr (11, [.ref w0, .ref a0, .ref b0, .ref y0, .ref e0, .ref f0, .ref s0, .ref g0, .ref r0, .ref t0, .ref v0, .int (iI (sI (okN mk nk kd x y ∧ (kd = 9 → PLC y) ∧ nk < 200) (rf + 1) rf))])), (a0, .inr (2, [.ref a1, .ref a2, .ref a3, .int (iI mk)])), (a1, .inl (gI G, 61, .inl (fun j : Nat => iI (sz (j : Int))))), (a2, .inl (gL G, 61, .inr (.inl (fun j : Nat => lI (va (j : Int)))))), (a3, .inl (gL G, 61, .inr (.inl (fun j : Nat => lI (ke (j : Int)))))), (b0, .inr (4, [.ref b1, .ref b2, .ref b3, .int (iI (sI (okN mk nk kd x y ∧ (kd = 9 → PLC y) ∧ nk < 200) nk (nk + 1)))])), (b1, .inl (gI G, 201, .inl (fun j : Nat => iI ((sIF (okN mk nk kd x y ∧ (kd = 9 → PLC y) ∧ nk < 200) ki (uF ki (nk + 1) kd)) (j : Int))))), (b2, .inl (gI G, 201, .inl (fun j : Nat => iI ((sIF (okN mk nk kd x y ∧ (kd = 9 → PLC y) ∧ nk < 200) fi (uF fi (nk + 1) x)) (j : Int))))), (b3, .inl (gI G, 201, .inl (fun j : Nat => iI ((sIF (okN mk nk kd x y ∧ (kd = 9 → PLC y) ∧ nk < 200) se (uF se (nk + 1) y)) (j : Int)))))] := by
  refine met_i (cc := cX10_node) (maxL := 4) (ret := (some .int)) (by decide) rfl (Nat.le_of_ble_eq_true rfl) rfl rfl ⟨rfl, rfl⟩ ?_
  intro p e s m below meth c A Q F C hP hD hS hret ls hl
  obtain ⟨hx, hb, hml, hown, hts⟩ := id F
  obtain ⟨hK, hA, hZ, hT, hN⟩ := id C
  have hl : lv_has ls 4 [(0, .ref x0), (1, .int (iI kd)), (2, .int (iI x)), (3, .int (iI y))] := hl
  obtain ⟨H, hH⟩ : ∃ H, H = s.heap := ⟨_, rfl⟩
  obtain ⟨locs, hlocs⟩ : ∃ l : List Loc, l = [] := ⟨_, rfl⟩
  have hS : va_S A s.heap H locs := by rw [hH, hlocs]; exact hS
  have hP : va_P G.1 vwCl [(x0, .inr (11, [.ref w0, .ref a0, .ref b0, .ref y0, .ref e0, .ref f0, .ref s0, .ref g0, .ref r0, .ref t0, .ref v0, .int (iI rf)])), (a0, .inr (2, [.ref a1, .ref a2, .ref a3, .int (iI mk)])), (a1, .inl (gI G, 61, .inl (fun j : Nat => iI (sz (j : Int))))), (a2, .inl (gL G, 61, .inr (.inl (fun j : Nat => lI (va (j : Int)))))), (a3, .inl (gL G, 61, .inr (.inl (fun j : Nat => lI (ke (j : Int)))))), (b0, .inr (4, [.ref b1, .ref b2, .ref b3, .int (iI nk)])), (b1, .inl (gI G, 201, .inl (fun j : Nat => iI (ki (j : Int))))), (b2, .inl (gI G, 201, .inl (fun j : Nat => iI (fi (j : Int))))), (b3, .inl (gI G, 201, .inl (fun j : Nat => iI (se (j : Int)))))] H := by rw [hH]; exact hP
  suffices hgo : W p l e (rz 2 44) s m [.ref x0, .int (iI kd), .int (iI x), .int (iI y)].toArray below meth c H locs 0 0 Q (F0 m 0 ls []) by rw [hH, hlocs] at hgo; exact hgo
  have hiX10 : ∀ w ∈ wsX100, w ∈ wsX10_node := by decide +kernel
  have hw0 := hts (Cond.fieldLink RX10 91 "PlainCobol" "nodes" "LPlainCobol$Nodes;") (List.mem_of_getElem? (i := 1) rfl)
  have hiX3 : ∀ w ∈ wsX30, w ∈ wsX10_node := by decide +kernel
  have hw1 := hts (Cond.fieldLink RX10 117 "PlainCobol$Nodes" "made" "I") (List.mem_of_getElem? (i := 2) rfl)
  refine lv_aload_n hx hb dX10_node_0 rfl (lv_at hl 0 rfl) ?_
  refine lv_iload_n hx hb dX10_node_1 rfl (lv_at hl 1 rfl) ?_
  refine lv_iload_n hx hb dX10_node_2 rfl (lv_at hl 2 rfl) ?_
  refine lv_iload_n hx hb dX10_node_3 rfl (lv_at hl 3 rfl) ?_
  refine z_cVi (RV := (if okN mk nk kd x y then 0 else 1)) (As := [.int (iI kd), .int (iI x), .int (iI y)]) (rest := []) (wc := [(x0, .inr (11, [.ref w0, .ref a0, .ref b0, .ref y0, .ref e0, .ref f0, .ref s0, .ref g0, .ref r0, .ref t0, .ref v0, .int (iI rf)])), (a0, .inr (2, [.ref a1, .ref a2, .ref a3, .int (iI mk)])), (a1, .inl (gI G, 61, .inl (fun j : Nat => iI (sz (j : Int))))), (a2, .inl (gL G, 61, .inr (.inl (fun j : Nat => lI (va (j : Int)))))), (a3, .inl (gL G, 61, .inr (.inl (fun j : Nat => lI (ke (j : Int)))))), (b0, .inr (4, [.ref b1, .ref b2, .ref b3, .int (iI nk)])), (b1, .inl (gI G, 201, .inl (fun j : Nat => iI (ki (j : Int))))), (b2, .inl (gI G, 201, .inl (fun j : Nat => iI (fi (j : Int))))), (b3, .inl (gI G, 201, .inl (fun j : Nat => iI (se (j : Int)))))]) (wr := []) (wn := [(x0, .inr (11, [.ref w0, .ref a0, .ref b0, .ref y0, .ref e0, .ref f0, .ref s0, .ref g0, .ref r0, .ref t0, .ref v0, .int (iI rf)])), (a0, .inr (2, [.ref a1, .ref a2, .ref a3, .int (iI mk)])), (a1, .inl (gI G, 61, .inl (fun j : Nat => iI (sz (j : Int))))), (a2, .inl (gL G, 61, .inr (.inl (fun j : Nat => lI (va (j : Int)))))), (a3, .inl (gL G, 61, .inr (.inl (fun j : Nat => lI (ke (j : Int)))))), (b0, .inr (4, [.ref b1, .ref b2, .ref b3, .int (iI nk)])), (b1, .inl (gI G, 201, .inl (fun j : Nat => iI (ki (j : Int))))), (b2, .inl (gI G, 201, .inl (fun j : Nat => iI (fi (j : Int))))), (b3, .inl (gI G, 201, .inl (fun j : Nat => iI (se (j : Int)))))]) F C (c_X10_lacksPart l G H.size x0 w0 y0 e0 f0 s0 g0 r0 t0 v0 rf a0 a1 a2 a3 sz va ke mk b0 b1 b2 b3 ki fi se nk kd x y (by omega) (by omega) (by omega) (by omega) (by omega)) (cwV 3 hts gX10_node_X10_lacksPart rfl rfl rfl (by decide +kernel) (by decide)) hP hD hS (q0 := 0) rfl rfl rfl [0, 1, 2, 3, 4, 5, 6, 7, 8] [] rfl rfl (by decide) rfl rfl hl.1 rfl (Nat.le_of_ble_eq_true rfl) dX10_node_4 (by decide) (fun H locs hP hD hS => ?_)
  refine z_if_eq (tgt := 17) hx hb dX10_node_7 (by decide) (by split <;> omega) (fun c_1 => ?_) (fun c_1 => ?_)
  · skip
    have hok : okN mk nk kd x y := by (by_cases q : okN mk nk kd x y); exact q; rw [if_neg q] at c_1; omega
    refine lv_iload_n hx hb dX10_node_17 rfl (lv_at hl 1 rfl) ?_
    refine lv_bipush (v := iI (9)) hx hb dX10_node_18 (by decide) ?_
    refine z_icmp_ne (tgt := 38) hx hb dX10_node_20 (by decide) (by omega) (fun c_2 => ?_) (fun c_2 => ?_)
    · skip
      refine lv_aload_n hx hb dX10_node_38 rfl (lv_at hl 0 rfl) ?_
      refine va_get (D := G.1) (ci := 11) (v := .ref b0) (C := RX10) (T := TX10) (N := 12) hx hb hts hiX10 hown hK hP 0 rfl rfl 2 (by decide) hw0 (fun _ h9 => h9) rfl dX10_node_39 ?_
      refine va_get (D := G.1) (ci := 4) (v := .int (iI nk)) (C := RX3) (T := TX3) (N := 4) hx hb hts hiX3 hown hK hP 5 rfl rfl 3 (by decide) hw1 (fun _ h9 => h9) rfl dX10_node_42 ?_
      refine lv_sipush (v := iI (200)) hx hb dX10_node_45 (by decide) ?_
      refine z_icmp_lt (tgt := 57) hx hb dX10_node_48 (by decide) (by omega) (fun c_3 => ?_) (fun c_3 => ?_)
      · skip
        refine lv_aload_n hx hb dX10_node_57 rfl (lv_at hl 0 rfl) ?_
        refine va_get (D := G.1) (ci := 11) (v := .ref b0) (C := RX10) (T := TX10) (N := 12) hx hb hts hiX10 hown hK hP 0 rfl rfl 2 (by decide) hw0 (fun _ h9 => h9) rfl dX10_node_58 ?_
        refine lv_iload_n hx hb dX10_node_61 rfl (lv_at hl 1 rfl) ?_
        refine lv_iload_n hx hb dX10_node_62 rfl (lv_at hl 2 rfl) ?_
        refine lv_iload_n hx hb dX10_node_63 rfl (lv_at hl 3 rfl) ?_
        refine z_cVi (RV := (nk + 1)) (As := [.int (iI kd), .int (iI x), .int (iI y)]) (rest := []) (wc := [(b0, .inr (4, [.ref b1, .ref b2, .ref b3, .int (iI nk)])), (b1, .inl (gI G, 201, .inl (fun j : Nat => iI (ki (j : Int))))), (b2, .inl (gI G, 201, .inl (fun j : Nat => iI (fi (j : Int))))), (b3, .inl (gI G, 201, .inl (fun j : Nat => iI (se (j : Int)))))]) (wr := [(x0, .inr (11, [.ref w0, .ref a0, .ref b0, .ref y0, .ref e0, .ref f0, .ref s0, .ref g0, .ref r0, .ref t0, .ref v0, .int (iI rf)])), (a0, .inr (2, [.ref a1, .ref a2, .ref a3, .int (iI mk)])), (a1, .inl (gI G, 61, .inl (fun j : Nat => iI (sz (j : Int))))), (a2, .inl (gL G, 61, .inr (.inl (fun j : Nat => lI (va (j : Int)))))), (a3, .inl (gL G, 61, .inr (.inl (fun j : Nat => lI (ke (j : Int))))))]) (wn := [(x0, .inr (11, [.ref w0, .ref a0, .ref b0, .ref y0, .ref e0, .ref f0, .ref s0, .ref g0, .ref r0, .ref t0, .ref v0, .int (iI rf)])), (a0, .inr (2, [.ref a1, .ref a2, .ref a3, .int (iI mk)])), (a1, .inl (gI G, 61, .inl (fun j : Nat => iI (sz (j : Int))))), (a2, .inl (gL G, 61, .inr (.inl (fun j : Nat => lI (va (j : Int)))))), (a3, .inl (gL G, 61, .inr (.inl (fun j : Nat => lI (ke (j : Int)))))), (b0, .inr (4, [.ref b1, .ref b2, .ref b3, .int (iI (nk + 1))])), (b1, .inl (gI G, 201, .inl (fun j : Nat => iI ((uF ki (nk + 1) kd) (j : Int))))), (b2, .inl (gI G, 201, .inl (fun j : Nat => iI ((uF fi (nk + 1) x) (j : Int))))), (b3, .inl (gI G, 201, .inl (fun j : Nat => iI ((uF se (nk + 1) y) (j : Int)))))]) F C (c_X3_make l G H.size b0 b1 b2 b3 ki fi se nk kd x y (by omega)) (cwV 3 hts gX10_node_X3_make rfl rfl rfl (by decide +kernel) (by decide)) hP hD hS (q0 := 5) rfl rfl rfl [5, 6, 7, 8] [0, 1, 2, 3, 4] rfl rfl (by decide) rfl rfl hl.1 rfl (Nat.le_of_ble_eq_true rfl) dX10_node_64 (by decide) (fun H locs hP hD hS => ?_)
        have e_4 : (rf : Int) = (sI (okN mk nk kd x y ∧ (kd = 9 → PLC y) ∧ nk < 200) (rf + 1) rf) := by first | omega | exact (sI_t (by omega)).symm | exact (sI_f (by omega)).symm | exact (sIF_t (by omega)).symm | exact (sIF_f (by omega)).symm | (unfold aNode; (repeat (first | rw [if_pos (by omega)] | rw [if_neg (by omega)])))
        have e_5 : ((nk + 1) : Int) = (sI (okN mk nk kd x y ∧ (kd = 9 → PLC y) ∧ nk < 200) nk (nk + 1)) := by first | omega | exact (sI_t (by omega)).symm | exact (sI_f (by omega)).symm | exact (sIF_t (by omega)).symm | exact (sIF_f (by omega)).symm | (unfold aNode; (repeat (first | rw [if_pos (by omega)] | rw [if_neg (by omega)])))
        have e_6 : ((uF ki (nk + 1) kd) : Int → Int) = (sIF (okN mk nk kd x y ∧ (kd = 9 → PLC y) ∧ nk < 200) ki (uF ki (nk + 1) kd)) := by first | omega | exact (sI_t (by omega)).symm | exact (sI_f (by omega)).symm | exact (sIF_t (by omega)).symm | exact (sIF_f (by omega)).symm | (unfold aNode; (repeat (first | rw [if_pos (by omega)] | rw [if_neg (by omega)])))
        have e_7 : ((uF fi (nk + 1) x) : Int → Int) = (sIF (okN mk nk kd x y ∧ (kd = 9 → PLC y) ∧ nk < 200) fi (uF fi (nk + 1) x)) := by first | omega | exact (sI_t (by omega)).symm | exact (sI_f (by omega)).symm | exact (sIF_t (by omega)).symm | exact (sIF_f (by omega)).symm | (unfold aNode; (repeat (first | rw [if_pos (by omega)] | rw [if_neg (by omega)])))
        have e_8 : ((uF se (nk + 1) y) : Int → Int) = (sIF (okN mk nk kd x y ∧ (kd = 9 → PLC y) ∧ nk < 200) se (uF se (nk + 1) y)) := by first | omega | exact (sI_t (by omega)).symm | exact (sI_f (by omega)).symm | exact (sIF_t (by omega)).symm | exact (sIF_f (by omega)).symm | (unfold aNode; (repeat (first | rw [if_pos (by omega)] | rw [if_neg (by omega)])))
        have hP : va_P G.1 vwCl [(x0, .inr (11, [.ref w0, .ref a0, .ref b0, .ref y0, .ref e0, .ref f0, .ref s0, .ref g0, .ref r0, .ref t0, .ref v0, .int (iI (sI (okN mk nk kd x y ∧ (kd = 9 → PLC y) ∧ nk < 200) (rf + 1) rf))])), (a0, .inr (2, [.ref a1, .ref a2, .ref a3, .int (iI mk)])), (a1, .inl (gI G, 61, .inl (fun j : Nat => iI (sz (j : Int))))), (a2, .inl (gL G, 61, .inr (.inl (fun j : Nat => lI (va (j : Int)))))), (a3, .inl (gL G, 61, .inr (.inl (fun j : Nat => lI (ke (j : Int)))))), (b0, .inr (4, [.ref b1, .ref b2, .ref b3, .int (iI (sI (okN mk nk kd x y ∧ (kd = 9 → PLC y) ∧ nk < 200) nk (nk + 1)))])), (b1, .inl (gI G, 201, .inl (fun j : Nat => iI ((sIF (okN mk nk kd x y ∧ (kd = 9 → PLC y) ∧ nk < 200) ki (uF ki (nk + 1) kd)) (j : Int))))), (b2, .inl (gI G, 201, .inl (fun j : Nat => iI ((sIF (okN mk nk kd x y ∧ (kd = 9 → PLC y) ∧ nk < 200) fi (uF fi (nk + 1) x)) (j : Int))))), (b3, .inl (gI G, 201, .inl (fun j : Nat => iI ((sIF (okN mk nk kd x y ∧ (kd = 9 → PLC y) ∧ nk < 200) se (uF se (nk + 1) y)) (j : Int)))))] H := by rw [← e_4, ← e_5, ← e_6, ← e_7, ← e_8]; exact hP
        have hD : va_D A [(x0, .inr (11, [.ref w0, .ref a0, .ref b0, .ref y0, .ref e0, .ref f0, .ref s0, .ref g0, .ref r0, .ref t0, .ref v0, .int (iI (sI (okN mk nk kd x y ∧ (kd = 9 → PLC y) ∧ nk < 200) (rf + 1) rf))])), (a0, .inr (2, [.ref a1, .ref a2, .ref a3, .int (iI mk)])), (a1, .inl (gI G, 61, .inl (fun j : Nat => iI (sz (j : Int))))), (a2, .inl (gL G, 61, .inr (.inl (fun j : Nat => lI (va (j : Int)))))), (a3, .inl (gL G, 61, .inr (.inl (fun j : Nat => lI (ke (j : Int)))))), (b0, .inr (4, [.ref b1, .ref b2, .ref b3, .int (iI (sI (okN mk nk kd x y ∧ (kd = 9 → PLC y) ∧ nk < 200) nk (nk + 1)))])), (b1, .inl (gI G, 201, .inl (fun j : Nat => iI ((sIF (okN mk nk kd x y ∧ (kd = 9 → PLC y) ∧ nk < 200) ki (uF ki (nk + 1) kd)) (j : Int))))), (b2, .inl (gI G, 201, .inl (fun j : Nat => iI ((sIF (okN mk nk kd x y ∧ (kd = 9 → PLC y) ∧ nk < 200) fi (uF fi (nk + 1) x)) (j : Int))))), (b3, .inl (gI G, 201, .inl (fun j : Nat => iI ((sIF (okN mk nk kd x y ∧ (kd = 9 → PLC y) ∧ nk < 200) se (uF se (nk + 1) y)) (j : Int)))))] := by rw [← e_4, ← e_5, ← e_6, ← e_7, ← e_8]; exact hD
        have r_9 : ((nk + 1) : Int) = (aNode mk nk kd x y) := by first | omega | exact (sI_t (by omega)).symm | exact (sI_f (by omega)).symm | exact (sIF_t (by omega)).symm | exact (sIF_f (by omega)).symm | (unfold aNode; (repeat (first | rw [if_pos (by omega)] | rw [if_neg (by omega)])))
        rw [r_9]
        exact hret _ ls H locs dX10_node_67 hP hD hS
      · skip
        refine lv_aload_n hx hb dX10_node_51 rfl (lv_at hl 0 rfl) ?_
        refine lv_iconst (v := iI (-1)) hx hb dX10_node_52 rfl ?_
        refine z_cVi (RV := (-1)) (As := [.int (iI (-1))]) (rest := []) (wc := [(x0, .inr (11, [.ref w0, .ref a0, .ref b0, .ref y0, .ref e0, .ref f0, .ref s0, .ref g0, .ref r0, .ref t0, .ref v0, .int (iI rf)]))]) (wr := [(a0, .inr (2, [.ref a1, .ref a2, .ref a3, .int (iI mk)])), (a1, .inl (gI G, 61, .inl (fun j : Nat => iI (sz (j : Int))))), (a2, .inl (gL G, 61, .inr (.inl (fun j : Nat => lI (va (j : Int)))))), (a3, .inl (gL G, 61, .inr (.inl (fun j : Nat => lI (ke (j : Int)))))), (b0, .inr (4, [.ref b1, .ref b2, .ref b3, .int (iI nk)])), (b1, .inl (gI G, 201, .inl (fun j : Nat => iI (ki (j : Int))))), (b2, .inl (gI G, 201, .inl (fun j : Nat => iI (fi (j : Int))))), (b3, .inl (gI G, 201, .inl (fun j : Nat => iI (se (j : Int)))))]) (wn := [(a0, .inr (2, [.ref a1, .ref a2, .ref a3, .int (iI mk)])), (a1, .inl (gI G, 61, .inl (fun j : Nat => iI (sz (j : Int))))), (a2, .inl (gL G, 61, .inr (.inl (fun j : Nat => lI (va (j : Int)))))), (a3, .inl (gL G, 61, .inr (.inl (fun j : Nat => lI (ke (j : Int)))))), (b0, .inr (4, [.ref b1, .ref b2, .ref b3, .int (iI nk)])), (b1, .inl (gI G, 201, .inl (fun j : Nat => iI (ki (j : Int))))), (b2, .inl (gI G, 201, .inl (fun j : Nat => iI (fi (j : Int))))), (b3, .inl (gI G, 201, .inl (fun j : Nat => iI (se (j : Int))))), (x0, .inr (11, [.ref w0, .ref a0, .ref b0, .ref y0, .ref e0, .ref f0, .ref s0, .ref g0, .ref r0, .ref t0, .ref v0, .int (iI (rf + 1))]))]) F C (c_X10_refuse l G H.size x0 w0 a0 b0 y0 e0 f0 s0 g0 r0 t0 v0 rf (-1) ) (cwV 1 hts gX10_node_X10_refuse rfl rfl rfl (by decide +kernel) (by decide)) hP hD hS (q0 := 0) rfl rfl rfl [0] [1, 2, 3, 4, 5, 6, 7, 8] rfl rfl (by decide) rfl rfl hl.1 rfl (Nat.le_of_ble_eq_true rfl) dX10_node_53 (by decide) (fun H locs hP hD hS => ?_)
        have hP : va_P G.1 vwCl [(x0, .inr (11, [.ref w0, .ref a0, .ref b0, .ref y0, .ref e0, .ref f0, .ref s0, .ref g0, .ref r0, .ref t0, .ref v0, .int (iI (rf + 1))])), (a0, .inr (2, [.ref a1, .ref a2, .ref a3, .int (iI mk)])), (a1, .inl (gI G, 61, .inl (fun j : Nat => iI (sz (j : Int))))), (a2, .inl (gL G, 61, .inr (.inl (fun j : Nat => lI (va (j : Int)))))), (a3, .inl (gL G, 61, .inr (.inl (fun j : Nat => lI (ke (j : Int)))))), (b0, .inr (4, [.ref b1, .ref b2, .ref b3, .int (iI nk)])), (b1, .inl (gI G, 201, .inl (fun j : Nat => iI (ki (j : Int))))), (b2, .inl (gI G, 201, .inl (fun j : Nat => iI (fi (j : Int))))), (b3, .inl (gI G, 201, .inl (fun j : Nat => iI (se (j : Int)))))] H := hP.sub [8, 0, 1, 2, 3, 4, 5, 6, 7] rfl
        have hD : va_D A [(x0, .inr (11, [.ref w0, .ref a0, .ref b0, .ref y0, .ref e0, .ref f0, .ref s0, .ref g0, .ref r0, .ref t0, .ref v0, .int (iI (rf + 1))])), (a0, .inr (2, [.ref a1, .ref a2, .ref a3, .int (iI mk)])), (a1, .inl (gI G, 61, .inl (fun j : Nat => iI (sz (j : Int))))), (a2, .inl (gL G, 61, .inr (.inl (fun j : Nat => lI (va (j : Int)))))), (a3, .inl (gL G, 61, .inr (.inl (fun j : Nat => lI (ke (j : Int)))))), (b0, .inr (4, [.ref b1, .ref b2, .ref b3, .int (iI nk)])), (b1, .inl (gI G, 201, .inl (fun j : Nat => iI (ki (j : Int))))), (b2, .inl (gI G, 201, .inl (fun j : Nat => iI (fi (j : Int))))), (b3, .inl (gI G, 201, .inl (fun j : Nat => iI (se (j : Int)))))] := hD.sub [8, 0, 1, 2, 3, 4, 5, 6, 7] (by decide) rfl
        have e_10 : ((rf + 1) : Int) = (sI (okN mk nk kd x y ∧ (kd = 9 → PLC y) ∧ nk < 200) (rf + 1) rf) := by first | omega | exact (sI_t (by omega)).symm | exact (sI_f (by omega)).symm | exact (sIF_t (by omega)).symm | exact (sIF_f (by omega)).symm | (unfold aNode; (repeat (first | rw [if_pos (by omega)] | rw [if_neg (by omega)])))
        have e_11 : (nk : Int) = (sI (okN mk nk kd x y ∧ (kd = 9 → PLC y) ∧ nk < 200) nk (nk + 1)) := by first | omega | exact (sI_t (by omega)).symm | exact (sI_f (by omega)).symm | exact (sIF_t (by omega)).symm | exact (sIF_f (by omega)).symm | (unfold aNode; (repeat (first | rw [if_pos (by omega)] | rw [if_neg (by omega)])))
        have e_12 : (ki : Int → Int) = (sIF (okN mk nk kd x y ∧ (kd = 9 → PLC y) ∧ nk < 200) ki (uF ki (nk + 1) kd)) := by first | omega | exact (sI_t (by omega)).symm | exact (sI_f (by omega)).symm | exact (sIF_t (by omega)).symm | exact (sIF_f (by omega)).symm | (unfold aNode; (repeat (first | rw [if_pos (by omega)] | rw [if_neg (by omega)])))
        have e_13 : (fi : Int → Int) = (sIF (okN mk nk kd x y ∧ (kd = 9 → PLC y) ∧ nk < 200) fi (uF fi (nk + 1) x)) := by first | omega | exact (sI_t (by omega)).symm | exact (sI_f (by omega)).symm | exact (sIF_t (by omega)).symm | exact (sIF_f (by omega)).symm | (unfold aNode; (repeat (first | rw [if_pos (by omega)] | rw [if_neg (by omega)])))
        have e_14 : (se : Int → Int) = (sIF (okN mk nk kd x y ∧ (kd = 9 → PLC y) ∧ nk < 200) se (uF se (nk + 1) y)) := by first | omega | exact (sI_t (by omega)).symm | exact (sI_f (by omega)).symm | exact (sIF_t (by omega)).symm | exact (sIF_f (by omega)).symm | (unfold aNode; (repeat (first | rw [if_pos (by omega)] | rw [if_neg (by omega)])))
        have hP : va_P G.1 vwCl [(x0, .inr (11, [.ref w0, .ref a0, .ref b0, .ref y0, .ref e0, .ref f0, .ref s0, .ref g0, .ref r0, .ref t0, .ref v0, .int (iI (sI (okN mk nk kd x y ∧ (kd = 9 → PLC y) ∧ nk < 200) (rf + 1) rf))])), (a0, .inr (2, [.ref a1, .ref a2, .ref a3, .int (iI mk)])), (a1, .inl (gI G, 61, .inl (fun j : Nat => iI (sz (j : Int))))), (a2, .inl (gL G, 61, .inr (.inl (fun j : Nat => lI (va (j : Int)))))), (a3, .inl (gL G, 61, .inr (.inl (fun j : Nat => lI (ke (j : Int)))))), (b0, .inr (4, [.ref b1, .ref b2, .ref b3, .int (iI (sI (okN mk nk kd x y ∧ (kd = 9 → PLC y) ∧ nk < 200) nk (nk + 1)))])), (b1, .inl (gI G, 201, .inl (fun j : Nat => iI ((sIF (okN mk nk kd x y ∧ (kd = 9 → PLC y) ∧ nk < 200) ki (uF ki (nk + 1) kd)) (j : Int))))), (b2, .inl (gI G, 201, .inl (fun j : Nat => iI ((sIF (okN mk nk kd x y ∧ (kd = 9 → PLC y) ∧ nk < 200) fi (uF fi (nk + 1) x)) (j : Int))))), (b3, .inl (gI G, 201, .inl (fun j : Nat => iI ((sIF (okN mk nk kd x y ∧ (kd = 9 → PLC y) ∧ nk < 200) se (uF se (nk + 1) y)) (j : Int)))))] H := by rw [← e_10, ← e_11, ← e_12, ← e_13, ← e_14]; exact hP
        have hD : va_D A [(x0, .inr (11, [.ref w0, .ref a0, .ref b0, .ref y0, .ref e0, .ref f0, .ref s0, .ref g0, .ref r0, .ref t0, .ref v0, .int (iI (sI (okN mk nk kd x y ∧ (kd = 9 → PLC y) ∧ nk < 200) (rf + 1) rf))])), (a0, .inr (2, [.ref a1, .ref a2, .ref a3, .int (iI mk)])), (a1, .inl (gI G, 61, .inl (fun j : Nat => iI (sz (j : Int))))), (a2, .inl (gL G, 61, .inr (.inl (fun j : Nat => lI (va (j : Int)))))), (a3, .inl (gL G, 61, .inr (.inl (fun j : Nat => lI (ke (j : Int)))))), (b0, .inr (4, [.ref b1, .ref b2, .ref b3, .int (iI (sI (okN mk nk kd x y ∧ (kd = 9 → PLC y) ∧ nk < 200) nk (nk + 1)))])), (b1, .inl (gI G, 201, .inl (fun j : Nat => iI ((sIF (okN mk nk kd x y ∧ (kd = 9 → PLC y) ∧ nk < 200) ki (uF ki (nk + 1) kd)) (j : Int))))), (b2, .inl (gI G, 201, .inl (fun j : Nat => iI ((sIF (okN mk nk kd x y ∧ (kd = 9 → PLC y) ∧ nk < 200) fi (uF fi (nk + 1) x)) (j : Int))))), (b3, .inl (gI G, 201, .inl (fun j : Nat => iI ((sIF (okN mk nk kd x y ∧ (kd = 9 → PLC y) ∧ nk < 200) se (uF se (nk + 1) y)) (j : Int)))))] := by rw [← e_10, ← e_11, ← e_12, ← e_13, ← e_14]; exact hD
        have r_15 : ((-1) : Int) = (aNode mk nk kd x y) := by first | omega | exact (sI_t (by omega)).symm | exact (sI_f (by omega)).symm | exact (sIF_t (by omega)).symm | exact (sIF_f (by omega)).symm | (unfold aNode; (repeat (first | rw [if_pos (by omega)] | rw [if_neg (by omega)])))
        rw [r_15]
        exact hret _ ls H locs dX10_node_56 hP hD hS
    · skip
      refine lv_iload_n hx hb dX10_node_23 rfl (lv_at hl 3 rfl) ?_
      refine z_i2l hx hb dX10_node_24 (by omega) ?_
      refine z_cSi (RV := (if PLC y then 1 else 0)) (As := [.long (lI y)]) (rest := []) (wc := []) (wr := [(x0, .inr (11, [.ref w0, .ref a0, .ref b0, .ref y0, .ref e0, .ref f0, .ref s0, .ref g0, .ref r0, .ref t0, .ref v0, .int (iI rf)])), (a0, .inr (2, [.ref a1, .ref a2, .ref a3, .int (iI mk)])), (a1, .inl (gI G, 61, .inl (fun j : Nat => iI (sz (j : Int))))), (a2, .inl (gL G, 61, .inr (.inl (fun j : Nat => lI (va (j : Int)))))), (a3, .inl (gL G, 61, .inr (.inl (fun j : Nat => lI (ke (j : Int)))))), (b0, .inr (4, [.ref b1, .ref b2, .ref b3, .int (iI nk)])), (b1, .inl (gI G, 201, .inl (fun j : Nat => iI (ki (j : Int))))), (b2, .inl (gI G, 201, .inl (fun j : Nat => iI (fi (j : Int))))), (b3, .inl (gI G, 201, .inl (fun j : Nat => iI (se (j : Int)))))]) (wn := [(x0, .inr (11, [.ref w0, .ref a0, .ref b0, .ref y0, .ref e0, .ref f0, .ref s0, .ref g0, .ref r0, .ref t0, .ref v0, .int (iI rf)])), (a0, .inr (2, [.ref a1, .ref a2, .ref a3, .int (iI mk)])), (a1, .inl (gI G, 61, .inl (fun j : Nat => iI (sz (j : Int))))), (a2, .inl (gL G, 61, .inr (.inl (fun j : Nat => lI (va (j : Int)))))), (a3, .inl (gL G, 61, .inr (.inl (fun j : Nat => lI (ke (j : Int)))))), (b0, .inr (4, [.ref b1, .ref b2, .ref b3, .int (iI nk)])), (b1, .inl (gI G, 201, .inl (fun j : Nat => iI (ki (j : Int))))), (b2, .inl (gI G, 201, .inl (fun j : Nat => iI (fi (j : Int))))), (b3, .inl (gI G, 201, .inl (fun j : Nat => iI (se (j : Int)))))]) F C (c_X10_isPlace l G H.size y (by omega)) (va_cwS 1 hts gX10_node_X10_isPlace rfl rfl rfl (by decide +kernel) (by decide)) hP hD hS [] [0, 1, 2, 3, 4, 5, 6, 7, 8] rfl rfl (by decide) rfl rfl hl.1 rfl (Nat.le_of_ble_eq_true rfl) dX10_node_25 (by decide) (fun H locs hP hD hS => ?_)
      refine z_if_ne (tgt := 38) hx hb dX10_node_28 (by decide) (by split <;> omega) (fun c_16 => ?_) (fun c_16 => ?_)
      · skip
        have qc_16 := if_ne0 c_16
        refine lv_aload_n hx hb dX10_node_38 rfl (lv_at hl 0 rfl) ?_
        refine va_get (D := G.1) (ci := 11) (v := .ref b0) (C := RX10) (T := TX10) (N := 12) hx hb hts hiX10 hown hK hP 0 rfl rfl 2 (by decide) hw0 (fun _ h9 => h9) rfl dX10_node_39 ?_
        refine va_get (D := G.1) (ci := 4) (v := .int (iI nk)) (C := RX3) (T := TX3) (N := 4) hx hb hts hiX3 hown hK hP 5 rfl rfl 3 (by decide) hw1 (fun _ h9 => h9) rfl dX10_node_42 ?_
        refine lv_sipush (v := iI (200)) hx hb dX10_node_45 (by decide) ?_
        refine z_icmp_lt (tgt := 57) hx hb dX10_node_48 (by decide) (by omega) (fun c_17 => ?_) (fun c_17 => ?_)
        · skip
          refine lv_aload_n hx hb dX10_node_57 rfl (lv_at hl 0 rfl) ?_
          refine va_get (D := G.1) (ci := 11) (v := .ref b0) (C := RX10) (T := TX10) (N := 12) hx hb hts hiX10 hown hK hP 0 rfl rfl 2 (by decide) hw0 (fun _ h9 => h9) rfl dX10_node_58 ?_
          refine lv_iload_n hx hb dX10_node_61 rfl (lv_at hl 1 rfl) ?_
          refine lv_iload_n hx hb dX10_node_62 rfl (lv_at hl 2 rfl) ?_
          refine lv_iload_n hx hb dX10_node_63 rfl (lv_at hl 3 rfl) ?_
          refine z_cVi (RV := (nk + 1)) (As := [.int (iI kd), .int (iI x), .int (iI y)]) (rest := []) (wc := [(b0, .inr (4, [.ref b1, .ref b2, .ref b3, .int (iI nk)])), (b1, .inl (gI G, 201, .inl (fun j : Nat => iI (ki (j : Int))))), (b2, .inl (gI G, 201, .inl (fun j : Nat => iI (fi (j : Int))))), (b3, .inl (gI G, 201, .inl (fun j : Nat => iI (se (j : Int)))))]) (wr := [(x0, .inr (11, [.ref w0, .ref a0, .ref b0, .ref y0, .ref e0, .ref f0, .ref s0, .ref g0, .ref r0, .ref t0, .ref v0, .int (iI rf)])), (a0, .inr (2, [.ref a1, .ref a2, .ref a3, .int (iI mk)])), (a1, .inl (gI G, 61, .inl (fun j : Nat => iI (sz (j : Int))))), (a2, .inl (gL G, 61, .inr (.inl (fun j : Nat => lI (va (j : Int)))))), (a3, .inl (gL G, 61, .inr (.inl (fun j : Nat => lI (ke (j : Int))))))]) (wn := [(x0, .inr (11, [.ref w0, .ref a0, .ref b0, .ref y0, .ref e0, .ref f0, .ref s0, .ref g0, .ref r0, .ref t0, .ref v0, .int (iI rf)])), (a0, .inr (2, [.ref a1, .ref a2, .ref a3, .int (iI mk)])), (a1, .inl (gI G, 61, .inl (fun j : Nat => iI (sz (j : Int))))), (a2, .inl (gL G, 61, .inr (.inl (fun j : Nat => lI (va (j : Int)))))), (a3, .inl (gL G, 61, .inr (.inl (fun j : Nat => lI (ke (j : Int)))))), (b0, .inr (4, [.ref b1, .ref b2, .ref b3, .int (iI (nk + 1))])), (b1, .inl (gI G, 201, .inl (fun j : Nat => iI ((uF ki (nk + 1) kd) (j : Int))))), (b2, .inl (gI G, 201, .inl (fun j : Nat => iI ((uF fi (nk + 1) x) (j : Int))))), (b3, .inl (gI G, 201, .inl (fun j : Nat => iI ((uF se (nk + 1) y) (j : Int)))))]) F C (c_X3_make l G H.size b0 b1 b2 b3 ki fi se nk kd x y (by omega)) (cwV 3 hts gX10_node_X3_make rfl rfl rfl (by decide +kernel) (by decide)) hP hD hS (q0 := 5) rfl rfl rfl [5, 6, 7, 8] [0, 1, 2, 3, 4] rfl rfl (by decide) rfl rfl hl.1 rfl (Nat.le_of_ble_eq_true rfl) dX10_node_64 (by decide) (fun H locs hP hD hS => ?_)
          have e_18 : (rf : Int) = (sI (okN mk nk kd x y ∧ (kd = 9 → PLC y) ∧ nk < 200) (rf + 1) rf) := by first | omega | exact (sI_t (by omega)).symm | exact (sI_f (by omega)).symm | exact (sIF_t (by omega)).symm | exact (sIF_f (by omega)).symm | (unfold aNode; (repeat (first | rw [if_pos (by omega)] | rw [if_neg (by omega)])))
          have e_19 : ((nk + 1) : Int) = (sI (okN mk nk kd x y ∧ (kd = 9 → PLC y) ∧ nk < 200) nk (nk + 1)) := by first | omega | exact (sI_t (by omega)).symm | exact (sI_f (by omega)).symm | exact (sIF_t (by omega)).symm | exact (sIF_f (by omega)).symm | (unfold aNode; (repeat (first | rw [if_pos (by omega)] | rw [if_neg (by omega)])))
          have e_20 : ((uF ki (nk + 1) kd) : Int → Int) = (sIF (okN mk nk kd x y ∧ (kd = 9 → PLC y) ∧ nk < 200) ki (uF ki (nk + 1) kd)) := by first | omega | exact (sI_t (by omega)).symm | exact (sI_f (by omega)).symm | exact (sIF_t (by omega)).symm | exact (sIF_f (by omega)).symm | (unfold aNode; (repeat (first | rw [if_pos (by omega)] | rw [if_neg (by omega)])))
          have e_21 : ((uF fi (nk + 1) x) : Int → Int) = (sIF (okN mk nk kd x y ∧ (kd = 9 → PLC y) ∧ nk < 200) fi (uF fi (nk + 1) x)) := by first | omega | exact (sI_t (by omega)).symm | exact (sI_f (by omega)).symm | exact (sIF_t (by omega)).symm | exact (sIF_f (by omega)).symm | (unfold aNode; (repeat (first | rw [if_pos (by omega)] | rw [if_neg (by omega)])))
          have e_22 : ((uF se (nk + 1) y) : Int → Int) = (sIF (okN mk nk kd x y ∧ (kd = 9 → PLC y) ∧ nk < 200) se (uF se (nk + 1) y)) := by first | omega | exact (sI_t (by omega)).symm | exact (sI_f (by omega)).symm | exact (sIF_t (by omega)).symm | exact (sIF_f (by omega)).symm | (unfold aNode; (repeat (first | rw [if_pos (by omega)] | rw [if_neg (by omega)])))
          have hP : va_P G.1 vwCl [(x0, .inr (11, [.ref w0, .ref a0, .ref b0, .ref y0, .ref e0, .ref f0, .ref s0, .ref g0, .ref r0, .ref t0, .ref v0, .int (iI (sI (okN mk nk kd x y ∧ (kd = 9 → PLC y) ∧ nk < 200) (rf + 1) rf))])), (a0, .inr (2, [.ref a1, .ref a2, .ref a3, .int (iI mk)])), (a1, .inl (gI G, 61, .inl (fun j : Nat => iI (sz (j : Int))))), (a2, .inl (gL G, 61, .inr (.inl (fun j : Nat => lI (va (j : Int)))))), (a3, .inl (gL G, 61, .inr (.inl (fun j : Nat => lI (ke (j : Int)))))), (b0, .inr (4, [.ref b1, .ref b2, .ref b3, .int (iI (sI (okN mk nk kd x y ∧ (kd = 9 → PLC y) ∧ nk < 200) nk (nk + 1)))])), (b1, .inl (gI G, 201, .inl (fun j : Nat => iI ((sIF (okN mk nk kd x y ∧ (kd = 9 → PLC y) ∧ nk < 200) ki (uF ki (nk + 1) kd)) (j : Int))))), (b2, .inl (gI G, 201, .inl (fun j : Nat => iI ((sIF (okN mk nk kd x y ∧ (kd = 9 → PLC y) ∧ nk < 200) fi (uF fi (nk + 1) x)) (j : Int))))), (b3, .inl (gI G, 201, .inl (fun j : Nat => iI ((sIF (okN mk nk kd x y ∧ (kd = 9 → PLC y) ∧ nk < 200) se (uF se (nk + 1) y)) (j : Int)))))] H := by rw [← e_18, ← e_19, ← e_20, ← e_21, ← e_22]; exact hP
          have hD : va_D A [(x0, .inr (11, [.ref w0, .ref a0, .ref b0, .ref y0, .ref e0, .ref f0, .ref s0, .ref g0, .ref r0, .ref t0, .ref v0, .int (iI (sI (okN mk nk kd x y ∧ (kd = 9 → PLC y) ∧ nk < 200) (rf + 1) rf))])), (a0, .inr (2, [.ref a1, .ref a2, .ref a3, .int (iI mk)])), (a1, .inl (gI G, 61, .inl (fun j : Nat => iI (sz (j : Int))))), (a2, .inl (gL G, 61, .inr (.inl (fun j : Nat => lI (va (j : Int)))))), (a3, .inl (gL G, 61, .inr (.inl (fun j : Nat => lI (ke (j : Int)))))), (b0, .inr (4, [.ref b1, .ref b2, .ref b3, .int (iI (sI (okN mk nk kd x y ∧ (kd = 9 → PLC y) ∧ nk < 200) nk (nk + 1)))])), (b1, .inl (gI G, 201, .inl (fun j : Nat => iI ((sIF (okN mk nk kd x y ∧ (kd = 9 → PLC y) ∧ nk < 200) ki (uF ki (nk + 1) kd)) (j : Int))))), (b2, .inl (gI G, 201, .inl (fun j : Nat => iI ((sIF (okN mk nk kd x y ∧ (kd = 9 → PLC y) ∧ nk < 200) fi (uF fi (nk + 1) x)) (j : Int))))), (b3, .inl (gI G, 201, .inl (fun j : Nat => iI ((sIF (okN mk nk kd x y ∧ (kd = 9 → PLC y) ∧ nk < 200) se (uF se (nk + 1) y)) (j : Int)))))] := by rw [← e_18, ← e_19, ← e_20, ← e_21, ← e_22]; exact hD
          have r_23 : ((nk + 1) : Int) = (aNode mk nk kd x y) := by first | omega | exact (sI_t (by omega)).symm | exact (sI_f (by omega)).symm | exact (sIF_t (by omega)).symm | exact (sIF_f (by omega)).symm | (unfold aNode; (repeat (first | rw [if_pos (by omega)] | rw [if_neg (by omega)])))
          rw [r_23]
          exact hret _ ls H locs dX10_node_67 hP hD hS
        · skip
          refine lv_aload_n hx hb dX10_node_51 rfl (lv_at hl 0 rfl) ?_
          refine lv_iconst (v := iI (-1)) hx hb dX10_node_52 rfl ?_
          refine z_cVi (RV := (-1)) (As := [.int (iI (-1))]) (rest := []) (wc := [(x0, .inr (11, [.ref w0, .ref a0, .ref b0, .ref y0, .ref e0, .ref f0, .ref s0, .ref g0, .ref r0, .ref t0, .ref v0, .int (iI rf)]))]) (wr := [(a0, .inr (2, [.ref a1, .ref a2, .ref a3, .int (iI mk)])), (a1, .inl (gI G, 61, .inl (fun j : Nat => iI (sz (j : Int))))), (a2, .inl (gL G, 61, .inr (.inl (fun j : Nat => lI (va (j : Int)))))), (a3, .inl (gL G, 61, .inr (.inl (fun j : Nat => lI (ke (j : Int)))))), (b0, .inr (4, [.ref b1, .ref b2, .ref b3, .int (iI nk)])), (b1, .inl (gI G, 201, .inl (fun j : Nat => iI (ki (j : Int))))), (b2, .inl (gI G, 201, .inl (fun j : Nat => iI (fi (j : Int))))), (b3, .inl (gI G, 201, .inl (fun j : Nat => iI (se (j : Int)))))]) (wn := [(a0, .inr (2, [.ref a1, .ref a2, .ref a3, .int (iI mk)])), (a1, .inl (gI G, 61, .inl (fun j : Nat => iI (sz (j : Int))))), (a2, .inl (gL G, 61, .inr (.inl (fun j : Nat => lI (va (j : Int)))))), (a3, .inl (gL G, 61, .inr (.inl (fun j : Nat => lI (ke (j : Int)))))), (b0, .inr (4, [.ref b1, .ref b2, .ref b3, .int (iI nk)])), (b1, .inl (gI G, 201, .inl (fun j : Nat => iI (ki (j : Int))))), (b2, .inl (gI G, 201, .inl (fun j : Nat => iI (fi (j : Int))))), (b3, .inl (gI G, 201, .inl (fun j : Nat => iI (se (j : Int))))), (x0, .inr (11, [.ref w0, .ref a0, .ref b0, .ref y0, .ref e0, .ref f0, .ref s0, .ref g0, .ref r0, .ref t0, .ref v0, .int (iI (rf + 1))]))]) F C (c_X10_refuse l G H.size x0 w0 a0 b0 y0 e0 f0 s0 g0 r0 t0 v0 rf (-1) ) (cwV 1 hts gX10_node_X10_refuse rfl rfl rfl (by decide +kernel) (by decide)) hP hD hS (q0 := 0) rfl rfl rfl [0] [1, 2, 3, 4, 5, 6, 7, 8] rfl rfl (by decide) rfl rfl hl.1 rfl (Nat.le_of_ble_eq_true rfl) dX10_node_53 (by decide) (fun H locs hP hD hS => ?_)
          have hP : va_P G.1 vwCl [(x0, .inr (11, [.ref w0, .ref a0, .ref b0, .ref y0, .ref e0, .ref f0, .ref s0, .ref g0, .ref r0, .ref t0, .ref v0, .int (iI (rf + 1))])), (a0, .inr (2, [.ref a1, .ref a2, .ref a3, .int (iI mk)])), (a1, .inl (gI G, 61, .inl (fun j : Nat => iI (sz (j : Int))))), (a2, .inl (gL G, 61, .inr (.inl (fun j : Nat => lI (va (j : Int)))))), (a3, .inl (gL G, 61, .inr (.inl (fun j : Nat => lI (ke (j : Int)))))), (b0, .inr (4, [.ref b1, .ref b2, .ref b3, .int (iI nk)])), (b1, .inl (gI G, 201, .inl (fun j : Nat => iI (ki (j : Int))))), (b2, .inl (gI G, 201, .inl (fun j : Nat => iI (fi (j : Int))))), (b3, .inl (gI G, 201, .inl (fun j : Nat => iI (se (j : Int)))))] H := hP.sub [8, 0, 1, 2, 3, 4, 5, 6, 7] rfl
          have hD : va_D A [(x0, .inr (11, [.ref w0, .ref a0, .ref b0, .ref y0, .ref e0, .ref f0, .ref s0, .ref g0, .ref r0, .ref t0, .ref v0, .int (iI (rf + 1))])), (a0, .inr (2, [.ref a1, .ref a2, .ref a3, .int (iI mk)])), (a1, .inl (gI G, 61, .inl (fun j : Nat => iI (sz (j : Int))))), (a2, .inl (gL G, 61, .inr (.inl (fun j : Nat => lI (va (j : Int)))))), (a3, .inl (gL G, 61, .inr (.inl (fun j : Nat => lI (ke (j : Int)))))), (b0, .inr (4, [.ref b1, .ref b2, .ref b3, .int (iI nk)])), (b1, .inl (gI G, 201, .inl (fun j : Nat => iI (ki (j : Int))))), (b2, .inl (gI G, 201, .inl (fun j : Nat => iI (fi (j : Int))))), (b3, .inl (gI G, 201, .inl (fun j : Nat => iI (se (j : Int)))))] := hD.sub [8, 0, 1, 2, 3, 4, 5, 6, 7] (by decide) rfl
          have e_24 : ((rf + 1) : Int) = (sI (okN mk nk kd x y ∧ (kd = 9 → PLC y) ∧ nk < 200) (rf + 1) rf) := by first | omega | exact (sI_t (by omega)).symm | exact (sI_f (by omega)).symm | exact (sIF_t (by omega)).symm | exact (sIF_f (by omega)).symm | (unfold aNode; (repeat (first | rw [if_pos (by omega)] | rw [if_neg (by omega)])))
          have e_25 : (nk : Int) = (sI (okN mk nk kd x y ∧ (kd = 9 → PLC y) ∧ nk < 200) nk (nk + 1)) := by first | omega | exact (sI_t (by omega)).symm | exact (sI_f (by omega)).symm | exact (sIF_t (by omega)).symm | exact (sIF_f (by omega)).symm | (unfold aNode; (repeat (first | rw [if_pos (by omega)] | rw [if_neg (by omega)])))
          have e_26 : (ki : Int → Int) = (sIF (okN mk nk kd x y ∧ (kd = 9 → PLC y) ∧ nk < 200) ki (uF ki (nk + 1) kd)) := by first | omega | exact (sI_t (by omega)).symm | exact (sI_f (by omega)).symm | exact (sIF_t (by omega)).symm | exact (sIF_f (by omega)).symm | (unfold aNode; (repeat (first | rw [if_pos (by omega)] | rw [if_neg (by omega)])))
          have e_27 : (fi : Int → Int) = (sIF (okN mk nk kd x y ∧ (kd = 9 → PLC y) ∧ nk < 200) fi (uF fi (nk + 1) x)) := by first | omega | exact (sI_t (by omega)).symm | exact (sI_f (by omega)).symm | exact (sIF_t (by omega)).symm | exact (sIF_f (by omega)).symm | (unfold aNode; (repeat (first | rw [if_pos (by omega)] | rw [if_neg (by omega)])))
          have e_28 : (se : Int → Int) = (sIF (okN mk nk kd x y ∧ (kd = 9 → PLC y) ∧ nk < 200) se (uF se (nk + 1) y)) := by first | omega | exact (sI_t (by omega)).symm | exact (sI_f (by omega)).symm | exact (sIF_t (by omega)).symm | exact (sIF_f (by omega)).symm | (unfold aNode; (repeat (first | rw [if_pos (by omega)] | rw [if_neg (by omega)])))
          have hP : va_P G.1 vwCl [(x0, .inr (11, [.ref w0, .ref a0, .ref b0, .ref y0, .ref e0, .ref f0, .ref s0, .ref g0, .ref r0, .ref t0, .ref v0, .int (iI (sI (okN mk nk kd x y ∧ (kd = 9 → PLC y) ∧ nk < 200) (rf + 1) rf))])), (a0, .inr (2, [.ref a1, .ref a2, .ref a3, .int (iI mk)])), (a1, .inl (gI G, 61, .inl (fun j : Nat => iI (sz (j : Int))))), (a2, .inl (gL G, 61, .inr (.inl (fun j : Nat => lI (va (j : Int)))))), (a3, .inl (gL G, 61, .inr (.inl (fun j : Nat => lI (ke (j : Int)))))), (b0, .inr (4, [.ref b1, .ref b2, .ref b3, .int (iI (sI (okN mk nk kd x y ∧ (kd = 9 → PLC y) ∧ nk < 200) nk (nk + 1)))])), (b1, .inl (gI G, 201, .inl (fun j : Nat => iI ((sIF (okN mk nk kd x y ∧ (kd = 9 → PLC y) ∧ nk < 200) ki (uF ki (nk + 1) kd)) (j : Int))))), (b2, .inl (gI G, 201, .inl (fun j : Nat => iI ((sIF (okN mk nk kd x y ∧ (kd = 9 → PLC y) ∧ nk < 200) fi (uF fi (nk + 1) x)) (j : Int))))), (b3, .inl (gI G, 201, .inl (fun j : Nat => iI ((sIF (okN mk nk kd x y ∧ (kd = 9 → PLC y) ∧ nk < 200) se (uF se (nk + 1) y)) (j : Int)))))] H := by rw [← e_24, ← e_25, ← e_26, ← e_27, ← e_28]; exact hP
          have hD : va_D A [(x0, .inr (11, [.ref w0, .ref a0, .ref b0, .ref y0, .ref e0, .ref f0, .ref s0, .ref g0, .ref r0, .ref t0, .ref v0, .int (iI (sI (okN mk nk kd x y ∧ (kd = 9 → PLC y) ∧ nk < 200) (rf + 1) rf))])), (a0, .inr (2, [.ref a1, .ref a2, .ref a3, .int (iI mk)])), (a1, .inl (gI G, 61, .inl (fun j : Nat => iI (sz (j : Int))))), (a2, .inl (gL G, 61, .inr (.inl (fun j : Nat => lI (va (j : Int)))))), (a3, .inl (gL G, 61, .inr (.inl (fun j : Nat => lI (ke (j : Int)))))), (b0, .inr (4, [.ref b1, .ref b2, .ref b3, .int (iI (sI (okN mk nk kd x y ∧ (kd = 9 → PLC y) ∧ nk < 200) nk (nk + 1)))])), (b1, .inl (gI G, 201, .inl (fun j : Nat => iI ((sIF (okN mk nk kd x y ∧ (kd = 9 → PLC y) ∧ nk < 200) ki (uF ki (nk + 1) kd)) (j : Int))))), (b2, .inl (gI G, 201, .inl (fun j : Nat => iI ((sIF (okN mk nk kd x y ∧ (kd = 9 → PLC y) ∧ nk < 200) fi (uF fi (nk + 1) x)) (j : Int))))), (b3, .inl (gI G, 201, .inl (fun j : Nat => iI ((sIF (okN mk nk kd x y ∧ (kd = 9 → PLC y) ∧ nk < 200) se (uF se (nk + 1) y)) (j : Int)))))] := by rw [← e_24, ← e_25, ← e_26, ← e_27, ← e_28]; exact hD
          have r_29 : ((-1) : Int) = (aNode mk nk kd x y) := by first | omega | exact (sI_t (by omega)).symm | exact (sI_f (by omega)).symm | exact (sIF_t (by omega)).symm | exact (sIF_f (by omega)).symm | (unfold aNode; (repeat (first | rw [if_pos (by omega)] | rw [if_neg (by omega)])))
          rw [r_29]
          exact hret _ ls H locs dX10_node_56 hP hD hS
      · skip
        have qc_16 := if_eq0 c_16
        refine lv_aload_n hx hb dX10_node_31 rfl (lv_at hl 0 rfl) ?_
        refine lv_bipush (v := iI (-4)) hx hb dX10_node_32 (by decide) ?_
        refine z_cVi (RV := (-4)) (As := [.int (iI (-4))]) (rest := []) (wc := [(x0, .inr (11, [.ref w0, .ref a0, .ref b0, .ref y0, .ref e0, .ref f0, .ref s0, .ref g0, .ref r0, .ref t0, .ref v0, .int (iI rf)]))]) (wr := [(a0, .inr (2, [.ref a1, .ref a2, .ref a3, .int (iI mk)])), (a1, .inl (gI G, 61, .inl (fun j : Nat => iI (sz (j : Int))))), (a2, .inl (gL G, 61, .inr (.inl (fun j : Nat => lI (va (j : Int)))))), (a3, .inl (gL G, 61, .inr (.inl (fun j : Nat => lI (ke (j : Int)))))), (b0, .inr (4, [.ref b1, .ref b2, .ref b3, .int (iI nk)])), (b1, .inl (gI G, 201, .inl (fun j : Nat => iI (ki (j : Int))))), (b2, .inl (gI G, 201, .inl (fun j : Nat => iI (fi (j : Int))))), (b3, .inl (gI G, 201, .inl (fun j : Nat => iI (se (j : Int)))))]) (wn := [(a0, .inr (2, [.ref a1, .ref a2, .ref a3, .int (iI mk)])), (a1, .inl (gI G, 61, .inl (fun j : Nat => iI (sz (j : Int))))), (a2, .inl (gL G, 61, .inr (.inl (fun j : Nat => lI (va (j : Int)))))), (a3, .inl (gL G, 61, .inr (.inl (fun j : Nat => lI (ke (j : Int)))))), (b0, .inr (4, [.ref b1, .ref b2, .ref b3, .int (iI nk)])), (b1, .inl (gI G, 201, .inl (fun j : Nat => iI (ki (j : Int))))), (b2, .inl (gI G, 201, .inl (fun j : Nat => iI (fi (j : Int))))), (b3, .inl (gI G, 201, .inl (fun j : Nat => iI (se (j : Int))))), (x0, .inr (11, [.ref w0, .ref a0, .ref b0, .ref y0, .ref e0, .ref f0, .ref s0, .ref g0, .ref r0, .ref t0, .ref v0, .int (iI (rf + 1))]))]) F C (c_X10_refuse l G H.size x0 w0 a0 b0 y0 e0 f0 s0 g0 r0 t0 v0 rf (-4) ) (cwV 1 hts gX10_node_X10_refuse rfl rfl rfl (by decide +kernel) (by decide)) hP hD hS (q0 := 0) rfl rfl rfl [0] [1, 2, 3, 4, 5, 6, 7, 8] rfl rfl (by decide) rfl rfl hl.1 rfl (Nat.le_of_ble_eq_true rfl) dX10_node_34 (by decide) (fun H locs hP hD hS => ?_)
        have hP : va_P G.1 vwCl [(x0, .inr (11, [.ref w0, .ref a0, .ref b0, .ref y0, .ref e0, .ref f0, .ref s0, .ref g0, .ref r0, .ref t0, .ref v0, .int (iI (rf + 1))])), (a0, .inr (2, [.ref a1, .ref a2, .ref a3, .int (iI mk)])), (a1, .inl (gI G, 61, .inl (fun j : Nat => iI (sz (j : Int))))), (a2, .inl (gL G, 61, .inr (.inl (fun j : Nat => lI (va (j : Int)))))), (a3, .inl (gL G, 61, .inr (.inl (fun j : Nat => lI (ke (j : Int)))))), (b0, .inr (4, [.ref b1, .ref b2, .ref b3, .int (iI nk)])), (b1, .inl (gI G, 201, .inl (fun j : Nat => iI (ki (j : Int))))), (b2, .inl (gI G, 201, .inl (fun j : Nat => iI (fi (j : Int))))), (b3, .inl (gI G, 201, .inl (fun j : Nat => iI (se (j : Int)))))] H := hP.sub [8, 0, 1, 2, 3, 4, 5, 6, 7] rfl
        have hD : va_D A [(x0, .inr (11, [.ref w0, .ref a0, .ref b0, .ref y0, .ref e0, .ref f0, .ref s0, .ref g0, .ref r0, .ref t0, .ref v0, .int (iI (rf + 1))])), (a0, .inr (2, [.ref a1, .ref a2, .ref a3, .int (iI mk)])), (a1, .inl (gI G, 61, .inl (fun j : Nat => iI (sz (j : Int))))), (a2, .inl (gL G, 61, .inr (.inl (fun j : Nat => lI (va (j : Int)))))), (a3, .inl (gL G, 61, .inr (.inl (fun j : Nat => lI (ke (j : Int)))))), (b0, .inr (4, [.ref b1, .ref b2, .ref b3, .int (iI nk)])), (b1, .inl (gI G, 201, .inl (fun j : Nat => iI (ki (j : Int))))), (b2, .inl (gI G, 201, .inl (fun j : Nat => iI (fi (j : Int))))), (b3, .inl (gI G, 201, .inl (fun j : Nat => iI (se (j : Int)))))] := hD.sub [8, 0, 1, 2, 3, 4, 5, 6, 7] (by decide) rfl
        have e_30 : ((rf + 1) : Int) = (sI (okN mk nk kd x y ∧ (kd = 9 → PLC y) ∧ nk < 200) (rf + 1) rf) := by first | omega | exact (sI_t (by omega)).symm | exact (sI_f (by omega)).symm | exact (sIF_t (by omega)).symm | exact (sIF_f (by omega)).symm | (unfold aNode; (repeat (first | rw [if_pos (by omega)] | rw [if_neg (by omega)])))
        have e_31 : (nk : Int) = (sI (okN mk nk kd x y ∧ (kd = 9 → PLC y) ∧ nk < 200) nk (nk + 1)) := by first | omega | exact (sI_t (by omega)).symm | exact (sI_f (by omega)).symm | exact (sIF_t (by omega)).symm | exact (sIF_f (by omega)).symm | (unfold aNode; (repeat (first | rw [if_pos (by omega)] | rw [if_neg (by omega)])))
        have e_32 : (ki : Int → Int) = (sIF (okN mk nk kd x y ∧ (kd = 9 → PLC y) ∧ nk < 200) ki (uF ki (nk + 1) kd)) := by first | omega | exact (sI_t (by omega)).symm | exact (sI_f (by omega)).symm | exact (sIF_t (by omega)).symm | exact (sIF_f (by omega)).symm | (unfold aNode; (repeat (first | rw [if_pos (by omega)] | rw [if_neg (by omega)])))
        have e_33 : (fi : Int → Int) = (sIF (okN mk nk kd x y ∧ (kd = 9 → PLC y) ∧ nk < 200) fi (uF fi (nk + 1) x)) := by first | omega | exact (sI_t (by omega)).symm | exact (sI_f (by omega)).symm | exact (sIF_t (by omega)).symm | exact (sIF_f (by omega)).symm | (unfold aNode; (repeat (first | rw [if_pos (by omega)] | rw [if_neg (by omega)])))
        have e_34 : (se : Int → Int) = (sIF (okN mk nk kd x y ∧ (kd = 9 → PLC y) ∧ nk < 200) se (uF se (nk + 1) y)) := by first | omega | exact (sI_t (by omega)).symm | exact (sI_f (by omega)).symm | exact (sIF_t (by omega)).symm | exact (sIF_f (by omega)).symm | (unfold aNode; (repeat (first | rw [if_pos (by omega)] | rw [if_neg (by omega)])))
        have hP : va_P G.1 vwCl [(x0, .inr (11, [.ref w0, .ref a0, .ref b0, .ref y0, .ref e0, .ref f0, .ref s0, .ref g0, .ref r0, .ref t0, .ref v0, .int (iI (sI (okN mk nk kd x y ∧ (kd = 9 → PLC y) ∧ nk < 200) (rf + 1) rf))])), (a0, .inr (2, [.ref a1, .ref a2, .ref a3, .int (iI mk)])), (a1, .inl (gI G, 61, .inl (fun j : Nat => iI (sz (j : Int))))), (a2, .inl (gL G, 61, .inr (.inl (fun j : Nat => lI (va (j : Int)))))), (a3, .inl (gL G, 61, .inr (.inl (fun j : Nat => lI (ke (j : Int)))))), (b0, .inr (4, [.ref b1, .ref b2, .ref b3, .int (iI (sI (okN mk nk kd x y ∧ (kd = 9 → PLC y) ∧ nk < 200) nk (nk + 1)))])), (b1, .inl (gI G, 201, .inl (fun j : Nat => iI ((sIF (okN mk nk kd x y ∧ (kd = 9 → PLC y) ∧ nk < 200) ki (uF ki (nk + 1) kd)) (j : Int))))), (b2, .inl (gI G, 201, .inl (fun j : Nat => iI ((sIF (okN mk nk kd x y ∧ (kd = 9 → PLC y) ∧ nk < 200) fi (uF fi (nk + 1) x)) (j : Int))))), (b3, .inl (gI G, 201, .inl (fun j : Nat => iI ((sIF (okN mk nk kd x y ∧ (kd = 9 → PLC y) ∧ nk < 200) se (uF se (nk + 1) y)) (j : Int)))))] H := by rw [← e_30, ← e_31, ← e_32, ← e_33, ← e_34]; exact hP
        have hD : va_D A [(x0, .inr (11, [.ref w0, .ref a0, .ref b0, .ref y0, .ref e0, .ref f0, .ref s0, .ref g0, .ref r0, .ref t0, .ref v0, .int (iI (sI (okN mk nk kd x y ∧ (kd = 9 → PLC y) ∧ nk < 200) (rf + 1) rf))])), (a0, .inr (2, [.ref a1, .ref a2, .ref a3, .int (iI mk)])), (a1, .inl (gI G, 61, .inl (fun j : Nat => iI (sz (j : Int))))), (a2, .inl (gL G, 61, .inr (.inl (fun j : Nat => lI (va (j : Int)))))), (a3, .inl (gL G, 61, .inr (.inl (fun j : Nat => lI (ke (j : Int)))))), (b0, .inr (4, [.ref b1, .ref b2, .ref b3, .int (iI (sI (okN mk nk kd x y ∧ (kd = 9 → PLC y) ∧ nk < 200) nk (nk + 1)))])), (b1, .inl (gI G, 201, .inl (fun j : Nat => iI ((sIF (okN mk nk kd x y ∧ (kd = 9 → PLC y) ∧ nk < 200) ki (uF ki (nk + 1) kd)) (j : Int))))), (b2, .inl (gI G, 201, .inl (fun j : Nat => iI ((sIF (okN mk nk kd x y ∧ (kd = 9 → PLC y) ∧ nk < 200) fi (uF fi (nk + 1) x)) (j : Int))))), (b3, .inl (gI G, 201, .inl (fun j : Nat => iI ((sIF (okN mk nk kd x y ∧ (kd = 9 → PLC y) ∧ nk < 200) se (uF se (nk + 1) y)) (j : Int)))))] := by rw [← e_30, ← e_31, ← e_32, ← e_33, ← e_34]; exact hD
        have r_35 : ((-4) : Int) = (aNode mk nk kd x y) := by first | omega | exact (sI_t (by omega)).symm | exact (sI_f (by omega)).symm | exact (sIF_t (by omega)).symm | exact (sIF_f (by omega)).symm | (unfold aNode; (repeat (first | rw [if_pos (by omega)] | rw [if_neg (by omega)])))
        rw [r_35]
        exact hret _ ls H locs dX10_node_37 hP hD hS
  · skip
    have hok : ¬ okN mk nk kd x y := by intro q; rw [if_pos q] at c_1; omega
    refine lv_aload_n hx hb dX10_node_10 rfl (lv_at hl 0 rfl) ?_
    refine lv_bipush (v := iI (-2)) hx hb dX10_node_11 (by decide) ?_
    refine z_cVi (RV := (-2)) (As := [.int (iI (-2))]) (rest := []) (wc := [(x0, .inr (11, [.ref w0, .ref a0, .ref b0, .ref y0, .ref e0, .ref f0, .ref s0, .ref g0, .ref r0, .ref t0, .ref v0, .int (iI rf)]))]) (wr := [(a0, .inr (2, [.ref a1, .ref a2, .ref a3, .int (iI mk)])), (a1, .inl (gI G, 61, .inl (fun j : Nat => iI (sz (j : Int))))), (a2, .inl (gL G, 61, .inr (.inl (fun j : Nat => lI (va (j : Int)))))), (a3, .inl (gL G, 61, .inr (.inl (fun j : Nat => lI (ke (j : Int)))))), (b0, .inr (4, [.ref b1, .ref b2, .ref b3, .int (iI nk)])), (b1, .inl (gI G, 201, .inl (fun j : Nat => iI (ki (j : Int))))), (b2, .inl (gI G, 201, .inl (fun j : Nat => iI (fi (j : Int))))), (b3, .inl (gI G, 201, .inl (fun j : Nat => iI (se (j : Int)))))]) (wn := [(a0, .inr (2, [.ref a1, .ref a2, .ref a3, .int (iI mk)])), (a1, .inl (gI G, 61, .inl (fun j : Nat => iI (sz (j : Int))))), (a2, .inl (gL G, 61, .inr (.inl (fun j : Nat => lI (va (j : Int)))))), (a3, .inl (gL G, 61, .inr (.inl (fun j : Nat => lI (ke (j : Int)))))), (b0, .inr (4, [.ref b1, .ref b2, .ref b3, .int (iI nk)])), (b1, .inl (gI G, 201, .inl (fun j : Nat => iI (ki (j : Int))))), (b2, .inl (gI G, 201, .inl (fun j : Nat => iI (fi (j : Int))))), (b3, .inl (gI G, 201, .inl (fun j : Nat => iI (se (j : Int))))), (x0, .inr (11, [.ref w0, .ref a0, .ref b0, .ref y0, .ref e0, .ref f0, .ref s0, .ref g0, .ref r0, .ref t0, .ref v0, .int (iI (rf + 1))]))]) F C (c_X10_refuse l G H.size x0 w0 a0 b0 y0 e0 f0 s0 g0 r0 t0 v0 rf (-2) ) (cwV 1 hts gX10_node_X10_refuse rfl rfl rfl (by decide +kernel) (by decide)) hP hD hS (q0 := 0) rfl rfl rfl [0] [1, 2, 3, 4, 5, 6, 7, 8] rfl rfl (by decide) rfl rfl hl.1 rfl (Nat.le_of_ble_eq_true rfl) dX10_node_13 (by decide) (fun H locs hP hD hS => ?_)
    have hP : va_P G.1 vwCl [(x0, .inr (11, [.ref w0, .ref a0, .ref b0, .ref y0, .ref e0, .ref f0, .ref s0, .ref g0, .ref r0, .ref t0, .ref v0, .int (iI (rf + 1))])), (a0, .inr (2, [.ref a1, .ref a2, .ref a3, .int (iI mk)])), (a1, .inl (gI G, 61, .inl (fun j : Nat => iI (sz (j : Int))))), (a2, .inl (gL G, 61, .inr (.inl (fun j : Nat => lI (va (j : Int)))))), (a3, .inl (gL G, 61, .inr (.inl (fun j : Nat => lI (ke (j : Int)))))), (b0, .inr (4, [.ref b1, .ref b2, .ref b3, .int (iI nk)])), (b1, .inl (gI G, 201, .inl (fun j : Nat => iI (ki (j : Int))))), (b2, .inl (gI G, 201, .inl (fun j : Nat => iI (fi (j : Int))))), (b3, .inl (gI G, 201, .inl (fun j : Nat => iI (se (j : Int)))))] H := hP.sub [8, 0, 1, 2, 3, 4, 5, 6, 7] rfl
    have hD : va_D A [(x0, .inr (11, [.ref w0, .ref a0, .ref b0, .ref y0, .ref e0, .ref f0, .ref s0, .ref g0, .ref r0, .ref t0, .ref v0, .int (iI (rf + 1))])), (a0, .inr (2, [.ref a1, .ref a2, .ref a3, .int (iI mk)])), (a1, .inl (gI G, 61, .inl (fun j : Nat => iI (sz (j : Int))))), (a2, .inl (gL G, 61, .inr (.inl (fun j : Nat => lI (va (j : Int)))))), (a3, .inl (gL G, 61, .inr (.inl (fun j : Nat => lI (ke (j : Int)))))), (b0, .inr (4, [.ref b1, .ref b2, .ref b3, .int (iI nk)])), (b1, .inl (gI G, 201, .inl (fun j : Nat => iI (ki (j : Int))))), (b2, .inl (gI G, 201, .inl (fun j : Nat => iI (fi (j : Int))))), (b3, .inl (gI G, 201, .inl (fun j : Nat => iI (se (j : Int)))))] := hD.sub [8, 0, 1, 2, 3, 4, 5, 6, 7] (by decide) rfl
    have e_36 : ((rf + 1) : Int) = (sI (okN mk nk kd x y ∧ (kd = 9 → PLC y) ∧ nk < 200) (rf + 1) rf) := by first | omega | exact (sI_t (by omega)).symm | exact (sI_f (by omega)).symm | exact (sIF_t (by omega)).symm | exact (sIF_f (by omega)).symm | (unfold aNode; (repeat (first | rw [if_pos (by omega)] | rw [if_neg (by omega)])))
    have e_37 : (nk : Int) = (sI (okN mk nk kd x y ∧ (kd = 9 → PLC y) ∧ nk < 200) nk (nk + 1)) := by first | omega | exact (sI_t (by omega)).symm | exact (sI_f (by omega)).symm | exact (sIF_t (by omega)).symm | exact (sIF_f (by omega)).symm | (unfold aNode; (repeat (first | rw [if_pos (by omega)] | rw [if_neg (by omega)])))
    have e_38 : (ki : Int → Int) = (sIF (okN mk nk kd x y ∧ (kd = 9 → PLC y) ∧ nk < 200) ki (uF ki (nk + 1) kd)) := by first | omega | exact (sI_t (by omega)).symm | exact (sI_f (by omega)).symm | exact (sIF_t (by omega)).symm | exact (sIF_f (by omega)).symm | (unfold aNode; (repeat (first | rw [if_pos (by omega)] | rw [if_neg (by omega)])))
    have e_39 : (fi : Int → Int) = (sIF (okN mk nk kd x y ∧ (kd = 9 → PLC y) ∧ nk < 200) fi (uF fi (nk + 1) x)) := by first | omega | exact (sI_t (by omega)).symm | exact (sI_f (by omega)).symm | exact (sIF_t (by omega)).symm | exact (sIF_f (by omega)).symm | (unfold aNode; (repeat (first | rw [if_pos (by omega)] | rw [if_neg (by omega)])))
    have e_40 : (se : Int → Int) = (sIF (okN mk nk kd x y ∧ (kd = 9 → PLC y) ∧ nk < 200) se (uF se (nk + 1) y)) := by first | omega | exact (sI_t (by omega)).symm | exact (sI_f (by omega)).symm | exact (sIF_t (by omega)).symm | exact (sIF_f (by omega)).symm | (unfold aNode; (repeat (first | rw [if_pos (by omega)] | rw [if_neg (by omega)])))
    have hP : va_P G.1 vwCl [(x0, .inr (11, [.ref w0, .ref a0, .ref b0, .ref y0, .ref e0, .ref f0, .ref s0, .ref g0, .ref r0, .ref t0, .ref v0, .int (iI (sI (okN mk nk kd x y ∧ (kd = 9 → PLC y) ∧ nk < 200) (rf + 1) rf))])), (a0, .inr (2, [.ref a1, .ref a2, .ref a3, .int (iI mk)])), (a1, .inl (gI G, 61, .inl (fun j : Nat => iI (sz (j : Int))))), (a2, .inl (gL G, 61, .inr (.inl (fun j : Nat => lI (va (j : Int)))))), (a3, .inl (gL G, 61, .inr (.inl (fun j : Nat => lI (ke (j : Int)))))), (b0, .inr (4, [.ref b1, .ref b2, .ref b3, .int (iI (sI (okN mk nk kd x y ∧ (kd = 9 → PLC y) ∧ nk < 200) nk (nk + 1)))])), (b1, .inl (gI G, 201, .inl (fun j : Nat => iI ((sIF (okN mk nk kd x y ∧ (kd = 9 → PLC y) ∧ nk < 200) ki (uF ki (nk + 1) kd)) (j : Int))))), (b2, .inl (gI G, 201, .inl (fun j : Nat => iI ((sIF (okN mk nk kd x y ∧ (kd = 9 → PLC y) ∧ nk < 200) fi (uF fi (nk + 1) x)) (j : Int))))), (b3, .inl (gI G, 201, .inl (fun j : Nat => iI ((sIF (okN mk nk kd x y ∧ (kd = 9 → PLC y) ∧ nk < 200) se (uF se (nk + 1) y)) (j : Int)))))] H := by rw [← e_36, ← e_37, ← e_38, ← e_39, ← e_40]; exact hP
    have hD : va_D A [(x0, .inr (11, [.ref w0, .ref a0, .ref b0, .ref y0, .ref e0, .ref f0, .ref s0, .ref g0, .ref r0, .ref t0, .ref v0, .int (iI (sI (okN mk nk kd x y ∧ (kd = 9 → PLC y) ∧ nk < 200) (rf + 1) rf))])), (a0, .inr (2, [.ref a1, .ref a2, .ref a3, .int (iI mk)])), (a1, .inl (gI G, 61, .inl (fun j : Nat => iI (sz (j : Int))))), (a2, .inl (gL G, 61, .inr (.inl (fun j : Nat => lI (va (j : Int)))))), (a3, .inl (gL G, 61, .inr (.inl (fun j : Nat => lI (ke (j : Int)))))), (b0, .inr (4, [.ref b1, .ref b2, .ref b3, .int (iI (sI (okN mk nk kd x y ∧ (kd = 9 → PLC y) ∧ nk < 200) nk (nk + 1)))])), (b1, .inl (gI G, 201, .inl (fun j : Nat => iI ((sIF (okN mk nk kd x y ∧ (kd = 9 → PLC y) ∧ nk < 200) ki (uF ki (nk + 1) kd)) (j : Int))))), (b2, .inl (gI G, 201, .inl (fun j : Nat => iI ((sIF (okN mk nk kd x y ∧ (kd = 9 → PLC y) ∧ nk < 200) fi (uF fi (nk + 1) x)) (j : Int))))), (b3, .inl (gI G, 201, .inl (fun j : Nat => iI ((sIF (okN mk nk kd x y ∧ (kd = 9 → PLC y) ∧ nk < 200) se (uF se (nk + 1) y)) (j : Int)))))] := by rw [← e_36, ← e_37, ← e_38, ← e_39, ← e_40]; exact hD
    have r_41 : ((-2) : Int) = (aNode mk nk kd x y) := by first | omega | exact (sI_t (by omega)).symm | exact (sI_f (by omega)).symm | exact (sIF_t (by omega)).symm | exact (sIF_f (by omega)).symm | (unfold aNode; (repeat (first | rw [if_pos (by omega)] | rw [if_neg (by omega)])))
    rw [r_41]
    exact hret _ ls H locs dX10_node_16 hP hD hS

set_option maxHeartbeats 4000000 in
set_option maxRecDepth 100000 in
theorem c_X10_number (l : Launch) (G : Gx) (zz : Nat) (x0 w0 b0 y0 e0 f0 s0 g0 r0 t0 v0 : Nat) (rf : Int) (a0 a1 a2 a3 : Nat) (sz va ke : Int → Int) (mk : Int) (n : Int) (h1 : 0 ≤ mk ∧ mk ≤ 60) (h2 : -2147483648 ≤ n ∧ n < 2147483648) : Cl l yX10_number wsX10_number (rz 1 21) G [.ref x0, .int (iI n)] [(x0, .inr (11, [.ref w0, .ref a0, .ref b0, .ref y0, .ref e0, .ref f0, .ref s0, .ref g0, .ref r0, .ref t0, .ref v0, .int (iI rf)])), (a0, .inr (2, [.ref a1, .ref a2, .ref a3, .int (iI mk)])), (a1, .inl (gI G, 61, .inl (fun j : Nat => iI (sz (j : Int))))), (a2, .inl (gL G, 61, .inr (.inl (fun j : Nat => lI (va (j : Int)))))), (a3, .inl (gL G, 61, .inr (.inl (fun j : Nat => lI (ke (j : Int))))))] zz (if 1 ≤ n ∧ n ≤ mk then va n else 0) [(x0, .inr (11, [.ref w0, .ref a0, .ref b0, .ref y0, .ref e0, .ref f0, .ref s0, .ref g0, .ref r0, .ref t0, .ref v0, .int (iI rf)])), (a0, .inr (2, [.ref a1, .ref a2, .ref a3, .int (iI mk)])), (a1, .inl (gI G, 61, .inl (fun j : Nat => iI (sz (j : Int))))), (a2, .inl (gL G, 61, .inr (.inl (fun j : Nat => lI (va (j : Int)))))), (a3, .inl (gL G, 61, .inr (.inl (fun j : Nat => lI (ke (j : Int))))))] := by
  refine met_l (cc := cX10_number) (maxL := 2) (by decide) rfl (Nat.le_of_ble_eq_true rfl) ⟨rfl, rfl⟩ ?_
  intro p e s m below meth c A Q F C hP hD hS hret ls hl
  obtain ⟨hx, hb, hml, hown, hts⟩ := id F
  obtain ⟨hK, hA, hZ, hT, hN⟩ := id C
  have hl : lv_has ls 2 [(0, .ref x0), (1, .int (iI n))] := hl
  obtain ⟨H, hH⟩ : ∃ H, H = s.heap := ⟨_, rfl⟩
  obtain ⟨locs, hlocs⟩ : ∃ l : List Loc, l = [] := ⟨_, rfl⟩
  have hS : va_S A s.heap H locs := by rw [hH, hlocs]; exact hS
  have hP : va_P G.1 vwCl [(x0, .inr (11, [.ref w0, .ref a0, .ref b0, .ref y0, .ref e0, .ref f0, .ref s0, .ref g0, .ref r0, .ref t0, .ref v0, .int (iI rf)])), (a0, .inr (2, [.ref a1, .ref a2, .ref a3, .int (iI mk)])), (a1, .inl (gI G, 61, .inl (fun j : Nat => iI (sz (j : Int))))), (a2, .inl (gL G, 61, .inr (.inl (fun j : Nat => lI (va (j : Int)))))), (a3, .inl (gL G, 61, .inr (.inl (fun j : Nat => lI (ke (j : Int))))))] H := by rw [hH]; exact hP
  suffices hgo : W p l e (rz 1 21) s m [.ref x0, .int (iI n)].toArray below meth c H locs 0 0 Q (F0 m 0 ls []) by rw [hH, hlocs] at hgo; exact hgo
  have hiX10 : ∀ w ∈ wsX100, w ∈ wsX10_number := by decide +kernel
  have hw0 := hts (Cond.fieldLink RX10 86 "PlainCobol" "cells" "LPlainCobol$Cells;") (List.mem_of_getElem? (i := 1) rfl)
  have hiX1 : ∀ w ∈ wsX10, w ∈ wsX10_number := by decide +kernel
  have hw1 := hts (Cond.fieldLink RX10 148 "PlainCobol$Cells" "values" "[J") (List.mem_of_getElem? (i := 2) rfl)
  refine lv_aload_n hx hb dX10_number_0 rfl (lv_at hl 0 rfl) ?_
  refine va_get (D := G.1) (ci := 11) (v := .ref a0) (C := RX10) (T := TX10) (N := 12) hx hb hts hiX10 hown hK hP 0 rfl rfl 1 (by decide) hw0 (fun _ h9 => h9) rfl dX10_number_1 ?_
  refine lv_iload_n hx hb dX10_number_4 rfl (lv_at hl 1 rfl) ?_
  refine z_cVi (RV := (if 1 ≤ n ∧ n ≤ mk then 1 else 0)) (As := [.int (iI n)]) (rest := []) (wc := [(a0, .inr (2, [.ref a1, .ref a2, .ref a3, .int (iI mk)])), (a1, .inl (gI G, 61, .inl (fun j : Nat => iI (sz (j : Int))))), (a2, .inl (gL G, 61, .inr (.inl (fun j : Nat => lI (va (j : Int)))))), (a3, .inl (gL G, 61, .inr (.inl (fun j : Nat => lI (ke (j : Int))))))]) (wr := [(x0, .inr (11, [.ref w0, .ref a0, .ref b0, .ref y0, .ref e0, .ref f0, .ref s0, .ref g0, .ref r0, .ref t0, .ref v0, .int (iI rf)]))]) (wn := [(x0, .inr (11, [.ref w0, .ref a0, .ref b0, .ref y0, .ref e0, .ref f0, .ref s0, .ref g0, .ref r0, .ref t0, .ref v0, .int (iI rf)])), (a0, .inr (2, [.ref a1, .ref a2, .ref a3, .int (iI mk)])), (a1, .inl (gI G, 61, .inl (fun j : Nat => iI (sz (j : Int))))), (a2, .inl (gL G, 61, .inr (.inl (fun j : Nat => lI (va (j : Int)))))), (a3, .inl (gL G, 61, .inr (.inl (fun j : Nat => lI (ke (j : Int))))))]) F C (c_X1_has l G H.size a0 a1 a2 a3 sz va ke mk n (by omega) (by omega)) (cwV 1 hts gX10_number_X1_has rfl rfl rfl (by decide +kernel) (by decide)) hP hD hS (q0 := 1) rfl rfl rfl [1, 2, 3, 4] [0] rfl rfl (by decide) rfl rfl hl.1 rfl (Nat.le_of_ble_eq_true rfl) dX10_number_5 (by decide) (fun H locs hP hD hS => ?_)
  refine z_if_eq (tgt := 23) hx hb dX10_number_8 (by decide) (by split <;> omega) (fun c_1 => ?_) (fun c_1 => ?_)
  · skip
    have qc_1 := if_eq0 c_1
    refine lv_lconst (v := lI 0) hx hb dX10_number_23 (by decide) ?_
    have r_2 : (0 : Int) = (if 1 ≤ n ∧ n ≤ mk then va n else 0) := by first | exact (if_pos (by omega)).symm | exact (if_neg (by omega)).symm
    rw [r_2]
    exact hret _ ls H locs dX10_number_24 hP hD hS
  · skip
    have qc_1 := if_ne0 c_1
    refine lv_aload_n hx hb dX10_number_11 rfl (lv_at hl 0 rfl) ?_
    refine va_get (D := G.1) (ci := 11) (v := .ref a0) (C := RX10) (T := TX10) (N := 12) hx hb hts hiX10 hown hK hP 0 rfl rfl 1 (by decide) hw0 (fun _ h9 => h9) rfl dX10_number_12 ?_
    refine va_get (D := G.1) (ci := 2) (v := .ref a2) (C := RX1) (T := TX1) (N := 4) hx hb hts hiX1 hown hK hP 1 rfl rfl 1 (by decide) hw1 (fun _ h9 => h9) rfl dX10_number_15 ?_
    refine lv_iload_n hx hb dX10_number_18 rfl (lv_at hl 1 rfl) ?_
    refine z_lald hx hb hK hP 3 1 rfl rfl (by omega) dX10_number_19 ?_
    refine lv_goto (tgt := 24) hx hb dX10_number_20 (by decide) ?_
    have r_3 : ((va n) : Int) = (if 1 ≤ n ∧ n ≤ mk then va n else 0) := by first | exact (if_pos (by omega)).symm | exact (if_neg (by omega)).symm
    rw [r_3]
    exact hret _ ls H locs dX10_number_24 hP hD hS

set_option maxHeartbeats 4000000 in
set_option maxRecDepth 100000 in
theorem c_X10_lowest (l : Launch) (G : Gx) (zz : Nat) (x : Int)  : Ci l yX10_lowest wsX10_lowest (rz 0 0) G [.long (lI x)] [] zz x [] := by
  refine met_i (cc := cX10_lowest) (maxL := 2) (ret := (some .int)) (by decide) rfl (Nat.le_of_ble_eq_true rfl) rfl rfl ⟨rfl, rfl⟩ ?_
  intro p e s m below meth c A Q F C hP hD hS hret ls hl
  obtain ⟨hx, hb, hml, hown, hts⟩ := id F
  obtain ⟨hK, hA, hZ, hT, hN⟩ := id C
  have hl : lv_has ls 2 [(0, .long (lI x))] := hl
  obtain ⟨H, hH⟩ : ∃ H, H = s.heap := ⟨_, rfl⟩
  obtain ⟨locs, hlocs⟩ : ∃ l : List Loc, l = [] := ⟨_, rfl⟩
  have hS : va_S A s.heap H locs := by rw [hH, hlocs]; exact hS
  have hP : va_P G.1 vwCl [] H := by rw [hH]; exact hP
  suffices hgo : W p l e (rz 0 0) s m [.long (lI x)].toArray below meth c H locs 0 0 Q (F0 m 0 ls []) by rw [hH, hlocs] at hgo; exact hgo
  refine lv_lload_n hx hb dX10_lowest_0 rfl (lv_at hl 0 rfl) ?_
  refine z_l2i hx hb dX10_lowest_1 ?_
  exact hret _ ls H locs dX10_lowest_2 hP hD hS

set_option maxHeartbeats 4000000 in
set_option maxRecDepth 100000 in
theorem c_X10_highest (l : Launch) (G : Gx) (zz : Nat) (x : Int)  : Ci l yX10_highest wsX10_highest (rz 0 0) G [.long (lI x)] [] zz (shrI x 32) [] := by
  refine met_i (cc := cX10_highest) (maxL := 2) (ret := (some .int)) (by decide) rfl (Nat.le_of_ble_eq_true rfl) rfl rfl ⟨rfl, rfl⟩ ?_
  intro p e s m below meth c A Q F C hP hD hS hret ls hl
  obtain ⟨hx, hb, hml, hown, hts⟩ := id F
  obtain ⟨hK, hA, hZ, hT, hN⟩ := id C
  have hl : lv_has ls 2 [(0, .long (lI x))] := hl
  obtain ⟨H, hH⟩ : ∃ H, H = s.heap := ⟨_, rfl⟩
  obtain ⟨locs, hlocs⟩ : ∃ l : List Loc, l = [] := ⟨_, rfl⟩
  have hS : va_S A s.heap H locs := by rw [hH, hlocs]; exact hS
  have hP : va_P G.1 vwCl [] H := by rw [hH]; exact hP
  suffices hgo : W p l e (rz 0 0) s m [.long (lI x)].toArray below meth c H locs 0 0 Q (F0 m 0 ls []) by rw [hH, hlocs] at hgo; exact hgo
  refine lv_lload_n hx hb dX10_highest_0 rfl (lv_at hl 0 rfl) ?_
  refine lv_bipush (v := iI (32)) hx hb dX10_highest_1 (by decide) ?_
  refine z_lshr hx hb dX10_highest_3 ?_
  refine z_l2i hx hb dX10_highest_4 ?_
  exact hret _ ls H locs dX10_highest_5 hP hD hS

set_option maxHeartbeats 4000000 in
set_option maxRecDepth 100000 in
theorem c_X10_record (l : Launch) (G : Gx) (zz : Nat) (x0 w0 a0 b0 y0 e0 s0 g0 r0 t0 v0 : Nat) (rf : Int) (f0 f1 f2 : Nat) (ky fv : Int → Int) (hd : Int) (f i what : Int) (hh : 0 ≤ hd ∧ hd ≤ 1000) (hso : SO ky hd) (hky : ∀ j, 0 ≤ j → j < hd → 0 ≤ ky j ∧ ky j < 4000000) (h1 : -2147483648 ≤ f ∧ f < 2147483648) (h2 : -2147483648 ≤ i ∧ i < 2147483648) (h3 : -2147483648 ≤ what ∧ what < 2147483648) : Ci l yX10_record wsX10_record (rz 1 23) G [.ref x0, .int (iI f), .int (iI i), .int (iI what)] [(x0, .inr (11, [.ref w0, .ref a0, .ref b0, .ref y0, .ref e0, .ref f0, .ref s0, .ref g0, .ref r0, .ref t0, .ref v0, .int (iI rf)])), (f0, .inr (3, [.ref f1, .ref f2, .int (iI hd)])), (f1, .inl (gI G, 1000, .inl (fun j : Nat => iI (ky (j : Int))))), (f2, .inl (gL G, 1000, .inr (.inl (fun j : Nat => lI (fv (j : Int))))))] zz (aRec ky fv hd f i what) [(x0, .inr (11, [.ref w0, .ref a0, .ref b0, .ref y0, .ref e0, .ref f0, .ref s0, .ref g0, .ref r0, .ref t0, .ref v0, .int (iI rf)])), (f0, .inr (3, [.ref f1, .ref f2, .int (iI hd)])), (f1, .inl (gI G, 1000, .inl (fun j : Nat => iI (ky (j : Int))))), (f2, .inl (gL G, 1000, .inr (.inl (fun j : Nat => lI (fv (j : Int))))))] := by
  refine met_i (cc := cX10_record) (maxL := 6) (ret := (some .int)) (by decide) rfl (Nat.le_of_ble_eq_true rfl) rfl rfl ⟨rfl, rfl⟩ ?_
  intro p e s m below meth c A Q F C hP hD hS hret ls hl
  obtain ⟨hx, hb, hml, hown, hts⟩ := id F
  obtain ⟨hK, hA, hZ, hT, hN⟩ := id C
  have hl : lv_has ls 6 [(0, .ref x0), (1, .int (iI f)), (2, .int (iI i)), (3, .int (iI what))] := hl
  obtain ⟨H, hH⟩ : ∃ H, H = s.heap := ⟨_, rfl⟩
  obtain ⟨locs, hlocs⟩ : ∃ l : List Loc, l = [] := ⟨_, rfl⟩
  have hS : va_S A s.heap H locs := by rw [hH, hlocs]; exact hS
  have hP : va_P G.1 vwCl [(x0, .inr (11, [.ref w0, .ref a0, .ref b0, .ref y0, .ref e0, .ref f0, .ref s0, .ref g0, .ref r0, .ref t0, .ref v0, .int (iI rf)])), (f0, .inr (3, [.ref f1, .ref f2, .int (iI hd)])), (f1, .inl (gI G, 1000, .inl (fun j : Nat => iI (ky (j : Int))))), (f2, .inl (gL G, 1000, .inr (.inl (fun j : Nat => lI (fv (j : Int))))))] H := by rw [hH]; exact hP
  suffices hgo : W p l e (rz 1 23) s m [.ref x0, .int (iI f), .int (iI i), .int (iI what)].toArray below meth c H locs 0 0 Q (F0 m 0 ls []) by rw [hH, hlocs] at hgo; exact hgo
  have hiX10 : ∀ w ∈ wsX100, w ∈ wsX10_record := by decide +kernel
  have hw0 := hts (Cond.fieldLink RX10 25 "PlainCobol" "files" "LPlainCobol$Files;") (List.mem_of_getElem? (i := 1) rfl)
  have hw1 := hts (Cond.constant RX10 156 (1000000)) (List.mem_of_getElem? (i := 2) rfl)
  have hiX2 : ∀ w ∈ wsX20, w ∈ wsX10_record := by decide +kernel
  have hw2 := hts (Cond.fieldLink RX10 160 "PlainCobol$Files" "keys" "[I") (List.mem_of_getElem? (i := 3) rfl)
  have hw3 := hts (Cond.fieldLink RX10 163 "PlainCobol$Files" "values" "[J") (List.mem_of_getElem? (i := 4) rfl)
  refine lv_iload_n hx hb dX10_record_0 rfl (lv_at hl 1 rfl) ?_
  refine z_if_lt (tgt := 9) hx hb dX10_record_1 (by decide) (by omega) (fun c_1 => ?_) (fun c_1 => ?_)
  · skip
    refine lv_iconst (v := iI (-1)) hx hb dX10_record_9 rfl ?_
    have r_2 : ((-1) : Int) = (aRec ky fv hd f i what) := by (unfold aRec; (repeat (first | rw [if_pos (by omega)] | rw [if_neg (by omega)])))
    rw [r_2]
    exact hret _ ls H locs dX10_record_10 hP hD hS
  · skip
    refine lv_iload_n hx hb dX10_record_4 rfl (lv_at hl 1 rfl) ?_
    refine lv_iconst (v := iI (4)) hx hb dX10_record_5 rfl ?_
    refine z_icmp_lt (tgt := 11) hx hb dX10_record_6 (by decide) (by omega) (fun c_3 => ?_) (fun c_3 => ?_)
    · skip
      refine lv_aload_n hx hb dX10_record_11 rfl (lv_at hl 0 rfl) ?_
      refine va_get (D := G.1) (ci := 11) (v := .ref f0) (C := RX10) (T := TX10) (N := 12) hx hb hts hiX10 hown hK hP 0 rfl rfl 5 (by decide) hw0 (fun _ h9 => h9) rfl dX10_record_12 ?_
      refine lv_iload_n hx hb dX10_record_15 rfl (lv_at hl 1 rfl) ?_
      refine lv_ldc hx hb hown hw1 dX10_record_16 ?_
      refine z_top (w := .int (iI (1000000))) rfl ?_
      refine z_imul hx hb dX10_record_18 ?_
      refine z_cVi (RV := (cnt ky (f * 1000000) hd.toNat)) (As := [.int (iI (f * 1000000))]) (rest := []) (wc := [(f0, .inr (3, [.ref f1, .ref f2, .int (iI hd)])), (f1, .inl (gI G, 1000, .inl (fun j : Nat => iI (ky (j : Int))))), (f2, .inl (gL G, 1000, .inr (.inl (fun j : Nat => lI (fv (j : Int))))))]) (wr := [(x0, .inr (11, [.ref w0, .ref a0, .ref b0, .ref y0, .ref e0, .ref f0, .ref s0, .ref g0, .ref r0, .ref t0, .ref v0, .int (iI rf)]))]) (wn := [(x0, .inr (11, [.ref w0, .ref a0, .ref b0, .ref y0, .ref e0, .ref f0, .ref s0, .ref g0, .ref r0, .ref t0, .ref v0, .int (iI rf)])), (f0, .inr (3, [.ref f1, .ref f2, .int (iI hd)])), (f1, .inl (gI G, 1000, .inl (fun j : Nat => iI (ky (j : Int))))), (f2, .inl (gL G, 1000, .inr (.inl (fun j : Nat => lI (fv (j : Int))))))]) F C (c_X2_firstFrom l G H.size f0 f1 f2 ky fv hd (f * 1000000) (by omega) (hso) (hky) (by omega)) (cwV 1 hts gX10_record_X2_firstFrom rfl rfl rfl (by decide +kernel) (by decide)) hP hD hS (q0 := 1) rfl rfl rfl [1, 2, 3] [0] rfl rfl (by decide) rfl rfl hl.1 rfl (Nat.le_of_ble_eq_true rfl) dX10_record_19 (by decide) (fun H locs hP hD hS => ?_)
      refine lv_istore (lv' := [(4, .int (iI (cnt ky (f * 1000000) hd.toNat))), (0, .ref x0), (1, .int (iI f)), (2, .int (iI i)), (3, .int (iI what))]) hx hb dX10_record_22 hl (by decide) rfl (fun ls hl => ?_)
      refine lv_aload_n hx hb dX10_record_24 rfl (lv_at hl 1 rfl) ?_
      refine va_get (D := G.1) (ci := 11) (v := .ref f0) (C := RX10) (T := TX10) (N := 12) hx hb hts hiX10 hown hK hP 0 rfl rfl 5 (by decide) hw0 (fun _ h9 => h9) rfl dX10_record_25 ?_
      refine lv_iload_n hx hb dX10_record_28 rfl (lv_at hl 2 rfl) ?_
      refine lv_iconst (v := iI (1)) hx hb dX10_record_29 rfl ?_
      refine z_iadd hx hb dX10_record_30 ?_
      refine lv_ldc hx hb hown hw1 dX10_record_31 ?_
      refine z_top (w := .int (iI (1000000))) rfl ?_
      refine z_imul hx hb dX10_record_33 ?_
      refine z_cVi (RV := (cnt ky ((f + 1) * 1000000) hd.toNat)) (As := [.int (iI ((f + 1) * 1000000))]) (rest := []) (wc := [(f0, .inr (3, [.ref f1, .ref f2, .int (iI hd)])), (f1, .inl (gI G, 1000, .inl (fun j : Nat => iI (ky (j : Int))))), (f2, .inl (gL G, 1000, .inr (.inl (fun j : Nat => lI (fv (j : Int))))))]) (wr := [(x0, .inr (11, [.ref w0, .ref a0, .ref b0, .ref y0, .ref e0, .ref f0, .ref s0, .ref g0, .ref r0, .ref t0, .ref v0, .int (iI rf)]))]) (wn := [(x0, .inr (11, [.ref w0, .ref a0, .ref b0, .ref y0, .ref e0, .ref f0, .ref s0, .ref g0, .ref r0, .ref t0, .ref v0, .int (iI rf)])), (f0, .inr (3, [.ref f1, .ref f2, .int (iI hd)])), (f1, .inl (gI G, 1000, .inl (fun j : Nat => iI (ky (j : Int))))), (f2, .inl (gL G, 1000, .inr (.inl (fun j : Nat => lI (fv (j : Int))))))]) F C (c_X2_firstFrom l G H.size f0 f1 f2 ky fv hd ((f + 1) * 1000000) (by omega) (hso) (hky) (by omega)) (cwV 1 hts gX10_record_X2_firstFrom rfl rfl rfl (by decide +kernel) (by decide)) hP hD hS (q0 := 1) rfl rfl rfl [1, 2, 3] [0] rfl rfl (by decide) rfl rfl hl.1 rfl (Nat.le_of_ble_eq_true rfl) dX10_record_34 (by decide) (fun H locs hP hD hS => ?_)
      refine lv_istore (lv' := [(5, .int (iI (cnt ky ((f + 1) * 1000000) hd.toNat))), (4, .int (iI (cnt ky (f * 1000000) hd.toNat))), (0, .ref x0), (1, .int (iI f)), (2, .int (iI i)), (3, .int (iI what))]) hx hb dX10_record_37 hl (by decide) rfl (fun ls hl => ?_)
      have hc1 := cnt_r ky (f * 1000000) hd.toNat
      have hc2 := cnt_r ky ((f + 1) * 1000000) hd.toNat
      rw [Int.toNat_of_nonneg hh.1] at hc1 hc2
      refine lv_iload_n hx hb dX10_record_39 rfl (lv_at hl 4 rfl) ?_
      refine z_if_lt (tgt := 52) hx hb dX10_record_40 (by decide) (by omega) (fun c_4 => ?_) (fun c_4 => ?_)
      · skip
        refine lv_iconst (v := iI (-1)) hx hb dX10_record_52 rfl ?_
        have r_5 : ((-1) : Int) = (aRec ky fv hd f i what) := by (unfold aRec; (repeat (first | rw [if_pos (by omega)] | rw [if_neg (by omega)])))
        rw [r_5]
        exact hret _ ls H locs dX10_record_53 hP hD hS
      · skip
        refine lv_iload_n hx hb dX10_record_43 rfl (lv_at hl 4 rfl) ?_
        refine lv_iload hx hb dX10_record_44 (lv_at hl 0 rfl) ?_
        refine lv_iload hx hb dX10_record_46 (lv_at hl 1 rfl) ?_
        refine z_isub hx hb dX10_record_48 ?_
        refine z_icmp_lt (tgt := 54) hx hb dX10_record_49 (by decide) (by omega) (fun c_6 => ?_) (fun c_6 => ?_)
        · skip
          refine lv_iload_n hx hb dX10_record_54 rfl (lv_at hl 5 rfl) ?_
          by_cases k_7 : what = 0
          · skip
            refine z_tswIn (tgt := 80) hx hb dX10_record_55 (by omega) 0 k_7 (by decide) (off := 25) rfl (by decide) ?_
            refine lv_aload_n hx hb dX10_record_80 rfl (lv_at hl 2 rfl) ?_
            refine va_get (D := G.1) (ci := 11) (v := .ref f0) (C := RX10) (T := TX10) (N := 12) hx hb hts hiX10 hown hK hP 0 rfl rfl 5 (by decide) hw0 (fun _ h9 => h9) rfl dX10_record_81 ?_
            refine va_get (D := G.1) (ci := 3) (v := .ref f1) (C := RX2) (T := TX2) (N := 3) hx hb hts hiX2 hown hK hP 1 rfl rfl 0 (by decide) hw2 (fun _ h9 => h9) rfl dX10_record_84 ?_
            refine lv_iload hx hb dX10_record_87 (lv_at hl 1 rfl) ?_
            refine lv_iload_n hx hb dX10_record_89 rfl (lv_at hl 4 rfl) ?_
            refine z_iadd hx hb dX10_record_90 ?_
            refine z_iald hx hb hK hP 2 0 rfl rfl (by omega) dX10_record_91 ?_
            refine lv_iload_n hx hb dX10_record_92 rfl (lv_at hl 3 rfl) ?_
            refine lv_ldc hx hb hown hw1 dX10_record_93 ?_
            refine z_top (w := .int (iI (1000000))) rfl ?_
            refine z_imul hx hb dX10_record_95 ?_
            refine z_isub hx hb dX10_record_96 ?_
            have r_8 : (((ky ((cnt ky (f * 1000000) hd.toNat) + i)) - (f * 1000000)) : Int) = (aRec ky fv hd f i what) := by (unfold aRec; (repeat (first | rw [if_pos (by omega)] | rw [if_neg (by omega)])))
            rw [r_8]
            exact hret _ ls H locs dX10_record_97 hP hD hS
          by_cases k_9 : what = 1
          · skip
            refine z_tswIn (tgt := 98) hx hb dX10_record_55 (by omega) 1 k_9 (by decide) (off := 43) rfl (by decide) ?_
            refine lv_aload_n hx hb dX10_record_98 rfl (lv_at hl 2 rfl) ?_
            refine va_get (D := G.1) (ci := 11) (v := .ref f0) (C := RX10) (T := TX10) (N := 12) hx hb hts hiX10 hown hK hP 0 rfl rfl 5 (by decide) hw0 (fun _ h9 => h9) rfl dX10_record_99 ?_
            refine va_get (D := G.1) (ci := 3) (v := .ref f2) (C := RX2) (T := TX2) (N := 3) hx hb hts hiX2 hown hK hP 1 rfl rfl 1 (by decide) hw3 (fun _ h9 => h9) rfl dX10_record_102 ?_
            refine lv_iload hx hb dX10_record_105 (lv_at hl 1 rfl) ?_
            refine lv_iload_n hx hb dX10_record_107 rfl (lv_at hl 4 rfl) ?_
            refine z_iadd hx hb dX10_record_108 ?_
            refine z_lald hx hb hK hP 3 1 rfl rfl (by omega) dX10_record_109 ?_
            refine z_cSi (RV := (fv ((cnt ky (f * 1000000) hd.toNat) + i))) (As := [.long (lI (fv ((cnt ky (f * 1000000) hd.toNat) + i)))]) (rest := []) (wc := []) (wr := [(x0, .inr (11, [.ref w0, .ref a0, .ref b0, .ref y0, .ref e0, .ref f0, .ref s0, .ref g0, .ref r0, .ref t0, .ref v0, .int (iI rf)])), (f0, .inr (3, [.ref f1, .ref f2, .int (iI hd)])), (f1, .inl (gI G, 1000, .inl (fun j : Nat => iI (ky (j : Int))))), (f2, .inl (gL G, 1000, .inr (.inl (fun j : Nat => lI (fv (j : Int))))))]) (wn := [(x0, .inr (11, [.ref w0, .ref a0, .ref b0, .ref y0, .ref e0, .ref f0, .ref s0, .ref g0, .ref r0, .ref t0, .ref v0, .int (iI rf)])), (f0, .inr (3, [.ref f1, .ref f2, .int (iI hd)])), (f1, .inl (gI G, 1000, .inl (fun j : Nat => iI (ky (j : Int))))), (f2, .inl (gL G, 1000, .inr (.inl (fun j : Nat => lI (fv (j : Int))))))]) F C (c_X10_lowest l G H.size (fv ((cnt ky (f * 1000000) hd.toNat) + i)) ) (va_cwS 1 hts gX10_record_X10_lowest rfl rfl rfl (by decide +kernel) (by decide)) hP hD hS [] [0, 1, 2, 3] rfl rfl (by decide) rfl rfl hl.1 rfl (Nat.le_of_ble_eq_true rfl) dX10_record_110 (by decide) (fun H locs hP hD hS => ?_)
            have r_10 : ((fv ((cnt ky (f * 1000000) hd.toNat) + i)) : Int) = (aRec ky fv hd f i what) := by (unfold aRec; (repeat (first | rw [if_pos (by omega)] | rw [if_neg (by omega)])))
            rw [r_10]
            exact hret _ ls H locs dX10_record_113 hP hD hS
          by_cases k_11 : what = 2
          · skip
            refine z_tswIn (tgt := 114) hx hb dX10_record_55 (by omega) 2 k_11 (by decide) (off := 59) rfl (by decide) ?_
            refine lv_aload_n hx hb dX10_record_114 rfl (lv_at hl 2 rfl) ?_
            refine va_get (D := G.1) (ci := 11) (v := .ref f0) (C := RX10) (T := TX10) (N := 12) hx hb hts hiX10 hown hK hP 0 rfl rfl 5 (by decide) hw0 (fun _ h9 => h9) rfl dX10_record_115 ?_
            refine va_get (D := G.1) (ci := 3) (v := .ref f2) (C := RX2) (T := TX2) (N := 3) hx hb hts hiX2 hown hK hP 1 rfl rfl 1 (by decide) hw3 (fun _ h9 => h9) rfl dX10_record_118 ?_
            refine lv_iload hx hb dX10_record_121 (lv_at hl 1 rfl) ?_
            refine lv_iload_n hx hb dX10_record_123 rfl (lv_at hl 4 rfl) ?_
            refine z_iadd hx hb dX10_record_124 ?_
            refine z_lald hx hb hK hP 3 1 rfl rfl (by omega) dX10_record_125 ?_
            refine z_cSi (RV := (shrI (fv ((cnt ky (f * 1000000) hd.toNat) + i)) 32)) (As := [.long (lI (fv ((cnt ky (f * 1000000) hd.toNat) + i)))]) (rest := []) (wc := []) (wr := [(x0, .inr (11, [.ref w0, .ref a0, .ref b0, .ref y0, .ref e0, .ref f0, .ref s0, .ref g0, .ref r0, .ref t0, .ref v0, .int (iI rf)])), (f0, .inr (3, [.ref f1, .ref f2, .int (iI hd)])), (f1, .inl (gI G, 1000, .inl (fun j : Nat => iI (ky (j : Int))))), (f2, .inl (gL G, 1000, .inr (.inl (fun j : Nat => lI (fv (j : Int))))))]) (wn := [(x0, .inr (11, [.ref w0, .ref a0, .ref b0, .ref y0, .ref e0, .ref f0, .ref s0, .ref g0, .ref r0, .ref t0, .ref v0, .int (iI rf)])), (f0, .inr (3, [.ref f1, .ref f2, .int (iI hd)])), (f1, .inl (gI G, 1000, .inl (fun j : Nat => iI (ky (j : Int))))), (f2, .inl (gL G, 1000, .inr (.inl (fun j : Nat => lI (fv (j : Int))))))]) F C (c_X10_highest l G H.size (fv ((cnt ky (f * 1000000) hd.toNat) + i)) ) (va_cwS 1 hts gX10_record_X10_highest rfl rfl rfl (by decide +kernel) (by decide)) hP hD hS [] [0, 1, 2, 3] rfl rfl (by decide) rfl rfl hl.1 rfl (Nat.le_of_ble_eq_true rfl) dX10_record_126 (by decide) (fun H locs hP hD hS => ?_)
            have r_12 : ((shrI (fv ((cnt ky (f * 1000000) hd.toNat) + i)) 32) : Int) = (aRec ky fv hd f i what) := by (unfold aRec; (repeat (first | rw [if_pos (by omega)] | rw [if_neg (by omega)])))
            rw [r_12]
            exact hret _ ls H locs dX10_record_129 hP hD hS
          refine z_tswOut (tgt := 130) hx hb dX10_record_55 (by omega) (by omega) (by decide) ?_
          refine lv_iconst (v := iI (-1)) hx hb dX10_record_130 rfl ?_
          have r_13 : ((-1) : Int) = (aRec ky fv hd f i what) := by (unfold aRec; (repeat (first | rw [if_pos (by omega)] | rw [if_neg (by omega)])))
          rw [r_13]
          exact hret _ ls H locs dX10_record_131 hP hD hS
        · skip
          refine lv_iconst (v := iI (-1)) hx hb dX10_record_52 rfl ?_
          have r_14 : ((-1) : Int) = (aRec ky fv hd f i what) := by (unfold aRec; (repeat (first | rw [if_pos (by omega)] | rw [if_neg (by omega)])))
          rw [r_14]
          exact hret _ ls H locs dX10_record_53 hP hD hS
    · skip
      refine lv_iconst (v := iI (-1)) hx hb dX10_record_9 rfl ?_
      have r_15 : ((-1) : Int) = (aRec ky fv hd f i what) := by (unfold aRec; (repeat (first | rw [if_pos (by omega)] | rw [if_neg (by omega)])))
      rw [r_15]
      exact hret _ ls H locs dX10_record_10 hP hD hS

set_option maxHeartbeats 4000000 in
set_option maxRecDepth 100000 in
theorem c_X10_isOpenUnit (l : Launch) (G : Gx) (zz : Nat) (x : Int) (h1 : -2147483648 ≤ x ∧ x < 2147483648) : Ci l yX10_isOpenUnit wsX10_isOpenUnit (rz 0 0) G [.int (iI x)] [] zz (if 1 ≤ x ∧ x ≤ 8 then 1 else 0) [] := by
  refine met_i (cc := cX10_isOpenUnit) (maxL := 1) (ret := (some .boolean)) (by decide) rfl (Nat.le_of_ble_eq_true rfl) rfl (by (repeat (any_goals split)) <;> decide) ⟨rfl, rfl⟩ ?_
  intro p e s m below meth c A Q F C hP hD hS hret ls hl
  obtain ⟨hx, hb, hml, hown, hts⟩ := id F
  obtain ⟨hK, hA, hZ, hT, hN⟩ := id C
  have hl : lv_has ls 1 [(0, .int (iI x))] := hl
  obtain ⟨H, hH⟩ : ∃ H, H = s.heap := ⟨_, rfl⟩
  obtain ⟨locs, hlocs⟩ : ∃ l : List Loc, l = [] := ⟨_, rfl⟩
  have hS : va_S A s.heap H locs := by rw [hH, hlocs]; exact hS
  have hP : va_P G.1 vwCl [] H := by rw [hH]; exact hP
  suffices hgo : W p l e (rz 0 0) s m [.int (iI x)].toArray below meth c H locs 0 0 Q (F0 m 0 ls []) by rw [hH, hlocs] at hgo; exact hgo
  refine lv_iload_n hx hb dX10_isOpenUnit_0 rfl (lv_at hl 0 rfl) ?_
  refine lv_iconst (v := iI (1)) hx hb dX10_isOpenUnit_1 rfl ?_
  refine z_icmp_lt (tgt := 15) hx hb dX10_isOpenUnit_2 (by decide) (by omega) (fun c_1 => ?_) (fun c_1 => ?_)
  · skip
    refine lv_iconst (v := iI (0)) hx hb dX10_isOpenUnit_15 rfl ?_
    have r_2 : (0 : Int) = (if 1 ≤ x ∧ x ≤ 8 then 1 else 0) := by first | exact (if_pos (by omega)).symm | exact (if_neg (by omega)).symm
    rw [r_2]
    exact hret _ ls H locs dX10_isOpenUnit_16 hP hD hS
  · skip
    refine lv_iload_n hx hb dX10_isOpenUnit_5 rfl (lv_at hl 0 rfl) ?_
    refine lv_bipush (v := iI (8)) hx hb dX10_isOpenUnit_6 (by decide) ?_
    refine z_icmp_gt (tgt := 15) hx hb dX10_isOpenUnit_8 (by decide) (by omega) (fun c_3 => ?_) (fun c_3 => ?_)
    · skip
      refine lv_iconst (v := iI (0)) hx hb dX10_isOpenUnit_15 rfl ?_
      have r_4 : (0 : Int) = (if 1 ≤ x ∧ x ≤ 8 then 1 else 0) := by first | exact (if_pos (by omega)).symm | exact (if_neg (by omega)).symm
      rw [r_4]
      exact hret _ ls H locs dX10_isOpenUnit_16 hP hD hS
    · skip
      refine lv_iconst (v := iI (1)) hx hb dX10_isOpenUnit_11 rfl ?_
      refine lv_goto (tgt := 16) hx hb dX10_isOpenUnit_12 (by decide) ?_
      have r_5 : (1 : Int) = (if 1 ≤ x ∧ x ≤ 8 then 1 else 0) := by first | exact (if_pos (by omega)).symm | exact (if_neg (by omega)).symm
      rw [r_5]
      exact hret _ ls H locs dX10_isOpenUnit_16 hP hD hS

set_option maxHeartbeats 4000000 in
set_option maxRecDepth 100000 in
theorem c_X10_mayBeDone (l : Launch) (G : Gx) (zz : Nat) (kd a b : Int) (h1 : -2147483648 ≤ kd ∧ kd < 2147483648) (h2 : -9223372036854775808 ≤ a ∧ a < 9223372036854775808) (h3 : -9223372036854775808 ≤ b ∧ b < 9223372036854775808) : Ci l yX10_mayBeDone wsX10_mayBeDone (rz 1 25) G [.int (iI kd), .long (lI a), .long (lI b)] [] zz (if okL kd a b then 1 else 0) [] := by
  refine met_i (cc := cX10_mayBeDone) (maxL := 5) (ret := (some .boolean)) (by decide) rfl (Nat.le_of_ble_eq_true rfl) rfl (by (repeat (any_goals split)) <;> decide) ⟨rfl, rfl⟩ ?_
  intro p e s m below meth c A Q F C hP hD hS hret ls hl
  obtain ⟨hx, hb, hml, hown, hts⟩ := id F
  obtain ⟨hK, hA, hZ, hT, hN⟩ := id C
  have hl : lv_has ls 5 [(0, .int (iI kd)), (1, .long (lI a)), (3, .long (lI b))] := hl
  obtain ⟨H, hH⟩ : ∃ H, H = s.heap := ⟨_, rfl⟩
  obtain ⟨locs, hlocs⟩ : ∃ l : List Loc, l = [] := ⟨_, rfl⟩
  have hS : va_S A s.heap H locs := by rw [hH, hlocs]; exact hS
  have hP : va_P G.1 vwCl [] H := by rw [hH]; exact hP
  suffices hgo : W p l e (rz 1 25) s m [.int (iI kd), .long (lI a), .long (lI b)].toArray below meth c H locs 0 0 Q (F0 m 0 ls []) by rw [hH, hlocs] at hgo; exact hgo
  have hw0 := hts (Cond.constantLong RX10 222 (4000000)) (List.mem_of_getElem? (i := 1) rfl)
  have hw1 := hts (Cond.constantLong RX10 224 (100)) (List.mem_of_getElem? (i := 2) rfl)
  have hw2 := hts (Cond.constantLong RX10 226 (32)) (List.mem_of_getElem? (i := 3) rfl)
  have hw3 := hts (Cond.constantLong RX10 228 (126)) (List.mem_of_getElem? (i := 4) rfl)
  refine lv_iload_n hx hb dX10_mayBeDone_0 rfl (lv_at hl 0 rfl) ?_
  by_cases k_1 : kd = 0
  · skip
    refine z_tswIn (tgt := 36) hx hb dX10_mayBeDone_1 (by omega) 0 k_1 (by decide) (off := 35) rfl (by decide) ?_
    refine lv_lload_n hx hb dX10_mayBeDone_36 rfl (lv_at hl 1 rfl) ?_
    refine lv_lconst (v := lI 0) hx hb dX10_mayBeDone_37 (by decide) ?_
    refine z_lcmp_lt (tgt := 54) hx hb dX10_mayBeDone_38 dX10_mayBeDone_39 (by decide) (by omega) (fun c_2 => ?_) (fun c_2 => ?_)
    · skip
      refine lv_iconst (v := iI (0)) hx hb dX10_mayBeDone_54 rfl ?_
      have r_3 : (0 : Int) = (if okL kd a b then 1 else 0) := by first | exact (if_pos (by omega)).symm | exact (if_neg (by omega)).symm
      rw [r_3]
      exact hret _ ls H locs dX10_mayBeDone_55 hP hD hS
    · skip
      refine lv_lload_n hx hb dX10_mayBeDone_42 rfl (lv_at hl 1 rfl) ?_
      refine lv_ldc2 hx hb hown hw0 dX10_mayBeDone_43 ?_
      refine z_top (w := .long (lI (4000000))) rfl ?_
      refine z_lcmp_ge (tgt := 54) hx hb dX10_mayBeDone_46 dX10_mayBeDone_47 (by decide) (by omega) (fun c_4 => ?_) (fun c_4 => ?_)
      · skip
        refine lv_iconst (v := iI (0)) hx hb dX10_mayBeDone_54 rfl ?_
        have r_5 : (0 : Int) = (if okL kd a b then 1 else 0) := by first | exact (if_pos (by omega)).symm | exact (if_neg (by omega)).symm
        rw [r_5]
        exact hret _ ls H locs dX10_mayBeDone_55 hP hD hS
      · skip
        refine lv_iconst (v := iI (1)) hx hb dX10_mayBeDone_50 rfl ?_
        refine lv_goto (tgt := 55) hx hb dX10_mayBeDone_51 (by decide) ?_
        have r_6 : (1 : Int) = (if okL kd a b then 1 else 0) := by first | exact (if_pos (by omega)).symm | exact (if_neg (by omega)).symm
        rw [r_6]
        exact hret _ ls H locs dX10_mayBeDone_55 hP hD hS
  by_cases k_7 : kd = 1
  · skip
    refine z_tswIn (tgt := 36) hx hb dX10_mayBeDone_1 (by omega) 1 k_7 (by decide) (off := 35) rfl (by decide) ?_
    refine lv_lload_n hx hb dX10_mayBeDone_36 rfl (lv_at hl 1 rfl) ?_
    refine lv_lconst (v := lI 0) hx hb dX10_mayBeDone_37 (by decide) ?_
    refine z_lcmp_lt (tgt := 54) hx hb dX10_mayBeDone_38 dX10_mayBeDone_39 (by decide) (by omega) (fun c_8 => ?_) (fun c_8 => ?_)
    · skip
      refine lv_iconst (v := iI (0)) hx hb dX10_mayBeDone_54 rfl ?_
      have r_9 : (0 : Int) = (if okL kd a b then 1 else 0) := by first | exact (if_pos (by omega)).symm | exact (if_neg (by omega)).symm
      rw [r_9]
      exact hret _ ls H locs dX10_mayBeDone_55 hP hD hS
    · skip
      refine lv_lload_n hx hb dX10_mayBeDone_42 rfl (lv_at hl 1 rfl) ?_
      refine lv_ldc2 hx hb hown hw0 dX10_mayBeDone_43 ?_
      refine z_top (w := .long (lI (4000000))) rfl ?_
      refine z_lcmp_ge (tgt := 54) hx hb dX10_mayBeDone_46 dX10_mayBeDone_47 (by decide) (by omega) (fun c_10 => ?_) (fun c_10 => ?_)
      · skip
        refine lv_iconst (v := iI (0)) hx hb dX10_mayBeDone_54 rfl ?_
        have r_11 : (0 : Int) = (if okL kd a b then 1 else 0) := by first | exact (if_pos (by omega)).symm | exact (if_neg (by omega)).symm
        rw [r_11]
        exact hret _ ls H locs dX10_mayBeDone_55 hP hD hS
      · skip
        refine lv_iconst (v := iI (1)) hx hb dX10_mayBeDone_50 rfl ?_
        refine lv_goto (tgt := 55) hx hb dX10_mayBeDone_51 (by decide) ?_
        have r_12 : (1 : Int) = (if okL kd a b then 1 else 0) := by first | exact (if_pos (by omega)).symm | exact (if_neg (by omega)).symm
        rw [r_12]
        exact hret _ ls H locs dX10_mayBeDone_55 hP hD hS
  by_cases k_13 : kd = 2
  · skip
    refine z_tswIn (tgt := 56) hx hb dX10_mayBeDone_1 (by omega) 2 k_13 (by decide) (off := 55) rfl (by decide) ?_
    refine lv_lload_n hx hb dX10_mayBeDone_56 rfl (lv_at hl 1 rfl) ?_
    refine lv_lconst (v := lI 0) hx hb dX10_mayBeDone_57 (by decide) ?_
    refine z_lcmp_lt (tgt := 74) hx hb dX10_mayBeDone_58 dX10_mayBeDone_59 (by decide) (by omega) (fun c_14 => ?_) (fun c_14 => ?_)
    · skip
      refine lv_iconst (v := iI (0)) hx hb dX10_mayBeDone_74 rfl ?_
      have r_15 : (0 : Int) = (if okL kd a b then 1 else 0) := by first | exact (if_pos (by omega)).symm | exact (if_neg (by omega)).symm
      rw [r_15]
      exact hret _ ls H locs dX10_mayBeDone_75 hP hD hS
    · skip
      refine lv_lload_n hx hb dX10_mayBeDone_62 rfl (lv_at hl 1 rfl) ?_
      refine lv_ldc2 hx hb hown hw1 dX10_mayBeDone_63 ?_
      refine z_top (w := .long (lI (100))) rfl ?_
      refine z_lcmp_gt (tgt := 74) hx hb dX10_mayBeDone_66 dX10_mayBeDone_67 (by decide) (by omega) (fun c_16 => ?_) (fun c_16 => ?_)
      · skip
        refine lv_iconst (v := iI (0)) hx hb dX10_mayBeDone_74 rfl ?_
        have r_17 : (0 : Int) = (if okL kd a b then 1 else 0) := by first | exact (if_pos (by omega)).symm | exact (if_neg (by omega)).symm
        rw [r_17]
        exact hret _ ls H locs dX10_mayBeDone_75 hP hD hS
      · skip
        refine lv_iconst (v := iI (1)) hx hb dX10_mayBeDone_70 rfl ?_
        refine lv_goto (tgt := 75) hx hb dX10_mayBeDone_71 (by decide) ?_
        have r_18 : (1 : Int) = (if okL kd a b then 1 else 0) := by first | exact (if_pos (by omega)).symm | exact (if_neg (by omega)).symm
        rw [r_18]
        exact hret _ ls H locs dX10_mayBeDone_75 hP hD hS
  by_cases k_19 : kd = 3
  · skip
    refine z_tswIn (tgt := 76) hx hb dX10_mayBeDone_1 (by omega) 3 k_19 (by decide) (off := 75) rfl (by decide) ?_
    refine lv_lload_n hx hb dX10_mayBeDone_76 rfl (lv_at hl 1 rfl) ?_
    refine lv_lconst (v := lI 1) hx hb dX10_mayBeDone_77 (by decide) ?_
    refine z_lcmp_lt (tgt := 94) hx hb dX10_mayBeDone_78 dX10_mayBeDone_79 (by decide) (by omega) (fun c_20 => ?_) (fun c_20 => ?_)
    · skip
      refine lv_iconst (v := iI (0)) hx hb dX10_mayBeDone_94 rfl ?_
      have r_21 : (0 : Int) = (if okL kd a b then 1 else 0) := by first | exact (if_pos (by omega)).symm | exact (if_neg (by omega)).symm
      rw [r_21]
      exact hret _ ls H locs dX10_mayBeDone_95 hP hD hS
    · skip
      refine lv_lload_n hx hb dX10_mayBeDone_82 rfl (lv_at hl 1 rfl) ?_
      refine lv_ldc2 hx hb hown hw1 dX10_mayBeDone_83 ?_
      refine z_top (w := .long (lI (100))) rfl ?_
      refine z_lcmp_gt (tgt := 94) hx hb dX10_mayBeDone_86 dX10_mayBeDone_87 (by decide) (by omega) (fun c_22 => ?_) (fun c_22 => ?_)
      · skip
        refine lv_iconst (v := iI (0)) hx hb dX10_mayBeDone_94 rfl ?_
        have r_23 : (0 : Int) = (if okL kd a b then 1 else 0) := by first | exact (if_pos (by omega)).symm | exact (if_neg (by omega)).symm
        rw [r_23]
        exact hret _ ls H locs dX10_mayBeDone_95 hP hD hS
      · skip
        refine lv_iconst (v := iI (1)) hx hb dX10_mayBeDone_90 rfl ?_
        refine lv_goto (tgt := 95) hx hb dX10_mayBeDone_91 (by decide) ?_
        have r_24 : (1 : Int) = (if okL kd a b then 1 else 0) := by first | exact (if_pos (by omega)).symm | exact (if_neg (by omega)).symm
        rw [r_24]
        exact hret _ ls H locs dX10_mayBeDone_95 hP hD hS
  by_cases k_25 : kd = 4
  · skip
    refine z_tswIn (tgt := 96) hx hb dX10_mayBeDone_1 (by omega) 4 k_25 (by decide) (off := 95) rfl (by decide) ?_
    refine lv_lload_n hx hb dX10_mayBeDone_96 rfl (lv_at hl 1 rfl) ?_
    refine z_cSi (RV := (if PLC a then 1 else 0)) (As := [.long (lI a)]) (rest := []) (wc := []) (wr := []) (wn := []) F C (c_X10_isPlace l G H.size a (by omega)) (va_cwS 1 hts gX10_mayBeDone_X10_isPlace rfl rfl rfl (by decide +kernel) (by decide)) hP hD hS [] [] rfl rfl (by decide) rfl rfl hl.1 rfl (Nat.le_of_ble_eq_true rfl) dX10_mayBeDone_97 (by decide) (fun H locs hP hD hS => ?_)
    refine z_if_eq (tgt := 123) hx hb dX10_mayBeDone_100 (by decide) (by split <;> omega) (fun c_26 => ?_) (fun c_26 => ?_)
    · skip
      have qc_26 := if_eq0 c_26
      refine lv_iconst (v := iI (0)) hx hb dX10_mayBeDone_123 rfl ?_
      have r_27 : (0 : Int) = (if okL kd a b then 1 else 0) := by first | exact (if_pos (by omega)).symm | exact (if_neg (by omega)).symm
      rw [r_27]
      exact hret _ ls H locs dX10_mayBeDone_124 hP hD hS
    · skip
      have qc_26 := if_ne0 c_26
      refine lv_lload_n hx hb dX10_mayBeDone_103 rfl (lv_at hl 2 rfl) ?_
      refine lv_ldc2 hx hb hown hw2 dX10_mayBeDone_104 ?_
      refine z_top (w := .long (lI (32))) rfl ?_
      refine z_lcmp_lt (tgt := 123) hx hb dX10_mayBeDone_107 dX10_mayBeDone_108 (by decide) (by omega) (fun c_28 => ?_) (fun c_28 => ?_)
      · skip
        refine lv_iconst (v := iI (0)) hx hb dX10_mayBeDone_123 rfl ?_
        have r_29 : (0 : Int) = (if okL kd a b then 1 else 0) := by first | exact (if_pos (by omega)).symm | exact (if_neg (by omega)).symm
        rw [r_29]
        exact hret _ ls H locs dX10_mayBeDone_124 hP hD hS
      · skip
        refine lv_lload_n hx hb dX10_mayBeDone_111 rfl (lv_at hl 2 rfl) ?_
        refine lv_ldc2 hx hb hown hw3 dX10_mayBeDone_112 ?_
        refine z_top (w := .long (lI (126))) rfl ?_
        refine z_lcmp_gt (tgt := 123) hx hb dX10_mayBeDone_115 dX10_mayBeDone_116 (by decide) (by omega) (fun c_30 => ?_) (fun c_30 => ?_)
        · skip
          refine lv_iconst (v := iI (0)) hx hb dX10_mayBeDone_123 rfl ?_
          have r_31 : (0 : Int) = (if okL kd a b then 1 else 0) := by first | exact (if_pos (by omega)).symm | exact (if_neg (by omega)).symm
          rw [r_31]
          exact hret _ ls H locs dX10_mayBeDone_124 hP hD hS
        · skip
          refine lv_iconst (v := iI (1)) hx hb dX10_mayBeDone_119 rfl ?_
          refine lv_goto (tgt := 124) hx hb dX10_mayBeDone_120 (by decide) ?_
          have r_32 : (1 : Int) = (if okL kd a b then 1 else 0) := by first | exact (if_pos (by omega)).symm | exact (if_neg (by omega)).symm
          rw [r_32]
          exact hret _ ls H locs dX10_mayBeDone_124 hP hD hS
  refine z_tswOut (tgt := 125) hx hb dX10_mayBeDone_1 (by omega) (by omega) (by decide) ?_
  refine lv_iconst (v := iI (0)) hx hb dX10_mayBeDone_125 rfl ?_
  have r_33 : (0 : Int) = (if okL kd a b then 1 else 0) := by first | exact (if_pos (by omega)).symm | exact (if_neg (by omega)).symm
  rw [r_33]
  exact hret _ ls H locs dX10_mayBeDone_126 hP hD hS

