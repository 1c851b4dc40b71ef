def addN (cp k : Int) : Int := if k < cp then k + 1 else k
def addF (cp k : Int) (f : Int → Int) (x : Int) : Int → Int := if k < cp then uF f k x else f
set_option maxHeartbeats 4000000 in
set_option maxRecDepth 100000 in
theorem c_X1_has (l : Launch) (G : Gx) (zz : Nat) (a0 a1 a2 a3 : Nat) (sz va ke : Int → Int) (mk : Int) (n : Int) (h1 : 0 ≤ mk ∧ mk ≤ 60) (h2 : -2147483648 ≤ n ∧ n < 2147483648) : Ci l yX1_has wsX1_has (rz 0 0) G [.ref a0, .int (iI n)] [(a0, .inr (2, [.ref a1, .ref a2, .ref a3, .int (iI mk)])), (a1, .inl (gI G, 61, .inl (fun j : Nat => iI (sz (j : Int))))), (a2, .inl (gL G, 61, .inr (.inl (fun j : Nat => lI (va (j : Int)))))), (a3, .inl (gL G, 61, .inr (.inl (fun j : Nat => lI (ke (j : Int))))))] zz (if 1 ≤ n ∧ n ≤ mk then 1 else 0) [(a0, .inr (2, [.ref a1, .ref a2, .ref a3, .int (iI mk)])), (a1, .inl (gI G, 61, .inl (fun j : Nat => iI (sz (j : Int))))), (a2, .inl (gL G, 61, .inr (.inl (fun j : Nat => lI (va (j : Int)))))), (a3, .inl (gL G, 61, .inr (.inl (fun j : Nat => lI (ke (j : Int))))))] := by
  refine met_i (cc := cX1_has) (maxL := 2) (ret := (some .boolean)) (by decide) rfl (Nat.le_of_ble_eq_true rfl) rfl (by (repeat (any_goals split)) <;> decide) ⟨rfl, rfl⟩ ?_
  intro p e s m below meth c A Q F C hP hD hS hret ls hl
  obtain ⟨hx, hb, hml, hown, hts⟩ := id F
  obtain ⟨hK, hA, hZ, hT, hN⟩ := id C
  have hl : lv_has ls 2 [(0, .ref a0), (1, .int (iI n))] := hl
  obtain ⟨H, hH⟩ : ∃ H, H = s.heap := ⟨_, rfl⟩
  obtain ⟨locs, hlocs⟩ : ∃ l : List Loc, l = [] := ⟨_, rfl⟩
  have hS : va_S A s.heap H locs := by rw [hH, hlocs]; exact hS
  have hP : va_P G.1 vwCl [(a0, .inr (2, [.ref a1, .ref a2, .ref a3, .int (iI mk)])), (a1, .inl (gI G, 61, .inl (fun j : Nat => iI (sz (j : Int))))), (a2, .inl (gL G, 61, .inr (.inl (fun j : Nat => lI (va (j : Int)))))), (a3, .inl (gL G, 61, .inr (.inl (fun j : Nat => lI (ke (j : Int))))))] H := by rw [hH]; exact hP
  suffices hgo : W p l e (rz 0 0) s m [.ref a0, .int (iI n)].toArray below meth c H locs 0 0 Q (F0 m 0 ls []) by rw [hH, hlocs] at hgo; exact hgo
  have hiX1 : ∀ w ∈ wsX10, w ∈ wsX1_has := by decide +kernel
  have hw0 := hts (Cond.fieldLink RX1 22 "PlainCobol$Cells" "made" "I") (List.mem_of_getElem? (i := 1) rfl)
  refine lv_iload_n hx hb dX1_has_0 rfl (lv_at hl 1 rfl) ?_
  refine lv_iconst (v := iI (1)) hx hb dX1_has_1 rfl ?_
  refine z_icmp_lt (tgt := 17) hx hb dX1_has_2 (by decide) (by omega) (fun c_1 => ?_) (fun c_1 => ?_)
  · skip
    refine lv_iconst (v := iI (0)) hx hb dX1_has_17 rfl ?_
    have r_2 : (0 : Int) = (if 1 ≤ n ∧ n ≤ mk then 1 else 0) := by first | exact (if_pos (by omega)).symm | exact (if_neg (by omega)).symm
    rw [r_2]
    exact hret _ ls H locs dX1_has_18 hP hD hS
  · skip
    refine lv_iload_n hx hb dX1_has_5 rfl (lv_at hl 1 rfl) ?_
    refine lv_aload_n hx hb dX1_has_6 rfl (lv_at hl 0 rfl) ?_
    refine va_get (D := G.1) (ci := 2) (v := .int (iI mk)) (C := RX1) (T := TX1) (N := 4) hx hb hts hiX1 hown hK hP 0 rfl rfl 3 (by decide) hw0 (fun _ h9 => h9) rfl dX1_has_7 ?_
    refine z_icmp_gt (tgt := 17) hx hb dX1_has_10 (by decide) (by omega) (fun c_3 => ?_) (fun c_3 => ?_)
    · skip
      refine lv_iconst (v := iI (0)) hx hb dX1_has_17 rfl ?_
      have r_4 : (0 : Int) = (if 1 ≤ n ∧ n ≤ mk then 1 else 0) := by first | exact (if_pos (by omega)).symm | exact (if_neg (by omega)).symm
      rw [r_4]
      exact hret _ ls H locs dX1_has_18 hP hD hS
    · skip
      refine lv_iconst (v := iI (1)) hx hb dX1_has_13 rfl ?_
      refine lv_goto (tgt := 18) hx hb dX1_has_14 (by decide) ?_
      have r_5 : (1 : Int) = (if 1 ≤ n ∧ n ≤ mk then 1 else 0) := by first | exact (if_pos (by omega)).symm | exact (if_neg (by omega)).symm
      rw [r_5]
      exact hret _ ls H locs dX1_has_18 hP hD hS

set_option maxHeartbeats 4000000 in
set_option maxRecDepth 100000 in
theorem c_X1_make (l : Launch) (G : Gx) (zz : Nat) (a0 a1 a2 a3 : Nat) (sz va ke : Int → Int) (mk : Int) (n v : Int) (h1 : 0 ≤ mk ∧ mk < 60) (h2 : 1 ≤ n ∧ n ≤ 18) (h3 : -9223372036854775808 ≤ v ∧ v < 9223372036854775808) : Ci l yX1_make wsX1_make (rz 0 0) G [.ref a0, .int (iI n), .long (lI v)] [(a0, .inr (2, [.ref a1, .ref a2, .ref a3, .int (iI mk)])), (a1, .inl (gI G, 61, .inl (fun j : Nat => iI (sz (j : Int))))), (a2, .inl (gL G, 61, .inr (.inl (fun j : Nat => lI (va (j : Int)))))), (a3, .inl (gL G, 61, .inr (.inl (fun j : Nat => lI (ke (j : Int))))))] zz (mk + 1) [(a0, .inr (2, [.ref a1, .ref a2, .ref a3, .int (iI (mk + 1))])), (a1, .inl (gI G, 61, .inl (fun j : Nat => iI ((uF sz (mk + 1) n) (j : Int))))), (a2, .inl (gL G, 61, .inr (.inl (fun j : Nat => lI ((uF va (mk + 1) (Int.tmod v (pw n))) (j : Int)))))), (a3, .inl (gL G, 61, .inr (.inl (fun j : Nat => lI (ke (j : Int))))))] := by
  refine met_i (cc := cX1_make) (maxL := 4) (ret := (some .int)) (by decide) rfl (Nat.le_of_ble_eq_true rfl) rfl rfl ⟨rfl, rfl⟩ ?_
  intro p e s m below meth c A Q F C hP hD hS hret ls hl
  obtain ⟨hx, hb, hml, hown, hts⟩ := id F
  obtain ⟨hK, hA, hZ, hT, hN⟩ := id C
  have hl : lv_has ls 4 [(0, .ref a0), (1, .int (iI n)), (2, .long (lI v))] := hl
  obtain ⟨H, hH⟩ : ∃ H, H = s.heap := ⟨_, rfl⟩
  obtain ⟨locs, hlocs⟩ : ∃ l : List Loc, l = [] := ⟨_, rfl⟩
  have hS : va_S A s.heap H locs := by rw [hH, hlocs]; exact hS
  have hP : va_P G.1 vwCl [(a0, .inr (2, [.ref a1, .ref a2, .ref a3, .int (iI mk)])), (a1, .inl (gI G, 61, .inl (fun j : Nat => iI (sz (j : Int))))), (a2, .inl (gL G, 61, .inr (.inl (fun j : Nat => lI (va (j : Int)))))), (a3, .inl (gL G, 61, .inr (.inl (fun j : Nat => lI (ke (j : Int))))))] H := by rw [hH]; exact hP
  suffices hgo : W p l e (rz 0 0) s m [.ref a0, .int (iI n), .long (lI v)].toArray below meth c H locs 0 0 Q (F0 m 0 ls []) by rw [hH, hlocs] at hgo; exact hgo
  have hiX1 : ∀ w ∈ wsX10, w ∈ wsX1_make := by decide +kernel
  have hw0 := hts (Cond.fieldLink RX1 22 "PlainCobol$Cells" "made" "I") (List.mem_of_getElem? (i := 1) rfl)
  have hw1 := hts (Cond.fieldLink RX1 9 "PlainCobol$Cells" "sizes" "[I") (List.mem_of_getElem? (i := 2) rfl)
  have hw2 := hts (Cond.fieldLink RX1 15 "PlainCobol$Cells" "values" "[J") (List.mem_of_getElem? (i := 3) rfl)
  refine lv_aload_n hx hb dX1_make_0 rfl (lv_at hl 0 rfl) ?_
  refine lv_dup hx hb dX1_make_1 rfl ?_
  refine va_get (D := G.1) (ci := 2) (v := .int (iI mk)) (C := RX1) (T := TX1) (N := 4) hx hb hts hiX1 hown hK hP 0 rfl rfl 3 (by decide) hw0 (fun _ h9 => h9) rfl dX1_make_2 ?_
  refine lv_iconst (v := iI (1)) hx hb dX1_make_5 rfl ?_
  refine z_iadd hx hb dX1_make_6 ?_
  refine va_put (D := G.1) (ci := 2) (v := .int (iI (mk + 1))) (ty := .int) (C := RX1) (T := TX1) (N := 4) hx hb hts hiX1 tyX1 tyX1_ok nmX1 hown hK hP hD hS 0 rfl rfl 3 (by decide) hw0 (fun _ h9 => h9) rfl (by decide +kernel) rfl rfl (Nat.le_of_ble_eq_true rfl) dX1_make_7 (fun H locs hP hD hS => ?_)
  have hP : va_P G.1 vwCl [(a0, .inr (2, [.ref a1, .ref a2, .ref a3, .int (iI (mk + 1))])), (a1, .inl (gI G, 61, .inl (fun j : Nat => iI (sz (j : Int))))), (a2, .inl (gL G, 61, .inr (.inl (fun j : Nat => lI (va (j : Int)))))), (a3, .inl (gL G, 61, .inr (.inl (fun j : Nat => lI (ke (j : Int))))))] H := hP
  have hD : va_D A [(a0, .inr (2, [.ref a1, .ref a2, .ref a3, .int (iI (mk + 1))])), (a1, .inl (gI G, 61, .inl (fun j : Nat => iI (sz (j : Int))))), (a2, .inl (gL G, 61, .inr (.inl (fun j : Nat => lI (va (j : Int)))))), (a3, .inl (gL G, 61, .inr (.inl (fun j : Nat => lI (ke (j : Int))))))] := hD
  refine lv_aload_n hx hb dX1_make_10 rfl (lv_at hl 0 rfl) ?_
  refine va_get (D := G.1) (ci := 2) (v := .ref a1) (C := RX1) (T := TX1) (N := 4) hx hb hts hiX1 hown hK hP 0 rfl rfl 0 (by decide) hw1 (fun _ h9 => h9) rfl dX1_make_11 ?_
  refine lv_aload_n hx hb dX1_make_14 rfl (lv_at hl 0 rfl) ?_
  refine va_get (D := G.1) (ci := 2) (v := .int (iI (mk + 1))) (C := RX1) (T := TX1) (N := 4) hx hb hts hiX1 hown hK hP 0 rfl rfl 3 (by decide) hw0 (fun _ h9 => h9) rfl dX1_make_15 ?_
  refine lv_iload_n hx hb dX1_make_18 rfl (lv_at hl 1 rfl) ?_
  refine z_iast hx hb hK hP hD hS 1 0 rfl rfl (by omega) dX1_make_19 (fun H locs hP hD hS => ?_)
  have hP : va_P G.1 vwCl [(a0, .inr (2, [.ref a1, .ref a2, .ref a3, .int (iI (mk + 1))])), (a1, .inl (gI G, 61, .inl (fun j : Nat => iI ((uF sz (mk + 1) n) (j : Int))))), (a2, .inl (gL G, 61, .inr (.inl (fun j : Nat => lI (va (j : Int)))))), (a3, .inl (gL G, 61, .inr (.inl (fun j : Nat => lI (ke (j : Int))))))] H := hP
  have hD : va_D A [(a0, .inr (2, [.ref a1, .ref a2, .ref a3, .int (iI (mk + 1))])), (a1, .inl (gI G, 61, .inl (fun j : Nat => iI ((uF sz (mk + 1) n) (j : Int))))), (a2, .inl (gL G, 61, .inr (.inl (fun j : Nat => lI (va (j : Int)))))), (a3, .inl (gL G, 61, .inr (.inl (fun j : Nat => lI (ke (j : Int))))))] := hD
  refine lv_aload_n hx hb dX1_make_20 rfl (lv_at hl 0 rfl) ?_
  refine va_get (D := G.1) (ci := 2) (v := .ref a2) (C := RX1) (T := TX1) (N := 4) hx hb hts hiX1 hown hK hP 0 rfl rfl 1 (by decide) hw2 (fun _ h9 => h9) rfl dX1_make_21 ?_
  refine lv_aload_n hx hb dX1_make_24 rfl (lv_at hl 0 rfl) ?_
  refine va_get (D := G.1) (ci := 2) (v := .int (iI (mk + 1))) (C := RX1) (T := TX1) (N := 4) hx hb hts hiX1 hown hK hP 0 rfl rfl 3 (by decide) hw0 (fun _ h9 => h9) rfl dX1_make_25 ?_
  refine lv_lload_n hx hb dX1_make_28 rfl (lv_at hl 2 rfl) ?_
  refine va_getsN (C := "PlainCobol") hx hb hZ hS hown (hN.1.use rfl) (fun _ h9 => h9) dX1_make_29 ?_
  refine lv_iload_n hx hb dX1_make_32 rfl (lv_at hl 1 rfl) ?_
  refine z_tl (f := pw) hx hb hT hS (by omega) dX1_make_33 ?_
  refine z_lrem hx hb dX1_make_34 (by have := pw_rng (i := n) (by omega); omega) ?_
  refine z_last hx hb hK hP hD hS 2 1 rfl rfl (by omega) dX1_make_35 (fun H locs hP hD hS => ?_)
  have hP : va_P G.1 vwCl [(a0, .inr (2, [.ref a1, .ref a2, .ref a3, .int (iI (mk + 1))])), (a1, .inl (gI G, 61, .inl (fun j : Nat => iI ((uF sz (mk + 1) n) (j : Int))))), (a2, .inl (gL G, 61, .inr (.inl (fun j : Nat => lI ((uF va (mk + 1) (Int.tmod v (pw n))) (j : Int)))))), (a3, .inl (gL G, 61, .inr (.inl (fun j : Nat => lI (ke (j : Int))))))] H := hP
  have hD : va_D A [(a0, .inr (2, [.ref a1, .ref a2, .ref a3, .int (iI (mk + 1))])), (a1, .inl (gI G, 61, .inl (fun j : Nat => iI ((uF sz (mk + 1) n) (j : Int))))), (a2, .inl (gL G, 61, .inr (.inl (fun j : Nat => lI ((uF va (mk + 1) (Int.tmod v (pw n))) (j : Int)))))), (a3, .inl (gL G, 61, .inr (.inl (fun j : Nat => lI (ke (j : Int))))))] := hD
  refine lv_aload_n hx hb dX1_make_36 rfl (lv_at hl 0 rfl) ?_
  refine va_get (D := G.1) (ci := 2) (v := .int (iI (mk + 1))) (C := RX1) (T := TX1) (N := 4) hx hb hts hiX1 hown hK hP 0 rfl rfl 3 (by decide) hw0 (fun _ h9 => h9) rfl dX1_make_37 ?_
  exact hret _ ls H locs dX1_make_40 hP hD hS

set_option maxHeartbeats 4000000 in
set_option maxRecDepth 100000 in
theorem c_X1_move (l : Launch) (G : Gx) (zz : Nat) (a0 a1 a2 a3 : Nat) (sz va ke : Int → Int) (mk : Int) (n v : Int) (h1 : 1 ≤ n ∧ n ≤ 60) (h2 : 1 ≤ sz n ∧ sz n ≤ 18) (h3 : -9223372036854775808 ≤ v ∧ v < 9223372036854775808) : Cv l yX1_move wsX1_move (rz 0 0) G [.ref a0, .int (iI n), .long (lI v)] [(a0, .inr (2, [.ref a1, .ref a2, .ref a3, .int (iI mk)])), (a1, .inl (gI G, 61, .inl (fun j : Nat => iI (sz (j : Int))))), (a2, .inl (gL G, 61, .inr (.inl (fun j : Nat => lI (va (j : Int)))))), (a3, .inl (gL G, 61, .inr (.inl (fun j : Nat => lI (ke (j : Int))))))] zz [(a0, .inr (2, [.ref a1, .ref a2, .ref a3, .int (iI mk)])), (a1, .inl (gI G, 61, .inl (fun j : Nat => iI (sz (j : Int))))), (a2, .inl (gL G, 61, .inr (.inl (fun j : Nat => lI ((uF va n (Int.tmod v (pw (sz n)))) (j : Int)))))), (a3, .inl (gL G, 61, .inr (.inl (fun j : Nat => lI (ke (j : Int))))))] := by
  refine met_v (cc := cX1_move) (maxL := 4) (by decide) rfl (Nat.le_of_ble_eq_true rfl) ⟨rfl, rfl⟩ ?_
  intro p e s m below meth c A Q F C hP hD hS hret ls hl
  obtain ⟨hx, hb, hml, hown, hts⟩ := id F
  obtain ⟨hK, hA, hZ, hT, hN⟩ := id C
  have hl : lv_has ls 4 [(0, .ref a0), (1, .int (iI n)), (2, .long (lI v))] := hl
  obtain ⟨H, hH⟩ : ∃ H, H = s.heap := ⟨_, rfl⟩
  obtain ⟨locs, hlocs⟩ : ∃ l : List Loc, l = [] := ⟨_, rfl⟩
  have hS : va_S A s.heap H locs := by rw [hH, hlocs]; exact hS
  have hP : va_P G.1 vwCl [(a0, .inr (2, [.ref a1, .ref a2, .ref a3, .int (iI mk)])), (a1, .inl (gI G, 61, .inl (fun j : Nat => iI (sz (j : Int))))), (a2, .inl (gL G, 61, .inr (.inl (fun j : Nat => lI (va (j : Int)))))), (a3, .inl (gL G, 61, .inr (.inl (fun j : Nat => lI (ke (j : Int))))))] H := by rw [hH]; exact hP
  suffices hgo : W p l e (rz 0 0) s m [.ref a0, .int (iI n), .long (lI v)].toArray below meth c H locs 0 0 Q (F0 m 0 ls []) by rw [hH, hlocs] at hgo; exact hgo
  have hiX1 : ∀ w ∈ wsX10, w ∈ wsX1_move := by decide +kernel
  have hw0 := hts (Cond.fieldLink RX1 15 "PlainCobol$Cells" "values" "[J") (List.mem_of_getElem? (i := 1) rfl)
  have hw1 := hts (Cond.fieldLink RX1 9 "PlainCobol$Cells" "sizes" "[I") (List.mem_of_getElem? (i := 2) rfl)
  refine lv_aload_n hx hb dX1_move_0 rfl (lv_at hl 0 rfl) ?_
  refine va_get (D := G.1) (ci := 2) (v := .ref a2) (C := RX1) (T := TX1) (N := 4) hx hb hts hiX1 hown hK hP 0 rfl rfl 1 (by decide) hw0 (fun _ h9 => h9) rfl dX1_move_1 ?_
  refine lv_iload_n hx hb dX1_move_4 rfl (lv_at hl 1 rfl) ?_
  refine lv_lload_n hx hb dX1_move_5 rfl (lv_at hl 2 rfl) ?_
  refine va_getsN (C := "PlainCobol") hx hb hZ hS hown (hN.1.use rfl) (fun _ h9 => h9) dX1_move_6 ?_
  refine lv_aload_n hx hb dX1_move_9 rfl (lv_at hl 0 rfl) ?_
  refine va_get (D := G.1) (ci := 2) (v := .ref a1) (C := RX1) (T := TX1) (N := 4) hx hb hts hiX1 hown hK hP 0 rfl rfl 0 (by decide) hw1 (fun _ h9 => h9) rfl dX1_move_10 ?_
  refine lv_iload_n hx hb dX1_move_13 rfl (lv_at hl 1 rfl) ?_
  refine z_iald hx hb hK hP 1 0 rfl rfl (by omega) dX1_move_14 ?_
  refine z_tl (f := pw) hx hb hT hS (by omega) dX1_move_15 ?_
  refine z_lrem hx hb dX1_move_16 (by have := pw_rng (i := sz n) (by omega); omega) ?_
  refine z_last hx hb hK hP hD hS 2 1 rfl rfl (by omega) dX1_move_17 (fun H locs hP hD hS => ?_)
  have hP : va_P G.1 vwCl [(a0, .inr (2, [.ref a1, .ref a2, .ref a3, .int (iI mk)])), (a1, .inl (gI G, 61, .inl (fun j : Nat => iI (sz (j : Int))))), (a2, .inl (gL G, 61, .inr (.inl (fun j : Nat => lI ((uF va n (Int.tmod v (pw (sz n)))) (j : Int)))))), (a3, .inl (gL G, 61, .inr (.inl (fun j : Nat => lI (ke (j : Int))))))] H := hP
  have hD : va_D A [(a0, .inr (2, [.ref a1, .ref a2, .ref a3, .int (iI mk)])), (a1, .inl (gI G, 61, .inl (fun j : Nat => iI (sz (j : Int))))), (a2, .inl (gL G, 61, .inr (.inl (fun j : Nat => lI ((uF va n (Int.tmod v (pw (sz n)))) (j : Int)))))), (a3, .inl (gL G, 61, .inr (.inl (fun j : Nat => lI (ke (j : Int))))))] := hD
  exact hret _ ls H locs dX1_move_18 hP hD hS

set_option maxHeartbeats 4000000 in
set_option maxRecDepth 100000 in
theorem c_X1_mostOf (l : Launch) (G : Gx) (zz : Nat) (a0 a1 a2 a3 : Nat) (sz va ke : Int → Int) (mk : Int) (n : Int) (h1 : 1 ≤ n ∧ n ≤ 60) (h2 : 1 ≤ sz n ∧ sz n ≤ 18) : Cl l yX1_mostOf wsX1_mostOf (rz 0 0) G [.ref a0, .int (iI n)] [(a0, .inr (2, [.ref a1, .ref a2, .ref a3, .int (iI mk)])), (a1, .inl (gI G, 61, .inl (fun j : Nat => iI (sz (j : Int))))), (a2, .inl (gL G, 61, .inr (.inl (fun j : Nat => lI (va (j : Int)))))), (a3, .inl (gL G, 61, .inr (.inl (fun j : Nat => lI (ke (j : Int))))))] zz (pw (sz n) - 1) [(a0, .inr (2, [.ref a1, .ref a2, .ref a3, .int (iI mk)])), (a1, .inl (gI G, 61, .inl (fun j : Nat => iI (sz (j : Int))))), (a2, .inl (gL G, 61, .inr (.inl (fun j : Nat => lI (va (j : Int)))))), (a3, .inl (gL G, 61, .inr (.inl (fun j : Nat => lI (ke (j : Int))))))] := by
  refine met_l (cc := cX1_mostOf) (maxL := 2) (by decide) rfl (Nat.le_of_ble_eq_true rfl) ⟨rfl, rfl⟩ ?_
  intro p e s m below meth c A Q F C hP hD hS hret ls hl
  obtain ⟨hx, hb, hml, hown, hts⟩ := id F
  obtain ⟨hK, hA, hZ, hT, hN⟩ := id C
  have hl : lv_has ls 2 [(0, .ref a0), (1, .int (iI n))] := hl
  obtain ⟨H, hH⟩ : ∃ H, H = s.heap := ⟨_, rfl⟩
  obtain ⟨locs, hlocs⟩ : ∃ l : List Loc, l = [] := ⟨_, rfl⟩
  have hS : va_S A s.heap H locs := by rw [hH, hlocs]; exact hS
  have hP : va_P G.1 vwCl [(a0, .inr (2, [.ref a1, .ref a2, .ref a3, .int (iI mk)])), (a1, .inl (gI G, 61, .inl (fun j : Nat => iI (sz (j : Int))))), (a2, .inl (gL G, 61, .inr (.inl (fun j : Nat => lI (va (j : Int)))))), (a3, .inl (gL G, 61, .inr (.inl (fun j : Nat => lI (ke (j : Int))))))] H := by rw [hH]; exact hP
  suffices hgo : W p l e (rz 0 0) s m [.ref a0, .int (iI n)].toArray below meth c H locs 0 0 Q (F0 m 0 ls []) by rw [hH, hlocs] at hgo; exact hgo
  have hiX1 : ∀ w ∈ wsX10, w ∈ wsX1_mostOf := by decide +kernel
  have hw0 := hts (Cond.fieldLink RX1 9 "PlainCobol$Cells" "sizes" "[I") (List.mem_of_getElem? (i := 1) rfl)
  refine va_getsN (C := "PlainCobol") hx hb hZ hS hown (hN.1.use rfl) (fun _ h9 => h9) dX1_mostOf_0 ?_
  refine lv_aload_n hx hb dX1_mostOf_3 rfl (lv_at hl 0 rfl) ?_
  refine va_get (D := G.1) (ci := 2) (v := .ref a1) (C := RX1) (T := TX1) (N := 4) hx hb hts hiX1 hown hK hP 0 rfl rfl 0 (by decide) hw0 (fun _ h9 => h9) rfl dX1_mostOf_4 ?_
  refine lv_iload_n hx hb dX1_mostOf_7 rfl (lv_at hl 1 rfl) ?_
  refine z_iald hx hb hK hP 1 0 rfl rfl (by omega) dX1_mostOf_8 ?_
  refine z_tl (f := pw) hx hb hT hS (by omega) dX1_mostOf_9 ?_
  refine lv_lconst (v := lI 1) hx hb dX1_mostOf_10 (by decide) ?_
  refine z_lsub hx hb dX1_mostOf_11 ?_
  have r_1 : (((pw (sz n)) - 1) : Int) = (pw (sz n) - 1) := by rfl
  rw [r_1]
  exact hret _ ls H locs dX1_mostOf_12 hP hD hS

set_option maxHeartbeats 4000000 in
set_option maxRecDepth 100000 in
theorem c_X1_digit (l : Launch) (G : Gx) (zz : Nat) (a0 a1 a2 a3 : Nat) (sz va ke : Int → Int) (mk : Int) (n i : Int) (h1 : 1 ≤ n ∧ n ≤ 60) (h2 : 1 ≤ sz n ∧ sz n ≤ 18) (h3 : 0 ≤ i ∧ i < sz n) (h4 : -1000000000000000000 < va n ∧ va n < 1000000000000000000) : Ci l yX1_digit wsX1_digit (rz 1 13) G [.ref a0, .int (iI n), .int (iI i)] [(a0, .inr (2, [.ref a1, .ref a2, .ref a3, .int (iI mk)])), (a1, .inl (gI G, 61, .inl (fun j : Nat => iI (sz (j : Int))))), (a2, .inl (gL G, 61, .inr (.inl (fun j : Nat => lI (va (j : Int)))))), (a3, .inl (gL G, 61, .inr (.inl (fun j : Nat => lI (ke (j : Int))))))] zz (Int.tmod (Int.tdiv ((Int.natAbs (va n) : Nat) : Int) (pw (sz n - 1 - i))) 10) [(a0, .inr (2, [.ref a1, .ref a2, .ref a3, .int (iI mk)])), (a1, .inl (gI G, 61, .inl (fun j : Nat => iI (sz (j : Int))))), (a2, .inl (gL G, 61, .inr (.inl (fun j : Nat => lI (va (j : Int)))))), (a3, .inl (gL G, 61, .inr (.inl (fun j : Nat => lI (ke (j : Int))))))] := by
  refine met_i (cc := cX1_digit) (maxL := 3) (ret := (some .int)) (by decide) rfl (Nat.le_of_ble_eq_true rfl) rfl rfl ⟨rfl, rfl⟩ ?_
  intro p e s m below meth c A Q F C hP hD hS hret ls hl
  obtain ⟨hx, hb, hml, hown, hts⟩ := id F
  obtain ⟨hK, hA, hZ, hT, hN⟩ := id C
  have hl : lv_has ls 3 [(0, .ref a0), (1, .int (iI n)), (2, .int (iI i))] := hl
  obtain ⟨H, hH⟩ : ∃ H, H = s.heap := ⟨_, rfl⟩
  obtain ⟨locs, hlocs⟩ : ∃ l : List Loc, l = [] := ⟨_, rfl⟩
  have hS : va_S A s.heap H locs := by rw [hH, hlocs]; exact hS
  have hP : va_P G.1 vwCl [(a0, .inr (2, [.ref a1, .ref a2, .ref a3, .int (iI mk)])), (a1, .inl (gI G, 61, .inl (fun j : Nat => iI (sz (j : Int))))), (a2, .inl (gL G, 61, .inr (.inl (fun j : Nat => lI (va (j : Int)))))), (a3, .inl (gL G, 61, .inr (.inl (fun j : Nat => lI (ke (j : Int))))))] H := by rw [hH]; exact hP
  suffices hgo : W p l e (rz 1 13) s m [.ref a0, .int (iI n), .int (iI i)].toArray below meth c H locs 0 0 Q (F0 m 0 ls []) by rw [hH, hlocs] at hgo; exact hgo
  have hiX1 : ∀ w ∈ wsX10, w ∈ wsX1_digit := by decide +kernel
  have hw0 := hts (Cond.fieldLink RX1 15 "PlainCobol$Cells" "values" "[J") (List.mem_of_getElem? (i := 1) rfl)
  have hw1 := hts (Cond.methodLink RX1 29 Lib.MathLoose.abs_long.x) (List.mem_of_getElem? (i := 2) rfl)
  have hw2 := hts (Cond.static Lib.MathLoose.abs_long.x) (List.mem_of_getElem? (i := 3) rfl)
  have hw3 := hts (Cond.initialized "java/lang/Math") (List.mem_of_getElem? (i := 4) rfl)
  have hw4 := hts (Cond.code Lib.MathLoose.abs_long.x Lib.MathLoose.abs_long.code 2 (some .long)) (List.mem_of_getElem? (i := 5) rfl)
  have hw5 := hts (Cond.fieldLink RX1 9 "PlainCobol$Cells" "sizes" "[I") (List.mem_of_getElem? (i := 6) rfl)
  have hw6 := hts (Cond.constantLong RX1 35 (10)) (List.mem_of_getElem? (i := 7) rfl)
  refine lv_aload_n hx hb dX1_digit_0 rfl (lv_at hl 0 rfl) ?_
  refine va_get (D := G.1) (ci := 2) (v := .ref a2) (C := RX1) (T := TX1) (N := 4) hx hb hts hiX1 hown hK hP 0 rfl rfl 1 (by decide) hw0 (fun _ h9 => h9) rfl dX1_digit_1 ?_
  refine lv_iload_n hx hb dX1_digit_4 rfl (lv_at hl 1 rfl) ?_
  refine z_lald hx hb hK hP 2 1 rfl rfl (by omega) dX1_digit_5 ?_
  refine z_labs hx hb (hml.trans hl.1.symm) hown hw1 hw2 hw3 hw4 ⟨by decide, Nat.le_of_ble_eq_true rfl⟩ ⟨by decide, by decide⟩ (by omega) dX1_digit_6 ?_
  refine va_getsN (C := "PlainCobol") hx hb hZ hS hown (hN.1.use rfl) (fun _ h9 => h9) dX1_digit_9 ?_
  refine lv_aload_n hx hb dX1_digit_12 rfl (lv_at hl 0 rfl) ?_
  refine va_get (D := G.1) (ci := 2) (v := .ref a1) (C := RX1) (T := TX1) (N := 4) hx hb hts hiX1 hown hK hP 0 rfl rfl 0 (by decide) hw5 (fun _ h9 => h9) rfl dX1_digit_13 ?_
  refine lv_iload_n hx hb dX1_digit_16 rfl (lv_at hl 1 rfl) ?_
  refine z_iald hx hb hK hP 1 0 rfl rfl (by omega) dX1_digit_17 ?_
  refine lv_iconst (v := iI (1)) hx hb dX1_digit_18 rfl ?_
  refine z_isub hx hb dX1_digit_19 ?_
  refine lv_iload_n hx hb dX1_digit_20 rfl (lv_at hl 2 rfl) ?_
  refine z_isub hx hb dX1_digit_21 ?_
  refine z_tl (f := pw) hx hb hT hS (by omega) dX1_digit_22 ?_
  refine z_ldivP hx hb dX1_digit_23 (by have := pw_rng (i := sz n - 1 - i) (by omega); omega) ?_
  refine lv_ldc2 hx hb hown hw6 dX1_digit_24 ?_
  refine z_top (w := .long (lI (10))) rfl ?_
  refine z_lrem hx hb dX1_digit_27 (by have := Int.natAbs_tdiv_le_natAbs ((Int.natAbs (va n) : Nat) : Int) (pw (sz n - 1 - i)); omega) ?_
  refine z_l2i hx hb dX1_digit_28 ?_
  have r_1 : ((Int.tmod (Int.tdiv ((Int.natAbs (va n) : Nat) : Int) (pw (((sz n) - 1) - i))) 10) : Int) = (Int.tmod (Int.tdiv ((Int.natAbs (va n) : Nat) : Int) (pw (sz n - 1 - i))) 10) := by rfl
  rw [r_1]
  exact hret _ ls H locs dX1_digit_29 hP hD hS

set_option maxHeartbeats 4000000 in
set_option maxRecDepth 100000 in
theorem c_X1_keepAll (l : Launch) (G : Gx) (zz : Nat) (a0 a1 a2 a3 : Nat) (sz va ke : Int → Int) (mk : Int)  : Cv l yX1_keepAll wsX1_keepAll (rz 1 18) G [.ref a0] [(a0, .inr (2, [.ref a1, .ref a2, .ref a3, .int (iI mk)])), (a1, .inl (gI G, 61, .inl (fun j : Nat => iI (sz (j : Int))))), (a2, .inl (gL G, 61, .inr (.inl (fun j : Nat => lI (va (j : Int)))))), (a3, .inl (gL G, 61, .inr (.inl (fun j : Nat => lI (ke (j : Int))))))] zz [(a0, .inr (2, [.ref a1, .ref a2, .ref a3, .int (iI mk)])), (a1, .inl (gI G, 61, .inl (fun j : Nat => iI (sz (j : Int))))), (a2, .inl (gL G, 61, .inr (.inl (fun j : Nat => lI (va (j : Int)))))), (a3, .inl (gL G, 61, .inr (.inl (fun j : Nat => lI ((cF va ke 0 0 61) (j : Int))))))] := by
  refine met_v (cc := cX1_keepAll) (maxL := 1) (by decide) rfl (Nat.le_of_ble_eq_true rfl) ⟨rfl, rfl⟩ ?_
  intro p e s m below meth c A Q F C hP hD hS hret ls hl
  obtain ⟨hx, hb, hml, hown, hts⟩ := id F
  obtain ⟨hK, hA, hZ, hT, hN⟩ := id C
  have hl : lv_has ls 1 [(0, .ref a0)] := hl
  obtain ⟨H, hH⟩ : ∃ H, H = s.heap := ⟨_, rfl⟩
  obtain ⟨locs, hlocs⟩ : ∃ l : List Loc, l = [] := ⟨_, rfl⟩
  have hS : va_S A s.heap H locs := by rw [hH, hlocs]; exact hS
  have hP : va_P G.1 vwCl [(a0, .inr (2, [.ref a1, .ref a2, .ref a3, .int (iI mk)])), (a1, .inl (gI G, 61, .inl (fun j : Nat => iI (sz (j : Int))))), (a2, .inl (gL G, 61, .inr (.inl (fun j : Nat => lI (va (j : Int)))))), (a3, .inl (gL G, 61, .inr (.inl (fun j : Nat => lI (ke (j : Int))))))] H := by rw [hH]; exact hP
  suffices hgo : W p l e (rz 1 18) s m [.ref a0].toArray below meth c H locs 0 0 Q (F0 m 0 ls []) by rw [hH, hlocs] at hgo; exact hgo
  have hiX1 : ∀ w ∈ wsX10, w ∈ wsX1_keepAll := by decide +kernel
  have hw0 := hts (Cond.fieldLink RX1 15 "PlainCobol$Cells" "values" "[J") (List.mem_of_getElem? (i := 1) rfl)
  have hw1 := hts (Cond.fieldLink RX1 19 "PlainCobol$Cells" "kept" "[J") (List.mem_of_getElem? (i := 2) rfl)
  have hw2 := hts (Cond.methodLink RX1 37 arraycopyName) (List.mem_of_getElem? (i := 3) rfl)
  have hw3 := hts (Cond.native arraycopyName) (List.mem_of_getElem? (i := 4) rfl)
  have hw4 := hts (Cond.static arraycopyName) (List.mem_of_getElem? (i := 5) rfl)
  have hw5 := hts (Cond.initialized "java/lang/System") (List.mem_of_getElem? (i := 6) rfl)
  refine lv_aload_n hx hb dX1_keepAll_0 rfl (lv_at hl 0 rfl) ?_
  refine va_get (D := G.1) (ci := 2) (v := .ref a2) (C := RX1) (T := TX1) (N := 4) hx hb hts hiX1 hown hK hP 0 rfl rfl 1 (by decide) hw0 (fun _ h9 => h9) rfl dX1_keepAll_1 ?_
  refine lv_iconst (v := iI (0)) hx hb dX1_keepAll_4 rfl ?_
  refine lv_aload_n hx hb dX1_keepAll_5 rfl (lv_at hl 0 rfl) ?_
  refine va_get (D := G.1) (ci := 2) (v := .ref a3) (C := RX1) (T := TX1) (N := 4) hx hb hts hiX1 hown hK hP 0 rfl rfl 2 (by decide) hw1 (fun _ h9 => h9) rfl dX1_keepAll_6 ?_
  refine lv_iconst (v := iI (0)) hx hb dX1_keepAll_9 rfl ?_
  refine lv_aload_n hx hb dX1_keepAll_10 rfl (lv_at hl 0 rfl) ?_
  refine va_get (D := G.1) (ci := 2) (v := .ref a2) (C := RX1) (T := TX1) (N := 4) hx hb hts hiX1 hown hK hP 0 rfl rfl 1 (by decide) hw0 (fun _ h9 => h9) rfl dX1_keepAll_11 ?_
  refine z_alen hx hb hK hP 2 1 rfl rfl dX1_keepAll_14 ?_
  refine z_top (w := .int (iI 61)) rfl ?_
  refine z_copyl hx hb (hml.trans hl.1.symm) hown hw2 hw3 hw4 hw5 hK hP hD hS 2 3 1 rfl rfl rfl (by omega) ⟨by decide, Nat.le_of_ble_eq_true rfl⟩ dX1_keepAll_15 (fun H locs hP hD hS => ?_)
  have hP : va_P G.1 vwCl [(a0, .inr (2, [.ref a1, .ref a2, .ref a3, .int (iI mk)])), (a1, .inl (gI G, 61, .inl (fun j : Nat => iI (sz (j : Int))))), (a2, .inl (gL G, 61, .inr (.inl (fun j : Nat => lI (va (j : Int)))))), (a3, .inl (gL G, 61, .inr (.inl (fun j : Nat => lI ((cF va ke 0 0 61) (j : Int))))))] H := hP
  have hD : va_D A [(a0, .inr (2, [.ref a1, .ref a2, .ref a3, .int (iI mk)])), (a1, .inl (gI G, 61, .inl (fun j : Nat => iI (sz (j : Int))))), (a2, .inl (gL G, 61, .inr (.inl (fun j : Nat => lI (va (j : Int)))))), (a3, .inl (gL G, 61, .inr (.inl (fun j : Nat => lI ((cF va ke 0 0 61) (j : Int))))))] := hD
  exact hret _ ls H locs dX1_keepAll_18 hP hD hS

set_option maxHeartbeats 4000000 in
set_option maxRecDepth 100000 in
theorem c_X1_bringBackAll (l : Launch) (G : Gx) (zz : Nat) (a0 a1 a2 a3 : Nat) (sz va ke : Int → Int) (mk : Int)  : Cv l yX1_bringBackAll wsX1_bringBackAll (rz 1 18) G [.ref a0] [(a0, .inr (2, [.ref a1, .ref a2, .ref a3, .int (iI mk)])), (a1, .inl (gI G, 61, .inl (fun j : Nat => iI (sz (j : Int))))), (a2, .inl (gL G, 61, .inr (.inl (fun j : Nat => lI (va (j : Int)))))), (a3, .inl (gL G, 61, .inr (.inl (fun j : Nat => lI (ke (j : Int))))))] zz [(a0, .inr (2, [.ref a1, .ref a2, .ref a3, .int (iI mk)])), (a1, .inl (gI G, 61, .inl (fun j : Nat => iI (sz (j : Int))))), (a2, .inl (gL G, 61, .inr (.inl (fun j : Nat => lI ((cF ke va 0 0 61) (j : Int)))))), (a3, .inl (gL G, 61, .inr (.inl (fun j : Nat => lI (ke (j : Int))))))] := by
  refine met_v (cc := cX1_bringBackAll) (maxL := 1) (by decide) rfl (Nat.le_of_ble_eq_true rfl) ⟨rfl, rfl⟩ ?_
  intro p e s m below meth c A Q F C hP hD hS hret ls hl
  obtain ⟨hx, hb, hml, hown, hts⟩ := id F
  obtain ⟨hK, hA, hZ, hT, hN⟩ := id C
  have hl : lv_has ls 1 [(0, .ref a0)] := hl
  obtain ⟨H, hH⟩ : ∃ H, H = s.heap := ⟨_, rfl⟩
  obtain ⟨locs, hlocs⟩ : ∃ l : List Loc, l = [] := ⟨_, rfl⟩
  have hS : va_S A s.heap H locs := by rw [hH, hlocs]; exact hS
  have hP : va_P G.1 vwCl [(a0, .inr (2, [.ref a1, .ref a2, .ref a3, .int (iI mk)])), (a1, .inl (gI G, 61, .inl (fun j : Nat => iI (sz (j : Int))))), (a2, .inl (gL G, 61, .inr (.inl (fun j : Nat => lI (va (j : Int)))))), (a3, .inl (gL G, 61, .inr (.inl (fun j : Nat => lI (ke (j : Int))))))] H := by rw [hH]; exact hP
  suffices hgo : W p l e (rz 1 18) s m [.ref a0].toArray below meth c H locs 0 0 Q (F0 m 0 ls []) by rw [hH, hlocs] at hgo; exact hgo
  have hiX1 : ∀ w ∈ wsX10, w ∈ wsX1_bringBackAll := by decide +kernel
  have hw0 := hts (Cond.fieldLink RX1 19 "PlainCobol$Cells" "kept" "[J") (List.mem_of_getElem? (i := 1) rfl)
  have hw1 := hts (Cond.fieldLink RX1 15 "PlainCobol$Cells" "values" "[J") (List.mem_of_getElem? (i := 2) rfl)
  have hw2 := hts (Cond.methodLink RX1 37 arraycopyName) (List.mem_of_getElem? (i := 3) rfl)
  have hw3 := hts (Cond.native arraycopyName) (List.mem_of_getElem? (i := 4) rfl)
  have hw4 := hts (Cond.static arraycopyName) (List.mem_of_getElem? (i := 5) rfl)
  have hw5 := hts (Cond.initialized "java/lang/System") (List.mem_of_getElem? (i := 6) rfl)
  refine lv_aload_n hx hb dX1_bringBackAll_0 rfl (lv_at hl 0 rfl) ?_
  refine va_get (D := G.1) (ci := 2) (v := .ref a3) (C := RX1) (T := TX1) (N := 4) hx hb hts hiX1 hown hK hP 0 rfl rfl 2 (by decide) hw0 (fun _ h9 => h9) rfl dX1_bringBackAll_1 ?_
  refine lv_iconst (v := iI (0)) hx hb dX1_bringBackAll_4 rfl ?_
  refine lv_aload_n hx hb dX1_bringBackAll_5 rfl (lv_at hl 0 rfl) ?_
  refine va_get (D := G.1) (ci := 2) (v := .ref a2) (C := RX1) (T := TX1) (N := 4) hx hb hts hiX1 hown hK hP 0 rfl rfl 1 (by decide) hw1 (fun _ h9 => h9) rfl dX1_bringBackAll_6 ?_
  refine lv_iconst (v := iI (0)) hx hb dX1_bringBackAll_9 rfl ?_
  refine lv_aload_n hx hb dX1_bringBackAll_10 rfl (lv_at hl 0 rfl) ?_
  refine va_get (D := G.1) (ci := 2) (v := .ref a2) (C := RX1) (T := TX1) (N := 4) hx hb hts hiX1 hown hK hP 0 rfl rfl 1 (by decide) hw1 (fun _ h9 => h9) rfl dX1_bringBackAll_11 ?_
  refine z_alen hx hb hK hP 2 1 rfl rfl dX1_bringBackAll_14 ?_
  refine z_top (w := .int (iI 61)) rfl ?_
  refine z_copyl hx hb (hml.trans hl.1.symm) hown hw2 hw3 hw4 hw5 hK hP hD hS 3 2 1 rfl rfl rfl (by omega) ⟨by decide, Nat.le_of_ble_eq_true rfl⟩ dX1_bringBackAll_15 (fun H locs hP hD hS => ?_)
  have hP : va_P G.1 vwCl [(a0, .inr (2, [.ref a1, .ref a2, .ref a3, .int (iI mk)])), (a1, .inl (gI G, 61, .inl (fun j : Nat => iI (sz (j : Int))))), (a2, .inl (gL G, 61, .inr (.inl (fun j : Nat => lI ((cF ke va 0 0 61) (j : Int)))))), (a3, .inl (gL G, 61, .inr (.inl (fun j : Nat => lI (ke (j : Int))))))] H := hP
  have hD : va_D A [(a0, .inr (2, [.ref a1, .ref a2, .ref a3, .int (iI mk)])), (a1, .inl (gI G, 61, .inl (fun j : Nat => iI (sz (j : Int))))), (a2, .inl (gL G, 61, .inr (.inl (fun j : Nat => lI ((cF ke va 0 0 61) (j : Int)))))), (a3, .inl (gL G, 61, .inr (.inl (fun j : Nat => lI (ke (j : Int))))))] := hD
  exact hret _ ls H locs dX1_bringBackAll_18 hP hD hS

set_option maxHeartbeats 4000000 in
set_option maxRecDepth 100000 in
theorem c_X3_has (l : Launch) (G : Gx) (zz : Nat) (b0 b1 b2 b3 : Nat) (ki fi se : Int → Int) (nk : Int) (n : Int) (h1 : 0 ≤ nk ∧ nk ≤ 200) (h2 : -2147483648 ≤ n ∧ n < 2147483648) : Ci l yX3_has wsX3_has (rz 0 0) G [.ref b0, .int (iI n)] [(b0, .inr (4, [.ref b1, .ref b2, .ref b3, .int (iI nk)])), (b1, .inl (gI G, 201, .inl (fun j : Nat => iI (ki (j : Int))))), (b2, .inl (gI G, 201, .inl (fun j : Nat => iI (fi (j : Int))))), (b3, .inl (gI G, 201, .inl (fun j : Nat => iI (se (j : Int)))))] zz (if 1 ≤ n ∧ n ≤ nk then 1 else 0) [(b0, .inr (4, [.ref b1, .ref b2, .ref b3, .int (iI nk)])), (b1, .inl (gI G, 201, .inl (fun j : Nat => iI (ki (j : Int))))), (b2, .inl (gI G, 201, .inl (fun j : Nat => iI (fi (j : Int))))), (b3, .inl (gI G, 201, .inl (fun j : Nat => iI (se (j : Int)))))] := by
  refine met_i (cc := cX3_has) (maxL := 2) (ret := (some .boolean)) (by decide) rfl (Nat.le_of_ble_eq_true rfl) rfl (by (repeat (any_goals split)) <;> decide) ⟨rfl, rfl⟩ ?_
  intro p e s m below meth c A Q F C hP hD hS hret ls hl
  obtain ⟨hx, hb, hml, hown, hts⟩ := id F
  obtain ⟨hK, hA, hZ, hT, hN⟩ := id C
  have hl : lv_has ls 2 [(0, .ref b0), (1, .int (iI n))] := hl
  obtain ⟨H, hH⟩ : ∃ H, H = s.heap := ⟨_, rfl⟩
  obtain ⟨locs, hlocs⟩ : ∃ l : List Loc, l = [] := ⟨_, rfl⟩
  have hS : va_S A s.heap H locs := by rw [hH, hlocs]; exact hS
  have hP : va_P G.1 vwCl [(b0, .inr (4, [.ref b1, .ref b2, .ref b3, .int (iI nk)])), (b1, .inl (gI G, 201, .inl (fun j : Nat => iI (ki (j : Int))))), (b2, .inl (gI G, 201, .inl (fun j : Nat => iI (fi (j : Int))))), (b3, .inl (gI G, 201, .inl (fun j : Nat => iI (se (j : Int)))))] H := by rw [hH]; exact hP
  suffices hgo : W p l e (rz 0 0) s m [.ref b0, .int (iI n)].toArray below meth c H locs 0 0 Q (F0 m 0 ls []) by rw [hH, hlocs] at hgo; exact hgo
  have hiX3 : ∀ w ∈ wsX30, w ∈ wsX3_has := by decide +kernel
  have hw0 := hts (Cond.fieldLink RX3 21 "PlainCobol$Nodes" "made" "I") (List.mem_of_getElem? (i := 1) rfl)
  refine lv_iload_n hx hb dX3_has_0 rfl (lv_at hl 1 rfl) ?_
  refine lv_iconst (v := iI (1)) hx hb dX3_has_1 rfl ?_
  refine z_icmp_lt (tgt := 17) hx hb dX3_has_2 (by decide) (by omega) (fun c_1 => ?_) (fun c_1 => ?_)
  · skip
    refine lv_iconst (v := iI (0)) hx hb dX3_has_17 rfl ?_
    have r_2 : (0 : Int) = (if 1 ≤ n ∧ n ≤ nk then 1 else 0) := by first | exact (if_pos (by omega)).symm | exact (if_neg (by omega)).symm
    rw [r_2]
    exact hret _ ls H locs dX3_has_18 hP hD hS
  · skip
    refine lv_iload_n hx hb dX3_has_5 rfl (lv_at hl 1 rfl) ?_
    refine lv_aload_n hx hb dX3_has_6 rfl (lv_at hl 0 rfl) ?_
    refine va_get (D := G.1) (ci := 4) (v := .int (iI nk)) (C := RX3) (T := TX3) (N := 4) hx hb hts hiX3 hown hK hP 0 rfl rfl 3 (by decide) hw0 (fun _ h9 => h9) rfl dX3_has_7 ?_
    refine z_icmp_gt (tgt := 17) hx hb dX3_has_10 (by decide) (by omega) (fun c_3 => ?_) (fun c_3 => ?_)
    · skip
      refine lv_iconst (v := iI (0)) hx hb dX3_has_17 rfl ?_
      have r_4 : (0 : Int) = (if 1 ≤ n ∧ n ≤ nk then 1 else 0) := by first | exact (if_pos (by omega)).symm | exact (if_neg (by omega)).symm
      rw [r_4]
      exact hret _ ls H locs dX3_has_18 hP hD hS
    · skip
      refine lv_iconst (v := iI (1)) hx hb dX3_has_13 rfl ?_
      refine lv_goto (tgt := 18) hx hb dX3_has_14 (by decide) ?_
      have r_5 : (1 : Int) = (if 1 ≤ n ∧ n ≤ nk then 1 else 0) := by first | exact (if_pos (by omega)).symm | exact (if_neg (by omega)).symm
      rw [r_5]
      exact hret _ ls H locs dX3_has_18 hP hD hS

set_option maxHeartbeats 4000000 in
set_option maxRecDepth 100000 in
theorem c_X3_make (l : Launch) (G : Gx) (zz : Nat) (b0 b1 b2 b3 : Nat) (ki fi se : Int → Int) (nk : Int) (kd x y : Int) (h1 : 0 ≤ nk ∧ nk < 200) : Ci l yX3_make wsX3_make (rz 0 0) G [.ref b0, .int (iI kd), .int (iI x), .int (iI y)] [(b0, .inr (4, [.ref b1, .ref b2, .ref b3, .int (iI nk)])), (b1, .inl (gI G, 201, .inl (fun j : Nat => iI (ki (j : Int))))), (b2, .inl (gI G, 201, .inl (fun j : Nat => iI (fi (j : Int))))), (b3, .inl (gI G, 201, .inl (fun j : Nat => iI (se (j : Int)))))] zz (nk + 1) [(b0, .inr (4, [.ref b1, .ref b2, .ref b3, .int (iI (nk + 1))])), (b1, .inl (gI G, 201, .inl (fun j : Nat => iI ((uF ki (nk + 1) kd) (j : Int))))), (b2, .inl (gI G, 201, .inl (fun j : Nat => iI ((uF fi (nk + 1) x) (j : Int))))), (b3, .inl (gI G, 201, .inl (fun j : Nat => iI ((uF se (nk + 1) y) (j : Int)))))] := by
  refine met_i (cc := cX3_make) (maxL := 4) (ret := (some .int)) (by decide) rfl (Nat.le_of_ble_eq_true rfl) rfl rfl ⟨rfl, rfl⟩ ?_
  intro p e s m below meth c A Q F C hP hD hS hret ls hl
  obtain ⟨hx, hb, hml, hown, hts⟩ := id F
  obtain ⟨hK, hA, hZ, hT, hN⟩ := id C
  have hl : lv_has ls 4 [(0, .ref b0), (1, .int (iI kd)), (2, .int (iI x)), (3, .int (iI y))] := hl
  obtain ⟨H, hH⟩ : ∃ H, H = s.heap := ⟨_, rfl⟩
  obtain ⟨locs, hlocs⟩ : ∃ l : List Loc, l = [] := ⟨_, rfl⟩
  have hS : va_S A s.heap H locs := by rw [hH, hlocs]; exact hS
  have hP : va_P G.1 vwCl [(b0, .inr (4, [.ref b1, .ref b2, .ref b3, .int (iI nk)])), (b1, .inl (gI G, 201, .inl (fun j : Nat => iI (ki (j : Int))))), (b2, .inl (gI G, 201, .inl (fun j : Nat => iI (fi (j : Int))))), (b3, .inl (gI G, 201, .inl (fun j : Nat => iI (se (j : Int)))))] H := by rw [hH]; exact hP
  suffices hgo : W p l e (rz 0 0) s m [.ref b0, .int (iI kd), .int (iI x), .int (iI y)].toArray below meth c H locs 0 0 Q (F0 m 0 ls []) by rw [hH, hlocs] at hgo; exact hgo
  have hiX3 : ∀ w ∈ wsX30, w ∈ wsX3_make := by decide +kernel
  have hw0 := hts (Cond.fieldLink RX3 21 "PlainCobol$Nodes" "made" "I") (List.mem_of_getElem? (i := 1) rfl)
  have hw1 := hts (Cond.fieldLink RX3 9 "PlainCobol$Nodes" "kinds" "[I") (List.mem_of_getElem? (i := 2) rfl)
  have hw2 := hts (Cond.fieldLink RX3 15 "PlainCobol$Nodes" "firsts" "[I") (List.mem_of_getElem? (i := 3) rfl)
  have hw3 := hts (Cond.fieldLink RX3 18 "PlainCobol$Nodes" "seconds" "[I") (List.mem_of_getElem? (i := 4) rfl)
  refine lv_aload_n hx hb dX3_make_0 rfl (lv_at hl 0 rfl) ?_
  refine lv_dup hx hb dX3_make_1 rfl ?_
  refine va_get (D := G.1) (ci := 4) (v := .int (iI nk)) (C := RX3) (T := TX3) (N := 4) hx hb hts hiX3 hown hK hP 0 rfl rfl 3 (by decide) hw0 (fun _ h9 => h9) rfl dX3_make_2 ?_
  refine lv_iconst (v := iI (1)) hx hb dX3_make_5 rfl ?_
  refine z_iadd hx hb dX3_make_6 ?_
  refine va_put (D := G.1) (ci := 4) (v := .int (iI (nk + 1))) (ty := .int) (C := RX3) (T := TX3) (N := 4) hx hb hts hiX3 tyX3 tyX3_ok nmX3 hown hK hP hD hS 0 rfl rfl 3 (by decide) hw0 (fun _ h9 => h9) rfl (by decide +kernel) rfl rfl (Nat.le_of_ble_eq_true rfl) dX3_make_7 (fun H locs hP hD hS => ?_)
  have hP : va_P G.1 vwCl [(b0, .inr (4, [.ref b1, .ref b2, .ref b3, .int (iI (nk + 1))])), (b1, .inl (gI G, 201, .inl (fun j : Nat => iI (ki (j : Int))))), (b2, .inl (gI G, 201, .inl (fun j : Nat => iI (fi (j : Int))))), (b3, .inl (gI G, 201, .inl (fun j : Nat => iI (se (j : Int)))))] H := hP
  have hD : va_D A [(b0, .inr (4, [.ref b1, .ref b2, .ref b3, .int (iI (nk + 1))])), (b1, .inl (gI G, 201, .inl (fun j : Nat => iI (ki (j : Int))))), (b2, .inl (gI G, 201, .inl (fun j : Nat => iI (fi (j : Int))))), (b3, .inl (gI G, 201, .inl (fun j : Nat => iI (se (j : Int)))))] := hD
  refine lv_aload_n hx hb dX3_make_10 rfl (lv_at hl 0 rfl) ?_
  refine va_get (D := G.1) (ci := 4) (v := .ref b1) (C := RX3) (T := TX3) (N := 4) hx hb hts hiX3 hown hK hP 0 rfl rfl 0 (by decide) hw1 (fun _ h9 => h9) rfl dX3_make_11 ?_
  refine lv_aload_n hx hb dX3_make_14 rfl (lv_at hl 0 rfl) ?_
  refine va_get (D := G.1) (ci := 4) (v := .int (iI (nk + 1))) (C := RX3) (T := TX3) (N := 4) hx hb hts hiX3 hown hK hP 0 rfl rfl 3 (by decide) hw0 (fun _ h9 => h9) rfl dX3_make_15 ?_
  refine lv_iload_n hx hb dX3_make_18 rfl (lv_at hl 1 rfl) ?_
  refine z_iast hx hb hK hP hD hS 1 0 rfl rfl (by omega) dX3_make_19 (fun H locs hP hD hS => ?_)
  have hP : va_P G.1 vwCl [(b0, .inr (4, [.ref b1, .ref b2, .ref b3, .int (iI (nk + 1))])), (b1, .inl (gI G, 201, .inl (fun j : Nat => iI ((uF ki (nk + 1) kd) (j : Int))))), (b2, .inl (gI G, 201, .inl (fun j : Nat => iI (fi (j : Int))))), (b3, .inl (gI G, 201, .inl (fun j : Nat => iI (se (j : Int)))))] H := hP
  have hD : va_D A [(b0, .inr (4, [.ref b1, .ref b2, .ref b3, .int (iI (nk + 1))])), (b1, .inl (gI G, 201, .inl (fun j : Nat => iI ((uF ki (nk + 1) kd) (j : Int))))), (b2, .inl (gI G, 201, .inl (fun j : Nat => iI (fi (j : Int))))), (b3, .inl (gI G, 201, .inl (fun j : Nat => iI (se (j : Int)))))] := hD
  refine lv_aload_n hx hb dX3_make_20 rfl (lv_at hl 0 rfl) ?_
  refine va_get (D := G.1) (ci := 4) (v := .ref b2) (C := RX3) (T := TX3) (N := 4) hx hb hts hiX3 hown hK hP 0 rfl rfl 1 (by decide) hw2 (fun _ h9 => h9) rfl dX3_make_21 ?_
  refine lv_aload_n hx hb dX3_make_24 rfl (lv_at hl 0 rfl) ?_
  refine va_get (D := G.1) (ci := 4) (v := .int (iI (nk + 1))) (C := RX3) (T := TX3) (N := 4) hx hb hts hiX3 hown hK hP 0 rfl rfl 3 (by decide) hw0 (fun _ h9 => h9) rfl dX3_make_25 ?_
  refine lv_iload_n hx hb dX3_make_28 rfl (lv_at hl 2 rfl) ?_
  refine z_iast hx hb hK hP hD hS 2 0 rfl rfl (by omega) dX3_make_29 (fun H locs hP hD hS => ?_)
  have hP : va_P G.1 vwCl [(b0, .inr (4, [.ref b1, .ref b2, .ref b3, .int (iI (nk + 1))])), (b1, .inl (gI G, 201, .inl (fun j : Nat => iI ((uF ki (nk + 1) kd) (j : Int))))), (b2, .inl (gI G, 201, .inl (fun j : Nat => iI ((uF fi (nk + 1) x) (j : Int))))), (b3, .inl (gI G, 201, .inl (fun j : Nat => iI (se (j : Int)))))] H := hP
  have hD : va_D A [(b0, .inr (4, [.ref b1, .ref b2, .ref b3, .int (iI (nk + 1))])), (b1, .inl (gI G, 201, .inl (fun j : Nat => iI ((uF ki (nk + 1) kd) (j : Int))))), (b2, .inl (gI G, 201, .inl (fun j : Nat => iI ((uF fi (nk + 1) x) (j : Int))))), (b3, .inl (gI G, 201, .inl (fun j : Nat => iI (se (j : Int)))))] := hD
  refine lv_aload_n hx hb dX3_make_30 rfl (lv_at hl 0 rfl) ?_
  refine va_get (D := G.1) (ci := 4) (v := .ref b3) (C := RX3) (T := TX3) (N := 4) hx hb hts hiX3 hown hK hP 0 rfl rfl 2 (by decide) hw3 (fun _ h9 => h9) rfl dX3_make_31 ?_
  refine lv_aload_n hx hb dX3_make_34 rfl (lv_at hl 0 rfl) ?_
  refine va_get (D := G.1) (ci := 4) (v := .int (iI (nk + 1))) (C := RX3) (T := TX3) (N := 4) hx hb hts hiX3 hown hK hP 0 rfl rfl 3 (by decide) hw0 (fun _ h9 => h9) rfl dX3_make_35 ?_
  refine lv_iload_n hx hb dX3_make_38 rfl (lv_at hl 3 rfl) ?_
  refine z_iast hx hb hK hP hD hS 3 0 rfl rfl (by omega) dX3_make_39 (fun H locs hP hD hS => ?_)
  have hP : va_P G.1 vwCl [(b0, .inr (4, [.ref b1, .ref b2, .ref b3, .int (iI (nk + 1))])), (b1, .inl (gI G, 201, .inl (fun j : Nat => iI ((uF ki (nk + 1) kd) (j : Int))))), (b2, .inl (gI G, 201, .inl (fun j : Nat => iI ((uF fi (nk + 1) x) (j : Int))))), (b3, .inl (gI G, 201, .inl (fun j : Nat => iI ((uF se (nk + 1) y) (j : Int)))))] H := hP
  have hD : va_D A [(b0, .inr (4, [.ref b1, .ref b2, .ref b3, .int (iI (nk + 1))])), (b1, .inl (gI G, 201, .inl (fun j : Nat => iI ((uF ki (nk + 1) kd) (j : Int))))), (b2, .inl (gI G, 201, .inl (fun j : Nat => iI ((uF fi (nk + 1) x) (j : Int))))), (b3, .inl (gI G, 201, .inl (fun j : Nat => iI ((uF se (nk + 1) y) (j : Int)))))] := hD
  refine lv_aload_n hx hb dX3_make_40 rfl (lv_at hl 0 rfl) ?_
  refine va_get (D := G.1) (ci := 4) (v := .int (iI (nk + 1))) (C := RX3) (T := TX3) (N := 4) hx hb hts hiX3 hown hK hP 0 rfl rfl 3 (by decide) hw0 (fun _ h9 => h9) rfl dX3_make_41 ?_
  exact hret _ ls H locs dX3_make_44 hP hD hS

set_option maxHeartbeats 4000000 in
set_option maxRecDepth 100000 in
theorem c_X0_hasRoomFor (l : Launch) (G : Gx) (zz : Nat) (u0 u1 u2 cp : Nat) (co ve : Int → Int) (k : Int) (n : Int) (h0 : 0 ≤ k ∧ k ≤ (cp : Int) ∧ (cp : Int) ≤ 1000) (h1 : -2147483648 ≤ n ∧ n < 2147483648) : Ci l yX0_hasRoomFor wsX0_hasRoomFor (rz 0 0) G [.ref u0, .int (iI n)] [(u0, .inr (1, [.ref u1, .ref u2, .int (iI k)])), (u1, .inl (gI G, cp, .inl (fun j : Nat => iI (co (j : Int))))), (u2, .inl (gL G, cp, .inr (.inl (fun j : Nat => lI (ve (j : Int))))))] zz (if n ≤ (cp : Int) - k then 1 else 0) [(u0, .inr (1, [.ref u1, .ref u2, .int (iI k)])), (u1, .inl (gI G, cp, .inl (fun j : Nat => iI (co (j : Int))))), (u2, .inl (gL G, cp, .inr (.inl (fun j : Nat => lI (ve (j : Int))))))] := by
  refine met_i (cc := cX0_hasRoomFor) (maxL := 2) (ret := (some .boolean)) (by decide) rfl (Nat.le_of_ble_eq_true rfl) rfl (by (repeat (any_goals split)) <;> decide) ⟨rfl, rfl⟩ ?_
  intro p e s m below meth c A Q F C hP hD hS hret ls hl
  obtain ⟨hx, hb, hml, hown, hts⟩ := id F
  obtain ⟨hK, hA, hZ, hT, hN⟩ := id C
  have hl : lv_has ls 2 [(0, .ref u0), (1, .int (iI n))] := hl
  obtain ⟨H, hH⟩ : ∃ H, H = s.heap := ⟨_, rfl⟩
  obtain ⟨locs, hlocs⟩ : ∃ l : List Loc, l = [] := ⟨_, rfl⟩
  have hS : va_S A s.heap H locs := by rw [hH, hlocs]; exact hS
  have hP : va_P G.1 vwCl [(u0, .inr (1, [.ref u1, .ref u2, .int (iI k)])), (u1, .inl (gI G, cp, .inl (fun j : Nat => iI (co (j : Int))))), (u2, .inl (gL G, cp, .inr (.inl (fun j : Nat => lI (ve (j : Int))))))] H := by rw [hH]; exact hP
  suffices hgo : W p l e (rz 0 0) s m [.ref u0, .int (iI n)].toArray below meth c H locs 0 0 Q (F0 m 0 ls []) by rw [hH, hlocs] at hgo; exact hgo
  have hiX0 : ∀ w ∈ wsX00, w ∈ wsX0_hasRoomFor := by decide +kernel
  have hw0 := hts (Cond.fieldLink RX0 15 "PlainCobol$Acts" "codes" "[I") (List.mem_of_getElem? (i := 1) rfl)
  have hw1 := hts (Cond.fieldLink RX0 25 "PlainCobol$Acts" "size" "I") (List.mem_of_getElem? (i := 2) rfl)
  refine lv_iload_n hx hb dX0_hasRoomFor_0 rfl (lv_at hl 1 rfl) ?_
  refine lv_aload_n hx hb dX0_hasRoomFor_1 rfl (lv_at hl 0 rfl) ?_
  refine va_get (D := G.1) (ci := 1) (v := .ref u1) (C := RX0) (T := TX0) (N := 3) hx hb hts hiX0 hown hK hP 0 rfl rfl 0 (by decide) hw0 (fun _ h9 => h9) rfl dX0_hasRoomFor_2 ?_
  refine z_alen hx hb hK hP 1 0 rfl rfl dX0_hasRoomFor_5 ?_
  refine z_top (w := .int (iI cp)) rfl ?_
  refine lv_aload_n hx hb dX0_hasRoomFor_6 rfl (lv_at hl 0 rfl) ?_
  refine va_get (D := G.1) (ci := 1) (v := .int (iI k)) (C := RX0) (T := TX0) (N := 3) hx hb hts hiX0 hown hK hP 0 rfl rfl 2 (by decide) hw1 (fun _ h9 => h9) rfl dX0_hasRoomFor_7 ?_
  refine z_isub hx hb dX0_hasRoomFor_10 ?_
  refine z_icmp_gt (tgt := 18) hx hb dX0_hasRoomFor_11 (by decide) (by omega) (fun c_1 => ?_) (fun c_1 => ?_)
  · skip
    refine lv_iconst (v := iI (0)) hx hb dX0_hasRoomFor_18 rfl ?_
    have r_2 : (0 : Int) = (if n ≤ (cp : Int) - k then 1 else 0) := by first | exact (if_pos (by omega)).symm | exact (if_neg (by omega)).symm
    rw [r_2]
    exact hret _ ls H locs dX0_hasRoomFor_19 hP hD hS
  · skip
    refine lv_iconst (v := iI (1)) hx hb dX0_hasRoomFor_14 rfl ?_
    refine lv_goto (tgt := 19) hx hb dX0_hasRoomFor_15 (by decide) ?_
    have r_3 : (1 : Int) = (if n ≤ (cp : Int) - k then 1 else 0) := by first | exact (if_pos (by omega)).symm | exact (if_neg (by omega)).symm
    rw [r_3]
    exact hret _ ls H locs dX0_hasRoomFor_19 hP hD hS

set_option maxHeartbeats 4000000 in
set_option maxRecDepth 100000 in
theorem c_X0_add (l : Launch) (G : Gx) (zz : Nat) (u0 u1 u2 cp : Nat) (co ve : Int → Int) (k : Int) (kd tg v : Int) (h0 : 0 ≤ k ∧ k ≤ (cp : Int) ∧ (cp : Int) ≤ 1000) : Ci l yX0_add wsX0_add (rz 0 0) G [.ref u0, .int (iI kd), .int (iI tg), .long (lI v)] [(u0, .inr (1, [.ref u1, .ref u2, .int (iI k)])), (u1, .inl (gI G, cp, .inl (fun j : Nat => iI (co (j : Int))))), (u2, .inl (gL G, cp, .inr (.inl (fun j : Nat => lI (ve (j : Int))))))] zz (if k < (cp : Int) then 1 else 0) [(u0, .inr (1, [.ref u1, .ref u2, .int (iI (addN cp k))])), (u1, .inl (gI G, cp, .inl (fun j : Nat => iI ((addF cp k co (kd * 4000000 + tg)) (j : Int))))), (u2, .inl (gL G, cp, .inr (.inl (fun j : Nat => lI ((addF cp k ve v) (j : Int))))))] := by
  refine met_i (cc := cX0_add) (maxL := 5) (ret := (some .boolean)) (by decide) rfl (Nat.le_of_ble_eq_true rfl) rfl (by (repeat (any_goals split)) <;> decide) ⟨rfl, rfl⟩ ?_
  intro p e s m below meth c A Q F C hP hD hS hret ls hl
  obtain ⟨hx, hb, hml, hown, hts⟩ := id F
  obtain ⟨hK, hA, hZ, hT, hN⟩ := id C
  have hl : lv_has ls 5 [(0, .ref u0), (1, .int (iI kd)), (2, .int (iI tg)), (3, .long (lI v))] := hl
  obtain ⟨H, hH⟩ : ∃ H, H = s.heap := ⟨_, rfl⟩
  obtain ⟨locs, hlocs⟩ : ∃ l : List Loc, l = [] := ⟨_, rfl⟩
  have hS : va_S A s.heap H locs := by rw [hH, hlocs]; exact hS
  have hP : va_P G.1 vwCl [(u0, .inr (1, [.ref u1, .ref u2, .int (iI k)])), (u1, .inl (gI G, cp, .inl (fun j : Nat => iI (co (j : Int))))), (u2, .inl (gL G, cp, .inr (.inl (fun j : Nat => lI (ve (j : Int))))))] H := by rw [hH]; exact hP
  suffices hgo : W p l e (rz 0 0) s m [.ref u0, .int (iI kd), .int (iI tg), .long (lI v)].toArray below meth c H locs 0 0 Q (F0 m 0 ls []) by rw [hH, hlocs] at hgo; exact hgo
  have hiX0 : ∀ w ∈ wsX00, w ∈ wsX0_add := by decide +kernel
  have hw0 := hts (Cond.fieldLink RX0 25 "PlainCobol$Acts" "size" "I") (List.mem_of_getElem? (i := 1) rfl)
  have hw1 := hts (Cond.fieldLink RX0 15 "PlainCobol$Acts" "codes" "[I") (List.mem_of_getElem? (i := 2) rfl)
  have hw2 := hts (Cond.constant RX0 29 (4000000)) (List.mem_of_getElem? (i := 3) rfl)
  have hw3 := hts (Cond.fieldLink RX0 21 "PlainCobol$Acts" "values" "[J") (List.mem_of_getElem? (i := 4) rfl)
  refine lv_aload_n hx hb dX0_add_0 rfl (lv_at hl 0 rfl) ?_
  refine va_get (D := G.1) (ci := 1) (v := .int (iI k)) (C := RX0) (T := TX0) (N := 3) hx hb hts hiX0 hown hK hP 0 rfl rfl 2 (by decide) hw0 (fun _ h9 => h9) rfl dX0_add_1 ?_
  refine lv_aload_n hx hb dX0_add_4 rfl (lv_at hl 0 rfl) ?_
  refine va_get (D := G.1) (ci := 1) (v := .ref u1) (C := RX0) (T := TX0) (N := 3) hx hb hts hiX0 hown hK hP 0 rfl rfl 0 (by decide) hw1 (fun _ h9 => h9) rfl dX0_add_5 ?_
  refine z_alen hx hb hK hP 1 0 rfl rfl dX0_add_8 ?_
  refine z_top (w := .int (iI cp)) rfl ?_
  refine z_icmp_lt (tgt := 14) hx hb dX0_add_9 (by decide) (by omega) (fun c_1 => ?_) (fun c_1 => ?_)
  · skip
    refine lv_aload_n hx hb dX0_add_14 rfl (lv_at hl 0 rfl) ?_
    refine va_get (D := G.1) (ci := 1) (v := .ref u1) (C := RX0) (T := TX0) (N := 3) hx hb hts hiX0 hown hK hP 0 rfl rfl 0 (by decide) hw1 (fun _ h9 => h9) rfl dX0_add_15 ?_
    refine lv_aload_n hx hb dX0_add_18 rfl (lv_at hl 0 rfl) ?_
    refine va_get (D := G.1) (ci := 1) (v := .int (iI k)) (C := RX0) (T := TX0) (N := 3) hx hb hts hiX0 hown hK hP 0 rfl rfl 2 (by decide) hw0 (fun _ h9 => h9) rfl dX0_add_19 ?_
    refine lv_iload_n hx hb dX0_add_22 rfl (lv_at hl 1 rfl) ?_
    refine lv_ldc hx hb hown hw2 dX0_add_23 ?_
    refine z_top (w := .int (iI (4000000))) rfl ?_
    refine z_imul hx hb dX0_add_25 ?_
    refine lv_iload_n hx hb dX0_add_26 rfl (lv_at hl 2 rfl) ?_
    refine z_iadd hx hb dX0_add_27 ?_
    refine z_iast hx hb hK hP hD hS 1 0 rfl rfl (by omega) dX0_add_28 (fun H locs hP hD hS => ?_)
    have hP : va_P G.1 vwCl [(u0, .inr (1, [.ref u1, .ref u2, .int (iI k)])), (u1, .inl (gI G, cp, .inl (fun j : Nat => iI ((uF co k ((kd * 4000000) + tg)) (j : Int))))), (u2, .inl (gL G, cp, .inr (.inl (fun j : Nat => lI (ve (j : Int))))))] H := hP
    have hD : va_D A [(u0, .inr (1, [.ref u1, .ref u2, .int (iI k)])), (u1, .inl (gI G, cp, .inl (fun j : Nat => iI ((uF co k ((kd * 4000000) + tg)) (j : Int))))), (u2, .inl (gL G, cp, .inr (.inl (fun j : Nat => lI (ve (j : Int))))))] := hD
    refine lv_aload_n hx hb dX0_add_29 rfl (lv_at hl 0 rfl) ?_
    refine va_get (D := G.1) (ci := 1) (v := .ref u2) (C := RX0) (T := TX0) (N := 3) hx hb hts hiX0 hown hK hP 0 rfl rfl 1 (by decide) hw3 (fun _ h9 => h9) rfl dX0_add_30 ?_
    refine lv_aload_n hx hb dX0_add_33 rfl (lv_at hl 0 rfl) ?_
    refine va_get (D := G.1) (ci := 1) (v := .int (iI k)) (C := RX0) (T := TX0) (N := 3) hx hb hts hiX0 hown hK hP 0 rfl rfl 2 (by decide) hw0 (fun _ h9 => h9) rfl dX0_add_34 ?_
    refine lv_lload_n hx hb dX0_add_37 rfl (lv_at hl 3 rfl) ?_
    refine z_last hx hb hK hP hD hS 2 1 rfl rfl (by omega) dX0_add_38 (fun H locs hP hD hS => ?_)
    have hP : va_P G.1 vwCl [(u0, .inr (1, [.ref u1, .ref u2, .int (iI k)])), (u1, .inl (gI G, cp, .inl (fun j : Nat => iI ((uF co k ((kd * 4000000) + tg)) (j : Int))))), (u2, .inl (gL G, cp, .inr (.inl (fun j : Nat => lI ((uF ve k v) (j : Int))))))] H := hP
    have hD : va_D A [(u0, .inr (1, [.ref u1, .ref u2, .int (iI k)])), (u1, .inl (gI G, cp, .inl (fun j : Nat => iI ((uF co k ((kd * 4000000) + tg)) (j : Int))))), (u2, .inl (gL G, cp, .inr (.inl (fun j : Nat => lI ((uF ve k v) (j : Int))))))] := hD
    refine lv_aload_n hx hb dX0_add_39 rfl (lv_at hl 0 rfl) ?_
    refine lv_dup hx hb dX0_add_40 rfl ?_
    refine va_get (D := G.1) (ci := 1) (v := .int (iI k)) (C := RX0) (T := TX0) (N := 3) hx hb hts hiX0 hown hK hP 0 rfl rfl 2 (by decide) hw0 (fun _ h9 => h9) rfl dX0_add_41 ?_
    refine lv_iconst (v := iI (1)) hx hb dX0_add_44 rfl ?_
    refine z_iadd hx hb dX0_add_45 ?_
    refine va_put (D := G.1) (ci := 1) (v := .int (iI (k + 1))) (ty := .int) (C := RX0) (T := TX0) (N := 3) hx hb hts hiX0 tyX0 tyX0_ok nmX0 hown hK hP hD hS 0 rfl rfl 2 (by decide) hw0 (fun _ h9 => h9) rfl (by decide +kernel) rfl rfl (Nat.le_of_ble_eq_true rfl) dX0_add_46 (fun H locs hP hD hS => ?_)
    have hP : va_P G.1 vwCl [(u0, .inr (1, [.ref u1, .ref u2, .int (iI (k + 1))])), (u1, .inl (gI G, cp, .inl (fun j : Nat => iI ((uF co k ((kd * 4000000) + tg)) (j : Int))))), (u2, .inl (gL G, cp, .inr (.inl (fun j : Nat => lI ((uF ve k v) (j : Int))))))] H := hP
    have hD : va_D A [(u0, .inr (1, [.ref u1, .ref u2, .int (iI (k + 1))])), (u1, .inl (gI G, cp, .inl (fun j : Nat => iI ((uF co k ((kd * 4000000) + tg)) (j : Int))))), (u2, .inl (gL G, cp, .inr (.inl (fun j : Nat => lI ((uF ve k v) (j : Int))))))] := hD
    refine lv_iconst (v := iI (1)) hx hb dX0_add_49 rfl ?_
    have e_2 : ((k + 1) : Int) = (addN cp k) := by ((try simp only [addF, addN]); first | exact (if_pos (by omega)).symm | exact (if_neg (by omega)).symm)
    have e_3 : ((uF co k ((kd * 4000000) + tg)) : Int → Int) = (addF cp k co (kd * 4000000 + tg)) := by ((try simp only [addF, addN]); first | exact (if_pos (by omega)).symm | exact (if_neg (by omega)).symm)
    have e_4 : ((uF ve k v) : Int → Int) = (addF cp k ve v) := by ((try simp only [addF, addN]); first | exact (if_pos (by omega)).symm | exact (if_neg (by omega)).symm)
    have hP : va_P G.1 vwCl [(u0, .inr (1, [.ref u1, .ref u2, .int (iI (addN cp k))])), (u1, .inl (gI G, cp, .inl (fun j : Nat => iI ((addF cp k co (kd * 4000000 + tg)) (j : Int))))), (u2, .inl (gL G, cp, .inr (.inl (fun j : Nat => lI ((addF cp k ve v) (j : Int))))))] H := by rw [← e_2, ← e_3, ← e_4]; exact hP
    have hD : va_D A [(u0, .inr (1, [.ref u1, .ref u2, .int (iI (addN cp k))])), (u1, .inl (gI G, cp, .inl (fun j : Nat => iI ((addF cp k co (kd * 4000000 + tg)) (j : Int))))), (u2, .inl (gL G, cp, .inr (.inl (fun j : Nat => lI ((addF cp k ve v) (j : Int))))))] := by rw [← e_2, ← e_3, ← e_4]; exact hD
    have r_5 : (1 : Int) = (if k < (cp : Int) then 1 else 0) := by ((try simp only [addF, addN]); first | exact (if_pos (by omega)).symm | exact (if_neg (by omega)).symm)
    rw [r_5]
    exact hret _ ls H locs dX0_add_50 hP hD hS
  · skip
    refine lv_iconst (v := iI (0)) hx hb dX0_add_12 rfl ?_
    have e_6 : (k : Int) = (addN cp k) := by ((try simp only [addF, addN]); first | exact (if_pos (by omega)).symm | exact (if_neg (by omega)).symm)
    have e_7 : (co : Int → Int) = (addF cp k co (kd * 4000000 + tg)) := by ((try simp only [addF, addN]); first | exact (if_pos (by omega)).symm | exact (if_neg (by omega)).symm)
    have e_8 : (ve : Int → Int) = (addF cp k ve v) := by ((try simp only [addF, addN]); first | exact (if_pos (by omega)).symm | exact (if_neg (by omega)).symm)
    have hP : va_P G.1 vwCl [(u0, .inr (1, [.ref u1, .ref u2, .int (iI (addN cp k))])), (u1, .inl (gI G, cp, .inl (fun j : Nat => iI ((addF cp k co (kd * 4000000 + tg)) (j : Int))))), (u2, .inl (gL G, cp, .inr (.inl (fun j : Nat => lI ((addF cp k ve v) (j : Int))))))] H := by rw [← e_6, ← e_7, ← e_8]; exact hP
    have hD : va_D A [(u0, .inr (1, [.ref u1, .ref u2, .int (iI (addN cp k))])), (u1, .inl (gI G, cp, .inl (fun j : Nat => iI ((addF cp k co (kd * 4000000 + tg)) (j : Int))))), (u2, .inl (gL G, cp, .inr (.inl (fun j : Nat => lI ((addF cp k ve v) (j : Int))))))] := by rw [← e_6, ← e_7, ← e_8]; exact hD
    have r_9 : (0 : Int) = (if k < (cp : Int) then 1 else 0) := by ((try simp only [addF, addN]); first | exact (if_pos (by omega)).symm | exact (if_neg (by omega)).symm)
    rw [r_9]
    exact hret _ ls H locs dX0_add_13 hP hD hS

set_option maxHeartbeats 4000000 in
set_option maxRecDepth 100000 in
theorem c_X0_kindOf (l : Launch) (G : Gx) (zz : Nat) (u0 u1 u2 cp : Nat) (co ve : Int → Int) (k : Int) (i : Int) (h0 : 0 ≤ k ∧ k ≤ (cp : Int) ∧ (cp : Int) ≤ 1000) (h1 : 0 ≤ i ∧ i < (cp : Int)) (h2 : -2147483648 < co i ∧ co i < 2147483648) : Ci l yX0_kindOf wsX0_kindOf (rz 0 0) G [.ref u0, .int (iI i)] [(u0, .inr (1, [.ref u1, .ref u2, .int (iI k)])), (u1, .inl (gI G, cp, .inl (fun j : Nat => iI (co (j : Int))))), (u2, .inl (gL G, cp, .inr (.inl (fun j : Nat => lI (ve (j : Int))))))] zz (Int.tdiv (co i) 4000000) [(u0, .inr (1, [.ref u1, .ref u2, .int (iI k)])), (u1, .inl (gI G, cp, .inl (fun j : Nat => iI (co (j : Int))))), (u2, .inl (gL G, cp, .inr (.inl (fun j : Nat => lI (ve (j : Int))))))] := by
  refine met_i (cc := cX0_kindOf) (maxL := 2) (ret := (some .int)) (by decide) rfl (Nat.le_of_ble_eq_true rfl) rfl rfl ⟨rfl, rfl⟩ ?_
  intro p e s m below meth c A Q F C hP hD hS hret ls hl
  obtain ⟨hx, hb, hml, hown, hts⟩ := id F
  obtain ⟨hK, hA, hZ, hT, hN⟩ := id C
  have hl : lv_has ls 2 [(0, .ref u0), (1, .int (iI i))] := hl
  obtain ⟨H, hH⟩ : ∃ H, H = s.heap := ⟨_, rfl⟩
  obtain ⟨locs, hlocs⟩ : ∃ l : List Loc, l = [] := ⟨_, rfl⟩
  have hS : va_S A s.heap H locs := by rw [hH, hlocs]; exact hS
  have hP : va_P G.1 vwCl [(u0, .inr (1, [.ref u1, .ref u2, .int (iI k)])), (u1, .inl (gI G, cp, .inl (fun j : Nat => iI (co (j : Int))))), (u2, .inl (gL G, cp, .inr (.inl (fun j : Nat => lI (ve (j : Int))))))] H := by rw [hH]; exact hP
  suffices hgo : W p l e (rz 0 0) s m [.ref u0, .int (iI i)].toArray below meth c H locs 0 0 Q (F0 m 0 ls []) by rw [hH, hlocs] at hgo; exact hgo
  have hiX0 : ∀ w ∈ wsX00, w ∈ wsX0_kindOf := by decide +kernel
  have hw0 := hts (Cond.fieldLink RX0 15 "PlainCobol$Acts" "codes" "[I") (List.mem_of_getElem? (i := 1) rfl)
  have hw1 := hts (Cond.constant RX0 29 (4000000)) (List.mem_of_getElem? (i := 2) rfl)
  refine lv_aload_n hx hb dX0_kindOf_0 rfl (lv_at hl 0 rfl) ?_
  refine va_get (D := G.1) (ci := 1) (v := .ref u1) (C := RX0) (T := TX0) (N := 3) hx hb hts hiX0 hown hK hP 0 rfl rfl 0 (by decide) hw0 (fun _ h9 => h9) rfl dX0_kindOf_1 ?_
  refine lv_iload_n hx hb dX0_kindOf_4 rfl (lv_at hl 1 rfl) ?_
  refine z_iald hx hb hK hP 1 0 rfl rfl (by omega) dX0_kindOf_5 ?_
  refine lv_ldc hx hb hown hw1 dX0_kindOf_6 ?_
  refine z_top (w := .int (iI (4000000))) rfl ?_
  refine z_idiv hx hb dX0_kindOf_8 (by omega) ?_
  exact hret _ ls H locs dX0_kindOf_9 hP hD hS

set_option maxHeartbeats 4000000 in
set_option maxRecDepth 100000 in
theorem c_X0_targetOf (l : Launch) (G : Gx) (zz : Nat) (u0 u1 u2 cp : Nat) (co ve : Int → Int) (k : Int) (i : Int) (h0 : 0 ≤ k ∧ k ≤ (cp : Int) ∧ (cp : Int) ≤ 1000) (h1 : 0 ≤ i ∧ i < (cp : Int)) (h2 : -2147483648 < co i ∧ co i < 2147483648) : Ci l yX0_targetOf wsX0_targetOf (rz 0 0) G [.ref u0, .int (iI i)] [(u0, .inr (1, [.ref u1, .ref u2, .int (iI k)])), (u1, .inl (gI G, cp, .inl (fun j : Nat => iI (co (j : Int))))), (u2, .inl (gL G, cp, .inr (.inl (fun j : Nat => lI (ve (j : Int))))))] zz (Int.tmod (co i) 4000000) [(u0, .inr (1, [.ref u1, .ref u2, .int (iI k)])), (u1, .inl (gI G, cp, .inl (fun j : Nat => iI (co (j : Int))))), (u2, .inl (gL G, cp, .inr (.inl (fun j : Nat => lI (ve (j : Int))))))] := by
  refine met_i (cc := cX0_targetOf) (maxL := 2) (ret := (some .int)) (by decide) rfl (Nat.le_of_ble_eq_true rfl) rfl rfl ⟨rfl, rfl⟩ ?_
  intro p e s m below meth c A Q F C hP hD hS hret ls hl
  obtain ⟨hx, hb, hml, hown, hts⟩ := id F
  obtain ⟨hK, hA, hZ, hT, hN⟩ := id C
  have hl : lv_has ls 2 [(0, .ref u0), (1, .int (iI i))] := hl
  obtain ⟨H, hH⟩ : ∃ H, H = s.heap := ⟨_, rfl⟩
  obtain ⟨locs, hlocs⟩ : ∃ l : List Loc, l = [] := ⟨_, rfl⟩
  have hS : va_S A s.heap H locs := by rw [hH, hlocs]; exact hS
  have hP : va_P G.1 vwCl [(u0, .inr (1, [.ref u1, .ref u2, .int (iI k)])), (u1, .inl (gI G, cp, .inl (fun j : Nat => iI (co (j : Int))))), (u2, .inl (gL G, cp, .inr (.inl (fun j : Nat => lI (ve (j : Int))))))] H := by rw [hH]; exact hP
  suffices hgo : W p l e (rz 0 0) s m [.ref u0, .int (iI i)].toArray below meth c H locs 0 0 Q (F0 m 0 ls []) by rw [hH, hlocs] at hgo; exact hgo
  have hiX0 : ∀ w ∈ wsX00, w ∈ wsX0_targetOf := by decide +kernel
  have hw0 := hts (Cond.fieldLink RX0 15 "PlainCobol$Acts" "codes" "[I") (List.mem_of_getElem? (i := 1) rfl)
  have hw1 := hts (Cond.constant RX0 29 (4000000)) (List.mem_of_getElem? (i := 2) rfl)
  refine lv_aload_n hx hb dX0_targetOf_0 rfl (lv_at hl 0 rfl) ?_
  refine va_get (D := G.1) (ci := 1) (v := .ref u1) (C := RX0) (T := TX0) (N := 3) hx hb hts hiX0 hown hK hP 0 rfl rfl 0 (by decide) hw0 (fun _ h9 => h9) rfl dX0_targetOf_1 ?_
  refine lv_iload_n hx hb dX0_targetOf_4 rfl (lv_at hl 1 rfl) ?_
  refine z_iald hx hb hK hP 1 0 rfl rfl (by omega) dX0_targetOf_5 ?_
  refine lv_ldc hx hb hown hw1 dX0_targetOf_6 ?_
  refine z_top (w := .int (iI (4000000))) rfl ?_
  refine z_irem hx hb dX0_targetOf_8 (by omega) ?_
  exact hret _ ls H locs dX0_targetOf_9 hP hD hS

