def beO (sz : Int → Int) (n v : Int) : Int := if pw (sz n) - 1 < ((Int.natAbs v : Nat) : Int) then 2 else 1
def beV (sz va : Int → Int) (n v : Int) : Int → Int := if pw (sz n) - 1 < ((Int.natAbs v : Nat) : Int) then va else uF va n v
def muO (sz va : Int → Int) (x y : Int) : Int := if va x ≠ 0 ∧ Int.tdiv (pw (sz y) - 1) ((Int.natAbs (va x) : Nat) : Int) < ((Int.natAbs (va y) : Nat) : Int) then 2 else beO sz y (va y * va x)
def muV (sz va : Int → Int) (x y : Int) : Int → Int := if va x ≠ 0 ∧ Int.tdiv (pw (sz y) - 1) ((Int.natAbs (va x) : Nat) : Int) < ((Int.natAbs (va y) : Nat) : Int) then va else beV sz va y (va y * va x)
def diO (sz va : Int → Int) (x y : Int) : Int := if va x = 0 then 2 else beO sz y (Int.tdiv (va y) (va x))
def diV (sz va : Int → Int) (x y : Int) : Int → Int := if va x = 0 then va else beV sz va y (Int.tdiv (va y) (va x))
theorem mul_rng {m a b : Int} (h : a = 0 ∨ (a ≠ 0 ∧ 0 ≤ m ∧ ((Int.natAbs b : Nat) : Int) ≤ Int.tdiv m ((Int.natAbs a : Nat) : Int))) : b * a = 0 ∨ ((Int.natAbs (b * a) : Nat) : Int) ≤ m := by
  rcases h with h | ⟨h0, hm, h⟩
  · left; rw [h]; exact Int.mul_zero b
  · right
    have ha : (0 : Int) < ((Int.natAbs a : Nat) : Int) := by omega
    rw [Int.tdiv_eq_ediv_of_nonneg hm] at h
    have h2 := Int.mul_le_of_le_ediv ha h
    rw [Int.natAbs_mul]
    exact_mod_cast h2
set_option maxHeartbeats 4000000 in
set_option maxRecDepth 100000 in
theorem c_X9_later (l : Launch) (G : Gx) (zz : Nat) (w0 w1 a0 b0 u0 : Nat) (wt : Int → Int) (lim ht st : Int) (x : Int) (h1 : 0 ≤ ht ∧ ht < 201) : Cv l yX9_later wsX9_later (rz 0 0) G [.ref w0, .int (iI x)] [(w0, .inr (10, [.ref a0, .ref b0, .ref u0, .int (iI lim), .ref w1, .int (iI ht), .int (iI st)])), (w1, .inl (gI G, 201, .inl (fun j : Nat => iI (wt (j : Int)))))] zz [(w0, .inr (10, [.ref a0, .ref b0, .ref u0, .int (iI lim), .ref w1, .int (iI (ht + 1)), .int (iI st)])), (w1, .inl (gI G, 201, .inl (fun j : Nat => iI ((uF wt ht x) (j : Int)))))] := by
  refine met_v (cc := cX9_later) (maxL := 2) (by decide) rfl (Nat.le_of_ble_eq_true rfl) ⟨rfl, rfl⟩ ?_
  intro p e s m below meth c A Q F C hP hD hS hret ls hl
  obtain ⟨hx, hb, hml, hown, hts⟩ := id F
  obtain ⟨hK, hA, hZ, hT, hN⟩ := id C
  have hl : lv_has ls 2 [(0, .ref w0), (1, .int (iI x))] := hl
  obtain ⟨H, hH⟩ : ∃ H, H = s.heap := ⟨_, rfl⟩
  obtain ⟨locs, hlocs⟩ : ∃ l : List Loc, l = [] := ⟨_, rfl⟩
  have hS : va_S A s.heap H locs := by rw [hH, hlocs]; exact hS
  have hP : va_P G.1 vwCl [(w0, .inr (10, [.ref a0, .ref b0, .ref u0, .int (iI lim), .ref w1, .int (iI ht), .int (iI st)])), (w1, .inl (gI G, 201, .inl (fun j : Nat => iI (wt (j : Int)))))] H := by rw [hH]; exact hP
  suffices hgo : W p l e (rz 0 0) s m [.ref w0, .int (iI x)].toArray below meth c H locs 0 0 Q (F0 m 0 ls []) by rw [hH, hlocs] at hgo; exact hgo
  have hiX9 : ∀ w ∈ wsX90, w ∈ wsX9_later := by decide +kernel
  have hw0 := hts (Cond.fieldLink RX9 45 "PlainCobol$Walker" "height" "I") (List.mem_of_getElem? (i := 1) rfl)
  have hw1 := hts (Cond.fieldLink RX9 34 "PlainCobol$Walker" "waiting" "[I") (List.mem_of_getElem? (i := 2) rfl)
  refine lv_aload_n hx hb dX9_later_0 rfl (lv_at hl 0 rfl) ?_
  refine va_get (D := G.1) (ci := 10) (v := .int (iI ht)) (C := RX9) (T := TX9) (N := 7) hx hb hts hiX9 hown hK hP 0 rfl rfl 5 (by decide) hw0 (fun _ h9 => h9) rfl dX9_later_1 ?_
  refine lv_aload_n hx hb dX9_later_4 rfl (lv_at hl 0 rfl) ?_
  refine va_get (D := G.1) (ci := 10) (v := .ref w1) (C := RX9) (T := TX9) (N := 7) hx hb hts hiX9 hown hK hP 0 rfl rfl 4 (by decide) hw1 (fun _ h9 => h9) rfl dX9_later_5 ?_
  refine z_alen hx hb hK hP 1 0 rfl rfl dX9_later_8 ?_
  refine z_top (w := .int (iI 201)) rfl ?_
  refine z_icmp_ge (tgt := 32) hx hb dX9_later_9 (by decide) (by omega) (fun c_1 => ?_) (fun c_1 => ?_)
  · skip
    exfalso; omega
  · skip
    refine lv_aload_n hx hb dX9_later_12 rfl (lv_at hl 0 rfl) ?_
    refine va_get (D := G.1) (ci := 10) (v := .ref w1) (C := RX9) (T := TX9) (N := 7) hx hb hts hiX9 hown hK hP 0 rfl rfl 4 (by decide) hw1 (fun _ h9 => h9) rfl dX9_later_13 ?_
    refine lv_aload_n hx hb dX9_later_16 rfl (lv_at hl 0 rfl) ?_
    refine va_get (D := G.1) (ci := 10) (v := .int (iI ht)) (C := RX9) (T := TX9) (N := 7) hx hb hts hiX9 hown hK hP 0 rfl rfl 5 (by decide) hw0 (fun _ h9 => h9) rfl dX9_later_17 ?_
    refine lv_iload_n hx hb dX9_later_20 rfl (lv_at hl 1 rfl) ?_
    refine z_iast hx hb hK hP hD hS 1 0 rfl rfl (by omega) dX9_later_21 (fun H locs hP hD hS => ?_)
    have hP : va_P G.1 vwCl [(w0, .inr (10, [.ref a0, .ref b0, .ref u0, .int (iI lim), .ref w1, .int (iI ht), .int (iI st)])), (w1, .inl (gI G, 201, .inl (fun j : Nat => iI ((uF wt ht x) (j : Int)))))] H := hP
    have hD : va_D A [(w0, .inr (10, [.ref a0, .ref b0, .ref u0, .int (iI lim), .ref w1, .int (iI ht), .int (iI st)])), (w1, .inl (gI G, 201, .inl (fun j : Nat => iI ((uF wt ht x) (j : Int)))))] := hD
    refine lv_aload_n hx hb dX9_later_22 rfl (lv_at hl 0 rfl) ?_
    refine lv_dup hx hb dX9_later_23 rfl ?_
    refine va_get (D := G.1) (ci := 10) (v := .int (iI ht)) (C := RX9) (T := TX9) (N := 7) hx hb hts hiX9 hown hK hP 0 rfl rfl 5 (by decide) hw0 (fun _ h9 => h9) rfl dX9_later_24 ?_
    refine lv_iconst (v := iI (1)) hx hb dX9_later_27 rfl ?_
    refine z_iadd hx hb dX9_later_28 ?_
    refine va_put (D := G.1) (ci := 10) (v := .int (iI (ht + 1))) (ty := .int) (C := RX9) (T := TX9) (N := 7) hx hb hts hiX9 tyX9 tyX9_ok nmX9 hown hK hP hD hS 0 rfl rfl 5 (by decide) hw0 (fun _ h9 => h9) rfl (by decide +kernel) rfl rfl (Nat.le_of_ble_eq_true rfl) dX9_later_29 (fun H locs hP hD hS => ?_)
    have hP : va_P G.1 vwCl [(w0, .inr (10, [.ref a0, .ref b0, .ref u0, .int (iI lim), .ref w1, .int (iI (ht + 1)), .int (iI st)])), (w1, .inl (gI G, 201, .inl (fun j : Nat => iI ((uF wt ht x) (j : Int)))))] H := hP
    have hD : va_D A [(w0, .inr (10, [.ref a0, .ref b0, .ref u0, .int (iI lim), .ref w1, .int (iI (ht + 1)), .int (iI st)])), (w1, .inl (gI G, 201, .inl (fun j : Nat => iI ((uF wt ht x) (j : Int)))))] := hD
    exact hret _ ls H locs dX9_later_32 hP hD hS

set_option maxHeartbeats 4000000 in
set_option maxRecDepth 100000 in
theorem c_X9_takeStep (l : Launch) (G : Gx) (zz : Nat) (w0 w1 a0 b0 u0 : Nat) (lim ht st : Int) (hls : 0 ≤ st ∧ st ≤ lim ∧ lim ≤ 5000) : Ci l yX9_takeStep wsX9_takeStep (rz 0 0) G [.ref w0] [(w0, .inr (10, [.ref a0, .ref b0, .ref u0, .int (iI lim), .ref w1, .int (iI ht), .int (iI st)]))] zz (if st < lim then 1 else 0) [(w0, .inr (10, [.ref a0, .ref b0, .ref u0, .int (iI lim), .ref w1, .int (iI ht), .int (iI (addN lim st))]))] := by
  refine met_i (cc := cX9_takeStep) (maxL := 1) (ret := (some .boolean)) (by decide) rfl (Nat.le_of_ble_eq_true rfl) rfl (by (repeat (any_goals split)) <;> decide) ⟨rfl, rfl⟩ ?_
  intro p e s m below meth c A Q F C hP hD hS hret ls hl
  obtain ⟨hx, hb, hml, hown, hts⟩ := id F
  obtain ⟨hK, hA, hZ, hT, hN⟩ := id C
  have hl : lv_has ls 1 [(0, .ref w0)] := hl
  obtain ⟨H, hH⟩ : ∃ H, H = s.heap := ⟨_, rfl⟩
  obtain ⟨locs, hlocs⟩ : ∃ l : List Loc, l = [] := ⟨_, rfl⟩
  have hS : va_S A s.heap H locs := by rw [hH, hlocs]; exact hS
  have hP : va_P G.1 vwCl [(w0, .inr (10, [.ref a0, .ref b0, .ref u0, .int (iI lim), .ref w1, .int (iI ht), .int (iI st)]))] H := by rw [hH]; exact hP
  suffices hgo : W p l e (rz 0 0) s m [.ref w0].toArray below meth c H locs 0 0 Q (F0 m 0 ls []) by rw [hH, hlocs] at hgo; exact hgo
  have hiX9 : ∀ w ∈ wsX90, w ∈ wsX9_takeStep := by decide +kernel
  have hw0 := hts (Cond.fieldLink RX9 42 "PlainCobol$Walker" "steps" "I") (List.mem_of_getElem? (i := 1) rfl)
  have hw1 := hts (Cond.fieldLink RX9 38 "PlainCobol$Walker" "limit" "I") (List.mem_of_getElem? (i := 2) rfl)
  refine lv_aload_n hx hb dX9_takeStep_0 rfl (lv_at hl 0 rfl) ?_
  refine va_get (D := G.1) (ci := 10) (v := .int (iI st)) (C := RX9) (T := TX9) (N := 7) hx hb hts hiX9 hown hK hP 0 rfl rfl 6 (by decide) hw0 (fun _ h9 => h9) rfl dX9_takeStep_1 ?_
  refine lv_aload_n hx hb dX9_takeStep_4 rfl (lv_at hl 0 rfl) ?_
  refine va_get (D := G.1) (ci := 10) (v := .int (iI lim)) (C := RX9) (T := TX9) (N := 7) hx hb hts hiX9 hown hK hP 0 rfl rfl 3 (by decide) hw1 (fun _ h9 => h9) rfl dX9_takeStep_5 ?_
  refine z_icmp_lt (tgt := 13) hx hb dX9_takeStep_8 (by decide) (by omega) (fun c_1 => ?_) (fun c_1 => ?_)
  · skip
    refine lv_aload_n hx hb dX9_takeStep_13 rfl (lv_at hl 0 rfl) ?_
    refine lv_dup hx hb dX9_takeStep_14 rfl ?_
    refine va_get (D := G.1) (ci := 10) (v := .int (iI st)) (C := RX9) (T := TX9) (N := 7) hx hb hts hiX9 hown hK hP 0 rfl rfl 6 (by decide) hw0 (fun _ h9 => h9) rfl dX9_takeStep_15 ?_
    refine lv_iconst (v := iI (1)) hx hb dX9_takeStep_18 rfl ?_
    refine z_iadd hx hb dX9_takeStep_19 ?_
    refine va_put (D := G.1) (ci := 10) (v := .int (iI (st + 1))) (ty := .int) (C := RX9) (T := TX9) (N := 7) hx hb hts hiX9 tyX9 tyX9_ok nmX9 hown hK hP hD hS 0 rfl rfl 6 (by decide) hw0 (fun _ h9 => h9) rfl (by decide +kernel) rfl rfl (Nat.le_of_ble_eq_true rfl) dX9_takeStep_20 (fun H locs hP hD hS => ?_)
    have hP : va_P G.1 vwCl [(w0, .inr (10, [.ref a0, .ref b0, .ref u0, .int (iI lim), .ref w1, .int (iI ht), .int (iI (st + 1))]))] H := hP
    have hD : va_D A [(w0, .inr (10, [.ref a0, .ref b0, .ref u0, .int (iI lim), .ref w1, .int (iI ht), .int (iI (st + 1))]))] := hD
    refine lv_iconst (v := iI (1)) hx hb dX9_takeStep_23 rfl ?_
    have e_2 : ((st + 1) : Int) = (addN lim st) := by ((try simp only [addN]); first | exact (if_pos (by omega)).symm | exact (if_neg (by omega)).symm)
    have hP : va_P G.1 vwCl [(w0, .inr (10, [.ref a0, .ref b0, .ref u0, .int (iI lim), .ref w1, .int (iI ht), .int (iI (addN lim st))]))] H := by rw [← e_2]; exact hP
    have hD : va_D A [(w0, .inr (10, [.ref a0, .ref b0, .ref u0, .int (iI lim), .ref w1, .int (iI ht), .int (iI (addN lim st))]))] := by rw [← e_2]; exact hD
    have r_3 : (1 : Int) = (if st < lim then 1 else 0) := by ((try simp only [addN]); first | exact (if_pos (by omega)).symm | exact (if_neg (by omega)).symm)
    rw [r_3]
    exact hret _ ls H locs dX9_takeStep_24 hP hD hS
  · skip
    refine lv_iconst (v := iI (0)) hx hb dX9_takeStep_11 rfl ?_
    have e_4 : (st : Int) = (addN lim st) := by ((try simp only [addN]); first | exact (if_pos (by omega)).symm | exact (if_neg (by omega)).symm)
    have hP : va_P G.1 vwCl [(w0, .inr (10, [.ref a0, .ref b0, .ref u0, .int (iI lim), .ref w1, .int (iI ht), .int (iI (addN lim st))]))] H := by rw [← e_4]; exact hP
    have hD : va_D A [(w0, .inr (10, [.ref a0, .ref b0, .ref u0, .int (iI lim), .ref w1, .int (iI ht), .int (iI (addN lim st))]))] := by rw [← e_4]; exact hD
    have r_5 : (0 : Int) = (if st < lim then 1 else 0) := by ((try simp only [addN]); first | exact (if_pos (by omega)).symm | exact (if_neg (by omega)).symm)
    rw [r_5]
    exact hret _ ls H locs dX9_takeStep_12 hP hD hS

set_option maxHeartbeats 4000000 in
set_option maxRecDepth 100000 in
theorem c_X9_beginIf (l : Launch) (G : Gx) (zz : Nat) (w0 w1 a0 b0 u0 : Nat) (wt : Int → Int) (lim ht st : Int) (z n : Int) (h1 : 0 ≤ ht ∧ ht < 201) (h2 : z = 0 ∨ z = 1) : Ci l yX9_beginIf wsX9_beginIf (rz 1 21) G [.ref w0, .int (iI z), .int (iI n)] [(w0, .inr (10, [.ref a0, .ref b0, .ref u0, .int (iI lim), .ref w1, .int (iI ht), .int (iI st)])), (w1, .inl (gI G, 201, .inl (fun j : Nat => iI (wt (j : Int)))))] zz 1 [(w0, .inr (10, [.ref a0, .ref b0, .ref u0, .int (iI lim), .ref w1, .int (iI (if z = 0 then ht else ht + 1)), .int (iI st)])), (w1, .inl (gI G, 201, .inl (fun j : Nat => iI ((if z = 0 then wt else uF wt ht n) (j : Int)))))] := by
  refine met_i (cc := cX9_beginIf) (maxL := 3) (ret := (some .int)) (by decide) rfl (Nat.le_of_ble_eq_true rfl) rfl rfl ⟨rfl, rfl⟩ ?_
  intro p e s m below meth c A Q F C hP hD hS hret ls hl
  obtain ⟨hx, hb, hml, hown, hts⟩ := id F
  obtain ⟨hK, hA, hZ, hT, hN⟩ := id C
  have hl : lv_has ls 3 [(0, .ref w0), (1, .int (iI z)), (2, .int (iI n))] := hl
  obtain ⟨H, hH⟩ : ∃ H, H = s.heap := ⟨_, rfl⟩
  obtain ⟨locs, hlocs⟩ : ∃ l : List Loc, l = [] := ⟨_, rfl⟩
  have hS : va_S A s.heap H locs := by rw [hH, hlocs]; exact hS
  have hP : va_P G.1 vwCl [(w0, .inr (10, [.ref a0, .ref b0, .ref u0, .int (iI lim), .ref w1, .int (iI ht), .int (iI st)])), (w1, .inl (gI G, 201, .inl (fun j : Nat => iI (wt (j : Int)))))] H := by rw [hH]; exact hP
  suffices hgo : W p l e (rz 1 21) s m [.ref w0, .int (iI z), .int (iI n)].toArray below meth c H locs 0 0 Q (F0 m 0 ls []) by rw [hH, hlocs] at hgo; exact hgo
  refine lv_iload_n hx hb dX9_beginIf_0 rfl (lv_at hl 1 rfl) ?_
  refine z_if_eq (tgt := 9) hx hb dX9_beginIf_1 (by decide) (by omega) (fun c_1 => ?_) (fun c_1 => ?_)
  · skip
    refine lv_iconst (v := iI (1)) hx hb dX9_beginIf_9 rfl ?_
    have e_2 : (ht : Int) = (if z = 0 then ht else ht + 1) := by first | exact (if_pos (by omega)).symm | exact (if_neg (by omega)).symm
    have e_3 : (wt : Int → Int) = (if z = 0 then wt else uF wt ht n) := by first | exact (if_pos (by omega)).symm | exact (if_neg (by omega)).symm
    have hP : va_P G.1 vwCl [(w0, .inr (10, [.ref a0, .ref b0, .ref u0, .int (iI lim), .ref w1, .int (iI (if z = 0 then ht else ht + 1)), .int (iI st)])), (w1, .inl (gI G, 201, .inl (fun j : Nat => iI ((if z = 0 then wt else uF wt ht n) (j : Int)))))] H := by rw [← e_2, ← e_3]; exact hP
    have hD : va_D A [(w0, .inr (10, [.ref a0, .ref b0, .ref u0, .int (iI lim), .ref w1, .int (iI (if z = 0 then ht else ht + 1)), .int (iI st)])), (w1, .inl (gI G, 201, .inl (fun j : Nat => iI ((if z = 0 then wt else uF wt ht n) (j : Int)))))] := by rw [← e_2, ← e_3]; exact hD
    exact hret _ ls H locs dX9_beginIf_10 hP hD hS
  · skip
    refine lv_aload_n hx hb dX9_beginIf_4 rfl (lv_at hl 0 rfl) ?_
    refine lv_iload_n hx hb dX9_beginIf_5 rfl (lv_at hl 2 rfl) ?_
    refine z_cVv (As := [.int (iI n)]) (rest := []) (wc := [(w0, .inr (10, [.ref a0, .ref b0, .ref u0, .int (iI lim), .ref w1, .int (iI ht), .int (iI st)])), (w1, .inl (gI G, 201, .inl (fun j : Nat => iI (wt (j : Int)))))]) (wr := []) (wn := [(w0, .inr (10, [.ref a0, .ref b0, .ref u0, .int (iI lim), .ref w1, .int (iI (ht + 1)), .int (iI st)])), (w1, .inl (gI G, 201, .inl (fun j : Nat => iI ((uF wt ht n) (j : Int)))))]) F C (c_X9_later l G H.size w0 w1 a0 b0 u0 wt lim ht st n (by omega)) (cwV 1 hts gX9_beginIf_X9_later rfl rfl rfl (by decide +kernel) (by decide)) hP hD hS (q0 := 0) rfl rfl rfl [0, 1] [] rfl rfl (by decide) rfl rfl hl.1 rfl (Nat.le_of_ble_eq_true rfl) dX9_beginIf_6 (by decide) (fun H locs hP hD hS => ?_)
    refine lv_iconst (v := iI (1)) hx hb dX9_beginIf_9 rfl ?_
    have e_4 : ((ht + 1) : Int) = (if z = 0 then ht else ht + 1) := by first | exact (if_pos (by omega)).symm | exact (if_neg (by omega)).symm
    have e_5 : ((uF wt ht n) : Int → Int) = (if z = 0 then wt else uF wt ht n) := by first | exact (if_pos (by omega)).symm | exact (if_neg (by omega)).symm
    have hP : va_P G.1 vwCl [(w0, .inr (10, [.ref a0, .ref b0, .ref u0, .int (iI lim), .ref w1, .int (iI (if z = 0 then ht else ht + 1)), .int (iI st)])), (w1, .inl (gI G, 201, .inl (fun j : Nat => iI ((if z = 0 then wt else uF wt ht n) (j : Int)))))] H := by rw [← e_4, ← e_5]; exact hP
    have hD : va_D A [(w0, .inr (10, [.ref a0, .ref b0, .ref u0, .int (iI lim), .ref w1, .int (iI (if z = 0 then ht else ht + 1)), .int (iI st)])), (w1, .inl (gI G, 201, .inl (fun j : Nat => iI ((if z = 0 then wt else uF wt ht n) (j : Int)))))] := by rw [← e_4, ← e_5]; exact hD
    exact hret _ ls H locs dX9_beginIf_10 hP hD hS

set_option maxHeartbeats 4000000 in
set_option maxRecDepth 100000 in
theorem c_X9_become (l : Launch) (G : Gx) (zz : Nat) (w0 w1 b0 u0 : Nat) (a0 a1 a2 a3 : Nat) (sz va ke : Int → Int) (mk : Int) (lim ht st : Int) (n v : Int) (h1 : 1 ≤ n ∧ n ≤ mk ∧ mk ≤ 60) (h2 : 1 ≤ sz n ∧ sz n ≤ 18) (h3 : -9223372036854775808 < v ∧ v < 9223372036854775808) : Ci l yX9_become wsX9_become (rz 1 21) G [.ref w0, .int (iI n), .long (lI v)] [(w0, .inr (10, [.ref a0, .ref b0, .ref u0, .int (iI lim), .ref w1, .int (iI ht), .int (iI st)])), (a0, .inr (2, [.ref a1, .ref a2, .ref a3, .int (iI mk)])), (a1, .inl (gI G, 61, .inl (fun j : Nat => iI (sz (j : Int))))), (a2, .inl (gL G, 61, .inr (.inl (fun j : Nat => lI (va (j : Int)))))), (a3, .inl (gL G, 61, .inr (.inl (fun j : Nat => lI (ke (j : Int))))))] zz (beO sz n v) [(w0, .inr (10, [.ref a0, .ref b0, .ref u0, .int (iI lim), .ref w1, .int (iI ht), .int (iI st)])), (a0, .inr (2, [.ref a1, .ref a2, .ref a3, .int (iI mk)])), (a1, .inl (gI G, 61, .inl (fun j : Nat => iI (sz (j : Int))))), (a2, .inl (gL G, 61, .inr (.inl (fun j : Nat => lI ((beV sz va n v) (j : Int)))))), (a3, .inl (gL G, 61, .inr (.inl (fun j : Nat => lI (ke (j : Int))))))] := by
  refine met_i (cc := cX9_become) (maxL := 4) (ret := (some .int)) (by decide) rfl (Nat.le_of_ble_eq_true rfl) rfl rfl ⟨rfl, rfl⟩ ?_
  intro p e s m below meth c A Q F C hP hD hS hret ls hl
  obtain ⟨hx, hb, hml, hown, hts⟩ := id F
  obtain ⟨hK, hA, hZ, hT, hN⟩ := id C
  have hl : lv_has ls 4 [(0, .ref w0), (1, .int (iI n)), (2, .long (lI v))] := hl
  obtain ⟨H, hH⟩ : ∃ H, H = s.heap := ⟨_, rfl⟩
  obtain ⟨locs, hlocs⟩ : ∃ l : List Loc, l = [] := ⟨_, rfl⟩
  have hS : va_S A s.heap H locs := by rw [hH, hlocs]; exact hS
  have hP : va_P G.1 vwCl [(w0, .inr (10, [.ref a0, .ref b0, .ref u0, .int (iI lim), .ref w1, .int (iI ht), .int (iI st)])), (a0, .inr (2, [.ref a1, .ref a2, .ref a3, .int (iI mk)])), (a1, .inl (gI G, 61, .inl (fun j : Nat => iI (sz (j : Int))))), (a2, .inl (gL G, 61, .inr (.inl (fun j : Nat => lI (va (j : Int)))))), (a3, .inl (gL G, 61, .inr (.inl (fun j : Nat => lI (ke (j : Int))))))] H := by rw [hH]; exact hP
  suffices hgo : W p l e (rz 1 21) s m [.ref w0, .int (iI n), .long (lI v)].toArray below meth c H locs 0 0 Q (F0 m 0 ls []) by rw [hH, hlocs] at hgo; exact hgo
  have hw0 := hts (Cond.methodLink RX9 108 Lib.MathLoose.abs_long.x) (List.mem_of_getElem? (i := 1) rfl)
  have hw1 := hts (Cond.static Lib.MathLoose.abs_long.x) (List.mem_of_getElem? (i := 2) rfl)
  have hw2 := hts (Cond.initialized "java/lang/Math") (List.mem_of_getElem? (i := 3) rfl)
  have hw3 := hts (Cond.code Lib.MathLoose.abs_long.x Lib.MathLoose.abs_long.code 2 (some .long)) (List.mem_of_getElem? (i := 4) rfl)
  have hiX9 : ∀ w ∈ wsX90, w ∈ wsX9_become := by decide +kernel
  have hw4 := hts (Cond.fieldLink RX9 12 "PlainCobol$Walker" "cells" "LPlainCobol$Cells;") (List.mem_of_getElem? (i := 5) rfl)
  have hiX1 : ∀ w ∈ wsX10, w ∈ wsX9_become := by decide +kernel
  have hw5 := hts (Cond.fieldLink RX9 78 "PlainCobol$Cells" "values" "[J") (List.mem_of_getElem? (i := 6) rfl)
  refine lv_lload_n hx hb dX9_become_0 rfl (lv_at hl 2 rfl) ?_
  refine z_labs hx hb (hml.trans hl.1.symm) hown hw0 hw1 hw2 hw3 ⟨by decide, Nat.le_of_ble_eq_true rfl⟩ ⟨by decide, by decide⟩ (by omega) dX9_become_1 ?_
  refine lv_aload_n hx hb dX9_become_4 rfl (lv_at hl 0 rfl) ?_
  refine va_get (D := G.1) (ci := 10) (v := .ref a0) (C := RX9) (T := TX9) (N := 7) hx hb hts hiX9 hown hK hP 0 rfl rfl 0 (by decide) hw4 (fun _ h9 => h9) rfl dX9_become_5 ?_
  refine lv_iload_n hx hb dX9_become_8 rfl (lv_at hl 1 rfl) ?_
  refine z_cVl (RV := (pw (sz n) - 1)) (As := [.int (iI n)]) (rest := [.long (lI ((Int.natAbs v : Nat) : Int))]) (wc := [(a0, .inr (2, [.ref a1, .ref a2, .ref a3, .int (iI mk)])), (a1, .inl (gI G, 61, .inl (fun j : Nat => iI (sz (j : Int))))), (a2, .inl (gL G, 61, .inr (.inl (fun j : Nat => lI (va (j : Int)))))), (a3, .inl (gL G, 61, .inr (.inl (fun j : Nat => lI (ke (j : Int))))))]) (wr := [(w0, .inr (10, [.ref a0, .ref b0, .ref u0, .int (iI lim), .ref w1, .int (iI ht), .int (iI st)]))]) (wn := [(w0, .inr (10, [.ref a0, .ref b0, .ref u0, .int (iI lim), .ref w1, .int (iI ht), .int (iI st)])), (a0, .inr (2, [.ref a1, .ref a2, .ref a3, .int (iI mk)])), (a1, .inl (gI G, 61, .inl (fun j : Nat => iI (sz (j : Int))))), (a2, .inl (gL G, 61, .inr (.inl (fun j : Nat => lI (va (j : Int)))))), (a3, .inl (gL G, 61, .inr (.inl (fun j : Nat => lI (ke (j : Int))))))]) F C (c_X1_mostOf l G H.size a0 a1 a2 a3 sz va ke mk n (by omega) (by omega)) (cwV 1 hts gX9_become_X1_mostOf rfl rfl rfl (by decide +kernel) (by decide)) hP hD hS (q0 := 1) rfl rfl rfl [1, 2, 3, 4] [0] rfl rfl (by decide) rfl rfl hl.1 rfl (Nat.le_of_ble_eq_true rfl) dX9_become_9 (by decide) (fun H locs hP hD hS => ?_)
  refine z_lcmp_le (tgt := 18) hx hb dX9_become_12 dX9_become_13 (by decide) (by have := pw_rng (i := sz n) (by omega); omega) (fun c_1 => ?_) (fun c_1 => ?_)
  · skip
    refine lv_aload_n hx hb dX9_become_18 rfl (lv_at hl 0 rfl) ?_
    refine va_get (D := G.1) (ci := 10) (v := .ref a0) (C := RX9) (T := TX9) (N := 7) hx hb hts hiX9 hown hK hP 0 rfl rfl 0 (by decide) hw4 (fun _ h9 => h9) rfl dX9_become_19 ?_
    refine va_get (D := G.1) (ci := 2) (v := .ref a2) (C := RX1) (T := TX1) (N := 4) hx hb hts hiX1 hown hK hP 1 rfl rfl 1 (by decide) hw5 (fun _ h9 => h9) rfl dX9_become_22 ?_
    refine lv_iload_n hx hb dX9_become_25 rfl (lv_at hl 1 rfl) ?_
    refine lv_lload_n hx hb dX9_become_26 rfl (lv_at hl 2 rfl) ?_
    refine z_last hx hb hK hP hD hS 3 1 rfl rfl (by omega) dX9_become_27 (fun H locs hP hD hS => ?_)
    have hP : va_P G.1 vwCl [(w0, .inr (10, [.ref a0, .ref b0, .ref u0, .int (iI lim), .ref w1, .int (iI ht), .int (iI st)])), (a0, .inr (2, [.ref a1, .ref a2, .ref a3, .int (iI mk)])), (a1, .inl (gI G, 61, .inl (fun j : Nat => iI (sz (j : Int))))), (a2, .inl (gL G, 61, .inr (.inl (fun j : Nat => lI ((uF va n v) (j : Int)))))), (a3, .inl (gL G, 61, .inr (.inl (fun j : Nat => lI (ke (j : Int))))))] H := hP
    have hD : va_D A [(w0, .inr (10, [.ref a0, .ref b0, .ref u0, .int (iI lim), .ref w1, .int (iI ht), .int (iI st)])), (a0, .inr (2, [.ref a1, .ref a2, .ref a3, .int (iI mk)])), (a1, .inl (gI G, 61, .inl (fun j : Nat => iI (sz (j : Int))))), (a2, .inl (gL G, 61, .inr (.inl (fun j : Nat => lI ((uF va n v) (j : Int)))))), (a3, .inl (gL G, 61, .inr (.inl (fun j : Nat => lI (ke (j : Int))))))] := hD
    refine lv_iconst (v := iI (1)) hx hb dX9_become_28 rfl ?_
    have e_2 : ((uF va n v) : Int → Int) = (beV sz va n v) := by ((try simp only [beO, beV]); first | exact (if_pos (by omega)).symm | exact (if_neg (by omega)).symm)
    have hP : va_P G.1 vwCl [(w0, .inr (10, [.ref a0, .ref b0, .ref u0, .int (iI lim), .ref w1, .int (iI ht), .int (iI st)])), (a0, .inr (2, [.ref a1, .ref a2, .ref a3, .int (iI mk)])), (a1, .inl (gI G, 61, .inl (fun j : Nat => iI (sz (j : Int))))), (a2, .inl (gL G, 61, .inr (.inl (fun j : Nat => lI ((beV sz va n v) (j : Int)))))), (a3, .inl (gL G, 61, .inr (.inl (fun j : Nat => lI (ke (j : Int))))))] H := by rw [← e_2]; exact hP
    have hD : va_D A [(w0, .inr (10, [.ref a0, .ref b0, .ref u0, .int (iI lim), .ref w1, .int (iI ht), .int (iI st)])), (a0, .inr (2, [.ref a1, .ref a2, .ref a3, .int (iI mk)])), (a1, .inl (gI G, 61, .inl (fun j : Nat => iI (sz (j : Int))))), (a2, .inl (gL G, 61, .inr (.inl (fun j : Nat => lI ((beV sz va n v) (j : Int)))))), (a3, .inl (gL G, 61, .inr (.inl (fun j : Nat => lI (ke (j : Int))))))] := by rw [← e_2]; exact hD
    have r_3 : (1 : Int) = (beO sz n v) := by ((try simp only [beO, beV]); first | exact (if_pos (by omega)).symm | exact (if_neg (by omega)).symm)
    rw [r_3]
    exact hret _ ls H locs dX9_become_29 hP hD hS
  · skip
    refine lv_iconst (v := iI (2)) hx hb dX9_become_16 rfl ?_
    have e_4 : (va : Int → Int) = (beV sz va n v) := by ((try simp only [beO, beV]); first | exact (if_pos (by omega)).symm | exact (if_neg (by omega)).symm)
    have hP : va_P G.1 vwCl [(w0, .inr (10, [.ref a0, .ref b0, .ref u0, .int (iI lim), .ref w1, .int (iI ht), .int (iI st)])), (a0, .inr (2, [.ref a1, .ref a2, .ref a3, .int (iI mk)])), (a1, .inl (gI G, 61, .inl (fun j : Nat => iI (sz (j : Int))))), (a2, .inl (gL G, 61, .inr (.inl (fun j : Nat => lI ((beV sz va n v) (j : Int)))))), (a3, .inl (gL G, 61, .inr (.inl (fun j : Nat => lI (ke (j : Int))))))] H := by rw [← e_4]; exact hP
    have hD : va_D A [(w0, .inr (10, [.ref a0, .ref b0, .ref u0, .int (iI lim), .ref w1, .int (iI ht), .int (iI st)])), (a0, .inr (2, [.ref a1, .ref a2, .ref a3, .int (iI mk)])), (a1, .inl (gI G, 61, .inl (fun j : Nat => iI (sz (j : Int))))), (a2, .inl (gL G, 61, .inr (.inl (fun j : Nat => lI ((beV sz va n v) (j : Int)))))), (a3, .inl (gL G, 61, .inr (.inl (fun j : Nat => lI (ke (j : Int))))))] := by rw [← e_4]; exact hD
    have r_5 : (2 : Int) = (beO sz n v) := by ((try simp only [beO, beV]); first | exact (if_pos (by omega)).symm | exact (if_neg (by omega)).symm)
    rw [r_5]
    exact hret _ ls H locs dX9_become_17 hP hD hS

set_option maxHeartbeats 4000000 in
set_option maxRecDepth 100000 in
theorem c_X9_multiply (l : Launch) (G : Gx) (zz : Nat) (w0 w1 b0 u0 : Nat) (a0 a1 a2 a3 : Nat) (sz va ke : Int → Int) (mk : Int) (lim ht st : Int) (x y : Int) (hmk : 0 ≤ mk ∧ mk ≤ 60) (hcv : ∀ c, 1 ≤ c → c ≤ mk → 1 ≤ sz c ∧ sz c ≤ 18 ∧ -pw (sz c) < va c ∧ va c < pw (sz c)) (h1 : 1 ≤ x ∧ x ≤ mk) (h2 : 1 ≤ y ∧ y ≤ mk) : Ci l yX9_multiply wsX9_multiply (rz 2 44) G [.ref w0, .int (iI x), .int (iI y)] [(w0, .inr (10, [.ref a0, .ref b0, .ref u0, .int (iI lim), .ref w1, .int (iI ht), .int (iI st)])), (a0, .inr (2, [.ref a1, .ref a2, .ref a3, .int (iI mk)])), (a1, .inl (gI G, 61, .inl (fun j : Nat => iI (sz (j : Int))))), (a2, .inl (gL G, 61, .inr (.inl (fun j : Nat => lI (va (j : Int)))))), (a3, .inl (gL G, 61, .inr (.inl (fun j : Nat => lI (ke (j : Int))))))] zz (muO sz va x y) [(w0, .inr (10, [.ref a0, .ref b0, .ref u0, .int (iI lim), .ref w1, .int (iI ht), .int (iI st)])), (a0, .inr (2, [.ref a1, .ref a2, .ref a3, .int (iI mk)])), (a1, .inl (gI G, 61, .inl (fun j : Nat => iI (sz (j : Int))))), (a2, .inl (gL G, 61, .inr (.inl (fun j : Nat => lI ((muV sz va x y) (j : Int)))))), (a3, .inl (gL G, 61, .inr (.inl (fun j : Nat => lI (ke (j : Int))))))] := by
  refine met_i (cc := cX9_multiply) (maxL := 5) (ret := (some .int)) (by decide) rfl (Nat.le_of_ble_eq_true rfl) rfl rfl ⟨rfl, rfl⟩ ?_
  intro p e s m below meth c A Q F C hP hD hS hret ls hl
  obtain ⟨hx, hb, hml, hown, hts⟩ := id F
  obtain ⟨hK, hA, hZ, hT, hN⟩ := id C
  have hl : lv_has ls 5 [(0, .ref w0), (1, .int (iI x)), (2, .int (iI y))] := hl
  obtain ⟨H, hH⟩ : ∃ H, H = s.heap := ⟨_, rfl⟩
  obtain ⟨locs, hlocs⟩ : ∃ l : List Loc, l = [] := ⟨_, rfl⟩
  have hS : va_S A s.heap H locs := by rw [hH, hlocs]; exact hS
  have hP : va_P G.1 vwCl [(w0, .inr (10, [.ref a0, .ref b0, .ref u0, .int (iI lim), .ref w1, .int (iI ht), .int (iI st)])), (a0, .inr (2, [.ref a1, .ref a2, .ref a3, .int (iI mk)])), (a1, .inl (gI G, 61, .inl (fun j : Nat => iI (sz (j : Int))))), (a2, .inl (gL G, 61, .inr (.inl (fun j : Nat => lI (va (j : Int)))))), (a3, .inl (gL G, 61, .inr (.inl (fun j : Nat => lI (ke (j : Int))))))] H := by rw [hH]; exact hP
  suffices hgo : W p l e (rz 2 44) s m [.ref w0, .int (iI x), .int (iI y)].toArray below meth c H locs 0 0 Q (F0 m 0 ls []) by rw [hH, hlocs] at hgo; exact hgo
  have hiX9 : ∀ w ∈ wsX90, w ∈ wsX9_multiply := by decide +kernel
  have hw0 := hts (Cond.fieldLink RX9 12 "PlainCobol$Walker" "cells" "LPlainCobol$Cells;") (List.mem_of_getElem? (i := 1) rfl)
  have hiX1 : ∀ w ∈ wsX10, w ∈ wsX9_multiply := by decide +kernel
  have hw1 := hts (Cond.fieldLink RX9 78 "PlainCobol$Cells" "values" "[J") (List.mem_of_getElem? (i := 2) rfl)
  have hw2 := hts (Cond.methodLink RX9 108 Lib.MathLoose.abs_long.x) (List.mem_of_getElem? (i := 3) rfl)
  have hw3 := hts (Cond.static Lib.MathLoose.abs_long.x) (List.mem_of_getElem? (i := 4) rfl)
  have hw4 := hts (Cond.initialized "java/lang/Math") (List.mem_of_getElem? (i := 5) rfl)
  have hw5 := hts (Cond.code Lib.MathLoose.abs_long.x Lib.MathLoose.abs_long.code 2 (some .long)) (List.mem_of_getElem? (i := 6) rfl)
  have hvx := hcv x h1.1 h1.2
  have hpx := pw_rng (i := sz x) (by omega)
  have hvy := hcv y h2.1 h2.2
  have hpy := pw_rng (i := sz y) (by omega)
  refine lv_aload_n hx hb dX9_multiply_0 rfl (lv_at hl 0 rfl) ?_
  refine va_get (D := G.1) (ci := 10) (v := .ref a0) (C := RX9) (T := TX9) (N := 7) hx hb hts hiX9 hown hK hP 0 rfl rfl 0 (by decide) hw0 (fun _ h9 => h9) rfl dX9_multiply_1 ?_
  refine va_get (D := G.1) (ci := 2) (v := .ref a2) (C := RX1) (T := TX1) (N := 4) hx hb hts hiX1 hown hK hP 1 rfl rfl 1 (by decide) hw1 (fun _ h9 => h9) rfl dX9_multiply_4 ?_
  refine lv_iload_n hx hb dX9_multiply_7 rfl (lv_at hl 1 rfl) ?_
  refine z_lald hx hb hK hP 3 1 rfl rfl (by omega) dX9_multiply_8 ?_
  refine lv_lstore_n (lv' := [(3, .long (lI (va x))), (0, .ref w0), (1, .int (iI x)), (2, .int (iI y))]) hx hb dX9_multiply_9 rfl hl (by decide) rfl (fun ls hl => ?_)
  refine lv_lload_n hx hb dX9_multiply_10 rfl (lv_at hl 0 rfl) ?_
  refine lv_lconst (v := lI 0) hx hb dX9_multiply_11 (by decide) ?_
  refine z_lcmp_eq (tgt := 47) hx hb dX9_multiply_12 dX9_multiply_13 (by decide) (by omega) (fun c_1 => ?_) (fun c_1 => ?_)
  · skip
    have hmu := mul_rng (m := pw (sz y) - 1) (a := va x) (b := va y) (Or.inl c_1)
    refine lv_aload_n hx hb dX9_multiply_47 rfl (lv_at hl 1 rfl) ?_
    refine lv_iload_n hx hb dX9_multiply_48 rfl (lv_at hl 3 rfl) ?_
    refine lv_aload_n hx hb dX9_multiply_49 rfl (lv_at hl 1 rfl) ?_
    refine va_get (D := G.1) (ci := 10) (v := .ref a0) (C := RX9) (T := TX9) (N := 7) hx hb hts hiX9 hown hK hP 0 rfl rfl 0 (by decide) hw0 (fun _ h9 => h9) rfl dX9_multiply_50 ?_
    refine va_get (D := G.1) (ci := 2) (v := .ref a2) (C := RX1) (T := TX1) (N := 4) hx hb hts hiX1 hown hK hP 1 rfl rfl 1 (by decide) hw1 (fun _ h9 => h9) rfl dX9_multiply_53 ?_
    refine lv_iload_n hx hb dX9_multiply_56 rfl (lv_at hl 3 rfl) ?_
    refine z_lald hx hb hK hP 3 1 rfl rfl (by omega) dX9_multiply_57 ?_
    refine lv_lload_n hx hb dX9_multiply_58 rfl (lv_at hl 0 rfl) ?_
    refine z_lmul hx hb dX9_multiply_59 ?_
    refine z_cVi (RV := (beO sz y ((va y) * (va x)))) (As := [.int (iI y), .long (lI ((va y) * (va x)))]) (rest := []) (wc := [(w0, .inr (10, [.ref a0, .ref b0, .ref u0, .int (iI lim), .ref w1, .int (iI ht), .int (iI st)])), (a0, .inr (2, [.ref a1, .ref a2, .ref a3, .int (iI mk)])), (a1, .inl (gI G, 61, .inl (fun j : Nat => iI (sz (j : Int))))), (a2, .inl (gL G, 61, .inr (.inl (fun j : Nat => lI (va (j : Int)))))), (a3, .inl (gL G, 61, .inr (.inl (fun j : Nat => lI (ke (j : Int))))))]) (wr := []) (wn := [(w0, .inr (10, [.ref a0, .ref b0, .ref u0, .int (iI lim), .ref w1, .int (iI ht), .int (iI st)])), (a0, .inr (2, [.ref a1, .ref a2, .ref a3, .int (iI mk)])), (a1, .inl (gI G, 61, .inl (fun j : Nat => iI (sz (j : Int))))), (a2, .inl (gL G, 61, .inr (.inl (fun j : Nat => lI ((beV sz va y ((va y) * (va x))) (j : Int)))))), (a3, .inl (gL G, 61, .inr (.inl (fun j : Nat => lI (ke (j : Int))))))]) F C (c_X9_become l G H.size w0 w1 b0 u0 a0 a1 a2 a3 sz va ke mk lim ht st y ((va y) * (va x)) (by omega) (by omega) (by omega)) (cwV 2 hts gX9_multiply_X9_become rfl rfl rfl (by decide +kernel) (by decide)) hP hD hS (q0 := 0) rfl rfl rfl [0, 1, 2, 3, 4] [] rfl rfl (by decide) rfl rfl hl.1 rfl (Nat.le_of_ble_eq_true rfl) dX9_multiply_60 (by decide) (fun H locs hP hD hS => ?_)
    have e_2 : ((beV sz va y ((va y) * (va x))) : Int → Int) = (muV sz va x y) := by ((simp only [muO, muV]); exact (if_neg (fun q => by obtain ⟨q1, q2⟩ := q; omega)).symm)
    have hP : va_P G.1 vwCl [(w0, .inr (10, [.ref a0, .ref b0, .ref u0, .int (iI lim), .ref w1, .int (iI ht), .int (iI st)])), (a0, .inr (2, [.ref a1, .ref a2, .ref a3, .int (iI mk)])), (a1, .inl (gI G, 61, .inl (fun j : Nat => iI (sz (j : Int))))), (a2, .inl (gL G, 61, .inr (.inl (fun j : Nat => lI ((muV sz va x y) (j : Int)))))), (a3, .inl (gL G, 61, .inr (.inl (fun j : Nat => lI (ke (j : Int))))))] H := by rw [← e_2]; exact hP
    have hD : va_D A [(w0, .inr (10, [.ref a0, .ref b0, .ref u0, .int (iI lim), .ref w1, .int (iI ht), .int (iI st)])), (a0, .inr (2, [.ref a1, .ref a2, .ref a3, .int (iI mk)])), (a1, .inl (gI G, 61, .inl (fun j : Nat => iI (sz (j : Int))))), (a2, .inl (gL G, 61, .inr (.inl (fun j : Nat => lI ((muV sz va x y) (j : Int)))))), (a3, .inl (gL G, 61, .inr (.inl (fun j : Nat => lI (ke (j : Int))))))] := by rw [← e_2]; exact hD
    have r_3 : ((beO sz y ((va y) * (va x))) : Int) = (muO sz va x y) := by ((simp only [muO, muV]); exact (if_neg (fun q => by obtain ⟨q1, q2⟩ := q; omega)).symm)
    rw [r_3]
    exact hret _ ls H locs dX9_multiply_63 hP hD hS
  · skip
    refine lv_aload_n hx hb dX9_multiply_16 rfl (lv_at hl 1 rfl) ?_
    refine va_get (D := G.1) (ci := 10) (v := .ref a0) (C := RX9) (T := TX9) (N := 7) hx hb hts hiX9 hown hK hP 0 rfl rfl 0 (by decide) hw0 (fun _ h9 => h9) rfl dX9_multiply_17 ?_
    refine va_get (D := G.1) (ci := 2) (v := .ref a2) (C := RX1) (T := TX1) (N := 4) hx hb hts hiX1 hown hK hP 1 rfl rfl 1 (by decide) hw1 (fun _ h9 => h9) rfl dX9_multiply_20 ?_
    refine lv_iload_n hx hb dX9_multiply_23 rfl (lv_at hl 3 rfl) ?_
    refine z_lald hx hb hK hP 3 1 rfl rfl (by omega) dX9_multiply_24 ?_
    refine z_labs hx hb (hml.trans hl.1.symm) hown hw2 hw3 hw4 hw5 ⟨by decide, Nat.le_of_ble_eq_true rfl⟩ ⟨by decide, by decide⟩ (by omega) dX9_multiply_25 ?_
    refine lv_aload_n hx hb dX9_multiply_28 rfl (lv_at hl 1 rfl) ?_
    refine va_get (D := G.1) (ci := 10) (v := .ref a0) (C := RX9) (T := TX9) (N := 7) hx hb hts hiX9 hown hK hP 0 rfl rfl 0 (by decide) hw0 (fun _ h9 => h9) rfl dX9_multiply_29 ?_
    refine lv_iload_n hx hb dX9_multiply_32 rfl (lv_at hl 3 rfl) ?_
    refine z_cVl (RV := (pw (sz y) - 1)) (As := [.int (iI y)]) (rest := [.long (lI ((Int.natAbs (va y) : Nat) : Int))]) (wc := [(a0, .inr (2, [.ref a1, .ref a2, .ref a3, .int (iI mk)])), (a1, .inl (gI G, 61, .inl (fun j : Nat => iI (sz (j : Int))))), (a2, .inl (gL G, 61, .inr (.inl (fun j : Nat => lI (va (j : Int)))))), (a3, .inl (gL G, 61, .inr (.inl (fun j : Nat => lI (ke (j : Int))))))]) (wr := [(w0, .inr (10, [.ref a0, .ref b0, .ref u0, .int (iI lim), .ref w1, .int (iI ht), .int (iI st)]))]) (wn := [(w0, .inr (10, [.ref a0, .ref b0, .ref u0, .int (iI lim), .ref w1, .int (iI ht), .int (iI st)])), (a0, .inr (2, [.ref a1, .ref a2, .ref a3, .int (iI mk)])), (a1, .inl (gI G, 61, .inl (fun j : Nat => iI (sz (j : Int))))), (a2, .inl (gL G, 61, .inr (.inl (fun j : Nat => lI (va (j : Int)))))), (a3, .inl (gL G, 61, .inr (.inl (fun j : Nat => lI (ke (j : Int))))))]) F C (c_X1_mostOf l G H.size a0 a1 a2 a3 sz va ke mk y (by omega) (by omega)) (cwV 1 hts gX9_multiply_X1_mostOf rfl rfl rfl (by decide +kernel) (by decide)) hP hD hS (q0 := 1) rfl rfl rfl [1, 2, 3, 4] [0] rfl rfl (by decide) rfl rfl hl.1 rfl (Nat.le_of_ble_eq_true rfl) dX9_multiply_33 (by decide) (fun H locs hP hD hS => ?_)
    refine lv_lload_n hx hb dX9_multiply_36 rfl (lv_at hl 0 rfl) ?_
    refine z_labs hx hb (hml.trans hl.1.symm) hown hw2 hw3 hw4 hw5 ⟨by decide, Nat.le_of_ble_eq_true rfl⟩ ⟨by decide, by decide⟩ (by omega) dX9_multiply_37 ?_
    refine z_ldivP hx hb dX9_multiply_40 (by omega) ?_
    refine z_lcmp_le (tgt := 47) hx hb dX9_multiply_41 dX9_multiply_42 (by decide) (by have := Int.natAbs_tdiv_le_natAbs (pw (sz y) - 1) ((Int.natAbs (va x) : Nat) : Int); omega) (fun c_4 => ?_) (fun c_4 => ?_)
    · skip
      have hmu := mul_rng (m := pw (sz y) - 1) (a := va x) (b := va y) (Or.inr ⟨c_1, by omega, c_4⟩)
      refine lv_aload_n hx hb dX9_multiply_47 rfl (lv_at hl 1 rfl) ?_
      refine lv_iload_n hx hb dX9_multiply_48 rfl (lv_at hl 3 rfl) ?_
      refine lv_aload_n hx hb dX9_multiply_49 rfl (lv_at hl 1 rfl) ?_
      refine va_get (D := G.1) (ci := 10) (v := .ref a0) (C := RX9) (T := TX9) (N := 7) hx hb hts hiX9 hown hK hP 0 rfl rfl 0 (by decide) hw0 (fun _ h9 => h9) rfl dX9_multiply_50 ?_
      refine va_get (D := G.1) (ci := 2) (v := .ref a2) (C := RX1) (T := TX1) (N := 4) hx hb hts hiX1 hown hK hP 1 rfl rfl 1 (by decide) hw1 (fun _ h9 => h9) rfl dX9_multiply_53 ?_
      refine lv_iload_n hx hb dX9_multiply_56 rfl (lv_at hl 3 rfl) ?_
      refine z_lald hx hb hK hP 3 1 rfl rfl (by omega) dX9_multiply_57 ?_
      refine lv_lload_n hx hb dX9_multiply_58 rfl (lv_at hl 0 rfl) ?_
      refine z_lmul hx hb dX9_multiply_59 ?_
      refine z_cVi (RV := (beO sz y ((va y) * (va x)))) (As := [.int (iI y), .long (lI ((va y) * (va x)))]) (rest := []) (wc := [(w0, .inr (10, [.ref a0, .ref b0, .ref u0, .int (iI lim), .ref w1, .int (iI ht), .int (iI st)])), (a0, .inr (2, [.ref a1, .ref a2, .ref a3, .int (iI mk)])), (a1, .inl (gI G, 61, .inl (fun j : Nat => iI (sz (j : Int))))), (a2, .inl (gL G, 61, .inr (.inl (fun j : Nat => lI (va (j : Int)))))), (a3, .inl (gL G, 61, .inr (.inl (fun j : Nat => lI (ke (j : Int))))))]) (wr := []) (wn := [(w0, .inr (10, [.ref a0, .ref b0, .ref u0, .int (iI lim), .ref w1, .int (iI ht), .int (iI st)])), (a0, .inr (2, [.ref a1, .ref a2, .ref a3, .int (iI mk)])), (a1, .inl (gI G, 61, .inl (fun j : Nat => iI (sz (j : Int))))), (a2, .inl (gL G, 61, .inr (.inl (fun j : Nat => lI ((beV sz va y ((va y) * (va x))) (j : Int)))))), (a3, .inl (gL G, 61, .inr (.inl (fun j : Nat => lI (ke (j : Int))))))]) F C (c_X9_become l G H.size w0 w1 b0 u0 a0 a1 a2 a3 sz va ke mk lim ht st y ((va y) * (va x)) (by omega) (by omega) (by omega)) (cwV 2 hts gX9_multiply_X9_become rfl rfl rfl (by decide +kernel) (by decide)) hP hD hS (q0 := 0) rfl rfl rfl [0, 1, 2, 3, 4] [] rfl rfl (by decide) rfl rfl hl.1 rfl (Nat.le_of_ble_eq_true rfl) dX9_multiply_60 (by decide) (fun H locs hP hD hS => ?_)
      have e_5 : ((beV sz va y ((va y) * (va x))) : Int → Int) = (muV sz va x y) := by ((simp only [muO, muV]); exact (if_neg (fun q => by obtain ⟨q1, q2⟩ := q; omega)).symm)
      have hP : va_P G.1 vwCl [(w0, .inr (10, [.ref a0, .ref b0, .ref u0, .int (iI lim), .ref w1, .int (iI ht), .int (iI st)])), (a0, .inr (2, [.ref a1, .ref a2, .ref a3, .int (iI mk)])), (a1, .inl (gI G, 61, .inl (fun j : Nat => iI (sz (j : Int))))), (a2, .inl (gL G, 61, .inr (.inl (fun j : Nat => lI ((muV sz va x y) (j : Int)))))), (a3, .inl (gL G, 61, .inr (.inl (fun j : Nat => lI (ke (j : Int))))))] H := by rw [← e_5]; exact hP
      have hD : va_D A [(w0, .inr (10, [.ref a0, .ref b0, .ref u0, .int (iI lim), .ref w1, .int (iI ht), .int (iI st)])), (a0, .inr (2, [.ref a1, .ref a2, .ref a3, .int (iI mk)])), (a1, .inl (gI G, 61, .inl (fun j : Nat => iI (sz (j : Int))))), (a2, .inl (gL G, 61, .inr (.inl (fun j : Nat => lI ((muV sz va x y) (j : Int)))))), (a3, .inl (gL G, 61, .inr (.inl (fun j : Nat => lI (ke (j : Int))))))] := by rw [← e_5]; exact hD
      have r_6 : ((beO sz y ((va y) * (va x))) : Int) = (muO sz va x y) := by ((simp only [muO, muV]); exact (if_neg (fun q => by obtain ⟨q1, q2⟩ := q; omega)).symm)
      rw [r_6]
      exact hret _ ls H locs dX9_multiply_63 hP hD hS
    · skip
      refine lv_iconst (v := iI (2)) hx hb dX9_multiply_45 rfl ?_
      have e_7 : (va : Int → Int) = (muV sz va x y) := by ((try simp only [muO, muV]); exact (if_pos ⟨by omega, by omega⟩).symm)
      have hP : va_P G.1 vwCl [(w0, .inr (10, [.ref a0, .ref b0, .ref u0, .int (iI lim), .ref w1, .int (iI ht), .int (iI st)])), (a0, .inr (2, [.ref a1, .ref a2, .ref a3, .int (iI mk)])), (a1, .inl (gI G, 61, .inl (fun j : Nat => iI (sz (j : Int))))), (a2, .inl (gL G, 61, .inr (.inl (fun j : Nat => lI ((muV sz va x y) (j : Int)))))), (a3, .inl (gL G, 61, .inr (.inl (fun j : Nat => lI (ke (j : Int))))))] H := by rw [← e_7]; exact hP
      have hD : va_D A [(w0, .inr (10, [.ref a0, .ref b0, .ref u0, .int (iI lim), .ref w1, .int (iI ht), .int (iI st)])), (a0, .inr (2, [.ref a1, .ref a2, .ref a3, .int (iI mk)])), (a1, .inl (gI G, 61, .inl (fun j : Nat => iI (sz (j : Int))))), (a2, .inl (gL G, 61, .inr (.inl (fun j : Nat => lI ((muV sz va x y) (j : Int)))))), (a3, .inl (gL G, 61, .inr (.inl (fun j : Nat => lI (ke (j : Int))))))] := by rw [← e_7]; exact hD
      have r_8 : (2 : Int) = (muO sz va x y) := by ((try simp only [muO, muV]); exact (if_pos ⟨by omega, by omega⟩).symm)
      rw [r_8]
      exact hret _ ls H locs dX9_multiply_46 hP hD hS

set_option maxHeartbeats 4000000 in
set_option maxRecDepth 100000 in
theorem c_X9_divide (l : Launch) (G : Gx) (zz : Nat) (w0 w1 b0 u0 : Nat) (a0 a1 a2 a3 : Nat) (sz va ke : Int → Int) (mk : Int) (lim ht st : Int) (x y : Int) (hmk : 0 ≤ mk ∧ mk ≤ 60) (hcv : ∀ c, 1 ≤ c → c ≤ mk → 1 ≤ sz c ∧ sz c ≤ 18 ∧ -pw (sz c) < va c ∧ va c < pw (sz c)) (h1 : 1 ≤ x ∧ x ≤ mk) (h2 : 1 ≤ y ∧ y ≤ mk) : Ci l yX9_divide wsX9_divide (rz 2 44) G [.ref w0, .int (iI x), .int (iI y)] [(w0, .inr (10, [.ref a0, .ref b0, .ref u0, .int (iI lim), .ref w1, .int (iI ht), .int (iI st)])), (a0, .inr (2, [.ref a1, .ref a2, .ref a3, .int (iI mk)])), (a1, .inl (gI G, 61, .inl (fun j : Nat => iI (sz (j : Int))))), (a2, .inl (gL G, 61, .inr (.inl (fun j : Nat => lI (va (j : Int)))))), (a3, .inl (gL G, 61, .inr (.inl (fun j : Nat => lI (ke (j : Int))))))] zz (diO sz va x y) [(w0, .inr (10, [.ref a0, .ref b0, .ref u0, .int (iI lim), .ref w1, .int (iI ht), .int (iI st)])), (a0, .inr (2, [.ref a1, .ref a2, .ref a3, .int (iI mk)])), (a1, .inl (gI G, 61, .inl (fun j : Nat => iI (sz (j : Int))))), (a2, .inl (gL G, 61, .inr (.inl (fun j : Nat => lI ((diV sz va x y) (j : Int)))))), (a3, .inl (gL G, 61, .inr (.inl (fun j : Nat => lI (ke (j : Int))))))] := by
  refine met_i (cc := cX9_divide) (maxL := 5) (ret := (some .int)) (by decide) rfl (Nat.le_of_ble_eq_true rfl) rfl rfl ⟨rfl, rfl⟩ ?_
  intro p e s m below meth c A Q F C hP hD hS hret ls hl
  obtain ⟨hx, hb, hml, hown, hts⟩ := id F
  obtain ⟨hK, hA, hZ, hT, hN⟩ := id C
  have hl : lv_has ls 5 [(0, .ref w0), (1, .int (iI x)), (2, .int (iI y))] := hl
  obtain ⟨H, hH⟩ : ∃ H, H = s.heap := ⟨_, rfl⟩
  obtain ⟨locs, hlocs⟩ : ∃ l : List Loc, l = [] := ⟨_, rfl⟩
  have hS : va_S A s.heap H locs := by rw [hH, hlocs]; exact hS
  have hP : va_P G.1 vwCl [(w0, .inr (10, [.ref a0, .ref b0, .ref u0, .int (iI lim), .ref w1, .int (iI ht), .int (iI st)])), (a0, .inr (2, [.ref a1, .ref a2, .ref a3, .int (iI mk)])), (a1, .inl (gI G, 61, .inl (fun j : Nat => iI (sz (j : Int))))), (a2, .inl (gL G, 61, .inr (.inl (fun j : Nat => lI (va (j : Int)))))), (a3, .inl (gL G, 61, .inr (.inl (fun j : Nat => lI (ke (j : Int))))))] H := by rw [hH]; exact hP
  suffices hgo : W p l e (rz 2 44) s m [.ref w0, .int (iI x), .int (iI y)].toArray below meth c H locs 0 0 Q (F0 m 0 ls []) by rw [hH, hlocs] at hgo; exact hgo
  have hiX9 : ∀ w ∈ wsX90, w ∈ wsX9_divide := by decide +kernel
  have hw0 := hts (Cond.fieldLink RX9 12 "PlainCobol$Walker" "cells" "LPlainCobol$Cells;") (List.mem_of_getElem? (i := 1) rfl)
  have hiX1 : ∀ w ∈ wsX10, w ∈ wsX9_divide := by decide +kernel
  have hw1 := hts (Cond.fieldLink RX9 78 "PlainCobol$Cells" "values" "[J") (List.mem_of_getElem? (i := 2) rfl)
  have hvx := hcv x h1.1 h1.2
  have hpx := pw_rng (i := sz x) (by omega)
  have hvy := hcv y h2.1 h2.2
  have hpy := pw_rng (i := sz y) (by omega)
  refine lv_aload_n hx hb dX9_divide_0 rfl (lv_at hl 0 rfl) ?_
  refine va_get (D := G.1) (ci := 10) (v := .ref a0) (C := RX9) (T := TX9) (N := 7) hx hb hts hiX9 hown hK hP 0 rfl rfl 0 (by decide) hw0 (fun _ h9 => h9) rfl dX9_divide_1 ?_
  refine va_get (D := G.1) (ci := 2) (v := .ref a2) (C := RX1) (T := TX1) (N := 4) hx hb hts hiX1 hown hK hP 1 rfl rfl 1 (by decide) hw1 (fun _ h9 => h9) rfl dX9_divide_4 ?_
  refine lv_iload_n hx hb dX9_divide_7 rfl (lv_at hl 1 rfl) ?_
  refine z_lald hx hb hK hP 3 1 rfl rfl (by omega) dX9_divide_8 ?_
  refine lv_lstore_n (lv' := [(3, .long (lI (va x))), (0, .ref w0), (1, .int (iI x)), (2, .int (iI y))]) hx hb dX9_divide_9 rfl hl (by decide) rfl (fun ls hl => ?_)
  refine lv_lload_n hx hb dX9_divide_10 rfl (lv_at hl 0 rfl) ?_
  refine lv_lconst (v := lI 0) hx hb dX9_divide_11 (by decide) ?_
  refine z_lcmp_ne (tgt := 20) hx hb dX9_divide_12 dX9_divide_13 (by decide) (by omega) (fun c_1 => ?_) (fun c_1 => ?_)
  · skip
    refine lv_aload_n hx hb dX9_divide_20 rfl (lv_at hl 1 rfl) ?_
    refine lv_iload_n hx hb dX9_divide_21 rfl (lv_at hl 3 rfl) ?_
    refine lv_aload_n hx hb dX9_divide_22 rfl (lv_at hl 1 rfl) ?_
    refine va_get (D := G.1) (ci := 10) (v := .ref a0) (C := RX9) (T := TX9) (N := 7) hx hb hts hiX9 hown hK hP 0 rfl rfl 0 (by decide) hw0 (fun _ h9 => h9) rfl dX9_divide_23 ?_
    refine va_get (D := G.1) (ci := 2) (v := .ref a2) (C := RX1) (T := TX1) (N := 4) hx hb hts hiX1 hown hK hP 1 rfl rfl 1 (by decide) hw1 (fun _ h9 => h9) rfl dX9_divide_26 ?_
    refine lv_iload_n hx hb dX9_divide_29 rfl (lv_at hl 3 rfl) ?_
    refine z_lald hx hb hK hP 3 1 rfl rfl (by omega) dX9_divide_30 ?_
    refine lv_lload_n hx hb dX9_divide_31 rfl (lv_at hl 0 rfl) ?_
    refine z_ldiv hx hb dX9_divide_32 (by omega) ?_
    refine z_cVi (RV := (beO sz y (Int.tdiv (va y) (va x)))) (As := [.int (iI y), .long (lI (Int.tdiv (va y) (va x)))]) (rest := []) (wc := [(w0, .inr (10, [.ref a0, .ref b0, .ref u0, .int (iI lim), .ref w1, .int (iI ht), .int (iI st)])), (a0, .inr (2, [.ref a1, .ref a2, .ref a3, .int (iI mk)])), (a1, .inl (gI G, 61, .inl (fun j : Nat => iI (sz (j : Int))))), (a2, .inl (gL G, 61, .inr (.inl (fun j : Nat => lI (va (j : Int)))))), (a3, .inl (gL G, 61, .inr (.inl (fun j : Nat => lI (ke (j : Int))))))]) (wr := []) (wn := [(w0, .inr (10, [.ref a0, .ref b0, .ref u0, .int (iI lim), .ref w1, .int (iI ht), .int (iI st)])), (a0, .inr (2, [.ref a1, .ref a2, .ref a3, .int (iI mk)])), (a1, .inl (gI G, 61, .inl (fun j : Nat => iI (sz (j : Int))))), (a2, .inl (gL G, 61, .inr (.inl (fun j : Nat => lI ((beV sz va y (Int.tdiv (va y) (va x))) (j : Int)))))), (a3, .inl (gL G, 61, .inr (.inl (fun j : Nat => lI (ke (j : Int))))))]) F C (c_X9_become l G H.size w0 w1 b0 u0 a0 a1 a2 a3 sz va ke mk lim ht st y (Int.tdiv (va y) (va x)) (by omega) (by omega) (by have := Int.natAbs_tdiv_le_natAbs (va y) (va x); omega)) (cwV 2 hts gX9_divide_X9_become rfl rfl rfl (by decide +kernel) (by decide)) hP hD hS (q0 := 0) rfl rfl rfl [0, 1, 2, 3, 4] [] rfl rfl (by decide) rfl rfl hl.1 rfl (Nat.le_of_ble_eq_true rfl) dX9_divide_33 (by decide) (fun H locs hP hD hS => ?_)
    have e_2 : ((beV sz va y (Int.tdiv (va y) (va x))) : Int → Int) = (diV sz va x y) := by ((try simp only [diO, diV]); first | exact (if_pos (by omega)).symm | exact (if_neg (by omega)).symm)
    have hP : va_P G.1 vwCl [(w0, .inr (10, [.ref a0, .ref b0, .ref u0, .int (iI lim), .ref w1, .int (iI ht), .int (iI st)])), (a0, .inr (2, [.ref a1, .ref a2, .ref a3, .int (iI mk)])), (a1, .inl (gI G, 61, .inl (fun j : Nat => iI (sz (j : Int))))), (a2, .inl (gL G, 61, .inr (.inl (fun j : Nat => lI ((diV sz va x y) (j : Int)))))), (a3, .inl (gL G, 61, .inr (.inl (fun j : Nat => lI (ke (j : Int))))))] H := by rw [← e_2]; exact hP
    have hD : va_D A [(w0, .inr (10, [.ref a0, .ref b0, .ref u0, .int (iI lim), .ref w1, .int (iI ht), .int (iI st)])), (a0, .inr (2, [.ref a1, .ref a2, .ref a3, .int (iI mk)])), (a1, .inl (gI G, 61, .inl (fun j : Nat => iI (sz (j : Int))))), (a2, .inl (gL G, 61, .inr (.inl (fun j : Nat => lI ((diV sz va x y) (j : Int)))))), (a3, .inl (gL G, 61, .inr (.inl (fun j : Nat => lI (ke (j : Int))))))] := by rw [← e_2]; exact hD
    have r_3 : ((beO sz y (Int.tdiv (va y) (va x))) : Int) = (diO sz va x y) := by ((try simp only [diO, diV]); first | exact (if_pos (by omega)).symm | exact (if_neg (by omega)).symm)
    rw [r_3]
    exact hret _ ls H locs dX9_divide_36 hP hD hS
  · skip
    refine lv_iconst (v := iI (2)) hx hb dX9_divide_16 rfl ?_
    refine lv_goto (tgt := 36) hx hb dX9_divide_17 (by decide) ?_
    have e_4 : (va : Int → Int) = (diV sz va x y) := by ((try simp only [diO, diV]); first | exact (if_pos (by omega)).symm | exact (if_neg (by omega)).symm)
    have hP : va_P G.1 vwCl [(w0, .inr (10, [.ref a0, .ref b0, .ref u0, .int (iI lim), .ref w1, .int (iI ht), .int (iI st)])), (a0, .inr (2, [.ref a1, .ref a2, .ref a3, .int (iI mk)])), (a1, .inl (gI G, 61, .inl (fun j : Nat => iI (sz (j : Int))))), (a2, .inl (gL G, 61, .inr (.inl (fun j : Nat => lI ((diV sz va x y) (j : Int)))))), (a3, .inl (gL G, 61, .inr (.inl (fun j : Nat => lI (ke (j : Int))))))] H := by rw [← e_4]; exact hP
    have hD : va_D A [(w0, .inr (10, [.ref a0, .ref b0, .ref u0, .int (iI lim), .ref w1, .int (iI ht), .int (iI st)])), (a0, .inr (2, [.ref a1, .ref a2, .ref a3, .int (iI mk)])), (a1, .inl (gI G, 61, .inl (fun j : Nat => iI (sz (j : Int))))), (a2, .inl (gL G, 61, .inr (.inl (fun j : Nat => lI ((diV sz va x y) (j : Int)))))), (a3, .inl (gL G, 61, .inr (.inl (fun j : Nat => lI (ke (j : Int))))))] := by rw [← e_4]; exact hD
    have r_5 : (2 : Int) = (diO sz va x y) := by ((try simp only [diO, diV]); first | exact (if_pos (by omega)).symm | exact (if_neg (by omega)).symm)
    rw [r_5]
    exact hret _ ls H locs dX9_divide_36 hP hD hS

