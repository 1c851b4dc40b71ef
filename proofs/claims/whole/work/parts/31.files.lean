def pK (ky : Int → Int) (hd x : Int) : Int → Int := if cnt ky x hd.toNat < hd ∧ ky (cnt ky x hd.toNat) = x then ky else uF (cF ky ky (cnt ky x hd.toNat) (cnt ky x hd.toNat + 1) (hd - cnt ky x hd.toNat)) (cnt ky x hd.toNat) x
def pV (ky fv : Int → Int) (hd x v : Int) : Int → Int := if cnt ky x hd.toNat < hd ∧ ky (cnt ky x hd.toNat) = x then uF fv (cnt ky x hd.toNat) v else uF (cF fv fv (cnt ky x hd.toNat) (cnt ky x hd.toNat + 1) (hd - cnt ky x hd.toNat)) (cnt ky x hd.toNat) v
def pH (ky : Int → Int) (hd x : Int) : Int := if cnt ky x hd.toNat < hd ∧ ky (cnt ky x hd.toNat) = x then hd else hd + 1
def dK (ky f : Int → Int) (hd x : Int) : Int → Int := if cnt ky x hd.toNat < hd ∧ ky (cnt ky x hd.toNat) = x then cF f f (cnt ky x hd.toNat + 1) (cnt ky x hd.toNat) (hd - 1 - cnt ky x hd.toNat) else f
def dH (ky : Int → Int) (hd x : Int) : Int := if cnt ky x hd.toNat < hd ∧ ky (cnt ky x hd.toNat) = x then hd - 1 else hd
def sP0 (od : Int → Int) (th x : Int) : Int := if x = 0 then th else fi0 od x th.toNat 0
def sPL (od dp : Int → Int) (th x : Int) : Int := if x = 0 then sP0 od th x else eo od dp (dp (od (sP0 od th x))) (th - (sP0 od th x + 1)).toNat (sP0 od th x + 1)
noncomputable def sI (c : Prop) (a b : Int) : Int := @ite Int c (Classical.propDecidable c) b a
noncomputable def sIF (c : Prop) (a b : Int → Int) : Int → Int := @ite (Int → Int) c (Classical.propDecidable c) b a
theorem sI_t {c : Prop} {a b : Int} (h : c) : sI c a b = b := if_pos h
theorem sI_f {c : Prop} {a b : Int} (h : ¬ c) : sI c a b = a := if_neg h
theorem sIF_t {c : Prop} {a b : Int → Int} (h : c) : sIF c a b = b := if_pos h
theorem sIF_f {c : Prop} {a b : Int → Int} (h : ¬ c) : sIF c a b = a := if_neg h

set_option maxHeartbeats 4000000 in
set_option maxRecDepth 100000 in
theorem c_X2_firstFrom (l : Launch) (G : Gx) (zz : Nat) (f0 f1 f2 : Nat) (ky fv : Int → Int) (hd : Int) (x : Int) (hh : 0 ≤ hd ∧ hd ≤ 1000) (hso : SO ky hd) (hky : ∀ j, 0 ≤ j → j < hd → 0 ≤ ky j ∧ ky j < 4000000) (hxr : -2147483648 ≤ x ∧ x < 2147483648) : Ci l yX2_firstFrom wsX2_firstFrom (rz 0 0) G [.ref f0, .int (iI x)] [(f0, .inr (3, [.ref f1, .ref f2, .int (iI hd)])), (f1, .inl (gI G, 1000, .inl (fun j : Nat => iI (ky (j : Int))))), (f2, .inl (gL G, 1000, .inr (.inl (fun j : Nat => lI (fv (j : Int))))))] zz (cnt ky x hd.toNat) [(f0, .inr (3, [.ref f1, .ref f2, .int (iI hd)])), (f1, .inl (gI G, 1000, .inl (fun j : Nat => iI (ky (j : Int))))), (f2, .inl (gL G, 1000, .inr (.inl (fun j : Nat => lI (fv (j : Int))))))] := by
  refine met_i (cc := cX2_firstFrom) (maxL := 4) (ret := (some .int)) (by decide) rfl (Nat.le_of_ble_eq_true rfl) rfl rfl ⟨rfl, rfl⟩ ?_
  intro p e s m below meth c A Q F C hP hD hS hret ls hl
  obtain ⟨hx, hb, hml, hown, hts⟩ := id F
  obtain ⟨hK, hA, hZ, hT, hN⟩ := id C
  have hl : lv_has ls 4 [(0, .ref f0), (1, .int (iI x))] := hl
  obtain ⟨H, hH⟩ : ∃ H, H = s.heap := ⟨_, rfl⟩
  obtain ⟨locs, hlocs⟩ : ∃ l : List Loc, l = [] := ⟨_, rfl⟩
  have hS : va_S A s.heap H locs := by rw [hH, hlocs]; exact hS
  have hP : va_P G.1 vwCl [(f0, .inr (3, [.ref f1, .ref f2, .int (iI hd)])), (f1, .inl (gI G, 1000, .inl (fun j : Nat => iI (ky (j : Int))))), (f2, .inl (gL G, 1000, .inr (.inl (fun j : Nat => lI (fv (j : Int))))))] H := by rw [hH]; exact hP
  suffices hgo : W p l e (rz 0 0) s m [.ref f0, .int (iI x)].toArray below meth c H locs 0 0 Q (F0 m 0 ls []) by rw [hH, hlocs] at hgo; exact hgo
  have hiX2 : ∀ w ∈ wsX20, w ∈ wsX2_firstFrom := by decide +kernel
  have hw0 := hts (Cond.fieldLink RX2 19 "PlainCobol$Files" "held" "I") (List.mem_of_getElem? (i := 1) rfl)
  have hw1 := hts (Cond.fieldLink RX2 9 "PlainCobol$Files" "keys" "[I") (List.mem_of_getElem? (i := 2) rfl)
  have hcr := cnt_r ky x hd.toNat
  have hcs := cnt_s (f := ky) (x := x) hd.toNat (by rw [Int.toNat_of_nonneg hh.1]; exact hso)
  rw [Int.toNat_of_nonneg hh.1] at hcr hcs
  refine lv_iconst (v := iI (0)) hx hb dX2_firstFrom_0 rfl ?_
  refine lv_istore_n (lv' := [(2, .int (iI 0)), (0, .ref f0), (1, .int (iI x))]) hx hb dX2_firstFrom_1 rfl hl (by decide) rfl (fun ls hl => ?_)
  refine lv_sipush (v := iI (512)) hx hb dX2_firstFrom_2 (by decide) ?_
  refine lv_istore_n (lv' := [(3, .int (iI 512)), (2, .int (iI 0)), (0, .ref f0), (1, .int (iI x))]) hx hb dX2_firstFrom_5 rfl hl (by decide) rfl (fun ls hl => ?_)
  have loop6 : ∀ (N : Nat) (xb xw : Int) (H : Heap) (locs : List Loc) (ls : Array Slot), (xw.toNat) < N → (xw = 512 ∨ xw = 256 ∨ xw = 128 ∨ xw = 64 ∨ xw = 32 ∨ xw = 16 ∨ xw = 8 ∨ xw = 4 ∨ xw = 2 ∨ xw = 1 ∨ xw = 0) → (0 ≤ xb ∧ xb ≤ (cnt ky x hd.toNat) ∧ (0 < xw → (cnt ky x hd.toNat) < xb + 2 * xw) ∧ (xw = 0 → (cnt ky x hd.toNat) = xb)) → va_P G.1 vwCl [(f0, .inr (3, [.ref f1, .ref f2, .int (iI hd)])), (f1, .inl (gI G, 1000, .inl (fun j : Nat => iI (ky (j : Int))))), (f2, .inl (gL G, 1000, .inr (.inl (fun j : Nat => lI (fv (j : Int))))))] H → va_D A [(f0, .inr (3, [.ref f1, .ref f2, .int (iI hd)])), (f1, .inl (gI G, 1000, .inl (fun j : Nat => iI (ky (j : Int))))), (f2, .inl (gL G, 1000, .inr (.inl (fun j : Nat => lI (fv (j : Int))))))] → va_S A s.heap H locs → lv_has ls 4 [(0, .ref f0), (1, .int (iI x)), (2, .int (iI xb)), (3, .int (iI xw))] → W p l e (rz 0 0) s m [.ref f0, .int (iI x)].toArray below meth c H locs 0 0 Q (F0 m 6 ls []) := by
    intro N
    induction N with
    | zero => intro xb xw H locs ls hm; exact absurd hm (Nat.not_lt_zero _)
    | succ N ih6 =>
      intro xb xw H locs ls hm jw jb hP hD hS hl
      refine lv_iload_n hx hb dX2_firstFrom_6 rfl (lv_at hl 3 rfl) ?_
      refine z_if_le (tgt := 45) hx hb dX2_firstFrom_7 (by decide) (by omega) (fun c_1 => ?_) (fun c_1 => ?_)
      · skip
        refine lv_iload_n hx hb dX2_firstFrom_45 rfl (lv_at hl 2 rfl) ?_
        have r_2 : (xb : Int) = (cnt ky x hd.toNat) := by omega
        rw [r_2]
        exact hret _ ls H locs dX2_firstFrom_46 hP hD hS
      · skip
        refine lv_iload_n hx hb dX2_firstFrom_10 rfl (lv_at hl 2 rfl) ?_
        refine lv_iload_n hx hb dX2_firstFrom_11 rfl (lv_at hl 3 rfl) ?_
        refine z_iadd hx hb dX2_firstFrom_12 ?_
        refine lv_aload_n hx hb dX2_firstFrom_13 rfl (lv_at hl 0 rfl) ?_
        refine va_get (D := G.1) (ci := 3) (v := .int (iI hd)) (C := RX2) (T := TX2) (N := 3) hx hb hts hiX2 hown hK hP 0 rfl rfl 2 (by decide) hw0 (fun _ h9 => h9) rfl dX2_firstFrom_14 ?_
        refine z_icmp_gt (tgt := 38) hx hb dX2_firstFrom_17 (by decide) (by omega) (fun c_3 => ?_) (fun c_3 => ?_)
        · skip
          refine lv_iload_n hx hb dX2_firstFrom_38 rfl (lv_at hl 3 rfl) ?_
          refine lv_iconst (v := iI (2)) hx hb dX2_firstFrom_39 rfl ?_
          refine z_idiv hx hb dX2_firstFrom_40 (by omega) ?_
          refine z_top (w := .int (iI (xw / 2))) (congrArg _ (congrArg iI (by exact Int.tdiv_eq_ediv_of_nonneg (by omega)))) ?_
          refine lv_istore_n (lv' := [(3, .int (iI (xw / 2))), (0, .ref f0), (1, .int (iI x)), (2, .int (iI xb))]) hx hb dX2_firstFrom_41 rfl hl (by decide) rfl (fun ls hl => ?_)
          refine lv_goto (tgt := 6) hx hb dX2_firstFrom_42 (by decide) ?_
          exact ih6 xb (xw / 2) H locs ls (by omega) (by omega) (by omega) hP hD hS (lv_sub hl [1, 2, 3, 0] rfl)
        · skip
          refine lv_aload_n hx hb dX2_firstFrom_20 rfl (lv_at hl 0 rfl) ?_
          refine va_get (D := G.1) (ci := 3) (v := .ref f1) (C := RX2) (T := TX2) (N := 3) hx hb hts hiX2 hown hK hP 0 rfl rfl 0 (by decide) hw1 (fun _ h9 => h9) rfl dX2_firstFrom_21 ?_
          refine lv_iload_n hx hb dX2_firstFrom_24 rfl (lv_at hl 2 rfl) ?_
          refine lv_iload_n hx hb dX2_firstFrom_25 rfl (lv_at hl 3 rfl) ?_
          refine z_iadd hx hb dX2_firstFrom_26 ?_
          refine lv_iconst (v := iI (1)) hx hb dX2_firstFrom_27 rfl ?_
          refine z_isub hx hb dX2_firstFrom_28 ?_
          refine z_iald hx hb hK hP 1 0 rfl rfl (by omega) dX2_firstFrom_29 ?_
          refine lv_iload_n hx hb dX2_firstFrom_30 rfl (lv_at hl 1 rfl) ?_
          have jq := hcs (xb + xw - 1) (by omega) (by omega)
          refine z_icmp_ge (tgt := 38) hx hb dX2_firstFrom_31 (by decide) (by have := hky (xb + xw - 1) (by omega) (by omega); omega) (fun c_4 => ?_) (fun c_4 => ?_)
          · skip
            refine lv_iload_n hx hb dX2_firstFrom_38 rfl (lv_at hl 3 rfl) ?_
            refine lv_iconst (v := iI (2)) hx hb dX2_firstFrom_39 rfl ?_
            refine z_idiv hx hb dX2_firstFrom_40 (by omega) ?_
            refine z_top (w := .int (iI (xw / 2))) (congrArg _ (congrArg iI (by exact Int.tdiv_eq_ediv_of_nonneg (by omega)))) ?_
            refine lv_istore_n (lv' := [(3, .int (iI (xw / 2))), (0, .ref f0), (1, .int (iI x)), (2, .int (iI xb))]) hx hb dX2_firstFrom_41 rfl hl (by decide) rfl (fun ls hl => ?_)
            refine lv_goto (tgt := 6) hx hb dX2_firstFrom_42 (by decide) ?_
            exact ih6 xb (xw / 2) H locs ls (by omega) (by omega) (by omega) hP hD hS (lv_sub hl [1, 2, 3, 0] rfl)
          · skip
            refine lv_iload_n hx hb dX2_firstFrom_34 rfl (lv_at hl 2 rfl) ?_
            refine lv_iload_n hx hb dX2_firstFrom_35 rfl (lv_at hl 3 rfl) ?_
            refine z_iadd hx hb dX2_firstFrom_36 ?_
            refine lv_istore_n (lv' := [(2, .int (iI (xb + xw))), (0, .ref f0), (1, .int (iI x)), (3, .int (iI xw))]) hx hb dX2_firstFrom_37 rfl hl (by decide) rfl (fun ls hl => ?_)
            refine lv_iload_n hx hb dX2_firstFrom_38 rfl (lv_at hl 3 rfl) ?_
            refine lv_iconst (v := iI (2)) hx hb dX2_firstFrom_39 rfl ?_
            refine z_idiv hx hb dX2_firstFrom_40 (by omega) ?_
            refine z_top (w := .int (iI (xw / 2))) (congrArg _ (congrArg iI (by exact Int.tdiv_eq_ediv_of_nonneg (by omega)))) ?_
            refine lv_istore_n (lv' := [(3, .int (iI (xw / 2))), (2, .int (iI (xb + xw))), (0, .ref f0), (1, .int (iI x))]) hx hb dX2_firstFrom_41 rfl hl (by decide) rfl (fun ls hl => ?_)
            refine lv_goto (tgt := 6) hx hb dX2_firstFrom_42 (by decide) ?_
            exact ih6 (xb + xw) (xw / 2) H locs ls (by omega) (by omega) (by omega) hP hD hS (lv_sub hl [2, 3, 1, 0] rfl)
  exact loop6 _ 0 512 H locs ls (Nat.lt_succ_self _) (by omega) (by omega) hP hD hS (lv_sub hl [2, 3, 1, 0] rfl)

set_option maxHeartbeats 4000000 in
set_option maxRecDepth 100000 in
theorem c_X2_put (l : Launch) (G : Gx) (zz : Nat) (f0 f1 f2 : Nat) (ky fv : Int → Int) (hd : Int) (x v : Int) (hh : 0 ≤ hd ∧ hd ≤ 1000) (hso : SO ky hd) (hky : ∀ j, 0 ≤ j → j < hd → 0 ≤ ky j ∧ ky j < 4000000) (hxr : -2147483648 ≤ x ∧ x < 2147483648) (hlt : hd < 1000) : Cv l yX2_put wsX2_put (rz 1 23) G [.ref f0, .int (iI x), .long (lI v)] [(f0, .inr (3, [.ref f1, .ref f2, .int (iI hd)])), (f1, .inl (gI G, 1000, .inl (fun j : Nat => iI (ky (j : Int))))), (f2, .inl (gL G, 1000, .inr (.inl (fun j : Nat => lI (fv (j : Int))))))] zz [(f0, .inr (3, [.ref f1, .ref f2, .int (iI (pH ky hd x))])), (f1, .inl (gI G, 1000, .inl (fun j : Nat => iI ((pK ky hd x) (j : Int))))), (f2, .inl (gL G, 1000, .inr (.inl (fun j : Nat => lI ((pV ky fv hd x v) (j : Int))))))] := by
  refine met_v (cc := cX2_put) (maxL := 5) (by decide) rfl (Nat.le_of_ble_eq_true rfl) ⟨rfl, rfl⟩ ?_
  intro p e s m below meth c A Q F C hP hD hS hret ls hl
  obtain ⟨hx, hb, hml, hown, hts⟩ := id F
  obtain ⟨hK, hA, hZ, hT, hN⟩ := id C
  have hl : lv_has ls 5 [(0, .ref f0), (1, .int (iI x)), (2, .long (lI v))] := hl
  obtain ⟨H, hH⟩ : ∃ H, H = s.heap := ⟨_, rfl⟩
  obtain ⟨locs, hlocs⟩ : ∃ l : List Loc, l = [] := ⟨_, rfl⟩
  have hS : va_S A s.heap H locs := by rw [hH, hlocs]; exact hS
  have hP : va_P G.1 vwCl [(f0, .inr (3, [.ref f1, .ref f2, .int (iI hd)])), (f1, .inl (gI G, 1000, .inl (fun j : Nat => iI (ky (j : Int))))), (f2, .inl (gL G, 1000, .inr (.inl (fun j : Nat => lI (fv (j : Int))))))] H := by rw [hH]; exact hP
  suffices hgo : W p l e (rz 1 23) s m [.ref f0, .int (iI x), .long (lI v)].toArray below meth c H locs 0 0 Q (F0 m 0 ls []) by rw [hH, hlocs] at hgo; exact hgo
  have hiX2 : ∀ w ∈ wsX20, w ∈ wsX2_put := by decide +kernel
  have hw0 := hts (Cond.fieldLink RX2 19 "PlainCobol$Files" "held" "I") (List.mem_of_getElem? (i := 1) rfl)
  have hw1 := hts (Cond.fieldLink RX2 9 "PlainCobol$Files" "keys" "[I") (List.mem_of_getElem? (i := 2) rfl)
  have hw2 := hts (Cond.methodLink RX2 27 arraycopyName) (List.mem_of_getElem? (i := 4) rfl)
  have hw3 := hts (Cond.native arraycopyName) (List.mem_of_getElem? (i := 5) rfl)
  have hw4 := hts (Cond.static arraycopyName) (List.mem_of_getElem? (i := 6) rfl)
  have hw5 := hts (Cond.initialized "java/lang/System") (List.mem_of_getElem? (i := 7) rfl)
  have hw6 := hts (Cond.fieldLink RX2 15 "PlainCobol$Files" "values" "[J") (List.mem_of_getElem? (i := 3) rfl)
  have hcr := cnt_r ky x hd.toNat
  rw [Int.toNat_of_nonneg hh.1] at hcr
  refine lv_aload_n hx hb dX2_put_0 rfl (lv_at hl 0 rfl) ?_
  refine lv_iload_n hx hb dX2_put_1 rfl (lv_at hl 1 rfl) ?_
  refine z_cVi (RV := (cnt ky x hd.toNat)) (As := [.int (iI x)]) (rest := []) (wc := [(f0, .inr (3, [.ref f1, .ref f2, .int (iI hd)])), (f1, .inl (gI G, 1000, .inl (fun j : Nat => iI (ky (j : Int))))), (f2, .inl (gL G, 1000, .inr (.inl (fun j : Nat => lI (fv (j : Int))))))]) (wr := []) (wn := [(f0, .inr (3, [.ref f1, .ref f2, .int (iI hd)])), (f1, .inl (gI G, 1000, .inl (fun j : Nat => iI (ky (j : Int))))), (f2, .inl (gL G, 1000, .inr (.inl (fun j : Nat => lI (fv (j : Int))))))]) F C (c_X2_firstFrom l G H.size f0 f1 f2 ky fv hd x (by omega) (hso) (hky) (hxr)) (cwV 1 hts gX2_put_X2_firstFrom rfl rfl rfl (by decide +kernel) (by decide)) hP hD hS (q0 := 0) rfl rfl rfl [0, 1, 2] [] rfl rfl (by decide) rfl rfl hl.1 rfl (Nat.le_of_ble_eq_true rfl) dX2_put_2 (by decide) (fun H locs hP hD hS => ?_)
  refine lv_istore (lv' := [(4, .int (iI (cnt ky x hd.toNat))), (0, .ref f0), (1, .int (iI x)), (2, .long (lI v))]) hx hb dX2_put_5 hl (by decide) rfl (fun ls hl => ?_)
  refine lv_iload hx hb dX2_put_7 (lv_at hl 0 rfl) ?_
  refine lv_aload_n hx hb dX2_put_9 rfl (lv_at hl 1 rfl) ?_
  refine va_get (D := G.1) (ci := 3) (v := .int (iI hd)) (C := RX2) (T := TX2) (N := 3) hx hb hts hiX2 hown hK hP 0 rfl rfl 2 (by decide) hw0 (fun _ h9 => h9) rfl dX2_put_10 ?_
  refine z_icmp_ge (tgt := 36) hx hb dX2_put_13 (by decide) (by omega) (fun c_1 => ?_) (fun c_1 => ?_)
  · skip
    refine lv_aload_n hx hb dX2_put_36 rfl (lv_at hl 1 rfl) ?_
    refine va_get (D := G.1) (ci := 3) (v := .int (iI hd)) (C := RX2) (T := TX2) (N := 3) hx hb hts hiX2 hown hK hP 0 rfl rfl 2 (by decide) hw0 (fun _ h9 => h9) rfl dX2_put_37 ?_
    refine lv_aload_n hx hb dX2_put_40 rfl (lv_at hl 1 rfl) ?_
    refine va_get (D := G.1) (ci := 3) (v := .ref f1) (C := RX2) (T := TX2) (N := 3) hx hb hts hiX2 hown hK hP 0 rfl rfl 0 (by decide) hw1 (fun _ h9 => h9) rfl dX2_put_41 ?_
    refine z_alen hx hb hK hP 1 0 rfl rfl dX2_put_44 ?_
    refine z_top (w := .int (iI 1000)) rfl ?_
    refine z_icmp_lt (tgt := 49) hx hb dX2_put_45 (by decide) (by omega) (fun c_2 => ?_) (fun c_2 => ?_)
    · skip
      refine lv_aload_n hx hb dX2_put_49 rfl (lv_at hl 1 rfl) ?_
      refine va_get (D := G.1) (ci := 3) (v := .ref f1) (C := RX2) (T := TX2) (N := 3) hx hb hts hiX2 hown hK hP 0 rfl rfl 0 (by decide) hw1 (fun _ h9 => h9) rfl dX2_put_50 ?_
      refine lv_iload hx hb dX2_put_53 (lv_at hl 0 rfl) ?_
      refine lv_aload_n hx hb dX2_put_55 rfl (lv_at hl 1 rfl) ?_
      refine va_get (D := G.1) (ci := 3) (v := .ref f1) (C := RX2) (T := TX2) (N := 3) hx hb hts hiX2 hown hK hP 0 rfl rfl 0 (by decide) hw1 (fun _ h9 => h9) rfl dX2_put_56 ?_
      refine lv_iload hx hb dX2_put_59 (lv_at hl 0 rfl) ?_
      refine lv_iconst (v := iI (1)) hx hb dX2_put_61 rfl ?_
      refine z_iadd hx hb dX2_put_62 ?_
      refine lv_aload_n hx hb dX2_put_63 rfl (lv_at hl 1 rfl) ?_
      refine va_get (D := G.1) (ci := 3) (v := .int (iI hd)) (C := RX2) (T := TX2) (N := 3) hx hb hts hiX2 hown hK hP 0 rfl rfl 2 (by decide) hw0 (fun _ h9 => h9) rfl dX2_put_64 ?_
      refine lv_iload hx hb dX2_put_67 (lv_at hl 0 rfl) ?_
      refine z_isub hx hb dX2_put_69 ?_
      refine z_copyi hx hb (hml.trans hl.1.symm) hown hw2 hw3 hw4 hw5 hK hP hD hS 1 1 0 rfl rfl rfl (by omega) ⟨by decide, Nat.le_of_ble_eq_true rfl⟩ dX2_put_70 (fun H locs hP hD hS => ?_)
      have hP : va_P G.1 vwCl [(f0, .inr (3, [.ref f1, .ref f2, .int (iI hd)])), (f1, .inl (gI G, 1000, .inl (fun j : Nat => iI ((cF ky ky (cnt ky x hd.toNat) ((cnt ky x hd.toNat) + 1) (hd - (cnt ky x hd.toNat))) (j : Int))))), (f2, .inl (gL G, 1000, .inr (.inl (fun j : Nat => lI (fv (j : Int))))))] H := hP
      have hD : va_D A [(f0, .inr (3, [.ref f1, .ref f2, .int (iI hd)])), (f1, .inl (gI G, 1000, .inl (fun j : Nat => iI ((cF ky ky (cnt ky x hd.toNat) ((cnt ky x hd.toNat) + 1) (hd - (cnt ky x hd.toNat))) (j : Int))))), (f2, .inl (gL G, 1000, .inr (.inl (fun j : Nat => lI (fv (j : Int))))))] := hD
      refine lv_aload_n hx hb dX2_put_73 rfl (lv_at hl 1 rfl) ?_
      refine va_get (D := G.1) (ci := 3) (v := .ref f2) (C := RX2) (T := TX2) (N := 3) hx hb hts hiX2 hown hK hP 0 rfl rfl 1 (by decide) hw6 (fun _ h9 => h9) rfl dX2_put_74 ?_
      refine lv_iload hx hb dX2_put_77 (lv_at hl 0 rfl) ?_
      refine lv_aload_n hx hb dX2_put_79 rfl (lv_at hl 1 rfl) ?_
      refine va_get (D := G.1) (ci := 3) (v := .ref f2) (C := RX2) (T := TX2) (N := 3) hx hb hts hiX2 hown hK hP 0 rfl rfl 1 (by decide) hw6 (fun _ h9 => h9) rfl dX2_put_80 ?_
      refine lv_iload hx hb dX2_put_83 (lv_at hl 0 rfl) ?_
      refine lv_iconst (v := iI (1)) hx hb dX2_put_85 rfl ?_
      refine z_iadd hx hb dX2_put_86 ?_
      refine lv_aload_n hx hb dX2_put_87 rfl (lv_at hl 1 rfl) ?_
      refine va_get (D := G.1) (ci := 3) (v := .int (iI hd)) (C := RX2) (T := TX2) (N := 3) hx hb hts hiX2 hown hK hP 0 rfl rfl 2 (by decide) hw0 (fun _ h9 => h9) rfl dX2_put_88 ?_
      refine lv_iload hx hb dX2_put_91 (lv_at hl 0 rfl) ?_
      refine z_isub hx hb dX2_put_93 ?_
      refine z_copyl hx hb (hml.trans hl.1.symm) hown hw2 hw3 hw4 hw5 hK hP hD hS 2 2 1 rfl rfl rfl (by omega) ⟨by decide, Nat.le_of_ble_eq_true rfl⟩ dX2_put_94 (fun H locs hP hD hS => ?_)
      have hP : va_P G.1 vwCl [(f0, .inr (3, [.ref f1, .ref f2, .int (iI hd)])), (f1, .inl (gI G, 1000, .inl (fun j : Nat => iI ((cF ky ky (cnt ky x hd.toNat) ((cnt ky x hd.toNat) + 1) (hd - (cnt ky x hd.toNat))) (j : Int))))), (f2, .inl (gL G, 1000, .inr (.inl (fun j : Nat => lI ((cF fv fv (cnt ky x hd.toNat) ((cnt ky x hd.toNat) + 1) (hd - (cnt ky x hd.toNat))) (j : Int))))))] H := hP
      have hD : va_D A [(f0, .inr (3, [.ref f1, .ref f2, .int (iI hd)])), (f1, .inl (gI G, 1000, .inl (fun j : Nat => iI ((cF ky ky (cnt ky x hd.toNat) ((cnt ky x hd.toNat) + 1) (hd - (cnt ky x hd.toNat))) (j : Int))))), (f2, .inl (gL G, 1000, .inr (.inl (fun j : Nat => lI ((cF fv fv (cnt ky x hd.toNat) ((cnt ky x hd.toNat) + 1) (hd - (cnt ky x hd.toNat))) (j : Int))))))] := hD
      refine lv_aload_n hx hb dX2_put_97 rfl (lv_at hl 1 rfl) ?_
      refine va_get (D := G.1) (ci := 3) (v := .ref f1) (C := RX2) (T := TX2) (N := 3) hx hb hts hiX2 hown hK hP 0 rfl rfl 0 (by decide) hw1 (fun _ h9 => h9) rfl dX2_put_98 ?_
      refine lv_iload hx hb dX2_put_101 (lv_at hl 0 rfl) ?_
      refine lv_iload_n hx hb dX2_put_103 rfl (lv_at hl 2 rfl) ?_
      refine z_iast hx hb hK hP hD hS 1 0 rfl rfl (by omega) dX2_put_104 (fun H locs hP hD hS => ?_)
      have hP : va_P G.1 vwCl [(f0, .inr (3, [.ref f1, .ref f2, .int (iI hd)])), (f1, .inl (gI G, 1000, .inl (fun j : Nat => iI ((uF (cF ky ky (cnt ky x hd.toNat) ((cnt ky x hd.toNat) + 1) (hd - (cnt ky x hd.toNat))) (cnt ky x hd.toNat) x) (j : Int))))), (f2, .inl (gL G, 1000, .inr (.inl (fun j : Nat => lI ((cF fv fv (cnt ky x hd.toNat) ((cnt ky x hd.toNat) + 1) (hd - (cnt ky x hd.toNat))) (j : Int))))))] H := hP
      have hD : va_D A [(f0, .inr (3, [.ref f1, .ref f2, .int (iI hd)])), (f1, .inl (gI G, 1000, .inl (fun j : Nat => iI ((uF (cF ky ky (cnt ky x hd.toNat) ((cnt ky x hd.toNat) + 1) (hd - (cnt ky x hd.toNat))) (cnt ky x hd.toNat) x) (j : Int))))), (f2, .inl (gL G, 1000, .inr (.inl (fun j : Nat => lI ((cF fv fv (cnt ky x hd.toNat) ((cnt ky x hd.toNat) + 1) (hd - (cnt ky x hd.toNat))) (j : Int))))))] := hD
      refine lv_aload_n hx hb dX2_put_105 rfl (lv_at hl 1 rfl) ?_
      refine va_get (D := G.1) (ci := 3) (v := .ref f2) (C := RX2) (T := TX2) (N := 3) hx hb hts hiX2 hown hK hP 0 rfl rfl 1 (by decide) hw6 (fun _ h9 => h9) rfl dX2_put_106 ?_
      refine lv_iload hx hb dX2_put_109 (lv_at hl 0 rfl) ?_
      refine lv_lload_n hx hb dX2_put_111 rfl (lv_at hl 3 rfl) ?_
      refine z_last hx hb hK hP hD hS 2 1 rfl rfl (by omega) dX2_put_112 (fun H locs hP hD hS => ?_)
      have hP : va_P G.1 vwCl [(f0, .inr (3, [.ref f1, .ref f2, .int (iI hd)])), (f1, .inl (gI G, 1000, .inl (fun j : Nat => iI ((uF (cF ky ky (cnt ky x hd.toNat) ((cnt ky x hd.toNat) + 1) (hd - (cnt ky x hd.toNat))) (cnt ky x hd.toNat) x) (j : Int))))), (f2, .inl (gL G, 1000, .inr (.inl (fun j : Nat => lI ((uF (cF fv fv (cnt ky x hd.toNat) ((cnt ky x hd.toNat) + 1) (hd - (cnt ky x hd.toNat))) (cnt ky x hd.toNat) v) (j : Int))))))] H := hP
      have hD : va_D A [(f0, .inr (3, [.ref f1, .ref f2, .int (iI hd)])), (f1, .inl (gI G, 1000, .inl (fun j : Nat => iI ((uF (cF ky ky (cnt ky x hd.toNat) ((cnt ky x hd.toNat) + 1) (hd - (cnt ky x hd.toNat))) (cnt ky x hd.toNat) x) (j : Int))))), (f2, .inl (gL G, 1000, .inr (.inl (fun j : Nat => lI ((uF (cF fv fv (cnt ky x hd.toNat) ((cnt ky x hd.toNat) + 1) (hd - (cnt ky x hd.toNat))) (cnt ky x hd.toNat) v) (j : Int))))))] := hD
      refine lv_aload_n hx hb dX2_put_113 rfl (lv_at hl 1 rfl) ?_
      refine lv_dup hx hb dX2_put_114 rfl ?_
      refine va_get (D := G.1) (ci := 3) (v := .int (iI hd)) (C := RX2) (T := TX2) (N := 3) hx hb hts hiX2 hown hK hP 0 rfl rfl 2 (by decide) hw0 (fun _ h9 => h9) rfl dX2_put_115 ?_
      refine lv_iconst (v := iI (1)) hx hb dX2_put_118 rfl ?_
      refine z_iadd hx hb dX2_put_119 ?_
      refine va_put (D := G.1) (ci := 3) (v := .int (iI (hd + 1))) (ty := .int) (C := RX2) (T := TX2) (N := 3) hx hb hts hiX2 tyX2 tyX2_ok nmX2 hown hK hP hD hS 0 rfl rfl 2 (by decide) hw0 (fun _ h9 => h9) rfl (by decide +kernel) rfl rfl (Nat.le_of_ble_eq_true rfl) dX2_put_120 (fun H locs hP hD hS => ?_)
      have hP : va_P G.1 vwCl [(f0, .inr (3, [.ref f1, .ref f2, .int (iI (hd + 1))])), (f1, .inl (gI G, 1000, .inl (fun j : Nat => iI ((uF (cF ky ky (cnt ky x hd.toNat) ((cnt ky x hd.toNat) + 1) (hd - (cnt ky x hd.toNat))) (cnt ky x hd.toNat) x) (j : Int))))), (f2, .inl (gL G, 1000, .inr (.inl (fun j : Nat => lI ((uF (cF fv fv (cnt ky x hd.toNat) ((cnt ky x hd.toNat) + 1) (hd - (cnt ky x hd.toNat))) (cnt ky x hd.toNat) v) (j : Int))))))] H := hP
      have hD : va_D A [(f0, .inr (3, [.ref f1, .ref f2, .int (iI (hd + 1))])), (f1, .inl (gI G, 1000, .inl (fun j : Nat => iI ((uF (cF ky ky (cnt ky x hd.toNat) ((cnt ky x hd.toNat) + 1) (hd - (cnt ky x hd.toNat))) (cnt ky x hd.toNat) x) (j : Int))))), (f2, .inl (gL G, 1000, .inr (.inl (fun j : Nat => lI ((uF (cF fv fv (cnt ky x hd.toNat) ((cnt ky x hd.toNat) + 1) (hd - (cnt ky x hd.toNat))) (cnt ky x hd.toNat) v) (j : Int))))))] := hD
      have e_3 : ((hd + 1) : Int) = (pH ky hd x) := by ((first | unfold pK | unfold pV | unfold pH); first | (rw [if_pos (by omega)]; done) | (rw [if_neg (by omega)]; done))
      have e_4 : ((uF (cF ky ky (cnt ky x hd.toNat) ((cnt ky x hd.toNat) + 1) (hd - (cnt ky x hd.toNat))) (cnt ky x hd.toNat) x) : Int → Int) = (pK ky hd x) := by ((first | unfold pK | unfold pV | unfold pH); first | (rw [if_pos (by omega)]; done) | (rw [if_neg (by omega)]; done))
      have e_5 : ((uF (cF fv fv (cnt ky x hd.toNat) ((cnt ky x hd.toNat) + 1) (hd - (cnt ky x hd.toNat))) (cnt ky x hd.toNat) v) : Int → Int) = (pV ky fv hd x v) := by ((first | unfold pK | unfold pV | unfold pH); first | (rw [if_pos (by omega)]; done) | (rw [if_neg (by omega)]; done))
      have hP : va_P G.1 vwCl [(f0, .inr (3, [.ref f1, .ref f2, .int (iI (pH ky hd x))])), (f1, .inl (gI G, 1000, .inl (fun j : Nat => iI ((pK ky hd x) (j : Int))))), (f2, .inl (gL G, 1000, .inr (.inl (fun j : Nat => lI ((pV ky fv hd x v) (j : Int))))))] H := by rw [← e_3, ← e_4, ← e_5]; exact hP
      have hD : va_D A [(f0, .inr (3, [.ref f1, .ref f2, .int (iI (pH ky hd x))])), (f1, .inl (gI G, 1000, .inl (fun j : Nat => iI ((pK ky hd x) (j : Int))))), (f2, .inl (gL G, 1000, .inr (.inl (fun j : Nat => lI ((pV ky fv hd x v) (j : Int))))))] := by rw [← e_3, ← e_4, ← e_5]; exact hD
      exact hret _ ls H locs dX2_put_123 hP hD hS
    · skip
      exfalso; omega
  · skip
    refine lv_aload_n hx hb dX2_put_16 rfl (lv_at hl 1 rfl) ?_
    refine va_get (D := G.1) (ci := 3) (v := .ref f1) (C := RX2) (T := TX2) (N := 3) hx hb hts hiX2 hown hK hP 0 rfl rfl 0 (by decide) hw1 (fun _ h9 => h9) rfl dX2_put_17 ?_
    refine lv_iload hx hb dX2_put_20 (lv_at hl 0 rfl) ?_
    refine z_iald hx hb hK hP 1 0 rfl rfl (by omega) dX2_put_22 ?_
    refine lv_iload_n hx hb dX2_put_23 rfl (lv_at hl 2 rfl) ?_
    refine z_icmp_ne (tgt := 36) hx hb dX2_put_24 (by decide) (by have := hky (cnt ky x hd.toNat) (by omega) (by omega); omega) (fun c_6 => ?_) (fun c_6 => ?_)
    · skip
      refine lv_aload_n hx hb dX2_put_36 rfl (lv_at hl 1 rfl) ?_
      refine va_get (D := G.1) (ci := 3) (v := .int (iI hd)) (C := RX2) (T := TX2) (N := 3) hx hb hts hiX2 hown hK hP 0 rfl rfl 2 (by decide) hw0 (fun _ h9 => h9) rfl dX2_put_37 ?_
      refine lv_aload_n hx hb dX2_put_40 rfl (lv_at hl 1 rfl) ?_
      refine va_get (D := G.1) (ci := 3) (v := .ref f1) (C := RX2) (T := TX2) (N := 3) hx hb hts hiX2 hown hK hP 0 rfl rfl 0 (by decide) hw1 (fun _ h9 => h9) rfl dX2_put_41 ?_
      refine z_alen hx hb hK hP 1 0 rfl rfl dX2_put_44 ?_
      refine z_top (w := .int (iI 1000)) rfl ?_
      refine z_icmp_lt (tgt := 49) hx hb dX2_put_45 (by decide) (by omega) (fun c_7 => ?_) (fun c_7 => ?_)
      · skip
        refine lv_aload_n hx hb dX2_put_49 rfl (lv_at hl 1 rfl) ?_
        refine va_get (D := G.1) (ci := 3) (v := .ref f1) (C := RX2) (T := TX2) (N := 3) hx hb hts hiX2 hown hK hP 0 rfl rfl 0 (by decide) hw1 (fun _ h9 => h9) rfl dX2_put_50 ?_
        refine lv_iload hx hb dX2_put_53 (lv_at hl 0 rfl) ?_
        refine lv_aload_n hx hb dX2_put_55 rfl (lv_at hl 1 rfl) ?_
        refine va_get (D := G.1) (ci := 3) (v := .ref f1) (C := RX2) (T := TX2) (N := 3) hx hb hts hiX2 hown hK hP 0 rfl rfl 0 (by decide) hw1 (fun _ h9 => h9) rfl dX2_put_56 ?_
        refine lv_iload hx hb dX2_put_59 (lv_at hl 0 rfl) ?_
        refine lv_iconst (v := iI (1)) hx hb dX2_put_61 rfl ?_
        refine z_iadd hx hb dX2_put_62 ?_
        refine lv_aload_n hx hb dX2_put_63 rfl (lv_at hl 1 rfl) ?_
        refine va_get (D := G.1) (ci := 3) (v := .int (iI hd)) (C := RX2) (T := TX2) (N := 3) hx hb hts hiX2 hown hK hP 0 rfl rfl 2 (by decide) hw0 (fun _ h9 => h9) rfl dX2_put_64 ?_
        refine lv_iload hx hb dX2_put_67 (lv_at hl 0 rfl) ?_
        refine z_isub hx hb dX2_put_69 ?_
        refine z_copyi hx hb (hml.trans hl.1.symm) hown hw2 hw3 hw4 hw5 hK hP hD hS 1 1 0 rfl rfl rfl (by omega) ⟨by decide, Nat.le_of_ble_eq_true rfl⟩ dX2_put_70 (fun H locs hP hD hS => ?_)
        have hP : va_P G.1 vwCl [(f0, .inr (3, [.ref f1, .ref f2, .int (iI hd)])), (f1, .inl (gI G, 1000, .inl (fun j : Nat => iI ((cF ky ky (cnt ky x hd.toNat) ((cnt ky x hd.toNat) + 1) (hd - (cnt ky x hd.toNat))) (j : Int))))), (f2, .inl (gL G, 1000, .inr (.inl (fun j : Nat => lI (fv (j : Int))))))] H := hP
        have hD : va_D A [(f0, .inr (3, [.ref f1, .ref f2, .int (iI hd)])), (f1, .inl (gI G, 1000, .inl (fun j : Nat => iI ((cF ky ky (cnt ky x hd.toNat) ((cnt ky x hd.toNat) + 1) (hd - (cnt ky x hd.toNat))) (j : Int))))), (f2, .inl (gL G, 1000, .inr (.inl (fun j : Nat => lI (fv (j : Int))))))] := hD
        refine lv_aload_n hx hb dX2_put_73 rfl (lv_at hl 1 rfl) ?_
        refine va_get (D := G.1) (ci := 3) (v := .ref f2) (C := RX2) (T := TX2) (N := 3) hx hb hts hiX2 hown hK hP 0 rfl rfl 1 (by decide) hw6 (fun _ h9 => h9) rfl dX2_put_74 ?_
        refine lv_iload hx hb dX2_put_77 (lv_at hl 0 rfl) ?_
        refine lv_aload_n hx hb dX2_put_79 rfl (lv_at hl 1 rfl) ?_
        refine va_get (D := G.1) (ci := 3) (v := .ref f2) (C := RX2) (T := TX2) (N := 3) hx hb hts hiX2 hown hK hP 0 rfl rfl 1 (by decide) hw6 (fun _ h9 => h9) rfl dX2_put_80 ?_
        refine lv_iload hx hb dX2_put_83 (lv_at hl 0 rfl) ?_
        refine lv_iconst (v := iI (1)) hx hb dX2_put_85 rfl ?_
        refine z_iadd hx hb dX2_put_86 ?_
        refine lv_aload_n hx hb dX2_put_87 rfl (lv_at hl 1 rfl) ?_
        refine va_get (D := G.1) (ci := 3) (v := .int (iI hd)) (C := RX2) (T := TX2) (N := 3) hx hb hts hiX2 hown hK hP 0 rfl rfl 2 (by decide) hw0 (fun _ h9 => h9) rfl dX2_put_88 ?_
        refine lv_iload hx hb dX2_put_91 (lv_at hl 0 rfl) ?_
        refine z_isub hx hb dX2_put_93 ?_
        refine z_copyl hx hb (hml.trans hl.1.symm) hown hw2 hw3 hw4 hw5 hK hP hD hS 2 2 1 rfl rfl rfl (by omega) ⟨by decide, Nat.le_of_ble_eq_true rfl⟩ dX2_put_94 (fun H locs hP hD hS => ?_)
        have hP : va_P G.1 vwCl [(f0, .inr (3, [.ref f1, .ref f2, .int (iI hd)])), (f1, .inl (gI G, 1000, .inl (fun j : Nat => iI ((cF ky ky (cnt ky x hd.toNat) ((cnt ky x hd.toNat) + 1) (hd - (cnt ky x hd.toNat))) (j : Int))))), (f2, .inl (gL G, 1000, .inr (.inl (fun j : Nat => lI ((cF fv fv (cnt ky x hd.toNat) ((cnt ky x hd.toNat) + 1) (hd - (cnt ky x hd.toNat))) (j : Int))))))] H := hP
        have hD : va_D A [(f0, .inr (3, [.ref f1, .ref f2, .int (iI hd)])), (f1, .inl (gI G, 1000, .inl (fun j : Nat => iI ((cF ky ky (cnt ky x hd.toNat) ((cnt ky x hd.toNat) + 1) (hd - (cnt ky x hd.toNat))) (j : Int))))), (f2, .inl (gL G, 1000, .inr (.inl (fun j : Nat => lI ((cF fv fv (cnt ky x hd.toNat) ((cnt ky x hd.toNat) + 1) (hd - (cnt ky x hd.toNat))) (j : Int))))))] := hD
        refine lv_aload_n hx hb dX2_put_97 rfl (lv_at hl 1 rfl) ?_
        refine va_get (D := G.1) (ci := 3) (v := .ref f1) (C := RX2) (T := TX2) (N := 3) hx hb hts hiX2 hown hK hP 0 rfl rfl 0 (by decide) hw1 (fun _ h9 => h9) rfl dX2_put_98 ?_
        refine lv_iload hx hb dX2_put_101 (lv_at hl 0 rfl) ?_
        refine lv_iload_n hx hb dX2_put_103 rfl (lv_at hl 2 rfl) ?_
        refine z_iast hx hb hK hP hD hS 1 0 rfl rfl (by omega) dX2_put_104 (fun H locs hP hD hS => ?_)
        have hP : va_P G.1 vwCl [(f0, .inr (3, [.ref f1, .ref f2, .int (iI hd)])), (f1, .inl (gI G, 1000, .inl (fun j : Nat => iI ((uF (cF ky ky (cnt ky x hd.toNat) ((cnt ky x hd.toNat) + 1) (hd - (cnt ky x hd.toNat))) (cnt ky x hd.toNat) x) (j : Int))))), (f2, .inl (gL G, 1000, .inr (.inl (fun j : Nat => lI ((cF fv fv (cnt ky x hd.toNat) ((cnt ky x hd.toNat) + 1) (hd - (cnt ky x hd.toNat))) (j : Int))))))] H := hP
        have hD : va_D A [(f0, .inr (3, [.ref f1, .ref f2, .int (iI hd)])), (f1, .inl (gI G, 1000, .inl (fun j : Nat => iI ((uF (cF ky ky (cnt ky x hd.toNat) ((cnt ky x hd.toNat) + 1) (hd - (cnt ky x hd.toNat))) (cnt ky x hd.toNat) x) (j : Int))))), (f2, .inl (gL G, 1000, .inr (.inl (fun j : Nat => lI ((cF fv fv (cnt ky x hd.toNat) ((cnt ky x hd.toNat) + 1) (hd - (cnt ky x hd.toNat))) (j : Int))))))] := hD
        refine lv_aload_n hx hb dX2_put_105 rfl (lv_at hl 1 rfl) ?_
        refine va_get (D := G.1) (ci := 3) (v := .ref f2) (C := RX2) (T := TX2) (N := 3) hx hb hts hiX2 hown hK hP 0 rfl rfl 1 (by decide) hw6 (fun _ h9 => h9) rfl dX2_put_106 ?_
        refine lv_iload hx hb dX2_put_109 (lv_at hl 0 rfl) ?_
        refine lv_lload_n hx hb dX2_put_111 rfl (lv_at hl 3 rfl) ?_
        refine z_last hx hb hK hP hD hS 2 1 rfl rfl (by omega) dX2_put_112 (fun H locs hP hD hS => ?_)
        have hP : va_P G.1 vwCl [(f0, .inr (3, [.ref f1, .ref f2, .int (iI hd)])), (f1, .inl (gI G, 1000, .inl (fun j : Nat => iI ((uF (cF ky ky (cnt ky x hd.toNat) ((cnt ky x hd.toNat) + 1) (hd - (cnt ky x hd.toNat))) (cnt ky x hd.toNat) x) (j : Int))))), (f2, .inl (gL G, 1000, .inr (.inl (fun j : Nat => lI ((uF (cF fv fv (cnt ky x hd.toNat) ((cnt ky x hd.toNat) + 1) (hd - (cnt ky x hd.toNat))) (cnt ky x hd.toNat) v) (j : Int))))))] H := hP
        have hD : va_D A [(f0, .inr (3, [.ref f1, .ref f2, .int (iI hd)])), (f1, .inl (gI G, 1000, .inl (fun j : Nat => iI ((uF (cF ky ky (cnt ky x hd.toNat) ((cnt ky x hd.toNat) + 1) (hd - (cnt ky x hd.toNat))) (cnt ky x hd.toNat) x) (j : Int))))), (f2, .inl (gL G, 1000, .inr (.inl (fun j : Nat => lI ((uF (cF fv fv (cnt ky x hd.toNat) ((cnt ky x hd.toNat) + 1) (hd - (cnt ky x hd.toNat))) (cnt ky x hd.toNat) v) (j : Int))))))] := hD
        refine lv_aload_n hx hb dX2_put_113 rfl (lv_at hl 1 rfl) ?_
        refine lv_dup hx hb dX2_put_114 rfl ?_
        refine va_get (D := G.1) (ci := 3) (v := .int (iI hd)) (C := RX2) (T := TX2) (N := 3) hx hb hts hiX2 hown hK hP 0 rfl rfl 2 (by decide) hw0 (fun _ h9 => h9) rfl dX2_put_115 ?_
        refine lv_iconst (v := iI (1)) hx hb dX2_put_118 rfl ?_
        refine z_iadd hx hb dX2_put_119 ?_
        refine va_put (D := G.1) (ci := 3) (v := .int (iI (hd + 1))) (ty := .int) (C := RX2) (T := TX2) (N := 3) hx hb hts hiX2 tyX2 tyX2_ok nmX2 hown hK hP hD hS 0 rfl rfl 2 (by decide) hw0 (fun _ h9 => h9) rfl (by decide +kernel) rfl rfl (Nat.le_of_ble_eq_true rfl) dX2_put_120 (fun H locs hP hD hS => ?_)
        have hP : va_P G.1 vwCl [(f0, .inr (3, [.ref f1, .ref f2, .int (iI (hd + 1))])), (f1, .inl (gI G, 1000, .inl (fun j : Nat => iI ((uF (cF ky ky (cnt ky x hd.toNat) ((cnt ky x hd.toNat) + 1) (hd - (cnt ky x hd.toNat))) (cnt ky x hd.toNat) x) (j : Int))))), (f2, .inl (gL G, 1000, .inr (.inl (fun j : Nat => lI ((uF (cF fv fv (cnt ky x hd.toNat) ((cnt ky x hd.toNat) + 1) (hd - (cnt ky x hd.toNat))) (cnt ky x hd.toNat) v) (j : Int))))))] H := hP
        have hD : va_D A [(f0, .inr (3, [.ref f1, .ref f2, .int (iI (hd + 1))])), (f1, .inl (gI G, 1000, .inl (fun j : Nat => iI ((uF (cF ky ky (cnt ky x hd.toNat) ((cnt ky x hd.toNat) + 1) (hd - (cnt ky x hd.toNat))) (cnt ky x hd.toNat) x) (j : Int))))), (f2, .inl (gL G, 1000, .inr (.inl (fun j : Nat => lI ((uF (cF fv fv (cnt ky x hd.toNat) ((cnt ky x hd.toNat) + 1) (hd - (cnt ky x hd.toNat))) (cnt ky x hd.toNat) v) (j : Int))))))] := hD
        have e_8 : ((hd + 1) : Int) = (pH ky hd x) := by ((first | unfold pK | unfold pV | unfold pH); first | (rw [if_pos (by omega)]; done) | (rw [if_neg (by omega)]; done))
        have e_9 : ((uF (cF ky ky (cnt ky x hd.toNat) ((cnt ky x hd.toNat) + 1) (hd - (cnt ky x hd.toNat))) (cnt ky x hd.toNat) x) : Int → Int) = (pK ky hd x) := by ((first | unfold pK | unfold pV | unfold pH); first | (rw [if_pos (by omega)]; done) | (rw [if_neg (by omega)]; done))
        have e_10 : ((uF (cF fv fv (cnt ky x hd.toNat) ((cnt ky x hd.toNat) + 1) (hd - (cnt ky x hd.toNat))) (cnt ky x hd.toNat) v) : Int → Int) = (pV ky fv hd x v) := by ((first | unfold pK | unfold pV | unfold pH); first | (rw [if_pos (by omega)]; done) | (rw [if_neg (by omega)]; done))
        have hP : va_P G.1 vwCl [(f0, .inr (3, [.ref f1, .ref f2, .int (iI (pH ky hd x))])), (f1, .inl (gI G, 1000, .inl (fun j : Nat => iI ((pK ky hd x) (j : Int))))), (f2, .inl (gL G, 1000, .inr (.inl (fun j : Nat => lI ((pV ky fv hd x v) (j : Int))))))] H := by rw [← e_8, ← e_9, ← e_10]; exact hP
        have hD : va_D A [(f0, .inr (3, [.ref f1, .ref f2, .int (iI (pH ky hd x))])), (f1, .inl (gI G, 1000, .inl (fun j : Nat => iI ((pK ky hd x) (j : Int))))), (f2, .inl (gL G, 1000, .inr (.inl (fun j : Nat => lI ((pV ky fv hd x v) (j : Int))))))] := by rw [← e_8, ← e_9, ← e_10]; exact hD
        exact hret _ ls H locs dX2_put_123 hP hD hS
      · skip
        exfalso; omega
    · skip
      refine lv_aload_n hx hb dX2_put_27 rfl (lv_at hl 1 rfl) ?_
      refine va_get (D := G.1) (ci := 3) (v := .ref f2) (C := RX2) (T := TX2) (N := 3) hx hb hts hiX2 hown hK hP 0 rfl rfl 1 (by decide) hw6 (fun _ h9 => h9) rfl dX2_put_28 ?_
      refine lv_iload hx hb dX2_put_31 (lv_at hl 0 rfl) ?_
      refine lv_lload_n hx hb dX2_put_33 rfl (lv_at hl 3 rfl) ?_
      refine z_last hx hb hK hP hD hS 2 1 rfl rfl (by omega) dX2_put_34 (fun H locs hP hD hS => ?_)
      have hP : va_P G.1 vwCl [(f0, .inr (3, [.ref f1, .ref f2, .int (iI hd)])), (f1, .inl (gI G, 1000, .inl (fun j : Nat => iI (ky (j : Int))))), (f2, .inl (gL G, 1000, .inr (.inl (fun j : Nat => lI ((uF fv (cnt ky x hd.toNat) v) (j : Int))))))] H := hP
      have hD : va_D A [(f0, .inr (3, [.ref f1, .ref f2, .int (iI hd)])), (f1, .inl (gI G, 1000, .inl (fun j : Nat => iI (ky (j : Int))))), (f2, .inl (gL G, 1000, .inr (.inl (fun j : Nat => lI ((uF fv (cnt ky x hd.toNat) v) (j : Int))))))] := hD
      have e_11 : (hd : Int) = (pH ky hd x) := by ((first | unfold pK | unfold pV | unfold pH); first | (rw [if_pos (by omega)]; done) | (rw [if_neg (by omega)]; done))
      have e_12 : (ky : Int → Int) = (pK ky hd x) := by ((first | unfold pK | unfold pV | unfold pH); first | (rw [if_pos (by omega)]; done) | (rw [if_neg (by omega)]; done))
      have e_13 : ((uF fv (cnt ky x hd.toNat) v) : Int → Int) = (pV ky fv hd x v) := by ((first | unfold pK | unfold pV | unfold pH); first | (rw [if_pos (by omega)]; done) | (rw [if_neg (by omega)]; done))
      have hP : va_P G.1 vwCl [(f0, .inr (3, [.ref f1, .ref f2, .int (iI (pH ky hd x))])), (f1, .inl (gI G, 1000, .inl (fun j : Nat => iI ((pK ky hd x) (j : Int))))), (f2, .inl (gL G, 1000, .inr (.inl (fun j : Nat => lI ((pV ky fv hd x v) (j : Int))))))] H := by rw [← e_11, ← e_12, ← e_13]; exact hP
      have hD : va_D A [(f0, .inr (3, [.ref f1, .ref f2, .int (iI (pH ky hd x))])), (f1, .inl (gI G, 1000, .inl (fun j : Nat => iI ((pK ky hd x) (j : Int))))), (f2, .inl (gL G, 1000, .inr (.inl (fun j : Nat => lI ((pV ky fv hd x v) (j : Int))))))] := by rw [← e_11, ← e_12, ← e_13]; exact hD
      exact hret _ ls H locs dX2_put_35 hP hD hS

set_option maxHeartbeats 4000000 in
set_option maxRecDepth 100000 in
theorem c_X2_drop (l : Launch) (G : Gx) (zz : Nat) (f0 f1 f2 : Nat) (ky fv : Int → Int) (hd : Int) (x : Int) (hh : 0 ≤ hd ∧ hd ≤ 1000) (hso : SO ky hd) (hky : ∀ j, 0 ≤ j → j < hd → 0 ≤ ky j ∧ ky j < 4000000) (hxr : -2147483648 ≤ x ∧ x < 2147483648) : Cv l yX2_drop wsX2_drop (rz 1 23) G [.ref f0, .int (iI x)] [(f0, .inr (3, [.ref f1, .ref f2, .int (iI hd)])), (f1, .inl (gI G, 1000, .inl (fun j : Nat => iI (ky (j : Int))))), (f2, .inl (gL G, 1000, .inr (.inl (fun j : Nat => lI (fv (j : Int))))))] zz [(f0, .inr (3, [.ref f1, .ref f2, .int (iI (dH ky hd x))])), (f1, .inl (gI G, 1000, .inl (fun j : Nat => iI ((dK ky ky hd x) (j : Int))))), (f2, .inl (gL G, 1000, .inr (.inl (fun j : Nat => lI ((dK ky fv hd x) (j : Int))))))] := by
  refine met_v (cc := cX2_drop) (maxL := 3) (by decide) rfl (Nat.le_of_ble_eq_true rfl) ⟨rfl, rfl⟩ ?_
  intro p e s m below meth c A Q F C hP hD hS hret ls hl
  obtain ⟨hx, hb, hml, hown, hts⟩ := id F
  obtain ⟨hK, hA, hZ, hT, hN⟩ := id C
  have hl : lv_has ls 3 [(0, .ref f0), (1, .int (iI x))] := hl
  obtain ⟨H, hH⟩ : ∃ H, H = s.heap := ⟨_, rfl⟩
  obtain ⟨locs, hlocs⟩ : ∃ l : List Loc, l = [] := ⟨_, rfl⟩
  have hS : va_S A s.heap H locs := by rw [hH, hlocs]; exact hS
  have hP : va_P G.1 vwCl [(f0, .inr (3, [.ref f1, .ref f2, .int (iI hd)])), (f1, .inl (gI G, 1000, .inl (fun j : Nat => iI (ky (j : Int))))), (f2, .inl (gL G, 1000, .inr (.inl (fun j : Nat => lI (fv (j : Int))))))] H := by rw [hH]; exact hP
  suffices hgo : W p l e (rz 1 23) s m [.ref f0, .int (iI x)].toArray below meth c H locs 0 0 Q (F0 m 0 ls []) by rw [hH, hlocs] at hgo; exact hgo
  have hiX2 : ∀ w ∈ wsX20, w ∈ wsX2_drop := by decide +kernel
  have hw0 := hts (Cond.fieldLink RX2 19 "PlainCobol$Files" "held" "I") (List.mem_of_getElem? (i := 1) rfl)
  have hw1 := hts (Cond.fieldLink RX2 9 "PlainCobol$Files" "keys" "[I") (List.mem_of_getElem? (i := 2) rfl)
  have hw2 := hts (Cond.methodLink RX2 27 arraycopyName) (List.mem_of_getElem? (i := 3) rfl)
  have hw3 := hts (Cond.native arraycopyName) (List.mem_of_getElem? (i := 4) rfl)
  have hw4 := hts (Cond.static arraycopyName) (List.mem_of_getElem? (i := 5) rfl)
  have hw5 := hts (Cond.initialized "java/lang/System") (List.mem_of_getElem? (i := 6) rfl)
  have hw6 := hts (Cond.fieldLink RX2 15 "PlainCobol$Files" "values" "[J") (List.mem_of_getElem? (i := 7) rfl)
  have hcr := cnt_r ky x hd.toNat
  rw [Int.toNat_of_nonneg hh.1] at hcr
  refine lv_aload_n hx hb dX2_drop_0 rfl (lv_at hl 0 rfl) ?_
  refine lv_iload_n hx hb dX2_drop_1 rfl (lv_at hl 1 rfl) ?_
  refine z_cVi (RV := (cnt ky x hd.toNat)) (As := [.int (iI x)]) (rest := []) (wc := [(f0, .inr (3, [.ref f1, .ref f2, .int (iI hd)])), (f1, .inl (gI G, 1000, .inl (fun j : Nat => iI (ky (j : Int))))), (f2, .inl (gL G, 1000, .inr (.inl (fun j : Nat => lI (fv (j : Int))))))]) (wr := []) (wn := [(f0, .inr (3, [.ref f1, .ref f2, .int (iI hd)])), (f1, .inl (gI G, 1000, .inl (fun j : Nat => iI (ky (j : Int))))), (f2, .inl (gL G, 1000, .inr (.inl (fun j : Nat => lI (fv (j : Int))))))]) F C (c_X2_firstFrom l G H.size f0 f1 f2 ky fv hd x (by omega) (hso) (hky) (hxr)) (cwV 1 hts gX2_drop_X2_firstFrom rfl rfl rfl (by decide +kernel) (by decide)) hP hD hS (q0 := 0) rfl rfl rfl [0, 1, 2] [] rfl rfl (by decide) rfl rfl hl.1 rfl (Nat.le_of_ble_eq_true rfl) dX2_drop_2 (by decide) (fun H locs hP hD hS => ?_)
  refine lv_istore_n (lv' := [(2, .int (iI (cnt ky x hd.toNat))), (0, .ref f0), (1, .int (iI x))]) hx hb dX2_drop_5 rfl hl (by decide) rfl (fun ls hl => ?_)
  refine lv_iload_n hx hb dX2_drop_6 rfl (lv_at hl 0 rfl) ?_
  refine lv_aload_n hx hb dX2_drop_7 rfl (lv_at hl 1 rfl) ?_
  refine va_get (D := G.1) (ci := 3) (v := .int (iI hd)) (C := RX2) (T := TX2) (N := 3) hx hb hts hiX2 hown hK hP 0 rfl rfl 2 (by decide) hw0 (fun _ h9 => h9) rfl dX2_drop_8 ?_
  refine z_icmp_ge (tgt := 24) hx hb dX2_drop_11 (by decide) (by omega) (fun c_1 => ?_) (fun c_1 => ?_)
  · skip
    have e_2 : (hd : Int) = (dH ky hd x) := by ((first | unfold dK | unfold dH); first | (rw [if_pos (by omega)]; done) | (rw [if_neg (by omega)]; done))
    have e_3 : (ky : Int → Int) = (dK ky ky hd x) := by ((first | unfold dK | unfold dH); first | (rw [if_pos (by omega)]; done) | (rw [if_neg (by omega)]; done))
    have e_4 : (fv : Int → Int) = (dK ky fv hd x) := by ((first | unfold dK | unfold dH); first | (rw [if_pos (by omega)]; done) | (rw [if_neg (by omega)]; done))
    have hP : va_P G.1 vwCl [(f0, .inr (3, [.ref f1, .ref f2, .int (iI (dH ky hd x))])), (f1, .inl (gI G, 1000, .inl (fun j : Nat => iI ((dK ky ky hd x) (j : Int))))), (f2, .inl (gL G, 1000, .inr (.inl (fun j : Nat => lI ((dK ky fv hd x) (j : Int))))))] H := by rw [← e_2, ← e_3, ← e_4]; exact hP
    have hD : va_D A [(f0, .inr (3, [.ref f1, .ref f2, .int (iI (dH ky hd x))])), (f1, .inl (gI G, 1000, .inl (fun j : Nat => iI ((dK ky ky hd x) (j : Int))))), (f2, .inl (gL G, 1000, .inr (.inl (fun j : Nat => lI ((dK ky fv hd x) (j : Int))))))] := by rw [← e_2, ← e_3, ← e_4]; exact hD
    exact hret _ ls H locs dX2_drop_24 hP hD hS
  · skip
    refine lv_aload_n hx hb dX2_drop_14 rfl (lv_at hl 1 rfl) ?_
    refine va_get (D := G.1) (ci := 3) (v := .ref f1) (C := RX2) (T := TX2) (N := 3) hx hb hts hiX2 hown hK hP 0 rfl rfl 0 (by decide) hw1 (fun _ h9 => h9) rfl dX2_drop_15 ?_
    refine lv_iload_n hx hb dX2_drop_18 rfl (lv_at hl 0 rfl) ?_
    refine z_iald hx hb hK hP 1 0 rfl rfl (by omega) dX2_drop_19 ?_
    refine lv_iload_n hx hb dX2_drop_20 rfl (lv_at hl 2 rfl) ?_
    refine z_icmp_eq (tgt := 25) hx hb dX2_drop_21 (by decide) (by have := hky (cnt ky x hd.toNat) (by omega) (by omega); omega) (fun c_5 => ?_) (fun c_5 => ?_)
    · skip
      refine lv_aload_n hx hb dX2_drop_25 rfl (lv_at hl 1 rfl) ?_
      refine lv_dup hx hb dX2_drop_26 rfl ?_
      refine va_get (D := G.1) (ci := 3) (v := .int (iI hd)) (C := RX2) (T := TX2) (N := 3) hx hb hts hiX2 hown hK hP 0 rfl rfl 2 (by decide) hw0 (fun _ h9 => h9) rfl dX2_drop_27 ?_
      refine lv_iconst (v := iI (1)) hx hb dX2_drop_30 rfl ?_
      refine z_isub hx hb dX2_drop_31 ?_
      refine va_put (D := G.1) (ci := 3) (v := .int (iI (hd - 1))) (ty := .int) (C := RX2) (T := TX2) (N := 3) hx hb hts hiX2 tyX2 tyX2_ok nmX2 hown hK hP hD hS 0 rfl rfl 2 (by decide) hw0 (fun _ h9 => h9) rfl (by decide +kernel) rfl rfl (Nat.le_of_ble_eq_true rfl) dX2_drop_32 (fun H locs hP hD hS => ?_)
      have hP : va_P G.1 vwCl [(f0, .inr (3, [.ref f1, .ref f2, .int (iI (hd - 1))])), (f1, .inl (gI G, 1000, .inl (fun j : Nat => iI (ky (j : Int))))), (f2, .inl (gL G, 1000, .inr (.inl (fun j : Nat => lI (fv (j : Int))))))] H := hP
      have hD : va_D A [(f0, .inr (3, [.ref f1, .ref f2, .int (iI (hd - 1))])), (f1, .inl (gI G, 1000, .inl (fun j : Nat => iI (ky (j : Int))))), (f2, .inl (gL G, 1000, .inr (.inl (fun j : Nat => lI (fv (j : Int))))))] := hD
      refine lv_aload_n hx hb dX2_drop_35 rfl (lv_at hl 1 rfl) ?_
      refine va_get (D := G.1) (ci := 3) (v := .ref f1) (C := RX2) (T := TX2) (N := 3) hx hb hts hiX2 hown hK hP 0 rfl rfl 0 (by decide) hw1 (fun _ h9 => h9) rfl dX2_drop_36 ?_
      refine lv_iload_n hx hb dX2_drop_39 rfl (lv_at hl 0 rfl) ?_
      refine lv_iconst (v := iI (1)) hx hb dX2_drop_40 rfl ?_
      refine z_iadd hx hb dX2_drop_41 ?_
      refine lv_aload_n hx hb dX2_drop_42 rfl (lv_at hl 1 rfl) ?_
      refine va_get (D := G.1) (ci := 3) (v := .ref f1) (C := RX2) (T := TX2) (N := 3) hx hb hts hiX2 hown hK hP 0 rfl rfl 0 (by decide) hw1 (fun _ h9 => h9) rfl dX2_drop_43 ?_
      refine lv_iload_n hx hb dX2_drop_46 rfl (lv_at hl 0 rfl) ?_
      refine lv_aload_n hx hb dX2_drop_47 rfl (lv_at hl 1 rfl) ?_
      refine va_get (D := G.1) (ci := 3) (v := .int (iI (hd - 1))) (C := RX2) (T := TX2) (N := 3) hx hb hts hiX2 hown hK hP 0 rfl rfl 2 (by decide) hw0 (fun _ h9 => h9) rfl dX2_drop_48 ?_
      refine lv_iload_n hx hb dX2_drop_51 rfl (lv_at hl 0 rfl) ?_
      refine z_isub hx hb dX2_drop_52 ?_
      refine z_copyi hx hb (hml.trans hl.1.symm) hown hw2 hw3 hw4 hw5 hK hP hD hS 1 1 0 rfl rfl rfl (by omega) ⟨by decide, Nat.le_of_ble_eq_true rfl⟩ dX2_drop_53 (fun H locs hP hD hS => ?_)
      have hP : va_P G.1 vwCl [(f0, .inr (3, [.ref f1, .ref f2, .int (iI (hd - 1))])), (f1, .inl (gI G, 1000, .inl (fun j : Nat => iI ((cF ky ky ((cnt ky x hd.toNat) + 1) (cnt ky x hd.toNat) ((hd - 1) - (cnt ky x hd.toNat))) (j : Int))))), (f2, .inl (gL G, 1000, .inr (.inl (fun j : Nat => lI (fv (j : Int))))))] H := hP
      have hD : va_D A [(f0, .inr (3, [.ref f1, .ref f2, .int (iI (hd - 1))])), (f1, .inl (gI G, 1000, .inl (fun j : Nat => iI ((cF ky ky ((cnt ky x hd.toNat) + 1) (cnt ky x hd.toNat) ((hd - 1) - (cnt ky x hd.toNat))) (j : Int))))), (f2, .inl (gL G, 1000, .inr (.inl (fun j : Nat => lI (fv (j : Int))))))] := hD
      refine lv_aload_n hx hb dX2_drop_56 rfl (lv_at hl 1 rfl) ?_
      refine va_get (D := G.1) (ci := 3) (v := .ref f2) (C := RX2) (T := TX2) (N := 3) hx hb hts hiX2 hown hK hP 0 rfl rfl 1 (by decide) hw6 (fun _ h9 => h9) rfl dX2_drop_57 ?_
      refine lv_iload_n hx hb dX2_drop_60 rfl (lv_at hl 0 rfl) ?_
      refine lv_iconst (v := iI (1)) hx hb dX2_drop_61 rfl ?_
      refine z_iadd hx hb dX2_drop_62 ?_
      refine lv_aload_n hx hb dX2_drop_63 rfl (lv_at hl 1 rfl) ?_
      refine va_get (D := G.1) (ci := 3) (v := .ref f2) (C := RX2) (T := TX2) (N := 3) hx hb hts hiX2 hown hK hP 0 rfl rfl 1 (by decide) hw6 (fun _ h9 => h9) rfl dX2_drop_64 ?_
      refine lv_iload_n hx hb dX2_drop_67 rfl (lv_at hl 0 rfl) ?_
      refine lv_aload_n hx hb dX2_drop_68 rfl (lv_at hl 1 rfl) ?_
      refine va_get (D := G.1) (ci := 3) (v := .int (iI (hd - 1))) (C := RX2) (T := TX2) (N := 3) hx hb hts hiX2 hown hK hP 0 rfl rfl 2 (by decide) hw0 (fun _ h9 => h9) rfl dX2_drop_69 ?_
      refine lv_iload_n hx hb dX2_drop_72 rfl (lv_at hl 0 rfl) ?_
      refine z_isub hx hb dX2_drop_73 ?_
      refine z_copyl hx hb (hml.trans hl.1.symm) hown hw2 hw3 hw4 hw5 hK hP hD hS 2 2 1 rfl rfl rfl (by omega) ⟨by decide, Nat.le_of_ble_eq_true rfl⟩ dX2_drop_74 (fun H locs hP hD hS => ?_)
      have hP : va_P G.1 vwCl [(f0, .inr (3, [.ref f1, .ref f2, .int (iI (hd - 1))])), (f1, .inl (gI G, 1000, .inl (fun j : Nat => iI ((cF ky ky ((cnt ky x hd.toNat) + 1) (cnt ky x hd.toNat) ((hd - 1) - (cnt ky x hd.toNat))) (j : Int))))), (f2, .inl (gL G, 1000, .inr (.inl (fun j : Nat => lI ((cF fv fv ((cnt ky x hd.toNat) + 1) (cnt ky x hd.toNat) ((hd - 1) - (cnt ky x hd.toNat))) (j : Int))))))] H := hP
      have hD : va_D A [(f0, .inr (3, [.ref f1, .ref f2, .int (iI (hd - 1))])), (f1, .inl (gI G, 1000, .inl (fun j : Nat => iI ((cF ky ky ((cnt ky x hd.toNat) + 1) (cnt ky x hd.toNat) ((hd - 1) - (cnt ky x hd.toNat))) (j : Int))))), (f2, .inl (gL G, 1000, .inr (.inl (fun j : Nat => lI ((cF fv fv ((cnt ky x hd.toNat) + 1) (cnt ky x hd.toNat) ((hd - 1) - (cnt ky x hd.toNat))) (j : Int))))))] := hD
      have e_6 : ((hd - 1) : Int) = (dH ky hd x) := by ((first | unfold dK | unfold dH); first | (rw [if_pos (by omega)]; done) | (rw [if_neg (by omega)]; done))
      have e_7 : ((cF ky ky ((cnt ky x hd.toNat) + 1) (cnt ky x hd.toNat) ((hd - 1) - (cnt ky x hd.toNat))) : Int → Int) = (dK ky ky hd x) := by ((first | unfold dK | unfold dH); first | (rw [if_pos (by omega)]; done) | (rw [if_neg (by omega)]; done))
      have e_8 : ((cF fv fv ((cnt ky x hd.toNat) + 1) (cnt ky x hd.toNat) ((hd - 1) - (cnt ky x hd.toNat))) : Int → Int) = (dK ky fv hd x) := by ((first | unfold dK | unfold dH); first | (rw [if_pos (by omega)]; done) | (rw [if_neg (by omega)]; done))
      have hP : va_P G.1 vwCl [(f0, .inr (3, [.ref f1, .ref f2, .int (iI (dH ky hd x))])), (f1, .inl (gI G, 1000, .inl (fun j : Nat => iI ((dK ky ky hd x) (j : Int))))), (f2, .inl (gL G, 1000, .inr (.inl (fun j : Nat => lI ((dK ky fv hd x) (j : Int))))))] H := by rw [← e_6, ← e_7, ← e_8]; exact hP
      have hD : va_D A [(f0, .inr (3, [.ref f1, .ref f2, .int (iI (dH ky hd x))])), (f1, .inl (gI G, 1000, .inl (fun j : Nat => iI ((dK ky ky hd x) (j : Int))))), (f2, .inl (gL G, 1000, .inr (.inl (fun j : Nat => lI ((dK ky fv hd x) (j : Int))))))] := by rw [← e_6, ← e_7, ← e_8]; exact hD
      exact hret _ ls H locs dX2_drop_77 hP hD hS
    · skip
      have e_9 : (hd : Int) = (dH ky hd x) := by ((first | unfold dK | unfold dH); first | (rw [if_pos (by omega)]; done) | (rw [if_neg (by omega)]; done))
      have e_10 : (ky : Int → Int) = (dK ky ky hd x) := by ((first | unfold dK | unfold dH); first | (rw [if_pos (by omega)]; done) | (rw [if_neg (by omega)]; done))
      have e_11 : (fv : Int → Int) = (dK ky fv hd x) := by ((first | unfold dK | unfold dH); first | (rw [if_pos (by omega)]; done) | (rw [if_neg (by omega)]; done))
      have hP : va_P G.1 vwCl [(f0, .inr (3, [.ref f1, .ref f2, .int (iI (dH ky hd x))])), (f1, .inl (gI G, 1000, .inl (fun j : Nat => iI ((dK ky ky hd x) (j : Int))))), (f2, .inl (gL G, 1000, .inr (.inl (fun j : Nat => lI ((dK ky fv hd x) (j : Int))))))] H := by rw [← e_9, ← e_10, ← e_11]; exact hP
      have hD : va_D A [(f0, .inr (3, [.ref f1, .ref f2, .int (iI (dH ky hd x))])), (f1, .inl (gI G, 1000, .inl (fun j : Nat => iI ((dK ky ky hd x) (j : Int))))), (f2, .inl (gL G, 1000, .inr (.inl (fun j : Nat => lI ((dK ky fv hd x) (j : Int))))))] := by rw [← e_9, ← e_10, ← e_11]; exact hD
      exact hret _ ls H locs dX2_drop_24 hP hD hS

set_option maxHeartbeats 4000000 in
set_option maxRecDepth 100000 in
theorem c_X8_find (l : Launch) (G : Gx) (zz : Nat) (s0 s1 s2 s3 s4 : Nat) (od ab dp sv : Int → Int) (th md : Int) (n : Int) (hth : 0 ≤ th ∧ th ≤ md ∧ md ≤ 100) (hod : ∀ j, 0 ≤ j → j < th → 1 ≤ od j ∧ od j ≤ md) (hdp : ∀ j, 1 ≤ j → j ≤ md → 0 ≤ dp j ∧ dp j ≤ 100) (hn : -2147483648 ≤ n ∧ n < 2147483648) : Ci l yX8_find wsX8_find (rz 0 0) G [.ref s0, .int (iI n)] [(s0, .inr (9, [.ref s1, .ref s2, .ref s3, .ref s4, .int (iI th), .int (iI md)])), (s1, .inl (gI G, 100, .inl (fun j : Nat => iI (od (j : Int))))), (s2, .inl (gI G, 101, .inl (fun j : Nat => iI (ab (j : Int))))), (s3, .inl (gI G, 101, .inl (fun j : Nat => iI (dp (j : Int))))), (s4, .inl (gL G, 101, .inr (.inl (fun j : Nat => lI (sv (j : Int))))))] zz (fi0 od n th.toNat 0) [(s0, .inr (9, [.ref s1, .ref s2, .ref s3, .ref s4, .int (iI th), .int (iI md)])), (s1, .inl (gI G, 100, .inl (fun j : Nat => iI (od (j : Int))))), (s2, .inl (gI G, 101, .inl (fun j : Nat => iI (ab (j : Int))))), (s3, .inl (gI G, 101, .inl (fun j : Nat => iI (dp (j : Int))))), (s4, .inl (gL G, 101, .inr (.inl (fun j : Nat => lI (sv (j : Int))))))] := by
  refine met_i (cc := cX8_find) (maxL := 3) (ret := (some .int)) (by decide) rfl (Nat.le_of_ble_eq_true rfl) rfl rfl ⟨rfl, rfl⟩ ?_
  intro p e s m below meth c A Q F C hP hD hS hret ls hl
  obtain ⟨hx, hb, hml, hown, hts⟩ := id F
  obtain ⟨hK, hA, hZ, hT, hN⟩ := id C
  have hl : lv_has ls 3 [(0, .ref s0), (1, .int (iI n))] := hl
  obtain ⟨H, hH⟩ : ∃ H, H = s.heap := ⟨_, rfl⟩
  obtain ⟨locs, hlocs⟩ : ∃ l : List Loc, l = [] := ⟨_, rfl⟩
  have hS : va_S A s.heap H locs := by rw [hH, hlocs]; exact hS
  have hP : va_P G.1 vwCl [(s0, .inr (9, [.ref s1, .ref s2, .ref s3, .ref s4, .int (iI th), .int (iI md)])), (s1, .inl (gI G, 100, .inl (fun j : Nat => iI (od (j : Int))))), (s2, .inl (gI G, 101, .inl (fun j : Nat => iI (ab (j : Int))))), (s3, .inl (gI G, 101, .inl (fun j : Nat => iI (dp (j : Int))))), (s4, .inl (gL G, 101, .inr (.inl (fun j : Nat => lI (sv (j : Int))))))] H := by rw [hH]; exact hP
  suffices hgo : W p l e (rz 0 0) s m [.ref s0, .int (iI n)].toArray below meth c H locs 0 0 Q (F0 m 0 ls []) by rw [hH, hlocs] at hgo; exact hgo
  have hiX8 : ∀ w ∈ wsX80, w ∈ wsX8_find := by decide +kernel
  have hw0 := hts (Cond.fieldLink RX8 25 "PlainCobol$Segments" "there" "I") (List.mem_of_getElem? (i := 1) rfl)
  have hw1 := hts (Cond.fieldLink RX8 9 "PlainCobol$Segments" "order" "[I") (List.mem_of_getElem? (i := 2) rfl)
  refine lv_iconst (v := iI (0)) hx hb dX8_find_0 rfl ?_
  refine lv_istore_n (lv' := [(2, .int (iI 0)), (0, .ref s0), (1, .int (iI n))]) hx hb dX8_find_1 rfl hl (by decide) rfl (fun ls hl => ?_)
  have loop2 : ∀ (N : Nat) (i : Int) (H : Heap) (locs : List Loc) (ls : Array Slot), ((th - i).toNat) < N → (0 ≤ i ∧ i ≤ th) → (fi0 od n (th - i).toNat i = (fi0 od n th.toNat 0)) → va_P G.1 vwCl [(s0, .inr (9, [.ref s1, .ref s2, .ref s3, .ref s4, .int (iI th), .int (iI md)])), (s1, .inl (gI G, 100, .inl (fun j : Nat => iI (od (j : Int))))), (s2, .inl (gI G, 101, .inl (fun j : Nat => iI (ab (j : Int))))), (s3, .inl (gI G, 101, .inl (fun j : Nat => iI (dp (j : Int))))), (s4, .inl (gL G, 101, .inr (.inl (fun j : Nat => lI (sv (j : Int))))))] H → va_D A [(s0, .inr (9, [.ref s1, .ref s2, .ref s3, .ref s4, .int (iI th), .int (iI md)])), (s1, .inl (gI G, 100, .inl (fun j : Nat => iI (od (j : Int))))), (s2, .inl (gI G, 101, .inl (fun j : Nat => iI (ab (j : Int))))), (s3, .inl (gI G, 101, .inl (fun j : Nat => iI (dp (j : Int))))), (s4, .inl (gL G, 101, .inr (.inl (fun j : Nat => lI (sv (j : Int))))))] → va_S A s.heap H locs → lv_has ls 3 [(0, .ref s0), (1, .int (iI n)), (2, .int (iI i))] → W p l e (rz 0 0) s m [.ref s0, .int (iI n)].toArray below meth c H locs 0 0 Q (F0 m 2 ls []) := by
    intro N
    induction N with
    | zero => intro i H locs ls hm; exact absurd hm (Nat.not_lt_zero _)
    | succ N ih2 =>
      intro i H locs ls hm ji jf hP hD hS hl
      refine lv_iload_n hx hb dX8_find_2 rfl (lv_at hl 2 rfl) ?_
      refine lv_aload_n hx hb dX8_find_3 rfl (lv_at hl 0 rfl) ?_
      refine va_get (D := G.1) (ci := 9) (v := .int (iI th)) (C := RX8) (T := TX8) (N := 6) hx hb hts hiX8 hown hK hP 0 rfl rfl 4 (by decide) hw0 (fun _ h9 => h9) rfl dX8_find_4 ?_
      refine z_icmp_ge (tgt := 28) hx hb dX8_find_7 (by decide) (by omega) (fun c_1 => ?_) (fun c_1 => ?_)
      · skip
        refine lv_iconst (v := iI (-1)) hx hb dX8_find_28 rfl ?_
        have r_2 : ((-1) : Int) = (fi0 od n th.toNat 0) := by rw [← jf]; exact (fi0_out (by omega)).symm
        rw [r_2]
        exact hret _ ls H locs dX8_find_29 hP hD hS
      · skip
        refine lv_aload_n hx hb dX8_find_10 rfl (lv_at hl 0 rfl) ?_
        refine va_get (D := G.1) (ci := 9) (v := .ref s1) (C := RX8) (T := TX8) (N := 6) hx hb hts hiX8 hown hK hP 0 rfl rfl 0 (by decide) hw1 (fun _ h9 => h9) rfl dX8_find_11 ?_
        refine lv_iload_n hx hb dX8_find_14 rfl (lv_at hl 2 rfl) ?_
        refine z_iald hx hb hK hP 1 0 rfl rfl (by omega) dX8_find_15 ?_
        refine lv_iload_n hx hb dX8_find_16 rfl (lv_at hl 1 rfl) ?_
        have jo := hod i (by omega) (by omega)
        refine z_icmp_ne (tgt := 22) hx hb dX8_find_17 (by decide) (by omega) (fun c_3 => ?_) (fun c_3 => ?_)
        · skip
          refine lv_iinc (v := iI (i + 1)) (lv' := [(2, .int (iI (i + 1))), (0, .ref s0), (1, .int (iI n))]) hx hb dX8_find_22 hl (k := 2) rfl (iI_add i (1)) (by decide) rfl (fun ls hl => ?_)
          refine lv_goto (tgt := 2) hx hb dX8_find_25 (by decide) ?_
          exact ih2 (i + 1) H locs ls (by omega) (by omega) (by rw [← jf]; exact (fi0_go (by omega) (by omega)).symm) hP hD hS (lv_sub hl [1, 2, 0] rfl)
        · skip
          refine lv_iload_n hx hb dX8_find_20 rfl (lv_at hl 2 rfl) ?_
          have r_4 : (i : Int) = (fi0 od n th.toNat 0) := by rw [← jf]; exact (fi0_stop (by omega) (by omega)).symm
          rw [r_4]
          exact hret _ ls H locs dX8_find_21 hP hD hS
  exact loop2 _ 0 H locs ls (Nat.lt_succ_self _) (by omega) (by rw [Int.sub_zero]) hP hD hS (lv_sub hl [1, 2, 0] rfl)

set_option maxHeartbeats 4000000 in
set_option maxRecDepth 100000 in
theorem c_X8_endOf (l : Launch) (G : Gx) (zz : Nat) (s0 s1 s2 s3 s4 : Nat) (od ab dp sv : Int → Int) (th md : Int) (p0 : Int) (hth : 0 ≤ th ∧ th ≤ md ∧ md ≤ 100) (hod : ∀ j, 0 ≤ j → j < th → 1 ≤ od j ∧ od j ≤ md) (hdp : ∀ j, 1 ≤ j → j ≤ md → 0 ≤ dp j ∧ dp j ≤ 100) (hn : 0 ≤ p0 ∧ p0 < th) : Ci l yX8_endOf wsX8_endOf (rz 0 0) G [.ref s0, .int (iI p0)] [(s0, .inr (9, [.ref s1, .ref s2, .ref s3, .ref s4, .int (iI th), .int (iI md)])), (s1, .inl (gI G, 100, .inl (fun j : Nat => iI (od (j : Int))))), (s2, .inl (gI G, 101, .inl (fun j : Nat => iI (ab (j : Int))))), (s3, .inl (gI G, 101, .inl (fun j : Nat => iI (dp (j : Int))))), (s4, .inl (gL G, 101, .inr (.inl (fun j : Nat => lI (sv (j : Int))))))] zz (eo od dp (dp (od p0)) (th - (p0 + 1)).toNat (p0 + 1)) [(s0, .inr (9, [.ref s1, .ref s2, .ref s3, .ref s4, .int (iI th), .int (iI md)])), (s1, .inl (gI G, 100, .inl (fun j : Nat => iI (od (j : Int))))), (s2, .inl (gI G, 101, .inl (fun j : Nat => iI (ab (j : Int))))), (s3, .inl (gI G, 101, .inl (fun j : Nat => iI (dp (j : Int))))), (s4, .inl (gL G, 101, .inr (.inl (fun j : Nat => lI (sv (j : Int))))))] := by
  refine met_i (cc := cX8_endOf) (maxL := 4) (ret := (some .int)) (by decide) rfl (Nat.le_of_ble_eq_true rfl) rfl rfl ⟨rfl, rfl⟩ ?_
  intro p e s m below meth c A Q F C hP hD hS hret ls hl
  obtain ⟨hx, hb, hml, hown, hts⟩ := id F
  obtain ⟨hK, hA, hZ, hT, hN⟩ := id C
  have hl : lv_has ls 4 [(0, .ref s0), (1, .int (iI p0))] := hl
  obtain ⟨H, hH⟩ : ∃ H, H = s.heap := ⟨_, rfl⟩
  obtain ⟨locs, hlocs⟩ : ∃ l : List Loc, l = [] := ⟨_, rfl⟩
  have hS : va_S A s.heap H locs := by rw [hH, hlocs]; exact hS
  have hP : va_P G.1 vwCl [(s0, .inr (9, [.ref s1, .ref s2, .ref s3, .ref s4, .int (iI th), .int (iI md)])), (s1, .inl (gI G, 100, .inl (fun j : Nat => iI (od (j : Int))))), (s2, .inl (gI G, 101, .inl (fun j : Nat => iI (ab (j : Int))))), (s3, .inl (gI G, 101, .inl (fun j : Nat => iI (dp (j : Int))))), (s4, .inl (gL G, 101, .inr (.inl (fun j : Nat => lI (sv (j : Int))))))] H := by rw [hH]; exact hP
  suffices hgo : W p l e (rz 0 0) s m [.ref s0, .int (iI p0)].toArray below meth c H locs 0 0 Q (F0 m 0 ls []) by rw [hH, hlocs] at hgo; exact hgo
  have hiX8 : ∀ w ∈ wsX80, w ∈ wsX8_endOf := by decide +kernel
  have hw0 := hts (Cond.fieldLink RX8 18 "PlainCobol$Segments" "depths" "[I") (List.mem_of_getElem? (i := 1) rfl)
  have hw1 := hts (Cond.fieldLink RX8 9 "PlainCobol$Segments" "order" "[I") (List.mem_of_getElem? (i := 2) rfl)
  have hw2 := hts (Cond.fieldLink RX8 25 "PlainCobol$Segments" "there" "I") (List.mem_of_getElem? (i := 3) rfl)
  have jo0 := hod p0 (by omega) (by omega)
  have jd0 := hdp (od p0) jo0.1 jo0.2
  refine lv_aload_n hx hb dX8_endOf_0 rfl (lv_at hl 0 rfl) ?_
  refine va_get (D := G.1) (ci := 9) (v := .ref s3) (C := RX8) (T := TX8) (N := 6) hx hb hts hiX8 hown hK hP 0 rfl rfl 2 (by decide) hw0 (fun _ h9 => h9) rfl dX8_endOf_1 ?_
  refine lv_aload_n hx hb dX8_endOf_4 rfl (lv_at hl 0 rfl) ?_
  refine va_get (D := G.1) (ci := 9) (v := .ref s1) (C := RX8) (T := TX8) (N := 6) hx hb hts hiX8 hown hK hP 0 rfl rfl 0 (by decide) hw1 (fun _ h9 => h9) rfl dX8_endOf_5 ?_
  refine lv_iload_n hx hb dX8_endOf_8 rfl (lv_at hl 1 rfl) ?_
  refine z_iald hx hb hK hP 1 0 rfl rfl (by omega) dX8_endOf_9 ?_
  refine z_iald hx hb hK hP 3 0 rfl rfl (by omega) dX8_endOf_10 ?_
  refine lv_istore_n (lv' := [(2, .int (iI (dp (od p0)))), (0, .ref s0), (1, .int (iI p0))]) hx hb dX8_endOf_11 rfl hl (by decide) rfl (fun ls hl => ?_)
  refine lv_iload_n hx hb dX8_endOf_12 rfl (lv_at hl 2 rfl) ?_
  refine lv_iconst (v := iI (1)) hx hb dX8_endOf_13 rfl ?_
  refine z_iadd hx hb dX8_endOf_14 ?_
  refine lv_istore_n (lv' := [(3, .int (iI (p0 + 1))), (2, .int (iI (dp (od p0)))), (0, .ref s0), (1, .int (iI p0))]) hx hb dX8_endOf_15 rfl hl (by decide) rfl (fun ls hl => ?_)
  have loop16 : ∀ (N : Nat) (i : Int) (H : Heap) (locs : List Loc) (ls : Array Slot), ((th - i).toNat) < N → (p0 + 1 ≤ i ∧ i ≤ th) → (eo od dp (dp (od p0)) (th - i).toNat i = (eo od dp (dp (od p0)) (th - (p0 + 1)).toNat (p0 + 1))) → va_P G.1 vwCl [(s0, .inr (9, [.ref s1, .ref s2, .ref s3, .ref s4, .int (iI th), .int (iI md)])), (s1, .inl (gI G, 100, .inl (fun j : Nat => iI (od (j : Int))))), (s2, .inl (gI G, 101, .inl (fun j : Nat => iI (ab (j : Int))))), (s3, .inl (gI G, 101, .inl (fun j : Nat => iI (dp (j : Int))))), (s4, .inl (gL G, 101, .inr (.inl (fun j : Nat => lI (sv (j : Int))))))] H → va_D A [(s0, .inr (9, [.ref s1, .ref s2, .ref s3, .ref s4, .int (iI th), .int (iI md)])), (s1, .inl (gI G, 100, .inl (fun j : Nat => iI (od (j : Int))))), (s2, .inl (gI G, 101, .inl (fun j : Nat => iI (ab (j : Int))))), (s3, .inl (gI G, 101, .inl (fun j : Nat => iI (dp (j : Int))))), (s4, .inl (gL G, 101, .inr (.inl (fun j : Nat => lI (sv (j : Int))))))] → va_S A s.heap H locs → lv_has ls 4 [(0, .ref s0), (1, .int (iI p0)), (2, .int (iI (dp (od p0)))), (3, .int (iI i))] → W p l e (rz 0 0) s m [.ref s0, .int (iI p0)].toArray below meth c H locs 0 0 Q (F0 m 16 ls []) := by
    intro N
    induction N with
    | zero => intro i H locs ls hm; exact absurd hm (Nat.not_lt_zero _)
    | succ N ih16 =>
      intro i H locs ls hm ji jf hP hD hS hl
      refine lv_iload_n hx hb dX8_endOf_16 rfl (lv_at hl 3 rfl) ?_
      refine lv_aload_n hx hb dX8_endOf_17 rfl (lv_at hl 0 rfl) ?_
      refine va_get (D := G.1) (ci := 9) (v := .int (iI th)) (C := RX8) (T := TX8) (N := 6) hx hb hts hiX8 hown hK hP 0 rfl rfl 4 (by decide) hw2 (fun _ h9 => h9) rfl dX8_endOf_18 ?_
      refine z_icmp_ge (tgt := 45) hx hb dX8_endOf_21 (by decide) (by omega) (fun c_1 => ?_) (fun c_1 => ?_)
      · skip
        refine lv_iload_n hx hb dX8_endOf_45 rfl (lv_at hl 3 rfl) ?_
        have r_2 : (i : Int) = (eo od dp (dp (od p0)) (th - (p0 + 1)).toNat (p0 + 1)) := by rw [← jf]; exact (eo_stop (by omega)).symm
        rw [r_2]
        exact hret _ ls H locs dX8_endOf_46 hP hD hS
      · skip
        have jo := hod i (by omega) (by omega)
        have jd := hdp (od i) jo.1 jo.2
        refine lv_aload_n hx hb dX8_endOf_24 rfl (lv_at hl 0 rfl) ?_
        refine va_get (D := G.1) (ci := 9) (v := .ref s3) (C := RX8) (T := TX8) (N := 6) hx hb hts hiX8 hown hK hP 0 rfl rfl 2 (by decide) hw0 (fun _ h9 => h9) rfl dX8_endOf_25 ?_
        refine lv_aload_n hx hb dX8_endOf_28 rfl (lv_at hl 0 rfl) ?_
        refine va_get (D := G.1) (ci := 9) (v := .ref s1) (C := RX8) (T := TX8) (N := 6) hx hb hts hiX8 hown hK hP 0 rfl rfl 0 (by decide) hw1 (fun _ h9 => h9) rfl dX8_endOf_29 ?_
        refine lv_iload_n hx hb dX8_endOf_32 rfl (lv_at hl 3 rfl) ?_
        refine z_iald hx hb hK hP 1 0 rfl rfl (by omega) dX8_endOf_33 ?_
        refine z_iald hx hb hK hP 3 0 rfl rfl (by omega) dX8_endOf_34 ?_
        refine lv_iload_n hx hb dX8_endOf_35 rfl (lv_at hl 2 rfl) ?_
        refine z_icmp_le (tgt := 45) hx hb dX8_endOf_36 (by decide) (by omega) (fun c_3 => ?_) (fun c_3 => ?_)
        · skip
          refine lv_iload_n hx hb dX8_endOf_45 rfl (lv_at hl 3 rfl) ?_
          have r_4 : (i : Int) = (eo od dp (dp (od p0)) (th - (p0 + 1)).toNat (p0 + 1)) := by rw [← jf]; exact (eo_stop (by omega)).symm
          rw [r_4]
          exact hret _ ls H locs dX8_endOf_46 hP hD hS
        · skip
          refine lv_iinc (v := iI (i + 1)) (lv' := [(3, .int (iI (i + 1))), (0, .ref s0), (1, .int (iI p0)), (2, .int (iI (dp (od p0))))]) hx hb dX8_endOf_39 hl (k := 3) rfl (iI_add i (1)) (by decide) rfl (fun ls hl => ?_)
          refine lv_goto (tgt := 16) hx hb dX8_endOf_42 (by decide) ?_
          exact ih16 (i + 1) H locs ls (by omega) (by omega) (by rw [← jf]; exact (eo_go (by omega) (by omega)).symm) hP hD hS (lv_sub hl [1, 2, 3, 0] rfl)
  exact loop16 _ (p0 + 1) H locs ls (Nat.lt_succ_self _) (by omega) (by rfl) hP hD hS (lv_sub hl [2, 3, 1, 0] rfl)

set_option maxHeartbeats 4000000 in
set_option maxRecDepth 100000 in
theorem c_X8_insert (l : Launch) (G : Gx) (zz : Nat) (s0 s1 s2 s3 s4 : Nat) (od ab dp sv : Int → Int) (th md : Int) (x v : Int) (hth : 0 ≤ th ∧ th ≤ md ∧ md ≤ 100) (hod : ∀ j, 0 ≤ j → j < th → 1 ≤ od j ∧ od j ≤ md) (hdp : ∀ j, 1 ≤ j → j ≤ md → 0 ≤ dp j ∧ dp j ≤ 100) (hx : 0 ≤ x ∧ x ≤ 100) : Cv l yX8_insert wsX8_insert (rz 1 23) G [.ref s0, .int (iI x), .long (lI v)] [(s0, .inr (9, [.ref s1, .ref s2, .ref s3, .ref s4, .int (iI th), .int (iI md)])), (s1, .inl (gI G, 100, .inl (fun j : Nat => iI (od (j : Int))))), (s2, .inl (gI G, 101, .inl (fun j : Nat => iI (ab (j : Int))))), (s3, .inl (gI G, 101, .inl (fun j : Nat => iI (dp (j : Int))))), (s4, .inl (gL G, 101, .inr (.inl (fun j : Nat => lI (sv (j : Int))))))] zz [(s0, .inr (9, [.ref s1, .ref s2, .ref s3, .ref s4, .int (iI (sI (md < 100 ∧ sP0 od th x ≠ -1) th (th + 1))), .int (iI (sI (md < 100 ∧ sP0 od th x ≠ -1) md (md + 1)))])), (s1, .inl (gI G, 100, .inl (fun j : Nat => iI ((sIF (md < 100 ∧ sP0 od th x ≠ -1) od (uF (cF od od (sPL od dp th x) ((sPL od dp th x) + 1) (th - (sPL od dp th x))) (sPL od dp th x) (md + 1))) (j : Int))))), (s2, .inl (gI G, 101, .inl (fun j : Nat => iI ((sIF (md < 100 ∧ sP0 od th x ≠ -1) ab (uF ab (md + 1) x)) (j : Int))))), (s3, .inl (gI G, 101, .inl (fun j : Nat => iI ((sIF (md < 100 ∧ sP0 od th x ≠ -1) dp (uF dp (md + 1) (if x = 0 then 0 else dp x + 1))) (j : Int))))), (s4, .inl (gL G, 101, .inr (.inl (fun j : Nat => lI ((sIF (md < 100 ∧ sP0 od th x ≠ -1) sv (uF sv (md + 1) v)) (j : Int))))))] := by
  refine met_v (cc := cX8_insert) (maxL := 5) (by decide) rfl (Nat.le_of_ble_eq_true rfl) ⟨rfl, rfl⟩ ?_
  intro p e s m below meth c A Q F C hP hD hS hret ls hl
  obtain ⟨hx, hb, hml, hown, hts⟩ := id F
  obtain ⟨hK, hA, hZ, hT, hN⟩ := id C
  have hl : lv_has ls 5 [(0, .ref s0), (1, .int (iI x)), (2, .long (lI v))] := hl
  obtain ⟨H, hH⟩ : ∃ H, H = s.heap := ⟨_, rfl⟩
  obtain ⟨locs, hlocs⟩ : ∃ l : List Loc, l = [] := ⟨_, rfl⟩
  have hS : va_S A s.heap H locs := by rw [hH, hlocs]; exact hS
  have hP : va_P G.1 vwCl [(s0, .inr (9, [.ref s1, .ref s2, .ref s3, .ref s4, .int (iI th), .int (iI md)])), (s1, .inl (gI G, 100, .inl (fun j : Nat => iI (od (j : Int))))), (s2, .inl (gI G, 101, .inl (fun j : Nat => iI (ab (j : Int))))), (s3, .inl (gI G, 101, .inl (fun j : Nat => iI (dp (j : Int))))), (s4, .inl (gL G, 101, .inr (.inl (fun j : Nat => lI (sv (j : Int))))))] H := by rw [hH]; exact hP
  suffices hgo : W p l e (rz 1 23) s m [.ref s0, .int (iI x), .long (lI v)].toArray below meth c H locs 0 0 Q (F0 m 0 ls []) by rw [hH, hlocs] at hgo; exact hgo
  have hiX8 : ∀ w ∈ wsX80, w ∈ wsX8_insert := by decide +kernel
  have hw0 := hts (Cond.fieldLink RX8 33 "PlainCobol$Segments" "made" "I") (List.mem_of_getElem? (i := 2) rfl)
  have hw1 := hts (Cond.fieldLink RX8 15 "PlainCobol$Segments" "above" "[I") (List.mem_of_getElem? (i := 3) rfl)
  have hw2 := hts (Cond.fieldLink RX8 18 "PlainCobol$Segments" "depths" "[I") (List.mem_of_getElem? (i := 4) rfl)
  have hw3 := hts (Cond.fieldLink RX8 21 "PlainCobol$Segments" "values" "[J") (List.mem_of_getElem? (i := 5) rfl)
  have hw4 := hts (Cond.fieldLink RX8 9 "PlainCobol$Segments" "order" "[I") (List.mem_of_getElem? (i := 6) rfl)
  have hw5 := hts (Cond.fieldLink RX8 25 "PlainCobol$Segments" "there" "I") (List.mem_of_getElem? (i := 1) rfl)
  have hw6 := hts (Cond.methodLink RX8 39 arraycopyName) (List.mem_of_getElem? (i := 7) rfl)
  have hw7 := hts (Cond.native arraycopyName) (List.mem_of_getElem? (i := 8) rfl)
  have hw8 := hts (Cond.static arraycopyName) (List.mem_of_getElem? (i := 9) rfl)
  have hw9 := hts (Cond.initialized "java/lang/System") (List.mem_of_getElem? (i := 10) rfl)
  have hp0 : sP0 od th x = (if x = 0 then th else fi0 od x th.toNat 0) := rfl
  have hf0 := fi0_r od x th.toNat 0 (by omega)
  rw [Int.toNat_of_nonneg hth.1] at hf0
  have hp0r : -1 ≤ sP0 od th x ∧ sP0 od th x ≤ th := by rw [hp0]; split <;> omega
  refine lv_iload_n hx hb dX8_insert_0 rfl (lv_at hl 1 rfl) ?_
  have join16 : ∀ (H : Heap) (locs : List Loc), va_P G.1 vwCl [(s0, .inr (9, [.ref s1, .ref s2, .ref s3, .ref s4, .int (iI th), .int (iI md)])), (s1, .inl (gI G, 100, .inl (fun j : Nat => iI (od (j : Int))))), (s2, .inl (gI G, 101, .inl (fun j : Nat => iI (ab (j : Int))))), (s3, .inl (gI G, 101, .inl (fun j : Nat => iI (dp (j : Int))))), (s4, .inl (gL G, 101, .inr (.inl (fun j : Nat => lI (sv (j : Int))))))] H → va_D A [(s0, .inr (9, [.ref s1, .ref s2, .ref s3, .ref s4, .int (iI th), .int (iI md)])), (s1, .inl (gI G, 100, .inl (fun j : Nat => iI (od (j : Int))))), (s2, .inl (gI G, 101, .inl (fun j : Nat => iI (ab (j : Int))))), (s3, .inl (gI G, 101, .inl (fun j : Nat => iI (dp (j : Int))))), (s4, .inl (gL G, 101, .inr (.inl (fun j : Nat => lI (sv (j : Int))))))] → va_S A s.heap H locs → W p l e (rz 1 23) s m [.ref s0, .int (iI x), .long (lI v)].toArray below meth c H locs 0 0 Q (F0 m 16 ls [.int (iI (sP0 od th x))]) := by
    intro H locs hP hD hS
    refine lv_istore (lv' := [(4, .int (iI (sP0 od th x))), (0, .ref s0), (1, .int (iI x)), (2, .long (lI v))]) hx hb dX8_insert_16 hl (by decide) rfl (fun ls hl => ?_)
    refine lv_aload_n hx hb dX8_insert_18 rfl (lv_at hl 1 rfl) ?_
    refine va_get (D := G.1) (ci := 9) (v := .int (iI md)) (C := RX8) (T := TX8) (N := 6) hx hb hts hiX8 hown hK hP 0 rfl rfl 5 (by decide) hw0 (fun _ h9 => h9) rfl dX8_insert_19 ?_
    refine lv_bipush (v := iI (100)) hx hb dX8_insert_22 (by decide) ?_
    refine z_icmp_ge (tgt := 33) hx hb dX8_insert_24 (by decide) (by omega) (fun c_2 => ?_) (fun c_2 => ?_)
    · skip
      have e_3 : (th : Int) = (sI (md < 100 ∧ sP0 od th x ≠ -1) th (th + 1)) := by first | exact (sI_t (by omega)).symm | exact (sI_f (by omega)).symm | exact (sIF_t (by omega)).symm | exact (sIF_f (by omega)).symm | (rw [sIF_t (by omega), hpl])
      have e_4 : (md : Int) = (sI (md < 100 ∧ sP0 od th x ≠ -1) md (md + 1)) := by first | exact (sI_t (by omega)).symm | exact (sI_f (by omega)).symm | exact (sIF_t (by omega)).symm | exact (sIF_f (by omega)).symm | (rw [sIF_t (by omega), hpl])
      have e_5 : (od : Int → Int) = (sIF (md < 100 ∧ sP0 od th x ≠ -1) od (uF (cF od od (sPL od dp th x) ((sPL od dp th x) + 1) (th - (sPL od dp th x))) (sPL od dp th x) (md + 1))) := by first | exact (sI_t (by omega)).symm | exact (sI_f (by omega)).symm | exact (sIF_t (by omega)).symm | exact (sIF_f (by omega)).symm | (rw [sIF_t (by omega), hpl])
      have e_6 : (ab : Int → Int) = (sIF (md < 100 ∧ sP0 od th x ≠ -1) ab (uF ab (md + 1) x)) := by first | exact (sI_t (by omega)).symm | exact (sI_f (by omega)).symm | exact (sIF_t (by omega)).symm | exact (sIF_f (by omega)).symm | (rw [sIF_t (by omega), hpl])
      have e_7 : (dp : Int → Int) = (sIF (md < 100 ∧ sP0 od th x ≠ -1) dp (uF dp (md + 1) (if x = 0 then 0 else dp x + 1))) := by first | exact (sI_t (by omega)).symm | exact (sI_f (by omega)).symm | exact (sIF_t (by omega)).symm | exact (sIF_f (by omega)).symm | (rw [sIF_t (by omega), hpl])
      have e_8 : (sv : Int → Int) = (sIF (md < 100 ∧ sP0 od th x ≠ -1) sv (uF sv (md + 1) v)) := by first | exact (sI_t (by omega)).symm | exact (sI_f (by omega)).symm | exact (sIF_t (by omega)).symm | exact (sIF_f (by omega)).symm | (rw [sIF_t (by omega), hpl])
      have hP : va_P G.1 vwCl [(s0, .inr (9, [.ref s1, .ref s2, .ref s3, .ref s4, .int (iI (sI (md < 100 ∧ sP0 od th x ≠ -1) th (th + 1))), .int (iI (sI (md < 100 ∧ sP0 od th x ≠ -1) md (md + 1)))])), (s1, .inl (gI G, 100, .inl (fun j : Nat => iI ((sIF (md < 100 ∧ sP0 od th x ≠ -1) od (uF (cF od od (sPL od dp th x) ((sPL od dp th x) + 1) (th - (sPL od dp th x))) (sPL od dp th x) (md + 1))) (j : Int))))), (s2, .inl (gI G, 101, .inl (fun j : Nat => iI ((sIF (md < 100 ∧ sP0 od th x ≠ -1) ab (uF ab (md + 1) x)) (j : Int))))), (s3, .inl (gI G, 101, .inl (fun j : Nat => iI ((sIF (md < 100 ∧ sP0 od th x ≠ -1) dp (uF dp (md + 1) (if x = 0 then 0 else dp x + 1))) (j : Int))))), (s4, .inl (gL G, 101, .inr (.inl (fun j : Nat => lI ((sIF (md < 100 ∧ sP0 od th x ≠ -1) sv (uF sv (md + 1) v)) (j : Int))))))] H := by rw [← e_3, ← e_4, ← e_5, ← e_6, ← e_7, ← e_8]; exact hP
      have hD : va_D A [(s0, .inr (9, [.ref s1, .ref s2, .ref s3, .ref s4, .int (iI (sI (md < 100 ∧ sP0 od th x ≠ -1) th (th + 1))), .int (iI (sI (md < 100 ∧ sP0 od th x ≠ -1) md (md + 1)))])), (s1, .inl (gI G, 100, .inl (fun j : Nat => iI ((sIF (md < 100 ∧ sP0 od th x ≠ -1) od (uF (cF od od (sPL od dp th x) ((sPL od dp th x) + 1) (th - (sPL od dp th x))) (sPL od dp th x) (md + 1))) (j : Int))))), (s2, .inl (gI G, 101, .inl (fun j : Nat => iI ((sIF (md < 100 ∧ sP0 od th x ≠ -1) ab (uF ab (md + 1) x)) (j : Int))))), (s3, .inl (gI G, 101, .inl (fun j : Nat => iI ((sIF (md < 100 ∧ sP0 od th x ≠ -1) dp (uF dp (md + 1) (if x = 0 then 0 else dp x + 1))) (j : Int))))), (s4, .inl (gL G, 101, .inr (.inl (fun j : Nat => lI ((sIF (md < 100 ∧ sP0 od th x ≠ -1) sv (uF sv (md + 1) v)) (j : Int))))))] := by rw [← e_3, ← e_4, ← e_5, ← e_6, ← e_7, ← e_8]; exact hD
      exact hret _ ls H locs dX8_insert_33 hP hD hS
    · skip
      refine lv_iload hx hb dX8_insert_27 (lv_at hl 0 rfl) ?_
      refine lv_iconst (v := iI (-1)) hx hb dX8_insert_29 rfl ?_
      refine z_icmp_ne (tgt := 34) hx hb dX8_insert_30 (by decide) (by omega) (fun c_9 => ?_) (fun c_9 => ?_)
      · skip
        refine lv_iload_n hx hb dX8_insert_34 rfl (lv_at hl 2 rfl) ?_
        refine z_if_eq (tgt := 46) hx hb dX8_insert_35 (by decide) (by omega) (fun c_10 => ?_) (fun c_10 => ?_)
        · skip
          have hpl : sPL od dp th x = sP0 od th x := by unfold sPL; rw [if_pos (by omega)]
          have hpr : 0 ≤ sP0 od th x ∧ sP0 od th x ≤ th := by rw [hp0, if_pos (by omega)]; omega
          refine lv_aload_n hx hb dX8_insert_46 rfl (lv_at hl 1 rfl) ?_
          refine lv_dup hx hb dX8_insert_47 rfl ?_
          refine va_get (D := G.1) (ci := 9) (v := .int (iI md)) (C := RX8) (T := TX8) (N := 6) hx hb hts hiX8 hown hK hP 0 rfl rfl 5 (by decide) hw0 (fun _ h9 => h9) rfl dX8_insert_48 ?_
          refine lv_iconst (v := iI (1)) hx hb dX8_insert_51 rfl ?_
          refine z_iadd hx hb dX8_insert_52 ?_
          refine va_put (D := G.1) (ci := 9) (v := .int (iI (md + 1))) (ty := .int) (C := RX8) (T := TX8) (N := 6) hx hb hts hiX8 tyX8 tyX8_ok nmX8 hown hK hP hD hS 0 rfl rfl 5 (by decide) hw0 (fun _ h9 => h9) rfl (by decide +kernel) rfl rfl (Nat.le_of_ble_eq_true rfl) dX8_insert_53 (fun H locs hP hD hS => ?_)
          have hP : va_P G.1 vwCl [(s0, .inr (9, [.ref s1, .ref s2, .ref s3, .ref s4, .int (iI th), .int (iI (md + 1))])), (s1, .inl (gI G, 100, .inl (fun j : Nat => iI (od (j : Int))))), (s2, .inl (gI G, 101, .inl (fun j : Nat => iI (ab (j : Int))))), (s3, .inl (gI G, 101, .inl (fun j : Nat => iI (dp (j : Int))))), (s4, .inl (gL G, 101, .inr (.inl (fun j : Nat => lI (sv (j : Int))))))] H := hP
          have hD : va_D A [(s0, .inr (9, [.ref s1, .ref s2, .ref s3, .ref s4, .int (iI th), .int (iI (md + 1))])), (s1, .inl (gI G, 100, .inl (fun j : Nat => iI (od (j : Int))))), (s2, .inl (gI G, 101, .inl (fun j : Nat => iI (ab (j : Int))))), (s3, .inl (gI G, 101, .inl (fun j : Nat => iI (dp (j : Int))))), (s4, .inl (gL G, 101, .inr (.inl (fun j : Nat => lI (sv (j : Int))))))] := hD
          refine lv_aload_n hx hb dX8_insert_56 rfl (lv_at hl 1 rfl) ?_
          refine va_get (D := G.1) (ci := 9) (v := .ref s2) (C := RX8) (T := TX8) (N := 6) hx hb hts hiX8 hown hK hP 0 rfl rfl 1 (by decide) hw1 (fun _ h9 => h9) rfl dX8_insert_57 ?_
          refine lv_aload_n hx hb dX8_insert_60 rfl (lv_at hl 1 rfl) ?_
          refine va_get (D := G.1) (ci := 9) (v := .int (iI (md + 1))) (C := RX8) (T := TX8) (N := 6) hx hb hts hiX8 hown hK hP 0 rfl rfl 5 (by decide) hw0 (fun _ h9 => h9) rfl dX8_insert_61 ?_
          refine lv_iload_n hx hb dX8_insert_64 rfl (lv_at hl 2 rfl) ?_
          refine z_iast hx hb hK hP hD hS 2 0 rfl rfl (by omega) dX8_insert_65 (fun H locs hP hD hS => ?_)
          have hP : va_P G.1 vwCl [(s0, .inr (9, [.ref s1, .ref s2, .ref s3, .ref s4, .int (iI th), .int (iI (md + 1))])), (s1, .inl (gI G, 100, .inl (fun j : Nat => iI (od (j : Int))))), (s2, .inl (gI G, 101, .inl (fun j : Nat => iI ((uF ab (md + 1) x) (j : Int))))), (s3, .inl (gI G, 101, .inl (fun j : Nat => iI (dp (j : Int))))), (s4, .inl (gL G, 101, .inr (.inl (fun j : Nat => lI (sv (j : Int))))))] H := hP
          have hD : va_D A [(s0, .inr (9, [.ref s1, .ref s2, .ref s3, .ref s4, .int (iI th), .int (iI (md + 1))])), (s1, .inl (gI G, 100, .inl (fun j : Nat => iI (od (j : Int))))), (s2, .inl (gI G, 101, .inl (fun j : Nat => iI ((uF ab (md + 1) x) (j : Int))))), (s3, .inl (gI G, 101, .inl (fun j : Nat => iI (dp (j : Int))))), (s4, .inl (gL G, 101, .inr (.inl (fun j : Nat => lI (sv (j : Int))))))] := hD
          refine lv_aload_n hx hb dX8_insert_66 rfl (lv_at hl 1 rfl) ?_
          refine va_get (D := G.1) (ci := 9) (v := .ref s3) (C := RX8) (T := TX8) (N := 6) hx hb hts hiX8 hown hK hP 0 rfl rfl 2 (by decide) hw2 (fun _ h9 => h9) rfl dX8_insert_67 ?_
          refine lv_aload_n hx hb dX8_insert_70 rfl (lv_at hl 1 rfl) ?_
          refine va_get (D := G.1) (ci := 9) (v := .int (iI (md + 1))) (C := RX8) (T := TX8) (N := 6) hx hb hts hiX8 hown hK hP 0 rfl rfl 5 (by decide) hw0 (fun _ h9 => h9) rfl dX8_insert_71 ?_
          refine lv_iload_n hx hb dX8_insert_74 rfl (lv_at hl 2 rfl) ?_
          have join90 : ∀ (H : Heap) (locs : List Loc), va_P G.1 vwCl [(s0, .inr (9, [.ref s1, .ref s2, .ref s3, .ref s4, .int (iI th), .int (iI (md + 1))])), (s1, .inl (gI G, 100, .inl (fun j : Nat => iI (od (j : Int))))), (s2, .inl (gI G, 101, .inl (fun j : Nat => iI ((uF ab (md + 1) x) (j : Int))))), (s3, .inl (gI G, 101, .inl (fun j : Nat => iI (dp (j : Int))))), (s4, .inl (gL G, 101, .inr (.inl (fun j : Nat => lI (sv (j : Int))))))] H → va_D A [(s0, .inr (9, [.ref s1, .ref s2, .ref s3, .ref s4, .int (iI th), .int (iI (md + 1))])), (s1, .inl (gI G, 100, .inl (fun j : Nat => iI (od (j : Int))))), (s2, .inl (gI G, 101, .inl (fun j : Nat => iI ((uF ab (md + 1) x) (j : Int))))), (s3, .inl (gI G, 101, .inl (fun j : Nat => iI (dp (j : Int))))), (s4, .inl (gL G, 101, .inr (.inl (fun j : Nat => lI (sv (j : Int))))))] → va_S A s.heap H locs → W p l e (rz 1 23) s m [.ref s0, .int (iI x), .long (lI v)].toArray below meth c H locs 0 0 Q (F0 m 90 ls [.int (iI (if x = 0 then 0 else dp x + 1)), .int (iI (md + 1)), .ref s3]) := by
            intro H locs hP hD hS
            refine z_iast hx hb hK hP hD hS 3 0 rfl rfl (by omega) dX8_insert_90 (fun H locs hP hD hS => ?_)
            have hP : va_P G.1 vwCl [(s0, .inr (9, [.ref s1, .ref s2, .ref s3, .ref s4, .int (iI th), .int (iI (md + 1))])), (s1, .inl (gI G, 100, .inl (fun j : Nat => iI (od (j : Int))))), (s2, .inl (gI G, 101, .inl (fun j : Nat => iI ((uF ab (md + 1) x) (j : Int))))), (s3, .inl (gI G, 101, .inl (fun j : Nat => iI ((uF dp (md + 1) (if x = 0 then 0 else dp x + 1)) (j : Int))))), (s4, .inl (gL G, 101, .inr (.inl (fun j : Nat => lI (sv (j : Int))))))] H := hP
            have hD : va_D A [(s0, .inr (9, [.ref s1, .ref s2, .ref s3, .ref s4, .int (iI th), .int (iI (md + 1))])), (s1, .inl (gI G, 100, .inl (fun j : Nat => iI (od (j : Int))))), (s2, .inl (gI G, 101, .inl (fun j : Nat => iI ((uF ab (md + 1) x) (j : Int))))), (s3, .inl (gI G, 101, .inl (fun j : Nat => iI ((uF dp (md + 1) (if x = 0 then 0 else dp x + 1)) (j : Int))))), (s4, .inl (gL G, 101, .inr (.inl (fun j : Nat => lI (sv (j : Int))))))] := hD
            refine lv_aload_n hx hb dX8_insert_91 rfl (lv_at hl 1 rfl) ?_
            refine va_get (D := G.1) (ci := 9) (v := .ref s4) (C := RX8) (T := TX8) (N := 6) hx hb hts hiX8 hown hK hP 0 rfl rfl 3 (by decide) hw3 (fun _ h9 => h9) rfl dX8_insert_92 ?_
            refine lv_aload_n hx hb dX8_insert_95 rfl (lv_at hl 1 rfl) ?_
            refine va_get (D := G.1) (ci := 9) (v := .int (iI (md + 1))) (C := RX8) (T := TX8) (N := 6) hx hb hts hiX8 hown hK hP 0 rfl rfl 5 (by decide) hw0 (fun _ h9 => h9) rfl dX8_insert_96 ?_
            refine lv_lload_n hx hb dX8_insert_99 rfl (lv_at hl 3 rfl) ?_
            refine z_last hx hb hK hP hD hS 4 1 rfl rfl (by omega) dX8_insert_100 (fun H locs hP hD hS => ?_)
            have hP : va_P G.1 vwCl [(s0, .inr (9, [.ref s1, .ref s2, .ref s3, .ref s4, .int (iI th), .int (iI (md + 1))])), (s1, .inl (gI G, 100, .inl (fun j : Nat => iI (od (j : Int))))), (s2, .inl (gI G, 101, .inl (fun j : Nat => iI ((uF ab (md + 1) x) (j : Int))))), (s3, .inl (gI G, 101, .inl (fun j : Nat => iI ((uF dp (md + 1) (if x = 0 then 0 else dp x + 1)) (j : Int))))), (s4, .inl (gL G, 101, .inr (.inl (fun j : Nat => lI ((uF sv (md + 1) v) (j : Int))))))] H := hP
            have hD : va_D A [(s0, .inr (9, [.ref s1, .ref s2, .ref s3, .ref s4, .int (iI th), .int (iI (md + 1))])), (s1, .inl (gI G, 100, .inl (fun j : Nat => iI (od (j : Int))))), (s2, .inl (gI G, 101, .inl (fun j : Nat => iI ((uF ab (md + 1) x) (j : Int))))), (s3, .inl (gI G, 101, .inl (fun j : Nat => iI ((uF dp (md + 1) (if x = 0 then 0 else dp x + 1)) (j : Int))))), (s4, .inl (gL G, 101, .inr (.inl (fun j : Nat => lI ((uF sv (md + 1) v) (j : Int))))))] := hD
            refine lv_aload_n hx hb dX8_insert_101 rfl (lv_at hl 1 rfl) ?_
            refine va_get (D := G.1) (ci := 9) (v := .ref s1) (C := RX8) (T := TX8) (N := 6) hx hb hts hiX8 hown hK hP 0 rfl rfl 0 (by decide) hw4 (fun _ h9 => h9) rfl dX8_insert_102 ?_
            refine lv_iload hx hb dX8_insert_105 (lv_at hl 0 rfl) ?_
            refine lv_aload_n hx hb dX8_insert_107 rfl (lv_at hl 1 rfl) ?_
            refine va_get (D := G.1) (ci := 9) (v := .ref s1) (C := RX8) (T := TX8) (N := 6) hx hb hts hiX8 hown hK hP 0 rfl rfl 0 (by decide) hw4 (fun _ h9 => h9) rfl dX8_insert_108 ?_
            refine lv_iload hx hb dX8_insert_111 (lv_at hl 0 rfl) ?_
            refine lv_iconst (v := iI (1)) hx hb dX8_insert_113 rfl ?_
            refine z_iadd hx hb dX8_insert_114 ?_
            refine lv_aload_n hx hb dX8_insert_115 rfl (lv_at hl 1 rfl) ?_
            refine va_get (D := G.1) (ci := 9) (v := .int (iI th)) (C := RX8) (T := TX8) (N := 6) hx hb hts hiX8 hown hK hP 0 rfl rfl 4 (by decide) hw5 (fun _ h9 => h9) rfl dX8_insert_116 ?_
            refine lv_iload hx hb dX8_insert_119 (lv_at hl 0 rfl) ?_
            refine z_isub hx hb dX8_insert_121 ?_
            refine z_copyi hx hb (hml.trans hl.1.symm) hown hw6 hw7 hw8 hw9 hK hP hD hS 1 1 0 rfl rfl rfl (by omega) ⟨by decide, Nat.le_of_ble_eq_true rfl⟩ dX8_insert_122 (fun H locs hP hD hS => ?_)
            have hP : va_P G.1 vwCl [(s0, .inr (9, [.ref s1, .ref s2, .ref s3, .ref s4, .int (iI th), .int (iI (md + 1))])), (s1, .inl (gI G, 100, .inl (fun j : Nat => iI ((cF od od (sP0 od th x) ((sP0 od th x) + 1) (th - (sP0 od th x))) (j : Int))))), (s2, .inl (gI G, 101, .inl (fun j : Nat => iI ((uF ab (md + 1) x) (j : Int))))), (s3, .inl (gI G, 101, .inl (fun j : Nat => iI ((uF dp (md + 1) (if x = 0 then 0 else dp x + 1)) (j : Int))))), (s4, .inl (gL G, 101, .inr (.inl (fun j : Nat => lI ((uF sv (md + 1) v) (j : Int))))))] H := hP
            have hD : va_D A [(s0, .inr (9, [.ref s1, .ref s2, .ref s3, .ref s4, .int (iI th), .int (iI (md + 1))])), (s1, .inl (gI G, 100, .inl (fun j : Nat => iI ((cF od od (sP0 od th x) ((sP0 od th x) + 1) (th - (sP0 od th x))) (j : Int))))), (s2, .inl (gI G, 101, .inl (fun j : Nat => iI ((uF ab (md + 1) x) (j : Int))))), (s3, .inl (gI G, 101, .inl (fun j : Nat => iI ((uF dp (md + 1) (if x = 0 then 0 else dp x + 1)) (j : Int))))), (s4, .inl (gL G, 101, .inr (.inl (fun j : Nat => lI ((uF sv (md + 1) v) (j : Int))))))] := hD
            refine lv_aload_n hx hb dX8_insert_125 rfl (lv_at hl 1 rfl) ?_
            refine va_get (D := G.1) (ci := 9) (v := .ref s1) (C := RX8) (T := TX8) (N := 6) hx hb hts hiX8 hown hK hP 0 rfl rfl 0 (by decide) hw4 (fun _ h9 => h9) rfl dX8_insert_126 ?_
            refine lv_iload hx hb dX8_insert_129 (lv_at hl 0 rfl) ?_
            refine lv_aload_n hx hb dX8_insert_131 rfl (lv_at hl 1 rfl) ?_
            refine va_get (D := G.1) (ci := 9) (v := .int (iI (md + 1))) (C := RX8) (T := TX8) (N := 6) hx hb hts hiX8 hown hK hP 0 rfl rfl 5 (by decide) hw0 (fun _ h9 => h9) rfl dX8_insert_132 ?_
            refine z_iast hx hb hK hP hD hS 1 0 rfl rfl (by omega) dX8_insert_135 (fun H locs hP hD hS => ?_)
            have hP : va_P G.1 vwCl [(s0, .inr (9, [.ref s1, .ref s2, .ref s3, .ref s4, .int (iI th), .int (iI (md + 1))])), (s1, .inl (gI G, 100, .inl (fun j : Nat => iI ((uF (cF od od (sP0 od th x) ((sP0 od th x) + 1) (th - (sP0 od th x))) (sP0 od th x) (md + 1)) (j : Int))))), (s2, .inl (gI G, 101, .inl (fun j : Nat => iI ((uF ab (md + 1) x) (j : Int))))), (s3, .inl (gI G, 101, .inl (fun j : Nat => iI ((uF dp (md + 1) (if x = 0 then 0 else dp x + 1)) (j : Int))))), (s4, .inl (gL G, 101, .inr (.inl (fun j : Nat => lI ((uF sv (md + 1) v) (j : Int))))))] H := hP
            have hD : va_D A [(s0, .inr (9, [.ref s1, .ref s2, .ref s3, .ref s4, .int (iI th), .int (iI (md + 1))])), (s1, .inl (gI G, 100, .inl (fun j : Nat => iI ((uF (cF od od (sP0 od th x) ((sP0 od th x) + 1) (th - (sP0 od th x))) (sP0 od th x) (md + 1)) (j : Int))))), (s2, .inl (gI G, 101, .inl (fun j : Nat => iI ((uF ab (md + 1) x) (j : Int))))), (s3, .inl (gI G, 101, .inl (fun j : Nat => iI ((uF dp (md + 1) (if x = 0 then 0 else dp x + 1)) (j : Int))))), (s4, .inl (gL G, 101, .inr (.inl (fun j : Nat => lI ((uF sv (md + 1) v) (j : Int))))))] := hD
            refine lv_aload_n hx hb dX8_insert_136 rfl (lv_at hl 1 rfl) ?_
            refine lv_dup hx hb dX8_insert_137 rfl ?_
            refine va_get (D := G.1) (ci := 9) (v := .int (iI th)) (C := RX8) (T := TX8) (N := 6) hx hb hts hiX8 hown hK hP 0 rfl rfl 4 (by decide) hw5 (fun _ h9 => h9) rfl dX8_insert_138 ?_
            refine lv_iconst (v := iI (1)) hx hb dX8_insert_141 rfl ?_
            refine z_iadd hx hb dX8_insert_142 ?_
            refine va_put (D := G.1) (ci := 9) (v := .int (iI (th + 1))) (ty := .int) (C := RX8) (T := TX8) (N := 6) hx hb hts hiX8 tyX8 tyX8_ok nmX8 hown hK hP hD hS 0 rfl rfl 4 (by decide) hw5 (fun _ h9 => h9) rfl (by decide +kernel) rfl rfl (Nat.le_of_ble_eq_true rfl) dX8_insert_143 (fun H locs hP hD hS => ?_)
            have hP : va_P G.1 vwCl [(s0, .inr (9, [.ref s1, .ref s2, .ref s3, .ref s4, .int (iI (th + 1)), .int (iI (md + 1))])), (s1, .inl (gI G, 100, .inl (fun j : Nat => iI ((uF (cF od od (sP0 od th x) ((sP0 od th x) + 1) (th - (sP0 od th x))) (sP0 od th x) (md + 1)) (j : Int))))), (s2, .inl (gI G, 101, .inl (fun j : Nat => iI ((uF ab (md + 1) x) (j : Int))))), (s3, .inl (gI G, 101, .inl (fun j : Nat => iI ((uF dp (md + 1) (if x = 0 then 0 else dp x + 1)) (j : Int))))), (s4, .inl (gL G, 101, .inr (.inl (fun j : Nat => lI ((uF sv (md + 1) v) (j : Int))))))] H := hP
            have hD : va_D A [(s0, .inr (9, [.ref s1, .ref s2, .ref s3, .ref s4, .int (iI (th + 1)), .int (iI (md + 1))])), (s1, .inl (gI G, 100, .inl (fun j : Nat => iI ((uF (cF od od (sP0 od th x) ((sP0 od th x) + 1) (th - (sP0 od th x))) (sP0 od th x) (md + 1)) (j : Int))))), (s2, .inl (gI G, 101, .inl (fun j : Nat => iI ((uF ab (md + 1) x) (j : Int))))), (s3, .inl (gI G, 101, .inl (fun j : Nat => iI ((uF dp (md + 1) (if x = 0 then 0 else dp x + 1)) (j : Int))))), (s4, .inl (gL G, 101, .inr (.inl (fun j : Nat => lI ((uF sv (md + 1) v) (j : Int))))))] := hD
            have e_12 : ((th + 1) : Int) = (sI (md < 100 ∧ sP0 od th x ≠ -1) th (th + 1)) := by first | exact (sI_t (by omega)).symm | exact (sI_f (by omega)).symm | exact (sIF_t (by omega)).symm | exact (sIF_f (by omega)).symm | (rw [sIF_t (by omega), hpl])
            have e_13 : ((md + 1) : Int) = (sI (md < 100 ∧ sP0 od th x ≠ -1) md (md + 1)) := by first | exact (sI_t (by omega)).symm | exact (sI_f (by omega)).symm | exact (sIF_t (by omega)).symm | exact (sIF_f (by omega)).symm | (rw [sIF_t (by omega), hpl])
            have e_14 : ((uF (cF od od (sP0 od th x) ((sP0 od th x) + 1) (th - (sP0 od th x))) (sP0 od th x) (md + 1)) : Int → Int) = (sIF (md < 100 ∧ sP0 od th x ≠ -1) od (uF (cF od od (sPL od dp th x) ((sPL od dp th x) + 1) (th - (sPL od dp th x))) (sPL od dp th x) (md + 1))) := by first | exact (sI_t (by omega)).symm | exact (sI_f (by omega)).symm | exact (sIF_t (by omega)).symm | exact (sIF_f (by omega)).symm | (rw [sIF_t (by omega), hpl])
            have e_15 : ((uF ab (md + 1) x) : Int → Int) = (sIF (md < 100 ∧ sP0 od th x ≠ -1) ab (uF ab (md + 1) x)) := by first | exact (sI_t (by omega)).symm | exact (sI_f (by omega)).symm | exact (sIF_t (by omega)).symm | exact (sIF_f (by omega)).symm | (rw [sIF_t (by omega), hpl])
            have e_16 : ((uF dp (md + 1) (if x = 0 then 0 else dp x + 1)) : Int → Int) = (sIF (md < 100 ∧ sP0 od th x ≠ -1) dp (uF dp (md + 1) (if x = 0 then 0 else dp x + 1))) := by first | exact (sI_t (by omega)).symm | exact (sI_f (by omega)).symm | exact (sIF_t (by omega)).symm | exact (sIF_f (by omega)).symm | (rw [sIF_t (by omega), hpl])
            have e_17 : ((uF sv (md + 1) v) : Int → Int) = (sIF (md < 100 ∧ sP0 od th x ≠ -1) sv (uF sv (md + 1) v)) := by first | exact (sI_t (by omega)).symm | exact (sI_f (by omega)).symm | exact (sIF_t (by omega)).symm | exact (sIF_f (by omega)).symm | (rw [sIF_t (by omega), hpl])
            have hP : va_P G.1 vwCl [(s0, .inr (9, [.ref s1, .ref s2, .ref s3, .ref s4, .int (iI (sI (md < 100 ∧ sP0 od th x ≠ -1) th (th + 1))), .int (iI (sI (md < 100 ∧ sP0 od th x ≠ -1) md (md + 1)))])), (s1, .inl (gI G, 100, .inl (fun j : Nat => iI ((sIF (md < 100 ∧ sP0 od th x ≠ -1) od (uF (cF od od (sPL od dp th x) ((sPL od dp th x) + 1) (th - (sPL od dp th x))) (sPL od dp th x) (md + 1))) (j : Int))))), (s2, .inl (gI G, 101, .inl (fun j : Nat => iI ((sIF (md < 100 ∧ sP0 od th x ≠ -1) ab (uF ab (md + 1) x)) (j : Int))))), (s3, .inl (gI G, 101, .inl (fun j : Nat => iI ((sIF (md < 100 ∧ sP0 od th x ≠ -1) dp (uF dp (md + 1) (if x = 0 then 0 else dp x + 1))) (j : Int))))), (s4, .inl (gL G, 101, .inr (.inl (fun j : Nat => lI ((sIF (md < 100 ∧ sP0 od th x ≠ -1) sv (uF sv (md + 1) v)) (j : Int))))))] H := by rw [← e_12, ← e_13, ← e_14, ← e_15, ← e_16, ← e_17]; exact hP
            have hD : va_D A [(s0, .inr (9, [.ref s1, .ref s2, .ref s3, .ref s4, .int (iI (sI (md < 100 ∧ sP0 od th x ≠ -1) th (th + 1))), .int (iI (sI (md < 100 ∧ sP0 od th x ≠ -1) md (md + 1)))])), (s1, .inl (gI G, 100, .inl (fun j : Nat => iI ((sIF (md < 100 ∧ sP0 od th x ≠ -1) od (uF (cF od od (sPL od dp th x) ((sPL od dp th x) + 1) (th - (sPL od dp th x))) (sPL od dp th x) (md + 1))) (j : Int))))), (s2, .inl (gI G, 101, .inl (fun j : Nat => iI ((sIF (md < 100 ∧ sP0 od th x ≠ -1) ab (uF ab (md + 1) x)) (j : Int))))), (s3, .inl (gI G, 101, .inl (fun j : Nat => iI ((sIF (md < 100 ∧ sP0 od th x ≠ -1) dp (uF dp (md + 1) (if x = 0 then 0 else dp x + 1))) (j : Int))))), (s4, .inl (gL G, 101, .inr (.inl (fun j : Nat => lI ((sIF (md < 100 ∧ sP0 od th x ≠ -1) sv (uF sv (md + 1) v)) (j : Int))))))] := by rw [← e_12, ← e_13, ← e_14, ← e_15, ← e_16, ← e_17]; exact hD
            exact hret _ ls H locs dX8_insert_146 hP hD hS
          refine z_if_ne (tgt := 82) hx hb dX8_insert_75 (by decide) (by omega) (fun c_11 => ?_) (fun c_11 => ?_)
          · skip
            refine lv_aload_n hx hb dX8_insert_82 rfl (lv_at hl 1 rfl) ?_
            refine va_get (D := G.1) (ci := 9) (v := .ref s3) (C := RX8) (T := TX8) (N := 6) hx hb hts hiX8 hown hK hP 0 rfl rfl 2 (by decide) hw2 (fun _ h9 => h9) rfl dX8_insert_83 ?_
            refine lv_iload_n hx hb dX8_insert_86 rfl (lv_at hl 2 rfl) ?_
            refine z_iald hx hb hK hP 3 0 rfl rfl (by omega) dX8_insert_87 ?_
            refine lv_iconst (v := iI (1)) hx hb dX8_insert_88 rfl ?_
            refine z_iadd hx hb dX8_insert_89 ?_
            refine z_top (w := .int (iI (if x = 0 then 0 else dp x + 1))) (congrArg _ (congrArg iI (by first | exact (if_pos (by omega)).symm | exact (if_neg (by omega)).symm))) ?_
            exact join90 H locs hP hD hS
          · skip
            refine lv_iconst (v := iI (0)) hx hb dX8_insert_78 rfl ?_
            refine lv_goto (tgt := 90) hx hb dX8_insert_79 (by decide) ?_
            refine z_top (w := .int (iI (if x = 0 then 0 else dp x + 1))) (congrArg _ (congrArg iI (by first | exact (if_pos (by omega)).symm | exact (if_neg (by omega)).symm))) ?_
            exact join90 H locs hP hD hS
        · skip
          have hfp : sP0 od th x = fi0 od x th.toNat 0 := by rw [hp0, if_neg (by omega)]
          have hpl : sPL od dp th x = eo od dp (dp (od (sP0 od th x))) (th - (sP0 od th x + 1)).toNat (sP0 od th x + 1) := by unfold sPL; rw [if_neg (by omega)]
          have hox : od (sP0 od th x) = x := by rw [hfp]; rw [hfp] at hp0r; omega
          have hxm := hod (sP0 od th x) (by omega) (by omega)
          have hxd := hdp x (by omega) (by omega)
          have her := eo_r od dp (dp (od (sP0 od th x))) (th - (sP0 od th x + 1)).toNat (sP0 od th x + 1)
          refine lv_aload_n hx hb dX8_insert_38 rfl (lv_at hl 1 rfl) ?_
          refine lv_iload hx hb dX8_insert_39 (lv_at hl 0 rfl) ?_
          refine z_cVi (RV := (eo od dp (dp (od (sP0 od th x))) (th - ((sP0 od th x) + 1)).toNat ((sP0 od th x) + 1))) (As := [.int (iI (sP0 od th x))]) (rest := []) (wc := [(s0, .inr (9, [.ref s1, .ref s2, .ref s3, .ref s4, .int (iI th), .int (iI md)])), (s1, .inl (gI G, 100, .inl (fun j : Nat => iI (od (j : Int))))), (s2, .inl (gI G, 101, .inl (fun j : Nat => iI (ab (j : Int))))), (s3, .inl (gI G, 101, .inl (fun j : Nat => iI (dp (j : Int))))), (s4, .inl (gL G, 101, .inr (.inl (fun j : Nat => lI (sv (j : Int))))))]) (wr := []) (wn := [(s0, .inr (9, [.ref s1, .ref s2, .ref s3, .ref s4, .int (iI th), .int (iI md)])), (s1, .inl (gI G, 100, .inl (fun j : Nat => iI (od (j : Int))))), (s2, .inl (gI G, 101, .inl (fun j : Nat => iI (ab (j : Int))))), (s3, .inl (gI G, 101, .inl (fun j : Nat => iI (dp (j : Int))))), (s4, .inl (gL G, 101, .inr (.inl (fun j : Nat => lI (sv (j : Int))))))]) F C (c_X8_endOf l G H.size s0 s1 s2 s3 s4 od ab dp sv th md (sP0 od th x) (hth) (hod) (hdp) (by omega)) (cwV 1 hts gX8_insert_X8_endOf rfl rfl rfl (by decide +kernel) (by decide)) hP hD hS (q0 := 0) rfl rfl rfl [0, 1, 2, 3, 4] [] rfl rfl (by decide) rfl rfl hl.1 rfl (Nat.le_of_ble_eq_true rfl) dX8_insert_41 (by decide) (fun H locs hP hD hS => ?_)
          refine z_top (w := .int (iI (sPL od dp th x))) (congrArg _ (congrArg iI (by exact hpl.symm))) ?_
          rw [← hpl] at her
          refine lv_istore (lv' := [(4, .int (iI (sPL od dp th x))), (0, .ref s0), (1, .int (iI x)), (2, .long (lI v))]) hx hb dX8_insert_44 hl (by decide) rfl (fun ls hl => ?_)
          refine lv_aload_n hx hb dX8_insert_46 rfl (lv_at hl 1 rfl) ?_
          refine lv_dup hx hb dX8_insert_47 rfl ?_
          refine va_get (D := G.1) (ci := 9) (v := .int (iI md)) (C := RX8) (T := TX8) (N := 6) hx hb hts hiX8 hown hK hP 0 rfl rfl 5 (by decide) hw0 (fun _ h9 => h9) rfl dX8_insert_48 ?_
          refine lv_iconst (v := iI (1)) hx hb dX8_insert_51 rfl ?_
          refine z_iadd hx hb dX8_insert_52 ?_
          refine va_put (D := G.1) (ci := 9) (v := .int (iI (md + 1))) (ty := .int) (C := RX8) (T := TX8) (N := 6) hx hb hts hiX8 tyX8 tyX8_ok nmX8 hown hK hP hD hS 0 rfl rfl 5 (by decide) hw0 (fun _ h9 => h9) rfl (by decide +kernel) rfl rfl (Nat.le_of_ble_eq_true rfl) dX8_insert_53 (fun H locs hP hD hS => ?_)
          have hP : va_P G.1 vwCl [(s0, .inr (9, [.ref s1, .ref s2, .ref s3, .ref s4, .int (iI th), .int (iI (md + 1))])), (s1, .inl (gI G, 100, .inl (fun j : Nat => iI (od (j : Int))))), (s2, .inl (gI G, 101, .inl (fun j : Nat => iI (ab (j : Int))))), (s3, .inl (gI G, 101, .inl (fun j : Nat => iI (dp (j : Int))))), (s4, .inl (gL G, 101, .inr (.inl (fun j : Nat => lI (sv (j : Int))))))] H := hP
          have hD : va_D A [(s0, .inr (9, [.ref s1, .ref s2, .ref s3, .ref s4, .int (iI th), .int (iI (md + 1))])), (s1, .inl (gI G, 100, .inl (fun j : Nat => iI (od (j : Int))))), (s2, .inl (gI G, 101, .inl (fun j : Nat => iI (ab (j : Int))))), (s3, .inl (gI G, 101, .inl (fun j : Nat => iI (dp (j : Int))))), (s4, .inl (gL G, 101, .inr (.inl (fun j : Nat => lI (sv (j : Int))))))] := hD
          refine lv_aload_n hx hb dX8_insert_56 rfl (lv_at hl 1 rfl) ?_
          refine va_get (D := G.1) (ci := 9) (v := .ref s2) (C := RX8) (T := TX8) (N := 6) hx hb hts hiX8 hown hK hP 0 rfl rfl 1 (by decide) hw1 (fun _ h9 => h9) rfl dX8_insert_57 ?_
          refine lv_aload_n hx hb dX8_insert_60 rfl (lv_at hl 1 rfl) ?_
          refine va_get (D := G.1) (ci := 9) (v := .int (iI (md + 1))) (C := RX8) (T := TX8) (N := 6) hx hb hts hiX8 hown hK hP 0 rfl rfl 5 (by decide) hw0 (fun _ h9 => h9) rfl dX8_insert_61 ?_
          refine lv_iload_n hx hb dX8_insert_64 rfl (lv_at hl 2 rfl) ?_
          refine z_iast hx hb hK hP hD hS 2 0 rfl rfl (by omega) dX8_insert_65 (fun H locs hP hD hS => ?_)
          have hP : va_P G.1 vwCl [(s0, .inr (9, [.ref s1, .ref s2, .ref s3, .ref s4, .int (iI th), .int (iI (md + 1))])), (s1, .inl (gI G, 100, .inl (fun j : Nat => iI (od (j : Int))))), (s2, .inl (gI G, 101, .inl (fun j : Nat => iI ((uF ab (md + 1) x) (j : Int))))), (s3, .inl (gI G, 101, .inl (fun j : Nat => iI (dp (j : Int))))), (s4, .inl (gL G, 101, .inr (.inl (fun j : Nat => lI (sv (j : Int))))))] H := hP
          have hD : va_D A [(s0, .inr (9, [.ref s1, .ref s2, .ref s3, .ref s4, .int (iI th), .int (iI (md + 1))])), (s1, .inl (gI G, 100, .inl (fun j : Nat => iI (od (j : Int))))), (s2, .inl (gI G, 101, .inl (fun j : Nat => iI ((uF ab (md + 1) x) (j : Int))))), (s3, .inl (gI G, 101, .inl (fun j : Nat => iI (dp (j : Int))))), (s4, .inl (gL G, 101, .inr (.inl (fun j : Nat => lI (sv (j : Int))))))] := hD
          refine lv_aload_n hx hb dX8_insert_66 rfl (lv_at hl 1 rfl) ?_
          refine va_get (D := G.1) (ci := 9) (v := .ref s3) (C := RX8) (T := TX8) (N := 6) hx hb hts hiX8 hown hK hP 0 rfl rfl 2 (by decide) hw2 (fun _ h9 => h9) rfl dX8_insert_67 ?_
          refine lv_aload_n hx hb dX8_insert_70 rfl (lv_at hl 1 rfl) ?_
          refine va_get (D := G.1) (ci := 9) (v := .int (iI (md + 1))) (C := RX8) (T := TX8) (N := 6) hx hb hts hiX8 hown hK hP 0 rfl rfl 5 (by decide) hw0 (fun _ h9 => h9) rfl dX8_insert_71 ?_
          refine lv_iload_n hx hb dX8_insert_74 rfl (lv_at hl 2 rfl) ?_
          have join90 : ∀ (H : Heap) (locs : List Loc), va_P G.1 vwCl [(s0, .inr (9, [.ref s1, .ref s2, .ref s3, .ref s4, .int (iI th), .int (iI (md + 1))])), (s1, .inl (gI G, 100, .inl (fun j : Nat => iI (od (j : Int))))), (s2, .inl (gI G, 101, .inl (fun j : Nat => iI ((uF ab (md + 1) x) (j : Int))))), (s3, .inl (gI G, 101, .inl (fun j : Nat => iI (dp (j : Int))))), (s4, .inl (gL G, 101, .inr (.inl (fun j : Nat => lI (sv (j : Int))))))] H → va_D A [(s0, .inr (9, [.ref s1, .ref s2, .ref s3, .ref s4, .int (iI th), .int (iI (md + 1))])), (s1, .inl (gI G, 100, .inl (fun j : Nat => iI (od (j : Int))))), (s2, .inl (gI G, 101, .inl (fun j : Nat => iI ((uF ab (md + 1) x) (j : Int))))), (s3, .inl (gI G, 101, .inl (fun j : Nat => iI (dp (j : Int))))), (s4, .inl (gL G, 101, .inr (.inl (fun j : Nat => lI (sv (j : Int))))))] → va_S A s.heap H locs → W p l e (rz 1 23) s m [.ref s0, .int (iI x), .long (lI v)].toArray below meth c H locs 0 0 Q (F0 m 90 ls [.int (iI (if x = 0 then 0 else dp x + 1)), .int (iI (md + 1)), .ref s3]) := by
            intro H locs hP hD hS
            refine z_iast hx hb hK hP hD hS 3 0 rfl rfl (by omega) dX8_insert_90 (fun H locs hP hD hS => ?_)
            have hP : va_P G.1 vwCl [(s0, .inr (9, [.ref s1, .ref s2, .ref s3, .ref s4, .int (iI th), .int (iI (md + 1))])), (s1, .inl (gI G, 100, .inl (fun j : Nat => iI (od (j : Int))))), (s2, .inl (gI G, 101, .inl (fun j : Nat => iI ((uF ab (md + 1) x) (j : Int))))), (s3, .inl (gI G, 101, .inl (fun j : Nat => iI ((uF dp (md + 1) (if x = 0 then 0 else dp x + 1)) (j : Int))))), (s4, .inl (gL G, 101, .inr (.inl (fun j : Nat => lI (sv (j : Int))))))] H := hP
            have hD : va_D A [(s0, .inr (9, [.ref s1, .ref s2, .ref s3, .ref s4, .int (iI th), .int (iI (md + 1))])), (s1, .inl (gI G, 100, .inl (fun j : Nat => iI (od (j : Int))))), (s2, .inl (gI G, 101, .inl (fun j : Nat => iI ((uF ab (md + 1) x) (j : Int))))), (s3, .inl (gI G, 101, .inl (fun j : Nat => iI ((uF dp (md + 1) (if x = 0 then 0 else dp x + 1)) (j : Int))))), (s4, .inl (gL G, 101, .inr (.inl (fun j : Nat => lI (sv (j : Int))))))] := hD
            refine lv_aload_n hx hb dX8_insert_91 rfl (lv_at hl 1 rfl) ?_
            refine va_get (D := G.1) (ci := 9) (v := .ref s4) (C := RX8) (T := TX8) (N := 6) hx hb hts hiX8 hown hK hP 0 rfl rfl 3 (by decide) hw3 (fun _ h9 => h9) rfl dX8_insert_92 ?_
            refine lv_aload_n hx hb dX8_insert_95 rfl (lv_at hl 1 rfl) ?_
            refine va_get (D := G.1) (ci := 9) (v := .int (iI (md + 1))) (C := RX8) (T := TX8) (N := 6) hx hb hts hiX8 hown hK hP 0 rfl rfl 5 (by decide) hw0 (fun _ h9 => h9) rfl dX8_insert_96 ?_
            refine lv_lload_n hx hb dX8_insert_99 rfl (lv_at hl 3 rfl) ?_
            refine z_last hx hb hK hP hD hS 4 1 rfl rfl (by omega) dX8_insert_100 (fun H locs hP hD hS => ?_)
            have hP : va_P G.1 vwCl [(s0, .inr (9, [.ref s1, .ref s2, .ref s3, .ref s4, .int (iI th), .int (iI (md + 1))])), (s1, .inl (gI G, 100, .inl (fun j : Nat => iI (od (j : Int))))), (s2, .inl (gI G, 101, .inl (fun j : Nat => iI ((uF ab (md + 1) x) (j : Int))))), (s3, .inl (gI G, 101, .inl (fun j : Nat => iI ((uF dp (md + 1) (if x = 0 then 0 else dp x + 1)) (j : Int))))), (s4, .inl (gL G, 101, .inr (.inl (fun j : Nat => lI ((uF sv (md + 1) v) (j : Int))))))] H := hP
            have hD : va_D A [(s0, .inr (9, [.ref s1, .ref s2, .ref s3, .ref s4, .int (iI th), .int (iI (md + 1))])), (s1, .inl (gI G, 100, .inl (fun j : Nat => iI (od (j : Int))))), (s2, .inl (gI G, 101, .inl (fun j : Nat => iI ((uF ab (md + 1) x) (j : Int))))), (s3, .inl (gI G, 101, .inl (fun j : Nat => iI ((uF dp (md + 1) (if x = 0 then 0 else dp x + 1)) (j : Int))))), (s4, .inl (gL G, 101, .inr (.inl (fun j : Nat => lI ((uF sv (md + 1) v) (j : Int))))))] := hD
            refine lv_aload_n hx hb dX8_insert_101 rfl (lv_at hl 1 rfl) ?_
            refine va_get (D := G.1) (ci := 9) (v := .ref s1) (C := RX8) (T := TX8) (N := 6) hx hb hts hiX8 hown hK hP 0 rfl rfl 0 (by decide) hw4 (fun _ h9 => h9) rfl dX8_insert_102 ?_
            refine lv_iload hx hb dX8_insert_105 (lv_at hl 0 rfl) ?_
            refine lv_aload_n hx hb dX8_insert_107 rfl (lv_at hl 1 rfl) ?_
            refine va_get (D := G.1) (ci := 9) (v := .ref s1) (C := RX8) (T := TX8) (N := 6) hx hb hts hiX8 hown hK hP 0 rfl rfl 0 (by decide) hw4 (fun _ h9 => h9) rfl dX8_insert_108 ?_
            refine lv_iload hx hb dX8_insert_111 (lv_at hl 0 rfl) ?_
            refine lv_iconst (v := iI (1)) hx hb dX8_insert_113 rfl ?_
            refine z_iadd hx hb dX8_insert_114 ?_
            refine lv_aload_n hx hb dX8_insert_115 rfl (lv_at hl 1 rfl) ?_
            refine va_get (D := G.1) (ci := 9) (v := .int (iI th)) (C := RX8) (T := TX8) (N := 6) hx hb hts hiX8 hown hK hP 0 rfl rfl 4 (by decide) hw5 (fun _ h9 => h9) rfl dX8_insert_116 ?_
            refine lv_iload hx hb dX8_insert_119 (lv_at hl 0 rfl) ?_
            refine z_isub hx hb dX8_insert_121 ?_
            refine z_copyi hx hb (hml.trans hl.1.symm) hown hw6 hw7 hw8 hw9 hK hP hD hS 1 1 0 rfl rfl rfl (by omega) ⟨by decide, Nat.le_of_ble_eq_true rfl⟩ dX8_insert_122 (fun H locs hP hD hS => ?_)
            have hP : va_P G.1 vwCl [(s0, .inr (9, [.ref s1, .ref s2, .ref s3, .ref s4, .int (iI th), .int (iI (md + 1))])), (s1, .inl (gI G, 100, .inl (fun j : Nat => iI ((cF od od (sPL od dp th x) ((sPL od dp th x) + 1) (th - (sPL od dp th x))) (j : Int))))), (s2, .inl (gI G, 101, .inl (fun j : Nat => iI ((uF ab (md + 1) x) (j : Int))))), (s3, .inl (gI G, 101, .inl (fun j : Nat => iI ((uF dp (md + 1) (if x = 0 then 0 else dp x + 1)) (j : Int))))), (s4, .inl (gL G, 101, .inr (.inl (fun j : Nat => lI ((uF sv (md + 1) v) (j : Int))))))] H := hP
            have hD : va_D A [(s0, .inr (9, [.ref s1, .ref s2, .ref s3, .ref s4, .int (iI th), .int (iI (md + 1))])), (s1, .inl (gI G, 100, .inl (fun j : Nat => iI ((cF od od (sPL od dp th x) ((sPL od dp th x) + 1) (th - (sPL od dp th x))) (j : Int))))), (s2, .inl (gI G, 101, .inl (fun j : Nat => iI ((uF ab (md + 1) x) (j : Int))))), (s3, .inl (gI G, 101, .inl (fun j : Nat => iI ((uF dp (md + 1) (if x = 0 then 0 else dp x + 1)) (j : Int))))), (s4, .inl (gL G, 101, .inr (.inl (fun j : Nat => lI ((uF sv (md + 1) v) (j : Int))))))] := hD
            refine lv_aload_n hx hb dX8_insert_125 rfl (lv_at hl 1 rfl) ?_
            refine va_get (D := G.1) (ci := 9) (v := .ref s1) (C := RX8) (T := TX8) (N := 6) hx hb hts hiX8 hown hK hP 0 rfl rfl 0 (by decide) hw4 (fun _ h9 => h9) rfl dX8_insert_126 ?_
            refine lv_iload hx hb dX8_insert_129 (lv_at hl 0 rfl) ?_
            refine lv_aload_n hx hb dX8_insert_131 rfl (lv_at hl 1 rfl) ?_
            refine va_get (D := G.1) (ci := 9) (v := .int (iI (md + 1))) (C := RX8) (T := TX8) (N := 6) hx hb hts hiX8 hown hK hP 0 rfl rfl 5 (by decide) hw0 (fun _ h9 => h9) rfl dX8_insert_132 ?_
            refine z_iast hx hb hK hP hD hS 1 0 rfl rfl (by omega) dX8_insert_135 (fun H locs hP hD hS => ?_)
            have hP : va_P G.1 vwCl [(s0, .inr (9, [.ref s1, .ref s2, .ref s3, .ref s4, .int (iI th), .int (iI (md + 1))])), (s1, .inl (gI G, 100, .inl (fun j : Nat => iI ((uF (cF od od (sPL od dp th x) ((sPL od dp th x) + 1) (th - (sPL od dp th x))) (sPL od dp th x) (md + 1)) (j : Int))))), (s2, .inl (gI G, 101, .inl (fun j : Nat => iI ((uF ab (md + 1) x) (j : Int))))), (s3, .inl (gI G, 101, .inl (fun j : Nat => iI ((uF dp (md + 1) (if x = 0 then 0 else dp x + 1)) (j : Int))))), (s4, .inl (gL G, 101, .inr (.inl (fun j : Nat => lI ((uF sv (md + 1) v) (j : Int))))))] H := hP
            have hD : va_D A [(s0, .inr (9, [.ref s1, .ref s2, .ref s3, .ref s4, .int (iI th), .int (iI (md + 1))])), (s1, .inl (gI G, 100, .inl (fun j : Nat => iI ((uF (cF od od (sPL od dp th x) ((sPL od dp th x) + 1) (th - (sPL od dp th x))) (sPL od dp th x) (md + 1)) (j : Int))))), (s2, .inl (gI G, 101, .inl (fun j : Nat => iI ((uF ab (md + 1) x) (j : Int))))), (s3, .inl (gI G, 101, .inl (fun j : Nat => iI ((uF dp (md + 1) (if x = 0 then 0 else dp x + 1)) (j : Int))))), (s4, .inl (gL G, 101, .inr (.inl (fun j : Nat => lI ((uF sv (md + 1) v) (j : Int))))))] := hD
            refine lv_aload_n hx hb dX8_insert_136 rfl (lv_at hl 1 rfl) ?_
            refine lv_dup hx hb dX8_insert_137 rfl ?_
            refine va_get (D := G.1) (ci := 9) (v := .int (iI th)) (C := RX8) (T := TX8) (N := 6) hx hb hts hiX8 hown hK hP 0 rfl rfl 4 (by decide) hw5 (fun _ h9 => h9) rfl dX8_insert_138 ?_
            refine lv_iconst (v := iI (1)) hx hb dX8_insert_141 rfl ?_
            refine z_iadd hx hb dX8_insert_142 ?_
            refine va_put (D := G.1) (ci := 9) (v := .int (iI (th + 1))) (ty := .int) (C := RX8) (T := TX8) (N := 6) hx hb hts hiX8 tyX8 tyX8_ok nmX8 hown hK hP hD hS 0 rfl rfl 4 (by decide) hw5 (fun _ h9 => h9) rfl (by decide +kernel) rfl rfl (Nat.le_of_ble_eq_true rfl) dX8_insert_143 (fun H locs hP hD hS => ?_)
            have hP : va_P G.1 vwCl [(s0, .inr (9, [.ref s1, .ref s2, .ref s3, .ref s4, .int (iI (th + 1)), .int (iI (md + 1))])), (s1, .inl (gI G, 100, .inl (fun j : Nat => iI ((uF (cF od od (sPL od dp th x) ((sPL od dp th x) + 1) (th - (sPL od dp th x))) (sPL od dp th x) (md + 1)) (j : Int))))), (s2, .inl (gI G, 101, .inl (fun j : Nat => iI ((uF ab (md + 1) x) (j : Int))))), (s3, .inl (gI G, 101, .inl (fun j : Nat => iI ((uF dp (md + 1) (if x = 0 then 0 else dp x + 1)) (j : Int))))), (s4, .inl (gL G, 101, .inr (.inl (fun j : Nat => lI ((uF sv (md + 1) v) (j : Int))))))] H := hP
            have hD : va_D A [(s0, .inr (9, [.ref s1, .ref s2, .ref s3, .ref s4, .int (iI (th + 1)), .int (iI (md + 1))])), (s1, .inl (gI G, 100, .inl (fun j : Nat => iI ((uF (cF od od (sPL od dp th x) ((sPL od dp th x) + 1) (th - (sPL od dp th x))) (sPL od dp th x) (md + 1)) (j : Int))))), (s2, .inl (gI G, 101, .inl (fun j : Nat => iI ((uF ab (md + 1) x) (j : Int))))), (s3, .inl (gI G, 101, .inl (fun j : Nat => iI ((uF dp (md + 1) (if x = 0 then 0 else dp x + 1)) (j : Int))))), (s4, .inl (gL G, 101, .inr (.inl (fun j : Nat => lI ((uF sv (md + 1) v) (j : Int))))))] := hD
            have e_19 : ((th + 1) : Int) = (sI (md < 100 ∧ sP0 od th x ≠ -1) th (th + 1)) := by first | exact (sI_t (by omega)).symm | exact (sI_f (by omega)).symm | exact (sIF_t (by omega)).symm | exact (sIF_f (by omega)).symm | (rw [sIF_t (by omega), hpl])
            have e_20 : ((md + 1) : Int) = (sI (md < 100 ∧ sP0 od th x ≠ -1) md (md + 1)) := by first | exact (sI_t (by omega)).symm | exact (sI_f (by omega)).symm | exact (sIF_t (by omega)).symm | exact (sIF_f (by omega)).symm | (rw [sIF_t (by omega), hpl])
            have e_21 : ((uF (cF od od (sPL od dp th x) ((sPL od dp th x) + 1) (th - (sPL od dp th x))) (sPL od dp th x) (md + 1)) : Int → Int) = (sIF (md < 100 ∧ sP0 od th x ≠ -1) od (uF (cF od od (sPL od dp th x) ((sPL od dp th x) + 1) (th - (sPL od dp th x))) (sPL od dp th x) (md + 1))) := by first | exact (sI_t (by omega)).symm | exact (sI_f (by omega)).symm | exact (sIF_t (by omega)).symm | exact (sIF_f (by omega)).symm | (rw [sIF_t (by omega), hpl])
            have e_22 : ((uF ab (md + 1) x) : Int → Int) = (sIF (md < 100 ∧ sP0 od th x ≠ -1) ab (uF ab (md + 1) x)) := by first | exact (sI_t (by omega)).symm | exact (sI_f (by omega)).symm | exact (sIF_t (by omega)).symm | exact (sIF_f (by omega)).symm | (rw [sIF_t (by omega), hpl])
            have e_23 : ((uF dp (md + 1) (if x = 0 then 0 else dp x + 1)) : Int → Int) = (sIF (md < 100 ∧ sP0 od th x ≠ -1) dp (uF dp (md + 1) (if x = 0 then 0 else dp x + 1))) := by first | exact (sI_t (by omega)).symm | exact (sI_f (by omega)).symm | exact (sIF_t (by omega)).symm | exact (sIF_f (by omega)).symm | (rw [sIF_t (by omega), hpl])
            have e_24 : ((uF sv (md + 1) v) : Int → Int) = (sIF (md < 100 ∧ sP0 od th x ≠ -1) sv (uF sv (md + 1) v)) := by first | exact (sI_t (by omega)).symm | exact (sI_f (by omega)).symm | exact (sIF_t (by omega)).symm | exact (sIF_f (by omega)).symm | (rw [sIF_t (by omega), hpl])
            have hP : va_P G.1 vwCl [(s0, .inr (9, [.ref s1, .ref s2, .ref s3, .ref s4, .int (iI (sI (md < 100 ∧ sP0 od th x ≠ -1) th (th + 1))), .int (iI (sI (md < 100 ∧ sP0 od th x ≠ -1) md (md + 1)))])), (s1, .inl (gI G, 100, .inl (fun j : Nat => iI ((sIF (md < 100 ∧ sP0 od th x ≠ -1) od (uF (cF od od (sPL od dp th x) ((sPL od dp th x) + 1) (th - (sPL od dp th x))) (sPL od dp th x) (md + 1))) (j : Int))))), (s2, .inl (gI G, 101, .inl (fun j : Nat => iI ((sIF (md < 100 ∧ sP0 od th x ≠ -1) ab (uF ab (md + 1) x)) (j : Int))))), (s3, .inl (gI G, 101, .inl (fun j : Nat => iI ((sIF (md < 100 ∧ sP0 od th x ≠ -1) dp (uF dp (md + 1) (if x = 0 then 0 else dp x + 1))) (j : Int))))), (s4, .inl (gL G, 101, .inr (.inl (fun j : Nat => lI ((sIF (md < 100 ∧ sP0 od th x ≠ -1) sv (uF sv (md + 1) v)) (j : Int))))))] H := by rw [← e_19, ← e_20, ← e_21, ← e_22, ← e_23, ← e_24]; exact hP
            have hD : va_D A [(s0, .inr (9, [.ref s1, .ref s2, .ref s3, .ref s4, .int (iI (sI (md < 100 ∧ sP0 od th x ≠ -1) th (th + 1))), .int (iI (sI (md < 100 ∧ sP0 od th x ≠ -1) md (md + 1)))])), (s1, .inl (gI G, 100, .inl (fun j : Nat => iI ((sIF (md < 100 ∧ sP0 od th x ≠ -1) od (uF (cF od od (sPL od dp th x) ((sPL od dp th x) + 1) (th - (sPL od dp th x))) (sPL od dp th x) (md + 1))) (j : Int))))), (s2, .inl (gI G, 101, .inl (fun j : Nat => iI ((sIF (md < 100 ∧ sP0 od th x ≠ -1) ab (uF ab (md + 1) x)) (j : Int))))), (s3, .inl (gI G, 101, .inl (fun j : Nat => iI ((sIF (md < 100 ∧ sP0 od th x ≠ -1) dp (uF dp (md + 1) (if x = 0 then 0 else dp x + 1))) (j : Int))))), (s4, .inl (gL G, 101, .inr (.inl (fun j : Nat => lI ((sIF (md < 100 ∧ sP0 od th x ≠ -1) sv (uF sv (md + 1) v)) (j : Int))))))] := by rw [← e_19, ← e_20, ← e_21, ← e_22, ← e_23, ← e_24]; exact hD
            exact hret _ ls H locs dX8_insert_146 hP hD hS
          refine z_if_ne (tgt := 82) hx hb dX8_insert_75 (by decide) (by omega) (fun c_18 => ?_) (fun c_18 => ?_)
          · skip
            refine lv_aload_n hx hb dX8_insert_82 rfl (lv_at hl 1 rfl) ?_
            refine va_get (D := G.1) (ci := 9) (v := .ref s3) (C := RX8) (T := TX8) (N := 6) hx hb hts hiX8 hown hK hP 0 rfl rfl 2 (by decide) hw2 (fun _ h9 => h9) rfl dX8_insert_83 ?_
            refine lv_iload_n hx hb dX8_insert_86 rfl (lv_at hl 2 rfl) ?_
            refine z_iald hx hb hK hP 3 0 rfl rfl (by omega) dX8_insert_87 ?_
            refine lv_iconst (v := iI (1)) hx hb dX8_insert_88 rfl ?_
            refine z_iadd hx hb dX8_insert_89 ?_
            refine z_top (w := .int (iI (if x = 0 then 0 else dp x + 1))) (congrArg _ (congrArg iI (by first | exact (if_pos (by omega)).symm | exact (if_neg (by omega)).symm))) ?_
            exact join90 H locs hP hD hS
          · skip
            refine lv_iconst (v := iI (0)) hx hb dX8_insert_78 rfl ?_
            refine lv_goto (tgt := 90) hx hb dX8_insert_79 (by decide) ?_
            refine z_top (w := .int (iI (if x = 0 then 0 else dp x + 1))) (congrArg _ (congrArg iI (by first | exact (if_pos (by omega)).symm | exact (if_neg (by omega)).symm))) ?_
            exact join90 H locs hP hD hS
      · skip
        have e_25 : (th : Int) = (sI (md < 100 ∧ sP0 od th x ≠ -1) th (th + 1)) := by first | exact (sI_t (by omega)).symm | exact (sI_f (by omega)).symm | exact (sIF_t (by omega)).symm | exact (sIF_f (by omega)).symm | (rw [sIF_t (by omega), hpl])
        have e_26 : (md : Int) = (sI (md < 100 ∧ sP0 od th x ≠ -1) md (md + 1)) := by first | exact (sI_t (by omega)).symm | exact (sI_f (by omega)).symm | exact (sIF_t (by omega)).symm | exact (sIF_f (by omega)).symm | (rw [sIF_t (by omega), hpl])
        have e_27 : (od : Int → Int) = (sIF (md < 100 ∧ sP0 od th x ≠ -1) od (uF (cF od od (sPL od dp th x) ((sPL od dp th x) + 1) (th - (sPL od dp th x))) (sPL od dp th x) (md + 1))) := by first | exact (sI_t (by omega)).symm | exact (sI_f (by omega)).symm | exact (sIF_t (by omega)).symm | exact (sIF_f (by omega)).symm | (rw [sIF_t (by omega), hpl])
        have e_28 : (ab : Int → Int) = (sIF (md < 100 ∧ sP0 od th x ≠ -1) ab (uF ab (md + 1) x)) := by first | exact (sI_t (by omega)).symm | exact (sI_f (by omega)).symm | exact (sIF_t (by omega)).symm | exact (sIF_f (by omega)).symm | (rw [sIF_t (by omega), hpl])
        have e_29 : (dp : Int → Int) = (sIF (md < 100 ∧ sP0 od th x ≠ -1) dp (uF dp (md + 1) (if x = 0 then 0 else dp x + 1))) := by first | exact (sI_t (by omega)).symm | exact (sI_f (by omega)).symm | exact (sIF_t (by omega)).symm | exact (sIF_f (by omega)).symm | (rw [sIF_t (by omega), hpl])
        have e_30 : (sv : Int → Int) = (sIF (md < 100 ∧ sP0 od th x ≠ -1) sv (uF sv (md + 1) v)) := by first | exact (sI_t (by omega)).symm | exact (sI_f (by omega)).symm | exact (sIF_t (by omega)).symm | exact (sIF_f (by omega)).symm | (rw [sIF_t (by omega), hpl])
        have hP : va_P G.1 vwCl [(s0, .inr (9, [.ref s1, .ref s2, .ref s3, .ref s4, .int (iI (sI (md < 100 ∧ sP0 od th x ≠ -1) th (th + 1))), .int (iI (sI (md < 100 ∧ sP0 od th x ≠ -1) md (md + 1)))])), (s1, .inl (gI G, 100, .inl (fun j : Nat => iI ((sIF (md < 100 ∧ sP0 od th x ≠ -1) od (uF (cF od od (sPL od dp th x) ((sPL od dp th x) + 1) (th - (sPL od dp th x))) (sPL od dp th x) (md + 1))) (j : Int))))), (s2, .inl (gI G, 101, .inl (fun j : Nat => iI ((sIF (md < 100 ∧ sP0 od th x ≠ -1) ab (uF ab (md + 1) x)) (j : Int))))), (s3, .inl (gI G, 101, .inl (fun j : Nat => iI ((sIF (md < 100 ∧ sP0 od th x ≠ -1) dp (uF dp (md + 1) (if x = 0 then 0 else dp x + 1))) (j : Int))))), (s4, .inl (gL G, 101, .inr (.inl (fun j : Nat => lI ((sIF (md < 100 ∧ sP0 od th x ≠ -1) sv (uF sv (md + 1) v)) (j : Int))))))] H := by rw [← e_25, ← e_26, ← e_27, ← e_28, ← e_29, ← e_30]; exact hP
        have hD : va_D A [(s0, .inr (9, [.ref s1, .ref s2, .ref s3, .ref s4, .int (iI (sI (md < 100 ∧ sP0 od th x ≠ -1) th (th + 1))), .int (iI (sI (md < 100 ∧ sP0 od th x ≠ -1) md (md + 1)))])), (s1, .inl (gI G, 100, .inl (fun j : Nat => iI ((sIF (md < 100 ∧ sP0 od th x ≠ -1) od (uF (cF od od (sPL od dp th x) ((sPL od dp th x) + 1) (th - (sPL od dp th x))) (sPL od dp th x) (md + 1))) (j : Int))))), (s2, .inl (gI G, 101, .inl (fun j : Nat => iI ((sIF (md < 100 ∧ sP0 od th x ≠ -1) ab (uF ab (md + 1) x)) (j : Int))))), (s3, .inl (gI G, 101, .inl (fun j : Nat => iI ((sIF (md < 100 ∧ sP0 od th x ≠ -1) dp (uF dp (md + 1) (if x = 0 then 0 else dp x + 1))) (j : Int))))), (s4, .inl (gL G, 101, .inr (.inl (fun j : Nat => lI ((sIF (md < 100 ∧ sP0 od th x ≠ -1) sv (uF sv (md + 1) v)) (j : Int))))))] := by rw [← e_25, ← e_26, ← e_27, ← e_28, ← e_29, ← e_30]; exact hD
        exact hret _ ls H locs dX8_insert_33 hP hD hS
  refine z_if_ne (tgt := 11) hx hb dX8_insert_1 (by decide) (by omega) (fun c_1 => ?_) (fun c_1 => ?_)
  · skip
    refine lv_aload_n hx hb dX8_insert_11 rfl (lv_at hl 0 rfl) ?_
    refine lv_iload_n hx hb dX8_insert_12 rfl (lv_at hl 1 rfl) ?_
    refine z_cVi (RV := (fi0 od x th.toNat 0)) (As := [.int (iI x)]) (rest := []) (wc := [(s0, .inr (9, [.ref s1, .ref s2, .ref s3, .ref s4, .int (iI th), .int (iI md)])), (s1, .inl (gI G, 100, .inl (fun j : Nat => iI (od (j : Int))))), (s2, .inl (gI G, 101, .inl (fun j : Nat => iI (ab (j : Int))))), (s3, .inl (gI G, 101, .inl (fun j : Nat => iI (dp (j : Int))))), (s4, .inl (gL G, 101, .inr (.inl (fun j : Nat => lI (sv (j : Int))))))]) (wr := []) (wn := [(s0, .inr (9, [.ref s1, .ref s2, .ref s3, .ref s4, .int (iI th), .int (iI md)])), (s1, .inl (gI G, 100, .inl (fun j : Nat => iI (od (j : Int))))), (s2, .inl (gI G, 101, .inl (fun j : Nat => iI (ab (j : Int))))), (s3, .inl (gI G, 101, .inl (fun j : Nat => iI (dp (j : Int))))), (s4, .inl (gL G, 101, .inr (.inl (fun j : Nat => lI (sv (j : Int))))))]) F C (c_X8_find l G H.size s0 s1 s2 s3 s4 od ab dp sv th md x (hth) (hod) (hdp) (by omega)) (cwV 1 hts gX8_insert_X8_find rfl rfl rfl (by decide +kernel) (by decide)) hP hD hS (q0 := 0) rfl rfl rfl [0, 1, 2, 3, 4] [] rfl rfl (by decide) rfl rfl hl.1 rfl (Nat.le_of_ble_eq_true rfl) dX8_insert_13 (by decide) (fun H locs hP hD hS => ?_)
    refine z_top (w := .int (iI (sP0 od th x))) (congrArg _ (congrArg iI (by rw [hp0]; first | exact (if_pos (by omega)).symm | exact (if_neg (by omega)).symm))) ?_
    exact join16 H locs hP hD hS
  · skip
    refine lv_aload_n hx hb dX8_insert_4 rfl (lv_at hl 0 rfl) ?_
    refine va_get (D := G.1) (ci := 9) (v := .int (iI th)) (C := RX8) (T := TX8) (N := 6) hx hb hts hiX8 hown hK hP 0 rfl rfl 4 (by decide) hw5 (fun _ h9 => h9) rfl dX8_insert_5 ?_
    refine lv_goto (tgt := 16) hx hb dX8_insert_8 (by decide) ?_
    refine z_top (w := .int (iI (sP0 od th x))) (congrArg _ (congrArg iI (by rw [hp0]; first | exact (if_pos (by omega)).symm | exact (if_neg (by omega)).symm))) ?_
    exact join16 H locs hP hD hS

set_option maxHeartbeats 4000000 in
set_option maxRecDepth 100000 in
theorem c_X8_delete (l : Launch) (G : Gx) (zz : Nat) (s0 s1 s2 s3 s4 : Nat) (od ab dp sv : Int → Int) (th md : Int) (x : Int) (hth : 0 ≤ th ∧ th ≤ md ∧ md ≤ 100) (hod : ∀ j, 0 ≤ j → j < th → 1 ≤ od j ∧ od j ≤ md) (hdp : ∀ j, 1 ≤ j → j ≤ md → 0 ≤ dp j ∧ dp j ≤ 100) (hx : 0 ≤ x ∧ x ≤ 100) : Cv l yX8_delete wsX8_delete (rz 1 23) G [.ref s0, .int (iI x)] [(s0, .inr (9, [.ref s1, .ref s2, .ref s3, .ref s4, .int (iI th), .int (iI md)])), (s1, .inl (gI G, 100, .inl (fun j : Nat => iI (od (j : Int))))), (s2, .inl (gI G, 101, .inl (fun j : Nat => iI (ab (j : Int))))), (s3, .inl (gI G, 101, .inl (fun j : Nat => iI (dp (j : Int))))), (s4, .inl (gL G, 101, .inr (.inl (fun j : Nat => lI (sv (j : Int))))))] zz [(s0, .inr (9, [.ref s1, .ref s2, .ref s3, .ref s4, .int (iI (sI ((fi0 od x th.toNat 0) = -1) (th - ((eo od dp (dp (od (fi0 od x th.toNat 0))) (th - ((fi0 od x th.toNat 0) + 1)).toNat ((fi0 od x th.toNat 0) + 1)) - (fi0 od x th.toNat 0))) th)), .int (iI md)])), (s1, .inl (gI G, 100, .inl (fun j : Nat => iI ((sIF ((fi0 od x th.toNat 0) = -1) (cF od od (eo od dp (dp (od (fi0 od x th.toNat 0))) (th - ((fi0 od x th.toNat 0) + 1)).toNat ((fi0 od x th.toNat 0) + 1)) (fi0 od x th.toNat 0) (th - (eo od dp (dp (od (fi0 od x th.toNat 0))) (th - ((fi0 od x th.toNat 0) + 1)).toNat ((fi0 od x th.toNat 0) + 1)))) od) (j : Int))))), (s2, .inl (gI G, 101, .inl (fun j : Nat => iI (ab (j : Int))))), (s3, .inl (gI G, 101, .inl (fun j : Nat => iI (dp (j : Int))))), (s4, .inl (gL G, 101, .inr (.inl (fun j : Nat => lI (sv (j : Int))))))] := by
  refine met_v (cc := cX8_delete) (maxL := 4) (by decide) rfl (Nat.le_of_ble_eq_true rfl) ⟨rfl, rfl⟩ ?_
  intro p e s m below meth c A Q F C hP hD hS hret ls hl
  obtain ⟨hx, hb, hml, hown, hts⟩ := id F
  obtain ⟨hK, hA, hZ, hT, hN⟩ := id C
  have hl : lv_has ls 4 [(0, .ref s0), (1, .int (iI x))] := hl
  obtain ⟨H, hH⟩ : ∃ H, H = s.heap := ⟨_, rfl⟩
  obtain ⟨locs, hlocs⟩ : ∃ l : List Loc, l = [] := ⟨_, rfl⟩
  have hS : va_S A s.heap H locs := by rw [hH, hlocs]; exact hS
  have hP : va_P G.1 vwCl [(s0, .inr (9, [.ref s1, .ref s2, .ref s3, .ref s4, .int (iI th), .int (iI md)])), (s1, .inl (gI G, 100, .inl (fun j : Nat => iI (od (j : Int))))), (s2, .inl (gI G, 101, .inl (fun j : Nat => iI (ab (j : Int))))), (s3, .inl (gI G, 101, .inl (fun j : Nat => iI (dp (j : Int))))), (s4, .inl (gL G, 101, .inr (.inl (fun j : Nat => lI (sv (j : Int))))))] H := by rw [hH]; exact hP
  suffices hgo : W p l e (rz 1 23) s m [.ref s0, .int (iI x)].toArray below meth c H locs 0 0 Q (F0 m 0 ls []) by rw [hH, hlocs] at hgo; exact hgo
  have hiX8 : ∀ w ∈ wsX80, w ∈ wsX8_delete := by decide +kernel
  have hw0 := hts (Cond.fieldLink RX8 9 "PlainCobol$Segments" "order" "[I") (List.mem_of_getElem? (i := 1) rfl)
  have hw1 := hts (Cond.fieldLink RX8 25 "PlainCobol$Segments" "there" "I") (List.mem_of_getElem? (i := 2) rfl)
  have hw2 := hts (Cond.methodLink RX8 39 arraycopyName) (List.mem_of_getElem? (i := 3) rfl)
  have hw3 := hts (Cond.native arraycopyName) (List.mem_of_getElem? (i := 4) rfl)
  have hw4 := hts (Cond.static arraycopyName) (List.mem_of_getElem? (i := 5) rfl)
  have hw5 := hts (Cond.initialized "java/lang/System") (List.mem_of_getElem? (i := 6) rfl)
  have hf0 := fi0_r od x th.toNat 0 (by omega)
  rw [Int.toNat_of_nonneg hth.1] at hf0
  have her := eo_r od dp (dp (od (fi0 od x th.toNat 0))) (th - ((fi0 od x th.toNat 0) + 1)).toNat ((fi0 od x th.toNat 0) + 1)
  refine lv_aload_n hx hb dX8_delete_0 rfl (lv_at hl 0 rfl) ?_
  refine lv_iload_n hx hb dX8_delete_1 rfl (lv_at hl 1 rfl) ?_
  refine z_cVi (RV := (fi0 od x th.toNat 0)) (As := [.int (iI x)]) (rest := []) (wc := [(s0, .inr (9, [.ref s1, .ref s2, .ref s3, .ref s4, .int (iI th), .int (iI md)])), (s1, .inl (gI G, 100, .inl (fun j : Nat => iI (od (j : Int))))), (s2, .inl (gI G, 101, .inl (fun j : Nat => iI (ab (j : Int))))), (s3, .inl (gI G, 101, .inl (fun j : Nat => iI (dp (j : Int))))), (s4, .inl (gL G, 101, .inr (.inl (fun j : Nat => lI (sv (j : Int))))))]) (wr := []) (wn := [(s0, .inr (9, [.ref s1, .ref s2, .ref s3, .ref s4, .int (iI th), .int (iI md)])), (s1, .inl (gI G, 100, .inl (fun j : Nat => iI (od (j : Int))))), (s2, .inl (gI G, 101, .inl (fun j : Nat => iI (ab (j : Int))))), (s3, .inl (gI G, 101, .inl (fun j : Nat => iI (dp (j : Int))))), (s4, .inl (gL G, 101, .inr (.inl (fun j : Nat => lI (sv (j : Int))))))]) F C (c_X8_find l G H.size s0 s1 s2 s3 s4 od ab dp sv th md x (hth) (hod) (hdp) (by omega)) (cwV 1 hts gX8_delete_X8_find rfl rfl rfl (by decide +kernel) (by decide)) hP hD hS (q0 := 0) rfl rfl rfl [0, 1, 2, 3, 4] [] rfl rfl (by decide) rfl rfl hl.1 rfl (Nat.le_of_ble_eq_true rfl) dX8_delete_2 (by decide) (fun H locs hP hD hS => ?_)
  refine lv_istore_n (lv' := [(2, .int (iI (fi0 od x th.toNat 0))), (0, .ref s0), (1, .int (iI x))]) hx hb dX8_delete_5 rfl hl (by decide) rfl (fun ls hl => ?_)
  refine lv_iload_n hx hb dX8_delete_6 rfl (lv_at hl 0 rfl) ?_
  refine lv_iconst (v := iI (-1)) hx hb dX8_delete_7 rfl ?_
  refine z_icmp_ne (tgt := 12) hx hb dX8_delete_8 (by decide) (by omega) (fun c_1 => ?_) (fun c_1 => ?_)
  · skip
    refine lv_aload_n hx hb dX8_delete_12 rfl (lv_at hl 1 rfl) ?_
    refine lv_iload_n hx hb dX8_delete_13 rfl (lv_at hl 0 rfl) ?_
    refine z_cVi (RV := (eo od dp (dp (od (fi0 od x th.toNat 0))) (th - ((fi0 od x th.toNat 0) + 1)).toNat ((fi0 od x th.toNat 0) + 1))) (As := [.int (iI (fi0 od x th.toNat 0))]) (rest := []) (wc := [(s0, .inr (9, [.ref s1, .ref s2, .ref s3, .ref s4, .int (iI th), .int (iI md)])), (s1, .inl (gI G, 100, .inl (fun j : Nat => iI (od (j : Int))))), (s2, .inl (gI G, 101, .inl (fun j : Nat => iI (ab (j : Int))))), (s3, .inl (gI G, 101, .inl (fun j : Nat => iI (dp (j : Int))))), (s4, .inl (gL G, 101, .inr (.inl (fun j : Nat => lI (sv (j : Int))))))]) (wr := []) (wn := [(s0, .inr (9, [.ref s1, .ref s2, .ref s3, .ref s4, .int (iI th), .int (iI md)])), (s1, .inl (gI G, 100, .inl (fun j : Nat => iI (od (j : Int))))), (s2, .inl (gI G, 101, .inl (fun j : Nat => iI (ab (j : Int))))), (s3, .inl (gI G, 101, .inl (fun j : Nat => iI (dp (j : Int))))), (s4, .inl (gL G, 101, .inr (.inl (fun j : Nat => lI (sv (j : Int))))))]) F C (c_X8_endOf l G H.size s0 s1 s2 s3 s4 od ab dp sv th md (fi0 od x th.toNat 0) (hth) (hod) (hdp) (by omega)) (cwV 1 hts gX8_delete_X8_endOf rfl rfl rfl (by decide +kernel) (by decide)) hP hD hS (q0 := 0) rfl rfl rfl [0, 1, 2, 3, 4] [] rfl rfl (by decide) rfl rfl hl.1 rfl (Nat.le_of_ble_eq_true rfl) dX8_delete_14 (by decide) (fun H locs hP hD hS => ?_)
    refine lv_istore_n (lv' := [(3, .int (iI (eo od dp (dp (od (fi0 od x th.toNat 0))) (th - ((fi0 od x th.toNat 0) + 1)).toNat ((fi0 od x th.toNat 0) + 1)))), (2, .int (iI (fi0 od x th.toNat 0))), (0, .ref s0), (1, .int (iI x))]) hx hb dX8_delete_17 rfl hl (by decide) rfl (fun ls hl => ?_)
    refine lv_aload_n hx hb dX8_delete_18 rfl (lv_at hl 2 rfl) ?_
    refine va_get (D := G.1) (ci := 9) (v := .ref s1) (C := RX8) (T := TX8) (N := 6) hx hb hts hiX8 hown hK hP 0 rfl rfl 0 (by decide) hw0 (fun _ h9 => h9) rfl dX8_delete_19 ?_
    refine lv_iload_n hx hb dX8_delete_22 rfl (lv_at hl 0 rfl) ?_
    refine lv_aload_n hx hb dX8_delete_23 rfl (lv_at hl 2 rfl) ?_
    refine va_get (D := G.1) (ci := 9) (v := .ref s1) (C := RX8) (T := TX8) (N := 6) hx hb hts hiX8 hown hK hP 0 rfl rfl 0 (by decide) hw0 (fun _ h9 => h9) rfl dX8_delete_24 ?_
    refine lv_iload_n hx hb dX8_delete_27 rfl (lv_at hl 1 rfl) ?_
    refine lv_aload_n hx hb dX8_delete_28 rfl (lv_at hl 2 rfl) ?_
    refine va_get (D := G.1) (ci := 9) (v := .int (iI th)) (C := RX8) (T := TX8) (N := 6) hx hb hts hiX8 hown hK hP 0 rfl rfl 4 (by decide) hw1 (fun _ h9 => h9) rfl dX8_delete_29 ?_
    refine lv_iload_n hx hb dX8_delete_32 rfl (lv_at hl 0 rfl) ?_
    refine z_isub hx hb dX8_delete_33 ?_
    refine z_copyi hx hb (hml.trans hl.1.symm) hown hw2 hw3 hw4 hw5 hK hP hD hS 1 1 0 rfl rfl rfl (by omega) ⟨by decide, Nat.le_of_ble_eq_true rfl⟩ dX8_delete_34 (fun H locs hP hD hS => ?_)
    have hP : va_P G.1 vwCl [(s0, .inr (9, [.ref s1, .ref s2, .ref s3, .ref s4, .int (iI th), .int (iI md)])), (s1, .inl (gI G, 100, .inl (fun j : Nat => iI ((cF od od (eo od dp (dp (od (fi0 od x th.toNat 0))) (th - ((fi0 od x th.toNat 0) + 1)).toNat ((fi0 od x th.toNat 0) + 1)) (fi0 od x th.toNat 0) (th - (eo od dp (dp (od (fi0 od x th.toNat 0))) (th - ((fi0 od x th.toNat 0) + 1)).toNat ((fi0 od x th.toNat 0) + 1)))) (j : Int))))), (s2, .inl (gI G, 101, .inl (fun j : Nat => iI (ab (j : Int))))), (s3, .inl (gI G, 101, .inl (fun j : Nat => iI (dp (j : Int))))), (s4, .inl (gL G, 101, .inr (.inl (fun j : Nat => lI (sv (j : Int))))))] H := hP
    have hD : va_D A [(s0, .inr (9, [.ref s1, .ref s2, .ref s3, .ref s4, .int (iI th), .int (iI md)])), (s1, .inl (gI G, 100, .inl (fun j : Nat => iI ((cF od od (eo od dp (dp (od (fi0 od x th.toNat 0))) (th - ((fi0 od x th.toNat 0) + 1)).toNat ((fi0 od x th.toNat 0) + 1)) (fi0 od x th.toNat 0) (th - (eo od dp (dp (od (fi0 od x th.toNat 0))) (th - ((fi0 od x th.toNat 0) + 1)).toNat ((fi0 od x th.toNat 0) + 1)))) (j : Int))))), (s2, .inl (gI G, 101, .inl (fun j : Nat => iI (ab (j : Int))))), (s3, .inl (gI G, 101, .inl (fun j : Nat => iI (dp (j : Int))))), (s4, .inl (gL G, 101, .inr (.inl (fun j : Nat => lI (sv (j : Int))))))] := hD
    refine lv_aload_n hx hb dX8_delete_37 rfl (lv_at hl 2 rfl) ?_
    refine lv_dup hx hb dX8_delete_38 rfl ?_
    refine va_get (D := G.1) (ci := 9) (v := .int (iI th)) (C := RX8) (T := TX8) (N := 6) hx hb hts hiX8 hown hK hP 0 rfl rfl 4 (by decide) hw1 (fun _ h9 => h9) rfl dX8_delete_39 ?_
    refine lv_iload_n hx hb dX8_delete_42 rfl (lv_at hl 0 rfl) ?_
    refine lv_iload_n hx hb dX8_delete_43 rfl (lv_at hl 1 rfl) ?_
    refine z_isub hx hb dX8_delete_44 ?_
    refine z_isub hx hb dX8_delete_45 ?_
    refine va_put (D := G.1) (ci := 9) (v := .int (iI (th - ((eo od dp (dp (od (fi0 od x th.toNat 0))) (th - ((fi0 od x th.toNat 0) + 1)).toNat ((fi0 od x th.toNat 0) + 1)) - (fi0 od x th.toNat 0))))) (ty := .int) (C := RX8) (T := TX8) (N := 6) hx hb hts hiX8 tyX8 tyX8_ok nmX8 hown hK hP hD hS 0 rfl rfl 4 (by decide) hw1 (fun _ h9 => h9) rfl (by decide +kernel) rfl rfl (Nat.le_of_ble_eq_true rfl) dX8_delete_46 (fun H locs hP hD hS => ?_)
    have hP : va_P G.1 vwCl [(s0, .inr (9, [.ref s1, .ref s2, .ref s3, .ref s4, .int (iI (th - ((eo od dp (dp (od (fi0 od x th.toNat 0))) (th - ((fi0 od x th.toNat 0) + 1)).toNat ((fi0 od x th.toNat 0) + 1)) - (fi0 od x th.toNat 0)))), .int (iI md)])), (s1, .inl (gI G, 100, .inl (fun j : Nat => iI ((cF od od (eo od dp (dp (od (fi0 od x th.toNat 0))) (th - ((fi0 od x th.toNat 0) + 1)).toNat ((fi0 od x th.toNat 0) + 1)) (fi0 od x th.toNat 0) (th - (eo od dp (dp (od (fi0 od x th.toNat 0))) (th - ((fi0 od x th.toNat 0) + 1)).toNat ((fi0 od x th.toNat 0) + 1)))) (j : Int))))), (s2, .inl (gI G, 101, .inl (fun j : Nat => iI (ab (j : Int))))), (s3, .inl (gI G, 101, .inl (fun j : Nat => iI (dp (j : Int))))), (s4, .inl (gL G, 101, .inr (.inl (fun j : Nat => lI (sv (j : Int))))))] H := hP
    have hD : va_D A [(s0, .inr (9, [.ref s1, .ref s2, .ref s3, .ref s4, .int (iI (th - ((eo od dp (dp (od (fi0 od x th.toNat 0))) (th - ((fi0 od x th.toNat 0) + 1)).toNat ((fi0 od x th.toNat 0) + 1)) - (fi0 od x th.toNat 0)))), .int (iI md)])), (s1, .inl (gI G, 100, .inl (fun j : Nat => iI ((cF od od (eo od dp (dp (od (fi0 od x th.toNat 0))) (th - ((fi0 od x th.toNat 0) + 1)).toNat ((fi0 od x th.toNat 0) + 1)) (fi0 od x th.toNat 0) (th - (eo od dp (dp (od (fi0 od x th.toNat 0))) (th - ((fi0 od x th.toNat 0) + 1)).toNat ((fi0 od x th.toNat 0) + 1)))) (j : Int))))), (s2, .inl (gI G, 101, .inl (fun j : Nat => iI (ab (j : Int))))), (s3, .inl (gI G, 101, .inl (fun j : Nat => iI (dp (j : Int))))), (s4, .inl (gL G, 101, .inr (.inl (fun j : Nat => lI (sv (j : Int))))))] := hD
    have e_2 : ((th - ((eo od dp (dp (od (fi0 od x th.toNat 0))) (th - ((fi0 od x th.toNat 0) + 1)).toNat ((fi0 od x th.toNat 0) + 1)) - (fi0 od x th.toNat 0))) : Int) = (sI ((fi0 od x th.toNat 0) = -1) (th - ((eo od dp (dp (od (fi0 od x th.toNat 0))) (th - ((fi0 od x th.toNat 0) + 1)).toNat ((fi0 od x th.toNat 0) + 1)) - (fi0 od x th.toNat 0))) th) := by first | exact (sI_t (by omega)).symm | exact (sI_f (by omega)).symm | exact (sIF_t (by omega)).symm | exact (sIF_f (by omega)).symm
    have e_3 : ((cF od od (eo od dp (dp (od (fi0 od x th.toNat 0))) (th - ((fi0 od x th.toNat 0) + 1)).toNat ((fi0 od x th.toNat 0) + 1)) (fi0 od x th.toNat 0) (th - (eo od dp (dp (od (fi0 od x th.toNat 0))) (th - ((fi0 od x th.toNat 0) + 1)).toNat ((fi0 od x th.toNat 0) + 1)))) : Int → Int) = (sIF ((fi0 od x th.toNat 0) = -1) (cF od od (eo od dp (dp (od (fi0 od x th.toNat 0))) (th - ((fi0 od x th.toNat 0) + 1)).toNat ((fi0 od x th.toNat 0) + 1)) (fi0 od x th.toNat 0) (th - (eo od dp (dp (od (fi0 od x th.toNat 0))) (th - ((fi0 od x th.toNat 0) + 1)).toNat ((fi0 od x th.toNat 0) + 1)))) od) := by first | exact (sI_t (by omega)).symm | exact (sI_f (by omega)).symm | exact (sIF_t (by omega)).symm | exact (sIF_f (by omega)).symm
    have hP : va_P G.1 vwCl [(s0, .inr (9, [.ref s1, .ref s2, .ref s3, .ref s4, .int (iI (sI ((fi0 od x th.toNat 0) = -1) (th - ((eo od dp (dp (od (fi0 od x th.toNat 0))) (th - ((fi0 od x th.toNat 0) + 1)).toNat ((fi0 od x th.toNat 0) + 1)) - (fi0 od x th.toNat 0))) th)), .int (iI md)])), (s1, .inl (gI G, 100, .inl (fun j : Nat => iI ((sIF ((fi0 od x th.toNat 0) = -1) (cF od od (eo od dp (dp (od (fi0 od x th.toNat 0))) (th - ((fi0 od x th.toNat 0) + 1)).toNat ((fi0 od x th.toNat 0) + 1)) (fi0 od x th.toNat 0) (th - (eo od dp (dp (od (fi0 od x th.toNat 0))) (th - ((fi0 od x th.toNat 0) + 1)).toNat ((fi0 od x th.toNat 0) + 1)))) od) (j : Int))))), (s2, .inl (gI G, 101, .inl (fun j : Nat => iI (ab (j : Int))))), (s3, .inl (gI G, 101, .inl (fun j : Nat => iI (dp (j : Int))))), (s4, .inl (gL G, 101, .inr (.inl (fun j : Nat => lI (sv (j : Int))))))] H := by rw [← e_2, ← e_3]; exact hP
    have hD : va_D A [(s0, .inr (9, [.ref s1, .ref s2, .ref s3, .ref s4, .int (iI (sI ((fi0 od x th.toNat 0) = -1) (th - ((eo od dp (dp (od (fi0 od x th.toNat 0))) (th - ((fi0 od x th.toNat 0) + 1)).toNat ((fi0 od x th.toNat 0) + 1)) - (fi0 od x th.toNat 0))) th)), .int (iI md)])), (s1, .inl (gI G, 100, .inl (fun j : Nat => iI ((sIF ((fi0 od x th.toNat 0) = -1) (cF od od (eo od dp (dp (od (fi0 od x th.toNat 0))) (th - ((fi0 od x th.toNat 0) + 1)).toNat ((fi0 od x th.toNat 0) + 1)) (fi0 od x th.toNat 0) (th - (eo od dp (dp (od (fi0 od x th.toNat 0))) (th - ((fi0 od x th.toNat 0) + 1)).toNat ((fi0 od x th.toNat 0) + 1)))) od) (j : Int))))), (s2, .inl (gI G, 101, .inl (fun j : Nat => iI (ab (j : Int))))), (s3, .inl (gI G, 101, .inl (fun j : Nat => iI (dp (j : Int))))), (s4, .inl (gL G, 101, .inr (.inl (fun j : Nat => lI (sv (j : Int))))))] := by rw [← e_2, ← e_3]; exact hD
    exact hret _ ls H locs dX8_delete_49 hP hD hS
  · skip
    have e_4 : (th : Int) = (sI ((fi0 od x th.toNat 0) = -1) (th - ((eo od dp (dp (od (fi0 od x th.toNat 0))) (th - ((fi0 od x th.toNat 0) + 1)).toNat ((fi0 od x th.toNat 0) + 1)) - (fi0 od x th.toNat 0))) th) := by first | exact (sI_t (by omega)).symm | exact (sI_f (by omega)).symm | exact (sIF_t (by omega)).symm | exact (sIF_f (by omega)).symm
    have e_5 : (od : Int → Int) = (sIF ((fi0 od x th.toNat 0) = -1) (cF od od (eo od dp (dp (od (fi0 od x th.toNat 0))) (th - ((fi0 od x th.toNat 0) + 1)).toNat ((fi0 od x th.toNat 0) + 1)) (fi0 od x th.toNat 0) (th - (eo od dp (dp (od (fi0 od x th.toNat 0))) (th - ((fi0 od x th.toNat 0) + 1)).toNat ((fi0 od x th.toNat 0) + 1)))) od) := by first | exact (sI_t (by omega)).symm | exact (sI_f (by omega)).symm | exact (sIF_t (by omega)).symm | exact (sIF_f (by omega)).symm
    have hP : va_P G.1 vwCl [(s0, .inr (9, [.ref s1, .ref s2, .ref s3, .ref s4, .int (iI (sI ((fi0 od x th.toNat 0) = -1) (th - ((eo od dp (dp (od (fi0 od x th.toNat 0))) (th - ((fi0 od x th.toNat 0) + 1)).toNat ((fi0 od x th.toNat 0) + 1)) - (fi0 od x th.toNat 0))) th)), .int (iI md)])), (s1, .inl (gI G, 100, .inl (fun j : Nat => iI ((sIF ((fi0 od x th.toNat 0) = -1) (cF od od (eo od dp (dp (od (fi0 od x th.toNat 0))) (th - ((fi0 od x th.toNat 0) + 1)).toNat ((fi0 od x th.toNat 0) + 1)) (fi0 od x th.toNat 0) (th - (eo od dp (dp (od (fi0 od x th.toNat 0))) (th - ((fi0 od x th.toNat 0) + 1)).toNat ((fi0 od x th.toNat 0) + 1)))) od) (j : Int))))), (s2, .inl (gI G, 101, .inl (fun j : Nat => iI (ab (j : Int))))), (s3, .inl (gI G, 101, .inl (fun j : Nat => iI (dp (j : Int))))), (s4, .inl (gL G, 101, .inr (.inl (fun j : Nat => lI (sv (j : Int))))))] H := by rw [← e_4, ← e_5]; exact hP
    have hD : va_D A [(s0, .inr (9, [.ref s1, .ref s2, .ref s3, .ref s4, .int (iI (sI ((fi0 od x th.toNat 0) = -1) (th - ((eo od dp (dp (od (fi0 od x th.toNat 0))) (th - ((fi0 od x th.toNat 0) + 1)).toNat ((fi0 od x th.toNat 0) + 1)) - (fi0 od x th.toNat 0))) th)), .int (iI md)])), (s1, .inl (gI G, 100, .inl (fun j : Nat => iI ((sIF ((fi0 od x th.toNat 0) = -1) (cF od od (eo od dp (dp (od (fi0 od x th.toNat 0))) (th - ((fi0 od x th.toNat 0) + 1)).toNat ((fi0 od x th.toNat 0) + 1)) (fi0 od x th.toNat 0) (th - (eo od dp (dp (od (fi0 od x th.toNat 0))) (th - ((fi0 od x th.toNat 0) + 1)).toNat ((fi0 od x th.toNat 0) + 1)))) od) (j : Int))))), (s2, .inl (gI G, 101, .inl (fun j : Nat => iI (ab (j : Int))))), (s3, .inl (gI G, 101, .inl (fun j : Nat => iI (dp (j : Int))))), (s4, .inl (gL G, 101, .inr (.inl (fun j : Nat => lI (sv (j : Int))))))] := by rw [← e_4, ← e_5]; exact hD
    exact hret _ ls H locs dX8_delete_11 hP hD hS

set_option maxHeartbeats 4000000 in
set_option maxRecDepth 100000 in
theorem c_X10_placeIndex (l : Launch) (G : Gx) (zz : Nat) (pl : Int) (h1 : 0 ≤ pl ∧ pl ≤ 10000) : Ci l yX10_placeIndex wsX10_placeIndex (rz 0 0) G [.int (iI pl)] [] zz (pix pl) [] := by
  refine met_i (cc := cX10_placeIndex) (maxL := 1) (ret := (some .int)) (by decide) rfl (Nat.le_of_ble_eq_true rfl) rfl rfl ⟨rfl, rfl⟩ ?_
  intro p e s m below meth c A Q F C hP hD hS hret ls hl
  obtain ⟨hx, hb, hml, hown, hts⟩ := id F
  obtain ⟨hK, hA, hZ, hT, hN⟩ := id C
  have hl : lv_has ls 1 [(0, .int (iI pl))] := hl
  obtain ⟨H, hH⟩ : ∃ H, H = s.heap := ⟨_, rfl⟩
  obtain ⟨locs, hlocs⟩ : ∃ l : List Loc, l = [] := ⟨_, rfl⟩
  have hS : va_S A s.heap H locs := by rw [hH, hlocs]; exact hS
  have hP : va_P G.1 vwCl [] H := by rw [hH]; exact hP
  suffices hgo : W p l e (rz 0 0) s m [.int (iI pl)].toArray below meth c H locs 0 0 Q (F0 m 0 ls []) by rw [hH, hlocs] at hgo; exact hgo
  refine lv_iload_n hx hb dX10_placeIndex_0 rfl (lv_at hl 0 rfl) ?_
  refine lv_bipush (v := iI (100)) hx hb dX10_placeIndex_1 (by decide) ?_
  refine z_idiv hx hb dX10_placeIndex_3 (by omega) ?_
  refine lv_iconst (v := iI (1)) hx hb dX10_placeIndex_4 rfl ?_
  refine z_isub hx hb dX10_placeIndex_5 ?_
  refine lv_bipush (v := iI (80)) hx hb dX10_placeIndex_6 (by decide) ?_
  refine z_imul hx hb dX10_placeIndex_8 ?_
  refine lv_iload_n hx hb dX10_placeIndex_9 rfl (lv_at hl 0 rfl) ?_
  refine lv_bipush (v := iI (100)) hx hb dX10_placeIndex_10 (by decide) ?_
  refine z_irem hx hb dX10_placeIndex_12 (by omega) ?_
  refine z_iadd hx hb dX10_placeIndex_13 ?_
  refine lv_iconst (v := iI (1)) hx hb dX10_placeIndex_14 rfl ?_
  refine z_isub hx hb dX10_placeIndex_15 ?_
  have r_1 : ((((((Int.tdiv pl 100) - 1) * 80) + (Int.tmod pl 100)) - 1) : Int) = (pix pl) := by rfl
  rw [r_1]
  exact hret _ ls H locs dX10_placeIndex_16 hP hD hS

set_option maxHeartbeats 4000000 in
set_option maxRecDepth 100000 in
theorem c_X4_put (l : Launch) (G : Gx) (zz : Nat) (g0 g1 : Nat) (sg : Int → Int) (pl v : Int) (h1 : 0 ≤ pl ∧ pl ≤ 10000) (h2 : 0 ≤ pix pl ∧ pix pl < 1920) (h3 : -128 ≤ v ∧ v < 128) : Cv l yX4_put wsX4_put (rz 1 20) G [.ref g0, .int (iI pl), .long (lI v)] [(g0, .inr (5, [.ref g1])), (g1, .inl (gB G, 1920, .inl (fun j : Nat => iI (sg (j : Int)))))] zz [(g0, .inr (5, [.ref g1])), (g1, .inl (gB G, 1920, .inl (fun j : Nat => iI ((uF sg (pix pl) v) (j : Int)))))] := by
  refine met_v (cc := cX4_put) (maxL := 4) (by decide) rfl (Nat.le_of_ble_eq_true rfl) ⟨rfl, rfl⟩ ?_
  intro p e s m below meth c A Q F C hP hD hS hret ls hl
  obtain ⟨hx, hb, hml, hown, hts⟩ := id F
  obtain ⟨hK, hA, hZ, hT, hN⟩ := id C
  have hl : lv_has ls 4 [(0, .ref g0), (1, .int (iI pl)), (2, .long (lI v))] := hl
  obtain ⟨H, hH⟩ : ∃ H, H = s.heap := ⟨_, rfl⟩
  obtain ⟨locs, hlocs⟩ : ∃ l : List Loc, l = [] := ⟨_, rfl⟩
  have hS : va_S A s.heap H locs := by rw [hH, hlocs]; exact hS
  have hP : va_P G.1 vwCl [(g0, .inr (5, [.ref g1])), (g1, .inl (gB G, 1920, .inl (fun j : Nat => iI (sg (j : Int)))))] H := by rw [hH]; exact hP
  suffices hgo : W p l e (rz 1 20) s m [.ref g0, .int (iI pl), .long (lI v)].toArray below meth c H locs 0 0 Q (F0 m 0 ls []) by rw [hH, hlocs] at hgo; exact hgo
  have hiX4 : ∀ w ∈ wsX40, w ∈ wsX4_put := by decide +kernel
  have hw0 := hts (Cond.fieldLink RX4 9 "PlainCobol$Screen" "signs" "[B") (List.mem_of_getElem? (i := 1) rfl)
  have hw1 := hts (Cond.initialized RX10) (List.mem_of_getElem? (i := 3) rfl)
  have hw2 := hts (Cond.static yX10_placeIndex) (List.mem_of_getElem? (i := 2) rfl)
  refine lv_aload_n hx hb dX4_put_0 rfl (lv_at hl 0 rfl) ?_
  refine va_get (D := G.1) (ci := 5) (v := .ref g1) (C := RX4) (T := TX4) (N := 1) hx hb hts hiX4 hown hK hP 0 rfl rfl 0 (by decide) hw0 (fun _ h9 => h9) rfl dX4_put_1 ?_
  refine lv_iload_n hx hb dX4_put_4 rfl (lv_at hl 1 rfl) ?_
  refine z_cSNi (RV := (pix pl)) (As := [.int (iI pl)]) (rest := [.ref g1]) (wc := []) (wr := [(g0, .inr (5, [.ref g1])), (g1, .inl (gB G, 1920, .inl (fun j : Nat => iI (sg (j : Int)))))]) (wn := [(g0, .inr (5, [.ref g1])), (g1, .inl (gB G, 1920, .inl (fun j : Nat => iI (sg (j : Int)))))]) F C (c_X10_placeIndex l G H.size pl (by omega)) ⟨va_cnB 1 hts gX4_put_X10_placeIndex_n15 rfl rfl rfl hN.2.1 hw1 (by decide +kernel) (by decide), hw2⟩ hP hD hS [] [0, 1] rfl rfl (by decide) rfl rfl hl.1 rfl (Nat.le_of_ble_eq_true rfl) dX4_put_5 (by decide) (fun H locs hP hD hS => ?_)
  refine lv_lload_n hx hb dX4_put_8 rfl (lv_at hl 2 rfl) ?_
  refine z_l2i hx hb dX4_put_9 ?_
  refine z_i2b hx hb dX4_put_10 (by omega) ?_
  refine z_bast hx hb hK hP hD hS 1 2 rfl rfl (by omega) (by omega) dX4_put_11 (fun H locs hP hD hS => ?_)
  have hP : va_P G.1 vwCl [(g0, .inr (5, [.ref g1])), (g1, .inl (gB G, 1920, .inl (fun j : Nat => iI ((uF sg (pix pl) v) (j : Int)))))] H := hP
  have hD : va_D A [(g0, .inr (5, [.ref g1])), (g1, .inl (gB G, 1920, .inl (fun j : Nat => iI ((uF sg (pix pl) v) (j : Int)))))] := hD
  exact hret _ ls H locs dX4_put_12 hP hD hS

