theorem if_ne0 {c : Prop} [Decidable c] (h : (if c then (1 : Int) else 0) ≠ 0) : c := by
  by_cases q : c
  · exact q
  · rw [if_neg q] at h; exact absurd rfl h
theorem if_eq0 {c : Prop} [Decidable c] (h : (if c then (1 : Int) else 0) = 0) : ¬ c := by
  intro q; rw [if_pos q] at h; exact absurd h (by decide)
theorem kOf_r {c : Int} (h : 0 ≤ c ∧ c < 20000000) : 0 ≤ kOf c ∧ kOf c ≤ 4 := by
  have : Int.tdiv c 4000000 = c / 4000000 := Int.tdiv_eq_ediv_of_nonneg h.1
  unfold kOf; omega
theorem tOf_r {c : Int} (h : 0 ≤ c ∧ c < 20000000) : 0 ≤ tOf c ∧ tOf c < 4000000 := by
  have : Int.tmod c 4000000 = c % 4000000 := Int.tmod_eq_emod_of_nonneg h.1
  unfold tOf; omega
theorem maF_e {co so : Int → Int} {w fd fr : Int} {ot : Int → Int} {n : Nat} (h : fd ≤ fr) : maF co so w fd n fr ot = ot := by
  cases n with
  | zero => rfl
  | succ n => unfold maF; rw [if_neg (by omega)]
theorem maF_s {co so : Int → Int} {w fd fr : Int} {ot fin : Int → Int} {n : Nat} (h : fr < fd) (hn : fd ≤ fr + (n : Int)) (e : maF co so w fd n fr ot = fin) : ∃ n2 : Nat, n = n2 + 1 ∧ maF co so w fd n2 (fr + 2 * w) (mg co so (min (fr + w) fd) (min (min (fr + w) fd + w) fd) (min (min (fr + w) fd + w) fd - fr).toNat fr fr (min (fr + w) fd) ot) = fin := by
  cases n with
  | zero => omega
  | succ n => refine ⟨n, rfl, ?_⟩; unfold maF at e; rw [if_pos h] at e; exact e
theorem srt_e {co : Int → Int} {fd w : Int} {so ot : Int → Int} {n : Nat} (h : fd ≤ w) : srt co fd n w so ot = so := by
  cases n with
  | zero => rfl
  | succ n => unfold srt; rw [if_neg (by omega)]
theorem srt_s {co : Int → Int} {fd w : Int} {so ot fin : Int → Int} {n : Nat} (h : w < fd) (hn : fd ≤ w + (n : Int)) (e : srt co fd n w so ot = fin) : ∃ n2 : Nat, n = n2 + 1 ∧ srt co fd n2 (w * 2) (maF co so w fd fd.toNat 0 ot) so = fin := by
  cases n with
  | zero => omega
  | succ n => refine ⟨n, rfl, ?_⟩; unfold srt at e; rw [if_pos h] at e; exact e
set_option maxHeartbeats 4000000 in
set_option maxRecDepth 100000 in
theorem c_X5_gather (l : Launch) (G : Gx) (zz : Nat) (r0 r1 r2 : Nat) (so ot : Int → Int) (fd : Int) (u0 u1 u2 : Nat) (co ve : Int → Int) (k : Int) (hk : 0 ≤ k ∧ k ≤ 1000) (hco : ∀ j, 0 ≤ j → j < k → 0 ≤ co j ∧ co j < 20000000) : Cv l yX5_gather wsX5_gather (rz 1 21) G [.ref r0, .ref u0] [(r0, .inr (6, [.ref r1, .ref r2, .int (iI fd)])), (r1, .inl (gI G, 1000, .inl (fun j : Nat => iI (so (j : Int))))), (r2, .inl (gI G, 1000, .inl (fun j : Nat => iI (ot (j : Int))))), (u0, .inr (1, [.ref u1, .ref u2, .int (iI k)])), (u1, .inl (gI G, 1000, .inl (fun j : Nat => iI (co (j : Int))))), (u2, .inl (gL G, 1000, .inr (.inl (fun j : Nat => lI (ve (j : Int))))))] zz [(r0, .inr (6, [.ref r1, .ref r2, .int (iI (gaN co k.toNat))])), (r1, .inl (gI G, 1000, .inl (fun j : Nat => iI ((gaS co so k.toNat) (j : Int))))), (r2, .inl (gI G, 1000, .inl (fun j : Nat => iI (ot (j : Int))))), (u0, .inr (1, [.ref u1, .ref u2, .int (iI k)])), (u1, .inl (gI G, 1000, .inl (fun j : Nat => iI (co (j : Int))))), (u2, .inl (gL G, 1000, .inr (.inl (fun j : Nat => lI (ve (j : Int))))))] := by
  refine met_v (cc := cX5_gather) (maxL := 3) (by decide) rfl (Nat.le_of_ble_eq_true rfl) ⟨rfl, rfl⟩ ?_
  intro p e s m below meth c A Q F C hP hD hS hret ls hl
  obtain ⟨hx, hb, hml, hown, hts⟩ := id F
  obtain ⟨hK, hA, hZ, hT, hN⟩ := id C
  have hl : lv_has ls 3 [(0, .ref r0), (1, .ref u0)] := hl
  obtain ⟨H, hH⟩ : ∃ H, H = s.heap := ⟨_, rfl⟩
  obtain ⟨locs, hlocs⟩ : ∃ l : List Loc, l = [] := ⟨_, rfl⟩
  have hS : va_S A s.heap H locs := by rw [hH, hlocs]; exact hS
  have hP : va_P G.1 vwCl [(r0, .inr (6, [.ref r1, .ref r2, .int (iI fd)])), (r1, .inl (gI G, 1000, .inl (fun j : Nat => iI (so (j : Int))))), (r2, .inl (gI G, 1000, .inl (fun j : Nat => iI (ot (j : Int))))), (u0, .inr (1, [.ref u1, .ref u2, .int (iI k)])), (u1, .inl (gI G, 1000, .inl (fun j : Nat => iI (co (j : Int))))), (u2, .inl (gL G, 1000, .inr (.inl (fun j : Nat => lI (ve (j : Int))))))] H := by rw [hH]; exact hP
  suffices hgo : W p l e (rz 1 21) s m [.ref r0, .ref u0].toArray below meth c H locs 0 0 Q (F0 m 0 ls []) by rw [hH, hlocs] at hgo; exact hgo
  have hiX5 : ∀ w ∈ wsX50, w ∈ wsX5_gather := by decide +kernel
  have hw0 := hts (Cond.fieldLink RX5 22 "PlainCobol$SecondRecords" "found" "I") (List.mem_of_getElem? (i := 1) rfl)
  have hiX0 : ∀ w ∈ wsX00, w ∈ wsX5_gather := by decide +kernel
  have hw1 := hts (Cond.fieldLink RX5 44 "PlainCobol$Acts" "size" "I") (List.mem_of_getElem? (i := 2) rfl)
  have hw2 := hts (Cond.fieldLink RX5 9 "PlainCobol$SecondRecords" "sorted" "[I") (List.mem_of_getElem? (i := 3) rfl)
  refine lv_aload_n hx hb dX5_gather_0 rfl (lv_at hl 0 rfl) ?_
  refine lv_iconst (v := iI (0)) hx hb dX5_gather_1 rfl ?_
  refine va_put (D := G.1) (ci := 6) (v := .int (iI 0)) (ty := .int) (C := RX5) (T := TX5) (N := 3) hx hb hts hiX5 tyX5 tyX5_ok nmX5 hown hK hP hD hS 0 rfl rfl 2 (by decide) hw0 (fun _ h9 => h9) rfl (by decide +kernel) rfl rfl (Nat.le_of_ble_eq_true rfl) dX5_gather_2 (fun H locs hP hD hS => ?_)
  have hP : va_P G.1 vwCl [(r0, .inr (6, [.ref r1, .ref r2, .int (iI 0)])), (r1, .inl (gI G, 1000, .inl (fun j : Nat => iI (so (j : Int))))), (r2, .inl (gI G, 1000, .inl (fun j : Nat => iI (ot (j : Int))))), (u0, .inr (1, [.ref u1, .ref u2, .int (iI k)])), (u1, .inl (gI G, 1000, .inl (fun j : Nat => iI (co (j : Int))))), (u2, .inl (gL G, 1000, .inr (.inl (fun j : Nat => lI (ve (j : Int))))))] H := hP
  have hD : va_D A [(r0, .inr (6, [.ref r1, .ref r2, .int (iI 0)])), (r1, .inl (gI G, 1000, .inl (fun j : Nat => iI (so (j : Int))))), (r2, .inl (gI G, 1000, .inl (fun j : Nat => iI (ot (j : Int))))), (u0, .inr (1, [.ref u1, .ref u2, .int (iI k)])), (u1, .inl (gI G, 1000, .inl (fun j : Nat => iI (co (j : Int))))), (u2, .inl (gL G, 1000, .inr (.inl (fun j : Nat => lI (ve (j : Int))))))] := hD
  refine lv_iconst (v := iI (0)) hx hb dX5_gather_5 rfl ?_
  refine lv_istore_n (lv' := [(2, .int (iI 0)), (0, .ref r0), (1, .ref u0)]) hx hb dX5_gather_6 rfl hl (by decide) rfl (fun ls hl => ?_)
  have loop7 : ∀ (N : Nat) (i : Int) (xs : Int → Int) (xf : Int) (H : Heap) (locs : List Loc) (ls : Array Slot), ((k - i).toNat) < N → (0 ≤ i ∧ i ≤ k) → (xf = gaN co i.toNat) → (xs = gaS co so i.toNat) → va_P G.1 vwCl [(r0, .inr (6, [.ref r1, .ref r2, .int (iI xf)])), (r1, .inl (gI G, 1000, .inl (fun j : Nat => iI (xs (j : Int))))), (r2, .inl (gI G, 1000, .inl (fun j : Nat => iI (ot (j : Int))))), (u0, .inr (1, [.ref u1, .ref u2, .int (iI k)])), (u1, .inl (gI G, 1000, .inl (fun j : Nat => iI (co (j : Int))))), (u2, .inl (gL G, 1000, .inr (.inl (fun j : Nat => lI (ve (j : Int))))))] H → va_D A [(r0, .inr (6, [.ref r1, .ref r2, .int (iI xf)])), (r1, .inl (gI G, 1000, .inl (fun j : Nat => iI (xs (j : Int))))), (r2, .inl (gI G, 1000, .inl (fun j : Nat => iI (ot (j : Int))))), (u0, .inr (1, [.ref u1, .ref u2, .int (iI k)])), (u1, .inl (gI G, 1000, .inl (fun j : Nat => iI (co (j : Int))))), (u2, .inl (gL G, 1000, .inr (.inl (fun j : Nat => lI (ve (j : Int))))))] → va_S A s.heap H locs → lv_has ls 3 [(0, .ref r0), (1, .ref u0), (2, .int (iI i))] → W p l e (rz 1 21) s m [.ref r0, .ref u0].toArray below meth c H locs 0 0 Q (F0 m 7 ls []) := by
    intro N
    induction N with
    | zero => intro i xs xf H locs ls hm; exact absurd hm (Nat.not_lt_zero _)
    | succ N ih7 =>
      intro i xs xf H locs ls hm ji jf js hP hD hS hl
      refine lv_iload_n hx hb dX5_gather_7 rfl (lv_at hl 2 rfl) ?_
      refine lv_aload_n hx hb dX5_gather_8 rfl (lv_at hl 1 rfl) ?_
      refine va_get (D := G.1) (ci := 1) (v := .int (iI k)) (C := RX0) (T := TX0) (N := 3) hx hb hts hiX0 hown hK hP 3 rfl rfl 2 (by decide) hw1 (fun _ h9 => h9) rfl dX5_gather_9 ?_
      refine z_icmp_ge (tgt := 58) hx hb dX5_gather_12 (by decide) (by omega) (fun c_1 => ?_) (fun c_1 => ?_)
      · skip
        have e_2 : (xf : Int) = (gaN co k.toNat) := by first | (rw [js, show i = k by omega]) | (rw [jf, show i = k by omega])
        have e_3 : (xs : Int → Int) = (gaS co so k.toNat) := by first | (rw [js, show i = k by omega]) | (rw [jf, show i = k by omega])
        have hP : va_P G.1 vwCl [(r0, .inr (6, [.ref r1, .ref r2, .int (iI (gaN co k.toNat))])), (r1, .inl (gI G, 1000, .inl (fun j : Nat => iI ((gaS co so k.toNat) (j : Int))))), (r2, .inl (gI G, 1000, .inl (fun j : Nat => iI (ot (j : Int))))), (u0, .inr (1, [.ref u1, .ref u2, .int (iI k)])), (u1, .inl (gI G, 1000, .inl (fun j : Nat => iI (co (j : Int))))), (u2, .inl (gL G, 1000, .inr (.inl (fun j : Nat => lI (ve (j : Int))))))] H := by rw [← e_2, ← e_3]; exact hP
        have hD : va_D A [(r0, .inr (6, [.ref r1, .ref r2, .int (iI (gaN co k.toNat))])), (r1, .inl (gI G, 1000, .inl (fun j : Nat => iI ((gaS co so k.toNat) (j : Int))))), (r2, .inl (gI G, 1000, .inl (fun j : Nat => iI (ot (j : Int))))), (u0, .inr (1, [.ref u1, .ref u2, .int (iI k)])), (u1, .inl (gI G, 1000, .inl (fun j : Nat => iI (co (j : Int))))), (u2, .inl (gL G, 1000, .inr (.inl (fun j : Nat => lI (ve (j : Int))))))] := by rw [← e_2, ← e_3]; exact hD
        exact hret _ ls H locs dX5_gather_58 hP hD hS
      · skip
        have hci := hco i (by omega) (by omega)
        have hkr := kOf_r hci
        have hgr := gaN_r co i.toNat
        refine lv_aload_n hx hb dX5_gather_15 rfl (lv_at hl 1 rfl) ?_
        refine lv_iload_n hx hb dX5_gather_16 rfl (lv_at hl 2 rfl) ?_
        refine z_cVi (RV := (kOf (co i))) (As := [.int (iI i)]) (rest := []) (wc := [(u0, .inr (1, [.ref u1, .ref u2, .int (iI k)])), (u1, .inl (gI G, 1000, .inl (fun j : Nat => iI (co (j : Int))))), (u2, .inl (gL G, 1000, .inr (.inl (fun j : Nat => lI (ve (j : Int))))))]) (wr := [(r0, .inr (6, [.ref r1, .ref r2, .int (iI xf)])), (r1, .inl (gI G, 1000, .inl (fun j : Nat => iI (xs (j : Int))))), (r2, .inl (gI G, 1000, .inl (fun j : Nat => iI (ot (j : Int)))))]) (wn := [(r0, .inr (6, [.ref r1, .ref r2, .int (iI xf)])), (r1, .inl (gI G, 1000, .inl (fun j : Nat => iI (xs (j : Int))))), (r2, .inl (gI G, 1000, .inl (fun j : Nat => iI (ot (j : Int))))), (u0, .inr (1, [.ref u1, .ref u2, .int (iI k)])), (u1, .inl (gI G, 1000, .inl (fun j : Nat => iI (co (j : Int))))), (u2, .inl (gL G, 1000, .inr (.inl (fun j : Nat => lI (ve (j : Int))))))]) F C (c_X0_kindOf l G H.size u0 u1 u2 1000 co ve k i (by omega) (by omega) (by omega)) (cwV 1 hts gX5_gather_X0_kindOf rfl rfl rfl (by decide +kernel) (by decide)) hP hD hS (q0 := 3) rfl rfl rfl [3, 4, 5] [0, 1, 2] rfl rfl (by decide) rfl rfl hl.1 rfl (Nat.le_of_ble_eq_true rfl) dX5_gather_17 (by decide) (fun H locs hP hD hS => ?_)
        refine z_if_eq (tgt := 32) hx hb dX5_gather_20 (by decide) (by omega) (fun c_4 => ?_) (fun c_4 => ?_)
        · skip
          refine lv_aload_n hx hb dX5_gather_32 rfl (lv_at hl 0 rfl) ?_
          refine va_get (D := G.1) (ci := 6) (v := .ref r1) (C := RX5) (T := TX5) (N := 3) hx hb hts hiX5 hown hK hP 0 rfl rfl 0 (by decide) hw2 (fun _ h9 => h9) rfl dX5_gather_33 ?_
          refine lv_aload_n hx hb dX5_gather_36 rfl (lv_at hl 0 rfl) ?_
          refine va_get (D := G.1) (ci := 6) (v := .int (iI xf)) (C := RX5) (T := TX5) (N := 3) hx hb hts hiX5 hown hK hP 0 rfl rfl 2 (by decide) hw0 (fun _ h9 => h9) rfl dX5_gather_37 ?_
          refine lv_iload_n hx hb dX5_gather_40 rfl (lv_at hl 2 rfl) ?_
          refine z_iast hx hb hK hP hD hS 1 0 rfl rfl (by omega) dX5_gather_41 (fun H locs hP hD hS => ?_)
          have hP : va_P G.1 vwCl [(r0, .inr (6, [.ref r1, .ref r2, .int (iI xf)])), (r1, .inl (gI G, 1000, .inl (fun j : Nat => iI ((uF xs xf i) (j : Int))))), (r2, .inl (gI G, 1000, .inl (fun j : Nat => iI (ot (j : Int))))), (u0, .inr (1, [.ref u1, .ref u2, .int (iI k)])), (u1, .inl (gI G, 1000, .inl (fun j : Nat => iI (co (j : Int))))), (u2, .inl (gL G, 1000, .inr (.inl (fun j : Nat => lI (ve (j : Int))))))] H := hP
          have hD : va_D A [(r0, .inr (6, [.ref r1, .ref r2, .int (iI xf)])), (r1, .inl (gI G, 1000, .inl (fun j : Nat => iI ((uF xs xf i) (j : Int))))), (r2, .inl (gI G, 1000, .inl (fun j : Nat => iI (ot (j : Int))))), (u0, .inr (1, [.ref u1, .ref u2, .int (iI k)])), (u1, .inl (gI G, 1000, .inl (fun j : Nat => iI (co (j : Int))))), (u2, .inl (gL G, 1000, .inr (.inl (fun j : Nat => lI (ve (j : Int))))))] := hD
          refine lv_aload_n hx hb dX5_gather_42 rfl (lv_at hl 0 rfl) ?_
          refine lv_dup hx hb dX5_gather_43 rfl ?_
          refine va_get (D := G.1) (ci := 6) (v := .int (iI xf)) (C := RX5) (T := TX5) (N := 3) hx hb hts hiX5 hown hK hP 0 rfl rfl 2 (by decide) hw0 (fun _ h9 => h9) rfl dX5_gather_44 ?_
          refine lv_iconst (v := iI (1)) hx hb dX5_gather_47 rfl ?_
          refine z_iadd hx hb dX5_gather_48 ?_
          refine va_put (D := G.1) (ci := 6) (v := .int (iI (xf + 1))) (ty := .int) (C := RX5) (T := TX5) (N := 3) hx hb hts hiX5 tyX5 tyX5_ok nmX5 hown hK hP hD hS 0 rfl rfl 2 (by decide) hw0 (fun _ h9 => h9) rfl (by decide +kernel) rfl rfl (Nat.le_of_ble_eq_true rfl) dX5_gather_49 (fun H locs hP hD hS => ?_)
          have hP : va_P G.1 vwCl [(r0, .inr (6, [.ref r1, .ref r2, .int (iI (xf + 1))])), (r1, .inl (gI G, 1000, .inl (fun j : Nat => iI ((uF xs xf i) (j : Int))))), (r2, .inl (gI G, 1000, .inl (fun j : Nat => iI (ot (j : Int))))), (u0, .inr (1, [.ref u1, .ref u2, .int (iI k)])), (u1, .inl (gI G, 1000, .inl (fun j : Nat => iI (co (j : Int))))), (u2, .inl (gL G, 1000, .inr (.inl (fun j : Nat => lI (ve (j : Int))))))] H := hP
          have hD : va_D A [(r0, .inr (6, [.ref r1, .ref r2, .int (iI (xf + 1))])), (r1, .inl (gI G, 1000, .inl (fun j : Nat => iI ((uF xs xf i) (j : Int))))), (r2, .inl (gI G, 1000, .inl (fun j : Nat => iI (ot (j : Int))))), (u0, .inr (1, [.ref u1, .ref u2, .int (iI k)])), (u1, .inl (gI G, 1000, .inl (fun j : Nat => iI (co (j : Int))))), (u2, .inl (gL G, 1000, .inr (.inl (fun j : Nat => lI (ve (j : Int))))))] := hD
          refine lv_iinc (v := iI (i + 1)) (lv' := [(2, .int (iI (i + 1))), (0, .ref r0), (1, .ref u0)]) hx hb dX5_gather_52 hl (k := 2) rfl (iI_add i (1)) (by decide) rfl (fun ls hl => ?_)
          refine lv_goto (tgt := 7) hx hb dX5_gather_55 (by decide) ?_
          exact ih7 (i + 1) (uF xs xf i) (xf + 1) H locs ls (by omega) (by omega) (by rw [gaN_s ji.1, jf]; first | exact (if_pos (by omega)).symm | exact (if_neg (by omega)).symm) (by rw [gaS_s ji.1, js]; (try rw [jf]); first | exact (if_pos (by omega)).symm | exact (if_neg (by omega)).symm) hP hD hS (lv_sub hl [1, 2, 0] rfl)
        · skip
          refine lv_aload_n hx hb dX5_gather_23 rfl (lv_at hl 1 rfl) ?_
          refine lv_iload_n hx hb dX5_gather_24 rfl (lv_at hl 2 rfl) ?_
          refine z_cVi (RV := (kOf (co i))) (As := [.int (iI i)]) (rest := []) (wc := [(u0, .inr (1, [.ref u1, .ref u2, .int (iI k)])), (u1, .inl (gI G, 1000, .inl (fun j : Nat => iI (co (j : Int))))), (u2, .inl (gL G, 1000, .inr (.inl (fun j : Nat => lI (ve (j : Int))))))]) (wr := [(r0, .inr (6, [.ref r1, .ref r2, .int (iI xf)])), (r1, .inl (gI G, 1000, .inl (fun j : Nat => iI (xs (j : Int))))), (r2, .inl (gI G, 1000, .inl (fun j : Nat => iI (ot (j : Int)))))]) (wn := [(r0, .inr (6, [.ref r1, .ref r2, .int (iI xf)])), (r1, .inl (gI G, 1000, .inl (fun j : Nat => iI (xs (j : Int))))), (r2, .inl (gI G, 1000, .inl (fun j : Nat => iI (ot (j : Int))))), (u0, .inr (1, [.ref u1, .ref u2, .int (iI k)])), (u1, .inl (gI G, 1000, .inl (fun j : Nat => iI (co (j : Int))))), (u2, .inl (gL G, 1000, .inr (.inl (fun j : Nat => lI (ve (j : Int))))))]) F C (c_X0_kindOf l G H.size u0 u1 u2 1000 co ve k i (by omega) (by omega) (by omega)) (cwV 1 hts gX5_gather_X0_kindOf rfl rfl rfl (by decide +kernel) (by decide)) hP hD hS (q0 := 3) rfl rfl rfl [3, 4, 5] [0, 1, 2] rfl rfl (by decide) rfl rfl hl.1 rfl (Nat.le_of_ble_eq_true rfl) dX5_gather_25 (by decide) (fun H locs hP hD hS => ?_)
          refine lv_iconst (v := iI (1)) hx hb dX5_gather_28 rfl ?_
          refine z_icmp_ne (tgt := 52) hx hb dX5_gather_29 (by decide) (by omega) (fun c_5 => ?_) (fun c_5 => ?_)
          · skip
            refine lv_iinc (v := iI (i + 1)) (lv' := [(2, .int (iI (i + 1))), (0, .ref r0), (1, .ref u0)]) hx hb dX5_gather_52 hl (k := 2) rfl (iI_add i (1)) (by decide) rfl (fun ls hl => ?_)
            refine lv_goto (tgt := 7) hx hb dX5_gather_55 (by decide) ?_
            exact ih7 (i + 1) xs xf H locs ls (by omega) (by omega) (by rw [gaN_s ji.1, jf]; first | exact (if_pos (by omega)).symm | exact (if_neg (by omega)).symm) (by rw [gaS_s ji.1, js]; (try rw [jf]); first | exact (if_pos (by omega)).symm | exact (if_neg (by omega)).symm) hP hD hS (lv_sub hl [1, 2, 0] rfl)
          · skip
            refine lv_aload_n hx hb dX5_gather_32 rfl (lv_at hl 0 rfl) ?_
            refine va_get (D := G.1) (ci := 6) (v := .ref r1) (C := RX5) (T := TX5) (N := 3) hx hb hts hiX5 hown hK hP 0 rfl rfl 0 (by decide) hw2 (fun _ h9 => h9) rfl dX5_gather_33 ?_
            refine lv_aload_n hx hb dX5_gather_36 rfl (lv_at hl 0 rfl) ?_
            refine va_get (D := G.1) (ci := 6) (v := .int (iI xf)) (C := RX5) (T := TX5) (N := 3) hx hb hts hiX5 hown hK hP 0 rfl rfl 2 (by decide) hw0 (fun _ h9 => h9) rfl dX5_gather_37 ?_
            refine lv_iload_n hx hb dX5_gather_40 rfl (lv_at hl 2 rfl) ?_
            refine z_iast hx hb hK hP hD hS 1 0 rfl rfl (by omega) dX5_gather_41 (fun H locs hP hD hS => ?_)
            have hP : va_P G.1 vwCl [(r0, .inr (6, [.ref r1, .ref r2, .int (iI xf)])), (r1, .inl (gI G, 1000, .inl (fun j : Nat => iI ((uF xs xf i) (j : Int))))), (r2, .inl (gI G, 1000, .inl (fun j : Nat => iI (ot (j : Int))))), (u0, .inr (1, [.ref u1, .ref u2, .int (iI k)])), (u1, .inl (gI G, 1000, .inl (fun j : Nat => iI (co (j : Int))))), (u2, .inl (gL G, 1000, .inr (.inl (fun j : Nat => lI (ve (j : Int))))))] H := hP
            have hD : va_D A [(r0, .inr (6, [.ref r1, .ref r2, .int (iI xf)])), (r1, .inl (gI G, 1000, .inl (fun j : Nat => iI ((uF xs xf i) (j : Int))))), (r2, .inl (gI G, 1000, .inl (fun j : Nat => iI (ot (j : Int))))), (u0, .inr (1, [.ref u1, .ref u2, .int (iI k)])), (u1, .inl (gI G, 1000, .inl (fun j : Nat => iI (co (j : Int))))), (u2, .inl (gL G, 1000, .inr (.inl (fun j : Nat => lI (ve (j : Int))))))] := hD
            refine lv_aload_n hx hb dX5_gather_42 rfl (lv_at hl 0 rfl) ?_
            refine lv_dup hx hb dX5_gather_43 rfl ?_
            refine va_get (D := G.1) (ci := 6) (v := .int (iI xf)) (C := RX5) (T := TX5) (N := 3) hx hb hts hiX5 hown hK hP 0 rfl rfl 2 (by decide) hw0 (fun _ h9 => h9) rfl dX5_gather_44 ?_
            refine lv_iconst (v := iI (1)) hx hb dX5_gather_47 rfl ?_
            refine z_iadd hx hb dX5_gather_48 ?_
            refine va_put (D := G.1) (ci := 6) (v := .int (iI (xf + 1))) (ty := .int) (C := RX5) (T := TX5) (N := 3) hx hb hts hiX5 tyX5 tyX5_ok nmX5 hown hK hP hD hS 0 rfl rfl 2 (by decide) hw0 (fun _ h9 => h9) rfl (by decide +kernel) rfl rfl (Nat.le_of_ble_eq_true rfl) dX5_gather_49 (fun H locs hP hD hS => ?_)
            have hP : va_P G.1 vwCl [(r0, .inr (6, [.ref r1, .ref r2, .int (iI (xf + 1))])), (r1, .inl (gI G, 1000, .inl (fun j : Nat => iI ((uF xs xf i) (j : Int))))), (r2, .inl (gI G, 1000, .inl (fun j : Nat => iI (ot (j : Int))))), (u0, .inr (1, [.ref u1, .ref u2, .int (iI k)])), (u1, .inl (gI G, 1000, .inl (fun j : Nat => iI (co (j : Int))))), (u2, .inl (gL G, 1000, .inr (.inl (fun j : Nat => lI (ve (j : Int))))))] H := hP
            have hD : va_D A [(r0, .inr (6, [.ref r1, .ref r2, .int (iI (xf + 1))])), (r1, .inl (gI G, 1000, .inl (fun j : Nat => iI ((uF xs xf i) (j : Int))))), (r2, .inl (gI G, 1000, .inl (fun j : Nat => iI (ot (j : Int))))), (u0, .inr (1, [.ref u1, .ref u2, .int (iI k)])), (u1, .inl (gI G, 1000, .inl (fun j : Nat => iI (co (j : Int))))), (u2, .inl (gL G, 1000, .inr (.inl (fun j : Nat => lI (ve (j : Int))))))] := hD
            refine lv_iinc (v := iI (i + 1)) (lv' := [(2, .int (iI (i + 1))), (0, .ref r0), (1, .ref u0)]) hx hb dX5_gather_52 hl (k := 2) rfl (iI_add i (1)) (by decide) rfl (fun ls hl => ?_)
            refine lv_goto (tgt := 7) hx hb dX5_gather_55 (by decide) ?_
            exact ih7 (i + 1) (uF xs xf i) (xf + 1) H locs ls (by omega) (by omega) (by rw [gaN_s ji.1, jf]; first | exact (if_pos (by omega)).symm | exact (if_neg (by omega)).symm) (by rw [gaS_s ji.1, js]; (try rw [jf]); first | exact (if_pos (by omega)).symm | exact (if_neg (by omega)).symm) hP hD hS (lv_sub hl [1, 2, 0] rfl)
  exact loop7 _ 0 so 0 H locs ls (Nat.lt_succ_self _) (by omega) (by rfl) (by rfl) hP hD hS (lv_sub hl [1, 2, 0] rfl)

set_option maxHeartbeats 4000000 in
set_option maxRecDepth 100000 in
theorem c_X5_merge (l : Launch) (G : Gx) (zz : Nat) (r0 r1 r2 : Nat) (so ot : Int → Int) (fd : Int) (u0 u1 u2 : Nat) (co ve : Int → Int) (k : Int) (fr mid en : Int) (hk : 0 ≤ k ∧ k ≤ 1000) (hco : ∀ j, 0 ≤ j → j < k → 0 ≤ co j ∧ co j < 20000000) (hfd : 0 ≤ fd ∧ fd ≤ 1000) (hso : ∀ j, 0 ≤ j → j < fd → 0 ≤ so j ∧ so j < k) (hm : 0 ≤ fr ∧ fr ≤ mid ∧ mid ≤ en ∧ en ≤ fd) : Cv l yX5_merge wsX5_merge (rz 1 21) G [.ref r0, .ref u0, .int (iI fr), .int (iI mid), .int (iI en)] [(r0, .inr (6, [.ref r1, .ref r2, .int (iI fd)])), (r1, .inl (gI G, 1000, .inl (fun j : Nat => iI (so (j : Int))))), (r2, .inl (gI G, 1000, .inl (fun j : Nat => iI (ot (j : Int))))), (u0, .inr (1, [.ref u1, .ref u2, .int (iI k)])), (u1, .inl (gI G, 1000, .inl (fun j : Nat => iI (co (j : Int))))), (u2, .inl (gL G, 1000, .inr (.inl (fun j : Nat => lI (ve (j : Int))))))] zz [(r0, .inr (6, [.ref r1, .ref r2, .int (iI fd)])), (r1, .inl (gI G, 1000, .inl (fun j : Nat => iI (so (j : Int))))), (r2, .inl (gI G, 1000, .inl (fun j : Nat => iI ((mg co so mid en (en - fr).toNat fr fr mid ot) (j : Int))))), (u0, .inr (1, [.ref u1, .ref u2, .int (iI k)])), (u1, .inl (gI G, 1000, .inl (fun j : Nat => iI (co (j : Int))))), (u2, .inl (gL G, 1000, .inr (.inl (fun j : Nat => lI (ve (j : Int))))))] := by
  refine met_v (cc := cX5_merge) (maxL := 9) (by decide) rfl (Nat.le_of_ble_eq_true rfl) ⟨rfl, rfl⟩ ?_
  intro p e s m below meth c A Q F C hP hD hS hret ls hl
  obtain ⟨hx, hb, hml, hown, hts⟩ := id F
  obtain ⟨hK, hA, hZ, hT, hN⟩ := id C
  have hl : lv_has ls 9 [(0, .ref r0), (1, .ref u0), (2, .int (iI fr)), (3, .int (iI mid)), (4, .int (iI en))] := hl
  obtain ⟨H, hH⟩ : ∃ H, H = s.heap := ⟨_, rfl⟩
  obtain ⟨locs, hlocs⟩ : ∃ l : List Loc, l = [] := ⟨_, rfl⟩
  have hS : va_S A s.heap H locs := by rw [hH, hlocs]; exact hS
  have hP : va_P G.1 vwCl [(r0, .inr (6, [.ref r1, .ref r2, .int (iI fd)])), (r1, .inl (gI G, 1000, .inl (fun j : Nat => iI (so (j : Int))))), (r2, .inl (gI G, 1000, .inl (fun j : Nat => iI (ot (j : Int))))), (u0, .inr (1, [.ref u1, .ref u2, .int (iI k)])), (u1, .inl (gI G, 1000, .inl (fun j : Nat => iI (co (j : Int))))), (u2, .inl (gL G, 1000, .inr (.inl (fun j : Nat => lI (ve (j : Int))))))] H := by rw [hH]; exact hP
  suffices hgo : W p l e (rz 1 21) s m [.ref r0, .ref u0, .int (iI fr), .int (iI mid), .int (iI en)].toArray below meth c H locs 0 0 Q (F0 m 0 ls []) by rw [hH, hlocs] at hgo; exact hgo
  have hiX5 : ∀ w ∈ wsX50, w ∈ wsX5_merge := by decide +kernel
  have hw0 := hts (Cond.fieldLink RX5 15 "PlainCobol$SecondRecords" "other" "[I") (List.mem_of_getElem? (i := 2) rfl)
  have hw1 := hts (Cond.fieldLink RX5 9 "PlainCobol$SecondRecords" "sorted" "[I") (List.mem_of_getElem? (i := 1) rfl)
  refine lv_iload_n hx hb dX5_merge_0 rfl (lv_at hl 2 rfl) ?_
  refine lv_istore (lv' := [(5, .int (iI fr)), (0, .ref r0), (1, .ref u0), (2, .int (iI fr)), (3, .int (iI mid)), (4, .int (iI en))]) hx hb dX5_merge_1 hl (by decide) rfl (fun ls hl => ?_)
  refine lv_iload_n hx hb dX5_merge_3 rfl (lv_at hl 4 rfl) ?_
  refine lv_istore (lv' := [(6, .int (iI mid)), (5, .int (iI fr)), (0, .ref r0), (1, .ref u0), (2, .int (iI fr)), (3, .int (iI mid)), (4, .int (iI en))]) hx hb dX5_merge_4 hl (by decide) rfl (fun ls hl => ?_)
  refine lv_iload_n hx hb dX5_merge_6 rfl (lv_at hl 4 rfl) ?_
  refine lv_istore (lv' := [(7, .int (iI fr)), (6, .int (iI mid)), (5, .int (iI fr)), (0, .ref r0), (1, .ref u0), (2, .int (iI fr)), (3, .int (iI mid)), (4, .int (iI en))]) hx hb dX5_merge_7 hl (by decide) rfl (fun ls hl => ?_)
  have loop9 : ∀ (N : Nat) (xl xr xt : Int) (xo : Int → Int) (H : Heap) (locs : List Loc) (ls : Array Slot), ((en - xt).toNat) < N → (fr ≤ xl ∧ xl ≤ mid ∧ mid ≤ xr ∧ xr ≤ en ∧ xt = xl + xr - mid) → (mg co so mid en (en - xt).toNat xt xl xr xo = mg co so mid en (en - fr).toNat fr fr mid ot) → va_P G.1 vwCl [(r0, .inr (6, [.ref r1, .ref r2, .int (iI fd)])), (r1, .inl (gI G, 1000, .inl (fun j : Nat => iI (so (j : Int))))), (r2, .inl (gI G, 1000, .inl (fun j : Nat => iI (xo (j : Int))))), (u0, .inr (1, [.ref u1, .ref u2, .int (iI k)])), (u1, .inl (gI G, 1000, .inl (fun j : Nat => iI (co (j : Int))))), (u2, .inl (gL G, 1000, .inr (.inl (fun j : Nat => lI (ve (j : Int))))))] H → va_D A [(r0, .inr (6, [.ref r1, .ref r2, .int (iI fd)])), (r1, .inl (gI G, 1000, .inl (fun j : Nat => iI (so (j : Int))))), (r2, .inl (gI G, 1000, .inl (fun j : Nat => iI (xo (j : Int))))), (u0, .inr (1, [.ref u1, .ref u2, .int (iI k)])), (u1, .inl (gI G, 1000, .inl (fun j : Nat => iI (co (j : Int))))), (u2, .inl (gL G, 1000, .inr (.inl (fun j : Nat => lI (ve (j : Int))))))] → va_S A s.heap H locs → lv_has ls 9 [(0, .ref r0), (1, .ref u0), (2, .int (iI fr)), (3, .int (iI mid)), (4, .int (iI en)), (5, .int (iI xl)), (6, .int (iI xr)), (7, .int (iI xt))] → W p l e (rz 1 21) s m [.ref r0, .ref u0, .int (iI fr), .int (iI mid), .int (iI en)].toArray below meth c H locs 0 0 Q (F0 m 9 ls []) := by
    intro N
    induction N with
    | zero => intro xl xr xt xo H locs ls hm; exact absurd hm (Nat.not_lt_zero _)
    | succ N ih9 =>
      intro xl xr xt xo H locs ls hm j1 jm hP hD hS hl
      refine lv_iload hx hb dX5_merge_9 (lv_at hl 7 rfl) ?_
      refine lv_iload hx hb dX5_merge_11 (lv_at hl 4 rfl) ?_
      refine z_icmp_ge (tgt := 126) hx hb dX5_merge_13 (by decide) (by omega) (fun c_1 => ?_) (fun c_1 => ?_)
      · skip
        have e_2 : (xo : Int → Int) = (mg co so mid en (en - fr).toNat fr fr mid ot) := by rw [← jm]; exact (mg_e (by omega)).symm
        have hP : va_P G.1 vwCl [(r0, .inr (6, [.ref r1, .ref r2, .int (iI fd)])), (r1, .inl (gI G, 1000, .inl (fun j : Nat => iI (so (j : Int))))), (r2, .inl (gI G, 1000, .inl (fun j : Nat => iI ((mg co so mid en (en - fr).toNat fr fr mid ot) (j : Int))))), (u0, .inr (1, [.ref u1, .ref u2, .int (iI k)])), (u1, .inl (gI G, 1000, .inl (fun j : Nat => iI (co (j : Int))))), (u2, .inl (gL G, 1000, .inr (.inl (fun j : Nat => lI (ve (j : Int))))))] H := by rw [← e_2]; exact hP
        have hD : va_D A [(r0, .inr (6, [.ref r1, .ref r2, .int (iI fd)])), (r1, .inl (gI G, 1000, .inl (fun j : Nat => iI (so (j : Int))))), (r2, .inl (gI G, 1000, .inl (fun j : Nat => iI ((mg co so mid en (en - fr).toNat fr fr mid ot) (j : Int))))), (u0, .inr (1, [.ref u1, .ref u2, .int (iI k)])), (u1, .inl (gI G, 1000, .inl (fun j : Nat => iI (co (j : Int))))), (u2, .inl (gL G, 1000, .inr (.inl (fun j : Nat => lI (ve (j : Int))))))] := by rw [← e_2]; exact hD
        exact hret _ ls H locs dX5_merge_126 hP hD hS
      · skip
        refine lv_iload hx hb dX5_merge_16 (lv_at hl 6 rfl) ?_
        refine lv_iload hx hb dX5_merge_18 (lv_at hl 4 rfl) ?_
        have join59 : ∀ (H : Heap) (locs : List Loc), va_P G.1 vwCl [(r0, .inr (6, [.ref r1, .ref r2, .int (iI fd)])), (r1, .inl (gI G, 1000, .inl (fun j : Nat => iI (so (j : Int))))), (r2, .inl (gI G, 1000, .inl (fun j : Nat => iI (xo (j : Int))))), (u0, .inr (1, [.ref u1, .ref u2, .int (iI k)])), (u1, .inl (gI G, 1000, .inl (fun j : Nat => iI (co (j : Int))))), (u2, .inl (gL G, 1000, .inr (.inl (fun j : Nat => lI (ve (j : Int))))))] H → va_D A [(r0, .inr (6, [.ref r1, .ref r2, .int (iI fd)])), (r1, .inl (gI G, 1000, .inl (fun j : Nat => iI (so (j : Int))))), (r2, .inl (gI G, 1000, .inl (fun j : Nat => iI (xo (j : Int))))), (u0, .inr (1, [.ref u1, .ref u2, .int (iI k)])), (u1, .inl (gI G, 1000, .inl (fun j : Nat => iI (co (j : Int))))), (u2, .inl (gL G, 1000, .inr (.inl (fun j : Nat => lI (ve (j : Int))))))] → va_S A s.heap H locs → W p l e (rz 1 21) s m [.ref r0, .ref u0, .int (iI fr), .int (iI mid), .int (iI en)].toArray below meth c H locs 0 0 Q (F0 m 59 ls [.int (iI (if tkL co so mid en xl xr then 1 else 0))]) := by
          intro H locs hP hD hS
          refine lv_istore (lv' := [(8, .int (iI (if tkL co so mid en xl xr then 1 else 0))), (0, .ref r0), (1, .ref u0), (2, .int (iI fr)), (3, .int (iI mid)), (4, .int (iI en)), (5, .int (iI xl)), (6, .int (iI xr)), (7, .int (iI xt))]) hx hb dX5_merge_59 hl (by decide) rfl (fun ls hl => ?_)
          refine lv_aload_n hx hb dX5_merge_61 rfl (lv_at hl 1 rfl) ?_
          refine va_get (D := G.1) (ci := 6) (v := .ref r2) (C := RX5) (T := TX5) (N := 3) hx hb hts hiX5 hown hK hP 0 rfl rfl 1 (by decide) hw0 (fun _ h9 => h9) rfl dX5_merge_62 ?_
          refine lv_iload hx hb dX5_merge_65 (lv_at hl 8 rfl) ?_
          refine lv_iload hx hb dX5_merge_67 (lv_at hl 0 rfl) ?_
          refine z_if_eq (tgt := 82) hx hb dX5_merge_69 (by decide) (by split <;> omega) (fun c_4 => ?_) (fun c_4 => ?_)
          · skip
            have htk : ¬ tkL co so mid en xl xr := by intro q; rw [if_pos q] at c_4; omega
            have hrr : xr < en := by rcases Int.lt_or_le xr en with q | q; exact q; exact absurd (Or.inl q) htk
            refine lv_aload_n hx hb dX5_merge_82 rfl (lv_at hl 1 rfl) ?_
            refine va_get (D := G.1) (ci := 6) (v := .ref r1) (C := RX5) (T := TX5) (N := 3) hx hb hts hiX5 hown hK hP 0 rfl rfl 0 (by decide) hw1 (fun _ h9 => h9) rfl dX5_merge_83 ?_
            refine lv_iload hx hb dX5_merge_86 (lv_at hl 7 rfl) ?_
            refine z_iald hx hb hK hP 1 0 rfl rfl (by omega) dX5_merge_88 ?_
            refine z_iast hx hb hK hP hD hS 2 0 rfl rfl (by omega) dX5_merge_89 (fun H locs hP hD hS => ?_)
            have hP : va_P G.1 vwCl [(r0, .inr (6, [.ref r1, .ref r2, .int (iI fd)])), (r1, .inl (gI G, 1000, .inl (fun j : Nat => iI (so (j : Int))))), (r2, .inl (gI G, 1000, .inl (fun j : Nat => iI ((uF xo xt (so xr)) (j : Int))))), (u0, .inr (1, [.ref u1, .ref u2, .int (iI k)])), (u1, .inl (gI G, 1000, .inl (fun j : Nat => iI (co (j : Int))))), (u2, .inl (gL G, 1000, .inr (.inl (fun j : Nat => lI (ve (j : Int))))))] H := hP
            have hD : va_D A [(r0, .inr (6, [.ref r1, .ref r2, .int (iI fd)])), (r1, .inl (gI G, 1000, .inl (fun j : Nat => iI (so (j : Int))))), (r2, .inl (gI G, 1000, .inl (fun j : Nat => iI ((uF xo xt (so xr)) (j : Int))))), (u0, .inr (1, [.ref u1, .ref u2, .int (iI k)])), (u1, .inl (gI G, 1000, .inl (fun j : Nat => iI (co (j : Int))))), (u2, .inl (gL G, 1000, .inr (.inl (fun j : Nat => lI (ve (j : Int))))))] := hD
            refine lv_iload hx hb dX5_merge_90 (lv_at hl 6 rfl) ?_
            refine lv_iload hx hb dX5_merge_92 (lv_at hl 0 rfl) ?_
            refine z_if_eq (tgt := 101) hx hb dX5_merge_94 (by decide) (by split <;> omega) (fun c_5 => ?_) (fun c_5 => ?_)
            · skip
              refine lv_iconst (v := iI (0)) hx hb dX5_merge_101 rfl ?_
              refine z_iadd hx hb dX5_merge_102 ?_
              refine lv_istore (lv' := [(5, .int (iI (xl + 0))), (8, .int (iI (if tkL co so mid en xl xr then 1 else 0))), (0, .ref r0), (1, .ref u0), (2, .int (iI fr)), (3, .int (iI mid)), (4, .int (iI en)), (6, .int (iI xr)), (7, .int (iI xt))]) hx hb dX5_merge_103 hl (by decide) rfl (fun ls hl => ?_)
              refine lv_iload hx hb dX5_merge_105 (lv_at hl 7 rfl) ?_
              refine lv_iload hx hb dX5_merge_107 (lv_at hl 1 rfl) ?_
              refine z_if_eq (tgt := 116) hx hb dX5_merge_109 (by decide) (by split <;> omega) (fun c_6 => ?_) (fun c_6 => ?_)
              · skip
                refine lv_iconst (v := iI (1)) hx hb dX5_merge_116 rfl ?_
                refine z_iadd hx hb dX5_merge_117 ?_
                refine lv_istore (lv' := [(6, .int (iI (xr + 1))), (5, .int (iI (xl + 0))), (8, .int (iI (if tkL co so mid en xl xr then 1 else 0))), (0, .ref r0), (1, .ref u0), (2, .int (iI fr)), (3, .int (iI mid)), (4, .int (iI en)), (7, .int (iI xt))]) hx hb dX5_merge_118 hl (by decide) rfl (fun ls hl => ?_)
                refine lv_iinc (v := iI (xt + 1)) (lv' := [(7, .int (iI (xt + 1))), (6, .int (iI (xr + 1))), (5, .int (iI (xl + 0))), (8, .int (iI (if tkL co so mid en xl xr then 1 else 0))), (0, .ref r0), (1, .ref u0), (2, .int (iI fr)), (3, .int (iI mid)), (4, .int (iI en))]) hx hb dX5_merge_120 hl (k := 8) rfl (iI_add xt (1)) (by decide) rfl (fun ls hl => ?_)
                refine lv_goto (tgt := 9) hx hb dX5_merge_123 (by decide) ?_
                exact ih9 (xl + 0) (xr + 1) (xt + 1) (uF xo xt (so xr)) H locs ls (by omega) (by omega) (by rw [← jm]; first | exact (mg_t (by omega) htk).symm | exact (mg_f (by omega) htk).symm | (rw [Int.add_zero]; exact (mg_t (by omega) htk).symm) | (rw [Int.add_zero]; exact (mg_f (by omega) htk).symm)) hP hD hS (lv_sub hl [4, 5, 6, 7, 8, 2, 1, 0] rfl)
              · skip
                exfalso; omega
            · skip
              exfalso; omega
          · skip
            have htk : tkL co so mid en xl xr := by (by_cases q : tkL co so mid en xl xr); exact q; rw [if_neg q] at c_4; omega
            have hll : xl < mid := by rcases htk with q | q <;> omega
            refine lv_aload_n hx hb dX5_merge_72 rfl (lv_at hl 1 rfl) ?_
            refine va_get (D := G.1) (ci := 6) (v := .ref r1) (C := RX5) (T := TX5) (N := 3) hx hb hts hiX5 hown hK hP 0 rfl rfl 0 (by decide) hw1 (fun _ h9 => h9) rfl dX5_merge_73 ?_
            refine lv_iload hx hb dX5_merge_76 (lv_at hl 6 rfl) ?_
            refine z_iald hx hb hK hP 1 0 rfl rfl (by omega) dX5_merge_78 ?_
            refine lv_goto (tgt := 89) hx hb dX5_merge_79 (by decide) ?_
            refine z_iast hx hb hK hP hD hS 2 0 rfl rfl (by omega) dX5_merge_89 (fun H locs hP hD hS => ?_)
            have hP : va_P G.1 vwCl [(r0, .inr (6, [.ref r1, .ref r2, .int (iI fd)])), (r1, .inl (gI G, 1000, .inl (fun j : Nat => iI (so (j : Int))))), (r2, .inl (gI G, 1000, .inl (fun j : Nat => iI ((uF xo xt (so xl)) (j : Int))))), (u0, .inr (1, [.ref u1, .ref u2, .int (iI k)])), (u1, .inl (gI G, 1000, .inl (fun j : Nat => iI (co (j : Int))))), (u2, .inl (gL G, 1000, .inr (.inl (fun j : Nat => lI (ve (j : Int))))))] H := hP
            have hD : va_D A [(r0, .inr (6, [.ref r1, .ref r2, .int (iI fd)])), (r1, .inl (gI G, 1000, .inl (fun j : Nat => iI (so (j : Int))))), (r2, .inl (gI G, 1000, .inl (fun j : Nat => iI ((uF xo xt (so xl)) (j : Int))))), (u0, .inr (1, [.ref u1, .ref u2, .int (iI k)])), (u1, .inl (gI G, 1000, .inl (fun j : Nat => iI (co (j : Int))))), (u2, .inl (gL G, 1000, .inr (.inl (fun j : Nat => lI (ve (j : Int))))))] := hD
            refine lv_iload hx hb dX5_merge_90 (lv_at hl 6 rfl) ?_
            refine lv_iload hx hb dX5_merge_92 (lv_at hl 0 rfl) ?_
            refine z_if_eq (tgt := 101) hx hb dX5_merge_94 (by decide) (by split <;> omega) (fun c_7 => ?_) (fun c_7 => ?_)
            · skip
              exfalso; omega
            · skip
              refine lv_iconst (v := iI (1)) hx hb dX5_merge_97 rfl ?_
              refine lv_goto (tgt := 102) hx hb dX5_merge_98 (by decide) ?_
              refine z_iadd hx hb dX5_merge_102 ?_
              refine lv_istore (lv' := [(5, .int (iI (xl + 1))), (8, .int (iI (if tkL co so mid en xl xr then 1 else 0))), (0, .ref r0), (1, .ref u0), (2, .int (iI fr)), (3, .int (iI mid)), (4, .int (iI en)), (6, .int (iI xr)), (7, .int (iI xt))]) hx hb dX5_merge_103 hl (by decide) rfl (fun ls hl => ?_)
              refine lv_iload hx hb dX5_merge_105 (lv_at hl 7 rfl) ?_
              refine lv_iload hx hb dX5_merge_107 (lv_at hl 1 rfl) ?_
              refine z_if_eq (tgt := 116) hx hb dX5_merge_109 (by decide) (by split <;> omega) (fun c_8 => ?_) (fun c_8 => ?_)
              · skip
                exfalso; omega
              · skip
                refine lv_iconst (v := iI (0)) hx hb dX5_merge_112 rfl ?_
                refine lv_goto (tgt := 117) hx hb dX5_merge_113 (by decide) ?_
                refine z_iadd hx hb dX5_merge_117 ?_
                refine lv_istore (lv' := [(6, .int (iI (xr + 0))), (5, .int (iI (xl + 1))), (8, .int (iI (if tkL co so mid en xl xr then 1 else 0))), (0, .ref r0), (1, .ref u0), (2, .int (iI fr)), (3, .int (iI mid)), (4, .int (iI en)), (7, .int (iI xt))]) hx hb dX5_merge_118 hl (by decide) rfl (fun ls hl => ?_)
                refine lv_iinc (v := iI (xt + 1)) (lv' := [(7, .int (iI (xt + 1))), (6, .int (iI (xr + 0))), (5, .int (iI (xl + 1))), (8, .int (iI (if tkL co so mid en xl xr then 1 else 0))), (0, .ref r0), (1, .ref u0), (2, .int (iI fr)), (3, .int (iI mid)), (4, .int (iI en))]) hx hb dX5_merge_120 hl (k := 8) rfl (iI_add xt (1)) (by decide) rfl (fun ls hl => ?_)
                refine lv_goto (tgt := 9) hx hb dX5_merge_123 (by decide) ?_
                exact ih9 (xl + 1) (xr + 0) (xt + 1) (uF xo xt (so xl)) H locs ls (by omega) (by omega) (by rw [← jm]; first | exact (mg_t (by omega) htk).symm | exact (mg_f (by omega) htk).symm | (rw [Int.add_zero]; exact (mg_t (by omega) htk).symm) | (rw [Int.add_zero]; exact (mg_f (by omega) htk).symm)) hP hD hS (lv_sub hl [4, 5, 6, 7, 8, 2, 1, 0] rfl)
        refine z_icmp_ge (tgt := 54) hx hb dX5_merge_20 (by decide) (by omega) (fun c_3 => ?_) (fun c_3 => ?_)
        · skip
          refine lv_iconst (v := iI (1)) hx hb dX5_merge_54 rfl ?_
          refine lv_goto (tgt := 59) hx hb dX5_merge_55 (by decide) ?_
          refine z_top (w := .int (iI (if tkL co so mid en xl xr then 1 else 0))) (congrArg _ (congrArg iI (by first | exact (if_pos (by omega)).symm | exact (if_neg (by omega)).symm))) ?_
          exact join59 H locs hP hD hS
        · skip
          refine lv_iload hx hb dX5_merge_23 (lv_at hl 5 rfl) ?_
          refine lv_iload_n hx hb dX5_merge_25 rfl (lv_at hl 3 rfl) ?_
          refine z_icmp_ge (tgt := 58) hx hb dX5_merge_26 (by decide) (by omega) (fun c_9 => ?_) (fun c_9 => ?_)
          · skip
            refine lv_iconst (v := iI (0)) hx hb dX5_merge_58 rfl ?_
            refine z_top (w := .int (iI (if tkL co so mid en xl xr then 1 else 0))) (congrArg _ (congrArg iI (by first | exact (if_pos (by omega)).symm | exact (if_neg (by omega)).symm))) ?_
            exact join59 H locs hP hD hS
          · skip
            refine lv_aload_n hx hb dX5_merge_29 rfl (lv_at hl 1 rfl) ?_
            refine lv_aload_n hx hb dX5_merge_30 rfl (lv_at hl 0 rfl) ?_
            refine va_get (D := G.1) (ci := 6) (v := .ref r1) (C := RX5) (T := TX5) (N := 3) hx hb hts hiX5 hown hK hP 0 rfl rfl 0 (by decide) hw1 (fun _ h9 => h9) rfl dX5_merge_31 ?_
            refine lv_iload hx hb dX5_merge_34 (lv_at hl 5 rfl) ?_
            refine z_iald hx hb hK hP 1 0 rfl rfl (by omega) dX5_merge_36 ?_
            have hs1 := hso xl (by omega) (by omega)
            have hs2 := hso xr (by omega) (by omega)
            have hc1 := hco _ hs1.1 hs1.2
            have hc2 := hco _ hs2.1 hs2.2
            have ht1 := tOf_r hc1
            have ht2 := tOf_r hc2
            refine z_cVi (RV := (tOf (co (so xl)))) (As := [.int (iI (so xl))]) (rest := []) (wc := [(u0, .inr (1, [.ref u1, .ref u2, .int (iI k)])), (u1, .inl (gI G, 1000, .inl (fun j : Nat => iI (co (j : Int))))), (u2, .inl (gL G, 1000, .inr (.inl (fun j : Nat => lI (ve (j : Int))))))]) (wr := [(r0, .inr (6, [.ref r1, .ref r2, .int (iI fd)])), (r1, .inl (gI G, 1000, .inl (fun j : Nat => iI (so (j : Int))))), (r2, .inl (gI G, 1000, .inl (fun j : Nat => iI (xo (j : Int)))))]) (wn := [(r0, .inr (6, [.ref r1, .ref r2, .int (iI fd)])), (r1, .inl (gI G, 1000, .inl (fun j : Nat => iI (so (j : Int))))), (r2, .inl (gI G, 1000, .inl (fun j : Nat => iI (xo (j : Int))))), (u0, .inr (1, [.ref u1, .ref u2, .int (iI k)])), (u1, .inl (gI G, 1000, .inl (fun j : Nat => iI (co (j : Int))))), (u2, .inl (gL G, 1000, .inr (.inl (fun j : Nat => lI (ve (j : Int))))))]) F C (c_X0_targetOf l G H.size u0 u1 u2 1000 co ve k (so xl) (by omega) (by omega) (by omega)) (cwV 1 hts gX5_merge_X0_targetOf rfl rfl rfl (by decide +kernel) (by decide)) hP hD hS (q0 := 3) rfl rfl rfl [3, 4, 5] [0, 1, 2] rfl rfl (by decide) rfl rfl hl.1 rfl (Nat.le_of_ble_eq_true rfl) dX5_merge_37 (by decide) (fun H locs hP hD hS => ?_)
            refine lv_aload_n hx hb dX5_merge_40 rfl (lv_at hl 1 rfl) ?_
            refine lv_aload_n hx hb dX5_merge_41 rfl (lv_at hl 0 rfl) ?_
            refine va_get (D := G.1) (ci := 6) (v := .ref r1) (C := RX5) (T := TX5) (N := 3) hx hb hts hiX5 hown hK hP 0 rfl rfl 0 (by decide) hw1 (fun _ h9 => h9) rfl dX5_merge_42 ?_
            refine lv_iload hx hb dX5_merge_45 (lv_at hl 6 rfl) ?_
            refine z_iald hx hb hK hP 1 0 rfl rfl (by omega) dX5_merge_47 ?_
            refine z_cVi (RV := (tOf (co (so xr)))) (As := [.int (iI (so xr))]) (rest := [.int (iI (tOf (co (so xl))))]) (wc := [(u0, .inr (1, [.ref u1, .ref u2, .int (iI k)])), (u1, .inl (gI G, 1000, .inl (fun j : Nat => iI (co (j : Int))))), (u2, .inl (gL G, 1000, .inr (.inl (fun j : Nat => lI (ve (j : Int))))))]) (wr := [(r0, .inr (6, [.ref r1, .ref r2, .int (iI fd)])), (r1, .inl (gI G, 1000, .inl (fun j : Nat => iI (so (j : Int))))), (r2, .inl (gI G, 1000, .inl (fun j : Nat => iI (xo (j : Int)))))]) (wn := [(r0, .inr (6, [.ref r1, .ref r2, .int (iI fd)])), (r1, .inl (gI G, 1000, .inl (fun j : Nat => iI (so (j : Int))))), (r2, .inl (gI G, 1000, .inl (fun j : Nat => iI (xo (j : Int))))), (u0, .inr (1, [.ref u1, .ref u2, .int (iI k)])), (u1, .inl (gI G, 1000, .inl (fun j : Nat => iI (co (j : Int))))), (u2, .inl (gL G, 1000, .inr (.inl (fun j : Nat => lI (ve (j : Int))))))]) F C (c_X0_targetOf l G H.size u0 u1 u2 1000 co ve k (so xr) (by omega) (by omega) (by omega)) (cwV 1 hts gX5_merge_X0_targetOf rfl rfl rfl (by decide +kernel) (by decide)) hP hD hS (q0 := 3) rfl rfl rfl [3, 4, 5] [0, 1, 2] rfl rfl (by decide) rfl rfl hl.1 rfl (Nat.le_of_ble_eq_true rfl) dX5_merge_48 (by decide) (fun H locs hP hD hS => ?_)
            refine z_icmp_gt (tgt := 58) hx hb dX5_merge_51 (by decide) (by omega) (fun c_10 => ?_) (fun c_10 => ?_)
            · skip
              refine lv_iconst (v := iI (0)) hx hb dX5_merge_58 rfl ?_
              refine z_top (w := .int (iI (if tkL co so mid en xl xr then 1 else 0))) (congrArg _ (congrArg iI (by first | exact (if_pos (by omega)).symm | exact (if_neg (by omega)).symm))) ?_
              exact join59 H locs hP hD hS
            · skip
              refine lv_iconst (v := iI (1)) hx hb dX5_merge_54 rfl ?_
              refine lv_goto (tgt := 59) hx hb dX5_merge_55 (by decide) ?_
              refine z_top (w := .int (iI (if tkL co so mid en xl xr then 1 else 0))) (congrArg _ (congrArg iI (by first | exact (if_pos (by omega)).symm | exact (if_neg (by omega)).symm))) ?_
              exact join59 H locs hP hD hS
  exact loop9 _ fr mid fr ot H locs ls (Nat.lt_succ_self _) (by omega) (by rfl) hP hD hS (lv_sub hl [3, 4, 5, 6, 7, 2, 1, 0] rfl)

set_option maxHeartbeats 4000000 in
set_option maxRecDepth 100000 in
theorem c_X5_mergeAll (l : Launch) (G : Gx) (zz : Nat) (r0 r1 r2 : Nat) (so ot : Int → Int) (fd : Int) (u0 u1 u2 : Nat) (co ve : Int → Int) (k : Int) (w : Int) (hk : 0 ≤ k ∧ k ≤ 1000) (hco : ∀ j, 0 ≤ j → j < k → 0 ≤ co j ∧ co j < 20000000) (hfd : 0 ≤ fd ∧ fd ≤ 1000) (hso : ∀ j, 0 ≤ j → j < fd → 0 ≤ so j ∧ so j < k) (hw : 1 ≤ w ∧ w ≤ 1000) : Cv l yX5_mergeAll wsX5_mergeAll (rz 2 49) G [.ref r0, .ref u0, .int (iI w)] [(r0, .inr (6, [.ref r1, .ref r2, .int (iI fd)])), (r1, .inl (gI G, 1000, .inl (fun j : Nat => iI (so (j : Int))))), (r2, .inl (gI G, 1000, .inl (fun j : Nat => iI (ot (j : Int))))), (u0, .inr (1, [.ref u1, .ref u2, .int (iI k)])), (u1, .inl (gI G, 1000, .inl (fun j : Nat => iI (co (j : Int))))), (u2, .inl (gL G, 1000, .inr (.inl (fun j : Nat => lI (ve (j : Int))))))] zz [(r0, .inr (6, [.ref r2, .ref r1, .int (iI fd)])), (r1, .inl (gI G, 1000, .inl (fun j : Nat => iI (so (j : Int))))), (r2, .inl (gI G, 1000, .inl (fun j : Nat => iI ((maF co so w fd fd.toNat 0 ot) (j : Int))))), (u0, .inr (1, [.ref u1, .ref u2, .int (iI k)])), (u1, .inl (gI G, 1000, .inl (fun j : Nat => iI (co (j : Int))))), (u2, .inl (gL G, 1000, .inr (.inl (fun j : Nat => lI (ve (j : Int))))))] := by
  refine met_v (cc := cX5_mergeAll) (maxL := 5) (by decide) rfl (Nat.le_of_ble_eq_true rfl) ⟨rfl, rfl⟩ ?_
  intro p e s m below meth c A Q F C hP hD hS hret ls hl
  obtain ⟨hx, hb, hml, hown, hts⟩ := id F
  obtain ⟨hK, hA, hZ, hT, hN⟩ := id C
  have hl : lv_has ls 5 [(0, .ref r0), (1, .ref u0), (2, .int (iI w))] := hl
  obtain ⟨H, hH⟩ : ∃ H, H = s.heap := ⟨_, rfl⟩
  obtain ⟨locs, hlocs⟩ : ∃ l : List Loc, l = [] := ⟨_, rfl⟩
  have hS : va_S A s.heap H locs := by rw [hH, hlocs]; exact hS
  have hP : va_P G.1 vwCl [(r0, .inr (6, [.ref r1, .ref r2, .int (iI fd)])), (r1, .inl (gI G, 1000, .inl (fun j : Nat => iI (so (j : Int))))), (r2, .inl (gI G, 1000, .inl (fun j : Nat => iI (ot (j : Int))))), (u0, .inr (1, [.ref u1, .ref u2, .int (iI k)])), (u1, .inl (gI G, 1000, .inl (fun j : Nat => iI (co (j : Int))))), (u2, .inl (gL G, 1000, .inr (.inl (fun j : Nat => lI (ve (j : Int))))))] H := by rw [hH]; exact hP
  suffices hgo : W p l e (rz 2 49) s m [.ref r0, .ref u0, .int (iI w)].toArray below meth c H locs 0 0 Q (F0 m 0 ls []) by rw [hH, hlocs] at hgo; exact hgo
  have hiX5 : ∀ w ∈ wsX50, w ∈ wsX5_mergeAll := by decide +kernel
  have hw0 := hts (Cond.fieldLink RX5 22 "PlainCobol$SecondRecords" "found" "I") (List.mem_of_getElem? (i := 1) rfl)
  have hw1 := hts (Cond.fieldLink RX5 15 "PlainCobol$SecondRecords" "other" "[I") (List.mem_of_getElem? (i := 6) rfl)
  have hw2 := hts (Cond.fieldLink RX5 9 "PlainCobol$SecondRecords" "sorted" "[I") (List.mem_of_getElem? (i := 7) rfl)
  have hw3 := hts (Cond.methodLink RX5 47 Lib.Math.min.name) (List.mem_of_getElem? (i := 2) rfl)
  have hw4 := hts (Cond.static Lib.Math.min.name) (List.mem_of_getElem? (i := 3) rfl)
  have hw5 := hts (Cond.initialized "java/lang/Math") (List.mem_of_getElem? (i := 4) rfl)
  have hw6 := hts (Cond.code Lib.Math.min.name Lib.Math.min.code 2 (some .int)) (List.mem_of_getElem? (i := 5) rfl)
  refine lv_iconst (v := iI (0)) hx hb dX5_mergeAll_0 rfl ?_
  refine lv_istore_n (lv' := [(3, .int (iI 0)), (0, .ref r0), (1, .ref u0), (2, .int (iI w))]) hx hb dX5_mergeAll_1 rfl hl (by decide) rfl (fun ls hl => ?_)
  have loop2 : ∀ (N : Nat) (nf : Nat) (xf : Int) (xo : Int → Int) (H : Heap) (locs : List Loc) (ls : Array Slot), ((fd - xf).toNat) < N → (0 ≤ xf ∧ xf ≤ 4000 ∧ fd ≤ xf + (nf : Int)) → (maF co so w fd nf xf xo = maF co so w fd fd.toNat 0 ot) → va_P G.1 vwCl [(r0, .inr (6, [.ref r1, .ref r2, .int (iI fd)])), (r1, .inl (gI G, 1000, .inl (fun j : Nat => iI (so (j : Int))))), (r2, .inl (gI G, 1000, .inl (fun j : Nat => iI (xo (j : Int))))), (u0, .inr (1, [.ref u1, .ref u2, .int (iI k)])), (u1, .inl (gI G, 1000, .inl (fun j : Nat => iI (co (j : Int))))), (u2, .inl (gL G, 1000, .inr (.inl (fun j : Nat => lI (ve (j : Int))))))] H → va_D A [(r0, .inr (6, [.ref r1, .ref r2, .int (iI fd)])), (r1, .inl (gI G, 1000, .inl (fun j : Nat => iI (so (j : Int))))), (r2, .inl (gI G, 1000, .inl (fun j : Nat => iI (xo (j : Int))))), (u0, .inr (1, [.ref u1, .ref u2, .int (iI k)])), (u1, .inl (gI G, 1000, .inl (fun j : Nat => iI (co (j : Int))))), (u2, .inl (gL G, 1000, .inr (.inl (fun j : Nat => lI (ve (j : Int))))))] → va_S A s.heap H locs → lv_has ls 5 [(0, .ref r0), (1, .ref u0), (2, .int (iI w)), (3, .int (iI xf))] → W p l e (rz 2 49) s m [.ref r0, .ref u0, .int (iI w)].toArray below meth c H locs 0 0 Q (F0 m 2 ls []) := by
    intro N
    induction N with
    | zero => intro nf xf xo H locs ls hm; exact absurd hm (Nat.not_lt_zero _)
    | succ N ih2 =>
      intro nf xf xo H locs ls hm j1 jm hP hD hS hl
      refine lv_iload_n hx hb dX5_mergeAll_2 rfl (lv_at hl 3 rfl) ?_
      refine lv_aload_n hx hb dX5_mergeAll_3 rfl (lv_at hl 0 rfl) ?_
      refine va_get (D := G.1) (ci := 6) (v := .int (iI fd)) (C := RX5) (T := TX5) (N := 3) hx hb hts hiX5 hown hK hP 0 rfl rfl 2 (by decide) hw0 (fun _ h9 => h9) rfl dX5_mergeAll_4 ?_
      refine z_icmp_ge (tgt := 50) hx hb dX5_mergeAll_7 (by decide) (by omega) (fun c_1 => ?_) (fun c_1 => ?_)
      · skip
        refine lv_aload_n hx hb dX5_mergeAll_50 rfl (lv_at hl 0 rfl) ?_
        refine va_get (D := G.1) (ci := 6) (v := .ref r2) (C := RX5) (T := TX5) (N := 3) hx hb hts hiX5 hown hK hP 0 rfl rfl 1 (by decide) hw1 (fun _ h9 => h9) rfl dX5_mergeAll_51 ?_
        refine lv_astore_n (lv' := [(3, .ref r2), (0, .ref r0), (1, .ref u0), (2, .int (iI w))]) hx hb dX5_mergeAll_54 rfl hl (by decide) rfl (fun ls hl => ?_)
        refine lv_aload_n hx hb dX5_mergeAll_55 rfl (lv_at hl 1 rfl) ?_
        refine lv_aload_n hx hb dX5_mergeAll_56 rfl (lv_at hl 1 rfl) ?_
        refine va_get (D := G.1) (ci := 6) (v := .ref r1) (C := RX5) (T := TX5) (N := 3) hx hb hts hiX5 hown hK hP 0 rfl rfl 0 (by decide) hw2 (fun _ h9 => h9) rfl dX5_mergeAll_57 ?_
        refine va_put (D := G.1) (ci := 6) (v := .ref r1) (ty := .array .int) (C := RX5) (T := TX5) (N := 3) hx hb hts hiX5 tyX5 tyX5_ok nmX5 hown hK hP hD hS 0 rfl rfl 1 (by decide) hw1 (fun _ h9 => h9) rfl (by decide +kernel) rfl rfl (Nat.le_of_ble_eq_true rfl) dX5_mergeAll_60 (fun H locs hP hD hS => ?_)
        have hP : va_P G.1 vwCl [(r0, .inr (6, [.ref r1, .ref r1, .int (iI fd)])), (r1, .inl (gI G, 1000, .inl (fun j : Nat => iI (so (j : Int))))), (r2, .inl (gI G, 1000, .inl (fun j : Nat => iI (xo (j : Int))))), (u0, .inr (1, [.ref u1, .ref u2, .int (iI k)])), (u1, .inl (gI G, 1000, .inl (fun j : Nat => iI (co (j : Int))))), (u2, .inl (gL G, 1000, .inr (.inl (fun j : Nat => lI (ve (j : Int))))))] H := hP
        have hD : va_D A [(r0, .inr (6, [.ref r1, .ref r1, .int (iI fd)])), (r1, .inl (gI G, 1000, .inl (fun j : Nat => iI (so (j : Int))))), (r2, .inl (gI G, 1000, .inl (fun j : Nat => iI (xo (j : Int))))), (u0, .inr (1, [.ref u1, .ref u2, .int (iI k)])), (u1, .inl (gI G, 1000, .inl (fun j : Nat => iI (co (j : Int))))), (u2, .inl (gL G, 1000, .inr (.inl (fun j : Nat => lI (ve (j : Int))))))] := hD
        refine lv_aload_n hx hb dX5_mergeAll_63 rfl (lv_at hl 1 rfl) ?_
        refine lv_aload_n hx hb dX5_mergeAll_64 rfl (lv_at hl 0 rfl) ?_
        refine va_put (D := G.1) (ci := 6) (v := .ref r2) (ty := .array .int) (C := RX5) (T := TX5) (N := 3) hx hb hts hiX5 tyX5 tyX5_ok nmX5 hown hK hP hD hS 0 rfl rfl 0 (by decide) hw2 (fun _ h9 => h9) rfl (by decide +kernel) rfl rfl (Nat.le_of_ble_eq_true rfl) dX5_mergeAll_65 (fun H locs hP hD hS => ?_)
        have hP : va_P G.1 vwCl [(r0, .inr (6, [.ref r2, .ref r1, .int (iI fd)])), (r1, .inl (gI G, 1000, .inl (fun j : Nat => iI (so (j : Int))))), (r2, .inl (gI G, 1000, .inl (fun j : Nat => iI (xo (j : Int))))), (u0, .inr (1, [.ref u1, .ref u2, .int (iI k)])), (u1, .inl (gI G, 1000, .inl (fun j : Nat => iI (co (j : Int))))), (u2, .inl (gL G, 1000, .inr (.inl (fun j : Nat => lI (ve (j : Int))))))] H := hP
        have hD : va_D A [(r0, .inr (6, [.ref r2, .ref r1, .int (iI fd)])), (r1, .inl (gI G, 1000, .inl (fun j : Nat => iI (so (j : Int))))), (r2, .inl (gI G, 1000, .inl (fun j : Nat => iI (xo (j : Int))))), (u0, .inr (1, [.ref u1, .ref u2, .int (iI k)])), (u1, .inl (gI G, 1000, .inl (fun j : Nat => iI (co (j : Int))))), (u2, .inl (gL G, 1000, .inr (.inl (fun j : Nat => lI (ve (j : Int))))))] := hD
        have e_2 : (xo : Int → Int) = (maF co so w fd fd.toNat 0 ot) := by rw [← jm]; exact (maF_e (by omega)).symm
        have hP : va_P G.1 vwCl [(r0, .inr (6, [.ref r2, .ref r1, .int (iI fd)])), (r1, .inl (gI G, 1000, .inl (fun j : Nat => iI (so (j : Int))))), (r2, .inl (gI G, 1000, .inl (fun j : Nat => iI ((maF co so w fd fd.toNat 0 ot) (j : Int))))), (u0, .inr (1, [.ref u1, .ref u2, .int (iI k)])), (u1, .inl (gI G, 1000, .inl (fun j : Nat => iI (co (j : Int))))), (u2, .inl (gL G, 1000, .inr (.inl (fun j : Nat => lI (ve (j : Int))))))] H := by rw [← e_2]; exact hP
        have hD : va_D A [(r0, .inr (6, [.ref r2, .ref r1, .int (iI fd)])), (r1, .inl (gI G, 1000, .inl (fun j : Nat => iI (so (j : Int))))), (r2, .inl (gI G, 1000, .inl (fun j : Nat => iI ((maF co so w fd fd.toNat 0 ot) (j : Int))))), (u0, .inr (1, [.ref u1, .ref u2, .int (iI k)])), (u1, .inl (gI G, 1000, .inl (fun j : Nat => iI (co (j : Int))))), (u2, .inl (gL G, 1000, .inr (.inl (fun j : Nat => lI (ve (j : Int))))))] := by rw [← e_2]; exact hD
        exact hret _ ls H locs dX5_mergeAll_68 hP hD hS
      · skip
        obtain ⟨n2, hn2, jm2⟩ := maF_s (by omega) (by omega) jm
        refine lv_iload_n hx hb dX5_mergeAll_10 rfl (lv_at hl 3 rfl) ?_
        refine lv_iload_n hx hb dX5_mergeAll_11 rfl (lv_at hl 2 rfl) ?_
        refine z_iadd hx hb dX5_mergeAll_12 ?_
        refine lv_aload_n hx hb dX5_mergeAll_13 rfl (lv_at hl 0 rfl) ?_
        refine va_get (D := G.1) (ci := 6) (v := .int (iI fd)) (C := RX5) (T := TX5) (N := 3) hx hb hts hiX5 hown hK hP 0 rfl rfl 2 (by decide) hw0 (fun _ h9 => h9) rfl dX5_mergeAll_14 ?_
        refine z_imin hx hb (hml.trans hl.1.symm) hown hw3 hw4 hw5 hw6 ⟨by decide, Nat.le_of_ble_eq_true rfl⟩ ⟨by decide, by decide⟩ (by omega) dX5_mergeAll_17 ?_
        refine lv_istore (lv' := [(4, .int (iI (min (xf + w) fd))), (0, .ref r0), (1, .ref u0), (2, .int (iI w)), (3, .int (iI xf))]) hx hb dX5_mergeAll_20 hl (by decide) rfl (fun ls hl => ?_)
        refine lv_aload_n hx hb dX5_mergeAll_22 rfl (lv_at hl 1 rfl) ?_
        refine lv_aload_n hx hb dX5_mergeAll_23 rfl (lv_at hl 2 rfl) ?_
        refine lv_iload_n hx hb dX5_mergeAll_24 rfl (lv_at hl 4 rfl) ?_
        refine lv_iload hx hb dX5_mergeAll_25 (lv_at hl 0 rfl) ?_
        refine lv_iload hx hb dX5_mergeAll_27 (lv_at hl 0 rfl) ?_
        refine lv_iload_n hx hb dX5_mergeAll_29 rfl (lv_at hl 3 rfl) ?_
        refine z_iadd hx hb dX5_mergeAll_30 ?_
        refine lv_aload_n hx hb dX5_mergeAll_31 rfl (lv_at hl 1 rfl) ?_
        refine va_get (D := G.1) (ci := 6) (v := .int (iI fd)) (C := RX5) (T := TX5) (N := 3) hx hb hts hiX5 hown hK hP 0 rfl rfl 2 (by decide) hw0 (fun _ h9 => h9) rfl dX5_mergeAll_32 ?_
        refine z_imin hx hb (hml.trans hl.1.symm) hown hw3 hw4 hw5 hw6 ⟨by decide, Nat.le_of_ble_eq_true rfl⟩ ⟨by decide, by decide⟩ (by omega) dX5_mergeAll_35 ?_
        refine z_cVv (As := [.ref u0, .int (iI xf), .int (iI (min (xf + w) fd)), .int (iI (min ((min (xf + w) fd) + w) fd))]) (rest := []) (wc := [(r0, .inr (6, [.ref r1, .ref r2, .int (iI fd)])), (r1, .inl (gI G, 1000, .inl (fun j : Nat => iI (so (j : Int))))), (r2, .inl (gI G, 1000, .inl (fun j : Nat => iI (xo (j : Int))))), (u0, .inr (1, [.ref u1, .ref u2, .int (iI k)])), (u1, .inl (gI G, 1000, .inl (fun j : Nat => iI (co (j : Int))))), (u2, .inl (gL G, 1000, .inr (.inl (fun j : Nat => lI (ve (j : Int))))))]) (wr := []) (wn := [(r0, .inr (6, [.ref r1, .ref r2, .int (iI fd)])), (r1, .inl (gI G, 1000, .inl (fun j : Nat => iI (so (j : Int))))), (r2, .inl (gI G, 1000, .inl (fun j : Nat => iI ((mg co so (min (xf + w) fd) (min ((min (xf + w) fd) + w) fd) ((min ((min (xf + w) fd) + w) fd) - xf).toNat xf xf (min (xf + w) fd) xo) (j : Int))))), (u0, .inr (1, [.ref u1, .ref u2, .int (iI k)])), (u1, .inl (gI G, 1000, .inl (fun j : Nat => iI (co (j : Int))))), (u2, .inl (gL G, 1000, .inr (.inl (fun j : Nat => lI (ve (j : Int))))))]) F C (c_X5_merge l G H.size r0 r1 r2 so xo fd u0 u1 u2 co ve k xf (min (xf + w) fd) (min ((min (xf + w) fd) + w) fd) (by omega) (hco) (by omega) (hso) (by omega)) (cwV 4 hts gX5_mergeAll_X5_merge rfl rfl rfl (by decide +kernel) (by decide)) hP hD hS (q0 := 0) rfl rfl rfl [0, 1, 2, 3, 4, 5] [] rfl rfl (by decide) rfl rfl hl.1 rfl (Nat.le_of_ble_eq_true rfl) dX5_mergeAll_38 (by decide) (fun H locs hP hD hS => ?_)
        refine lv_iload_n hx hb dX5_mergeAll_41 rfl (lv_at hl 4 rfl) ?_
        refine lv_iconst (v := iI (2)) hx hb dX5_mergeAll_42 rfl ?_
        refine lv_iload_n hx hb dX5_mergeAll_43 rfl (lv_at hl 3 rfl) ?_
        refine z_imul hx hb dX5_mergeAll_44 ?_
        refine z_iadd hx hb dX5_mergeAll_45 ?_
        refine lv_istore_n (lv' := [(3, .int (iI (xf + (2 * w)))), (4, .int (iI (min (xf + w) fd))), (0, .ref r0), (1, .ref u0), (2, .int (iI w))]) hx hb dX5_mergeAll_46 rfl hl (by decide) rfl (fun ls hl => ?_)
        refine lv_goto (tgt := 2) hx hb dX5_mergeAll_47 (by decide) ?_
        exact ih2 n2 (xf + (2 * w)) (mg co so (min (xf + w) fd) (min ((min (xf + w) fd) + w) fd) ((min ((min (xf + w) fd) + w) fd) - xf).toNat xf xf (min (xf + w) fd) xo) H locs ls (by omega) (by omega) (by exact jm2) hP hD hS (lv_sub hl [2, 3, 4, 0] rfl)
  exact loop2 _ fd.toNat 0 ot H locs ls (Nat.lt_succ_self _) (by omega) (by rfl) hP hD hS (lv_sub hl [1, 2, 3, 0] rfl)

set_option maxHeartbeats 4000000 in
set_option maxRecDepth 100000 in
theorem c_X5_isLatest (l : Launch) (G : Gx) (zz : Nat) (r0 r1 r2 : Nat) (so ot : Int → Int) (fd : Int) (u0 u1 u2 : Nat) (co ve : Int → Int) (k : Int) (i : Int) (hk : 0 ≤ k ∧ k ≤ 1000) (hco : ∀ j, 0 ≤ j → j < k → 0 ≤ co j ∧ co j < 20000000) (hfd : 0 ≤ fd ∧ fd ≤ 1000) (hso : ∀ j, 0 ≤ j → j < fd → 0 ≤ so j ∧ so j < k) (hi : 0 ≤ i ∧ i < fd) : Ci l yX5_isLatest wsX5_isLatest (rz 1 21) G [.ref r0, .ref u0, .int (iI i)] [(r0, .inr (6, [.ref r1, .ref r2, .int (iI fd)])), (r1, .inl (gI G, 1000, .inl (fun j : Nat => iI (so (j : Int))))), (r2, .inl (gI G, 1000, .inl (fun j : Nat => iI (ot (j : Int))))), (u0, .inr (1, [.ref u1, .ref u2, .int (iI k)])), (u1, .inl (gI G, 1000, .inl (fun j : Nat => iI (co (j : Int))))), (u2, .inl (gL G, 1000, .inr (.inl (fun j : Nat => lI (ve (j : Int))))))] zz (if latA co so fd i then 1 else 0) [(r0, .inr (6, [.ref r1, .ref r2, .int (iI fd)])), (r1, .inl (gI G, 1000, .inl (fun j : Nat => iI (so (j : Int))))), (r2, .inl (gI G, 1000, .inl (fun j : Nat => iI (ot (j : Int))))), (u0, .inr (1, [.ref u1, .ref u2, .int (iI k)])), (u1, .inl (gI G, 1000, .inl (fun j : Nat => iI (co (j : Int))))), (u2, .inl (gL G, 1000, .inr (.inl (fun j : Nat => lI (ve (j : Int))))))] := by
  refine met_i (cc := cX5_isLatest) (maxL := 3) (ret := (some .boolean)) (by decide) rfl (Nat.le_of_ble_eq_true rfl) rfl (by (repeat (any_goals split)) <;> decide) ⟨rfl, rfl⟩ ?_
  intro p e s m below meth c A Q F C hP hD hS hret ls hl
  obtain ⟨hx, hb, hml, hown, hts⟩ := id F
  obtain ⟨hK, hA, hZ, hT, hN⟩ := id C
  have hl : lv_has ls 3 [(0, .ref r0), (1, .ref u0), (2, .int (iI i))] := hl
  obtain ⟨H, hH⟩ : ∃ H, H = s.heap := ⟨_, rfl⟩
  obtain ⟨locs, hlocs⟩ : ∃ l : List Loc, l = [] := ⟨_, rfl⟩
  have hS : va_S A s.heap H locs := by rw [hH, hlocs]; exact hS
  have hP : va_P G.1 vwCl [(r0, .inr (6, [.ref r1, .ref r2, .int (iI fd)])), (r1, .inl (gI G, 1000, .inl (fun j : Nat => iI (so (j : Int))))), (r2, .inl (gI G, 1000, .inl (fun j : Nat => iI (ot (j : Int))))), (u0, .inr (1, [.ref u1, .ref u2, .int (iI k)])), (u1, .inl (gI G, 1000, .inl (fun j : Nat => iI (co (j : Int))))), (u2, .inl (gL G, 1000, .inr (.inl (fun j : Nat => lI (ve (j : Int))))))] H := by rw [hH]; exact hP
  suffices hgo : W p l e (rz 1 21) s m [.ref r0, .ref u0, .int (iI i)].toArray below meth c H locs 0 0 Q (F0 m 0 ls []) by rw [hH, hlocs] at hgo; exact hgo
  have hiX5 : ∀ w ∈ wsX50, w ∈ wsX5_isLatest := by decide +kernel
  have hw0 := hts (Cond.fieldLink RX5 22 "PlainCobol$SecondRecords" "found" "I") (List.mem_of_getElem? (i := 1) rfl)
  have hw1 := hts (Cond.fieldLink RX5 9 "PlainCobol$SecondRecords" "sorted" "[I") (List.mem_of_getElem? (i := 2) rfl)
  refine lv_iload_n hx hb dX5_isLatest_0 rfl (lv_at hl 2 rfl) ?_
  refine lv_iconst (v := iI (1)) hx hb dX5_isLatest_1 rfl ?_
  refine z_iadd hx hb dX5_isLatest_2 ?_
  refine lv_aload_n hx hb dX5_isLatest_3 rfl (lv_at hl 0 rfl) ?_
  refine va_get (D := G.1) (ci := 6) (v := .int (iI fd)) (C := RX5) (T := TX5) (N := 3) hx hb hts hiX5 hown hK hP 0 rfl rfl 2 (by decide) hw0 (fun _ h9 => h9) rfl dX5_isLatest_4 ?_
  refine z_icmp_ge (tgt := 35) hx hb dX5_isLatest_7 (by decide) (by omega) (fun c_1 => ?_) (fun c_1 => ?_)
  · skip
    refine lv_iconst (v := iI (1)) hx hb dX5_isLatest_35 rfl ?_
    refine lv_goto (tgt := 40) hx hb dX5_isLatest_36 (by decide) ?_
    have r_2 : (1 : Int) = (if latA co so fd i then 1 else 0) := by first | exact (if_pos (by omega)).symm | exact (if_neg (by omega)).symm
    rw [r_2]
    exact hret _ ls H locs dX5_isLatest_40 hP hD hS
  · skip
    have hs1 := hso i (by omega) (by omega)
    have hs2 := hso (i + 1) (by omega) (by omega)
    have hc1 := hco _ hs1.1 hs1.2
    have hc2 := hco _ hs2.1 hs2.2
    have ht1 := tOf_r hc1
    have ht2 := tOf_r hc2
    refine lv_aload_n hx hb dX5_isLatest_10 rfl (lv_at hl 1 rfl) ?_
    refine lv_aload_n hx hb dX5_isLatest_11 rfl (lv_at hl 0 rfl) ?_
    refine va_get (D := G.1) (ci := 6) (v := .ref r1) (C := RX5) (T := TX5) (N := 3) hx hb hts hiX5 hown hK hP 0 rfl rfl 0 (by decide) hw1 (fun _ h9 => h9) rfl dX5_isLatest_12 ?_
    refine lv_iload_n hx hb dX5_isLatest_15 rfl (lv_at hl 2 rfl) ?_
    refine lv_iconst (v := iI (1)) hx hb dX5_isLatest_16 rfl ?_
    refine z_iadd hx hb dX5_isLatest_17 ?_
    refine z_iald hx hb hK hP 1 0 rfl rfl (by omega) dX5_isLatest_18 ?_
    refine z_cVi (RV := (tOf (co (so (i + 1))))) (As := [.int (iI (so (i + 1)))]) (rest := []) (wc := [(u0, .inr (1, [.ref u1, .ref u2, .int (iI k)])), (u1, .inl (gI G, 1000, .inl (fun j : Nat => iI (co (j : Int))))), (u2, .inl (gL G, 1000, .inr (.inl (fun j : Nat => lI (ve (j : Int))))))]) (wr := [(r0, .inr (6, [.ref r1, .ref r2, .int (iI fd)])), (r1, .inl (gI G, 1000, .inl (fun j : Nat => iI (so (j : Int))))), (r2, .inl (gI G, 1000, .inl (fun j : Nat => iI (ot (j : Int)))))]) (wn := [(r0, .inr (6, [.ref r1, .ref r2, .int (iI fd)])), (r1, .inl (gI G, 1000, .inl (fun j : Nat => iI (so (j : Int))))), (r2, .inl (gI G, 1000, .inl (fun j : Nat => iI (ot (j : Int))))), (u0, .inr (1, [.ref u1, .ref u2, .int (iI k)])), (u1, .inl (gI G, 1000, .inl (fun j : Nat => iI (co (j : Int))))), (u2, .inl (gL G, 1000, .inr (.inl (fun j : Nat => lI (ve (j : Int))))))]) F C (c_X0_targetOf l G H.size u0 u1 u2 1000 co ve k (so (i + 1)) (by omega) (by omega) (by omega)) (cwV 1 hts gX5_isLatest_X0_targetOf rfl rfl rfl (by decide +kernel) (by decide)) hP hD hS (q0 := 3) rfl rfl rfl [3, 4, 5] [0, 1, 2] rfl rfl (by decide) rfl rfl hl.1 rfl (Nat.le_of_ble_eq_true rfl) dX5_isLatest_19 (by decide) (fun H locs hP hD hS => ?_)
    refine lv_aload_n hx hb dX5_isLatest_22 rfl (lv_at hl 1 rfl) ?_
    refine lv_aload_n hx hb dX5_isLatest_23 rfl (lv_at hl 0 rfl) ?_
    refine va_get (D := G.1) (ci := 6) (v := .ref r1) (C := RX5) (T := TX5) (N := 3) hx hb hts hiX5 hown hK hP 0 rfl rfl 0 (by decide) hw1 (fun _ h9 => h9) rfl dX5_isLatest_24 ?_
    refine lv_iload_n hx hb dX5_isLatest_27 rfl (lv_at hl 2 rfl) ?_
    refine z_iald hx hb hK hP 1 0 rfl rfl (by omega) dX5_isLatest_28 ?_
    refine z_cVi (RV := (tOf (co (so i)))) (As := [.int (iI (so i))]) (rest := [.int (iI (tOf (co (so (i + 1)))))]) (wc := [(u0, .inr (1, [.ref u1, .ref u2, .int (iI k)])), (u1, .inl (gI G, 1000, .inl (fun j : Nat => iI (co (j : Int))))), (u2, .inl (gL G, 1000, .inr (.inl (fun j : Nat => lI (ve (j : Int))))))]) (wr := [(r0, .inr (6, [.ref r1, .ref r2, .int (iI fd)])), (r1, .inl (gI G, 1000, .inl (fun j : Nat => iI (so (j : Int))))), (r2, .inl (gI G, 1000, .inl (fun j : Nat => iI (ot (j : Int)))))]) (wn := [(r0, .inr (6, [.ref r1, .ref r2, .int (iI fd)])), (r1, .inl (gI G, 1000, .inl (fun j : Nat => iI (so (j : Int))))), (r2, .inl (gI G, 1000, .inl (fun j : Nat => iI (ot (j : Int))))), (u0, .inr (1, [.ref u1, .ref u2, .int (iI k)])), (u1, .inl (gI G, 1000, .inl (fun j : Nat => iI (co (j : Int))))), (u2, .inl (gL G, 1000, .inr (.inl (fun j : Nat => lI (ve (j : Int))))))]) F C (c_X0_targetOf l G H.size u0 u1 u2 1000 co ve k (so i) (by omega) (by omega) (by omega)) (cwV 1 hts gX5_isLatest_X0_targetOf rfl rfl rfl (by decide +kernel) (by decide)) hP hD hS (q0 := 3) rfl rfl rfl [3, 4, 5] [0, 1, 2] rfl rfl (by decide) rfl rfl hl.1 rfl (Nat.le_of_ble_eq_true rfl) dX5_isLatest_29 (by decide) (fun H locs hP hD hS => ?_)
    refine z_icmp_eq (tgt := 39) hx hb dX5_isLatest_32 (by decide) (by omega) (fun c_3 => ?_) (fun c_3 => ?_)
    · skip
      refine lv_iconst (v := iI (0)) hx hb dX5_isLatest_39 rfl ?_
      have r_4 : (0 : Int) = (if latA co so fd i then 1 else 0) := by first | exact (if_pos (by omega)).symm | exact (if_neg (by omega)).symm
      rw [r_4]
      exact hret _ ls H locs dX5_isLatest_40 hP hD hS
    · skip
      refine lv_iconst (v := iI (1)) hx hb dX5_isLatest_35 rfl ?_
      refine lv_goto (tgt := 40) hx hb dX5_isLatest_36 (by decide) ?_
      have r_5 : (1 : Int) = (if latA co so fd i then 1 else 0) := by first | exact (if_pos (by omega)).symm | exact (if_neg (by omega)).symm
      rw [r_5]
      exact hret _ ls H locs dX5_isLatest_40 hP hD hS

set_option maxHeartbeats 4000000 in
set_option maxRecDepth 100000 in
theorem c_X5_isSame (l : Launch) (G : Gx) (zz : Nat) (u0 u1 u2 : Nat) (co ve : Int → Int) (k : Int) (f0 f1 f2 : Nat) (ky fv : Int → Int) (hd : Int) (q rc : Int) (hk : 0 ≤ k ∧ k ≤ 1000) (hco : ∀ j, 0 ≤ j → j < k → 0 ≤ co j ∧ co j < 20000000) (hhd : 0 ≤ hd ∧ hd ≤ 1000) (hky : ∀ j, 0 ≤ j → j < hd → 0 ≤ ky j ∧ ky j < 4000000) (hfv : ∀ j, 0 ≤ j → j < hd → -9223372036854775808 ≤ fv j ∧ fv j < 9223372036854775808) (hve : ∀ j, 0 ≤ j → j < k → -9223372036854775808 ≤ ve j ∧ ve j < 9223372036854775808) (hq : 0 ≤ q ∧ q < k ∧ 0 ≤ rc ∧ rc ≤ 1000) : Ci l yX5_isSame wsX5_isSame (rz 1 21) G [.ref u0, .int (iI q), .ref f0, .int (iI rc)] [(u0, .inr (1, [.ref u1, .ref u2, .int (iI k)])), (u1, .inl (gI G, 1000, .inl (fun j : Nat => iI (co (j : Int))))), (u2, .inl (gL G, 1000, .inr (.inl (fun j : Nat => lI (ve (j : Int)))))), (f0, .inr (3, [.ref f1, .ref f2, .int (iI hd)])), (f1, .inl (gI G, 1000, .inl (fun j : Nat => iI (ky (j : Int))))), (f2, .inl (gL G, 1000, .inr (.inl (fun j : Nat => lI (fv (j : Int))))))] zz (if rc < hd ∧ ky rc = tOf (co q) ∧ fv rc = ve q then 1 else 0) [(u0, .inr (1, [.ref u1, .ref u2, .int (iI k)])), (u1, .inl (gI G, 1000, .inl (fun j : Nat => iI (co (j : Int))))), (u2, .inl (gL G, 1000, .inr (.inl (fun j : Nat => lI (ve (j : Int)))))), (f0, .inr (3, [.ref f1, .ref f2, .int (iI hd)])), (f1, .inl (gI G, 1000, .inl (fun j : Nat => iI (ky (j : Int))))), (f2, .inl (gL G, 1000, .inr (.inl (fun j : Nat => lI (fv (j : Int))))))] := by
  refine met_i (cc := cX5_isSame) (maxL := 4) (ret := (some .boolean)) (by decide) rfl (Nat.le_of_ble_eq_true rfl) rfl (by (repeat (any_goals split)) <;> decide) ⟨rfl, rfl⟩ ?_
  intro p e s m below meth c A Q F C hP hD hS hret ls hl
  obtain ⟨hx, hb, hml, hown, hts⟩ := id F
  obtain ⟨hK, hA, hZ, hT, hN⟩ := id C
  have hl : lv_has ls 4 [(0, .ref u0), (1, .int (iI q)), (2, .ref f0), (3, .int (iI rc))] := hl
  obtain ⟨H, hH⟩ : ∃ H, H = s.heap := ⟨_, rfl⟩
  obtain ⟨locs, hlocs⟩ : ∃ l : List Loc, l = [] := ⟨_, rfl⟩
  have hS : va_S A s.heap H locs := by rw [hH, hlocs]; exact hS
  have hP : va_P G.1 vwCl [(u0, .inr (1, [.ref u1, .ref u2, .int (iI k)])), (u1, .inl (gI G, 1000, .inl (fun j : Nat => iI (co (j : Int))))), (u2, .inl (gL G, 1000, .inr (.inl (fun j : Nat => lI (ve (j : Int)))))), (f0, .inr (3, [.ref f1, .ref f2, .int (iI hd)])), (f1, .inl (gI G, 1000, .inl (fun j : Nat => iI (ky (j : Int))))), (f2, .inl (gL G, 1000, .inr (.inl (fun j : Nat => lI (fv (j : Int))))))] H := by rw [hH]; exact hP
  suffices hgo : W p l e (rz 1 21) s m [.ref u0, .int (iI q), .ref f0, .int (iI rc)].toArray below meth c H locs 0 0 Q (F0 m 0 ls []) by rw [hH, hlocs] at hgo; exact hgo
  have hiX2 : ∀ w ∈ wsX20, w ∈ wsX5_isSame := by decide +kernel
  have hw0 := hts (Cond.fieldLink RX5 60 "PlainCobol$Files" "held" "I") (List.mem_of_getElem? (i := 1) rfl)
  have hw1 := hts (Cond.fieldLink RX5 65 "PlainCobol$Files" "keys" "[I") (List.mem_of_getElem? (i := 2) rfl)
  have hw2 := hts (Cond.fieldLink RX5 68 "PlainCobol$Files" "values" "[J") (List.mem_of_getElem? (i := 3) rfl)
  have hiX0 : ∀ w ∈ wsX00, w ∈ wsX5_isSame := by decide +kernel
  have hw3 := hts (Cond.fieldLink RX5 72 "PlainCobol$Acts" "values" "[J") (List.mem_of_getElem? (i := 4) rfl)
  refine lv_iload_n hx hb dX5_isSame_0 rfl (lv_at hl 3 rfl) ?_
  refine lv_aload_n hx hb dX5_isSame_1 rfl (lv_at hl 2 rfl) ?_
  refine va_get (D := G.1) (ci := 3) (v := .int (iI hd)) (C := RX2) (T := TX2) (N := 3) hx hb hts hiX2 hown hK hP 3 rfl rfl 2 (by decide) hw0 (fun _ h9 => h9) rfl dX5_isSame_2 ?_
  refine z_icmp_ge (tgt := 42) hx hb dX5_isSame_5 (by decide) (by omega) (fun c_1 => ?_) (fun c_1 => ?_)
  · skip
    refine lv_iconst (v := iI (0)) hx hb dX5_isSame_42 rfl ?_
    have r_2 : (0 : Int) = (if rc < hd ∧ ky rc = tOf (co q) ∧ fv rc = ve q then 1 else 0) := by first | exact (if_pos (by omega)).symm | exact (if_neg (by omega)).symm
    rw [r_2]
    exact hret _ ls H locs dX5_isSame_43 hP hD hS
  · skip
    have h1 := hky rc (by omega) (by omega)
    have h2 := hfv rc (by omega) (by omega)
    have h3 := hve q (by omega) (by omega)
    have h4 := hco q (by omega) (by omega)
    have h5 := tOf_r h4
    refine lv_aload_n hx hb dX5_isSame_8 rfl (lv_at hl 2 rfl) ?_
    refine va_get (D := G.1) (ci := 3) (v := .ref f1) (C := RX2) (T := TX2) (N := 3) hx hb hts hiX2 hown hK hP 3 rfl rfl 0 (by decide) hw1 (fun _ h9 => h9) rfl dX5_isSame_9 ?_
    refine lv_iload_n hx hb dX5_isSame_12 rfl (lv_at hl 3 rfl) ?_
    refine z_iald hx hb hK hP 4 0 rfl rfl (by omega) dX5_isSame_13 ?_
    refine lv_aload_n hx hb dX5_isSame_14 rfl (lv_at hl 0 rfl) ?_
    refine lv_iload_n hx hb dX5_isSame_15 rfl (lv_at hl 1 rfl) ?_
    refine z_cVi (RV := (tOf (co q))) (As := [.int (iI q)]) (rest := [.int (iI (ky rc))]) (wc := [(u0, .inr (1, [.ref u1, .ref u2, .int (iI k)])), (u1, .inl (gI G, 1000, .inl (fun j : Nat => iI (co (j : Int))))), (u2, .inl (gL G, 1000, .inr (.inl (fun j : Nat => lI (ve (j : Int))))))]) (wr := [(f0, .inr (3, [.ref f1, .ref f2, .int (iI hd)])), (f1, .inl (gI G, 1000, .inl (fun j : Nat => iI (ky (j : Int))))), (f2, .inl (gL G, 1000, .inr (.inl (fun j : Nat => lI (fv (j : Int))))))]) (wn := [(f0, .inr (3, [.ref f1, .ref f2, .int (iI hd)])), (f1, .inl (gI G, 1000, .inl (fun j : Nat => iI (ky (j : Int))))), (f2, .inl (gL G, 1000, .inr (.inl (fun j : Nat => lI (fv (j : Int)))))), (u0, .inr (1, [.ref u1, .ref u2, .int (iI k)])), (u1, .inl (gI G, 1000, .inl (fun j : Nat => iI (co (j : Int))))), (u2, .inl (gL G, 1000, .inr (.inl (fun j : Nat => lI (ve (j : Int))))))]) F C (c_X0_targetOf l G H.size u0 u1 u2 1000 co ve k q (by omega) (by omega) (by omega)) (cwV 1 hts gX5_isSame_X0_targetOf rfl rfl rfl (by decide +kernel) (by decide)) hP hD hS (q0 := 0) rfl rfl rfl [0, 1, 2] [3, 4, 5] rfl rfl (by decide) rfl rfl hl.1 rfl (Nat.le_of_ble_eq_true rfl) dX5_isSame_16 (by decide) (fun H locs hP hD hS => ?_)
    refine z_icmp_ne (tgt := 42) hx hb dX5_isSame_19 (by decide) (by omega) (fun c_3 => ?_) (fun c_3 => ?_)
    · skip
      refine lv_iconst (v := iI (0)) hx hb dX5_isSame_42 rfl ?_
      have hP : va_P G.1 vwCl [(u0, .inr (1, [.ref u1, .ref u2, .int (iI k)])), (u1, .inl (gI G, 1000, .inl (fun j : Nat => iI (co (j : Int))))), (u2, .inl (gL G, 1000, .inr (.inl (fun j : Nat => lI (ve (j : Int)))))), (f0, .inr (3, [.ref f1, .ref f2, .int (iI hd)])), (f1, .inl (gI G, 1000, .inl (fun j : Nat => iI (ky (j : Int))))), (f2, .inl (gL G, 1000, .inr (.inl (fun j : Nat => lI (fv (j : Int))))))] H := hP.sub [3, 4, 5, 0, 1, 2] rfl
      have hD : va_D A [(u0, .inr (1, [.ref u1, .ref u2, .int (iI k)])), (u1, .inl (gI G, 1000, .inl (fun j : Nat => iI (co (j : Int))))), (u2, .inl (gL G, 1000, .inr (.inl (fun j : Nat => lI (ve (j : Int)))))), (f0, .inr (3, [.ref f1, .ref f2, .int (iI hd)])), (f1, .inl (gI G, 1000, .inl (fun j : Nat => iI (ky (j : Int))))), (f2, .inl (gL G, 1000, .inr (.inl (fun j : Nat => lI (fv (j : Int))))))] := hD.sub [3, 4, 5, 0, 1, 2] (by decide) rfl
      have r_4 : (0 : Int) = (if rc < hd ∧ ky rc = tOf (co q) ∧ fv rc = ve q then 1 else 0) := by first | exact (if_pos (by omega)).symm | exact (if_neg (by omega)).symm
      rw [r_4]
      exact hret _ ls H locs dX5_isSame_43 hP hD hS
    · skip
      refine lv_aload_n hx hb dX5_isSame_22 rfl (lv_at hl 2 rfl) ?_
      refine va_get (D := G.1) (ci := 3) (v := .ref f2) (C := RX2) (T := TX2) (N := 3) hx hb hts hiX2 hown hK hP 0 rfl rfl 1 (by decide) hw2 (fun _ h9 => h9) rfl dX5_isSame_23 ?_
      refine lv_iload_n hx hb dX5_isSame_26 rfl (lv_at hl 3 rfl) ?_
      refine z_lald hx hb hK hP 2 1 rfl rfl (by omega) dX5_isSame_27 ?_
      refine lv_aload_n hx hb dX5_isSame_28 rfl (lv_at hl 0 rfl) ?_
      refine va_get (D := G.1) (ci := 1) (v := .ref u2) (C := RX0) (T := TX0) (N := 3) hx hb hts hiX0 hown hK hP 3 rfl rfl 1 (by decide) hw3 (fun _ h9 => h9) rfl dX5_isSame_29 ?_
      refine lv_iload_n hx hb dX5_isSame_32 rfl (lv_at hl 1 rfl) ?_
      refine z_lald hx hb hK hP 5 1 rfl rfl (by omega) dX5_isSame_33 ?_
      refine z_lcmp_ne (tgt := 42) hx hb dX5_isSame_34 dX5_isSame_35 (by decide) (by omega) (fun c_5 => ?_) (fun c_5 => ?_)
      · skip
        refine lv_iconst (v := iI (0)) hx hb dX5_isSame_42 rfl ?_
        have hP : va_P G.1 vwCl [(u0, .inr (1, [.ref u1, .ref u2, .int (iI k)])), (u1, .inl (gI G, 1000, .inl (fun j : Nat => iI (co (j : Int))))), (u2, .inl (gL G, 1000, .inr (.inl (fun j : Nat => lI (ve (j : Int)))))), (f0, .inr (3, [.ref f1, .ref f2, .int (iI hd)])), (f1, .inl (gI G, 1000, .inl (fun j : Nat => iI (ky (j : Int))))), (f2, .inl (gL G, 1000, .inr (.inl (fun j : Nat => lI (fv (j : Int))))))] H := hP.sub [3, 4, 5, 0, 1, 2] rfl
        have hD : va_D A [(u0, .inr (1, [.ref u1, .ref u2, .int (iI k)])), (u1, .inl (gI G, 1000, .inl (fun j : Nat => iI (co (j : Int))))), (u2, .inl (gL G, 1000, .inr (.inl (fun j : Nat => lI (ve (j : Int)))))), (f0, .inr (3, [.ref f1, .ref f2, .int (iI hd)])), (f1, .inl (gI G, 1000, .inl (fun j : Nat => iI (ky (j : Int))))), (f2, .inl (gL G, 1000, .inr (.inl (fun j : Nat => lI (fv (j : Int))))))] := hD.sub [3, 4, 5, 0, 1, 2] (by decide) rfl
        have r_6 : (0 : Int) = (if rc < hd ∧ ky rc = tOf (co q) ∧ fv rc = ve q then 1 else 0) := by first | exact (if_pos (by omega)).symm | exact (if_neg (by omega)).symm
        rw [r_6]
        exact hret _ ls H locs dX5_isSame_43 hP hD hS
      · skip
        refine lv_iconst (v := iI (1)) hx hb dX5_isSame_38 rfl ?_
        refine lv_goto (tgt := 43) hx hb dX5_isSame_39 (by decide) ?_
        have hP : va_P G.1 vwCl [(u0, .inr (1, [.ref u1, .ref u2, .int (iI k)])), (u1, .inl (gI G, 1000, .inl (fun j : Nat => iI (co (j : Int))))), (u2, .inl (gL G, 1000, .inr (.inl (fun j : Nat => lI (ve (j : Int)))))), (f0, .inr (3, [.ref f1, .ref f2, .int (iI hd)])), (f1, .inl (gI G, 1000, .inl (fun j : Nat => iI (ky (j : Int))))), (f2, .inl (gL G, 1000, .inr (.inl (fun j : Nat => lI (fv (j : Int))))))] H := hP.sub [3, 4, 5, 0, 1, 2] rfl
        have hD : va_D A [(u0, .inr (1, [.ref u1, .ref u2, .int (iI k)])), (u1, .inl (gI G, 1000, .inl (fun j : Nat => iI (co (j : Int))))), (u2, .inl (gL G, 1000, .inr (.inl (fun j : Nat => lI (ve (j : Int)))))), (f0, .inr (3, [.ref f1, .ref f2, .int (iI hd)])), (f1, .inl (gI G, 1000, .inl (fun j : Nat => iI (ky (j : Int))))), (f2, .inl (gL G, 1000, .inr (.inl (fun j : Nat => lI (fv (j : Int))))))] := hD.sub [3, 4, 5, 0, 1, 2] (by decide) rfl
        have r_7 : (1 : Int) = (if rc < hd ∧ ky rc = tOf (co q) ∧ fv rc = ve q then 1 else 0) := by first | exact (if_pos (by omega)).symm | exact (if_neg (by omega)).symm
        rw [r_7]
        exact hret _ ls H locs dX5_isSame_43 hP hD hS

set_option maxHeartbeats 4000000 in
set_option maxRecDepth 100000 in
theorem c_X5_countSame (l : Launch) (G : Gx) (zz : Nat) (r0 r1 r2 : Nat) (so ot : Int → Int) (fd : Int) (u0 u1 u2 : Nat) (co ve : Int → Int) (k : Int) (f0 f1 f2 : Nat) (ky fv : Int → Int) (hd : Int) (hk : 0 ≤ k ∧ k ≤ 1000) (hco : ∀ j, 0 ≤ j → j < k → 0 ≤ co j ∧ co j < 20000000) (hhd : 0 ≤ hd ∧ hd ≤ 1000) (hky : ∀ j, 0 ≤ j → j < hd → 0 ≤ ky j ∧ ky j < 4000000) (hfv : ∀ j, 0 ≤ j → j < hd → -9223372036854775808 ≤ fv j ∧ fv j < 9223372036854775808) (hve : ∀ j, 0 ≤ j → j < k → -9223372036854775808 ≤ ve j ∧ ve j < 9223372036854775808) : CiS l yX5_countSame wsX5_countSame (rz 3 73) G [.ref r0, .ref u0, .ref f0] [(r0, .inr (6, [.ref r1, .ref r2, .int (iI fd)])), (r1, .inl (gI G, 1000, .inl (fun j : Nat => iI (so (j : Int))))), (r2, .inl (gI G, 1000, .inl (fun j : Nat => iI (ot (j : Int))))), (u0, .inr (1, [.ref u1, .ref u2, .int (iI k)])), (u1, .inl (gI G, 1000, .inl (fun j : Nat => iI (co (j : Int))))), (u2, .inl (gL G, 1000, .inr (.inl (fun j : Nat => lI (ve (j : Int)))))), (f0, .inr (3, [.ref f1, .ref f2, .int (iI hd)])), (f1, .inl (gI G, 1000, .inl (fun j : Nat => iI (ky (j : Int))))), (f2, .inl (gL G, 1000, .inr (.inl (fun j : Nat => lI (fv (j : Int))))))] zz (ctR co ve ky fv (srt co (gaN co k.toNat) 1000 1 (gaS co so k.toNat) ot) hd (gaN co k.toNat) (gaN co k.toNat).toNat 0 0 0) (fun uu : (Nat) × (Nat) × (Int → Int) × (Int → Int) × (Int) => [(r0, .inr (6, [.ref uu.1, .ref uu.2.1, .int (iI uu.2.2.2.2)])), (uu.1, .inl (gI G, 1000, .inl (fun j : Nat => iI (uu.2.2.1 (j : Int))))), (uu.2.1, .inl (gI G, 1000, .inl (fun j : Nat => iI (uu.2.2.2.1 (j : Int))))), (u0, .inr (1, [.ref u1, .ref u2, .int (iI k)])), (u1, .inl (gI G, 1000, .inl (fun j : Nat => iI (co (j : Int))))), (u2, .inl (gL G, 1000, .inr (.inl (fun j : Nat => lI (ve (j : Int)))))), (f0, .inr (3, [.ref f1, .ref f2, .int (iI hd)])), (f1, .inl (gI G, 1000, .inl (fun j : Nat => iI (ky (j : Int))))), (f2, .inl (gL G, 1000, .inr (.inl (fun j : Nat => lI (fv (j : Int))))))]) := by
  refine met_iS (cc := cX5_countSame) (maxL := 6) (ret := (some .int)) (by decide) rfl (Nat.le_of_ble_eq_true rfl) rfl rfl ⟨rfl, rfl⟩ ?_
  intro p e s m below meth c A Q F C hP hD hS hret ls hl
  obtain ⟨hx, hb, hml, hown, hts⟩ := id F
  obtain ⟨hK, hA, hZ, hT, hN⟩ := id C
  have hl : lv_has ls 6 [(0, .ref r0), (1, .ref u0), (2, .ref f0)] := hl
  obtain ⟨H, hH⟩ : ∃ H, H = s.heap := ⟨_, rfl⟩
  obtain ⟨locs, hlocs⟩ : ∃ l : List Loc, l = [] := ⟨_, rfl⟩
  have hS : va_S A s.heap H locs := by rw [hH, hlocs]; exact hS
  have hP : va_P G.1 vwCl [(r0, .inr (6, [.ref r1, .ref r2, .int (iI fd)])), (r1, .inl (gI G, 1000, .inl (fun j : Nat => iI (so (j : Int))))), (r2, .inl (gI G, 1000, .inl (fun j : Nat => iI (ot (j : Int))))), (u0, .inr (1, [.ref u1, .ref u2, .int (iI k)])), (u1, .inl (gI G, 1000, .inl (fun j : Nat => iI (co (j : Int))))), (u2, .inl (gL G, 1000, .inr (.inl (fun j : Nat => lI (ve (j : Int)))))), (f0, .inr (3, [.ref f1, .ref f2, .int (iI hd)])), (f1, .inl (gI G, 1000, .inl (fun j : Nat => iI (ky (j : Int))))), (f2, .inl (gL G, 1000, .inr (.inl (fun j : Nat => lI (fv (j : Int))))))] H := by rw [hH]; exact hP
  suffices hgo : W p l e (rz 3 73) s m [.ref r0, .ref u0, .ref f0].toArray below meth c H locs 0 0 Q (F0 m 0 ls []) by rw [hH, hlocs] at hgo; exact hgo
  have hiX5 : ∀ w ∈ wsX50, w ∈ wsX5_countSame := by decide +kernel
  have hw0 := hts (Cond.fieldLink RX5 22 "PlainCobol$SecondRecords" "found" "I") (List.mem_of_getElem? (i := 1) rfl)
  have hw1 := hts (Cond.fieldLink RX5 9 "PlainCobol$SecondRecords" "sorted" "[I") (List.mem_of_getElem? (i := 2) rfl)
  have hg := gaN_r co k.toNat
  rw [Int.toNat_of_nonneg hk.1] at hg
  have hgs := gaS_r co so k.toNat
  rw [Int.toNat_of_nonneg hk.1] at hgs
  refine lv_aload_n hx hb dX5_countSame_0 rfl (lv_at hl 0 rfl) ?_
  refine lv_aload_n hx hb dX5_countSame_1 rfl (lv_at hl 1 rfl) ?_
  refine z_cVv (As := [.ref u0]) (rest := []) (wc := [(r0, .inr (6, [.ref r1, .ref r2, .int (iI fd)])), (r1, .inl (gI G, 1000, .inl (fun j : Nat => iI (so (j : Int))))), (r2, .inl (gI G, 1000, .inl (fun j : Nat => iI (ot (j : Int))))), (u0, .inr (1, [.ref u1, .ref u2, .int (iI k)])), (u1, .inl (gI G, 1000, .inl (fun j : Nat => iI (co (j : Int))))), (u2, .inl (gL G, 1000, .inr (.inl (fun j : Nat => lI (ve (j : Int))))))]) (wr := [(f0, .inr (3, [.ref f1, .ref f2, .int (iI hd)])), (f1, .inl (gI G, 1000, .inl (fun j : Nat => iI (ky (j : Int))))), (f2, .inl (gL G, 1000, .inr (.inl (fun j : Nat => lI (fv (j : Int))))))]) (wn := [(f0, .inr (3, [.ref f1, .ref f2, .int (iI hd)])), (f1, .inl (gI G, 1000, .inl (fun j : Nat => iI (ky (j : Int))))), (f2, .inl (gL G, 1000, .inr (.inl (fun j : Nat => lI (fv (j : Int)))))), (r0, .inr (6, [.ref r1, .ref r2, .int (iI (gaN co k.toNat))])), (r1, .inl (gI G, 1000, .inl (fun j : Nat => iI ((gaS co so k.toNat) (j : Int))))), (r2, .inl (gI G, 1000, .inl (fun j : Nat => iI (ot (j : Int))))), (u0, .inr (1, [.ref u1, .ref u2, .int (iI k)])), (u1, .inl (gI G, 1000, .inl (fun j : Nat => iI (co (j : Int))))), (u2, .inl (gL G, 1000, .inr (.inl (fun j : Nat => lI (ve (j : Int))))))]) F C (c_X5_gather l G H.size r0 r1 r2 so ot fd u0 u1 u2 co ve k (by omega) (hco)) (cwV 1 hts gX5_countSame_X5_gather rfl rfl rfl (by decide +kernel) (by decide)) hP hD hS (q0 := 0) rfl rfl rfl [0, 1, 2, 3, 4, 5] [6, 7, 8] rfl rfl (by decide) rfl rfl hl.1 rfl (Nat.le_of_ble_eq_true rfl) dX5_countSame_2 (by decide) (fun H locs hP hD hS => ?_)
  refine lv_iconst (v := iI (1)) hx hb dX5_countSame_5 rfl ?_
  refine lv_istore_n (lv' := [(3, .int (iI 1)), (0, .ref r0), (1, .ref u0), (2, .ref f0)]) hx hb dX5_countSame_6 rfl hl (by decide) rfl (fun ls hl => ?_)
  have loop7 : ∀ (N : Nat) (nf : Nat) (y1 y2 : Nat) (xs xo : Int → Int) (xw : Int) (H : Heap) (locs : List Loc) (ls : Array Slot), (((gaN co k.toNat) - xw).toNat) < N → (1 ≤ xw ∧ xw ≤ 2000 ∧ (gaN co k.toNat) ≤ xw + (nf : Int)) → (srt co (gaN co k.toNat) nf xw xs xo = (srt co (gaN co k.toNat) 1000 1 (gaS co so k.toNat) ot)) → (∀ j, 0 ≤ j → j < (gaN co k.toNat) → 0 ≤ xs j ∧ xs j < k) → va_P G.1 vwCl [(r0, .inr (6, [.ref y1, .ref y2, .int (iI (gaN co k.toNat))])), (y1, .inl (gI G, 1000, .inl (fun j : Nat => iI (xs (j : Int))))), (y2, .inl (gI G, 1000, .inl (fun j : Nat => iI (xo (j : Int))))), (u0, .inr (1, [.ref u1, .ref u2, .int (iI k)])), (u1, .inl (gI G, 1000, .inl (fun j : Nat => iI (co (j : Int))))), (u2, .inl (gL G, 1000, .inr (.inl (fun j : Nat => lI (ve (j : Int)))))), (f0, .inr (3, [.ref f1, .ref f2, .int (iI hd)])), (f1, .inl (gI G, 1000, .inl (fun j : Nat => iI (ky (j : Int))))), (f2, .inl (gL G, 1000, .inr (.inl (fun j : Nat => lI (fv (j : Int))))))] H → va_D A [(r0, .inr (6, [.ref y1, .ref y2, .int (iI (gaN co k.toNat))])), (y1, .inl (gI G, 1000, .inl (fun j : Nat => iI (xs (j : Int))))), (y2, .inl (gI G, 1000, .inl (fun j : Nat => iI (xo (j : Int))))), (u0, .inr (1, [.ref u1, .ref u2, .int (iI k)])), (u1, .inl (gI G, 1000, .inl (fun j : Nat => iI (co (j : Int))))), (u2, .inl (gL G, 1000, .inr (.inl (fun j : Nat => lI (ve (j : Int)))))), (f0, .inr (3, [.ref f1, .ref f2, .int (iI hd)])), (f1, .inl (gI G, 1000, .inl (fun j : Nat => iI (ky (j : Int))))), (f2, .inl (gL G, 1000, .inr (.inl (fun j : Nat => lI (fv (j : Int))))))] → va_S A s.heap H locs → lv_has ls 6 [(0, .ref r0), (1, .ref u0), (2, .ref f0), (3, .int (iI xw))] → W p l e (rz 3 73) s m [.ref r0, .ref u0, .ref f0].toArray below meth c H locs 0 0 Q (F0 m 7 ls []) := by
    intro N
    induction N with
    | zero => intro nf y1 y2 xs xo xw H locs ls hm; exact absurd hm (Nat.not_lt_zero _)
    | succ N ih7 =>
      intro nf y1 y2 xs xo xw H locs ls hm j1 jm js hP hD hS hl
      refine lv_iload_n hx hb dX5_countSame_7 rfl (lv_at hl 3 rfl) ?_
      refine lv_aload_n hx hb dX5_countSame_8 rfl (lv_at hl 0 rfl) ?_
      refine va_get (D := G.1) (ci := 6) (v := .int (iI (gaN co k.toNat))) (C := RX5) (T := TX5) (N := 3) hx hb hts hiX5 hown hK hP 0 rfl rfl 2 (by decide) hw0 (fun _ h9 => h9) rfl dX5_countSame_9 ?_
      refine z_icmp_ge (tgt := 28) hx hb dX5_countSame_12 (by decide) (by omega) (fun c_1 => ?_) (fun c_1 => ?_)
      · skip
        have jfin : xs = (srt co (gaN co k.toNat) 1000 1 (gaS co so k.toNat) ot) := by rw [← jm]; exact (srt_e (by omega)).symm
        refine lv_iconst (v := iI (0)) hx hb dX5_countSame_28 rfl ?_
        refine lv_istore_n (lv' := [(3, .int (iI 0)), (0, .ref r0), (1, .ref u0), (2, .ref f0)]) hx hb dX5_countSame_29 rfl hl (by decide) rfl (fun ls hl => ?_)
        refine lv_iconst (v := iI (0)) hx hb dX5_countSame_30 rfl ?_
        refine lv_istore (lv' := [(4, .int (iI 0)), (3, .int (iI 0)), (0, .ref r0), (1, .ref u0), (2, .ref f0)]) hx hb dX5_countSame_31 hl (by decide) rfl (fun ls hl => ?_)
        refine lv_iconst (v := iI (0)) hx hb dX5_countSame_33 rfl ?_
        refine lv_istore (lv' := [(5, .int (iI 0)), (4, .int (iI 0)), (3, .int (iI 0)), (0, .ref r0), (1, .ref u0), (2, .ref f0)]) hx hb dX5_countSame_34 hl (by decide) rfl (fun ls hl => ?_)
        have loop36 : ∀ (N : Nat) (i rc sm : Int) (H : Heap) (locs : List Loc) (ls : Array Slot), (((gaN co k.toNat) - i).toNat) < N → (0 ≤ i ∧ i ≤ (gaN co k.toNat) ∧ 0 ≤ rc ∧ rc ≤ i ∧ 0 ≤ sm ∧ sm ≤ i) → (ctR co ve ky fv xs hd (gaN co k.toNat) ((gaN co k.toNat) - i).toNat i rc sm = (ctR co ve ky fv (srt co (gaN co k.toNat) 1000 1 (gaS co so k.toNat) ot) hd (gaN co k.toNat) (gaN co k.toNat).toNat 0 0 0)) → va_P G.1 vwCl [(r0, .inr (6, [.ref y1, .ref y2, .int (iI (gaN co k.toNat))])), (y1, .inl (gI G, 1000, .inl (fun j : Nat => iI (xs (j : Int))))), (y2, .inl (gI G, 1000, .inl (fun j : Nat => iI (xo (j : Int))))), (u0, .inr (1, [.ref u1, .ref u2, .int (iI k)])), (u1, .inl (gI G, 1000, .inl (fun j : Nat => iI (co (j : Int))))), (u2, .inl (gL G, 1000, .inr (.inl (fun j : Nat => lI (ve (j : Int)))))), (f0, .inr (3, [.ref f1, .ref f2, .int (iI hd)])), (f1, .inl (gI G, 1000, .inl (fun j : Nat => iI (ky (j : Int))))), (f2, .inl (gL G, 1000, .inr (.inl (fun j : Nat => lI (fv (j : Int))))))] H → va_D A [(r0, .inr (6, [.ref y1, .ref y2, .int (iI (gaN co k.toNat))])), (y1, .inl (gI G, 1000, .inl (fun j : Nat => iI (xs (j : Int))))), (y2, .inl (gI G, 1000, .inl (fun j : Nat => iI (xo (j : Int))))), (u0, .inr (1, [.ref u1, .ref u2, .int (iI k)])), (u1, .inl (gI G, 1000, .inl (fun j : Nat => iI (co (j : Int))))), (u2, .inl (gL G, 1000, .inr (.inl (fun j : Nat => lI (ve (j : Int)))))), (f0, .inr (3, [.ref f1, .ref f2, .int (iI hd)])), (f1, .inl (gI G, 1000, .inl (fun j : Nat => iI (ky (j : Int))))), (f2, .inl (gL G, 1000, .inr (.inl (fun j : Nat => lI (fv (j : Int))))))] → va_S A s.heap H locs → lv_has ls 6 [(0, .ref r0), (1, .ref u0), (2, .ref f0), (3, .int (iI rc)), (4, .int (iI sm)), (5, .int (iI i))] → W p l e (rz 3 73) s m [.ref r0, .ref u0, .ref f0].toArray below meth c H locs 0 0 Q (F0 m 36 ls []) := by
          intro N
          induction N with
          | zero => intro i rc sm H locs ls hm; exact absurd hm (Nat.not_lt_zero _)
          | succ N ih36 =>
            intro i rc sm H locs ls hm k1 kc hP hD hS hl
            refine lv_iload hx hb dX5_countSame_36 (lv_at hl 5 rfl) ?_
            refine lv_aload_n hx hb dX5_countSame_38 rfl (lv_at hl 0 rfl) ?_
            refine va_get (D := G.1) (ci := 6) (v := .int (iI (gaN co k.toNat))) (C := RX5) (T := TX5) (N := 3) hx hb hts hiX5 hown hK hP 0 rfl rfl 2 (by decide) hw0 (fun _ h9 => h9) rfl dX5_countSame_39 ?_
            refine z_icmp_ge (tgt := 104) hx hb dX5_countSame_42 (by decide) (by omega) (fun c_2 => ?_) (fun c_2 => ?_)
            · skip
              refine lv_iload hx hb dX5_countSame_104 (lv_at hl 4 rfl) ?_
              have r_3 : (sm : Int) = (ctR co ve ky fv (srt co (gaN co k.toNat) 1000 1 (gaS co so k.toNat) ot) hd (gaN co k.toNat) (gaN co k.toNat).toNat 0 0 0) := by rw [← kc]; exact (ctR_e (by omega)).symm
              rw [r_3]
              exact hret (y1, y2, xs, xo, (gaN co k.toNat)) _ ls H locs dX5_countSame_106 hP hD hS
            · skip
              refine lv_aload_n hx hb dX5_countSame_45 rfl (lv_at hl 0 rfl) ?_
              refine lv_aload_n hx hb dX5_countSame_46 rfl (lv_at hl 1 rfl) ?_
              refine lv_iload hx hb dX5_countSame_47 (lv_at hl 5 rfl) ?_
              have hs1 := js i (by omega) (by omega)
              have hc1 := hco _ hs1.1 hs1.2
              have hk1 := kOf_r hc1
              refine z_cVi (RV := (if latA co xs (gaN co k.toNat) i then 1 else 0)) (As := [.ref u0, .int (iI i)]) (rest := []) (wc := [(r0, .inr (6, [.ref y1, .ref y2, .int (iI (gaN co k.toNat))])), (y1, .inl (gI G, 1000, .inl (fun j : Nat => iI (xs (j : Int))))), (y2, .inl (gI G, 1000, .inl (fun j : Nat => iI (xo (j : Int))))), (u0, .inr (1, [.ref u1, .ref u2, .int (iI k)])), (u1, .inl (gI G, 1000, .inl (fun j : Nat => iI (co (j : Int))))), (u2, .inl (gL G, 1000, .inr (.inl (fun j : Nat => lI (ve (j : Int))))))]) (wr := [(f0, .inr (3, [.ref f1, .ref f2, .int (iI hd)])), (f1, .inl (gI G, 1000, .inl (fun j : Nat => iI (ky (j : Int))))), (f2, .inl (gL G, 1000, .inr (.inl (fun j : Nat => lI (fv (j : Int))))))]) (wn := [(f0, .inr (3, [.ref f1, .ref f2, .int (iI hd)])), (f1, .inl (gI G, 1000, .inl (fun j : Nat => iI (ky (j : Int))))), (f2, .inl (gL G, 1000, .inr (.inl (fun j : Nat => lI (fv (j : Int)))))), (r0, .inr (6, [.ref y1, .ref y2, .int (iI (gaN co k.toNat))])), (y1, .inl (gI G, 1000, .inl (fun j : Nat => iI (xs (j : Int))))), (y2, .inl (gI G, 1000, .inl (fun j : Nat => iI (xo (j : Int))))), (u0, .inr (1, [.ref u1, .ref u2, .int (iI k)])), (u1, .inl (gI G, 1000, .inl (fun j : Nat => iI (co (j : Int))))), (u2, .inl (gL G, 1000, .inr (.inl (fun j : Nat => lI (ve (j : Int))))))]) F C (c_X5_isLatest l G H.size r0 y1 y2 xs xo (gaN co k.toNat) u0 u1 u2 co ve k i (by omega) (hco) (by omega) (js) (by omega)) (cwV 2 hts gX5_countSame_X5_isLatest rfl rfl rfl (by decide +kernel) (by decide)) hP hD hS (q0 := 0) rfl rfl rfl [0, 1, 2, 3, 4, 5] [6, 7, 8] rfl rfl (by decide) rfl rfl hl.1 rfl (Nat.le_of_ble_eq_true rfl) dX5_countSame_49 (by decide) (fun H locs hP hD hS => ?_)
              refine z_if_eq (tgt := 98) hx hb dX5_countSame_52 (by decide) (by split <;> omega) (fun c_4 => ?_) (fun c_4 => ?_)
              · skip
                have hla : ¬ latA co xs (gaN co k.toNat) i := by intro q; rw [if_pos q] at c_4; omega
                refine lv_iinc (v := iI (i + 1)) (lv' := [(5, .int (iI (i + 1))), (0, .ref r0), (1, .ref u0), (2, .ref f0), (3, .int (iI rc)), (4, .int (iI sm))]) hx hb dX5_countSame_98 hl (k := 5) rfl (iI_add i (1)) (by decide) rfl (fun ls hl => ?_)
                refine lv_goto (tgt := 36) hx hb dX5_countSame_101 (by decide) ?_
                have hP : va_P G.1 vwCl [(r0, .inr (6, [.ref y1, .ref y2, .int (iI (gaN co k.toNat))])), (y1, .inl (gI G, 1000, .inl (fun j : Nat => iI (xs (j : Int))))), (y2, .inl (gI G, 1000, .inl (fun j : Nat => iI (xo (j : Int))))), (u0, .inr (1, [.ref u1, .ref u2, .int (iI k)])), (u1, .inl (gI G, 1000, .inl (fun j : Nat => iI (co (j : Int))))), (u2, .inl (gL G, 1000, .inr (.inl (fun j : Nat => lI (ve (j : Int)))))), (f0, .inr (3, [.ref f1, .ref f2, .int (iI hd)])), (f1, .inl (gI G, 1000, .inl (fun j : Nat => iI (ky (j : Int))))), (f2, .inl (gL G, 1000, .inr (.inl (fun j : Nat => lI (fv (j : Int))))))] H := hP.sub [3, 4, 5, 6, 7, 8, 0, 1, 2] rfl
                have hD : va_D A [(r0, .inr (6, [.ref y1, .ref y2, .int (iI (gaN co k.toNat))])), (y1, .inl (gI G, 1000, .inl (fun j : Nat => iI (xs (j : Int))))), (y2, .inl (gI G, 1000, .inl (fun j : Nat => iI (xo (j : Int))))), (u0, .inr (1, [.ref u1, .ref u2, .int (iI k)])), (u1, .inl (gI G, 1000, .inl (fun j : Nat => iI (co (j : Int))))), (u2, .inl (gL G, 1000, .inr (.inl (fun j : Nat => lI (ve (j : Int)))))), (f0, .inr (3, [.ref f1, .ref f2, .int (iI hd)])), (f1, .inl (gI G, 1000, .inl (fun j : Nat => iI (ky (j : Int))))), (f2, .inl (gL G, 1000, .inr (.inl (fun j : Nat => lI (fv (j : Int))))))] := hD.sub [3, 4, 5, 6, 7, 8, 0, 1, 2] (by decide) rfl
                exact ih36 (i + 1) rc sm H locs ls (by omega) (by omega) (by rw [← kc]; first | exact (ctR_f (by omega) (by omega)).symm | (rw [ctR_t (by omega) ⟨hla, by omega⟩])) hP hD hS (lv_sub hl [1, 2, 3, 4, 5, 0] rfl)
              · skip
                have hla : latA co xs (gaN co k.toNat) i := by (by_cases q : latA co xs (gaN co k.toNat) i); exact q; rw [if_neg q] at c_4; omega
                refine lv_aload_n hx hb dX5_countSame_55 rfl (lv_at hl 1 rfl) ?_
                refine lv_aload_n hx hb dX5_countSame_56 rfl (lv_at hl 0 rfl) ?_
                refine va_get (D := G.1) (ci := 6) (v := .ref y1) (C := RX5) (T := TX5) (N := 3) hx hb hts hiX5 hown hK hP 3 rfl rfl 0 (by decide) hw1 (fun _ h9 => h9) rfl dX5_countSame_57 ?_
                refine lv_iload hx hb dX5_countSame_60 (lv_at hl 5 rfl) ?_
                refine z_iald hx hb hK hP 4 0 rfl rfl (by omega) dX5_countSame_62 ?_
                refine z_cVi (RV := (kOf (co (xs i)))) (As := [.int (iI (xs i))]) (rest := []) (wc := [(u0, .inr (1, [.ref u1, .ref u2, .int (iI k)])), (u1, .inl (gI G, 1000, .inl (fun j : Nat => iI (co (j : Int))))), (u2, .inl (gL G, 1000, .inr (.inl (fun j : Nat => lI (ve (j : Int))))))]) (wr := [(f0, .inr (3, [.ref f1, .ref f2, .int (iI hd)])), (f1, .inl (gI G, 1000, .inl (fun j : Nat => iI (ky (j : Int))))), (f2, .inl (gL G, 1000, .inr (.inl (fun j : Nat => lI (fv (j : Int)))))), (r0, .inr (6, [.ref y1, .ref y2, .int (iI (gaN co k.toNat))])), (y1, .inl (gI G, 1000, .inl (fun j : Nat => iI (xs (j : Int))))), (y2, .inl (gI G, 1000, .inl (fun j : Nat => iI (xo (j : Int)))))]) (wn := [(f0, .inr (3, [.ref f1, .ref f2, .int (iI hd)])), (f1, .inl (gI G, 1000, .inl (fun j : Nat => iI (ky (j : Int))))), (f2, .inl (gL G, 1000, .inr (.inl (fun j : Nat => lI (fv (j : Int)))))), (r0, .inr (6, [.ref y1, .ref y2, .int (iI (gaN co k.toNat))])), (y1, .inl (gI G, 1000, .inl (fun j : Nat => iI (xs (j : Int))))), (y2, .inl (gI G, 1000, .inl (fun j : Nat => iI (xo (j : Int))))), (u0, .inr (1, [.ref u1, .ref u2, .int (iI k)])), (u1, .inl (gI G, 1000, .inl (fun j : Nat => iI (co (j : Int))))), (u2, .inl (gL G, 1000, .inr (.inl (fun j : Nat => lI (ve (j : Int))))))]) F C (c_X0_kindOf l G H.size u0 u1 u2 1000 co ve k (xs i) (by omega) (by omega) (by omega)) (cwV 1 hts gX5_countSame_X0_kindOf rfl rfl rfl (by decide +kernel) (by decide)) hP hD hS (q0 := 6) rfl rfl rfl [6, 7, 8] [0, 1, 2, 3, 4, 5] rfl rfl (by decide) rfl rfl hl.1 rfl (Nat.le_of_ble_eq_true rfl) dX5_countSame_63 (by decide) (fun H locs hP hD hS => ?_)
                refine z_if_ne (tgt := 98) hx hb dX5_countSame_66 (by decide) (by omega) (fun c_5 => ?_) (fun c_5 => ?_)
                · skip
                  refine lv_iinc (v := iI (i + 1)) (lv' := [(5, .int (iI (i + 1))), (0, .ref r0), (1, .ref u0), (2, .ref f0), (3, .int (iI rc)), (4, .int (iI sm))]) hx hb dX5_countSame_98 hl (k := 5) rfl (iI_add i (1)) (by decide) rfl (fun ls hl => ?_)
                  refine lv_goto (tgt := 36) hx hb dX5_countSame_101 (by decide) ?_
                  have hP : va_P G.1 vwCl [(r0, .inr (6, [.ref y1, .ref y2, .int (iI (gaN co k.toNat))])), (y1, .inl (gI G, 1000, .inl (fun j : Nat => iI (xs (j : Int))))), (y2, .inl (gI G, 1000, .inl (fun j : Nat => iI (xo (j : Int))))), (u0, .inr (1, [.ref u1, .ref u2, .int (iI k)])), (u1, .inl (gI G, 1000, .inl (fun j : Nat => iI (co (j : Int))))), (u2, .inl (gL G, 1000, .inr (.inl (fun j : Nat => lI (ve (j : Int)))))), (f0, .inr (3, [.ref f1, .ref f2, .int (iI hd)])), (f1, .inl (gI G, 1000, .inl (fun j : Nat => iI (ky (j : Int))))), (f2, .inl (gL G, 1000, .inr (.inl (fun j : Nat => lI (fv (j : Int))))))] H := hP.sub [3, 4, 5, 6, 7, 8, 0, 1, 2] rfl
                  have hD : va_D A [(r0, .inr (6, [.ref y1, .ref y2, .int (iI (gaN co k.toNat))])), (y1, .inl (gI G, 1000, .inl (fun j : Nat => iI (xs (j : Int))))), (y2, .inl (gI G, 1000, .inl (fun j : Nat => iI (xo (j : Int))))), (u0, .inr (1, [.ref u1, .ref u2, .int (iI k)])), (u1, .inl (gI G, 1000, .inl (fun j : Nat => iI (co (j : Int))))), (u2, .inl (gL G, 1000, .inr (.inl (fun j : Nat => lI (ve (j : Int)))))), (f0, .inr (3, [.ref f1, .ref f2, .int (iI hd)])), (f1, .inl (gI G, 1000, .inl (fun j : Nat => iI (ky (j : Int))))), (f2, .inl (gL G, 1000, .inr (.inl (fun j : Nat => lI (fv (j : Int))))))] := hD.sub [3, 4, 5, 6, 7, 8, 0, 1, 2] (by decide) rfl
                  exact ih36 (i + 1) rc sm H locs ls (by omega) (by omega) (by rw [← kc]; first | exact (ctR_f (by omega) (by omega)).symm | (rw [ctR_t (by omega) ⟨hla, by omega⟩])) hP hD hS (lv_sub hl [1, 2, 3, 4, 5, 0] rfl)
                · skip
                  refine lv_iload hx hb dX5_countSame_69 (lv_at hl 4 rfl) ?_
                  refine lv_aload_n hx hb dX5_countSame_71 rfl (lv_at hl 1 rfl) ?_
                  refine lv_aload_n hx hb dX5_countSame_72 rfl (lv_at hl 0 rfl) ?_
                  refine va_get (D := G.1) (ci := 6) (v := .ref y1) (C := RX5) (T := TX5) (N := 3) hx hb hts hiX5 hown hK hP 3 rfl rfl 0 (by decide) hw1 (fun _ h9 => h9) rfl dX5_countSame_73 ?_
                  refine lv_iload hx hb dX5_countSame_76 (lv_at hl 5 rfl) ?_
                  refine z_iald hx hb hK hP 4 0 rfl rfl (by omega) dX5_countSame_78 ?_
                  refine lv_aload_n hx hb dX5_countSame_79 rfl (lv_at hl 2 rfl) ?_
                  refine lv_iload_n hx hb dX5_countSame_80 rfl (lv_at hl 3 rfl) ?_
                  refine z_cSi (RV := (if rc < hd ∧ ky rc = tOf (co (xs i)) ∧ fv rc = ve (xs i) then 1 else 0)) (As := [.ref u0, .int (iI (xs i)), .ref f0, .int (iI rc)]) (rest := [.int (iI sm)]) (wc := [(u0, .inr (1, [.ref u1, .ref u2, .int (iI k)])), (u1, .inl (gI G, 1000, .inl (fun j : Nat => iI (co (j : Int))))), (u2, .inl (gL G, 1000, .inr (.inl (fun j : Nat => lI (ve (j : Int)))))), (f0, .inr (3, [.ref f1, .ref f2, .int (iI hd)])), (f1, .inl (gI G, 1000, .inl (fun j : Nat => iI (ky (j : Int))))), (f2, .inl (gL G, 1000, .inr (.inl (fun j : Nat => lI (fv (j : Int))))))]) (wr := [(r0, .inr (6, [.ref y1, .ref y2, .int (iI (gaN co k.toNat))])), (y1, .inl (gI G, 1000, .inl (fun j : Nat => iI (xs (j : Int))))), (y2, .inl (gI G, 1000, .inl (fun j : Nat => iI (xo (j : Int)))))]) (wn := [(r0, .inr (6, [.ref y1, .ref y2, .int (iI (gaN co k.toNat))])), (y1, .inl (gI G, 1000, .inl (fun j : Nat => iI (xs (j : Int))))), (y2, .inl (gI G, 1000, .inl (fun j : Nat => iI (xo (j : Int))))), (u0, .inr (1, [.ref u1, .ref u2, .int (iI k)])), (u1, .inl (gI G, 1000, .inl (fun j : Nat => iI (co (j : Int))))), (u2, .inl (gL G, 1000, .inr (.inl (fun j : Nat => lI (ve (j : Int)))))), (f0, .inr (3, [.ref f1, .ref f2, .int (iI hd)])), (f1, .inl (gI G, 1000, .inl (fun j : Nat => iI (ky (j : Int))))), (f2, .inl (gL G, 1000, .inr (.inl (fun j : Nat => lI (fv (j : Int))))))]) F C (c_X5_isSame l G H.size u0 u1 u2 co ve k f0 f1 f2 ky fv hd (xs i) rc (by omega) (hco) (by omega) (hky) (hfv) (hve) (by omega)) (va_cwS 4 hts gX5_countSame_X5_isSame rfl rfl rfl (by decide +kernel) (by decide)) hP hD hS [6, 7, 8, 0, 1, 2] [3, 4, 5] rfl rfl (by decide) rfl rfl hl.1 rfl (Nat.le_of_ble_eq_true rfl) dX5_countSame_81 (by decide) (fun H locs hP hD hS => ?_)
                  have join92 : ∀ (H : Heap) (locs : List Loc), va_P G.1 vwCl [(r0, .inr (6, [.ref y1, .ref y2, .int (iI (gaN co k.toNat))])), (y1, .inl (gI G, 1000, .inl (fun j : Nat => iI (xs (j : Int))))), (y2, .inl (gI G, 1000, .inl (fun j : Nat => iI (xo (j : Int))))), (u0, .inr (1, [.ref u1, .ref u2, .int (iI k)])), (u1, .inl (gI G, 1000, .inl (fun j : Nat => iI (co (j : Int))))), (u2, .inl (gL G, 1000, .inr (.inl (fun j : Nat => lI (ve (j : Int)))))), (f0, .inr (3, [.ref f1, .ref f2, .int (iI hd)])), (f1, .inl (gI G, 1000, .inl (fun j : Nat => iI (ky (j : Int))))), (f2, .inl (gL G, 1000, .inr (.inl (fun j : Nat => lI (fv (j : Int))))))] H → va_D A [(r0, .inr (6, [.ref y1, .ref y2, .int (iI (gaN co k.toNat))])), (y1, .inl (gI G, 1000, .inl (fun j : Nat => iI (xs (j : Int))))), (y2, .inl (gI G, 1000, .inl (fun j : Nat => iI (xo (j : Int))))), (u0, .inr (1, [.ref u1, .ref u2, .int (iI k)])), (u1, .inl (gI G, 1000, .inl (fun j : Nat => iI (co (j : Int))))), (u2, .inl (gL G, 1000, .inr (.inl (fun j : Nat => lI (ve (j : Int)))))), (f0, .inr (3, [.ref f1, .ref f2, .int (iI hd)])), (f1, .inl (gI G, 1000, .inl (fun j : Nat => iI (ky (j : Int))))), (f2, .inl (gL G, 1000, .inr (.inl (fun j : Nat => lI (fv (j : Int))))))] → va_S A s.heap H locs → W p l e (rz 3 73) s m [.ref r0, .ref u0, .ref f0].toArray below meth c H locs 0 0 Q (F0 m 92 ls [.int (iI (if smeA co ve ky fv xs hd i rc then 1 else 0)), .int (iI sm)]) := by
                    intro H locs hP hD hS
                    refine z_iadd hx hb dX5_countSame_92 ?_
                    have hsm : 0 ≤ (if smeA co ve ky fv xs hd i rc then (1 : Int) else 0) ∧ (if smeA co ve ky fv xs hd i rc then (1 : Int) else 0) ≤ 1 := by split <;> omega
                    refine lv_istore (lv' := [(4, .int (iI (sm + (if smeA co ve ky fv xs hd i rc then 1 else 0)))), (0, .ref r0), (1, .ref u0), (2, .ref f0), (3, .int (iI rc)), (5, .int (iI i))]) hx hb dX5_countSame_93 hl (by decide) rfl (fun ls hl => ?_)
                    refine lv_iinc (v := iI (rc + 1)) (lv' := [(3, .int (iI (rc + 1))), (4, .int (iI (sm + (if smeA co ve ky fv xs hd i rc then 1 else 0)))), (0, .ref r0), (1, .ref u0), (2, .ref f0), (5, .int (iI i))]) hx hb dX5_countSame_95 hl (k := 4) rfl (iI_add rc (1)) (by decide) rfl (fun ls hl => ?_)
                    refine lv_iinc (v := iI (i + 1)) (lv' := [(5, .int (iI (i + 1))), (3, .int (iI (rc + 1))), (4, .int (iI (sm + (if smeA co ve ky fv xs hd i rc then 1 else 0)))), (0, .ref r0), (1, .ref u0), (2, .ref f0)]) hx hb dX5_countSame_98 hl (k := 5) rfl (iI_add i (1)) (by decide) rfl (fun ls hl => ?_)
                    refine lv_goto (tgt := 36) hx hb dX5_countSame_101 (by decide) ?_
                    exact ih36 (i + 1) (rc + 1) (sm + (if smeA co ve ky fv xs hd i rc then 1 else 0)) H locs ls (by omega) (by omega) (by rw [← kc]; first | exact (ctR_f (by omega) (by omega)).symm | (rw [ctR_t (by omega) ⟨hla, by omega⟩])) hP hD hS (lv_sub hl [3, 4, 5, 1, 2, 0] rfl)
                  refine z_if_eq (tgt := 91) hx hb dX5_countSame_84 (by decide) (by split <;> omega) (fun c_6 => ?_) (fun c_6 => ?_)
                  · skip
                    refine lv_iconst (v := iI (0)) hx hb dX5_countSame_91 rfl ?_
                    refine z_top (w := .int (iI (if smeA co ve ky fv xs hd i rc then 1 else 0))) (congrArg _ (congrArg iI (by first | exact (if_pos (if_ne0 (by assumption))).symm | exact (if_neg (if_eq0 (by assumption))).symm))) ?_
                    exact join92 H locs hP hD hS
                  · skip
                    refine lv_iconst (v := iI (1)) hx hb dX5_countSame_87 rfl ?_
                    refine lv_goto (tgt := 92) hx hb dX5_countSame_88 (by decide) ?_
                    refine z_top (w := .int (iI (if smeA co ve ky fv xs hd i rc then 1 else 0))) (congrArg _ (congrArg iI (by first | exact (if_pos (if_ne0 (by assumption))).symm | exact (if_neg (if_eq0 (by assumption))).symm))) ?_
                    exact join92 H locs hP hD hS
        exact loop36 _ 0 0 0 H locs ls (Nat.lt_succ_self _) (by omega) (by rw [← jfin, Int.sub_zero]) hP hD hS (lv_sub hl [3, 4, 5, 2, 1, 0] rfl)
      · skip
        obtain ⟨n2, hn2, jm2⟩ := srt_s (by omega) (by omega) jm
        refine lv_aload_n hx hb dX5_countSame_15 rfl (lv_at hl 0 rfl) ?_
        refine lv_aload_n hx hb dX5_countSame_16 rfl (lv_at hl 1 rfl) ?_
        refine lv_iload_n hx hb dX5_countSame_17 rfl (lv_at hl 3 rfl) ?_
        refine z_cVv (As := [.ref u0, .int (iI xw)]) (rest := []) (wc := [(r0, .inr (6, [.ref y1, .ref y2, .int (iI (gaN co k.toNat))])), (y1, .inl (gI G, 1000, .inl (fun j : Nat => iI (xs (j : Int))))), (y2, .inl (gI G, 1000, .inl (fun j : Nat => iI (xo (j : Int))))), (u0, .inr (1, [.ref u1, .ref u2, .int (iI k)])), (u1, .inl (gI G, 1000, .inl (fun j : Nat => iI (co (j : Int))))), (u2, .inl (gL G, 1000, .inr (.inl (fun j : Nat => lI (ve (j : Int))))))]) (wr := [(f0, .inr (3, [.ref f1, .ref f2, .int (iI hd)])), (f1, .inl (gI G, 1000, .inl (fun j : Nat => iI (ky (j : Int))))), (f2, .inl (gL G, 1000, .inr (.inl (fun j : Nat => lI (fv (j : Int))))))]) (wn := [(f0, .inr (3, [.ref f1, .ref f2, .int (iI hd)])), (f1, .inl (gI G, 1000, .inl (fun j : Nat => iI (ky (j : Int))))), (f2, .inl (gL G, 1000, .inr (.inl (fun j : Nat => lI (fv (j : Int)))))), (r0, .inr (6, [.ref y2, .ref y1, .int (iI (gaN co k.toNat))])), (y1, .inl (gI G, 1000, .inl (fun j : Nat => iI (xs (j : Int))))), (y2, .inl (gI G, 1000, .inl (fun j : Nat => iI ((maF co xs xw (gaN co k.toNat) (gaN co k.toNat).toNat 0 xo) (j : Int))))), (u0, .inr (1, [.ref u1, .ref u2, .int (iI k)])), (u1, .inl (gI G, 1000, .inl (fun j : Nat => iI (co (j : Int))))), (u2, .inl (gL G, 1000, .inr (.inl (fun j : Nat => lI (ve (j : Int))))))]) F C (c_X5_mergeAll l G H.size r0 y1 y2 xs xo (gaN co k.toNat) u0 u1 u2 co ve k xw (by omega) (hco) (by omega) (js) (by omega)) (cwV 2 hts gX5_countSame_X5_mergeAll rfl rfl rfl (by decide +kernel) (by decide)) hP hD hS (q0 := 0) rfl rfl rfl [0, 1, 2, 3, 4, 5] [6, 7, 8] rfl rfl (by decide) rfl rfl hl.1 rfl (Nat.le_of_ble_eq_true rfl) dX5_countSame_18 (by decide) (fun H locs hP hD hS => ?_)
        refine lv_iload_n hx hb dX5_countSame_21 rfl (lv_at hl 3 rfl) ?_
        refine lv_iconst (v := iI (2)) hx hb dX5_countSame_22 rfl ?_
        refine z_imul hx hb dX5_countSame_23 ?_
        refine lv_istore_n (lv' := [(3, .int (iI (xw * 2))), (0, .ref r0), (1, .ref u0), (2, .ref f0)]) hx hb dX5_countSame_24 rfl hl (by decide) rfl (fun ls hl => ?_)
        refine lv_goto (tgt := 7) hx hb dX5_countSame_25 (by decide) ?_
        have hP : va_P G.1 vwCl [(r0, .inr (6, [.ref y2, .ref y1, .int (iI (gaN co k.toNat))])), (y2, .inl (gI G, 1000, .inl (fun j : Nat => iI ((maF co xs xw (gaN co k.toNat) (gaN co k.toNat).toNat 0 xo) (j : Int))))), (y1, .inl (gI G, 1000, .inl (fun j : Nat => iI (xs (j : Int))))), (u0, .inr (1, [.ref u1, .ref u2, .int (iI k)])), (u1, .inl (gI G, 1000, .inl (fun j : Nat => iI (co (j : Int))))), (u2, .inl (gL G, 1000, .inr (.inl (fun j : Nat => lI (ve (j : Int)))))), (f0, .inr (3, [.ref f1, .ref f2, .int (iI hd)])), (f1, .inl (gI G, 1000, .inl (fun j : Nat => iI (ky (j : Int))))), (f2, .inl (gL G, 1000, .inr (.inl (fun j : Nat => lI (fv (j : Int))))))] H := hP.sub [3, 5, 4, 6, 7, 8, 0, 1, 2] rfl
        have hD : va_D A [(r0, .inr (6, [.ref y2, .ref y1, .int (iI (gaN co k.toNat))])), (y2, .inl (gI G, 1000, .inl (fun j : Nat => iI ((maF co xs xw (gaN co k.toNat) (gaN co k.toNat).toNat 0 xo) (j : Int))))), (y1, .inl (gI G, 1000, .inl (fun j : Nat => iI (xs (j : Int))))), (u0, .inr (1, [.ref u1, .ref u2, .int (iI k)])), (u1, .inl (gI G, 1000, .inl (fun j : Nat => iI (co (j : Int))))), (u2, .inl (gL G, 1000, .inr (.inl (fun j : Nat => lI (ve (j : Int)))))), (f0, .inr (3, [.ref f1, .ref f2, .int (iI hd)])), (f1, .inl (gI G, 1000, .inl (fun j : Nat => iI (ky (j : Int))))), (f2, .inl (gL G, 1000, .inr (.inl (fun j : Nat => lI (fv (j : Int))))))] := hD.sub [3, 5, 4, 6, 7, 8, 0, 1, 2] (by decide) rfl
        exact ih7 n2 y2 y1 (maF co xs xw (gaN co k.toNat) (gaN co k.toNat).toNat 0 xo) xs (xw * 2) H locs ls (by omega) (by omega) (by exact jm2) (by exact maF_r (by omega) js _ _ _ (by omega) (by omega) (fun j h0 h1 _ => by omega)) hP hD hS (lv_sub hl [1, 2, 3, 0] rfl)
  have hP : va_P G.1 vwCl [(r0, .inr (6, [.ref r1, .ref r2, .int (iI (gaN co k.toNat))])), (r1, .inl (gI G, 1000, .inl (fun j : Nat => iI ((gaS co so k.toNat) (j : Int))))), (r2, .inl (gI G, 1000, .inl (fun j : Nat => iI (ot (j : Int))))), (u0, .inr (1, [.ref u1, .ref u2, .int (iI k)])), (u1, .inl (gI G, 1000, .inl (fun j : Nat => iI (co (j : Int))))), (u2, .inl (gL G, 1000, .inr (.inl (fun j : Nat => lI (ve (j : Int)))))), (f0, .inr (3, [.ref f1, .ref f2, .int (iI hd)])), (f1, .inl (gI G, 1000, .inl (fun j : Nat => iI (ky (j : Int))))), (f2, .inl (gL G, 1000, .inr (.inl (fun j : Nat => lI (fv (j : Int))))))] H := hP.sub [3, 4, 5, 6, 7, 8, 0, 1, 2] rfl
  have hD : va_D A [(r0, .inr (6, [.ref r1, .ref r2, .int (iI (gaN co k.toNat))])), (r1, .inl (gI G, 1000, .inl (fun j : Nat => iI ((gaS co so k.toNat) (j : Int))))), (r2, .inl (gI G, 1000, .inl (fun j : Nat => iI (ot (j : Int))))), (u0, .inr (1, [.ref u1, .ref u2, .int (iI k)])), (u1, .inl (gI G, 1000, .inl (fun j : Nat => iI (co (j : Int))))), (u2, .inl (gL G, 1000, .inr (.inl (fun j : Nat => lI (ve (j : Int)))))), (f0, .inr (3, [.ref f1, .ref f2, .int (iI hd)])), (f1, .inl (gI G, 1000, .inl (fun j : Nat => iI (ky (j : Int))))), (f2, .inl (gL G, 1000, .inr (.inl (fun j : Nat => lI (fv (j : Int))))))] := hD.sub [3, 4, 5, 6, 7, 8, 0, 1, 2] (by decide) rfl
  exact loop7 _ 1000 r1 r2 (gaS co so k.toNat) ot 1 H locs ls (Nat.lt_succ_self _) (by omega) (by rfl) (by exact hgs) hP hD hS (lv_sub hl [1, 2, 3, 0] rfl)

