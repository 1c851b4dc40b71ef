set_option maxHeartbeats 4000000 in
set_option maxRecDepth 100000 in
theorem c_X11_lay (l : Launch) (G : Gx) (zz : Nat) (m0 m4 m5 m6 m8 m9 m10 m13 m14 m15 m16 m17 m20 m21 m24 m25 m26 m27 m28 m29 : Nat) (lim fa rf mk nk st wn dn hd md al sd : Int) (ab tr sv od la : Int → Int) (T : Nat) (hg : MGV (md, al, ab, tr, sv)) (hlk : LOK ab tr md od la T) : Cv l yX11_lay wsX11_lay (rz 0 0) G [.ref m0] [(m0, .inr (12, [.int (iI lim), .int (iI fa), .int (iI rf), .int (iI mk), .ref m4, .ref m5, .ref m6, .int (iI nk), .ref m8, .ref m9, .ref m10, .int (iI st), .int (iI wn), .ref m13, .ref m14, .ref m15, .ref m16, .ref m17, .int (iI dn), .int (iI hd), .ref m20, .ref m21, .int (iI md), .int (iI al), .ref m24, .ref m25, .ref m26, .ref m27, .ref m28, .ref m29, .int (iI sd)])), (m24, .inl (gI G, 101, .inl (fun j : Nat => iI (ab (j : Int))))), (m25, .inl (gZ G, 101, .inl (fun j : Nat => iI (tr (j : Int))))), (m26, .inl (gL G, 101, .inr (.inl (fun j : Nat => lI (sv (j : Int)))))), (m27, .inl (gI G, 101, .inl (fun j : Nat => iI (od (j : Int))))), (m28, .inl (gI G, 101, .inl (fun j : Nat => iI (la (j : Int)))))] zz [(m0, .inr (12, [.int (iI lim), .int (iI fa), .int (iI rf), .int (iI mk), .ref m4, .ref m5, .ref m6, .int (iI nk), .ref m8, .ref m9, .ref m10, .int (iI st), .int (iI wn), .ref m13, .ref m14, .ref m15, .ref m16, .ref m17, .int (iI dn), .int (iI hd), .ref m20, .ref m21, .int (iI md), .int (iI al), .ref m24, .ref m25, .ref m26, .ref m27, .ref m28, .ref m29, .int (iI sd)])), (m24, .inl (gI G, 101, .inl (fun j : Nat => iI (ab (j : Int))))), (m25, .inl (gZ G, 101, .inl (fun j : Nat => iI (tr (j : Int))))), (m26, .inl (gL G, 101, .inr (.inl (fun j : Nat => lI (sv (j : Int)))))), (m27, .inl (gI G, 101, .inl (fun j : Nat => iI ((mnF ab tr md od la T).1 (j : Int))))), (m28, .inl (gI G, 101, .inl (fun j : Nat => iI ((mnF ab tr md od la T).2.1 (j : Int)))))] := by
  refine met_v (cc := cX11_lay) (maxL := 5) (by decide) rfl (Nat.le_of_ble_eq_true rfl) ⟨rfl, rfl⟩ ?_
  intro p e s m below meth c A Q F C hP hD hS hret ls hl
  obtain ⟨hx, hb, hml, hown, hts⟩ := id F
  obtain ⟨hK, hA, hZ, hT, hN⟩ := id C
  have hl : lv_has ls 5 [(0, .ref m0)] := hl
  obtain ⟨H, hH⟩ : ∃ H, H = s.heap := ⟨_, rfl⟩
  obtain ⟨locs, hlocs⟩ : ∃ l : List Loc, l = [] := ⟨_, rfl⟩
  have hS : va_S A s.heap H locs := by rw [hH, hlocs]; exact hS
  have hP : va_P G.1 vwCl [(m0, .inr (12, [.int (iI lim), .int (iI fa), .int (iI rf), .int (iI mk), .ref m4, .ref m5, .ref m6, .int (iI nk), .ref m8, .ref m9, .ref m10, .int (iI st), .int (iI wn), .ref m13, .ref m14, .ref m15, .ref m16, .ref m17, .int (iI dn), .int (iI hd), .ref m20, .ref m21, .int (iI md), .int (iI al), .ref m24, .ref m25, .ref m26, .ref m27, .ref m28, .ref m29, .int (iI sd)])), (m24, .inl (gI G, 101, .inl (fun j : Nat => iI (ab (j : Int))))), (m25, .inl (gZ G, 101, .inl (fun j : Nat => iI (tr (j : Int))))), (m26, .inl (gL G, 101, .inr (.inl (fun j : Nat => lI (sv (j : Int)))))), (m27, .inl (gI G, 101, .inl (fun j : Nat => iI (od (j : Int))))), (m28, .inl (gI G, 101, .inl (fun j : Nat => iI (la (j : Int)))))] H := by rw [hH]; exact hP
  suffices hgo : W p l e (rz 0 0) s m [.ref m0].toArray below meth c H locs 0 0 Q (F0 m 0 ls []) by rw [hH, hlocs] at hgo; exact hgo
  have hiX11 : ∀ w ∈ wsX110, w ∈ wsX11_lay := by decide +kernel
  have hw0 := hts (Cond.fieldLink RX11 181 "PlainCobolModel" "segments" "I") (List.mem_of_getElem? (i := 1) rfl)
  have hw1 := hts (Cond.fieldLink RX11 63 "PlainCobolModel" "later" "[I") (List.mem_of_getElem? (i := 4) rfl)
  have hw2 := hts (Cond.fieldLink RX11 60 "PlainCobolModel" "order" "[I") (List.mem_of_getElem? (i := 5) rfl)
  have hw3 := hts (Cond.fieldLink RX11 53 "PlainCobolModel" "there" "[Z") (List.mem_of_getElem? (i := 2) rfl)
  have hw4 := hts (Cond.fieldLink RX11 50 "PlainCobolModel" "above" "[I") (List.mem_of_getElem? (i := 3) rfl)
  have g1 : 0 ≤ md ∧ md ≤ 100 := hg.1
  have g2 : ∀ j, 0 ≤ j → j ≤ 100 → tr j = 0 ∨ tr j = 1 := hg.2.1
  have g5 : ∀ j, 1 ≤ j → j ≤ md → 0 ≤ ab j ∧ ab j < j := hg.2.2.2.2
  obtain ⟨t1, t2, t3⟩ := hlk
  refine lv_iconst (v := iI (0)) hx hb dX11_lay_0 rfl ?_
  refine lv_istore_n (lv' := [(1, .int (iI 0)), (0, .ref m0)]) hx hb dX11_lay_1 rfl hl (by decide) rfl (fun ls hl => ?_)
  refine lv_iconst (v := iI (0)) hx hb dX11_lay_2 rfl ?_
  refine lv_istore_n (lv' := [(2, .int (iI 0)), (1, .int (iI 0)), (0, .ref m0)]) hx hb dX11_lay_3 rfl hl (by decide) rfl (fun ls hl => ?_)
  refine lv_aload_n hx hb dX11_lay_4 rfl (lv_at hl 2 rfl) ?_
  refine va_get (D := G.1) (ci := 12) (v := .int (iI md)) (C := RX11) (T := TX11) (N := 31) hx hb hts hiX11 hown hK hP 0 rfl rfl 22 (by decide) hw0 (fun _ h9 => h9) rfl dX11_lay_5 ?_
  refine lv_istore_n (lv' := [(3, .int (iI md)), (2, .int (iI 0)), (1, .int (iI 0)), (0, .ref m0)]) hx hb dX11_lay_8 rfl hl (by decide) rfl (fun ls hl => ?_)
  have loop9 : ∀ (N : Nat) (i xp : Int) (xl : Int → Int) (H : Heap) (locs : List Loc) (ls : Array Slot), (i.toNat) < N → (0 ≤ i ∧ i ≤ md ∧ 0 ≤ xp ∧ xp + i ≤ md) → (l1F ab tr i.toNat xl xp = l1F ab tr md.toNat la 0) → va_P G.1 vwCl [(m0, .inr (12, [.int (iI lim), .int (iI fa), .int (iI rf), .int (iI mk), .ref m4, .ref m5, .ref m6, .int (iI nk), .ref m8, .ref m9, .ref m10, .int (iI st), .int (iI wn), .ref m13, .ref m14, .ref m15, .ref m16, .ref m17, .int (iI dn), .int (iI hd), .ref m20, .ref m21, .int (iI md), .int (iI al), .ref m24, .ref m25, .ref m26, .ref m27, .ref m28, .ref m29, .int (iI sd)])), (m24, .inl (gI G, 101, .inl (fun j : Nat => iI (ab (j : Int))))), (m25, .inl (gZ G, 101, .inl (fun j : Nat => iI (tr (j : Int))))), (m26, .inl (gL G, 101, .inr (.inl (fun j : Nat => lI (sv (j : Int)))))), (m27, .inl (gI G, 101, .inl (fun j : Nat => iI (od (j : Int))))), (m28, .inl (gI G, 101, .inl (fun j : Nat => iI (xl (j : Int)))))] H → va_D A [(m0, .inr (12, [.int (iI lim), .int (iI fa), .int (iI rf), .int (iI mk), .ref m4, .ref m5, .ref m6, .int (iI nk), .ref m8, .ref m9, .ref m10, .int (iI st), .int (iI wn), .ref m13, .ref m14, .ref m15, .ref m16, .ref m17, .int (iI dn), .int (iI hd), .ref m20, .ref m21, .int (iI md), .int (iI al), .ref m24, .ref m25, .ref m26, .ref m27, .ref m28, .ref m29, .int (iI sd)])), (m24, .inl (gI G, 101, .inl (fun j : Nat => iI (ab (j : Int))))), (m25, .inl (gZ G, 101, .inl (fun j : Nat => iI (tr (j : Int))))), (m26, .inl (gL G, 101, .inr (.inl (fun j : Nat => lI (sv (j : Int)))))), (m27, .inl (gI G, 101, .inl (fun j : Nat => iI (od (j : Int))))), (m28, .inl (gI G, 101, .inl (fun j : Nat => iI (xl (j : Int)))))] → va_S A s.heap H locs → lv_has ls 5 [(0, .ref m0), (1, .int (iI 0)), (2, .int (iI xp)), (3, .int (iI i))] → W p l e (rz 0 0) s m [.ref m0].toArray below meth c H locs 0 0 Q (F0 m 9 ls []) := by
    intro N
    induction N with
    | zero => intro i xp xl H locs ls hm; exact absurd hm (Nat.not_lt_zero _)
    | succ N ih9 =>
      intro i xp xl H locs ls hm ji jl hP hD hS hl
      refine lv_iload_n hx hb dX11_lay_9 rfl (lv_at hl 3 rfl) ?_
      refine z_if_le (tgt := 50) hx hb dX11_lay_10 (by decide) (by omega) (fun c_1 => ?_) (fun c_1 => ?_)
      · skip
        have loop50 : ∀ (N : Nat) (i xp : Int) (xo xl : Int → Int) (H : Heap) (locs : List Loc) (ls : Array Slot), (((T : Int) - i).toNat) < N → (0 ≤ i ∧ i ≤ (T : Int) ∧ 0 ≤ xp) → ((xo, xl, xp) = (mnF ab tr md od la i.toNat)) → va_P G.1 vwCl [(m0, .inr (12, [.int (iI lim), .int (iI fa), .int (iI rf), .int (iI mk), .ref m4, .ref m5, .ref m6, .int (iI nk), .ref m8, .ref m9, .ref m10, .int (iI st), .int (iI wn), .ref m13, .ref m14, .ref m15, .ref m16, .ref m17, .int (iI dn), .int (iI hd), .ref m20, .ref m21, .int (iI md), .int (iI al), .ref m24, .ref m25, .ref m26, .ref m27, .ref m28, .ref m29, .int (iI sd)])), (m24, .inl (gI G, 101, .inl (fun j : Nat => iI (ab (j : Int))))), (m25, .inl (gZ G, 101, .inl (fun j : Nat => iI (tr (j : Int))))), (m26, .inl (gL G, 101, .inr (.inl (fun j : Nat => lI (sv (j : Int)))))), (m27, .inl (gI G, 101, .inl (fun j : Nat => iI (xo (j : Int))))), (m28, .inl (gI G, 101, .inl (fun j : Nat => iI (xl (j : Int)))))] H → va_D A [(m0, .inr (12, [.int (iI lim), .int (iI fa), .int (iI rf), .int (iI mk), .ref m4, .ref m5, .ref m6, .int (iI nk), .ref m8, .ref m9, .ref m10, .int (iI st), .int (iI wn), .ref m13, .ref m14, .ref m15, .ref m16, .ref m17, .int (iI dn), .int (iI hd), .ref m20, .ref m21, .int (iI md), .int (iI al), .ref m24, .ref m25, .ref m26, .ref m27, .ref m28, .ref m29, .int (iI sd)])), (m24, .inl (gI G, 101, .inl (fun j : Nat => iI (ab (j : Int))))), (m25, .inl (gZ G, 101, .inl (fun j : Nat => iI (tr (j : Int))))), (m26, .inl (gL G, 101, .inr (.inl (fun j : Nat => lI (sv (j : Int)))))), (m27, .inl (gI G, 101, .inl (fun j : Nat => iI (xo (j : Int))))), (m28, .inl (gI G, 101, .inl (fun j : Nat => iI (xl (j : Int)))))] → va_S A s.heap H locs → lv_has ls 5 [(0, .ref m0), (1, .int (iI i)), (2, .int (iI xp))] → W p l e (rz 0 0) s m [.ref m0].toArray below meth c H locs 0 0 Q (F0 m 50 ls []) := by
          intro N
          induction N with
          | zero => intro i xp xo xl H locs ls hm; exact absurd hm (Nat.not_lt_zero _)
          | succ N ih50 =>
            intro i xp xo xl H locs ls hm ki ke hP hD hS hl
            refine lv_iload_n hx hb dX11_lay_50 rfl (lv_at hl 2 rfl) ?_
            refine z_if_le (tgt := 130) hx hb dX11_lay_51 (by decide) (by have hb : xp ≤ 100 := (by by_cases q : i = (T : Int); (have e2 := congrArg (fun z => z.2.2) ke; rw [q, Int.toNat_natCast] at e2; dsimp only at e2; omega); (have e2 := congrArg (fun z => z.2.2) ke; have e3 := (t3 i.toNat (by omega)).1; dsimp only at e2; omega)); omega) (fun c_2 => ?_) (fun c_2 => ?_)
            · skip
              have hiT : i = (T : Int) := by (by_cases q : i = (T : Int)); exact q; (have e2 := congrArg (fun z => z.2.2) ke); (have e3 := (t3 i.toNat (by omega)).1); dsimp only at e2; omega
              have e_3 : (xo : Int → Int) = (mnF ab tr md od la T).1 := by (rw [show i = ((T : Nat) : Int) by omega, Int.toNat_natCast] at ke; rw [← ke])
              have e_4 : (xl : Int → Int) = (mnF ab tr md od la T).2.1 := by (rw [show i = ((T : Nat) : Int) by omega, Int.toNat_natCast] at ke; rw [← ke])
              have hP : va_P G.1 vwCl [(m0, .inr (12, [.int (iI lim), .int (iI fa), .int (iI rf), .int (iI mk), .ref m4, .ref m5, .ref m6, .int (iI nk), .ref m8, .ref m9, .ref m10, .int (iI st), .int (iI wn), .ref m13, .ref m14, .ref m15, .ref m16, .ref m17, .int (iI dn), .int (iI hd), .ref m20, .ref m21, .int (iI md), .int (iI al), .ref m24, .ref m25, .ref m26, .ref m27, .ref m28, .ref m29, .int (iI sd)])), (m24, .inl (gI G, 101, .inl (fun j : Nat => iI (ab (j : Int))))), (m25, .inl (gZ G, 101, .inl (fun j : Nat => iI (tr (j : Int))))), (m26, .inl (gL G, 101, .inr (.inl (fun j : Nat => lI (sv (j : Int)))))), (m27, .inl (gI G, 101, .inl (fun j : Nat => iI ((mnF ab tr md od la T).1 (j : Int))))), (m28, .inl (gI G, 101, .inl (fun j : Nat => iI ((mnF ab tr md od la T).2.1 (j : Int)))))] H := by rw [← e_3, ← e_4]; exact hP
              have hD : va_D A [(m0, .inr (12, [.int (iI lim), .int (iI fa), .int (iI rf), .int (iI mk), .ref m4, .ref m5, .ref m6, .int (iI nk), .ref m8, .ref m9, .ref m10, .int (iI st), .int (iI wn), .ref m13, .ref m14, .ref m15, .ref m16, .ref m17, .int (iI dn), .int (iI hd), .ref m20, .ref m21, .int (iI md), .int (iI al), .ref m24, .ref m25, .ref m26, .ref m27, .ref m28, .ref m29, .int (iI sd)])), (m24, .inl (gI G, 101, .inl (fun j : Nat => iI (ab (j : Int))))), (m25, .inl (gZ G, 101, .inl (fun j : Nat => iI (tr (j : Int))))), (m26, .inl (gL G, 101, .inr (.inl (fun j : Nat => lI (sv (j : Int)))))), (m27, .inl (gI G, 101, .inl (fun j : Nat => iI ((mnF ab tr md od la T).1 (j : Int))))), (m28, .inl (gI G, 101, .inl (fun j : Nat => iI ((mnF ab tr md od la T).2.1 (j : Int)))))] := by rw [← e_3, ← e_4]; exact hD
              exact hret _ ls H locs dX11_lay_130 hP hD hS
            · skip
              have hiT : i < (T : Int) := by (by_cases q : i < (T : Int)); exact q; (have e2 := congrArg (fun z => z.2.2) ke); rw [show i = (T : Int) by omega, Int.toNat_natCast] at e2; dsimp only at e2; omega
              have ht3 := t3 i.toNat (by omega)
              rw [← ke] at ht3
              dsimp only at ht3
              have hs4 := ht3.2.1
              have hms := mnF_s ki.1 ke
              rw [show (i + 1).toNat = i.toNat + 1 by omega] at hms
              rw [hms] at hs4
              dsimp only at hs4
              refine lv_iinc (v := iI (xp - 1)) (lv' := [(2, .int (iI (xp - 1))), (0, .ref m0), (1, .int (iI i))]) hx hb dX11_lay_54 hl (k := 2) rfl (by rw [Int.sub_eq_add_neg]; exact iI_add xp (-1)) (by decide) rfl (fun ls hl => ?_)
              refine lv_aload_n hx hb dX11_lay_57 rfl (lv_at hl 1 rfl) ?_
              refine va_get (D := G.1) (ci := 12) (v := .ref m28) (C := RX11) (T := TX11) (N := 31) hx hb hts hiX11 hown hK hP 0 rfl rfl 28 (by decide) hw1 (fun _ h9 => h9) rfl dX11_lay_58 ?_
              refine lv_iload_n hx hb dX11_lay_61 rfl (lv_at hl 0 rfl) ?_
              refine z_iald hx hb hK hP 5 0 rfl rfl (by omega) dX11_lay_62 ?_
              refine lv_istore_n (lv' := [(3, .int (iI (xl (xp - 1)))), (2, .int (iI (xp - 1))), (0, .ref m0), (1, .int (iI i))]) hx hb dX11_lay_63 rfl hl (by decide) rfl (fun ls hl => ?_)
              refine lv_aload_n hx hb dX11_lay_64 rfl (lv_at hl 2 rfl) ?_
              refine va_get (D := G.1) (ci := 12) (v := .ref m27) (C := RX11) (T := TX11) (N := 31) hx hb hts hiX11 hown hK hP 0 rfl rfl 27 (by decide) hw2 (fun _ h9 => h9) rfl dX11_lay_65 ?_
              refine lv_iload_n hx hb dX11_lay_68 rfl (lv_at hl 3 rfl) ?_
              refine lv_iload_n hx hb dX11_lay_69 rfl (lv_at hl 0 rfl) ?_
              refine z_iast hx hb hK hP hD hS 4 0 rfl rfl (by omega) dX11_lay_70 (fun H locs hP hD hS => ?_)
              have hP : va_P G.1 vwCl [(m0, .inr (12, [.int (iI lim), .int (iI fa), .int (iI rf), .int (iI mk), .ref m4, .ref m5, .ref m6, .int (iI nk), .ref m8, .ref m9, .ref m10, .int (iI st), .int (iI wn), .ref m13, .ref m14, .ref m15, .ref m16, .ref m17, .int (iI dn), .int (iI hd), .ref m20, .ref m21, .int (iI md), .int (iI al), .ref m24, .ref m25, .ref m26, .ref m27, .ref m28, .ref m29, .int (iI sd)])), (m24, .inl (gI G, 101, .inl (fun j : Nat => iI (ab (j : Int))))), (m25, .inl (gZ G, 101, .inl (fun j : Nat => iI (tr (j : Int))))), (m26, .inl (gL G, 101, .inr (.inl (fun j : Nat => lI (sv (j : Int)))))), (m27, .inl (gI G, 101, .inl (fun j : Nat => iI ((uF xo i (xl (xp - 1))) (j : Int))))), (m28, .inl (gI G, 101, .inl (fun j : Nat => iI (xl (j : Int)))))] H := hP
              have hD : va_D A [(m0, .inr (12, [.int (iI lim), .int (iI fa), .int (iI rf), .int (iI mk), .ref m4, .ref m5, .ref m6, .int (iI nk), .ref m8, .ref m9, .ref m10, .int (iI st), .int (iI wn), .ref m13, .ref m14, .ref m15, .ref m16, .ref m17, .int (iI dn), .int (iI hd), .ref m20, .ref m21, .int (iI md), .int (iI al), .ref m24, .ref m25, .ref m26, .ref m27, .ref m28, .ref m29, .int (iI sd)])), (m24, .inl (gI G, 101, .inl (fun j : Nat => iI (ab (j : Int))))), (m25, .inl (gZ G, 101, .inl (fun j : Nat => iI (tr (j : Int))))), (m26, .inl (gL G, 101, .inr (.inl (fun j : Nat => lI (sv (j : Int)))))), (m27, .inl (gI G, 101, .inl (fun j : Nat => iI ((uF xo i (xl (xp - 1))) (j : Int))))), (m28, .inl (gI G, 101, .inl (fun j : Nat => iI (xl (j : Int)))))] := hD
              refine lv_iinc (v := iI (i + 1)) (lv' := [(1, .int (iI (i + 1))), (3, .int (iI (xl (xp - 1)))), (2, .int (iI (xp - 1))), (0, .ref m0)]) hx hb dX11_lay_71 hl (k := 3) rfl (iI_add i (1)) (by decide) rfl (fun ls hl => ?_)
              refine lv_aload_n hx hb dX11_lay_74 rfl (lv_at hl 3 rfl) ?_
              refine va_get (D := G.1) (ci := 12) (v := .int (iI md)) (C := RX11) (T := TX11) (N := 31) hx hb hts hiX11 hown hK hP 0 rfl rfl 22 (by decide) hw0 (fun _ h9 => h9) rfl dX11_lay_75 ?_
              refine lv_istore (lv' := [(4, .int (iI md)), (1, .int (iI (i + 1))), (3, .int (iI (xl (xp - 1)))), (2, .int (iI (xp - 1))), (0, .ref m0)]) hx hb dX11_lay_78 hl (by decide) rfl (fun ls hl => ?_)
              have loop80 : ∀ (N : Nat) (y yp : Int) (yq : Int → Int) (H : Heap) (locs : List Loc) (ls : Array Slot), ((y + 1).toNat) < N → ((xl (xp - 1)) ≤ y ∧ y ≤ md ∧ 0 ≤ yp) → (cpF ab tr (xl (xp - 1)) (y - (xl (xp - 1))).toNat yq yp = cpF ab tr (xl (xp - 1)) (md - (xl (xp - 1))).toNat xl (xp - 1)) → va_P G.1 vwCl [(m0, .inr (12, [.int (iI lim), .int (iI fa), .int (iI rf), .int (iI mk), .ref m4, .ref m5, .ref m6, .int (iI nk), .ref m8, .ref m9, .ref m10, .int (iI st), .int (iI wn), .ref m13, .ref m14, .ref m15, .ref m16, .ref m17, .int (iI dn), .int (iI hd), .ref m20, .ref m21, .int (iI md), .int (iI al), .ref m24, .ref m25, .ref m26, .ref m27, .ref m28, .ref m29, .int (iI sd)])), (m24, .inl (gI G, 101, .inl (fun j : Nat => iI (ab (j : Int))))), (m25, .inl (gZ G, 101, .inl (fun j : Nat => iI (tr (j : Int))))), (m26, .inl (gL G, 101, .inr (.inl (fun j : Nat => lI (sv (j : Int)))))), (m27, .inl (gI G, 101, .inl (fun j : Nat => iI ((uF xo i (xl (xp - 1))) (j : Int))))), (m28, .inl (gI G, 101, .inl (fun j : Nat => iI (yq (j : Int)))))] H → va_D A [(m0, .inr (12, [.int (iI lim), .int (iI fa), .int (iI rf), .int (iI mk), .ref m4, .ref m5, .ref m6, .int (iI nk), .ref m8, .ref m9, .ref m10, .int (iI st), .int (iI wn), .ref m13, .ref m14, .ref m15, .ref m16, .ref m17, .int (iI dn), .int (iI hd), .ref m20, .ref m21, .int (iI md), .int (iI al), .ref m24, .ref m25, .ref m26, .ref m27, .ref m28, .ref m29, .int (iI sd)])), (m24, .inl (gI G, 101, .inl (fun j : Nat => iI (ab (j : Int))))), (m25, .inl (gZ G, 101, .inl (fun j : Nat => iI (tr (j : Int))))), (m26, .inl (gL G, 101, .inr (.inl (fun j : Nat => lI (sv (j : Int)))))), (m27, .inl (gI G, 101, .inl (fun j : Nat => iI ((uF xo i (xl (xp - 1))) (j : Int))))), (m28, .inl (gI G, 101, .inl (fun j : Nat => iI (yq (j : Int)))))] → va_S A s.heap H locs → lv_has ls 5 [(0, .ref m0), (1, .int (iI (i + 1))), (2, .int (iI yp)), (3, .int (iI (xl (xp - 1)))), (4, .int (iI y))] → W p l e (rz 0 0) s m [.ref m0].toArray below meth c H locs 0 0 Q (F0 m 80 ls []) := by
                intro N
                induction N with
                | zero => intro y yp yq H locs ls hm; exact absurd hm (Nat.not_lt_zero _)
                | succ N ih80 =>
                  intro y yp yq H locs ls hm yi yl hP hD hS hl
                  refine lv_iload hx hb dX11_lay_80 (lv_at hl 4 rfl) ?_
                  refine lv_iload_n hx hb dX11_lay_82 rfl (lv_at hl 3 rfl) ?_
                  refine z_icmp_le (tgt := 127) hx hb dX11_lay_83 (by decide) (by omega) (fun c_5 => ?_) (fun c_5 => ?_)
                  · skip
                    refine lv_goto (tgt := 50) hx hb dX11_lay_127 (by decide) ?_
                    exact ih50 (i + 1) yp (uF xo i (xl (xp - 1))) yq H locs ls (by omega) (by have := cpF_m ab tr (xl (xp - 1)) (md - xl (xp - 1)).toNat xl (xp - 1); omega) (by rw [mnF_s ki.1 ke, ← yl]; rw [cpF_e (by omega)]) hP hD hS (lv_sub hl [0, 1, 2] rfl)
                  · skip
                    have hty := g2 y (by omega) (by omega)
                    have hay := g5 y (by omega) (by omega)
                    refine lv_aload_n hx hb dX11_lay_86 rfl (lv_at hl 0 rfl) ?_
                    refine va_get (D := G.1) (ci := 12) (v := .ref m25) (C := RX11) (T := TX11) (N := 31) hx hb hts hiX11 hown hK hP 0 rfl rfl 25 (by decide) hw3 (fun _ h9 => h9) rfl dX11_lay_87 ?_
                    refine lv_iload hx hb dX11_lay_90 (lv_at hl 4 rfl) ?_
                    refine z_zald hx hb hK hP 2 3 rfl rfl (by omega) dX11_lay_92 ?_
                    refine z_if_eq (tgt := 121) hx hb dX11_lay_93 (by decide) (by omega) (fun c_6 => ?_) (fun c_6 => ?_)
                    · skip
                      refine lv_iinc (v := iI (y - 1)) (lv' := [(4, .int (iI (y - 1))), (0, .ref m0), (1, .int (iI (i + 1))), (2, .int (iI yp)), (3, .int (iI (xl (xp - 1))))]) hx hb dX11_lay_121 hl (k := 4) rfl (by rw [Int.sub_eq_add_neg]; exact iI_add y (-1)) (by decide) rfl (fun ls hl => ?_)
                      refine lv_goto (tgt := 80) hx hb dX11_lay_124 (by decide) ?_
                      exact ih80 (y - 1) yp yq H locs ls (by omega) (by omega) (by rw [← yl]; first | exact (cpF_t (by omega) (by omega)).symm | exact (cpF_f (by omega) (by omega)).symm) hP hD hS (lv_sub hl [1, 2, 3, 4, 0] rfl)
                    · skip
                      refine lv_aload_n hx hb dX11_lay_96 rfl (lv_at hl 0 rfl) ?_
                      refine va_get (D := G.1) (ci := 12) (v := .ref m24) (C := RX11) (T := TX11) (N := 31) hx hb hts hiX11 hown hK hP 0 rfl rfl 24 (by decide) hw4 (fun _ h9 => h9) rfl dX11_lay_97 ?_
                      refine lv_iload hx hb dX11_lay_100 (lv_at hl 4 rfl) ?_
                      refine z_iald hx hb hK hP 1 0 rfl rfl (by omega) dX11_lay_102 ?_
                      refine lv_iload_n hx hb dX11_lay_103 rfl (lv_at hl 3 rfl) ?_
                      refine z_icmp_eq (tgt := 110) hx hb dX11_lay_104 (by decide) (by omega) (fun c_7 => ?_) (fun c_7 => ?_)
                      · skip
                        refine lv_aload_n hx hb dX11_lay_110 rfl (lv_at hl 0 rfl) ?_
                        refine va_get (D := G.1) (ci := 12) (v := .ref m28) (C := RX11) (T := TX11) (N := 31) hx hb hts hiX11 hown hK hP 0 rfl rfl 28 (by decide) hw1 (fun _ h9 => h9) rfl dX11_lay_111 ?_
                        refine lv_iload_n hx hb dX11_lay_114 rfl (lv_at hl 2 rfl) ?_
                        refine lv_iload hx hb dX11_lay_115 (lv_at hl 4 rfl) ?_
                        refine z_iast hx hb hK hP hD hS 5 0 rfl rfl (by have h9 := cpF_m ab tr (xl (xp - 1)) (y - 1 - (xl (xp - 1))).toNat (uF yq yp y) (yp + 1); rw [cpF_t (by omega) (by omega)] at yl; rw [yl] at h9; omega) dX11_lay_117 (fun H locs hP hD hS => ?_)
                        have hP : va_P G.1 vwCl [(m0, .inr (12, [.int (iI lim), .int (iI fa), .int (iI rf), .int (iI mk), .ref m4, .ref m5, .ref m6, .int (iI nk), .ref m8, .ref m9, .ref m10, .int (iI st), .int (iI wn), .ref m13, .ref m14, .ref m15, .ref m16, .ref m17, .int (iI dn), .int (iI hd), .ref m20, .ref m21, .int (iI md), .int (iI al), .ref m24, .ref m25, .ref m26, .ref m27, .ref m28, .ref m29, .int (iI sd)])), (m24, .inl (gI G, 101, .inl (fun j : Nat => iI (ab (j : Int))))), (m25, .inl (gZ G, 101, .inl (fun j : Nat => iI (tr (j : Int))))), (m26, .inl (gL G, 101, .inr (.inl (fun j : Nat => lI (sv (j : Int)))))), (m27, .inl (gI G, 101, .inl (fun j : Nat => iI ((uF xo i (xl (xp - 1))) (j : Int))))), (m28, .inl (gI G, 101, .inl (fun j : Nat => iI ((uF yq yp y) (j : Int)))))] H := hP
                        have hD : va_D A [(m0, .inr (12, [.int (iI lim), .int (iI fa), .int (iI rf), .int (iI mk), .ref m4, .ref m5, .ref m6, .int (iI nk), .ref m8, .ref m9, .ref m10, .int (iI st), .int (iI wn), .ref m13, .ref m14, .ref m15, .ref m16, .ref m17, .int (iI dn), .int (iI hd), .ref m20, .ref m21, .int (iI md), .int (iI al), .ref m24, .ref m25, .ref m26, .ref m27, .ref m28, .ref m29, .int (iI sd)])), (m24, .inl (gI G, 101, .inl (fun j : Nat => iI (ab (j : Int))))), (m25, .inl (gZ G, 101, .inl (fun j : Nat => iI (tr (j : Int))))), (m26, .inl (gL G, 101, .inr (.inl (fun j : Nat => lI (sv (j : Int)))))), (m27, .inl (gI G, 101, .inl (fun j : Nat => iI ((uF xo i (xl (xp - 1))) (j : Int))))), (m28, .inl (gI G, 101, .inl (fun j : Nat => iI ((uF yq yp y) (j : Int)))))] := hD
                        refine lv_iinc (v := iI (yp + 1)) (lv' := [(2, .int (iI (yp + 1))), (0, .ref m0), (1, .int (iI (i + 1))), (3, .int (iI (xl (xp - 1)))), (4, .int (iI y))]) hx hb dX11_lay_118 hl (k := 2) rfl (iI_add yp (1)) (by decide) rfl (fun ls hl => ?_)
                        refine lv_iinc (v := iI (y - 1)) (lv' := [(4, .int (iI (y - 1))), (2, .int (iI (yp + 1))), (0, .ref m0), (1, .int (iI (i + 1))), (3, .int (iI (xl (xp - 1))))]) hx hb dX11_lay_121 hl (k := 4) rfl (by rw [Int.sub_eq_add_neg]; exact iI_add y (-1)) (by decide) rfl (fun ls hl => ?_)
                        refine lv_goto (tgt := 80) hx hb dX11_lay_124 (by decide) ?_
                        exact ih80 (y - 1) (yp + 1) (uF yq yp y) H locs ls (by omega) (by omega) (by rw [← yl]; first | exact (cpF_t (by omega) (by omega)).symm | exact (cpF_f (by omega) (by omega)).symm) hP hD hS (lv_sub hl [2, 3, 1, 4, 0] rfl)
                      · skip
                        refine lv_goto (tgt := 121) hx hb dX11_lay_107 (by decide) ?_
                        refine lv_iinc (v := iI (y - 1)) (lv' := [(4, .int (iI (y - 1))), (0, .ref m0), (1, .int (iI (i + 1))), (2, .int (iI yp)), (3, .int (iI (xl (xp - 1))))]) hx hb dX11_lay_121 hl (k := 4) rfl (by rw [Int.sub_eq_add_neg]; exact iI_add y (-1)) (by decide) rfl (fun ls hl => ?_)
                        refine lv_goto (tgt := 80) hx hb dX11_lay_124 (by decide) ?_
                        exact ih80 (y - 1) yp yq H locs ls (by omega) (by omega) (by rw [← yl]; first | exact (cpF_t (by omega) (by omega)).symm | exact (cpF_f (by omega) (by omega)).symm) hP hD hS (lv_sub hl [1, 2, 3, 4, 0] rfl)
              exact loop80 _ md (xp - 1) xl H locs ls (Nat.lt_succ_self _) (by omega) (by rfl) hP hD hS (lv_sub hl [4, 1, 3, 2, 0] rfl)
        exact loop50 _ 0 xp od xl H locs ls (Nat.lt_succ_self _) (by omega) (by have q := jl; rw [show i = 0 by omega] at q; unfold mnF; rw [← q]; rfl) hP hD hS (lv_sub hl [0, 1, 2] rfl)
      · skip
        have hti := g2 i (by omega) (by omega)
        have hai := g5 i (by omega) (by omega)
        refine lv_aload_n hx hb dX11_lay_13 rfl (lv_at hl 0 rfl) ?_
        refine va_get (D := G.1) (ci := 12) (v := .ref m25) (C := RX11) (T := TX11) (N := 31) hx hb hts hiX11 hown hK hP 0 rfl rfl 25 (by decide) hw3 (fun _ h9 => h9) rfl dX11_lay_14 ?_
        refine lv_iload_n hx hb dX11_lay_17 rfl (lv_at hl 3 rfl) ?_
        refine z_zald hx hb hK hP 2 3 rfl rfl (by omega) dX11_lay_18 ?_
        refine z_if_eq (tgt := 44) hx hb dX11_lay_19 (by decide) (by omega) (fun c_8 => ?_) (fun c_8 => ?_)
        · skip
          refine lv_iinc (v := iI (i - 1)) (lv' := [(3, .int (iI (i - 1))), (0, .ref m0), (1, .int (iI 0)), (2, .int (iI xp))]) hx hb dX11_lay_44 hl (k := 3) rfl (by rw [Int.sub_eq_add_neg]; exact iI_add i (-1)) (by decide) rfl (fun ls hl => ?_)
          refine lv_goto (tgt := 9) hx hb dX11_lay_47 (by decide) ?_
          exact ih9 (i - 1) xp xl H locs ls (by omega) (by omega) (by rw [← jl]; first | exact (l1F_t (by omega) (by omega)).symm | exact (l1F_f (by omega) (by omega)).symm) hP hD hS (lv_sub hl [1, 2, 3, 0] rfl)
        · skip
          refine lv_aload_n hx hb dX11_lay_22 rfl (lv_at hl 0 rfl) ?_
          refine va_get (D := G.1) (ci := 12) (v := .ref m24) (C := RX11) (T := TX11) (N := 31) hx hb hts hiX11 hown hK hP 0 rfl rfl 24 (by decide) hw4 (fun _ h9 => h9) rfl dX11_lay_23 ?_
          refine lv_iload_n hx hb dX11_lay_26 rfl (lv_at hl 3 rfl) ?_
          refine z_iald hx hb hK hP 1 0 rfl rfl (by omega) dX11_lay_27 ?_
          refine z_if_le (tgt := 34) hx hb dX11_lay_28 (by decide) (by omega) (fun c_9 => ?_) (fun c_9 => ?_)
          · skip
            refine lv_aload_n hx hb dX11_lay_34 rfl (lv_at hl 0 rfl) ?_
            refine va_get (D := G.1) (ci := 12) (v := .ref m28) (C := RX11) (T := TX11) (N := 31) hx hb hts hiX11 hown hK hP 0 rfl rfl 28 (by decide) hw1 (fun _ h9 => h9) rfl dX11_lay_35 ?_
            refine lv_iload_n hx hb dX11_lay_38 rfl (lv_at hl 2 rfl) ?_
            refine lv_iload_n hx hb dX11_lay_39 rfl (lv_at hl 3 rfl) ?_
            refine z_iast hx hb hK hP hD hS 5 0 rfl rfl (by omega) dX11_lay_40 (fun H locs hP hD hS => ?_)
            have hP : va_P G.1 vwCl [(m0, .inr (12, [.int (iI lim), .int (iI fa), .int (iI rf), .int (iI mk), .ref m4, .ref m5, .ref m6, .int (iI nk), .ref m8, .ref m9, .ref m10, .int (iI st), .int (iI wn), .ref m13, .ref m14, .ref m15, .ref m16, .ref m17, .int (iI dn), .int (iI hd), .ref m20, .ref m21, .int (iI md), .int (iI al), .ref m24, .ref m25, .ref m26, .ref m27, .ref m28, .ref m29, .int (iI sd)])), (m24, .inl (gI G, 101, .inl (fun j : Nat => iI (ab (j : Int))))), (m25, .inl (gZ G, 101, .inl (fun j : Nat => iI (tr (j : Int))))), (m26, .inl (gL G, 101, .inr (.inl (fun j : Nat => lI (sv (j : Int)))))), (m27, .inl (gI G, 101, .inl (fun j : Nat => iI (od (j : Int))))), (m28, .inl (gI G, 101, .inl (fun j : Nat => iI ((uF xl xp i) (j : Int)))))] H := hP
            have hD : va_D A [(m0, .inr (12, [.int (iI lim), .int (iI fa), .int (iI rf), .int (iI mk), .ref m4, .ref m5, .ref m6, .int (iI nk), .ref m8, .ref m9, .ref m10, .int (iI st), .int (iI wn), .ref m13, .ref m14, .ref m15, .ref m16, .ref m17, .int (iI dn), .int (iI hd), .ref m20, .ref m21, .int (iI md), .int (iI al), .ref m24, .ref m25, .ref m26, .ref m27, .ref m28, .ref m29, .int (iI sd)])), (m24, .inl (gI G, 101, .inl (fun j : Nat => iI (ab (j : Int))))), (m25, .inl (gZ G, 101, .inl (fun j : Nat => iI (tr (j : Int))))), (m26, .inl (gL G, 101, .inr (.inl (fun j : Nat => lI (sv (j : Int)))))), (m27, .inl (gI G, 101, .inl (fun j : Nat => iI (od (j : Int))))), (m28, .inl (gI G, 101, .inl (fun j : Nat => iI ((uF xl xp i) (j : Int)))))] := hD
            refine lv_iinc (v := iI (xp + 1)) (lv' := [(2, .int (iI (xp + 1))), (0, .ref m0), (1, .int (iI 0)), (3, .int (iI i))]) hx hb dX11_lay_41 hl (k := 2) rfl (iI_add xp (1)) (by decide) rfl (fun ls hl => ?_)
            refine lv_iinc (v := iI (i - 1)) (lv' := [(3, .int (iI (i - 1))), (2, .int (iI (xp + 1))), (0, .ref m0), (1, .int (iI 0))]) hx hb dX11_lay_44 hl (k := 3) rfl (by rw [Int.sub_eq_add_neg]; exact iI_add i (-1)) (by decide) rfl (fun ls hl => ?_)
            refine lv_goto (tgt := 9) hx hb dX11_lay_47 (by decide) ?_
            exact ih9 (i - 1) (xp + 1) (uF xl xp i) H locs ls (by omega) (by omega) (by rw [← jl]; first | exact (l1F_t (by omega) (by omega)).symm | exact (l1F_f (by omega) (by omega)).symm) hP hD hS (lv_sub hl [2, 3, 1, 0] rfl)
          · skip
            refine lv_goto (tgt := 44) hx hb dX11_lay_31 (by decide) ?_
            refine lv_iinc (v := iI (i - 1)) (lv' := [(3, .int (iI (i - 1))), (0, .ref m0), (1, .int (iI 0)), (2, .int (iI xp))]) hx hb dX11_lay_44 hl (k := 3) rfl (by rw [Int.sub_eq_add_neg]; exact iI_add i (-1)) (by decide) rfl (fun ls hl => ?_)
            refine lv_goto (tgt := 9) hx hb dX11_lay_47 (by decide) ?_
            exact ih9 (i - 1) xp xl H locs ls (by omega) (by omega) (by rw [← jl]; first | exact (l1F_t (by omega) (by omega)).symm | exact (l1F_f (by omega) (by omega)).symm) hP hD hS (lv_sub hl [1, 2, 3, 0] rfl)
  exact loop9 _ md 0 la H locs ls (Nat.lt_succ_self _) (by omega) (by rfl) hP hD hS (lv_sub hl [3, 2, 1, 0] rfl)

set_option maxHeartbeats 4000000 in
set_option maxRecDepth 100000 in
theorem c_X11_segment_f (l : Launch) (G : Gx) (zz : Nat) (m0 m4 m5 m6 m8 m9 m10 m13 m14 m15 m16 m17 m20 m21 m24 m25 m26 m27 m28 m29 : Nat) (lim fa rf mk nk st wn dn hd md al sd : Int) (ab tr sv od la : Int → Int) (dp : Int → Int) (T : Nat) (i what : Int) (hg : MGV (md, al, ab, tr, sv)) (hal : 0 ≤ al ∧ al ≤ 100) (hno : i < 0 ∨ al ≤ i ∨ what < 0 ∨ 4 < what) (h1 : -2147483648 ≤ i ∧ i < 2147483648) (h2 : -2147483648 ≤ what ∧ what < 2147483648) : Ci l yX11_segment wsX11_segment (rz 0 0) G [.ref m0, .int (iI i), .int (iI what)] [(m0, .inr (12, [.int (iI lim), .int (iI fa), .int (iI rf), .int (iI mk), .ref m4, .ref m5, .ref m6, .int (iI nk), .ref m8, .ref m9, .ref m10, .int (iI st), .int (iI wn), .ref m13, .ref m14, .ref m15, .ref m16, .ref m17, .int (iI dn), .int (iI hd), .ref m20, .ref m21, .int (iI md), .int (iI al), .ref m24, .ref m25, .ref m26, .ref m27, .ref m28, .ref m29, .int (iI sd)])), (m24, .inl (gI G, 101, .inl (fun j : Nat => iI (ab (j : Int))))), (m25, .inl (gZ G, 101, .inl (fun j : Nat => iI (tr (j : Int))))), (m26, .inl (gL G, 101, .inr (.inl (fun j : Nat => lI (sv (j : Int)))))), (m27, .inl (gI G, 101, .inl (fun j : Nat => iI (od (j : Int))))), (m28, .inl (gI G, 101, .inl (fun j : Nat => iI (la (j : Int)))))] zz (-1) [(m0, .inr (12, [.int (iI lim), .int (iI 0), .int (iI rf), .int (iI mk), .ref m4, .ref m5, .ref m6, .int (iI nk), .ref m8, .ref m9, .ref m10, .int (iI st), .int (iI wn), .ref m13, .ref m14, .ref m15, .ref m16, .ref m17, .int (iI dn), .int (iI hd), .ref m20, .ref m21, .int (iI md), .int (iI al), .ref m24, .ref m25, .ref m26, .ref m27, .ref m28, .ref m29, .int (iI sd)])), (m24, .inl (gI G, 101, .inl (fun j : Nat => iI (ab (j : Int))))), (m25, .inl (gZ G, 101, .inl (fun j : Nat => iI (tr (j : Int))))), (m26, .inl (gL G, 101, .inr (.inl (fun j : Nat => lI (sv (j : Int)))))), (m27, .inl (gI G, 101, .inl (fun j : Nat => iI (od (j : Int))))), (m28, .inl (gI G, 101, .inl (fun j : Nat => iI (la (j : Int)))))] := by
  refine met_i (cc := cX11_segment) (maxL := 6) (ret := (some .int)) (by decide) rfl (Nat.le_of_ble_eq_true rfl) rfl rfl ⟨rfl, rfl⟩ ?_
  intro p e s m below meth c A Q F C hP hD hS hret ls hl
  obtain ⟨hx, hb, hml, hown, hts⟩ := id F
  obtain ⟨hK, hA, hZ, hT, hN⟩ := id C
  have hl : lv_has ls 6 [(0, .ref m0), (1, .int (iI i)), (2, .int (iI what))] := hl
  obtain ⟨H, hH⟩ : ∃ H, H = s.heap := ⟨_, rfl⟩
  obtain ⟨locs, hlocs⟩ : ∃ l : List Loc, l = [] := ⟨_, rfl⟩
  have hS : va_S A s.heap H locs := by rw [hH, hlocs]; exact hS
  have hP : va_P G.1 vwCl [(m0, .inr (12, [.int (iI lim), .int (iI fa), .int (iI rf), .int (iI mk), .ref m4, .ref m5, .ref m6, .int (iI nk), .ref m8, .ref m9, .ref m10, .int (iI st), .int (iI wn), .ref m13, .ref m14, .ref m15, .ref m16, .ref m17, .int (iI dn), .int (iI hd), .ref m20, .ref m21, .int (iI md), .int (iI al), .ref m24, .ref m25, .ref m26, .ref m27, .ref m28, .ref m29, .int (iI sd)])), (m24, .inl (gI G, 101, .inl (fun j : Nat => iI (ab (j : Int))))), (m25, .inl (gZ G, 101, .inl (fun j : Nat => iI (tr (j : Int))))), (m26, .inl (gL G, 101, .inr (.inl (fun j : Nat => lI (sv (j : Int)))))), (m27, .inl (gI G, 101, .inl (fun j : Nat => iI (od (j : Int))))), (m28, .inl (gI G, 101, .inl (fun j : Nat => iI (la (j : Int)))))] H := by rw [hH]; exact hP
  suffices hgo : W p l e (rz 0 0) s m [.ref m0, .int (iI i), .int (iI what)].toArray below meth c H locs 0 0 Q (F0 m 0 ls []) by rw [hH, hlocs] at hgo; exact hgo
  have hiX11 : ∀ w ∈ wsX110, w ∈ wsX11_segment := by decide +kernel
  have hw0 := hts (Cond.fieldLink RX11 75 "PlainCobolModel" "fault" "I") (List.mem_of_getElem? (i := 1) rfl)
  have hw1 := hts (Cond.fieldLink RX11 184 "PlainCobolModel" "alive" "I") (List.mem_of_getElem? (i := 2) rfl)
  refine lv_aload_n hx hb dX11_segment_0 rfl (lv_at hl 0 rfl) ?_
  refine lv_iconst (v := iI (0)) hx hb dX11_segment_1 rfl ?_
  refine va_put (D := G.1) (ci := 12) (v := .int (iI 0)) (ty := .int) (C := RX11) (T := TX11) (N := 31) hx hb hts hiX11 tyX11 tyX11_ok nmX11 hown hK hP hD hS 0 rfl rfl 1 (by decide) hw0 (fun _ h9 => h9) rfl (by decide +kernel) rfl rfl (Nat.le_of_ble_eq_true rfl) dX11_segment_2 (fun H locs hP hD hS => ?_)
  have hP : va_P G.1 vwCl [(m0, .inr (12, [.int (iI lim), .int (iI 0), .int (iI rf), .int (iI mk), .ref m4, .ref m5, .ref m6, .int (iI nk), .ref m8, .ref m9, .ref m10, .int (iI st), .int (iI wn), .ref m13, .ref m14, .ref m15, .ref m16, .ref m17, .int (iI dn), .int (iI hd), .ref m20, .ref m21, .int (iI md), .int (iI al), .ref m24, .ref m25, .ref m26, .ref m27, .ref m28, .ref m29, .int (iI sd)])), (m24, .inl (gI G, 101, .inl (fun j : Nat => iI (ab (j : Int))))), (m25, .inl (gZ G, 101, .inl (fun j : Nat => iI (tr (j : Int))))), (m26, .inl (gL G, 101, .inr (.inl (fun j : Nat => lI (sv (j : Int)))))), (m27, .inl (gI G, 101, .inl (fun j : Nat => iI (od (j : Int))))), (m28, .inl (gI G, 101, .inl (fun j : Nat => iI (la (j : Int)))))] H := hP
  have hD : va_D A [(m0, .inr (12, [.int (iI lim), .int (iI 0), .int (iI rf), .int (iI mk), .ref m4, .ref m5, .ref m6, .int (iI nk), .ref m8, .ref m9, .ref m10, .int (iI st), .int (iI wn), .ref m13, .ref m14, .ref m15, .ref m16, .ref m17, .int (iI dn), .int (iI hd), .ref m20, .ref m21, .int (iI md), .int (iI al), .ref m24, .ref m25, .ref m26, .ref m27, .ref m28, .ref m29, .int (iI sd)])), (m24, .inl (gI G, 101, .inl (fun j : Nat => iI (ab (j : Int))))), (m25, .inl (gZ G, 101, .inl (fun j : Nat => iI (tr (j : Int))))), (m26, .inl (gL G, 101, .inr (.inl (fun j : Nat => lI (sv (j : Int)))))), (m27, .inl (gI G, 101, .inl (fun j : Nat => iI (od (j : Int))))), (m28, .inl (gI G, 101, .inl (fun j : Nat => iI (la (j : Int)))))] := hD
  refine lv_iload_n hx hb dX11_segment_5 rfl (lv_at hl 1 rfl) ?_
  refine z_if_lt (tgt := 26) hx hb dX11_segment_6 (by decide) (by omega) (fun c_1 => ?_) (fun c_1 => ?_)
  · skip
    refine lv_iconst (v := iI (-1)) hx hb dX11_segment_26 rfl ?_
    exact hret _ ls H locs dX11_segment_27 hP hD hS
  · skip
    refine lv_iload_n hx hb dX11_segment_9 rfl (lv_at hl 1 rfl) ?_
    refine lv_aload_n hx hb dX11_segment_10 rfl (lv_at hl 0 rfl) ?_
    refine va_get (D := G.1) (ci := 12) (v := .int (iI al)) (C := RX11) (T := TX11) (N := 31) hx hb hts hiX11 hown hK hP 0 rfl rfl 23 (by decide) hw1 (fun _ h9 => h9) rfl dX11_segment_11 ?_
    refine z_icmp_ge (tgt := 26) hx hb dX11_segment_14 (by decide) (by omega) (fun c_2 => ?_) (fun c_2 => ?_)
    · skip
      refine lv_iconst (v := iI (-1)) hx hb dX11_segment_26 rfl ?_
      exact hret _ ls H locs dX11_segment_27 hP hD hS
    · skip
      refine lv_iload_n hx hb dX11_segment_17 rfl (lv_at hl 2 rfl) ?_
      refine z_if_lt (tgt := 26) hx hb dX11_segment_18 (by decide) (by omega) (fun c_3 => ?_) (fun c_3 => ?_)
      · skip
        refine lv_iconst (v := iI (-1)) hx hb dX11_segment_26 rfl ?_
        exact hret _ ls H locs dX11_segment_27 hP hD hS
      · skip
        refine lv_iload_n hx hb dX11_segment_21 rfl (lv_at hl 2 rfl) ?_
        refine lv_iconst (v := iI (4)) hx hb dX11_segment_22 rfl ?_
        refine z_icmp_le (tgt := 28) hx hb dX11_segment_23 (by decide) (by omega) (fun c_4 => ?_) (fun c_4 => ?_)
        · skip
          exfalso; omega
        · skip
          refine lv_iconst (v := iI (-1)) hx hb dX11_segment_26 rfl ?_
          exact hret _ ls H locs dX11_segment_27 hP hD hS

set_option maxHeartbeats 4000000 in
set_option maxRecDepth 100000 in
theorem c_X11_segment_t (l : Launch) (G : Gx) (zz : Nat) (m0 m4 m5 m6 m8 m9 m10 m13 m14 m15 m16 m17 m20 m21 m24 m25 m26 m27 m28 m29 : Nat) (lim fa rf mk nk st wn dn hd md al sd : Int) (ab tr sv od la : Int → Int) (dp : Int → Int) (T : Nat) (i what : Int) (hg : MGV (md, al, ab, tr, sv)) (hlk : LOK ab tr md od la T) (hdp : ∀ q, 1 ≤ q → q ≤ md → (ab q = 0 → dp q = 0) ∧ (ab q ≠ 0 → dp q = dp (ab q) + 1) ∧ 0 ≤ dp q ∧ dp q ≤ 100) (hal : 0 ≤ al ∧ al ≤ 100) (hok : 0 ≤ i ∧ i < al ∧ 0 ≤ what ∧ what ≤ 4) (hod : 1 ≤ ((mnF ab tr md od la T).1 i) ∧ ((mnF ab tr md od la T).1 i) ≤ md) : Ci l yX11_segment wsX11_segment (rz 1 24) G [.ref m0, .int (iI i), .int (iI what)] [(m0, .inr (12, [.int (iI lim), .int (iI fa), .int (iI rf), .int (iI mk), .ref m4, .ref m5, .ref m6, .int (iI nk), .ref m8, .ref m9, .ref m10, .int (iI st), .int (iI wn), .ref m13, .ref m14, .ref m15, .ref m16, .ref m17, .int (iI dn), .int (iI hd), .ref m20, .ref m21, .int (iI md), .int (iI al), .ref m24, .ref m25, .ref m26, .ref m27, .ref m28, .ref m29, .int (iI sd)])), (m24, .inl (gI G, 101, .inl (fun j : Nat => iI (ab (j : Int))))), (m25, .inl (gZ G, 101, .inl (fun j : Nat => iI (tr (j : Int))))), (m26, .inl (gL G, 101, .inr (.inl (fun j : Nat => lI (sv (j : Int)))))), (m27, .inl (gI G, 101, .inl (fun j : Nat => iI (od (j : Int))))), (m28, .inl (gI G, 101, .inl (fun j : Nat => iI (la (j : Int)))))] zz (aSeg (mnF ab tr md od la T).1 ab dp sv al i what) [(m0, .inr (12, [.int (iI lim), .int (iI 0), .int (iI rf), .int (iI mk), .ref m4, .ref m5, .ref m6, .int (iI nk), .ref m8, .ref m9, .ref m10, .int (iI st), .int (iI wn), .ref m13, .ref m14, .ref m15, .ref m16, .ref m17, .int (iI dn), .int (iI hd), .ref m20, .ref m21, .int (iI md), .int (iI al), .ref m24, .ref m25, .ref m26, .ref m27, .ref m28, .ref m29, .int (iI sd)])), (m24, .inl (gI G, 101, .inl (fun j : Nat => iI (ab (j : Int))))), (m25, .inl (gZ G, 101, .inl (fun j : Nat => iI (tr (j : Int))))), (m26, .inl (gL G, 101, .inr (.inl (fun j : Nat => lI (sv (j : Int)))))), (m27, .inl (gI G, 101, .inl (fun j : Nat => iI ((mnF ab tr md od la T).1 (j : Int))))), (m28, .inl (gI G, 101, .inl (fun j : Nat => iI ((mnF ab tr md od la T).2.1 (j : Int)))))] := by
  refine met_i (cc := cX11_segment) (maxL := 6) (ret := (some .int)) (by decide) rfl (Nat.le_of_ble_eq_true rfl) rfl rfl ⟨rfl, rfl⟩ ?_
  intro p e s m below meth c A Q F C hP hD hS hret ls hl
  obtain ⟨hx, hb, hml, hown, hts⟩ := id F
  obtain ⟨hK, hA, hZ, hT, hN⟩ := id C
  have hl : lv_has ls 6 [(0, .ref m0), (1, .int (iI i)), (2, .int (iI what))] := hl
  obtain ⟨H, hH⟩ : ∃ H, H = s.heap := ⟨_, rfl⟩
  obtain ⟨locs, hlocs⟩ : ∃ l : List Loc, l = [] := ⟨_, rfl⟩
  have hS : va_S A s.heap H locs := by rw [hH, hlocs]; exact hS
  have hP : va_P G.1 vwCl [(m0, .inr (12, [.int (iI lim), .int (iI fa), .int (iI rf), .int (iI mk), .ref m4, .ref m5, .ref m6, .int (iI nk), .ref m8, .ref m9, .ref m10, .int (iI st), .int (iI wn), .ref m13, .ref m14, .ref m15, .ref m16, .ref m17, .int (iI dn), .int (iI hd), .ref m20, .ref m21, .int (iI md), .int (iI al), .ref m24, .ref m25, .ref m26, .ref m27, .ref m28, .ref m29, .int (iI sd)])), (m24, .inl (gI G, 101, .inl (fun j : Nat => iI (ab (j : Int))))), (m25, .inl (gZ G, 101, .inl (fun j : Nat => iI (tr (j : Int))))), (m26, .inl (gL G, 101, .inr (.inl (fun j : Nat => lI (sv (j : Int)))))), (m27, .inl (gI G, 101, .inl (fun j : Nat => iI (od (j : Int))))), (m28, .inl (gI G, 101, .inl (fun j : Nat => iI (la (j : Int)))))] H := by rw [hH]; exact hP
  suffices hgo : W p l e (rz 1 24) s m [.ref m0, .int (iI i), .int (iI what)].toArray below meth c H locs 0 0 Q (F0 m 0 ls []) by rw [hH, hlocs] at hgo; exact hgo
  have hiX11 : ∀ w ∈ wsX110, w ∈ wsX11_segment := by decide +kernel
  have hw0 := hts (Cond.fieldLink RX11 75 "PlainCobolModel" "fault" "I") (List.mem_of_getElem? (i := 1) rfl)
  have hw1 := hts (Cond.fieldLink RX11 184 "PlainCobolModel" "alive" "I") (List.mem_of_getElem? (i := 2) rfl)
  have hw2 := hts (Cond.fieldLink RX11 60 "PlainCobolModel" "order" "[I") (List.mem_of_getElem? (i := 3) rfl)
  have hw3 := hts (Cond.fieldLink RX11 50 "PlainCobolModel" "above" "[I") (List.mem_of_getElem? (i := 4) rfl)
  have hw4 := hts (Cond.fieldLink RX11 57 "PlainCobolModel" "holds" "[J") (List.mem_of_getElem? (i := 5) rfl)
  have g1 : 0 ≤ md ∧ md ≤ 100 := hg.1
  have g5 : ∀ j, 1 ≤ j → j ≤ md → 0 ≤ ab j ∧ ab j < j := hg.2.2.2.2
  have hds := hdp ((mnF ab tr md od la T).1 i) hod.1 hod.2
  refine lv_aload_n hx hb dX11_segment_0 rfl (lv_at hl 0 rfl) ?_
  refine lv_iconst (v := iI (0)) hx hb dX11_segment_1 rfl ?_
  refine va_put (D := G.1) (ci := 12) (v := .int (iI 0)) (ty := .int) (C := RX11) (T := TX11) (N := 31) hx hb hts hiX11 tyX11 tyX11_ok nmX11 hown hK hP hD hS 0 rfl rfl 1 (by decide) hw0 (fun _ h9 => h9) rfl (by decide +kernel) rfl rfl (Nat.le_of_ble_eq_true rfl) dX11_segment_2 (fun H locs hP hD hS => ?_)
  have hP : va_P G.1 vwCl [(m0, .inr (12, [.int (iI lim), .int (iI 0), .int (iI rf), .int (iI mk), .ref m4, .ref m5, .ref m6, .int (iI nk), .ref m8, .ref m9, .ref m10, .int (iI st), .int (iI wn), .ref m13, .ref m14, .ref m15, .ref m16, .ref m17, .int (iI dn), .int (iI hd), .ref m20, .ref m21, .int (iI md), .int (iI al), .ref m24, .ref m25, .ref m26, .ref m27, .ref m28, .ref m29, .int (iI sd)])), (m24, .inl (gI G, 101, .inl (fun j : Nat => iI (ab (j : Int))))), (m25, .inl (gZ G, 101, .inl (fun j : Nat => iI (tr (j : Int))))), (m26, .inl (gL G, 101, .inr (.inl (fun j : Nat => lI (sv (j : Int)))))), (m27, .inl (gI G, 101, .inl (fun j : Nat => iI (od (j : Int))))), (m28, .inl (gI G, 101, .inl (fun j : Nat => iI (la (j : Int)))))] H := hP
  have hD : va_D A [(m0, .inr (12, [.int (iI lim), .int (iI 0), .int (iI rf), .int (iI mk), .ref m4, .ref m5, .ref m6, .int (iI nk), .ref m8, .ref m9, .ref m10, .int (iI st), .int (iI wn), .ref m13, .ref m14, .ref m15, .ref m16, .ref m17, .int (iI dn), .int (iI hd), .ref m20, .ref m21, .int (iI md), .int (iI al), .ref m24, .ref m25, .ref m26, .ref m27, .ref m28, .ref m29, .int (iI sd)])), (m24, .inl (gI G, 101, .inl (fun j : Nat => iI (ab (j : Int))))), (m25, .inl (gZ G, 101, .inl (fun j : Nat => iI (tr (j : Int))))), (m26, .inl (gL G, 101, .inr (.inl (fun j : Nat => lI (sv (j : Int)))))), (m27, .inl (gI G, 101, .inl (fun j : Nat => iI (od (j : Int))))), (m28, .inl (gI G, 101, .inl (fun j : Nat => iI (la (j : Int)))))] := hD
  refine lv_iload_n hx hb dX11_segment_5 rfl (lv_at hl 1 rfl) ?_
  refine z_if_lt (tgt := 26) hx hb dX11_segment_6 (by decide) (by omega) (fun c_1 => ?_) (fun c_1 => ?_)
  · skip
    exfalso; omega
  · skip
    refine lv_iload_n hx hb dX11_segment_9 rfl (lv_at hl 1 rfl) ?_
    refine lv_aload_n hx hb dX11_segment_10 rfl (lv_at hl 0 rfl) ?_
    refine va_get (D := G.1) (ci := 12) (v := .int (iI al)) (C := RX11) (T := TX11) (N := 31) hx hb hts hiX11 hown hK hP 0 rfl rfl 23 (by decide) hw1 (fun _ h9 => h9) rfl dX11_segment_11 ?_
    refine z_icmp_ge (tgt := 26) hx hb dX11_segment_14 (by decide) (by omega) (fun c_2 => ?_) (fun c_2 => ?_)
    · skip
      exfalso; omega
    · skip
      refine lv_iload_n hx hb dX11_segment_17 rfl (lv_at hl 2 rfl) ?_
      refine z_if_lt (tgt := 26) hx hb dX11_segment_18 (by decide) (by omega) (fun c_3 => ?_) (fun c_3 => ?_)
      · skip
        exfalso; omega
      · skip
        refine lv_iload_n hx hb dX11_segment_21 rfl (lv_at hl 2 rfl) ?_
        refine lv_iconst (v := iI (4)) hx hb dX11_segment_22 rfl ?_
        refine z_icmp_le (tgt := 28) hx hb dX11_segment_23 (by decide) (by omega) (fun c_4 => ?_) (fun c_4 => ?_)
        · skip
          refine lv_aload_n hx hb dX11_segment_28 rfl (lv_at hl 0 rfl) ?_
          refine z_cVv (As := []) (rest := []) (wc := [(m0, .inr (12, [.int (iI lim), .int (iI 0), .int (iI rf), .int (iI mk), .ref m4, .ref m5, .ref m6, .int (iI nk), .ref m8, .ref m9, .ref m10, .int (iI st), .int (iI wn), .ref m13, .ref m14, .ref m15, .ref m16, .ref m17, .int (iI dn), .int (iI hd), .ref m20, .ref m21, .int (iI md), .int (iI al), .ref m24, .ref m25, .ref m26, .ref m27, .ref m28, .ref m29, .int (iI sd)])), (m24, .inl (gI G, 101, .inl (fun j : Nat => iI (ab (j : Int))))), (m25, .inl (gZ G, 101, .inl (fun j : Nat => iI (tr (j : Int))))), (m26, .inl (gL G, 101, .inr (.inl (fun j : Nat => lI (sv (j : Int)))))), (m27, .inl (gI G, 101, .inl (fun j : Nat => iI (od (j : Int))))), (m28, .inl (gI G, 101, .inl (fun j : Nat => iI (la (j : Int)))))]) (wr := []) (wn := [(m0, .inr (12, [.int (iI lim), .int (iI 0), .int (iI rf), .int (iI mk), .ref m4, .ref m5, .ref m6, .int (iI nk), .ref m8, .ref m9, .ref m10, .int (iI st), .int (iI wn), .ref m13, .ref m14, .ref m15, .ref m16, .ref m17, .int (iI dn), .int (iI hd), .ref m20, .ref m21, .int (iI md), .int (iI al), .ref m24, .ref m25, .ref m26, .ref m27, .ref m28, .ref m29, .int (iI sd)])), (m24, .inl (gI G, 101, .inl (fun j : Nat => iI (ab (j : Int))))), (m25, .inl (gZ G, 101, .inl (fun j : Nat => iI (tr (j : Int))))), (m26, .inl (gL G, 101, .inr (.inl (fun j : Nat => lI (sv (j : Int)))))), (m27, .inl (gI G, 101, .inl (fun j : Nat => iI ((mnF ab tr md od la T).1 (j : Int))))), (m28, .inl (gI G, 101, .inl (fun j : Nat => iI ((mnF ab tr md od la T).2.1 (j : Int)))))]) F C (c_X11_lay l G H.size m0 m4 m5 m6 m8 m9 m10 m13 m14 m15 m16 m17 m20 m21 m24 m25 m26 m27 m28 m29 lim 0 rf mk nk st wn dn hd md al sd ab tr sv od la T (hg) (hlk)) (cwV 0 hts gX11_segment_X11_lay rfl rfl rfl (by decide +kernel) (by decide)) hP hD hS (q0 := 0) rfl rfl rfl [0, 1, 2, 3, 4, 5] [] rfl rfl (by decide) rfl rfl hl.1 rfl (Nat.le_of_ble_eq_true rfl) dX11_segment_29 (by decide) (fun H locs hP hD hS => ?_)
          refine lv_aload_n hx hb dX11_segment_32 rfl (lv_at hl 0 rfl) ?_
          refine va_get (D := G.1) (ci := 12) (v := .ref m27) (C := RX11) (T := TX11) (N := 31) hx hb hts hiX11 hown hK hP 0 rfl rfl 27 (by decide) hw2 (fun _ h9 => h9) rfl dX11_segment_33 ?_
          refine lv_iload_n hx hb dX11_segment_36 rfl (lv_at hl 1 rfl) ?_
          refine z_iald hx hb hK hP 4 0 rfl rfl (by omega) dX11_segment_37 ?_
          refine lv_istore_n (lv' := [(3, .int (iI ((mnF ab tr md od la T).1 i))), (0, .ref m0), (1, .int (iI i)), (2, .int (iI what))]) hx hb dX11_segment_38 rfl hl (by decide) rfl (fun ls hl => ?_)
          refine lv_iconst (v := iI (0)) hx hb dX11_segment_39 rfl ?_
          refine lv_istore (lv' := [(4, .int (iI 0)), (3, .int (iI ((mnF ab tr md od la T).1 i))), (0, .ref m0), (1, .int (iI i)), (2, .int (iI what))]) hx hb dX11_segment_40 hl (by decide) rfl (fun ls hl => ?_)
          refine lv_aload_n hx hb dX11_segment_42 rfl (lv_at hl 2 rfl) ?_
          refine va_get (D := G.1) (ci := 12) (v := .ref m24) (C := RX11) (T := TX11) (N := 31) hx hb hts hiX11 hown hK hP 0 rfl rfl 24 (by decide) hw3 (fun _ h9 => h9) rfl dX11_segment_43 ?_
          refine lv_iload_n hx hb dX11_segment_46 rfl (lv_at hl 1 rfl) ?_
          refine z_iald hx hb hK hP 1 0 rfl rfl (by omega) dX11_segment_47 ?_
          refine lv_istore (lv' := [(5, .int (iI (ab ((mnF ab tr md od la T).1 i)))), (4, .int (iI 0)), (3, .int (iI ((mnF ab tr md od la T).1 i))), (0, .ref m0), (1, .int (iI i)), (2, .int (iI what))]) hx hb dX11_segment_48 hl (by decide) rfl (fun ls hl => ?_)
          have loop50 : ∀ (N : Nat) (y d9 : Int) (H : Heap) (locs : List Loc) (ls : Array Slot), (y.toNat) < N → (0 ≤ y ∧ y ≤ md ∧ 0 ≤ d9 ∧ d9 ≤ 200) → ((y = 0 → d9 = dp ((mnF ab tr md od la T).1 i)) ∧ (1 ≤ y → d9 + dp y + 1 = dp ((mnF ab tr md od la T).1 i))) → va_P G.1 vwCl [(m0, .inr (12, [.int (iI lim), .int (iI 0), .int (iI rf), .int (iI mk), .ref m4, .ref m5, .ref m6, .int (iI nk), .ref m8, .ref m9, .ref m10, .int (iI st), .int (iI wn), .ref m13, .ref m14, .ref m15, .ref m16, .ref m17, .int (iI dn), .int (iI hd), .ref m20, .ref m21, .int (iI md), .int (iI al), .ref m24, .ref m25, .ref m26, .ref m27, .ref m28, .ref m29, .int (iI sd)])), (m24, .inl (gI G, 101, .inl (fun j : Nat => iI (ab (j : Int))))), (m25, .inl (gZ G, 101, .inl (fun j : Nat => iI (tr (j : Int))))), (m26, .inl (gL G, 101, .inr (.inl (fun j : Nat => lI (sv (j : Int)))))), (m27, .inl (gI G, 101, .inl (fun j : Nat => iI ((mnF ab tr md od la T).1 (j : Int))))), (m28, .inl (gI G, 101, .inl (fun j : Nat => iI ((mnF ab tr md od la T).2.1 (j : Int)))))] H → va_D A [(m0, .inr (12, [.int (iI lim), .int (iI 0), .int (iI rf), .int (iI mk), .ref m4, .ref m5, .ref m6, .int (iI nk), .ref m8, .ref m9, .ref m10, .int (iI st), .int (iI wn), .ref m13, .ref m14, .ref m15, .ref m16, .ref m17, .int (iI dn), .int (iI hd), .ref m20, .ref m21, .int (iI md), .int (iI al), .ref m24, .ref m25, .ref m26, .ref m27, .ref m28, .ref m29, .int (iI sd)])), (m24, .inl (gI G, 101, .inl (fun j : Nat => iI (ab (j : Int))))), (m25, .inl (gZ G, 101, .inl (fun j : Nat => iI (tr (j : Int))))), (m26, .inl (gL G, 101, .inr (.inl (fun j : Nat => lI (sv (j : Int)))))), (m27, .inl (gI G, 101, .inl (fun j : Nat => iI ((mnF ab tr md od la T).1 (j : Int))))), (m28, .inl (gI G, 101, .inl (fun j : Nat => iI ((mnF ab tr md od la T).2.1 (j : Int)))))] → va_S A s.heap H locs → lv_has ls 6 [(0, .ref m0), (1, .int (iI i)), (2, .int (iI what)), (3, .int (iI ((mnF ab tr md od la T).1 i))), (4, .int (iI d9)), (5, .int (iI y))] → W p l e (rz 1 24) s m [.ref m0, .int (iI i), .int (iI what)].toArray below meth c H locs 0 0 Q (F0 m 50 ls []) := by
            intro N
            induction N with
            | zero => intro y d9 H locs ls hm; exact absurd hm (Nat.not_lt_zero _)
            | succ N ih50 =>
              intro y d9 H locs ls hm jy jd hP hD hS hl
              refine lv_iload hx hb dX11_segment_50 (lv_at hl 5 rfl) ?_
              refine z_if_le (tgt := 70) hx hb dX11_segment_52 (by decide) (by omega) (fun c_5 => ?_) (fun c_5 => ?_)
              · skip
                refine lv_iload_n hx hb dX11_segment_70 rfl (lv_at hl 2 rfl) ?_
                refine z_if_ne (tgt := 78) hx hb dX11_segment_71 (by decide) (by omega) (fun c_6 => ?_) (fun c_6 => ?_)
                · skip
                  refine lv_iload_n hx hb dX11_segment_78 rfl (lv_at hl 2 rfl) ?_
                  refine lv_iconst (v := iI (1)) hx hb dX11_segment_79 rfl ?_
                  refine z_icmp_ne (tgt := 92) hx hb dX11_segment_80 (by decide) (by omega) (fun c_7 => ?_) (fun c_7 => ?_)
                  · skip
                    refine lv_iload_n hx hb dX11_segment_92 rfl (lv_at hl 2 rfl) ?_
                    refine lv_iconst (v := iI (2)) hx hb dX11_segment_93 rfl ?_
                    refine z_icmp_ne (tgt := 102) hx hb dX11_segment_94 (by decide) (by omega) (fun c_8 => ?_) (fun c_8 => ?_)
                    · skip
                      refine lv_iload_n hx hb dX11_segment_102 rfl (lv_at hl 2 rfl) ?_
                      refine lv_iconst (v := iI (3)) hx hb dX11_segment_103 rfl ?_
                      refine z_icmp_ne (tgt := 116) hx hb dX11_segment_104 (by decide) (by omega) (fun c_9 => ?_) (fun c_9 => ?_)
                      · skip
                        refine lv_aload_n hx hb dX11_segment_116 rfl (lv_at hl 0 rfl) ?_
                        refine va_get (D := G.1) (ci := 12) (v := .ref m26) (C := RX11) (T := TX11) (N := 31) hx hb hts hiX11 hown hK hP 0 rfl rfl 26 (by decide) hw4 (fun _ h9 => h9) rfl dX11_segment_117 ?_
                        refine lv_iload_n hx hb dX11_segment_120 rfl (lv_at hl 3 rfl) ?_
                        refine z_lald hx hb hK hP 3 1 rfl rfl (by omega) dX11_segment_121 ?_
                        refine lv_bipush (v := iI (32)) hx hb dX11_segment_122 (by decide) ?_
                        refine z_lshr hx hb dX11_segment_124 ?_
                        refine z_l2i hx hb dX11_segment_125 ?_
                        have r_10 : ((shrI (sv ((mnF ab tr md od la T).1 i)) 32) : Int) = (aSeg (mnF ab tr md od la T).1 ab dp sv al i what) := by first | (unfold aSeg; (repeat (first | rw [if_pos (by omega)] | rw [if_neg (by omega)])); done) | (unfold aSeg; (repeat (first | rw [if_pos (by omega)] | rw [if_neg (by omega)])); omega)
                        rw [r_10]
                        exact hret _ ls H locs dX11_segment_126 hP hD hS
                      · skip
                        refine lv_aload_n hx hb dX11_segment_107 rfl (lv_at hl 0 rfl) ?_
                        refine va_get (D := G.1) (ci := 12) (v := .ref m26) (C := RX11) (T := TX11) (N := 31) hx hb hts hiX11 hown hK hP 0 rfl rfl 26 (by decide) hw4 (fun _ h9 => h9) rfl dX11_segment_108 ?_
                        refine lv_iload_n hx hb dX11_segment_111 rfl (lv_at hl 3 rfl) ?_
                        refine z_lald hx hb hK hP 3 1 rfl rfl (by omega) dX11_segment_112 ?_
                        refine lv_goto (tgt := 125) hx hb dX11_segment_113 (by decide) ?_
                        refine z_l2i hx hb dX11_segment_125 ?_
                        have r_11 : ((sv ((mnF ab tr md od la T).1 i)) : Int) = (aSeg (mnF ab tr md od la T).1 ab dp sv al i what) := by first | (unfold aSeg; (repeat (first | rw [if_pos (by omega)] | rw [if_neg (by omega)])); done) | (unfold aSeg; (repeat (first | rw [if_pos (by omega)] | rw [if_neg (by omega)])); omega)
                        rw [r_11]
                        exact hret _ ls H locs dX11_segment_126 hP hD hS
                    · skip
                      refine lv_iload hx hb dX11_segment_97 (lv_at hl 4 rfl) ?_
                      refine lv_goto (tgt := 126) hx hb dX11_segment_99 (by decide) ?_
                      have r_12 : (d9 : Int) = (aSeg (mnF ab tr md od la T).1 ab dp sv al i what) := by first | (unfold aSeg; (repeat (first | rw [if_pos (by omega)] | rw [if_neg (by omega)])); done) | (unfold aSeg; (repeat (first | rw [if_pos (by omega)] | rw [if_neg (by omega)])); omega)
                      rw [r_12]
                      exact hret _ ls H locs dX11_segment_126 hP hD hS
                  · skip
                    refine lv_aload_n hx hb dX11_segment_83 rfl (lv_at hl 0 rfl) ?_
                    refine va_get (D := G.1) (ci := 12) (v := .ref m24) (C := RX11) (T := TX11) (N := 31) hx hb hts hiX11 hown hK hP 0 rfl rfl 24 (by decide) hw3 (fun _ h9 => h9) rfl dX11_segment_84 ?_
                    refine lv_iload_n hx hb dX11_segment_87 rfl (lv_at hl 3 rfl) ?_
                    refine z_iald hx hb hK hP 1 0 rfl rfl (by omega) dX11_segment_88 ?_
                    refine lv_goto (tgt := 126) hx hb dX11_segment_89 (by decide) ?_
                    have r_13 : ((ab ((mnF ab tr md od la T).1 i)) : Int) = (aSeg (mnF ab tr md od la T).1 ab dp sv al i what) := by first | (unfold aSeg; (repeat (first | rw [if_pos (by omega)] | rw [if_neg (by omega)])); done) | (unfold aSeg; (repeat (first | rw [if_pos (by omega)] | rw [if_neg (by omega)])); omega)
                    rw [r_13]
                    exact hret _ ls H locs dX11_segment_126 hP hD hS
                · skip
                  refine lv_iload_n hx hb dX11_segment_74 rfl (lv_at hl 3 rfl) ?_
                  refine lv_goto (tgt := 126) hx hb dX11_segment_75 (by decide) ?_
                  have r_14 : (((mnF ab tr md od la T).1 i) : Int) = (aSeg (mnF ab tr md od la T).1 ab dp sv al i what) := by first | (unfold aSeg; (repeat (first | rw [if_pos (by omega)] | rw [if_neg (by omega)])); done) | (unfold aSeg; (repeat (first | rw [if_pos (by omega)] | rw [if_neg (by omega)])); omega)
                  rw [r_14]
                  exact hret _ ls H locs dX11_segment_126 hP hD hS
              · skip
                have hyq := hdp y (by omega) (by omega)
                have hyg := g5 y (by omega) (by omega)
                refine lv_iinc (v := iI (d9 + 1)) (lv' := [(4, .int (iI (d9 + 1))), (0, .ref m0), (1, .int (iI i)), (2, .int (iI what)), (3, .int (iI ((mnF ab tr md od la T).1 i))), (5, .int (iI y))]) hx hb dX11_segment_55 hl (k := 4) rfl (iI_add d9 (1)) (by decide) rfl (fun ls hl => ?_)
                refine lv_aload_n hx hb dX11_segment_58 rfl (lv_at hl 1 rfl) ?_
                refine va_get (D := G.1) (ci := 12) (v := .ref m24) (C := RX11) (T := TX11) (N := 31) hx hb hts hiX11 hown hK hP 0 rfl rfl 24 (by decide) hw3 (fun _ h9 => h9) rfl dX11_segment_59 ?_
                refine lv_iload hx hb dX11_segment_62 (lv_at hl 5 rfl) ?_
                refine z_iald hx hb hK hP 1 0 rfl rfl (by omega) dX11_segment_64 ?_
                refine lv_istore (lv' := [(5, .int (iI (ab y))), (4, .int (iI (d9 + 1))), (0, .ref m0), (1, .int (iI i)), (2, .int (iI what)), (3, .int (iI ((mnF ab tr md od la T).1 i)))]) hx hb dX11_segment_65 hl (by decide) rfl (fun ls hl => ?_)
                refine lv_goto (tgt := 50) hx hb dX11_segment_67 (by decide) ?_
                exact ih50 (ab y) (d9 + 1) H locs ls (by omega) (by omega) (by omega) hP hD hS (lv_sub hl [2, 3, 4, 5, 1, 0] rfl)
          exact loop50 _ (ab ((mnF ab tr md od la T).1 i)) 0 H locs ls (Nat.lt_succ_self _) (by have := g5 ((mnF ab tr md od la T).1 i) hod.1 hod.2; omega) (by have := g5 ((mnF ab tr md od la T).1 i) hod.1 hod.2; omega) hP hD hS (lv_sub hl [3, 4, 5, 2, 1, 0] rfl)
        · skip
          exfalso; omega

