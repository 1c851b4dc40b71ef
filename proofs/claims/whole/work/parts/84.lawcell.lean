set_option maxHeartbeats 4000000 in
set_option maxRecDepth 100000 in
theorem c_L_cell (l : Launch) (G : Gx) (zz : Nat) (q0 LL : Nat) (xs : Int → Int) (i : Int) (hL : (LL : Int) < 2147483648) (h1 : 0 ≤ i ∧ i < 2147483648) : Ci l yL_cell wsL_cell (rz 0 0) G [.ref q0, .int (iI i)] [(q0, .inl (gI G, LL, .inl (fun j : Nat => iI (xs (j : Int)))))] zz (if i < (LL : Int) then xs i else 0) [(q0, .inl (gI G, LL, .inl (fun j : Nat => iI (xs (j : Int)))))] := by
  refine met_i (cc := cL_cell) (maxL := 2) (ret := (some .int)) (by decide) rfl (Nat.le_of_ble_eq_true rfl) rfl rfl ⟨rfl, rfl⟩ ?_
  intro p e s m below meth c A Q F C hP hD hS hret ls hl
  obtain ⟨hx, hb, hml, hown, hts⟩ := id F
  obtain ⟨hK, hA, hZ, hT, hN⟩ := id C
  have hl : lv_has ls 2 [(0, .ref q0), (1, .int (iI i))] := hl
  obtain ⟨H, hH⟩ : ∃ H, H = s.heap := ⟨_, rfl⟩
  obtain ⟨locs, hlocs⟩ : ∃ l : List Loc, l = [] := ⟨_, rfl⟩
  have hS : va_S A s.heap H locs := by rw [hH, hlocs]; exact hS
  have hP : va_P G.1 vwCl [(q0, .inl (gI G, LL, .inl (fun j : Nat => iI (xs (j : Int)))))] H := by rw [hH]; exact hP
  suffices hgo : W p l e (rz 0 0) s m [.ref q0, .int (iI i)].toArray below meth c H locs 0 0 Q (F0 m 0 ls []) by rw [hH, hlocs] at hgo; exact hgo
  refine lv_iload_n hx hb dL_cell_0 rfl (lv_at hl 1 rfl) ?_
  refine lv_aload_n hx hb dL_cell_1 rfl (lv_at hl 0 rfl) ?_
  refine z_alen hx hb hK hP 0 0 rfl rfl dL_cell_2 ?_
  refine z_top (w := .int (iI LL)) rfl ?_
  refine z_icmp_ge (tgt := 12) hx hb dL_cell_3 (by decide) (by omega) (fun c_1 => ?_) (fun c_1 => ?_)
  · skip
    refine lv_iconst (v := iI (0)) hx hb dL_cell_12 rfl ?_
    have r_2 : (0 : Int) = (if i < (LL : Int) then xs i else 0) := by first | exact (if_pos (by omega)).symm | exact (if_neg (by omega)).symm
    rw [r_2]
    exact hret _ ls H locs dL_cell_13 hP hD hS
  · skip
    refine lv_aload_n hx hb dL_cell_6 rfl (lv_at hl 0 rfl) ?_
    refine lv_iload_n hx hb dL_cell_7 rfl (lv_at hl 1 rfl) ?_
    refine z_iald hx hb hK hP 0 0 rfl rfl (by omega) dL_cell_8 ?_
    refine lv_goto (tgt := 13) hx hb dL_cell_9 (by decide) ?_
    have r_3 : ((xs i) : Int) = (if i < (LL : Int) then xs i else 0) := by first | exact (if_pos (by omega)).symm | exact (if_neg (by omega)).symm
    rw [r_3]
    exact hret _ ls H locs dL_cell_13 hP hD hS

