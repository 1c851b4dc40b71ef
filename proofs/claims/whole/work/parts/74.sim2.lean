/-! the acts of a walk may be done; cells that are none stay -/
abbrev AVm (ds wh wa : Int → Int) (k : Int) : Prop := ∀ j, 0 ≤ j → j < k → okA (ds j) (wh j) (wa j)
theorem code_r {a b : Int} (ha : 0 ≤ a ∧ a ≤ 4) (hb : 0 ≤ b ∧ b < 4000000) : (0 ≤ a * 4000000 + b ∧ a * 4000000 + b < 20000000) ∧ kOf (a * 4000000 + b) = a ∧ tOf (a * 4000000 + b) = b := by
  have h1 : Int.tdiv (a * 4000000 + b) 4000000 = (a * 4000000 + b) / 4000000 := Int.tdiv_eq_ediv_of_nonneg (by omega)
  have h2 : Int.tmod (a * 4000000 + b) 4000000 = (a * 4000000 + b) % 4000000 := Int.tmod_eq_emod_of_nonneg (by omega)
  unfold kOf tOf
  omega
theorem AV_of {co ve ds wh wa : Int → Int} {k : Int} (h : AVm ds wh wa k) (hc : AC co ve ds wh wa k) : ∀ j, 0 ≤ j → j < k → (0 ≤ co j ∧ co j < 20000000) ∧ okA (kOf (co j)) (tOf (co j)) (ve j) ∧ kOf (co j) = ds j ∧ tOf (co j) = wh j ∧ ve j = wa j := by
  intro j a b
  have h1 := h j a b
  obtain ⟨c1, c2⟩ := hc j a b
  obtain ⟨r1, r2, r3⟩ := code_r h1.1 h1.2.1
  rw [← c1] at r1 r2 r3
  refine ⟨r1, ?_, r2, r3, c2⟩
  rw [r2, r3, c2]; exact h1
theorem plc_add {pl i : Int} (h : PLC pl) (hi : 0 ≤ i) (h2 : Int.tmod pl 100 + i ≤ 80) : PLC (pl + i) := by
  have e1 : Int.tmod pl 100 = pl % 100 := Int.tmod_eq_emod_of_nonneg (by omega)
  have e2 : Int.tmod (pl + i) 100 = (pl + i) % 100 := Int.tmod_eq_emod_of_nonneg (by omega)
  unfold PLC at *
  rw [e1] at h h2
  rw [e2]
  omega
theorem AVm_bm {sz ki fi se : Int → Int} {n mk : Int} {va ds wh wa ho pi : Int → Int} {wn : Int} (hN : NV1 ki fi se mk n) (hC : CV sz va mk) (hk : 0 ≤ ho 0 ∧ ho 0 ≤ 1000) (h : AVm ds wh wa (ho 0)) :
    AVm (bm sz ki fi se n va ds wh wa ho pi wn).2.2.1 (bm sz ki fi se n va ds wh wa ho pi wn).2.2.2.1 (bm sz ki fi se n va ds wh wa ho pi wn).2.2.2.2.1 ((bm sz ki fi se n va ds wh wa ho pi wn).2.2.2.2.2.1 0) := by
  obtain ⟨n1, n2, n3, n4, n5, n6⟩ := hN
  unfold bm
  by_cases c1 : ki n = 1
  · simp only [if_pos c1]; exact h
  simp only [if_neg c1]
  by_cases c2 : ki n = 2
  · simp only [if_pos c2]; exact h
  simp only [if_neg c2]
  by_cases c3 : ki n = 3
  · simp only [if_pos c3]; exact h
  simp only [if_neg c3]
  by_cases c4 : ki n = 4
  · simp only [if_pos c4]; exact h
  simp only [if_neg c4]
  by_cases c5 : ki n = 5
  · simp only [if_pos c5]; exact h
  simp only [if_neg c5]
  by_cases c6 : ki n = 6
  · simp only [if_pos c6]; exact h
  simp only [if_neg c6]
  by_cases c7 : ki n = 7
  · simp only [if_pos c7]; exact h
  simp only [if_neg c7]
  by_cases c8 : ki n = 8
  · simp only [if_pos c8]; exact h
  simp only [if_neg c8]
  by_cases c9 : ki n = 9
  · simp only [if_pos c9]
    have qa := n2 (by omega) (by omega) (by omega)
    have qb := n6 c9
    have qv := hC _ qa.1 qa.2
    have qn := neg1_r (va (fi n))
    have hd : dlen sz va (fi n) (se n) = min (neg1 (va (fi n)) + sz (fi n)) (81 - Int.tmod (se n) 100) := rfl
    have hp : dpN 1000 (ho 0) (dlen sz va (fi n) (se n)) = min (dlen sz va (fi n) (se n)) (1000 - ho 0) := rfl
    rw [uF_s]
    intro j a b
    unfold flF
    by_cases hc : ho 0 ≤ j ∧ j < ho 0 + dpN 1000 (ho 0) (dlen sz va (fi n) (se n))
    · rw [if_pos hc, if_pos hc, if_pos hc]
      dsimp only
      have hpl := plc_add (pl := se n) (i := j - ho 0) ⟨qb.1, qb.2.1, qb.2.2.1, qb.2.2.2⟩ (by omega) (by omega)
      have hs := sgn_r sz va (fi n) (j - ho 0) (by omega) (by omega)
      refine ⟨by omega, by omega, by omega, fun q => by omega, fun q => by omega, fun _ => ⟨hpl, by omega⟩⟩
    · rw [if_neg hc, if_neg hc, if_neg hc]; exact h j a (by omega)
  simp only [if_neg c9]
  by_cases c10 : ki n = 10
  · simp only [if_pos c10]
    have qa := n2 (by omega) (by omega) (by omega)
    have qb := n4 (Or.inr c10)
    have qv := hC _ qb.1 qb.2
    have qp := pw_rng (i := sz (se n)) (by omega)
    rw [uF_s]
    unfold soF soK
    by_cases c : 0 ≤ va (fi n) ∧ va (fi n) < 1000000
    · rw [if_pos c, if_pos c, if_pos c, if_pos c]
      unfold addF addN
      by_cases cc : ho 0 < 1000
      · rw [if_pos cc, if_pos cc, if_pos cc, if_pos cc]
        intro j a b
        by_cases hj : j = ho 0
        · rw [hj, uF_s, uF_s, uF_s]; exact ⟨by omega, by omega, by omega, fun q => by omega, fun q => by omega, fun q => by omega⟩
        · rw [uF_n _ _ hj, uF_n _ _ hj, uF_n _ _ hj]; exact h j a (by omega)
      · rw [if_neg cc, if_neg cc, if_neg cc, if_neg cc]; exact h
    · rw [if_neg c, if_neg c, if_neg c, if_neg c]; exact h
  simp only [if_neg c10]
  by_cases c12 : ki n = 12
  · simp only [if_pos c12]; exact h
  simp only [if_neg c12]; exact h
/-- cells that are none stay as they were -/
abbrev OUT (va vb : Int → Int) (mk : Int) : Prop := ∀ j, ¬ (1 ≤ j ∧ j ≤ mk) → vb j = va j
theorem OUT_set {va vb : Int → Int} {mk n v : Int} (h : OUT va vb mk) (hn : 1 ≤ n ∧ n ≤ mk) : OUT va (uF vb n v) mk := fun j hj => by
  rw [uF_n _ _ (by omega)]; exact h j hj
theorem OUT_bm {sz ki fi se : Int → Int} {n mk : Int} {v0 va ds wh wa ho pi : Int → Int} {wn : Int} (hN : NV1 ki fi se mk n) (h : OUT v0 va mk) : OUT v0 (bm sz ki fi se n va ds wh wa ho pi wn).2.1 mk := by
  obtain ⟨n1, n2, n3, n4, n5, n6⟩ := hN
  have hb : ∀ v, (1 ≤ se n ∧ se n ≤ mk) → OUT v0 (beV sz va (se n) v) mk := fun v q => by unfold beV; split; exact h; exact OUT_set h q
  unfold bm
  by_cases c1 : ki n = 1
  · simp only [if_pos c1]; exact OUT_set h (n4 (Or.inl (by omega)))
  simp only [if_neg c1]
  by_cases c2 : ki n = 2
  · simp only [if_pos c2]; exact hb _ (n4 (Or.inl (by omega)))
  simp only [if_neg c2]
  by_cases c3 : ki n = 3
  · simp only [if_pos c3]; exact hb _ (n4 (Or.inl (by omega)))
  simp only [if_neg c3]
  by_cases c4 : ki n = 4
  · simp only [if_pos c4]; unfold muV; split; exact h; exact hb _ (n4 (Or.inl (by omega)))
  simp only [if_neg c4]
  by_cases c5 : ki n = 5
  · simp only [if_pos c5]; unfold diV; split; exact h; exact hb _ (n4 (Or.inl (by omega)))
  simp only [if_neg c5]
  by_cases c6 : ki n = 6
  · simp only [if_pos c6]; exact h
  simp only [if_neg c6]
  by_cases c7 : ki n = 7
  · simp only [if_pos c7]; exact h
  simp only [if_neg c7]
  by_cases c8 : ki n = 8
  · simp only [if_pos c8]; exact h
  simp only [if_neg c8]
  by_cases c9 : ki n = 9
  · simp only [if_pos c9]; exact h
  simp only [if_neg c9]
  by_cases c10 : ki n = 10
  · simp only [if_pos c10]; exact h
  simp only [if_neg c10]
  by_cases c12 : ki n = 12
  · simp only [if_pos c12]; exact h
  simp only [if_neg c12]; exact h
def MOK (sz ki v0 : Int → Int) (mk rt lim : Int) (y : Int × MSt) : Prop := CV sz y.2.1 mk ∧ PV ki y.2.2.2.2.2.2.1 rt y.2.2.2.2.2.2.2.1 ∧ (0 ≤ y.2.2.2.2.2.1 0 ∧ y.2.2.2.2.2.1 0 ≤ 1000) ∧ (0 ≤ y.2.2.2.2.2.2.2.2 ∧ y.2.2.2.2.2.2.2.2 ≤ lim) ∧ 0 ≤ y.2.2.2.2.2.2.2.1 ∧ (0 ≤ y.1 ∧ y.1 ≤ 2) ∧ AVm y.2.2.1 y.2.2.2.1 y.2.2.2.2.1 (y.2.2.2.2.2.1 0) ∧ OUT v0 y.2.1 mk
theorem MOK_it {sz ki fi se v0 : Int → Int} {lim mk nk rt : Int} (hN : NV ki fi se mk nk) (hrt : rt ≤ nk) : ∀ (n : Nat) (y : Int × MSt), MOK sz ki v0 mk rt lim y → MOK sz ki v0 mk rt lim (itM sz ki fi se lim n y)
  | 0, y, h => h
  | n + 1, y, h => by
    unfold itM
    by_cases c : 0 < y.2.2.2.2.2.2.2.1 ∧ y.1 = 1
    · rw [if_pos c]
      refine MOK_it hN hrt n _ ?_
      obtain ⟨h1, h2, h3, h4, h5, h6, h7, h8⟩ := h
      obtain ⟨o, va, ds, wh, wa, ho, pi, wn, st⟩ := y
      dsimp only at *
      have hi := stpM_inv (ds := ds) (wh := wh) (wa := wa) hN h1 h2 h3 h4 c.1 hrt
      obtain ⟨i1, i2, i3, i4, i5, i6, i7⟩ := hi
      refine ⟨i1, i2, i3, i4, i5, i7, ?_, ?_⟩
      · unfold stpM
        have jt := h2 (wn - 1) (by omega) (by omega)
        by_cases c1 : 0 < pi (wn - 1)
        · simp only [if_pos c1]
          by_cases c2 : st < lim
          · simp only [if_pos c2]; exact AVm_bm (hN _ (by omega) (by omega)) h1 h3 h7
          · simp only [if_neg c2]; exact h7
        · simp only [if_neg c1]
          by_cases c2 : va (fi (-pi (wn - 1))) = 0
          · simp only [if_pos c2]; exact h7
          · simp only [if_neg c2]; exact h7
      · unfold stpM
        have jt := h2 (wn - 1) (by omega) (by omega)
        by_cases c1 : 0 < pi (wn - 1)
        · simp only [if_pos c1]
          by_cases c2 : st < lim
          · simp only [if_pos c2]; exact OUT_bm (hN _ (by omega) (by omega)) h8
          · simp only [if_neg c2]; exact h8
        · simp only [if_neg c1]
          by_cases c2 : va (fi (-pi (wn - 1))) = 0
          · simp only [if_pos c2]; exact h8
          · simp only [if_neg c2]; exact h8
    · rw [if_neg c]; exact h
/-- ALL OF A RUN: both walks, from agreeing starts -/
theorem run_sim {sz ki fi se : Int → Int} {lim mk nk rt : Int} {va co ve wt ds wh wa ho pi : Int → Int} (hN : NV ki fi se mk nk) (hrt : 1 ≤ rt ∧ rt ≤ nk) (hlim : 1 ≤ lim) (hC : CV sz va mk) :
    SimR (itw sz ki fi se lim 20000 (1, va, co, ve, 0, uF wt 0 rt, 0 + 1, 0)) (itM sz ki fi se lim 20000 (1, va, ds, wh, wa, uF ho 0 0, uF pi 0 rt, 0 + 1, 0)) ∧
    WOK sz ki mk rt lim (itw sz ki fi se lim 20000 (1, va, co, ve, 0, uF wt 0 rt, 0 + 1, 0)) ∧ MOK sz ki va mk rt lim (itM sz ki fi se lim 20000 (1, va, ds, wh, wa, uF ho 0 0, uF pi 0 rt, 0 + 1, 0)) := by
  have hpv : ∀ f : Int → Int, PV ki (uF f 0 rt) rt (0 + 1) := fun f j h0 h1 => by left; rw [show j = 0 by omega, uF_s]; omega
  obtain ⟨s1, s2⟩ := sim_it (lim := lim) hN hrt.2 20000 (1, va, co, ve, 0, uF wt 0 rt, 0 + 1, 0) (1, va, ds, wh, wa, uF ho 0 0, uF pi 0 rt, 0 + 1, 0)
    ⟨rfl, rfl, rfl, fun _ => ⟨rfl, fun j h0 h1 => by dsimp only; rw [show j = 0 by dsimp only at h1; omega, uF_s, uF_s], (by dsimp only; rw [uF_s]), fun j h0 h1 => by dsimp only at h1; omega⟩⟩ ⟨hC, hpv _, by dsimp only; omega, by dsimp only; omega, by dsimp only; omega⟩
  refine ⟨s1, s2, MOK_it hN hrt.2 20000 _ ⟨hC, hpv _, by dsimp only; rw [uF_s]; omega, by dsimp only; omega, by dsimp only; omega, by dsimp only; omega, fun j h0 h1 => by dsimp only at h1; rw [uF_s] at h1; omega, fun _ _ => rfl⟩⟩
/-- what was not tried is as before, on both sides -/
theorem back_c {va fva ke : Int → Int} {mk : Int} (h : OUT va fva mk) (hm : 0 ≤ mk ∧ mk ≤ 60) : cF (cF va ke 0 0 61) fva 0 0 61 = va := by
  funext j
  unfold cF
  by_cases c : 0 ≤ j ∧ j < 0 + 61
  · rw [if_pos c, if_pos (by omega)]; congr 1; omega
  · rw [if_neg c]; exact h j (by omega)
theorem back_m {va fva be : Int → Int} {mk : Int} (h : OUT va fva mk) (hm : 0 ≤ mk ∧ mk ≤ 60) : cF (cF va be 1 1 mk) fva 1 1 mk = va := by
  funext j
  unfold cF
  by_cases c : 1 ≤ j ∧ j < 1 + mk
  · rw [if_pos c, if_pos (by omega)]; congr 1; omega
  · rw [if_neg c]; exact h j (by omega)
