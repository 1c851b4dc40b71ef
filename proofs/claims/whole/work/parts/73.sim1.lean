/-! class and reference walk alike -/
abbrev AG (wt pi : Int → Int) (h : Int) : Prop := ∀ j, 0 ≤ j → j < h → wt j = pi j
abbrev AC (co ve ds wh wa : Int → Int) (k : Int) : Prop := ∀ j, 0 ≤ j → j < k → co j = ds j * 4000000 + wh j ∧ ve j = wa j
theorem AG_push {wt pi : Int → Int} {h x : Int} (a : AG wt pi h) : AG (uF wt h x) (uF pi h x) (h + 1) := by
  intro j h0 h1
  by_cases hj : j = h
  · rw [hj, uF_s, uF_s]
  · rw [uF_n _ _ hj, uF_n _ _ hj]; exact a j h0 (by omega)
theorem AC_add {co ve ds wh wa : Int → Int} {k a b c : Int} (h : AC co ve ds wh wa k) (hk : 0 ≤ k ∧ k ≤ 1000) : AC (addF 1000 k co (a * 4000000 + b)) (addF 1000 k ve c) (addF 1000 k ds a) (addF 1000 k wh b) (addF 1000 k wa c) (addN 1000 k) := by
  unfold addF addN
  by_cases hc : k < 1000
  · rw [if_pos hc, if_pos hc, if_pos hc, if_pos hc, if_pos hc, if_pos hc]
    intro j h0 h1
    by_cases hj : j = k
    · rw [hj, uF_s, uF_s, uF_s, uF_s, uF_s]; exact ⟨rfl, rfl⟩
    · rw [uF_n _ _ hj, uF_n _ _ hj, uF_n _ _ hj, uF_n _ _ hj, uF_n _ _ hj]; exact h j h0 (by omega)
  · rw [if_neg hc, if_neg hc, if_neg hc, if_neg hc, if_neg hc, if_neg hc]; exact h
theorem AC_fl {co ve ds wh wa g : Int → Int} {k n pl : Int} (h : AC co ve ds wh wa k) (hn : 0 ≤ n) : AC (flF co k n (fun j => 4 * 4000000 + (pl + j))) (flF ve k n g) (flF ds k n (fun _ => 4)) (flF wh k n (fun j => pl + j)) (flF wa k n g) (k + n) := by
  intro j h0 h1
  unfold flF
  by_cases hc : k ≤ j ∧ j < k + n
  · rw [if_pos hc, if_pos hc, if_pos hc, if_pos hc, if_pos hc]; exact ⟨rfl, rfl⟩
  · rw [if_neg hc, if_neg hc, if_neg hc, if_neg hc, if_neg hc]; exact h j h0 (by omega)
def SimR (x : Int × WSt) (y : Int × MSt) : Prop := x.1 = y.1 ∧ x.2.1 = y.2.1 ∧ x.2.2.2.2.2.2.2 = y.2.2.2.2.2.2.2.2 ∧ (x.1 = 1 → x.2.2.2.2.2.2.1 = y.2.2.2.2.2.2.2.1 ∧ AG x.2.2.2.2.2.1 y.2.2.2.2.2.2.1 x.2.2.2.2.2.2.1 ∧ x.2.2.2.2.1 = y.2.2.2.2.2.1 0 ∧ AC x.2.2.1 x.2.2.2.1 y.2.2.1 y.2.2.2.1 y.2.2.2.2.1 x.2.2.2.2.1)
/-- the walker's begin against the reference's act, a step having been taken -/
theorem sim_bg {sz ki fi se : Int → Int} {lim n : Int} {va co ve wt ds wh wa ho pi : Int → Int} {k ht st : Int} (hs : st < lim) (hk : k = ho 0) (hkr : 0 ≤ k ∧ k ≤ 1000) (hki : 0 ≤ ki n ∧ ki n ≤ 12) (hdl : ki n = 9 → 0 ≤ dlen sz va (fi n) (se n)) (hag : AG wt pi ht) (hac : AC co ve ds wh wa k) :
    SimR (bg sz ki fi se lim n va co ve k wt ht st) ((if (bm sz ki fi se n va ds wh wa ho pi ht).1 = 0 then 2 else 1), (bm sz ki fi se n va ds wh wa ho pi ht).2.1, (bm sz ki fi se n va ds wh wa ho pi ht).2.2.1, (bm sz ki fi se n va ds wh wa ho pi ht).2.2.2.1, (bm sz ki fi se n va ds wh wa ho pi ht).2.2.2.2.1, (bm sz ki fi se n va ds wh wa ho pi ht).2.2.2.2.2.1, (bm sz ki fi se n va ds wh wa ho pi ht).2.2.2.2.2.2.1, (bm sz ki fi se n va ds wh wa ho pi ht).2.2.2.2.2.2.2, addN lim st) := by
  subst hk
  have hb : ∀ a b : Int, beO sz a b = 1 ∨ beO sz a b = 2 := fun a b => by unfold beO; split <;> omega
  have hm : muO sz va (fi n) (se n) = 1 ∨ muO sz va (fi n) (se n) = 2 := by unfold muO; split; omega; exact hb _ _
  have hd : diO sz va (fi n) (se n) = 1 ∨ diO sz va (fi n) (se n) = 2 := by unfold diO; split; omega; exact hb _ _
  have hp : dpO 1000 (ho 0) (dlen sz va (fi n) (se n)) = 1 ∨ dpO 1000 (ho 0) (dlen sz va (fi n) (se n)) = 2 := by unfold dpO; split <;> omega
  have hso : soO 1000 (ho 0) (va (fi n)) = 1 ∨ soO 1000 (ho 0) (va (fi n)) = 2 := by unfold soO; split <;> omega
  have h2 := hb (se n) (va (se n) + va (fi n))
  have h3 := hb (se n) (va (se n) - va (fi n))
  have go : ∀ z : Int, z = 1 ∨ z = 2 → z = (if 2 - z = 0 then 2 else 1) := fun z q => by rcases q with q | q <;> rw [q] <;> rfl
  unfold bg bm
  rw [if_neg (Int.not_le.mpr hs)]
  by_cases c1 : ki n = 1
  · simp only [if_pos c1]; exact ⟨rfl, rfl, rfl, fun _ => ⟨rfl, hag, rfl, hac⟩⟩
  simp only [if_neg c1]
  by_cases c2 : ki n = 2
  · simp only [if_pos c2]; exact ⟨go _ h2, rfl, rfl, fun _ => ⟨rfl, hag, rfl, hac⟩⟩
  simp only [if_neg c2]
  by_cases c3 : ki n = 3
  · simp only [if_pos c3]; exact ⟨go _ h3, rfl, rfl, fun _ => ⟨rfl, hag, rfl, hac⟩⟩
  simp only [if_neg c3]
  by_cases c4 : ki n = 4
  · simp only [if_pos c4]; exact ⟨go _ hm, rfl, rfl, fun _ => ⟨rfl, hag, rfl, hac⟩⟩
  simp only [if_neg c4]
  by_cases c5 : ki n = 5
  · simp only [if_pos c5]; exact ⟨go _ hd, rfl, rfl, fun _ => ⟨rfl, hag, rfl, hac⟩⟩
  simp only [if_neg c5]
  by_cases c6 : ki n = 6
  · simp only [if_pos c6]; exact ⟨rfl, rfl, rfl, fun _ => ⟨rfl, AG_push (AG_push hag), rfl, hac⟩⟩
  simp only [if_neg c6]
  by_cases c7 : ki n = 7
  · simp only [if_pos c7]
    refine ⟨rfl, rfl, rfl, fun _ => ⟨rfl, ?_, rfl, hac⟩⟩
    dsimp only
    by_cases c : va (fi n) = 0
    · rw [if_pos c, if_pos c, if_pos c]; exact hag
    · rw [if_neg c, if_neg c, if_neg c]; exact AG_push hag
  simp only [if_neg c7]
  by_cases c8 : ki n = 8
  · simp only [if_pos c8]; exact ⟨rfl, rfl, rfl, fun _ => ⟨rfl, AG_push hag, rfl, hac⟩⟩
  simp only [if_neg c8]
  by_cases c9 : ki n = 9
  · simp only [if_pos c9]
    have hdl := hdl c9
    exact ⟨go _ hp, rfl, rfl, fun _ => ⟨rfl, hag, (by dsimp only; rw [uF_s]), AC_fl hac (by unfold dpN; omega)⟩⟩
  simp only [if_neg c9]
  by_cases c10 : ki n = 10
  · simp only [if_pos c10]
    refine ⟨go _ hso, rfl, rfl, fun _ => ⟨rfl, hag, (by dsimp only; rw [uF_s]), ?_⟩⟩
    dsimp only
    unfold soF soK
    by_cases c : 0 ≤ va (fi n) ∧ va (fi n) < 1000000
    · rw [if_pos c, if_pos c, if_pos c, if_pos c, if_pos c, if_pos c]; exact AC_add hac hkr
    · rw [if_neg c, if_neg c, if_neg c, if_neg c, if_neg c, if_neg c]; exact hac
  simp only [if_neg c10]
  by_cases c12 : ki n = 12
  · have c11 : ¬ ki n = 11 := by omega
    simp only [if_neg c11, if_pos c12]
    refine ⟨rfl, rfl, rfl, fun _ => ⟨rfl, ?_, rfl, hac⟩⟩
    dsimp only
    by_cases c : va (fi n) < 0
    · rw [if_pos c, if_pos c, if_pos c]; exact AG_push hag
    · rw [if_neg c, if_neg c, if_neg c]; exact hag
  simp only [if_neg c12]
  by_cases c0 : ki n = 0
  · have c11 : ¬ ki n = 11 := by omega
    simp only [if_neg c11, if_pos c0]
    exact ⟨rfl, rfl, rfl, fun _ => ⟨rfl, hag, rfl, hac⟩⟩
  · have c11 : ki n = 11 := by omega
    simp only [if_pos c11, if_neg c0]
    exact ⟨rfl, rfl, rfl, fun q => absurd q (by dsimp only; omega)⟩
/-- what holds of a state in the walk -/
def WOK (sz ki : Int → Int) (mk rt lim : Int) (x : Int × WSt) : Prop := CV sz x.2.1 mk ∧ PV ki x.2.2.2.2.2.1 rt x.2.2.2.2.2.2.1 ∧ (0 ≤ x.2.2.2.2.1 ∧ x.2.2.2.2.1 ≤ 1000) ∧ (0 ≤ x.2.2.2.2.2.2.2 ∧ x.2.2.2.2.2.2.2 ≤ lim) ∧ 0 ≤ x.2.2.2.2.2.2.1
theorem dlen_0 {sz va : Int → Int} {n pl : Int} (h : 0 ≤ sz n) (hp : Int.tmod pl 100 ≤ 80) : 0 ≤ dlen sz va n pl := by
  have := neg1_r (va n); unfold dlen; omega
theorem sim_step {sz ki fi se : Int → Int} {lim mk nk rt : Int} {va co ve wt ds wh wa ho pi : Int → Int} {k ht st : Int} (hN : NV ki fi se mk nk) (hrt : rt ≤ nk) (hW : WOK sz ki mk rt lim (1, va, co, ve, k, wt, ht, st)) (h0 : 0 < ht) (hag : AG wt pi ht) (hk : k = ho 0) (hac : AC co ve ds wh wa k) :
    SimR (stp sz ki fi se lim (va, co, ve, k, wt, ht, st)) (stpM sz ki fi se lim va ds wh wa ho pi ht st) ∧ WOK sz ki mk rt lim (stp sz ki fi se lim (va, co, ve, k, wt, ht, st)) := by
  obtain ⟨w1, w2, w3, w4, w5⟩ := hW
  dsimp only at w1 w2 w3 w4 w5
  have jt := w2 (ht - 1) (by omega) (by omega)
  have et := hag (ht - 1) (by omega) (by omega)
  have ag1 : AG wt pi (ht - 1) := fun j a b => hag j a (by omega)
  have hP1 : PV ki wt rt (ht - 1) := PV_less w2 (by omega)
  unfold stp stpM
  dsimp only
  rw [← et]
  by_cases c1 : 0 < wt (ht - 1)
  · rw [if_pos c1, if_pos c1]
    have hv := hN (wt (ht - 1)) (by omega) (by omega)
    have hi := bg_inv (lim := lim) (co := co) (ve := ve) (n := wt (ht - 1)) hN w1 hP1 w3 w4 (by omega) (by omega) hrt
    refine ⟨?_, ⟨hi.1, hi.2.1, hi.2.2.1, hi.2.2.2.1, hi.2.2.2.2.1⟩⟩
    by_cases c2 : st < lim
    · rw [if_pos c2]
      exact sim_bg c2 hk w3 hv.1 (fun q => by
        have qa := hv.2.1 (by omega) (by omega) (by omega)
        have qb := hv.2.2.2.2.2 q
        exact dlen_0 (by have := w1 _ qa.1 qa.2; omega) qb.2.2.2) ag1 hac
    · rw [if_neg c2]
      unfold bg
      rw [if_pos (by omega)]
      exact ⟨rfl, rfl, rfl, fun q => absurd q (by dsimp only; omega)⟩
  · rw [if_neg c1, if_neg c1]
    have hn8 : ki (-wt (ht - 1)) = 8 := by rcases jt with q | q; omega; exact q.2.2
    have hi := gr_inv (lim := lim) (va := va) (n := -wt (ht - 1)) hN hP1 w4 (by omega) ⟨by omega, by omega, hn8⟩ hrt
    refine ⟨?_, ⟨w1, hi.1, w3, hi.2.1, hi.2.2.1⟩⟩
    unfold gr
    by_cases c2 : va (fi (-wt (ht - 1))) = 0
    · rw [if_pos c2, if_pos c2]; exact ⟨rfl, rfl, rfl, fun _ => ⟨rfl, ag1, hk, hac⟩⟩
    · rw [if_neg c2, if_neg c2]
      by_cases c3 : st < lim
      · rw [if_neg (by omega), if_pos c3, Int.neg_neg]
        exact ⟨rfl, rfl, rfl, fun _ => ⟨rfl, AG_push (AG_push ag1), hk, hac⟩⟩
      · rw [if_pos (by omega), if_neg c3]
        exact ⟨rfl, rfl, rfl, fun q => absurd q (by dsimp only; omega)⟩
theorem sim_it {sz ki fi se : Int → Int} {lim mk nk rt : Int} (hN : NV ki fi se mk nk) (hrt : rt ≤ nk) : ∀ (n : Nat) (x : Int × WSt) (y : Int × MSt), SimR x y → WOK sz ki mk rt lim x → SimR (itw sz ki fi se lim n x) (itM sz ki fi se lim n y) ∧ WOK sz ki mk rt lim (itw sz ki fi se lim n x)
  | 0, x, y, h, hw => ⟨h, hw⟩
  | n + 1, x, y, h, hw => by
    obtain ⟨o, va, co, ve, k, wt, ht, st⟩ := x
    obtain ⟨o2, va2, ds, wh, wa, ho, pi, wn, st2⟩ := y
    obtain ⟨s1, s2, s3, s4⟩ := h
    dsimp only at s1 s2 s3 s4
    subst s1; subst s2; subst s3
    unfold itw itM
    dsimp only
    by_cases c : o = 1
    · subst c
      obtain ⟨a1, a2, a3, a4⟩ := s4 rfl
      subst a1
      by_cases c0 : 0 < ht
      · rw [if_pos ⟨c0, rfl⟩, if_pos ⟨c0, rfl⟩]
        obtain ⟨q1, q2⟩ := sim_step hN hrt hw c0 a2 a3 a4
        exact sim_it hN hrt n _ _ q1 q2
      · rw [if_neg (fun q => c0 q.1), if_neg (fun q => c0 q.1)]
        exact ⟨⟨rfl, rfl, rfl, fun _ => ⟨rfl, a2, a3, a4⟩⟩, hw⟩
    · rw [if_neg (fun q => c q.2), if_neg (fun q => c q.2)]
      exact ⟨⟨rfl, rfl, rfl, fun q => absurd q c⟩, hw⟩
