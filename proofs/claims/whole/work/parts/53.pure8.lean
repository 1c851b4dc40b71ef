abbrev MSt : Type := (Int → Int) × (Int → Int) × (Int → Int) × (Int → Int) × (Int → Int) × (Int → Int) × Int × Int
def stpM (sz ki fi se : Int → Int) (lim : Int) (va ds wh wa ho pi : Int → Int) (wn st : Int) : Int × MSt :=
  if 0 < pi (wn - 1) then
    (if st < lim then ((if (bm sz ki fi se (pi (wn - 1)) va ds wh wa ho pi (wn - 1)).1 = 0 then 2 else 1), (bm sz ki fi se (pi (wn - 1)) va ds wh wa ho pi (wn - 1)).2.1, (bm sz ki fi se (pi (wn - 1)) va ds wh wa ho pi (wn - 1)).2.2.1, (bm sz ki fi se (pi (wn - 1)) va ds wh wa ho pi (wn - 1)).2.2.2.1, (bm sz ki fi se (pi (wn - 1)) va ds wh wa ho pi (wn - 1)).2.2.2.2.1, (bm sz ki fi se (pi (wn - 1)) va ds wh wa ho pi (wn - 1)).2.2.2.2.2.1, (bm sz ki fi se (pi (wn - 1)) va ds wh wa ho pi (wn - 1)).2.2.2.2.2.2.1, (bm sz ki fi se (pi (wn - 1)) va ds wh wa ho pi (wn - 1)).2.2.2.2.2.2.2, addN lim st)
     else (0, va, ds, wh, wa, ho, pi, wn - 1, addN lim st))
  else if va (fi (-pi (wn - 1))) = 0 then (1, va, ds, wh, wa, ho, pi, wn - 1, st)
  else ((if st < lim then 1 else 0), va, ds, wh, wa, ho, uF (uF pi (wn - 1) (pi (wn - 1))) (wn - 1 + 1) (se (-pi (wn - 1))), wn - 1 + 1 + 1, addN lim st)
def itM (sz ki fi se : Int → Int) (lim : Int) : Nat → Int × MSt → Int × MSt
  | 0, x => x
  | n + 1, x => if 0 < x.2.2.2.2.2.2.2.1 ∧ x.1 = 1 then itM sz ki fi se lim n (stpM sz ki fi se lim x.2.1 x.2.2.1 x.2.2.2.1 x.2.2.2.2.1 x.2.2.2.2.2.1 x.2.2.2.2.2.2.1 x.2.2.2.2.2.2.2.1 x.2.2.2.2.2.2.2.2) else x
theorem itM_end {sz ki fi se : Int → Int} {lim : Int} (n : Nat) {x : Int × MSt} (h : ¬ (0 < x.2.2.2.2.2.2.2.1 ∧ x.1 = 1)) : itM sz ki fi se lim n x = x := by
  cases n with
  | zero => rfl
  | succ n => unfold itM; rw [if_neg h]
theorem itM_s {sz ki fi se : Int → Int} {lim : Int} {n : Nat} {va ds wh wa ho pi : Int → Int} {wn st : Int} {fin : Int × MSt} (hls : st ≤ lim) (hn : 2 * (lim - st) + wn ≤ (n : Int)) (h0 : 0 < wn) (hit : itM sz ki fi se lim n (1, va, ds, wh, wa, ho, pi, wn, st) = fin) :
    ∃ n2 : Nat, n = n2 + 1 ∧ itM sz ki fi se lim n2 (stpM sz ki fi se lim va ds wh wa ho pi wn st) = fin := by
  cases n with
  | zero => omega
  | succ n =>
    refine ⟨n, rfl, ?_⟩
    unfold itM at hit
    rw [if_pos ⟨h0, rfl⟩] at hit
    exact hit
/-- what a step of the reference keeps -/
def smP (sz ki : Int → Int) (mk rt lim st wn : Int) (r : Int × MSt) : Prop :=
  CV sz r.2.1 mk ∧ PV ki r.2.2.2.2.2.2.1 rt r.2.2.2.2.2.2.2.1 ∧ (0 ≤ r.2.2.2.2.2.1 0 ∧ r.2.2.2.2.2.1 0 ≤ 1000) ∧ (0 ≤ r.2.2.2.2.2.2.2.2 ∧ r.2.2.2.2.2.2.2.2 ≤ lim) ∧ 0 ≤ r.2.2.2.2.2.2.2.1 ∧ 2 * (lim - r.2.2.2.2.2.2.2.2) + r.2.2.2.2.2.2.2.1 + 1 ≤ 2 * (lim - st) + wn + 2 * (if r.1 = 0 then 1 else 0) ∧ (0 ≤ r.1 ∧ r.1 ≤ 2)
/-- class and reference walk alike: the reference's act is the walker's, but for how acts are kept -/
theorem bm_bg {sz ki fi se : Int → Int} {lim n : Int} {va co ve ds wh wa ho pi : Int → Int} {k wn st : Int} (hs : st < lim) (hk : k = ho 0) (hki : 0 ≤ ki n ∧ ki n ≤ 12) :
    (bg sz ki fi se lim n va co ve k pi wn st).1 = 2 - (bm sz ki fi se n va ds wh wa ho pi wn).1 ∧ (bg sz ki fi se lim n va co ve k pi wn st).2.1 = (bm sz ki fi se n va ds wh wa ho pi wn).2.1 ∧
    (bg sz ki fi se lim n va co ve k pi wn st).2.2.2.2.1 = (bm sz ki fi se n va ds wh wa ho pi wn).2.2.2.2.2.1 0 ∧ (bg sz ki fi se lim n va co ve k pi wn st).2.2.2.2.2.1 = (bm sz ki fi se n va ds wh wa ho pi wn).2.2.2.2.2.2.1 ∧ (bg sz ki fi se lim n va co ve k pi wn st).2.2.2.2.2.2.1 = (bm sz ki fi se n va ds wh wa ho pi wn).2.2.2.2.2.2.2 ∧ (bg sz ki fi se lim n va co ve k pi wn st).2.2.2.2.2.2.2 = addN lim st := by
  subst hk
  unfold bg bm
  rw [if_neg (Int.not_le.mpr hs)]
  have e2 : ∀ z : Int, z = 2 - (2 - z) := fun z => by omega
  by_cases c1 : ki n = 1
  · rw [if_pos c1, if_pos c1]; exact ⟨rfl, rfl, rfl, rfl, rfl, rfl⟩
  rw [if_neg c1, if_neg c1]
  by_cases c2 : ki n = 2
  · rw [if_pos c2, if_pos c2]; exact ⟨e2 _, rfl, rfl, rfl, rfl, rfl⟩
  rw [if_neg c2, if_neg c2]
  by_cases c3 : ki n = 3
  · rw [if_pos c3, if_pos c3]; exact ⟨e2 _, rfl, rfl, rfl, rfl, rfl⟩
  rw [if_neg c3, if_neg c3]
  by_cases c4 : ki n = 4
  · rw [if_pos c4, if_pos c4]; exact ⟨e2 _, rfl, rfl, rfl, rfl, rfl⟩
  rw [if_neg c4, if_neg c4]
  by_cases c5 : ki n = 5
  · rw [if_pos c5, if_pos c5]; exact ⟨e2 _, rfl, rfl, rfl, rfl, rfl⟩
  rw [if_neg c5, if_neg c5]
  by_cases c6 : ki n = 6
  · rw [if_pos c6, if_pos c6]; exact ⟨rfl, rfl, rfl, rfl, rfl, rfl⟩
  rw [if_neg c6, if_neg c6]
  by_cases c7 : ki n = 7
  · rw [if_pos c7, if_pos c7]; exact ⟨rfl, rfl, rfl, rfl, rfl, rfl⟩
  rw [if_neg c7, if_neg c7]
  by_cases c8 : ki n = 8
  · rw [if_pos c8, if_pos c8]; exact ⟨rfl, rfl, rfl, rfl, rfl, rfl⟩
  rw [if_neg c8, if_neg c8]
  by_cases c9 : ki n = 9
  · rw [if_pos c9, if_pos c9]; exact ⟨e2 _, rfl, by dsimp only; rw [uF_s], rfl, rfl, rfl⟩
  rw [if_neg c9, if_neg c9]
  by_cases c10 : ki n = 10
  · rw [if_pos c10, if_pos c10]; exact ⟨e2 _, rfl, by dsimp only; rw [uF_s], rfl, rfl, rfl⟩
  rw [if_neg c10, if_neg c10]
  by_cases c12 : ki n = 12
  · rw [if_neg (by omega), if_pos c12, if_pos c12]; exact ⟨rfl, rfl, rfl, rfl, rfl, rfl⟩
  rw [if_neg c12]
  by_cases c0 : ki n = 0
  · rw [if_neg (by omega), if_neg (by omega), if_pos c0]; exact ⟨rfl, rfl, rfl, rfl, rfl, rfl⟩
  · rw [if_pos (show ki n = 11 by omega), if_neg c12, if_neg c0]; exact ⟨rfl, rfl, rfl, rfl, rfl, rfl⟩
theorem stpM_inv {sz ki fi se : Int → Int} {lim mk nk rt : Int} {va ds wh wa ho pi : Int → Int} {wn st : Int} (hN : NV ki fi se mk nk) (hC : CV sz va mk) (hP : PV ki pi rt wn) (hk : 0 ≤ ho 0 ∧ ho 0 ≤ 1000) (hls : 0 ≤ st ∧ st ≤ lim) (h0 : 0 < wn) (hrt : rt ≤ nk) :
    smP sz ki mk rt lim st wn (stpM sz ki fi se lim va ds wh wa ho pi wn st) := by
  have jt := hP (wn - 1) (by omega) (by omega)
  have hP1 : PV ki pi rt (wn - 1) := PV_less hP (by omega)
  have ha := addN_r (cp := lim) (k := st) hls
  unfold stpM
  by_cases c1 : 0 < pi (wn - 1)
  · rw [if_pos c1]
    by_cases c2 : st < lim
    · rw [if_pos c2]
      have hki := (hN (pi (wn - 1)) (by omega) (by omega)).1
      obtain ⟨b1, b2, b3, b4, b5, b6⟩ := bm_bg (sz := sz) (ki := ki) (fi := fi) (se := se) (va := va) (co := fun _ => 0) (ve := fun _ => 0) (ds := ds) (wh := wh) (wa := wa) (ho := ho) (pi := pi) (wn := wn - 1) (n := pi (wn - 1)) c2 rfl hki
      have hi := bg_inv (lim := lim) (st := st) (co := fun _ => 0) (ve := fun _ => 0) (n := pi (wn - 1)) hN hC hP1 hk hls (by omega) (by omega) hrt
      unfold bgP at hi
      rw [b1, b2, b3, b4, b5, b6] at hi
      obtain ⟨i1, i2, i3, i4, i5, i6, i7⟩ := hi
      refine ⟨i1, i2, i3, i4, i5, ?_, ?_⟩
      · dsimp only; split <;> omega
      · dsimp only; split <;> omega
    · rw [if_neg c2]
      have : addN lim st = st := by (unfold addN; rw [if_neg c2])
      exact ⟨hC, hP1, hk, ha, by dsimp only; omega, by dsimp only; rw [if_pos rfl]; omega, by dsimp only; omega⟩
  · rw [if_neg c1]
    have hn8 : ki (-pi (wn - 1)) = 8 := by rcases jt with q | q; omega; exact q.2.2
    have hnv := hN (-pi (wn - 1)) (by omega) (by omega)
    have q5 := hnv.2.2.2.2.1 (Or.inl (by omega))
    by_cases c2 : va (fi (-pi (wn - 1))) = 0
    · rw [if_pos c2]; exact ⟨hC, hP1, hk, hls, by dsimp only; omega, by dsimp only; rw [if_neg (by omega)]; omega, by dsimp only; omega⟩
    · rw [if_neg c2]
      refine ⟨hC, PV_push (PV_push hP1 (Or.inr ⟨by omega, by omega, hn8⟩)) (Or.inl (by omega)), hk, ha, by dsimp only; omega, ?_, ?_⟩
      · dsimp only
        by_cases c3 : st < lim
        · have : addN lim st = st + 1 := by (unfold addN; rw [if_pos c3])
          rw [if_pos c3, if_neg (by omega)]; omega
        · have : addN lim st = st := by (unfold addN; rw [if_neg c3])
          rw [if_neg c3, if_pos rfl]; omega
      · dsimp only; split <;> omega
