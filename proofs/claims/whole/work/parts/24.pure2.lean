/-! what holds of cells, nodes and the pile while a program is walked -/
abbrev CV (sz va : Int → Int) (mk : Int) : Prop := ∀ c, 1 ≤ c → c ≤ mk → 1 ≤ sz c ∧ sz c ≤ 18 ∧ -pw (sz c) < va c ∧ va c < pw (sz c)
abbrev PV (ki wt : Int → Int) (rt ht : Int) : Prop := ∀ j, 0 ≤ j → j < ht → (1 ≤ wt j ∧ wt j + j ≤ rt) ∨ (wt j ≤ -1 ∧ -wt j + j ≤ rt ∧ ki (-wt j) = 8)
abbrev NV1 (ki fi se : Int → Int) (mk n : Int) : Prop := (0 ≤ ki n ∧ ki n ≤ 12) ∧ (ki n ≠ 0 → ki n ≠ 6 → ki n ≠ 11 → 1 ≤ fi n ∧ fi n ≤ mk) ∧ (ki n = 6 → 1 ≤ fi n ∧ fi n < n) ∧ (((1 ≤ ki n ∧ ki n ≤ 5) ∨ ki n = 10) → 1 ≤ se n ∧ se n ≤ mk) ∧ (((6 ≤ ki n ∧ ki n ≤ 8) ∨ ki n = 12) → 1 ≤ se n ∧ se n < n) ∧ (ki n = 9 → 100 ≤ se n ∧ se n ≤ 2480 ∧ 1 ≤ Int.tmod (se n) 100 ∧ Int.tmod (se n) 100 ≤ 80)
abbrev NV (ki fi se : Int → Int) (mk nk : Int) : Prop := ∀ n, 1 ≤ n → n ≤ nk → NV1 ki fi se mk n
theorem PV_push {ki wt : Int → Int} {rt ht x : Int} (h : PV ki wt rt ht) (hx : (1 ≤ x ∧ x + ht ≤ rt) ∨ (x ≤ -1 ∧ -x + ht ≤ rt ∧ ki (-x) = 8)) : PV ki (uF wt ht x) rt (ht + 1) := by
  intro j h0 h1
  by_cases hj : j = ht
  · rw [hj, uF_s]; exact hx
  · rw [uF_n _ _ hj]; exact h j h0 (by omega)
theorem PV_less {ki wt : Int → Int} {rt ht h2 : Int} (h : PV ki wt rt ht) (hh : h2 ≤ ht) : PV ki wt rt h2 := fun j h0 h1 => h j h0 (by omega)
theorem CV_set {sz va : Int → Int} {mk n v : Int} (h : CV sz va mk) (hv : -pw (sz n) < v ∧ v < pw (sz n)) : CV sz (uF va n v) mk := by
  intro c h1 h2
  have q := h c h1 h2
  by_cases hc : c = n
  · rw [hc, uF_s]; rw [hc] at q; exact ⟨q.1, q.2.1, hv.1, hv.2⟩
  · rw [uF_n _ _ hc]; exact q
theorem CV_be {sz va : Int → Int} {mk n v : Int} (h : CV sz va mk) : CV sz (beV sz va n v) mk := by
  unfold beV
  split
  · exact h
  · exact CV_set h (by omega)
theorem tmod_pw (v : Int) {i : Int} (h : 0 < pw i) : -pw i < Int.tmod v (pw i) ∧ Int.tmod v (pw i) < pw i := ⟨Int.lt_tmod_of_pos v h, Int.tmod_lt_of_pos v h⟩
theorem addN_r {cp k : Int} (h : 0 ≤ k ∧ k ≤ cp) : 0 ≤ addN cp k ∧ addN cp k ≤ cp := by unfold addN; split <;> omega
/-- what a step keeps, and its measure -/
def bgP (sz ki : Int → Int) (mk rt lim st ht : Int) (r : Int × (Int → Int) × (Int → Int) × (Int → Int) × Int × (Int → Int) × Int × Int) : Prop :=
  CV sz r.2.1 mk ∧ PV ki r.2.2.2.2.2.1 rt r.2.2.2.2.2.2.1 ∧ (0 ≤ r.2.2.2.2.1 ∧ r.2.2.2.2.1 ≤ 1000) ∧ (0 ≤ r.2.2.2.2.2.2.2 ∧ r.2.2.2.2.2.2.2 ≤ lim) ∧ 0 ≤ r.2.2.2.2.2.2.1 ∧ 2 * (lim - r.2.2.2.2.2.2.2) + r.2.2.2.2.2.2.1 ≤ 2 * (lim - st) + ht ∧ (0 ≤ r.1 ∧ r.1 ≤ 2)
theorem bg_inv {sz ki fi se : Int → Int} {lim n mk nk rt : Int} {va co ve : Int → Int} {k : Int} {wt : Int → Int} {ht st : Int}
    (hN : NV ki fi se mk nk) (hC : CV sz va mk) (hP : PV ki wt rt ht) (hk : 0 ≤ k ∧ k ≤ 1000) (hls : 0 ≤ st ∧ st ≤ lim) (hht : 0 ≤ ht) (hn : 1 ≤ n ∧ n + ht ≤ rt) (hrt : rt ≤ nk) :
    bgP sz ki mk rt lim st ht (bg sz ki fi se lim n va co ve k wt ht st) := by
  obtain ⟨n1, n2, n3, n4, n5, n6⟩ := hN n hn.1 (by omega)
  have ha := addN_r (cp := lim) (k := st) hls
  have hal : ¬ lim ≤ st → addN lim st = st + 1 := fun q => by unfold addN; rw [if_pos (by omega)]
  have hbo : ∀ a b : Int, 0 ≤ beO sz a b ∧ beO sz a b ≤ 2 := fun a b => by unfold beO; split <;> omega
  unfold bg
  by_cases hc0 : lim ≤ st
  · rw [if_pos hc0]
    have : addN lim st = st := by (unfold addN; rw [if_neg (by omega)])
    exact ⟨hC, hP, hk, ha, hht, by dsimp only; omega, by dsimp only; omega⟩
  rw [if_neg hc0]
  have hal := hal hc0
  by_cases hc1 : ki n = 1
  · rw [if_pos hc1]
    have q := n4 (Or.inl (by omega))
    have q2 := hC (se n) q.1 q.2
    exact ⟨CV_set hC (tmod_pw _ (pw_rng (by omega)).1), hP, hk, ha, hht, by dsimp only; omega, by dsimp only; omega⟩
  rw [if_neg hc1]
  by_cases hc2 : ki n = 2
  · rw [if_pos hc2]
    exact ⟨CV_be hC, hP, hk, ha, hht, by dsimp only; omega, hbo _ _⟩
  rw [if_neg hc2]
  by_cases hc3 : ki n = 3
  · rw [if_pos hc3]
    exact ⟨CV_be hC, hP, hk, ha, hht, by dsimp only; omega, hbo _ _⟩
  rw [if_neg hc3]
  by_cases hc4 : ki n = 4
  · rw [if_pos hc4]
    refine ⟨?_, hP, hk, ha, hht, by dsimp only; omega, ?_⟩
    · show CV sz (muV sz va (fi n) (se n)) mk; unfold muV; split; exact hC; exact CV_be hC
    · show 0 ≤ muO sz va (fi n) (se n) ∧ muO sz va (fi n) (se n) ≤ 2; unfold muO; split; omega; exact hbo _ _
  rw [if_neg hc4]
  by_cases hc5 : ki n = 5
  · rw [if_pos hc5]
    refine ⟨?_, hP, hk, ha, hht, by dsimp only; omega, ?_⟩
    · show CV sz (diV sz va (fi n) (se n)) mk; unfold diV; split; exact hC; exact CV_be hC
    · show 0 ≤ diO sz va (fi n) (se n) ∧ diO sz va (fi n) (se n) ≤ 2; unfold diO; split; omega; exact hbo _ _
  rw [if_neg hc5]
  by_cases hc6 : ki n = 6
  · rw [if_pos hc6]
    have q := n3 (by assumption); have q5 := n5 (Or.inl (by omega))
    exact ⟨hC, PV_push (PV_push hP (Or.inl (by omega))) (Or.inl (by omega)), hk, ha, by dsimp only; omega, by dsimp only; omega, by dsimp only; omega⟩
  rw [if_neg hc6]
  by_cases hc7 : ki n = 7
  · rw [if_pos hc7]
    have q5 := n5 (Or.inl (by omega))
    refine ⟨hC, ?_, hk, ha, ?_, ?_, by dsimp only; omega⟩
    · dsimp only; split; exact hP; exact PV_push hP (Or.inl (by omega))
    · dsimp only; split <;> omega
    · dsimp only; split <;> omega
  rw [if_neg hc7]
  by_cases hc8 : ki n = 8
  · rw [if_pos hc8]
    exact ⟨hC, PV_push hP (Or.inr ⟨by omega, by omega, by rw [Int.neg_neg]; assumption⟩), hk, ha, by dsimp only; omega, by dsimp only; omega, by dsimp only; omega⟩
  rw [if_neg hc8]
  by_cases hc9 : ki n = 9
  · rw [if_pos hc9]
    have q2 := n2 (by omega) (by omega) (by omega); have q6 := n6 (by assumption); have qc := hC (fi n) q2.1 q2.2; have qn := neg1_r (va (fi n))
    have hd : dlen sz va (fi n) (se n) = min (neg1 (va (fi n)) + sz (fi n)) (81 - Int.tmod (se n) 100) := rfl
    have hp : dpN 1000 k (dlen sz va (fi n) (se n)) = min (dlen sz va (fi n) (se n)) (1000 - k) := rfl
    refine ⟨hC, hP, by dsimp only; omega, ha, hht, by dsimp only; omega, ?_⟩
    dsimp only; unfold dpO; split <;> omega
  rw [if_neg hc9]
  by_cases hc10 : ki n = 10
  · rw [if_pos hc10]
    refine ⟨hC, hP, ?_, ha, hht, by dsimp only; omega, ?_⟩
    · dsimp only; unfold soK; split; exact addN_r hk; exact hk
    · dsimp only; unfold soO; split <;> omega
  rw [if_neg hc10]
  by_cases hc11 : ki n = 11
  · rw [if_pos hc11]
    exact ⟨hC, hP, hk, ha, hht, by dsimp only; omega, by dsimp only; omega⟩
  rw [if_neg hc11]
  by_cases hc12 : ki n = 12
  · rw [if_pos hc12]
    have q5 := n5 (Or.inr (by assumption))
    refine ⟨hC, ?_, hk, ha, ?_, ?_, by dsimp only; omega⟩
    · dsimp only; split; exact PV_push hP (Or.inl (by omega)); exact hP
    · dsimp only; split <;> omega
    · dsimp only; split <;> omega
  rw [if_neg hc12]
  exact ⟨hC, hP, hk, ha, hht, by dsimp only; omega, by dsimp only; omega⟩
def grP (ki : Int → Int) (rt lim st ht : Int) (r : Int × (Int → Int) × Int × Int) : Prop :=
  PV ki r.2.1 rt r.2.2.1 ∧ (0 ≤ r.2.2.2 ∧ r.2.2.2 ≤ lim) ∧ 0 ≤ r.2.2.1 ∧ 2 * (lim - r.2.2.2) + r.2.2.1 ≤ 2 * (lim - st) + ht ∧ (0 ≤ r.1 ∧ r.1 ≤ 2)
theorem gr_inv {ki fi se : Int → Int} {lim n mk nk rt : Int} {va wt : Int → Int} {ht st : Int}
    (hN : NV ki fi se mk nk) (hP : PV ki wt rt ht) (hls : 0 ≤ st ∧ st ≤ lim) (hht : 0 ≤ ht) (hn : 1 ≤ n ∧ n + ht ≤ rt ∧ ki n = 8) (hrt : rt ≤ nk) :
    grP ki rt lim st ht (gr fi se lim n va wt ht st) := by
  obtain ⟨n1, n2, n3, n4, n5, n6⟩ := hN n hn.1 (by omega)
  have ha := addN_r (cp := lim) (k := st) hls
  have q5 := n5 (Or.inl (by omega))
  unfold gr
  split
  · exact ⟨hP, hls, hht, by dsimp only; omega, by dsimp only; omega⟩
  split
  · have : addN lim st = st := by (unfold addN; rw [if_neg (by omega)])
    exact ⟨hP, ha, hht, by dsimp only; omega, by dsimp only; omega⟩
  · have : addN lim st = st + 1 := by (unfold addN; rw [if_pos (by omega)])
    exact ⟨PV_push (PV_push hP (Or.inr ⟨by omega, by omega, by rw [Int.neg_neg]; exact hn.2.2⟩)) (Or.inl (by omega)), ha, by dsimp only; omega, by dsimp only; omega, by dsimp only; omega⟩
abbrev WSt : Type := (Int → Int) × (Int → Int) × (Int → Int) × Int × (Int → Int) × Int × Int
def stp (sz ki fi se : Int → Int) (lim : Int) (t : WSt) : Int × WSt :=
  if 0 < t.2.2.2.2.1 (t.2.2.2.2.2.1 - 1) then bg sz ki fi se lim (t.2.2.2.2.1 (t.2.2.2.2.2.1 - 1)) t.1 t.2.1 t.2.2.1 t.2.2.2.1 t.2.2.2.2.1 (t.2.2.2.2.2.1 - 1) t.2.2.2.2.2.2
  else ((gr fi se lim (-t.2.2.2.2.1 (t.2.2.2.2.2.1 - 1)) t.1 t.2.2.2.2.1 (t.2.2.2.2.2.1 - 1) t.2.2.2.2.2.2).1, t.1, t.2.1, t.2.2.1, t.2.2.2.1, (gr fi se lim (-t.2.2.2.2.1 (t.2.2.2.2.2.1 - 1)) t.1 t.2.2.2.2.1 (t.2.2.2.2.2.1 - 1) t.2.2.2.2.2.2).2)
def itw (sz ki fi se : Int → Int) (lim : Int) : Nat → Int × WSt → Int × WSt
  | 0, x => x
  | n + 1, x => if 0 < x.2.2.2.2.2.2.1 ∧ x.1 = 1 then itw sz ki fi se lim n (stp sz ki fi se lim x.2) else x
theorem itw_end {sz ki fi se : Int → Int} {lim : Int} (n : Nat) {x : Int × WSt} (h : ¬ (0 < x.2.2.2.2.2.2.1 ∧ x.1 = 1)) : itw sz ki fi se lim n x = x := by
  cases n with
  | zero => rfl
  | succ n => unfold itw; rw [if_neg h]
theorem itw_bg {sz ki fi se : Int → Int} {lim : Int} {n : Nat} {va co ve : Int → Int} {k : Int} {wt : Int → Int} {ht st : Int} {fin : Int × WSt} (hls : st ≤ lim) (hn : 2 * (lim - st) + ht ≤ (n : Int)) (h0 : 0 < ht) (hw : 0 < wt (ht - 1)) (hit : itw sz ki fi se lim n (1, va, co, ve, k, wt, ht, st) = fin) :
    ∃ n2 : Nat, n = n2 + 1 ∧ itw sz ki fi se lim n2 (bg sz ki fi se lim (wt (ht - 1)) va co ve k wt (ht - 1) st) = fin := by
  cases n with
  | zero => omega
  | succ n =>
    refine ⟨n, rfl, ?_⟩
    unfold itw at hit
    rw [if_pos ⟨h0, rfl⟩] at hit
    unfold stp at hit
    rw [if_pos hw] at hit
    exact hit
theorem itw_gr {sz ki fi se : Int → Int} {lim : Int} {n : Nat} {va co ve : Int → Int} {k : Int} {wt : Int → Int} {ht st : Int} {fin : Int × WSt} (hls : st ≤ lim) (hn : 2 * (lim - st) + ht ≤ (n : Int)) (h0 : 0 < ht) (hw : wt (ht - 1) ≤ 0) (hit : itw sz ki fi se lim n (1, va, co, ve, k, wt, ht, st) = fin) :
    ∃ n2 : Nat, n = n2 + 1 ∧ itw sz ki fi se lim n2 ((gr fi se lim (-wt (ht - 1)) va wt (ht - 1) st).1, va, co, ve, k, (gr fi se lim (-wt (ht - 1)) va wt (ht - 1) st).2) = fin := by
  cases n with
  | zero => omega
  | succ n =>
    refine ⟨n, rfl, ?_⟩
    unfold itw at hit
    rw [if_pos ⟨h0, rfl⟩] at hit
    unfold stp at hit
    rw [if_neg (Int.not_lt.mpr hw)] at hit
    exact hit
