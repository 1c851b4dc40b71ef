/-! a run leaves the eight units as they are -/
abbrev HIb (d0 w0 a0 h0 ds wh wa ho : Int → Int) : Prop := (∀ j, 1000 ≤ j → ds j = d0 j ∧ wh j = w0 j ∧ wa j = a0 j) ∧ ∀ j, j ≠ 0 → ho j = h0 j
theorem fl_hi {f g : Int → Int} {k len j : Int} (h : 1000 ≤ j) : flF f k (dpN 1000 k len) g j = f j := by
  unfold flF dpN; rw [if_neg (by omega)]
theorem so_hi {f : Int → Int} {k key x j : Int} (h : 1000 ≤ j) : soF 1000 k key f x j = f j := by
  unfold soF addF
  by_cases a : 0 ≤ key ∧ key < 1000000
  · rw [if_pos a]
    by_cases b : k < 1000
    · rw [if_pos b, uF_n _ _ (by omega)]
    · rw [if_neg b]
  · rw [if_neg a]
theorem HI_bm {sz ki fi se d0 w0 a0 h0 : Int → Int} {n : Int} {va ds wh wa ho pi : Int → Int} {wn : Int} (h : HIb d0 w0 a0 h0 ds wh wa ho) :
    HIb d0 w0 a0 h0 (bm sz ki fi se n va ds wh wa ho pi wn).2.2.1 (bm sz ki fi se n va ds wh wa ho pi wn).2.2.2.1 (bm sz ki fi se n va ds wh wa ho pi wn).2.2.2.2.1 (bm sz ki fi se n va ds wh wa ho pi wn).2.2.2.2.2.1 := by
  unfold bm
  by_cases c1 : ki n = 1
  · simp only [if_pos c1]; exact h
  simp only [if_neg c1]
  by_cases c2 : ki n = 2
  · simp only [if_pos c2]; exact h
  simp only [if_neg c2]
  by_cases c3 : ki n = 3
  · simp only [if_pos c3]; exact h
  simp only [if_neg c3]
  by_cases c4 : ki n = 4
  · simp only [if_pos c4]; exact h
  simp only [if_neg c4]
  by_cases c5 : ki n = 5
  · simp only [if_pos c5]; exact h
  simp only [if_neg c5]
  by_cases c6 : ki n = 6
  · simp only [if_pos c6]; exact h
  simp only [if_neg c6]
  by_cases c7 : ki n = 7
  · simp only [if_pos c7]; exact h
  simp only [if_neg c7]
  by_cases c8 : ki n = 8
  · simp only [if_pos c8]; exact h
  simp only [if_neg c8]
  by_cases c9 : ki n = 9
  · simp only [if_pos c9]
    exact ⟨fun j a => by rw [fl_hi a, fl_hi a, fl_hi a]; exact h.1 j a, fun j a => by rw [uF_n _ _ a]; exact h.2 j a⟩
  simp only [if_neg c9]
  by_cases c10 : ki n = 10
  · simp only [if_pos c10]
    exact ⟨fun j a => by rw [so_hi a, so_hi a, so_hi a]; exact h.1 j a, fun j a => by rw [uF_n _ _ a]; exact h.2 j a⟩
  simp only [if_neg c10]
  by_cases c12 : ki n = 12
  · simp only [if_pos c12]; exact h
  simp only [if_neg c12]; exact h
abbrev HIy (d0 w0 a0 h0 : Int → Int) (y : Int × MSt) : Prop := HIb d0 w0 a0 h0 y.2.2.1 y.2.2.2.1 y.2.2.2.2.1 y.2.2.2.2.2.1
theorem HI_it {sz ki fi se d0 w0 a0 h0 : Int → Int} {lim : Int} : ∀ (n : Nat) (y : Int × MSt), HIy d0 w0 a0 h0 y → HIy d0 w0 a0 h0 (itM sz ki fi se lim n y)
  | 0, y, h => h
  | n + 1, y, h => by
    unfold itM
    by_cases c : 0 < y.2.2.2.2.2.2.2.1 ∧ y.1 = 1
    · rw [if_pos c]
      refine HI_it n _ ?_
      obtain ⟨o, va, ds, wh, wa, ho, pi, wn, st⟩ := y
      dsimp only at *
      unfold stpM
      by_cases c1 : 0 < pi (wn - 1)
      · simp only [if_pos c1]
        by_cases c2 : st < lim
        · simp only [if_pos c2]; exact HI_bm h
        · simp only [if_neg c2]; exact h
      · simp only [if_neg c1]
        by_cases c2 : va (fi (-pi (wn - 1))) = 0
        · simp only [if_pos c2]; exact h
        · simp only [if_neg c2]; exact h
    · rw [if_neg c]; exact h
/-- a unit of the class and of the reference -/
abbrev UNr (co ve : Int → Int) (k u : Int) (ho ds wh wa : Int → Int) : Prop := (0 ≤ k ∧ k ≤ 50) ∧ ho u = k ∧ ∀ j, 0 ≤ j → j < k → okA (ds (950 + 50 * u + j)) (wh (950 + 50 * u + j)) (wa (950 + 50 * u + j)) ∧ co j = ds (950 + 50 * u + j) * 4000000 + wh (950 + 50 * u + j) ∧ ve j = wa (950 + 50 * u + j)
theorem UN_hi {co ve d0 w0 a0 h0 ds wh wa ho : Int → Int} {k u : Int} (hu : 1 ≤ u) (h : UNr co ve k u h0 d0 w0 a0) (hi : HIb d0 w0 a0 h0 ds wh wa ho) : UNr co ve k u ho ds wh wa := by
  refine ⟨h.1, by rw [hi.2 u (by omega)]; exact h.2.1, fun j a b => ?_⟩
  obtain ⟨e1, e2, e3⟩ := hi.1 (950 + 50 * u + j) (by omega)
  rw [e1, e2, e3]
  exact h.2.2 j a b
/-- another unit, when one act is added to unit v -/
theorem UN_o {co ve ho ds wh wa : Int → Int} {k u v q a b c d : Int} (hu : 1 ≤ u ∧ u ≤ 8) (hv : 1 ≤ v ∧ v ≤ 8) (huv : u ≠ v) (hq : 0 ≤ q ∧ q < 50) (h : UNr co ve k u ho ds wh wa) :
    UNr co ve k u (uF ho v d) (uF ds (950 + 50 * v + q) a) (uF wh (950 + 50 * v + q) b) (uF wa (950 + 50 * v + q) c) := by
  refine ⟨h.1, by rw [uF_n _ _ huv]; exact h.2.1, fun j e f => ?_⟩
  have hk := h.1
  have hne : 950 + 50 * u + j ≠ 950 + 50 * v + q := by
    rcases (show u < v ∨ v < u by omega) with z | z
    · omega
    · omega
  rw [uF_n _ _ hne, uF_n _ _ hne, uF_n _ _ hne]
  exact h.2.2 j e f
theorem UN_add {co ve ho ds wh wa : Int → Int} {k u a b c : Int} (h : UNr co ve k u ho ds wh wa) (hk : k < 50) (ha : okA a b c) :
    UNr (uF co k (a * 4000000 + b)) (uF ve k c) (k + 1) u (uF ho u (ho u + 1)) (uF ds (950 + 50 * u + ho u) a) (uF wh (950 + 50 * u + ho u) b) (uF wa (950 + 50 * u + ho u) c) := by
  obtain ⟨h1, h2, h3⟩ := h
  rw [h2]
  refine ⟨by omega, uF_s _ _ _, fun j e f => ?_⟩
  by_cases z : j = k
  · subst z
    rw [uF_s, uF_s, uF_s, uF_s, uF_s]
    exact ⟨ha, rfl, rfl⟩
  · have hne : 950 + 50 * u + j ≠ 950 + 50 * u + k := by omega
    rw [uF_n _ _ hne, uF_n _ _ hne, uF_n _ _ hne, uF_n _ _ z, uF_n _ _ z]
    exact h3 j e (by omega)
theorem UN_cl {co ve ho ds wh wa : Int → Int} {k u : Int} (h : UNr co ve k u ho ds wh wa) : UNr co ve 0 u (uF ho u 0) ds wh wa := ⟨by omega, uF_s _ _ _, fun j e f => by omega⟩
theorem UN_co {co ve ho ds wh wa : Int → Int} {k u v d : Int} (huv : u ≠ v) (h : UNr co ve k u ho ds wh wa) : UNr co ve k u (uF ho v d) ds wh wa := ⟨h.1, by rw [uF_n _ _ huv]; exact h.2.1, h.2.2⟩
/-- the acts of a unit, as the doing of all wants them -/
theorem UN_ac {co ve ho ds wh wa : Int → Int} {k u : Int} (h : UNr co ve k u ho ds wh wa) : ∀ j, 0 ≤ j → j < k → okA (ds (950 + 50 * u + j)) (wh (950 + 50 * u + j)) (wa (950 + 50 * u + j)) ∧ kOf (co j) = ds (950 + 50 * u + j) ∧ tOf (co j) = wh (950 + 50 * u + j) ∧ ve j = wa (950 + 50 * u + j) := fun j a b => by
  obtain ⟨e1, e2, e3⟩ := h.2.2 j a b
  obtain ⟨-, c1, c2⟩ := code_r e1.1 e1.2.1
  rw [e2, c1, c2]
  exact ⟨e1, rfl, rfl, e3⟩
theorem UN_av {co ve ho ds wh wa : Int → Int} {k u : Int} (h : UNr co ve k u ho ds wh wa) : ∀ j, 0 ≤ j → j < k → (0 ≤ co j ∧ co j < 20000000) ∧ okA (kOf (co j)) (tOf (co j)) (ve j) := fun j a b => by
  obtain ⟨e1, e2, e3⟩ := h.2.2 j a b
  obtain ⟨c0, c1, c2⟩ := code_r e1.1 e1.2.1
  rw [e2, c1, c2, e3]
  exact ⟨c0, e1⟩
/-- an act that may be written is one that may be done -/
theorem okL_A {kd a b : Int} (h : okL kd a b) (hb : R64 b) : okA kd a b := by
  obtain ⟨h1, h2, h3, h4, h5⟩ := h
  refine ⟨h1, ?_, hb, fun q => (h3 q).2, fun q => h4 q, fun q => h5 q⟩
  rcases (show kd = 0 ∨ kd = 1 ∨ kd = 2 ∨ kd = 3 ∨ kd = 4 by omega) with q | q | q | q | q
  · exact h2 (Or.inl q)
  · exact h2 (Or.inr q)
  · have := h3 q; omega
  · have := h4 q; omega
  · have := h5 q; omega
