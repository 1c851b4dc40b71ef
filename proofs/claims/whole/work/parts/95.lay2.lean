theorem LI_s {ab tr : Int → Int} {md t : Int} {o la : Int → Int} {p : Int} (hu : UP ab md) (hc : ∀ j, 1 ≤ j → j ≤ md → tr j ≠ 0 → ab j = 0 ∨ tr (ab j) ≠ 0) (h : LI ab tr md t o la p) (hp : 0 < p) (ht : 0 ≤ t) :
    LI ab tr md (t + 1) (uF o t (la (p - 1))) (cpF ab tr (la (p - 1)) (md - la (p - 1)).toNat la (p - 1)).1 (cpF ab tr (la (p - 1)) (md - la (p - 1)).toNat la (p - 1)).2 := by
  obtain ⟨i0, i1, i2, i3, i4, i5, i6⟩ := h
  have hs := i3 (p - 1) (by omega) (by omega)
  obtain ⟨h1, h2, h3, h4, h5⟩ := cpF_sp (ab := ab) (tr := tr) (s := la (p - 1)) (md - la (p - 1)).toNat la (p - 1)
  generalize cpF ab tr (la (p - 1)) (md - la (p - 1)).toNat la (p - 1) = r at h1 h2 h3 h4 h5 ⊢
  generalize hse : la (p - 1) = s at hs h3 h4 h5 ⊢
  have hk : ∀ k, 0 ≤ k → k < p - 1 → plt (Pa ab s) (Pa ab (la k)) ∧ ¬ pfx (Pa ab s) (Pa ab (la k)) := fun k a b => by have := i4 k (p - 1) a b (by omega); rw [hse] at this; exact this
  have pr : ∀ j, p - 1 ≤ j → j < r.2 → Pa ab (r.1 j) = Pa ab s ++ [r.1 j] := fun j a b => by
    have := h3 j a b
    conv => lhs; rw [Pa_s hu (n := r.1 j) ⟨by omega, by omega⟩, this.2.2]
  refine ⟨by omega, fun i a b => ?_, fun i j a b c => ?_, fun k a b => ?_, fun k j a b c => ?_, fun i k a b c d => ?_, fun x a b c => ?_⟩
  · by_cases e : i = t
    · rw [e, uF_s]; exact hs
    · rw [uF_n _ _ e]; exact i1 i a (by omega)
  · rw [uF_n _ _ (show ¬ i = t by omega)]
    by_cases e : j = t
    · rw [e, uF_s]; have := i5 i (p - 1) a (by omega) (by omega) (by omega); rw [hse] at this; exact this
    · rw [uF_n _ _ e]; exact i2 i j a b (by omega)
  · by_cases e : k < p - 1
    · rw [h2 k e]; exact i3 k a (by omega)
    · have := h3 k (by omega) b; exact ⟨by omega, this.2.1⟩
  · by_cases e : j < p - 1
    · rw [h2 k (by omega), h2 j e]; exact i4 k j a b (by omega)
    · by_cases f : k < p - 1
      · rw [h2 k f, pr j (by omega) c]
        obtain ⟨q1, q2⟩ := hk k a f
        refine ⟨?_, fun z => q2 (pfx_tr ⟨[r.1 j], rfl⟩ z)⟩
        rcases plt_d q1 with w | w
        · exact absurd w q2
        · have := w [r.1 j] []; rwa [List.append_nil] at this
      · have hlt := h4 k j (by omega) b c
        rw [pr k (by omega) (by omega), pr j (by omega) c, plt_l]
        refine ⟨plt_c.mpr (Or.inl hlt), fun z => ?_⟩
        obtain ⟨w, e⟩ := z
        rw [List.append_assoc] at e
        have e2 := List.append_cancel_left e
        simp at e2
        omega
  · by_cases e : i = t
    · rw [e, uF_s]
      by_cases f : k < p - 1
      · rw [h2 k f]; exact (hk k c f).1
      · rw [pr k (by omega) d]; exact plt_app _ _ _
    · rw [uF_n _ _ e]
      by_cases f : k < p - 1
      · rw [h2 k f]; exact i5 i k a (by omega) c (by omega)
      · rw [pr k (by omega) d]
        have := i5 i (p - 1) a (by omega) (by omega) (by omega)
        rw [hse] at this
        exact plt_tr this (plt_app _ _ _)
  · rcases i6 x a b c with ⟨i, j0, j1, j2⟩ | ⟨k, k0, k1, k2⟩
    · exact Or.inl ⟨i, j0, by omega, by rw [uF_n _ _ (by omega)]; exact j2⟩
    · by_cases f : k < p - 1
      · exact Or.inr ⟨k, k0, by omega, by rw [h2 k f]; exact k2⟩
      · have hkk : k = p - 1 := by omega
        rw [hkk, hse] at k2
        by_cases e : s = x
        · exact Or.inl ⟨t, ht, by omega, by rw [uF_s, e]⟩
        · obtain ⟨c', c1, c2, c3, c4⟩ := ch_on hu hc ⟨by omega, hs.1.2⟩ x.toNat x (by omega) a b c k2 e
          have hup := hu c' c1.1 c1.2
          obtain ⟨j, j0, j1, j2⟩ := h5 c' (by omega) (by omega) c2 c3
          exact Or.inr ⟨j, by omega, j1, by rw [j2]; exact c4⟩
/-- two rising rows of the same ones are one row -/
theorem row_uq {ab : Int → Int} {o o' : Int → Int} {T T' : Int} (h : ∀ i j, 0 ≤ i → i < j → j < T → plt (Pa ab (o i)) (Pa ab (o j))) (h' : ∀ i j, 0 ≤ i → i < j → j < T' → plt (Pa ab (o' i)) (Pa ab (o' j))) (hm : ∀ x, (∃ i, 0 ≤ i ∧ i < T ∧ o i = x) ↔ (∃ i, 0 ≤ i ∧ i < T' ∧ o' i = x)) :
    ∀ (n : Nat) (i : Int), 0 ≤ i → i ≤ (n : Int) → i < T → i < T' → o i = o' i
  | n, i, h0, h1, h2, h3 => by
    have below : ∀ k, 0 ≤ k → k < i → o k = o' k := fun k a b => by
      cases n with
      | zero => omega
      | succ n => exact row_uq h h' hm n k a (by omega) (by omega) (by omega)
    obtain ⟨j, j0, j1, j2⟩ := (hm (o i)).mp ⟨i, h0, h2, rfl⟩
    obtain ⟨k, k0, k1, k2⟩ := (hm (o' i)).mpr ⟨i, h0, h3, rfl⟩
    rcases Int.lt_trichotomy j i with q | q | q
    · exfalso
      have e := below j j0 q
      have := h j i j0 q h2
      rw [e, j2] at this; exact plt_irr _ this
    · rw [← j2, q]
    · rcases Int.lt_trichotomy k i with w | w | w
      · exfalso
        have e := below k k0 w
        have := h' k i k0 w h3
        rw [← e, k2] at this; exact plt_irr _ this
      · rw [← k2, w]
      · exfalso
        have p1 := h i k h0 w k1
        have p2 := h' i j h0 q j1
        rw [k2] at p1; rw [j2] at p2
        exact plt_irr _ (plt_tr p1 p2)
