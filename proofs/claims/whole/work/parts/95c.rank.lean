/-! ranks -/
noncomputable def bP (P : Prop) : Bool := @decide P (Classical.propDecidable P)
theorem bP_iff (P : Prop) : bP P = true ↔ P := by unfold bP; exact @decide_eq_true_iff P (Classical.propDecidable P)
/-- how many living stand before n; how many living have n on their way -/
noncomputable def rkS (ab tr : Int → Int) (md n : Int) : Int := cB (fun m => bP (tr m ≠ 0 ∧ plt (Pa ab m) (Pa ab n))) md.toNat
noncomputable def szS (ab tr : Int → Int) (md n : Int) : Int := cB (fun m => bP (tr m ≠ 0 ∧ pfx (Pa ab n) (Pa ab m))) md.toNat
theorem rk_at {ab tr o : Int → Int} {md T i : Int} (hmd : 0 ≤ md) (h1 : ∀ i, 0 ≤ i → i < T → (1 ≤ o i ∧ o i ≤ md) ∧ tr (o i) ≠ 0) (h2 : ∀ i j, 0 ≤ i → i < j → j < T → plt (Pa ab (o i)) (Pa ab (o j))) (h3 : ∀ x, 1 ≤ x → x ≤ md → tr x ≠ 0 → ∃ i, 0 ≤ i ∧ i < T ∧ o i = x) (hi : 0 ≤ i ∧ i < T) :
    i = rkS ab tr md (o i) := by
  refine EN_c md.toNat o i hi.1 ⟨fun j a b => ?_, fun j k a b c q => ?_, fun x a b c => ?_⟩
  · have q := h1 j a (by omega)
    exact ⟨by omega, (bP_iff _).mpr ⟨q.2, h2 j i a b hi.2⟩⟩
  · have := h2 j k a b (by omega)
    rw [q] at this; exact plt_irr _ this
  · obtain ⟨c1, c2⟩ := (bP_iff _).mp c
    obtain ⟨j, j0, j1, j2⟩ := h3 x a (by omega) c1
    refine ⟨j, j0, ?_, j2⟩
    rcases Int.lt_trichotomy j i with q | q | q
    · exact q
    · rw [← j2, q] at c2; exact (plt_irr _ c2).elim
    · have := h2 i j hi.1 q j1
      rw [j2] at this
      exact (plt_irr _ (plt_tr this c2)).elim
theorem cB_ext {p q : Int → Bool} : ∀ n : Nat, (∀ x, 1 ≤ x → x ≤ (n : Int) → p x = q x) → cB p n = cB q n
  | 0, _ => rfl
  | n + 1, h => by
    unfold cB
    rw [cB_ext n (fun x a b => h x a (by omega)), h _ (by omega) (by omega)]
/-- counts of two that never meet add up -/
theorem cB_or {p q r : Int → Bool} : ∀ n : Nat, (∀ x, 1 ≤ x → x ≤ (n : Int) → (r x = true ↔ p x = true ∨ q x = true) ∧ ¬ (p x = true ∧ q x = true)) → cB r n = cB p n + cB q n
  | 0, _ => by unfold cB; rfl
  | n + 1, h => by
    have ih := cB_or n (fun x a b => h x a (by omega))
    obtain ⟨h1, h2⟩ := h ((n : Int) + 1) (by omega) (by omega)
    unfold cB
    rw [ih]
    by_cases a : p ((n : Int) + 1) = true
    · rw [if_pos a, if_pos (h1.mpr (Or.inl a)), if_neg (fun b => h2 ⟨a, b⟩)]; omega
    · rw [if_neg a]
      by_cases b : q ((n : Int) + 1) = true
      · rw [if_pos b, if_pos (h1.mpr (Or.inr b))]; omega
      · rw [if_neg b, if_neg (fun c => (h1.mp c).elim a b)]; omega
theorem cB_one {p : Int → Bool} {y : Int} : ∀ n : Nat, (∀ x, 1 ≤ x → x ≤ (n : Int) → (p x = true ↔ x = y)) → cB p n = if 1 ≤ y ∧ y ≤ (n : Int) then 1 else 0
  | 0, _ => by unfold cB; rw [if_neg (by omega)]
  | n + 1, h => by
    have ih := cB_one n (fun x a b => h x a (by omega))
    have hn := h ((n : Int) + 1) (by omega) (by omega)
    unfold cB
    rw [ih]
    by_cases a : (n : Int) + 1 = y
    · rw [if_pos (hn.mpr a), if_neg (by omega), if_pos (by omega)]; rfl
    · rw [if_neg (fun b => a (hn.mp b))]
      by_cases c : 1 ≤ y ∧ y ≤ (n : Int)
      · rw [if_pos c, if_pos (by omega)]; rfl
      · rw [if_neg c, if_neg (by omega)]; rfl
