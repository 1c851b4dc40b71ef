theorem lyC_all {od pab pdp psv ab tr dp sv sp nx : Int → Int} {th md : Int} (h : ∀ n : Nat, (n : Int) < md → tr ((n : Int) + 1) ≠ 0 → smS od pab pdp psv ab dp sv th ((n : Int) + 1) (nxF ab tr sp nx n (ab ((n : Int) + 1)))) :
    ∀ n : Nat, (n : Int) ≤ md → lyC od pab pdp psv ab tr dp sv sp nx th n = cB (alv tr) n
  | 0, _ => rfl
  | n + 1, hn => by
    have ih := lyC_all h n (by omega)
    unfold lyC cB
    rw [ih]
    by_cases t : tr ((n : Int) + 1) ≠ 0
    · rw [if_pos t, if_pos (h n (by omega) t), if_pos (decide_eq_true t)]
    · rw [if_neg t, if_neg (fun q => t (of_decide_eq_true q))]; omega
/-- the second's way to delete -/
theorem dlF_m {ab : Int → Int} {md x : Int} (hu : UP ab md) (hx : 1 ≤ x ∧ x ≤ md) (tr0 : Int → Int) (hc : ∀ j, 1 ≤ j → j ≤ md → tr0 j ≠ 0 → ab j = 0 ∨ tr0 (ab j) ≠ 0) :
    ∀ (n : Nat) (i : Int) (tr : Int → Int), x < i → i + (n : Int) = md + 1 → (∀ j, 1 ≤ j → j < i → (tr j ≠ 0 ↔ tr0 j ≠ 0 ∧ ¬ pfx (Pa ab x) (Pa ab j))) → (∀ j, i ≤ j → tr j = tr0 j) →
    ∀ j, 1 ≤ j → j ≤ md → (dlF ab n i tr j ≠ 0 ↔ tr0 j ≠ 0 ∧ ¬ pfx (Pa ab x) (Pa ab j))
  | 0, i, tr, h1, h2, h3, h4, j, a, b => by unfold dlF; exact h3 j a (by omega)
  | n + 1, i, tr, h1, h2, h3, h4, j, a, b => by
    unfold dlF
    have hui := hu i (by omega) (by omega)
    have hne : Pa ab x ≠ Pa ab i := fun q => by have := Pa_inj hu hx ⟨by omega, by omega⟩ q; omega
    have key : pfx (Pa ab x) (Pa ab i) ↔ pfx (Pa ab x) (Pa ab (ab i)) := by
      constructor
      · intro q; rcases pfx_up hu ⟨by omega, by omega⟩ q with z | z
        · exact absurd z hne
        · exact z
      · intro q; rw [Pa_s hu (n := i) ⟨by omega, by omega⟩]; exact pfx_tr q ⟨[i], rfl⟩
    have hp0 : ab i = 0 → ¬ pfx (Pa ab x) (Pa ab i) := fun z q => by
      rw [key, z, Pa_0 _ (Int.le_refl 0)] at q
      obtain ⟨w, e⟩ := q
      rw [Pa_s hu hx] at e
      simp at e
    by_cases c : ab i ≠ 0 ∧ tr (ab i) = 0
    · rw [if_pos c]
      refine dlF_m hu hx tr0 hc n (i + 1) _ (by omega) (by omega) (fun k k0 k1 => ?_) (fun k k0 => ?_) j a b
      · by_cases e : k = i
        · subst e
          rw [uF_s]
          refine ⟨fun q => absurd rfl q, fun q => ?_⟩
          have r := (hc k (by omega) (by omega) q.1).resolve_left c.1
          have s := h3 (ab k) (by omega) (by omega)
          exact absurd c.2 (s.mpr ⟨r, fun z => q.2 (key.mpr z)⟩)
        · rw [uF_n _ _ e]; exact h3 k k0 (by omega)
      · rw [uF_n _ _ (by omega)]; exact h4 k (by omega)
    · rw [if_neg c]
      refine dlF_m hu hx tr0 hc n (i + 1) tr (by omega) (by omega) (fun k k0 k1 => ?_) (fun k k0 => h4 k (by omega)) j a b
      by_cases e : k = i
      · subst e
        rw [h4 k (Int.le_refl k)]
        constructor
        · intro q
          refine ⟨q, fun z => ?_⟩
          have hpos : ab k ≠ 0 := fun w => hp0 w z
          have r := h3 (ab k) (by omega) (by omega)
          have s : tr (ab k) ≠ 0 := fun w => c ⟨hpos, w⟩
          exact (r.mp s).2 (key.mp z)
        · intro q; exact q.1
      · exact h3 k k0 (by omega)
