/-! the three ways to keep segments: the class's row, the reference's marks, the second's -/
abbrev MB (od : Int → Int) (th y : Int) : Prop := ∃ j, 0 ≤ j ∧ j < th ∧ od j = y
def TRI (t : GSt) (g : MG) (q : SSt) : Prop :=
  GO t.1 t.2.1 t.2.2.1 t.2.2.2.2.1 t.2.2.2.2.2 ∧ (0 ≤ t.2.2.2.2.1 ∧ 0 ≤ t.2.2.2.2.2 ∧ t.2.2.2.2.2 ≤ 100) ∧ (g.1 = t.2.2.2.2.2 ∧ q.1 = t.2.2.2.2.2) ∧ (g.2.2.1 = t.2.1 ∧ g.2.2.2.2 = t.2.2.2.1 ∧ g.2.1 = t.2.2.2.2.1) ∧
  (∀ j, 1 ≤ j → j ≤ t.2.2.2.2.2 → q.2.1 j = t.2.1 j ∧ q.2.2.2.1 j = t.2.2.1 j ∧ q.2.2.2.2 j = t.2.2.2.1 j) ∧
  (∀ j, 1 ≤ j → j ≤ t.2.2.2.2.2 → (g.2.2.2.1 j ≠ 0 ↔ MB t.1 t.2.2.2.2.1 j) ∧ (q.2.2.1 j ≠ 0 ↔ MB t.1 t.2.2.2.2.1 j)) ∧ (∀ j, t.2.2.2.2.2 < j → j ≤ 100 → g.2.2.2.1 j = 0)
theorem MB_r {od ab dp : Int → Int} {th md y : Int} (h : GO od ab dp th md) (hy : MB od th y) : 1 ≤ y ∧ y ≤ md := by
  obtain ⟨j, a, b, e⟩ := hy
  have := h.2.2.1 j a b
  omega
/-- a closed set of living, from a row -/
theorem MB_cl {od ab dp tr : Int → Int} {th md : Int} (h : GO od ab dp th md) (ht : ∀ j, 1 ≤ j → j ≤ md → (tr j ≠ 0 ↔ MB od th j)) : ∀ j, 1 ≤ j → j ≤ md → tr j ≠ 0 → ab j = 0 ∨ tr (ab j) ≠ 0 := by
  intro j a b c
  obtain ⟨k, k0, k1, k2⟩ := (ht j a b).mp c
  rcases h.2.2.2.2 k k0 k1 with q | q
  · left; rw [← k2]; exact q
  · right
    rw [k2] at q
    have hr := MB_r h q
    exact (ht _ hr.1 hr.2).mpr q
/-- how many live -/
theorem MB_n {od ab dp tr : Int → Int} {th md : Int} (h : GO od ab dp th md) (hth : 0 ≤ th ∧ 0 ≤ md) (ht : ∀ j, 1 ≤ j → j ≤ md → (tr j ≠ 0 ↔ MB od th j)) : th = cB (alv tr) md.toNat := by
  refine EN_c md.toNat od th hth.1 ⟨fun i a b => ?_, fun i j a b c q => ?_, fun x a b c => ?_⟩
  · have q := h.2.2.1 i a b
    exact ⟨by omega, decide_eq_true ((ht _ q.1 q.2).mpr ⟨i, a, b, rfl⟩)⟩
  · have := h.2.2.2.1 i j a b c
    rw [q] at this; exact plt_irr _ this
  · exact (ht x a (by omega)).mp (of_decide_eq_true c)
theorem sP0_i {od : Int → Int} {th x : Int} (hth : 0 ≤ th) (hx : 0 ≤ x) : (sP0 od th x ≠ -1 ↔ x = 0 ∨ MB od th x) ∧ (x ≠ 0 → sP0 od th x ≠ -1 → 0 ≤ sP0 od th x ∧ sP0 od th x < th ∧ od (sP0 od th x) = x) := by
  unfold sP0
  by_cases z : x = 0
  · rw [if_pos z]; exact ⟨⟨fun _ => Or.inl z, fun _ => by omega⟩, fun q => absurd z q⟩
  · rw [if_neg z]
    have hr := fi0_r od x th.toNat 0 (Int.le_refl 0)
    refine ⟨⟨fun q => ?_, fun q r => ?_⟩, fun _ q => ?_⟩
    · rcases hr with w | w
      · exact absurd w q
      · exact Or.inr ⟨_, w.1, by omega, w.2.2⟩
    · rcases q with q | ⟨j, a, b, e⟩
      · exact z q
      · exact fi0_no th.toNat 0 (Int.le_refl 0) r j a (by omega) e
    · rcases hr with w | w
      · exact absurd w q
      · exact ⟨w.1, by omega, w.2.2⟩
