theorem cB_r (p : Int → Bool) : ∀ n : Nat, 0 ≤ cB p n ∧ cB p n ≤ (n : Int)
  | 0 => by unfold cB; omega
  | n + 1 => by
    have h := cB_r p n
    unfold cB
    split <;> omega
theorem IN_c {p : Int → Bool} : ∀ (n : Nat) (o : Int → Int) (T : Int), (∀ i, 0 ≤ i → i < T → (1 ≤ o i ∧ o i ≤ (n : Int)) ∧ p (o i) = true) → (∀ i j, 0 ≤ i → i < j → j < T → o i ≠ o j) → T ≤ cB p n
  | 0, o, T, h1, h2 => by
    unfold cB
    rcases Int.lt_or_le 0 T with q | q
    · have := (h1 0 (by omega) q).1; omega
    · omega
  | n + 1, o, T, h1, h2 => by
    unfold cB
    by_cases c : ∃ k, 0 ≤ k ∧ k < T ∧ o k = (n : Int) + 1
    · obtain ⟨k, k0, k1, k2⟩ := c
      have hp : p ((n : Int) + 1) = true := by rw [← k2]; exact (h1 k k0 k1).2
      rw [if_pos hp]
      have ih := IN_c (p := p) n (fun i => if i < k then o i else o (i + 1)) (T - 1) (fun i a b => ?_) (fun i j a b d => ?_)
      · omega
      · by_cases e : i < k
        · rw [if_pos e]
          have q := h1 i a (by omega)
          have r := h2 i k a e k1
          exact ⟨by omega, q.2⟩
        · rw [if_neg e]
          have q := h1 (i + 1) (by omega) (by omega)
          have r := h2 k (i + 1) k0 (by omega) (by omega)
          exact ⟨by omega, q.2⟩
      · by_cases e : i < k
        · rw [if_pos e]
          by_cases f : j < k
          · rw [if_pos f]; exact h2 i j a b (by omega)
          · rw [if_neg f]; exact h2 i (j + 1) a (by omega) (by omega)
        · rw [if_neg e, if_neg (by omega)]; exact h2 (i + 1) (j + 1) (by omega) (by omega) (by omega)
    · have ih := IN_c (p := p) n o T (fun i a b => ?_) h2
      · split <;> omega
      · have q := h1 i a b
        have hne : o i ≠ (n : Int) + 1 := fun w => c ⟨i, a, b, w⟩
        exact ⟨by omega, q.2⟩
abbrev alv (tr : Int → Int) : Int → Bool := fun x => decide (tr x ≠ 0)
theorem LI_c {ab tr : Int → Int} {md t : Int} {o la : Int → Int} {p : Int} (hmd : 0 ≤ md) (ht : 0 ≤ t) (h : LI ab tr md t o la p) : t + p ≤ cB (alv tr) md.toNat ∧ (p = 0 → t = cB (alv tr) md.toNat) := by
  obtain ⟨i0, i1, i2, i3, i4, i5, i6⟩ := h
  have ne : ∀ x y, plt (Pa ab x) (Pa ab y) → x ≠ y := fun x y q e => by rw [e] at q; exact plt_irr _ q
  constructor
  · refine IN_c md.toNat (fun i => if i < t then o i else la (i - t)) (t + p) (fun i a b => ?_) (fun i j a b c => ?_)
    · by_cases e : i < t
      · rw [if_pos e]; have := i1 i a e; exact ⟨by omega, decide_eq_true this.2⟩
      · rw [if_neg e]; have := i3 (i - t) (by omega) (by omega); exact ⟨by omega, decide_eq_true this.2⟩
    · by_cases e : j < t
      · rw [if_pos e, if_pos (by omega)]; exact ne _ _ (i2 i j a b e)
      · rw [if_neg e]
        by_cases f : i < t
        · rw [if_pos f]; exact ne _ _ (i5 i (j - t) a f (by omega) (by omega))
        · rw [if_neg f]; exact fun q => ne _ _ (i4 (i - t) (j - t) (by omega) (by omega) (by omega)).1 q.symm
  · intro hp
    refine EN_c md.toNat o t ht ⟨fun i a b => ?_, fun i j a b c => ne _ _ (i2 i j a b c), fun x a b c => ?_⟩
    · have := i1 i a b; exact ⟨by omega, decide_eq_true this.2⟩
    · rcases i6 x a (by omega) (of_decide_eq_true c) with q | ⟨k, k0, k1, -⟩
      · exact q
      · omega
/-- THE REFERENCE LAYS OUT THE LIVING, in rising order -/
theorem lay_ok {ab tr : Int → Int} {md : Int} {od la : Int → Int} (hmd : 0 ≤ md ∧ md ≤ 100) (hu : UP ab md) (hc : ∀ j, 1 ≤ j → j ≤ md → tr j ≠ 0 → ab j = 0 ∨ tr (ab j) ≠ 0) :
    LOK ab tr md od la (cB (alv tr) md.toNat).toNat ∧ LI ab tr md (cB (alv tr) md.toNat) (mnF ab tr md od la (cB (alv tr) md.toNat).toNat).1 (mnF ab tr md od la (cB (alv tr) md.toNat).toNat).2.1 0 := by
  have hr := cB_r (alv tr) md.toNat
  have inv : ∀ t : Nat, (t : Int) ≤ cB (alv tr) md.toNat → LI ab tr md (t : Int) (mnF ab tr md od la t).1 (mnF ab tr md od la t).2.1 (mnF ab tr md od la t).2.2 := by
    intro t
    induction t with
    | zero => intro _; exact LI_0 hmd.1 hu hc
    | succ t ih =>
      intro q
      have h := ih (by omega)
      have hq := (LI_c hmd.1 (by omega) h).2
      have hp : 0 < (mnF ab tr md od la t).2.2 := by
        have h0 : 0 ≤ (mnF ab tr md od la t).2.2 := h.1
        rcases Int.lt_or_le 0 (mnF ab tr md od la t).2.2 with z | z
        · exact z
        · have := hq (by omega); omega
      exact LI_s hu hc h hp (by omega)
  have last := inv (cB (alv tr) md.toNat).toNat (by omega)
  have hl := (LI_c hmd.1 (by omega) last).1
  have h0 : (mnF ab tr md od la (cB (alv tr) md.toNat).toNat).2.2 = 0 := by have : 0 ≤ (mnF ab tr md od la (cB (alv tr) md.toNat).toNat).2.2 := last.1; omega
  refine ⟨⟨by omega, h0, fun t ht => ?_⟩, ?_⟩
  · have h := inv t (by omega)
    have hq := LI_c hmd.1 (by omega) h
    have g := inv (t + 1) (by omega)
    have gq := LI_c hmd.1 (by omega) g
    have h00 : 0 ≤ (mnF ab tr md od la t).2.2 := h.1
    have hp : 0 < (mnF ab tr md od la t).2.2 := by
      rcases Int.lt_or_le 0 (mnF ab tr md od la t).2.2 with z | z
      · exact z
      · have := hq.2 (by omega); omega
    have hs := h.2.2.2.1 ((mnF ab tr md od la t).2.2 - 1) (by omega) (by omega)
    exact ⟨⟨hp, by omega⟩, by omega, hs.1.1, hs.1.2⟩
  · rw [h0, Int.toNat_of_nonneg hr.1] at last; exact last
