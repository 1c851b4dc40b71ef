/-! how many: a row that holds each once -/
def cB (p : Int → Bool) : Nat → Int
  | 0 => 0
  | n + 1 => cB p n + (if p ((n : Int) + 1) = true then 1 else 0)
abbrev EN (p : Int → Bool) (md : Int) (o : Int → Int) (T : Int) : Prop := (∀ i, 0 ≤ i → i < T → (1 ≤ o i ∧ o i ≤ md) ∧ p (o i) = true) ∧ (∀ i j, 0 ≤ i → i < j → j < T → o i ≠ o j) ∧ (∀ x, 1 ≤ x → x ≤ md → p x = true → ∃ i, 0 ≤ i ∧ i < T ∧ o i = x)
theorem EN_c {p : Int → Bool} : ∀ (n : Nat) (o : Int → Int) (T : Int), 0 ≤ T → EN p (n : Int) o T → T = cB p n
  | 0, o, T, h0, h => by
    unfold cB
    rcases Int.lt_or_le 0 T with q | q
    · have := (h.1 0 (by omega) q).1; omega
    · omega
  | n + 1, o, T, h0, h => by
    obtain ⟨h1, h2, h3⟩ := h
    unfold cB
    by_cases c : p ((n : Int) + 1) = true
    · rw [if_pos c]
      obtain ⟨k, k0, k1, k2⟩ := h3 ((n : Int) + 1) (by omega) (by omega) c
      have ih := EN_c (p := p) n (fun i => if i < k then o i else o (i + 1)) (T - 1) (by omega) ⟨fun i a b => ?_, fun i j a b d => ?_, fun x a b d => ?_⟩
      · omega
      · dsimp only
        by_cases e : i < k
        · rw [if_pos e]
          have q := h1 i a (by omega)
          have r := h2 i k a e k1
          exact ⟨by omega, q.2⟩
        · rw [if_neg e]
          have q := h1 (i + 1) (by omega) (by omega)
          have r := h2 k (i + 1) k0 (by omega) (by omega)
          exact ⟨by omega, q.2⟩
      · dsimp only
        by_cases e : i < k
        · rw [if_pos e]
          by_cases f : j < k
          · rw [if_pos f]; exact h2 i j a b (by omega)
          · rw [if_neg f]; exact h2 i (j + 1) a (by omega) (by omega)
        · rw [if_neg e, if_neg (by omega)]; exact h2 (i + 1) (j + 1) (by omega) (by omega) (by omega)
      · obtain ⟨i, i0, i1, i2⟩ := h3 x a (by omega) d
        have hne : i ≠ k := fun q => by rw [q] at i2; omega
        by_cases e : i < k
        · exact ⟨i, i0, by omega, by dsimp only; rw [if_pos e]; exact i2⟩
        · exact ⟨i - 1, by omega, by omega, by dsimp only; rw [if_neg (by omega), Int.sub_add_cancel]; exact i2⟩
    · rw [if_neg c]
      have ih := EN_c (p := p) n o T h0 ⟨fun i a b => ?_, h2, fun x a b d => h3 x a (by omega) d⟩
      · omega
      · have q := h1 i a b
        have hne : o i ≠ (n : Int) + 1 := fun w => c (by rw [← w]; exact q.2)
        exact ⟨by omega, q.2⟩
/-- the class's row of segments: it rises, and who is there has the one above there -/
abbrev GO (od ab dp : Int → Int) (th md : Int) : Prop := UP ab md ∧ (∀ j, 1 ≤ j → j ≤ md → dp j + 1 = ((Pa ab j).length : Int)) ∧ (∀ i, 0 ≤ i → i < th → 1 ≤ od i ∧ od i ≤ md) ∧ (∀ i j, 0 ≤ i → i < j → j < th → plt (Pa ab (od i)) (Pa ab (od j))) ∧ (∀ i, 0 ≤ i → i < th → ab (od i) = 0 ∨ ∃ j, 0 ≤ j ∧ j < th ∧ od j = ab (od i))
theorem pfx_len {u v : List Int} (h : pfx u v) : u.length ≤ v.length ∧ (u ≠ v → u.length < v.length) := by
  obtain ⟨w, rfl⟩ := h
  rw [List.length_append]
  refine ⟨by omega, fun q => ?_⟩
  cases w with
  | nil => exact absurd (List.append_nil u).symm q
  | cons a as => simp only [List.length_cons]; omega
/-- THE BLOCK of one: who stands behind it, deeper than it, up to the first that is not -/
theorem GO_blk {od ab dp : Int → Int} {th md i E : Int} (h : GO od ab dp th md) (hi : 0 ≤ i ∧ i < th) (hE : i < E ∧ E ≤ th) (h1 : ∀ j, i < j → j < E → dp (od i) < dp (od j)) (h2 : E < th → dp (od E) ≤ dp (od i)) :
    (∀ j, i < j → j < E → pfx (Pa ab (od i)) (Pa ab (od j))) ∧ (∀ j, E ≤ j → j < th → ¬ pfx (Pa ab (od i)) (Pa ab (od j))) := by
  obtain ⟨hu, hd, hr, hs, hc⟩ := h
  have hx := hr i hi.1 hi.2
  have hdi := hd (od i) hx.1 hx.2
  have idx : ∀ a b, 0 ≤ a → a < th → 0 ≤ b → b < th → plt (Pa ab (od a)) (Pa ab (od b)) → a < b := fun a b a0 a1 b0 b1 q => by
    rcases Int.lt_trichotomy a b with w | w | w
    · exact w
    · rw [w] at q; exact (plt_irr _ q).elim
    · exact (plt_irr _ (plt_tr q (hs b a b0 w a1))).elim
  have fwd : ∀ (n : Nat) (j : Int), j ≤ i + (n : Int) → i < j → j < E → pfx (Pa ab (od i)) (Pa ab (od j)) := by
    intro n
    induction n with
    | zero => intro j a b c; omega
    | succ n ih =>
      intro j a b c
      have hy := hr j (by omega) (by omega)
      have hdy := hd (od j) hy.1 hy.2
      have hdd := h1 j b c
      have hp := Pa_s hu hy
      rcases hc j (by omega) (by omega) with q | ⟨k, k0, k1, k2⟩
      · rw [hp, q, Pa_0 _ (Int.le_refl 0)] at hdy
        simp at hdy
        have : 0 ≤ ((Pa ab (od i)).length : Int) := by omega
        have hpi := Pa_s hu hx
        rw [hpi] at hdi
        simp at hdi
        omega
      · have hlt : plt (Pa ab (od k)) (Pa ab (od j)) := by rw [k2, hp]; exact plt_app _ _ _
        have hkj := idx k j k0 k1 (by omega) (by omega) hlt
        have hpy : pfx (Pa ab (od k)) (Pa ab (od j)) := by rw [k2, hp]; exact ⟨[od j], rfl⟩
        rcases Int.lt_trichotomy k i with w | w | w
        · exfalso
          have p1 := hs k i k0 w hi.2
          have p2 := hs i j hi.1 b (by omega)
          rcases plt_d p1 with q | q
          · have hne : Pa ab (od k) ≠ Pa ab (od i) := fun z => by rw [z] at p1; exact plt_irr _ p1
            have hl := (pfx_len q).2 hne
            have hlen : (Pa ab (od j)).length = (Pa ab (od k)).length + 1 := by rw [k2, hp]; simp
            omega
          · have p3 := q [od j] []
            rw [List.append_nil, k2, ← hp] at p3
            exact plt_irr _ (plt_tr p2 p3)
        · rw [← w]; exact hpy
        · exact pfx_tr (ih k (by omega) w (by omega)) hpy
  refine ⟨fun j a b => fwd (j - i).toNat j (by omega) a b, fun j a b q => ?_⟩
  have hy := hr j (by omega) b
  have hdy := hd (od j) hy.1 hy.2
  have hz := hr E (by omega) (by omega)
  have hdz := hd (od E) hz.1 hz.2
  have he := h2 (by omega)
  have p1 := hs i E hi.1 hE.1 (by omega)
  rcases plt_d p1 with w | w
  · have hne : Pa ab (od i) ≠ Pa ab (od E) := fun z => by rw [z] at p1; exact plt_irr _ p1
    have := (pfx_len w).2 hne
    omega
  · obtain ⟨r, e⟩ := q
    have p2 := w r []
    rw [List.append_nil, ← e] at p2
    by_cases f : E = j
    · rw [f] at p2; exact plt_irr _ p2
    · exact plt_irr _ (plt_tr p2 (hs E j (by omega) (by omega) b))
