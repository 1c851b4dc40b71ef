theorem GO_del {od ab dp : Int → Int} {th md i E : Int} (h : GO od ab dp th md) (hi : 0 ≤ i ∧ i < th) (hE : i < E ∧ E ≤ th) (h1 : ∀ j, i < j → j < E → dp (od i) < dp (od j)) (h2 : E < th → dp (od E) ≤ dp (od i)) :
    GO (cF od od E i (th - E)) ab dp (th - (E - i)) md ∧ ∀ y, (∃ j, 0 ≤ j ∧ j < th - (E - i) ∧ cF od od E i (th - E) j = y) ↔ ((∃ j, 0 ≤ j ∧ j < th ∧ od j = y) ∧ ¬ pfx (Pa ab (od i)) (Pa ab y)) := by
  obtain ⟨b1, b2⟩ := GO_blk h hi hE h1 h2
  obtain ⟨hu, hd, hr, hs, hc⟩ := h
  have lo : ∀ j, j < i → cF od od E i (th - E) j = od j := fun j q => by unfold cF; rw [if_neg (by omega)]
  have hg : ∀ j, i ≤ j → j < th - (E - i) → cF od od E i (th - E) j = od (j + (E - i)) := fun j q r => by unfold cF; rw [if_pos (by omega)]; congr 1; omega
  have cs : ∀ j, 0 ≤ j → j < th - (E - i) → (j < i ∧ cF od od E i (th - E) j = od j) ∨ (i ≤ j ∧ cF od od E i (th - E) j = od (j + (E - i))) := fun j a b => by
    rcases Int.lt_or_le j i with q | q
    · exact Or.inl ⟨q, lo j q⟩
    · exact Or.inr ⟨q, hg j q b⟩
  have nlo : ∀ j, 0 ≤ j → j < i → ¬ pfx (Pa ab (od i)) (Pa ab (od j)) := fun j a b q => by
    have p := hs j i a b hi.2
    obtain ⟨w, e⟩ := q
    cases w with
    | nil => rw [List.append_nil] at e; rw [e] at p; exact plt_irr _ p
    | cons c cs => rw [e] at p; exact plt_irr _ (plt_tr p (plt_app _ _ _))
  have mem : ∀ y, (∃ j, 0 ≤ j ∧ j < th - (E - i) ∧ cF od od E i (th - E) j = y) ↔ ((∃ j, 0 ≤ j ∧ j < th ∧ od j = y) ∧ ¬ pfx (Pa ab (od i)) (Pa ab y)) := fun y => by
    constructor
    · rintro ⟨j, a, b, e⟩
      rcases cs j a b with ⟨q, f⟩ | ⟨q, f⟩
      · rw [f] at e; rw [← e]; exact ⟨⟨j, a, by omega, rfl⟩, nlo j a q⟩
      · rw [f] at e; rw [← e]; exact ⟨⟨j + (E - i), by omega, by omega, rfl⟩, b2 _ (by omega) (by omega)⟩
    · rintro ⟨⟨j, a, b, e⟩, hn⟩
      rcases Int.lt_or_le j i with q | q
      · exact ⟨j, a, by omega, by rw [lo j q]; exact e⟩
      · have hj : E ≤ j := by
          rcases Int.lt_or_le j E with w | w
          · exfalso
            apply hn
            rw [← e]
            by_cases z : j = i
            · rw [z]; exact pfx_rf _
            · exact b1 j (by omega) w
          · exact w
        exact ⟨j - (E - i), by omega, by omega, by rw [hg _ (by omega) (by omega), Int.sub_add_cancel]; exact e⟩
  refine ⟨⟨hu, hd, fun j a b => ?_, fun k j a b d => ?_, fun j a b => ?_⟩, mem⟩
  · rcases cs j a b with ⟨q, f⟩ | ⟨q, f⟩
    · rw [f]; exact hr j a (by omega)
    · rw [f]; exact hr _ (by omega) (by omega)
  · rcases cs k a (by omega) with ⟨q, f⟩ | ⟨q, f⟩ <;> rcases cs j (by omega) d with ⟨r, g⟩ | ⟨r, g⟩
    · rw [f, g]; exact hs k j a b (by omega)
    · rw [f, g]; exact hs k _ a (by omega) (by omega)
    · omega
    · rw [f, g]; exact hs _ _ (by omega) (by omega) (by omega)
  · obtain ⟨⟨m, m0, m1, m2⟩, hn⟩ := (mem (cF od od E i (th - E) j)).mp ⟨j, a, b, rfl⟩
    rw [← m2] at hn ⊢
    rcases hc m m0 m1 with q | ⟨w, w0, w1, w2⟩
    · exact Or.inl q
    · right
      refine (mem (ab (od m))).mpr ⟨⟨w, w0, w1, w2⟩, fun z => hn ?_⟩
      rw [Pa_s hu (hr m m0 m1)]
      exact pfx_tr z ⟨[od m], rfl⟩
/-- the reference's (and the second's) way to delete: whoever has the deleted one on its way -/
theorem dlM_m {ab : Int → Int} {md x : Int} (hu : UP ab md) (hx : 1 ≤ x ∧ x ≤ md) (tr0 : Int → Int) (hc : ∀ j, 1 ≤ j → j ≤ md → tr0 j ≠ 0 → ab j = 0 ∨ tr0 (ab j) ≠ 0) :
    ∀ (n : Nat) (i : Int) (tr : Int → Int) (al : Int), x < i → i + (n : Int) = md + 1 → (∀ j, 1 ≤ j → j < i → (tr j ≠ 0 ↔ tr0 j ≠ 0 ∧ ¬ pfx (Pa ab x) (Pa ab j))) → (∀ j, i ≤ j → tr j = tr0 j) →
    ∀ j, 1 ≤ j → j ≤ md → ((dlM ab n i tr al).1 j ≠ 0 ↔ tr0 j ≠ 0 ∧ ¬ pfx (Pa ab x) (Pa ab j))
  | 0, i, tr, al, h1, h2, h3, h4, j, a, b => by unfold dlM; exact h3 j a (by omega)
  | n + 1, i, tr, al, h1, h2, h3, h4, j, a, b => by
    unfold dlM
    have hui := hu i (by omega) (by omega)
    have hne : Pa ab x ≠ Pa ab i := fun q => by have := Pa_inj hu hx ⟨by omega, by omega⟩ q; omega
    have key : pfx (Pa ab x) (Pa ab i) ↔ pfx (Pa ab x) (Pa ab (ab i)) := by
      constructor
      · intro q; rcases pfx_up hu ⟨by omega, by omega⟩ q with z | z
        · exact absurd z hne
        · exact z
      · intro q; rw [Pa_s hu (n := i) ⟨by omega, by omega⟩]; exact pfx_tr q ⟨[i], rfl⟩
    have hp0 : ab i = 0 → ¬ pfx (Pa ab x) (Pa ab i) := fun z q => by
      rw [key, z, Pa_0 _ (Int.le_refl 0)] at q
      obtain ⟨w, e⟩ := q
      rw [Pa_s hu hx] at e
      simp at e
    by_cases c : tr i ≠ 0 ∧ 0 < ab i ∧ tr (ab i) = 0
    · rw [if_pos c]
      have hi0 : tr0 i ≠ 0 := by rw [← h4 i (Int.le_refl i)]; exact c.1
      have hpi : pfx (Pa ab x) (Pa ab i) := by
        have q := h3 (ab i) (by omega) (by omega)
        have r := (hc i (by omega) (by omega) hi0).resolve_left (by omega)
        rw [key]
        exact Classical.byContradiction (fun z => (q.mpr ⟨r, z⟩) c.2.2)
      refine dlM_m hu hx tr0 hc n (i + 1) _ _ (by omega) (by omega) (fun k k0 k1 => ?_) (fun k k0 => ?_) j a b
      · by_cases e : k = i
        · rw [e, uF_s]; exact ⟨fun q => absurd rfl q, fun q => absurd hpi q.2⟩
        · rw [uF_n _ _ e]; exact h3 k k0 (by omega)
      · rw [uF_n _ _ (by omega)]; exact h4 k (by omega)
    · rw [if_neg c]
      refine dlM_m hu hx tr0 hc n (i + 1) tr al (by omega) (by omega) (fun k k0 k1 => ?_) (fun k k0 => h4 k (by omega)) j a b
      by_cases e : k = i
      · subst e
        rw [h4 k (Int.le_refl k)] at c ⊢
        constructor
        · intro q
          refine ⟨q, fun z => ?_⟩
          have hpos : 0 < ab k := by
            rcases Int.lt_or_le 0 (ab k) with w | w
            · exact w
            · exact absurd z (hp0 (by omega))
          have r := h3 (ab k) (by omega) (by omega)
          have s : tr (ab k) ≠ 0 := fun w => c ⟨q, hpos, w⟩
          exact (r.mp s).2 (key.mp z)
        · intro q; exact q.1
      · exact h3 k k0 (by omega)
