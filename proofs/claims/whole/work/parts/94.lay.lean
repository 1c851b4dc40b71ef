/-! the reference's laying out -/
theorem cpF_sp {ab tr : Int → Int} {s : Int} : ∀ (n : Nat) (la : Int → Int) (op : Int), op ≤ (cpF ab tr s n la op).2 ∧ (∀ j, j < op → (cpF ab tr s n la op).1 j = la j) ∧ (∀ j, op ≤ j → j < (cpF ab tr s n la op).2 → (s < (cpF ab tr s n la op).1 j ∧ (cpF ab tr s n la op).1 j ≤ s + (n : Int)) ∧ tr ((cpF ab tr s n la op).1 j) ≠ 0 ∧ ab ((cpF ab tr s n la op).1 j) = s) ∧
    (∀ i j, op ≤ i → i < j → j < (cpF ab tr s n la op).2 → (cpF ab tr s n la op).1 j < (cpF ab tr s n la op).1 i) ∧ (∀ k, s < k → k ≤ s + (n : Int) → tr k ≠ 0 → ab k = s → ∃ j, op ≤ j ∧ j < (cpF ab tr s n la op).2 ∧ (cpF ab tr s n la op).1 j = k)
  | 0, la, op => by
    unfold cpF; dsimp only
    exact ⟨by omega, fun _ _ => rfl, fun j a b => by omega, fun i j a b c => by omega, fun k a b => by omega⟩
  | n + 1, la, op => by
    unfold cpF
    by_cases c : tr (s + (n : Int) + 1) ≠ 0 ∧ ab (s + (n : Int) + 1) = s
    · rw [if_pos c]
      obtain ⟨h1, h2, h3, h4, h5⟩ := cpF_sp (ab := ab) (tr := tr) (s := s) n (uF la op (s + (n : Int) + 1)) (op + 1)
      generalize cpF ab tr s n (uF la op (s + (n : Int) + 1)) (op + 1) = r at h1 h2 h3 h4 h5 ⊢
      have hop : r.1 op = s + (n : Int) + 1 := by rw [h2 op (by omega), uF_s]
      refine ⟨by omega, fun j a => by rw [h2 j (by omega), uF_n _ _ (by omega)], fun j a b => ?_, fun i j a b d => ?_, fun k a b d e => ?_⟩
      · by_cases e : j = op
        · rw [e, hop]; exact ⟨by omega, c.1, c.2⟩
        · have := h3 j (by omega) b; exact ⟨by omega, this.2⟩
      · by_cases e : i = op
        · rw [e, hop]; have := (h3 j (by omega) d).1; omega
        · exact h4 i j (by omega) b d
      · by_cases f : k = s + (n : Int) + 1
        · exact ⟨op, by omega, by omega, by rw [hop, f]⟩
        · obtain ⟨j, j0, j1, j2⟩ := h5 k a (by omega) d e
          exact ⟨j, by omega, j1, j2⟩
    · rw [if_neg c]
      obtain ⟨h1, h2, h3, h4, h5⟩ := cpF_sp (ab := ab) (tr := tr) (s := s) n la op
      generalize cpF ab tr s n la op = r at h1 h2 h3 h4 h5 ⊢
      refine ⟨h1, h2, fun j a b => ?_, h4, fun k a b d e => ?_⟩
      · have := h3 j a b; exact ⟨by omega, this.2⟩
      · by_cases f : k = s + (n : Int) + 1
        · rw [f] at d e; exact absurd ⟨d, e⟩ c
        · exact h5 k a (by omega) d e
theorem l1F_cp {ab tr : Int → Int} : ∀ (n : Nat) (la : Int → Int) (op : Int), (∀ j, 1 ≤ j → j ≤ (n : Int) → 0 ≤ ab j) → l1F ab tr n la op = cpF ab tr 0 n la op
  | 0, la, op, _ => rfl
  | n + 1, la, op, h => by
    have hn := h ((n : Int) + 1) (by omega) (by omega)
    unfold l1F cpF
    rw [Int.zero_add]
    by_cases c : tr ((n : Int) + 1) ≠ 0 ∧ ab ((n : Int) + 1) ≤ 0
    · rw [if_pos c, if_pos ⟨c.1, by omega⟩]; exact l1F_cp n _ _ (fun j a b => h j a (by omega))
    · rw [if_neg c, if_neg (fun q => c ⟨q.1, by omega⟩)]; exact l1F_cp n _ _ (fun j a b => h j a (by omega))
/-- from one on a way to the next below it on that way -/
theorem ch_on {ab tr : Int → Int} {md s : Int} (hu : UP ab md) (hc : ∀ j, 1 ≤ j → j ≤ md → tr j ≠ 0 → ab j = 0 ∨ tr (ab j) ≠ 0) (hs : 0 ≤ s ∧ s ≤ md) : ∀ (f : Nat) (x : Int), x ≤ (f : Int) → 1 ≤ x → x ≤ md → tr x ≠ 0 → pfx (Pa ab s) (Pa ab x) → s ≠ x → ∃ c, (1 ≤ c ∧ c ≤ md) ∧ tr c ≠ 0 ∧ ab c = s ∧ pfx (Pa ab c) (Pa ab x)
  | 0, x, h1, h2, h3, h4, h5, h6 => by omega
  | f + 1, x, h1, h2, h3, h4, h5, h6 => by
    have hx := hu x h2 h3
    by_cases e : ab x = s
    · exact ⟨x, ⟨h2, h3⟩, h4, e, pfx_rf _⟩
    · have hp : pfx (Pa ab s) (Pa ab (ab x)) := by
        rcases pfx_up hu ⟨h2, h3⟩ h5 with z | z
        · exfalso
          by_cases w : s = 0
          · rw [w, Pa_0 _ (Int.le_refl 0), Pa_s hu ⟨h2, h3⟩] at z; simp at z
          · exact h6 (Pa_inj hu ⟨by omega, hs.2⟩ ⟨h2, h3⟩ z)
        · exact z
      have hq : ab x ≠ 0 := fun z => by
        rw [z, Pa_0 _ (Int.le_refl 0)] at hp
        obtain ⟨w, q⟩ := hp
        by_cases w0 : s = 0
        · exact e (by omega)
        · rw [Pa_s hu (n := s) ⟨by omega, hs.2⟩] at q; simp at q
      have hal := (hc x h2 h3 h4).resolve_left hq
      obtain ⟨c, c1, c2, c3, c4⟩ := ch_on hu hc hs f (ab x) (by omega) (by omega) (by omega) hal hp (fun z => e z.symm)
      exact ⟨c, c1, c2, c3, pfx_tr c4 (by rw [Pa_s hu ⟨h2, h3⟩]; exact ⟨[x], rfl⟩)⟩
def LI (ab tr : Int → Int) (md : Int) (t : Int) (o la : Int → Int) (p : Int) : Prop :=
  0 ≤ p ∧ (∀ i, 0 ≤ i → i < t → (1 ≤ o i ∧ o i ≤ md) ∧ tr (o i) ≠ 0) ∧ (∀ i j, 0 ≤ i → i < j → j < t → plt (Pa ab (o i)) (Pa ab (o j))) ∧ (∀ k, 0 ≤ k → k < p → (1 ≤ la k ∧ la k ≤ md) ∧ tr (la k) ≠ 0) ∧
  (∀ k j, 0 ≤ k → k < j → j < p → plt (Pa ab (la j)) (Pa ab (la k)) ∧ ¬ pfx (Pa ab (la j)) (Pa ab (la k))) ∧ (∀ i k, 0 ≤ i → i < t → 0 ≤ k → k < p → plt (Pa ab (o i)) (Pa ab (la k))) ∧
  (∀ x, 1 ≤ x → x ≤ md → tr x ≠ 0 → (∃ i, 0 ≤ i ∧ i < t ∧ o i = x) ∨ ∃ k, 0 ≤ k ∧ k < p ∧ pfx (Pa ab (la k)) (Pa ab x))
theorem LI_0 {ab tr : Int → Int} {md : Int} {od la : Int → Int} (hmd : 0 ≤ md) (hu : UP ab md) (hc : ∀ j, 1 ≤ j → j ≤ md → tr j ≠ 0 → ab j = 0 ∨ tr (ab j) ≠ 0) : LI ab tr md 0 (mnF ab tr md od la 0).1 (mnF ab tr md od la 0).2.1 (mnF ab tr md od la 0).2.2 := by
  unfold mnF; dsimp only
  rw [l1F_cp md.toNat la 0 (fun j a b => (hu j a (by omega)).1)]
  obtain ⟨h1, h2, h3, h4, h5⟩ := cpF_sp (ab := ab) (tr := tr) (s := 0) md.toNat la 0
  generalize cpF ab tr 0 md.toNat la 0 = r at h1 h2 h3 h4 h5 ⊢
  have pr : ∀ j, 0 ≤ j → j < r.2 → Pa ab (r.1 j) = [r.1 j] := fun j a b => by
    have := h3 j a b
    rw [Pa_s hu ⟨by omega, by omega⟩, this.2.2, Pa_0 _ (Int.le_refl 0)]; rfl
  refine ⟨h1, fun i a b => by omega, fun i j a b c => by omega, fun k a b => ?_, fun k j a b c => ?_, fun i k a b => by omega, fun x a b c => Or.inr ?_⟩
  · have := h3 k a b; exact ⟨by omega, this.2.1⟩
  · have := h4 k j a b c
    rw [pr k a (by omega), pr j (by omega) c]
    refine ⟨plt_c.mpr (Or.inl this), fun q => ?_⟩
    obtain ⟨w, e⟩ := q
    simp at e
    omega
  · obtain ⟨c', c1, c2, c3, c4⟩ := ch_on hu hc ⟨Int.le_refl 0, hmd⟩ x.toNat x (by omega) a b c (by rw [Pa_0 _ (Int.le_refl 0)]; exact ⟨_, rfl⟩) (by omega)
    obtain ⟨j, j0, j1, j2⟩ := h5 c' (by omega) (by omega) c2 c3
    exact ⟨j, j0, j1, by rw [j2]; exact c4⟩
