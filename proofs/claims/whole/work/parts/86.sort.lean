/-! the second records: merging sorts by target, and of one target as they came -/
abbrev LX (co : Int → Int) (x y : Int) : Prop := tOf (co x) < tOf (co y) ∨ (tOf (co x) = tOf (co y) ∧ x < y)
theorem LX_tr {co : Int → Int} {x y z : Int} (h1 : LX co x y) (h2 : LX co y z) : LX co x z := by
  rcases h1 with a | a <;> rcases h2 with b | b
  · left; omega
  · left; omega
  · left; omega
  · right; omega
theorem mg_s {co so : Int → Int} {lo mid en : Int} (hL : ∀ i j, lo ≤ i → i < j → j < mid → LX co (so i) (so j)) (hR : ∀ i j, mid ≤ i → i < j → j < en → LX co (so i) (so j)) (hX : ∀ i j, lo ≤ i → i < mid → mid ≤ j → j < en → tOf (co (so i)) = tOf (co (so j)) → so i < so j) :
    ∀ (n : Nat) (to l r : Int) (ot : Int → Int), lo ≤ l → l ≤ mid → mid ≤ r → r ≤ en → to = l + r - mid → to + (n : Int) = en →
    (∀ i j, lo ≤ i → i < j → j < to → LX co (ot i) (ot j)) → (∀ i, lo ≤ i → i < to → ∃ q, ((lo ≤ q ∧ q < l) ∨ (mid ≤ q ∧ q < r)) ∧ ot i = so q) → (∀ q, ((lo ≤ q ∧ q < l) ∨ (mid ≤ q ∧ q < r)) → ∃ i, lo ≤ i ∧ i < to ∧ ot i = so q) →
    (∀ i q, lo ≤ i → i < to → ((l ≤ q ∧ q < mid) ∨ (r ≤ q ∧ q < en)) → LX co (ot i) (so q)) →
    (∀ i j, lo ≤ i → i < j → j < en → LX co (mg co so mid en n to l r ot i) (mg co so mid en n to l r ot j)) ∧ (∀ i, lo ≤ i → i < en → ∃ q, lo ≤ q ∧ q < en ∧ mg co so mid en n to l r ot i = so q) ∧ (∀ q, lo ≤ q → q < en → ∃ i, lo ≤ i ∧ i < en ∧ mg co so mid en n to l r ot i = so q)
  | 0, to, l, r, ot, a1, a2, a3, a4, a5, a6, A1, A2, A3, A4 => by
    unfold mg
    refine ⟨fun i j x y z => A1 i j x y (by omega), fun i x y => ?_, fun q x y => ?_⟩
    · obtain ⟨q, b, c⟩ := A2 i x (by omega)
      exact ⟨q, by omega, by omega, c⟩
    · obtain ⟨i, b, c, d⟩ := A3 q (by omega)
      exact ⟨i, b, by omega, d⟩
  | n + 1, to, l, r, ot, a1, a2, a3, a4, a5, a6, A1, A2, A3, A4 => by
    have go : ∀ (x : Int) (l' r' : Int), (lo ≤ l' ∧ l' ≤ mid ∧ mid ≤ r' ∧ r' ≤ en ∧ to + 1 = l' + r' - mid) → (∀ q, ((lo ≤ q ∧ q < l') ∨ (mid ≤ q ∧ q < r')) ↔ (((lo ≤ q ∧ q < l) ∨ (mid ≤ q ∧ q < r)) ∨ q = x)) → ((l ≤ x ∧ x < mid) ∨ (r ≤ x ∧ x < en)) → (∀ q, ((l' ≤ q ∧ q < mid) ∨ (r' ≤ q ∧ q < en)) → ((l ≤ q ∧ q < mid) ∨ (r ≤ q ∧ q < en))) → (∀ q, ((l' ≤ q ∧ q < mid) ∨ (r' ≤ q ∧ q < en)) → LX co (so x) (so q)) →
        (∀ i j, lo ≤ i → i < j → j < en → LX co (mg co so mid en n (to + 1) l' r' (uF ot to (so x)) i) (mg co so mid en n (to + 1) l' r' (uF ot to (so x)) j)) ∧ (∀ i, lo ≤ i → i < en → ∃ q, lo ≤ q ∧ q < en ∧ mg co so mid en n (to + 1) l' r' (uF ot to (so x)) i = so q) ∧ (∀ q, lo ≤ q → q < en → ∃ i, lo ≤ i ∧ i < en ∧ mg co so mid en n (to + 1) l' r' (uF ot to (so x)) i = so q) := by
      intro x l' r' hb hs hx hm hn
      refine mg_s hL hR hX n (to + 1) l' r' (uF ot to (so x)) hb.1 hb.2.1 hb.2.2.1 hb.2.2.2.1 hb.2.2.2.2 (by omega) (fun i j p1 p2 p3 => ?_) (fun i p1 p2 => ?_) (fun q p1 => ?_) (fun i q p1 p2 p3 => ?_)
      · rw [uF_n _ _ (show ¬ i = to by omega)]
        by_cases hj : j = to
        · rw [hj, uF_s]; exact A4 i x p1 (by omega) hx
        · rw [uF_n _ _ hj]; exact A1 i j p1 p2 (by omega)
      · by_cases hi : i = to
        · rw [hi, uF_s]; exact ⟨x, (hs x).mpr (Or.inr rfl), rfl⟩
        · rw [uF_n _ _ hi]
          obtain ⟨q, b, c⟩ := A2 i p1 (by omega)
          exact ⟨q, (hs q).mpr (Or.inl b), c⟩
      · rcases (hs q).mp p1 with b | b
        · obtain ⟨i, c, d, e⟩ := A3 q b
          exact ⟨i, c, by omega, by rw [uF_n _ _ (by omega)]; exact e⟩
        · exact ⟨to, by omega, by omega, by rw [uF_s, b]⟩
      · by_cases hi : i = to
        · rw [hi, uF_s]; exact hn q p3
        · rw [uF_n _ _ hi]; exact A4 i q p1 (by omega) (hm q p3)
    unfold mg
    by_cases ht : tkL co so mid en l r
    · rw [if_pos ht]
      have hl : l < mid := by rcases ht with q | q <;> omega
      refine go l (l + 1) r (by omega) (fun q => by omega) (by omega) (fun q w => by omega) (fun q w => ?_)
      by_cases hq : l + 1 ≤ q ∧ q < mid
      · exact hL l q a1 (by omega) hq.2
      · have hr : r ≤ q ∧ q < en := by omega
        have h1 : LX co (so l) (so r) := by
          rcases ht with z | z
          · omega
          · by_cases he : tOf (co (so l)) = tOf (co (so r))
            · exact Or.inr ⟨he, hX l r a1 hl a3 (by omega) he⟩
            · left; omega
        by_cases he : q = r
        · rw [he]; exact h1
        · exact LX_tr h1 (hR r q a3 (by omega) hr.2)
    · rw [if_neg ht]
      have hr : r < en := by rcases Int.lt_or_le r en with q | q; exact q; exact absurd (Or.inl q) ht
      refine go r l (r + 1) (by omega) (fun q => by omega) (by omega) (fun q w => by omega) (fun q w => ?_)
      by_cases hq : r + 1 ≤ q ∧ q < en
      · exact hR r q a3 (by omega) hq.2
      · have hl : l ≤ q ∧ q < mid := by omega
        have h1 : LX co (so r) (so l) := by
          left
          rcases Int.lt_or_le (tOf (co (so r))) (tOf (co (so l))) with z | z
          · exact z
          · exact absurd (Or.inr ⟨by omega, z⟩) ht
        by_cases he : q = l
        · rw [he]; exact h1
        · exact LX_tr h1 (hL l q a1 (by omega) hl.2)
/-- one whole merging -/
theorem mg_w {co so : Int → Int} {lo mid en : Int} (hm : lo ≤ mid ∧ mid ≤ en) (hL : ∀ i j, lo ≤ i → i < j → j < mid → LX co (so i) (so j)) (hR : ∀ i j, mid ≤ i → i < j → j < en → LX co (so i) (so j)) (hX : ∀ i j, lo ≤ i → i < mid → mid ≤ j → j < en → tOf (co (so i)) = tOf (co (so j)) → so i < so j) (ot : Int → Int) :
    (∀ i j, lo ≤ i → i < j → j < en → LX co (mg co so mid en (en - lo).toNat lo lo mid ot i) (mg co so mid en (en - lo).toNat lo lo mid ot j)) ∧ (∀ i, lo ≤ i → i < en → ∃ q, lo ≤ q ∧ q < en ∧ mg co so mid en (en - lo).toNat lo lo mid ot i = so q) ∧ (∀ q, lo ≤ q → q < en → ∃ i, lo ≤ i ∧ i < en ∧ mg co so mid en (en - lo).toNat lo lo mid ot i = so q) :=
  mg_s hL hR hX (en - lo).toNat lo lo mid ot (by omega) hm.1 (by omega) hm.2 (by omega) (by omega) (fun i j a b c => by omega) (fun i a b => by omega) (fun q a => by omega) (fun i q a b => by omega)
