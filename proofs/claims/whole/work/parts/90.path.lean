/-! segments: paths and their order -/
def plt : List Int → List Int → Prop
  | _, [] => False
  | [], _ :: _ => True
  | a :: as, b :: bs => a < b ∨ (a = b ∧ plt as bs)
theorem plt_c {a b : Int} {as bs : List Int} : plt (a :: as) (b :: bs) ↔ a < b ∨ (a = b ∧ plt as bs) := Iff.rfl
theorem plt_n (u : List Int) : ¬ plt u [] := by cases u <;> exact fun q => q
theorem plt_irr : ∀ u : List Int, ¬ plt u u
  | [] => fun q => q
  | a :: as => fun q => by
    rcases plt_c.mp q with h | h
    · omega
    · exact plt_irr as h.2
theorem plt_tr : ∀ {u v w : List Int}, plt u v → plt v w → plt u w
  | u, v, [], _, h2 => (plt_n _ h2).elim
  | u, [], c :: cs, h1, _ => (plt_n _ h1).elim
  | [], b :: bs, c :: cs, _, _ => trivial
  | a :: as, b :: bs, c :: cs, h1, h2 => by
    rcases plt_c.mp h1 with x | x <;> rcases plt_c.mp h2 with y | y
    · exact plt_c.mpr (Or.inl (by omega))
    · exact plt_c.mpr (Or.inl (by omega))
    · exact plt_c.mpr (Or.inl (by omega))
    · exact plt_c.mpr (Or.inr ⟨by omega, plt_tr x.2 y.2⟩)
theorem plt_tot : ∀ u v : List Int, plt u v ∨ u = v ∨ plt v u
  | [], [] => Or.inr (Or.inl rfl)
  | [], _ :: _ => Or.inl trivial
  | _ :: _, [] => Or.inr (Or.inr trivial)
  | a :: as, b :: bs => by
    rcases Int.lt_trichotomy a b with h | h | h
    · exact Or.inl (plt_c.mpr (Or.inl h))
    · subst h
      rcases plt_tot as bs with q | q | q
      · exact Or.inl (plt_c.mpr (Or.inr ⟨rfl, q⟩))
      · exact Or.inr (Or.inl (by rw [q]))
      · exact Or.inr (Or.inr (plt_c.mpr (Or.inr ⟨rfl, q⟩)))
    · exact Or.inr (Or.inr (plt_c.mpr (Or.inl h)))
abbrev pfx (u v : List Int) : Prop := ∃ w, v = u ++ w
theorem pfx_rf (u : List Int) : pfx u u := ⟨[], (List.append_nil u).symm⟩
theorem pfx_tr {u v w : List Int} (h1 : pfx u v) (h2 : pfx v w) : pfx u w := by
  obtain ⟨x, rfl⟩ := h1
  obtain ⟨y, rfl⟩ := h2
  exact ⟨x ++ y, List.append_assoc _ _ _⟩
theorem plt_l : ∀ (u x y : List Int), plt (u ++ x) (u ++ y) ↔ plt x y
  | [], x, y => Iff.rfl
  | a :: as, x, y => by
    show plt (a :: (as ++ x)) (a :: (as ++ y)) ↔ _
    rw [plt_c]
    exact ⟨fun q => q.elim (fun w => by omega) (fun w => (plt_l as x y).mp w.2), fun q => Or.inr ⟨rfl, (plt_l as x y).mpr q⟩⟩
theorem plt_app (u : List Int) (b : Int) (w : List Int) : plt u (u ++ b :: w) := by
  have := (plt_l u [] (b :: w)).mpr trivial
  rwa [List.append_nil] at this
/-- below by order: by being a prefix, or for whatever follows -/
theorem plt_d : ∀ {u v : List Int}, plt u v → pfx u v ∨ ∀ w w', plt (u ++ w) (v ++ w')
  | u, [], h => (plt_n _ h).elim
  | [], b :: bs, _ => Or.inl ⟨b :: bs, rfl⟩
  | a :: as, b :: bs, h => by
    rcases plt_c.mp h with q | q
    · exact Or.inr (fun w w' => plt_c.mpr (Or.inl q))
    · obtain ⟨rfl, q⟩ := q
      rcases plt_d q with ⟨w, rfl⟩ | r
      · exact Or.inl ⟨w, rfl⟩
      · exact Or.inr (fun w w' => plt_c.mpr (Or.inr ⟨rfl, r w w'⟩))
/-- the way down to a segment -/
def pth (ab : Int → Int) : Nat → Int → List Int
  | 0, _ => []
  | f + 1, n => if n ≤ 0 then [] else pth ab f (ab n) ++ [n]
abbrev Pa (ab : Int → Int) (n : Int) : List Int := pth ab n.toNat n
abbrev UP (ab : Int → Int) (md : Int) : Prop := ∀ j, 1 ≤ j → j ≤ md → 0 ≤ ab j ∧ ab j < j
theorem pth_0 (ab : Int → Int) (f : Nat) {n : Int} (h : n ≤ 0) : pth ab f n = [] := by
  cases f with
  | zero => rfl
  | succ f => unfold pth; rw [if_pos h]
theorem pth_eq {ab ab' : Int → Int} {md : Int} (h : UP ab md) (he : ∀ j, 1 ≤ j → j ≤ md → ab' j = ab j) : ∀ (f g : Nat) (n : Int), n ≤ md → n ≤ (f : Int) → n ≤ (g : Int) → pth ab f n = pth ab' g n
  | 0, g, n, h1, h2, h3 => by rw [pth_0 _ _ (by omega), pth_0 _ _ (by omega)]
  | f + 1, 0, n, h1, h2, h3 => by rw [pth_0 _ _ (by omega), pth_0 _ _ (by omega)]
  | f + 1, g + 1, n, h1, h2, h3 => by
    by_cases c : n ≤ 0
    · rw [pth_0 _ _ c, pth_0 _ _ c]
    · have := h n (by omega) h1
      unfold pth
      rw [if_neg c, if_neg c, he n (by omega) h1, pth_eq h he f g (ab n) (by omega) (by omega) (by omega)]
theorem Pa_0 (ab : Int → Int) {n : Int} (h : n ≤ 0) : Pa ab n = [] := pth_0 _ _ h
theorem Pa_s {ab : Int → Int} {md n : Int} (h : UP ab md) (hn : 1 ≤ n ∧ n ≤ md) : Pa ab n = Pa ab (ab n) ++ [n] := by
  have := h n hn.1 hn.2
  unfold Pa
  rw [show n.toNat = (n.toNat - 1) + 1 by omega]
  conv => lhs; unfold pth
  rw [if_neg (by omega), pth_eq h (fun _ _ _ => rfl) (n.toNat - 1) (ab n).toNat (ab n) (by omega) (by omega) (by omega)]
theorem Pa_ext {ab ab' : Int → Int} {md : Int} (h : UP ab md) (he : ∀ j, 1 ≤ j → j ≤ md → ab' j = ab j) {n : Int} (hn : n ≤ md) : Pa ab' n = Pa ab n := by
  by_cases c : n ≤ 0
  · rw [Pa_0 _ c, Pa_0 _ c]
  · exact (pth_eq h he n.toNat n.toNat n hn (by omega) (by omega)).symm
theorem Pa_inj {ab : Int → Int} {md n m : Int} (h : UP ab md) (hn : 1 ≤ n ∧ n ≤ md) (hm : 1 ≤ m ∧ m ≤ md) (e : Pa ab n = Pa ab m) : n = m := by
  rw [Pa_s h hn, Pa_s h hm] at e
  have := (List.append_inj' e rfl).2
  simpa using this
/-- a prefix of the way is the whole way, or lies on the way of the one above -/
theorem pfx_up {ab : Int → Int} {md m : Int} (h : UP ab md) (hm : 1 ≤ m ∧ m ≤ md) {u : List Int} (q : pfx u (Pa ab m)) : u = Pa ab m ∨ pfx u (Pa ab (ab m)) := by
  rw [Pa_s h hm] at q ⊢
  obtain ⟨w, e⟩ := q
  rcases List.eq_nil_or_concat w with rfl | ⟨w', b, rfl⟩
  · left; rw [List.append_nil] at e; exact e.symm
  · right
    rw [List.concat_eq_append, ← List.append_assoc] at e
    exact ⟨w', (List.append_inj' e rfl).1⟩
theorem Pa_le {ab : Int → Int} {md : Int} (h : UP ab md) : ∀ (f : Nat) (n : Int), n ≤ (f : Int) → n ≤ md → ∀ x ∈ Pa ab n, 1 ≤ x ∧ x ≤ n
  | 0, n, h1, h2, x, hx => by rw [Pa_0 _ (by omega)] at hx; cases hx
  | f + 1, n, h1, h2, x, hx => by
    by_cases c : n ≤ 0
    · rw [Pa_0 _ c] at hx; cases hx
    · have hu := h n (by omega) h2
      rw [Pa_s h ⟨by omega, h2⟩, List.mem_append, List.mem_singleton] at hx
      rcases hx with q | q
      · have := Pa_le h f (ab n) (by omega) (by omega) x q; omega
      · omega
