def smC (ab tr : Int → Int) (s : Int) (f : Int → Int) : Nat → Int
  | 0 => 0
  | n + 1 => smC ab tr s f n + (if tr ((n : Int) + 1) ≠ 0 ∧ ab ((n : Int) + 1) = s then f ((n : Int) + 1) else 0)
abbrev viaC (ab tr : Int → Int) (s d m : Int) : Prop := ∃ c, (1 ≤ c ∧ c ≤ d) ∧ tr c ≠ 0 ∧ ab c = s ∧ pfx (Pa ab c) (Pa ab m)
noncomputable def uC (ab tr : Int → Int) (md s d : Int) : Int := cB (fun m => bP (tr m ≠ 0 ∧ viaC ab tr s d m)) md.toNat
theorem via_1 {ab : Int → Int} {md s c c' : Int} {m : List Int} (hu : UP ab md) (h1 : 1 ≤ c ∧ c ≤ md) (h2 : 1 ≤ c' ∧ c' ≤ md) (a1 : ab c = s) (a2 : ab c' = s) (p1 : pfx (Pa ab c) m) (p2 : pfx (Pa ab c') m) : c = c' := by
  rw [Pa_s hu h1, a1] at p1
  rw [Pa_s hu h2, a2] at p2
  obtain ⟨w, e⟩ := p1
  obtain ⟨w', e'⟩ := p2
  rw [e, List.append_assoc, List.append_assoc] at e'
  have := List.append_cancel_left e'
  simp at this
  exact this.1
theorem uC_sm {ab tr : Int → Int} {md s : Int} (hu : UP ab md) : ∀ d : Nat, (d : Int) ≤ md → uC ab tr md s (d : Int) = smC ab tr s (szS ab tr md) d
  | 0, _ => by
    unfold smC uC
    rw [cB_ext (q := fun _ => false) md.toNat (fun x a b => ?_)]
    · have : ∀ n : Nat, cB (fun _ => false) n = 0 := fun n => by
        induction n with
        | zero => rfl
        | succ n ih => unfold cB; rw [ih]; rfl
      exact this _
    · refine Bool.eq_false_iff.mpr (fun q => ?_)
      obtain ⟨-, c, c1, -⟩ := (bP_iff _).mp q
      omega
  | d + 1, h => by
    have ih := uC_sm (tr := tr) (s := s) hu d (by omega)
    unfold smC
    rw [← ih]
    by_cases c : tr ((d : Int) + 1) ≠ 0 ∧ ab ((d : Int) + 1) = s
    · rw [if_pos c]
      unfold uC szS
      refine cB_or md.toNat (fun x a b => ⟨?_, ?_⟩)
      · rw [bP_iff, bP_iff, bP_iff]
        constructor
        · rintro ⟨q, k, k1, k2, k3, k4⟩
          by_cases e : k = (d : Int) + 1
          · rw [e] at k4; exact Or.inr ⟨q, k4⟩
          · exact Or.inl ⟨q, k, by omega, k2, k3, k4⟩
        · rintro (⟨q, k, k1, k2, k3, k4⟩ | ⟨q, r⟩)
          · exact ⟨q, k, by omega, k2, k3, k4⟩
          · exact ⟨q, (d : Int) + 1, by omega, c.1, c.2, r⟩
      · rw [bP_iff, bP_iff]
        rintro ⟨⟨q, k, k1, k2, k3, k4⟩, -, r⟩
        have := via_1 hu (c := k) (c' := (d : Int) + 1) ⟨by omega, by omega⟩ ⟨by omega, by omega⟩ k3 c.2 k4 r
        omega
    · rw [if_neg c, Int.add_zero]
      unfold uC
      refine cB_ext md.toNat (fun x a b => ?_)
      rw [Bool.eq_iff_iff, bP_iff, bP_iff]
      constructor
      · rintro ⟨q, k, k1, k2, k3, k4⟩
        have : k ≠ (d : Int) + 1 := fun e => by rw [e] at k2 k3; exact c ⟨k2, k3⟩
        exact ⟨q, k, by omega, k2, k3, k4⟩
      · rintro ⟨q, k, k1, k2, k3, k4⟩
        exact ⟨q, k, by omega, k2, k3, k4⟩
theorem Pa_c {ab : Int → Int} {md s c : Int} (hu : UP ab md) (h1 : 1 ≤ c ∧ c ≤ md) (a1 : ab c = s) : Pa ab c = Pa ab s ++ [c] := by rw [Pa_s hu h1, a1]
/-- a span: oneself, and the spans of those right below -/
theorem sz_s {ab tr : Int → Int} {md s : Int} (hmd : 0 ≤ md) (hu : UP ab md) (hc : ∀ j, 1 ≤ j → j ≤ md → tr j ≠ 0 → ab j = 0 ∨ tr (ab j) ≠ 0) (hs : 1 ≤ s ∧ s ≤ md) (ht : tr s ≠ 0) : szS ab tr md s = 1 + uC ab tr md s md := by
  have h1 : cB (fun m => bP (m = s)) md.toNat = 1 := by rw [cB_one (y := s) md.toNat (fun x a b => bP_iff _), if_pos (by omega)]
  rw [← h1]
  unfold szS uC
  refine cB_or md.toNat (fun x a b => ⟨?_, ?_⟩)
  · rw [bP_iff, bP_iff, bP_iff]
    constructor
    · rintro ⟨q, r⟩
      by_cases e : x = s
      · exact Or.inl e
      · right
        obtain ⟨c, c1, c2, c3, c4⟩ := ch_on hu hc ⟨by omega, hs.2⟩ x.toNat x (by omega) a (by omega) q r (fun z => e z.symm)
        exact ⟨q, c, c1, c2, c3, c4⟩
    · rintro (e | ⟨q, c, c1, c2, c3, c4⟩)
      · rw [e]; exact ⟨ht, pfx_rf _⟩
      · exact ⟨q, pfx_tr (by rw [Pa_c hu c1 c3]; exact ⟨[c], rfl⟩) c4⟩
  · rw [bP_iff, bP_iff]
    rintro ⟨e, q, c, c1, c2, c3, c4⟩
    rw [e] at c4
    have := (pfx_len c4).1
    rw [Pa_c hu c1 c3, List.length_append] at this
    simp at this
    omega
/-- a rank: the one's above, itself, and the spans of those before one -/
theorem rk_s {ab tr : Int → Int} {md s d : Int} (hmd : 0 ≤ md) (hu : UP ab md) (hc : ∀ j, 1 ≤ j → j ≤ md → tr j ≠ 0 → ab j = 0 ∨ tr (ab j) ≠ 0) (hd : 1 ≤ d ∧ d ≤ md) (ha : ab d = s) (hs : s = 0 ∨ (1 ≤ s ∧ s ≤ md ∧ tr s ≠ 0)) :
    rkS ab tr md d = (if s = 0 then 0 else rkS ab tr md s + 1) + uC ab tr md s (d - 1) := by
  have hud := hu d hd.1 hd.2
  have hpd := Pa_c hu hd ha
  have h0 : (if s = 0 then (0 : Int) else rkS ab tr md s + 1) = cB (fun m => bP (tr m ≠ 0 ∧ (plt (Pa ab m) (Pa ab s) ∨ m = s))) md.toNat := by
    by_cases z : s = 0
    · rw [if_pos z]
      have e : cB (fun m => bP (tr m ≠ 0 ∧ (plt (Pa ab m) (Pa ab s) ∨ m = s))) md.toNat = cB (fun m => bP (m = 0)) md.toNat := by
        refine cB_ext md.toNat (fun x a b => ?_)
        rw [Bool.eq_iff_iff, bP_iff, bP_iff, z, Pa_0 _ (Int.le_refl 0)]
        exact ⟨fun q => q.2.elim (fun w => (plt_n _ w).elim) id, fun q => by omega⟩
      rw [e, cB_one (y := 0) md.toNat (fun x a b => bP_iff _), if_neg (by omega)]
    · rw [if_neg z]
      have hs1 := hs.resolve_left z
      have h1 : cB (fun m => bP (m = s)) md.toNat = 1 := by rw [cB_one (y := s) md.toNat (fun x a b => bP_iff _), if_pos (by omega)]
      rw [← h1]
      unfold rkS
      refine (cB_or md.toNat (fun x a b => ⟨?_, ?_⟩)).symm
      · rw [bP_iff, bP_iff, bP_iff]
        constructor
        · rintro ⟨q, r | r⟩
          · exact Or.inl ⟨q, r⟩
          · exact Or.inr r
        · rintro (⟨q, r⟩ | r)
          · exact ⟨q, Or.inl r⟩
          · rw [r]; exact ⟨hs1.2.2, Or.inr rfl⟩
      · rw [bP_iff, bP_iff]
        rintro ⟨⟨q, r⟩, e⟩
        rw [e] at r; exact plt_irr _ r
  rw [h0]
  unfold rkS uC
  refine cB_or md.toNat (fun x a b => ⟨?_, ?_⟩)
  · rw [bP_iff, bP_iff, bP_iff, hpd]
    constructor
    · rintro ⟨q, r⟩
      rcases plt_tot (Pa ab x) (Pa ab s) with w | w | w
      · exact Or.inl ⟨q, Or.inl w⟩
      · left
        refine ⟨q, Or.inr ?_⟩
        rcases hs with z | z
        · rw [z, Pa_0 _ (Int.le_refl 0), Pa_s hu ⟨a, by omega⟩] at w; simp at w
        · exact Pa_inj hu ⟨a, by omega⟩ ⟨z.1, z.2.1⟩ w
      · right
        rcases plt_d w with v | v
        · have hne : s ≠ x := fun e => by rw [e] at w; exact plt_irr _ w
          obtain ⟨c, c1, c2, c3, c4⟩ := ch_on hu hc ⟨by omega, by omega⟩ x.toNat x (by omega) a (by omega) q v hne
          refine ⟨q, c, ?_, c2, c3, c4⟩
          obtain ⟨t, e⟩ := c4
          rw [e, Pa_c hu c1 c3, List.append_assoc, plt_l] at r
          rcases plt_c.mp r with g | g
          · omega
          · exact (plt_n _ g.2).elim
        · have := v [d] []
          rw [List.append_nil] at this
          exact (plt_irr _ (plt_tr r this)).elim
    · rintro (⟨q, r | r⟩ | ⟨q, c, c1, c2, c3, c4⟩)
      · exact ⟨q, plt_tr r (plt_app _ _ _)⟩
      · rw [r] at q ⊢; exact ⟨q, plt_app _ _ _⟩
      · obtain ⟨t, e⟩ := c4
        refine ⟨q, ?_⟩
        rw [e, Pa_c hu ⟨c1.1, by omega⟩ c3, List.append_assoc, plt_l]
        exact plt_c.mpr (Or.inl (by omega))
  · rw [bP_iff, bP_iff]
    rintro ⟨⟨q, r⟩, -, c, c1, c2, c3, c4⟩
    obtain ⟨t, e⟩ := c4
    rw [Pa_c hu ⟨c1.1, by omega⟩ c3, List.append_assoc] at e
    rcases r with r | r
    · rw [e] at r
      exact plt_irr _ (plt_tr r (plt_app _ _ _))
    · rw [r] at e
      have := congrArg List.length e
      rw [List.length_append] at this
      simp at this
