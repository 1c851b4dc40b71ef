abbrev Cc (co ky so : Int → Int) (hd fd i c : Int) : Prop := (0 ≤ c ∧ c ≤ hd) ∧ ∀ r, 0 ≤ r → r < hd → (r < c ↔ (fd ≤ i ∨ ky r < tOf (co (so i))))
theorem ctR_c {co ve ky fv so : Int → Int} {hd fd rk : Int} (hso : SO ky hd) (hS : ∀ i j, 0 ≤ i → i < j → j < fd → LX co (so i) (so j)) (hR : ∀ i, 0 ≤ i → i < fd → Rn co rk (so i)) (hU : ∀ x, Rn co rk x → ∃ i, 0 ≤ i ∧ i < fd ∧ so i = x)
    (hK : ∀ r, 0 ≤ r → r < hd → ∃ a, Rn co rk a ∧ tOf (co a) = ky r) (hL : ∀ a, Rn co rk a → (∀ b, Rn co rk b → tOf (co b) = tOf (co a) → b ≤ a) → ∀ u, (HO (ky, fv, hd) (tOf (co a)) u ↔ kOf (co a) = 0 ∧ u = ve a)) :
    ∀ (n : Nat) (i c : Int), 0 ≤ i → i + (n : Int) = fd → Cc co ky so hd fd i c → ctR co ve ky fv so hd fd n i c c = hd
  | 0, i, c, hi, hn, h => by
    unfold ctR
    obtain ⟨h1, h2⟩ := h
    rcases Int.lt_or_le c hd with q | q
    · have := (h2 c h1.1 q).mpr (Or.inl (by omega)); omega
    · omega
  | n + 1, i, c, hi, hn, h => by
    obtain ⟨h1, h2⟩ := h
    have hle : ∀ i j, 0 ≤ i → i ≤ j → j < fd → tOf (co (so i)) ≤ tOf (co (so j)) := fun i j a b d => by
      by_cases e : i = j
      · rw [e]; exact Int.le_refl _
      · rcases hS i j a (by omega) d with q | q <;> omega
    unfold ctR
    by_cases lat : latA co so fd i
    · -- the last act of its target
      have hlast : ∀ b, Rn co rk b → tOf (co b) = tOf (co (so i)) → b ≤ so i := fun b q e => by
        obtain ⟨j, j0, j1, j2⟩ := hU b q
        rcases Int.lt_trichotomy j i with w | w | w
        · rcases hS j i j0 w (by omega) with z | z
          · rw [j2] at z; omega
          · rw [j2] at z; omega
        · rw [← j2, w]; exact Int.le_refl _
        · exfalso
          have a1 := hle i (i + 1) hi (by omega) (by omega)
          have a2 := hle (i + 1) j (by omega) (by omega) j1
          rw [j2] at a2
          rcases lat with z | z <;> omega
      have hh := hL (so i) (hR i hi (by omega)) hlast
      have hbe : ∀ r, 0 ≤ r → r < hd → tOf (co (so i)) < ky r → ¬ (fd ≤ i + 1 ∨ ky r < tOf (co (so (i + 1)))) := fun r r0 r1 q => by
        obtain ⟨a, qa, ta⟩ := hK r r0 r1
        obtain ⟨j, j0, j1, j2⟩ := hU a qa
        have hj : i < j := by
          rcases Int.lt_or_le i j with z | z
          · exact z
          · have := hle j i j0 z (by omega); rw [j2] at this; omega
        have a2 := hle (i + 1) j (by omega) (by omega) j1
        rw [j2] at a2
        omega
      have hab : ∀ r, 0 ≤ r → r < hd → ky r ≤ tOf (co (so i)) → (fd ≤ i + 1 ∨ ky r < tOf (co (so (i + 1)))) := fun r r0 r1 q => by
        by_cases z : fd ≤ i + 1
        · exact Or.inl z
        · right
          have a1 := hle i (i + 1) hi (by omega) (by omega)
          rcases lat with w | w <;> omega
      by_cases k0 : kOf (co (so i)) = 0
      · rw [if_pos ⟨lat, k0⟩]
        obtain ⟨r, r0, r1, r2, r3⟩ := (hh (ve (so i))).mpr ⟨k0, rfl⟩
        dsimp only at r1 r2 r3
        have e : r = c := by
          have a := h2 r r0 r1
          rcases Int.lt_trichotomy r c with w | w | w
          · have := a.mp w; omega
          · exact w
          · have d := hso c r h1.1 w r1
            have g := (h2 c h1.1 (by omega)).mpr (Or.inr (by omega)); omega
        subst e
        rw [if_pos (show smeA co ve ky fv so hd i r from ⟨r1, r2, r3⟩)]
        refine ctR_c hso hS hR hU hK hL n (i + 1) (r + 1) (by omega) (by omega) ⟨by omega, fun q q0 q1 => ?_⟩
        constructor
        · intro w
          refine hab q q0 q1 ?_
          by_cases z : q = r
          · rw [z]; omega
          · have := hso q r q0 (by omega) r1; omega
        · intro w
          rcases Int.lt_or_le q (r + 1) with z | z
          · exact z
          · have := hso r q r0 (by omega) q1
            exact absurd w (hbe q q0 q1 (by omega))
      · rw [if_neg (fun q => k0 q.2)]
        refine ctR_c hso hS hR hU hK hL n (i + 1) c (by omega) (by omega) ⟨h1, fun q q0 q1 => ?_⟩
        have hne : ky q ≠ tOf (co (so i)) := fun z => k0 ((hh (fv q)).mp ⟨q, q0, q1, z, rfl⟩).1
        have a := h2 q q0 q1
        constructor
        · intro w; have := a.mp w; exact hab q q0 q1 (by omega)
        · intro w
          rcases Int.lt_or_le q c with z | z
          · exact z
          · have b : ¬ q < c := by omega
            rw [a] at b
            exact absurd w (hbe q q0 q1 (by omega))
    · rw [if_neg (fun q => lat q.1)]
      have l1 : i + 1 < fd := by
        rcases Int.lt_or_le (i + 1) fd with q | q
        · exact q
        · exact absurd (Or.inl q) lat
      have l2 : tOf (co (so (i + 1))) = tOf (co (so i)) := Decidable.not_not.mp (fun q => lat (Or.inr q))
      refine ctR_c hso hS hR hU hK hL n (i + 1) c (by omega) (by omega) ⟨h1, fun q q0 q1 => ?_⟩
      have a := h2 q q0 q1
      rw [l2]
      constructor
      · intro w; have := a.mp w; omega
      · intro w; exact a.mpr (by omega)
/-- ALL RECORDS COUNT -/
theorem ctR_all {rc rv so ot : Int → Int} {t : FSt} {n : Nat} (hn : (n : Int) ≤ 1000) (hF : FV t.1 t.2.2) (hH : ∀ x u, HO t x u ↔ hR rc rv n x u) :
    ctR rc rv t.1 t.2.1 (srt rc (gaN rc n) 1000 1 (gaS rc so n) ot) t.2.2 (gaN rc n) (gaN rc n).toNat 0 0 0 = t.2.2 := by
  have hg := gaN_r rc n
  obtain ⟨g1, g2, g3⟩ := gaS_f rc so n
  obtain ⟨s1, s2, s3⟩ := srt_so (co := rc) (fd := gaN rc n) (R := Rn rc (n : Int)) 1000 1 (gaS rc so n) ot (by omega) (by omega) (fun i j a b d _ => g1 i j a b d) (fun k _ i j a b d e => by omega) g2 g3
  obtain ⟨ky, fv, hd⟩ := t
  obtain ⟨hh, hso, hky⟩ := hF
  dsimp only at *
  have hK : ∀ r, 0 ≤ r → r < hd → ∃ a, Rn rc (n : Int) a ∧ tOf (rc a) = ky r := fun r r0 r1 => by
    have h1 := (hH (ky r) (fv r)).mp ⟨r, r0, r1, rfl, rfl⟩
    refine Classical.byContradiction (fun q => ?_)
    exact hR_no n (fun a w z => q ⟨a, w, z⟩) h1
  refine ctR_c (rk := (n : Int)) hso s1 s2 s3 hK (fun a qa hb u => ?_) (gaN rc n).toNat 0 0 (by omega) (by omega) ⟨by omega, fun r r0 r1 => ?_⟩
  · rw [hH]; exact hR_la n qa rfl hb
  · obtain ⟨a, qa, ta⟩ := hK r r0 r1
    obtain ⟨j, j0, j1, j2⟩ := s3 a qa
    constructor
    · intro w; omega
    · intro w
      exfalso
      by_cases e : j = 0
      · rw [e] at j2; rw [j2] at w; omega
      · rcases s1 0 j (by omega) (by omega) j1 with z | z <;> (rw [j2] at z; omega)
