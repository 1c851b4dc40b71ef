theorem smC_s (ab tr : Int → Int) (s : Int) (f : Int → Int) (n : Nat) : smC ab tr s f (n + 1) = smC ab tr s f n + (if tr ((n : Int) + 1) ≠ 0 ∧ ab ((n : Int) + 1) = s then f ((n : Int) + 1) else 0) := rfl
theorem smC_low {ab tr f : Int → Int} {md s : Int} (hu : UP ab md) : ∀ n : Nat, (n : Int) ≤ s → s ≤ md → smC ab tr s f n = 0
  | 0, _, _ => rfl
  | n + 1, h, hm => by
    have := hu ((n : Int) + 1) (by omega) (by omega)
    rw [smC_s, smC_low hu n (by omega) hm, if_neg (fun q => by omega)]; rfl
theorem ms_ok {ab tr : Int → Int} {md : Int} (hmd : 0 ≤ md) (hu : UP ab md) (hc : ∀ j, 1 ≤ j → j ≤ md → tr j ≠ 0 → ab j = 0 ∨ tr (ab j) ≠ 0) :
    ∀ (n : Nat) (sp : Int → Int), (n : Int) ≤ md → (∀ s, 0 ≤ s → s ≤ md → sp s = 1 + (smC ab tr s (szS ab tr md) md.toNat - smC ab tr s (szS ab tr md) n)) → ∀ s, 1 ≤ s → s ≤ md → tr s ≠ 0 → msF ab tr n sp s = szS ab tr md s
  | 0, sp, h, hs, s, a, b, c => by
    unfold msF
    rw [hs s (by omega) b, sz_s hmd hu hc ⟨a, b⟩ c, show uC ab tr md s md = uC ab tr md s ((md.toNat : Nat) : Int) by rw [Int.toNat_of_nonneg hmd], uC_sm hu md.toNat (by omega)]
    show 1 + (_ - 0) = _
    omega
  | n + 1, sp, h, hs, s, a, b, c => by
    unfold msF
    have hn := hu ((n : Int) + 1) (by omega) (by omega)
    refine ms_ok hmd hu hc n _ (by omega) (fun s' a' b' => ?_) s a b c
    have h' := hs s' a' b'
    rw [smC_s] at h'
    by_cases t : tr ((n : Int) + 1) ≠ 0
    · rw [if_pos t]
      have hk := hs ((n : Int) + 1) (by omega) (by omega)
      rw [smC_low hu (n + 1) (by omega) (by omega)] at hk
      have hz := sz_s hmd hu hc (s := (n : Int) + 1) ⟨by omega, by omega⟩ t
      rw [show uC ab tr md ((n : Int) + 1) md = uC ab tr md ((n : Int) + 1) ((md.toNat : Nat) : Int) by rw [Int.toNat_of_nonneg hmd], uC_sm hu md.toNat (by omega)] at hz
      by_cases e : s' = ab ((n : Int) + 1)
      · rw [e, uF_s, ← e, h', if_pos ⟨t, e.symm⟩, hk]; omega
      · rw [uF_n _ _ e, h', if_neg (fun q => e q.2.symm)]; omega
    · rw [if_neg t, h', if_neg (fun q => t q.1)]; omega
noncomputable abbrev bsS (ab tr : Int → Int) (md s : Int) : Int := if s = 0 then 0 else rkS ab tr md s + 1
theorem nx_ok {ab tr sp nx : Int → Int} {md : Int} (hmd : 0 ≤ md) (hu : UP ab md) (hc : ∀ j, 1 ≤ j → j ≤ md → tr j ≠ 0 → ab j = 0 ∨ tr (ab j) ≠ 0) (hsp : ∀ s, 1 ≤ s → s ≤ md → tr s ≠ 0 → sp s = szS ab tr md s) :
    ∀ n : Nat, (n : Int) ≤ md → ∀ s, (s = 0 ∨ (1 ≤ s ∧ s ≤ (n : Int) ∧ tr s ≠ 0)) → nxF ab tr sp nx n s = bsS ab tr md s + smC ab tr s (szS ab tr md) n
  | 0, h, s, hs => by
    unfold nxF
    have : s = 0 := by omega
    rw [this, uF_s]; rfl
  | n + 1, h, s, hs => by
    have ih := nx_ok (nx := nx) hmd hu hc hsp n (by omega)
    have hn := hu ((n : Int) + 1) (by omega) (by omega)
    unfold nxF
    rw [smC_s]
    by_cases t : tr ((n : Int) + 1) ≠ 0
    · rw [if_pos t]
      have hpar : ab ((n : Int) + 1) = 0 ∨ (1 ≤ ab ((n : Int) + 1) ∧ ab ((n : Int) + 1) ≤ (n : Int) ∧ tr (ab ((n : Int) + 1)) ≠ 0) := by
        rcases hc _ (show (1 : Int) ≤ (n : Int) + 1 by omega) (by omega) t with q | q
        · exact Or.inl q
        · by_cases z : ab ((n : Int) + 1) = 0
          · exact Or.inl z
          · exact Or.inr ⟨by omega, by omega, q⟩
      have hp := ih _ hpar
      have hr := rk_s hmd hu hc (s := ab ((n : Int) + 1)) (d := (n : Int) + 1) ⟨by omega, by omega⟩ rfl (hpar.elim Or.inl (fun q => Or.inr ⟨q.1, by omega, q.2.2⟩))
      rw [Int.add_sub_cancel, uC_sm hu n (by omega)] at hr
      by_cases e : s = (n : Int) + 1
      · rw [e, uF_s, smC_low hu n (by omega) (by omega), if_neg (fun q => by omega), hp]
        unfold bsS
        rw [if_neg (show ¬ ((n : Int) + 1 = 0) by omega), hr]; omega
      · rw [uF_n _ _ e]
        by_cases f : s = ab ((n : Int) + 1)
        · rw [f, uF_s, hp, hsp _ (by omega) (by omega) t, if_pos ⟨t, rfl⟩]; omega
        · rw [uF_n _ _ f, if_neg (fun q => f q.2.symm), ih s (by omega)]; omega
    · rw [if_neg t, if_neg (fun q => t q.1)]
      have : s = 0 ∨ (1 ≤ s ∧ s ≤ (n : Int) ∧ tr s ≠ 0) := by
        rcases hs with q | q
        · exact Or.inl q
        · right
          have : s ≠ (n : Int) + 1 := fun e => by rw [e] at q; exact t q.2.2
          exact ⟨q.1, by omega, q.2.2⟩
      rw [ih s this]; omega
/-- THE SECOND's PLACE is the rank -/
theorem pl_rk {ab tr sp nx : Int → Int} {md : Int} (hmd : 0 ≤ md) (hu : UP ab md) (hc : ∀ j, 1 ≤ j → j ≤ md → tr j ≠ 0 → ab j = 0 ∨ tr (ab j) ≠ 0) (hsp : ∀ s, 1 ≤ s → s ≤ md → tr s ≠ 0 → sp s = szS ab tr md s) {n : Nat} (h : (n : Int) < md) (ht : tr ((n : Int) + 1) ≠ 0) :
    nxF ab tr sp nx n (ab ((n : Int) + 1)) = rkS ab tr md ((n : Int) + 1) := by
  have hn := hu ((n : Int) + 1) (by omega) (by omega)
  have hpar : ab ((n : Int) + 1) = 0 ∨ (1 ≤ ab ((n : Int) + 1) ∧ ab ((n : Int) + 1) ≤ (n : Int) ∧ tr (ab ((n : Int) + 1)) ≠ 0) := by
    rcases hc _ (show (1 : Int) ≤ (n : Int) + 1 by omega) (by omega) ht with q | q
    · exact Or.inl q
    · by_cases z : ab ((n : Int) + 1) = 0
      · exact Or.inl z
      · exact Or.inr ⟨by omega, by omega, q⟩
  have hr := rk_s hmd hu hc (s := ab ((n : Int) + 1)) (d := (n : Int) + 1) ⟨by omega, by omega⟩ rfl (hpar.elim Or.inl (fun q => Or.inr ⟨q.1, by omega, q.2.2⟩))
  rw [Int.add_sub_cancel, uC_sm hu n (by omega)] at hr
  rw [nx_ok hmd hu hc hsp n (by omega) _ hpar, hr]
