/-! the second screen counts each signed place once -/
theorem bt_k : ∀ k : Nat, k < 64 → (lI (shlI 1 (k : Int))).toBitVec = BitVec.twoPow 64 k := by decide +kernel
theorem lI_toI (x : Int64) : lI x.toInt = x := Int64.ofInt_toInt x
theorem andI_bt {a : Int} {k : Nat} (hk : k < 64) : andI a (shlI 1 (k : Int)) = 0 ↔ (lI a).toBitVec.getLsbD k = false := by
  unfold andI
  have h0 : (lI a &&& lI (shlI 1 (k : Int))).toInt = 0 ↔ (lI a &&& lI (shlI 1 (k : Int))) = 0 := by
    constructor
    · intro h
      have h2 := lI_toI (lI a &&& lI (shlI 1 (k : Int)))
      rw [h] at h2
      exact h2.symm
    · intro h; rw [h]; rfl
  rw [h0, ← Int64.toBitVec_inj, Int64.toBitVec_and, bt_k k hk, BitVec.and_twoPow]
  cases h : (lI a).toBitVec.getLsbD k
  · simp
  · simp only [if_true, Bool.true_eq_false, iff_false]
    intro h3
    have h4 := congrArg (fun b : BitVec 64 => b.getLsbD k) h3
    simp [hk] at h4
theorem orI_bt {a : Int} {k j : Nat} (hk : k < 64) : (lI (orI a (shlI 1 (k : Int)))).toBitVec.getLsbD j = ((lI a).toBitVec.getLsbD j || decide (k = j)) := by
  unfold orI
  rw [lI_toI, Int64.toBitVec_or, bt_k k hk, BitVec.getLsbD_or, BitVec.getLsbD_twoPow]
  simp [hk]
abbrev memP (mt : Int → Int) (p : Int) : Prop := andI (mt (Int.tdiv p 64)) (bt p) ≠ 0
abbrev adP (mt : Int → Int) (p : Int) : Int → Int := uF mt (Int.tdiv p 64) (orI (mt (Int.tdiv p 64)) (bt p))
theorem memP_iff (mt : Int → Int) {p : Int} (h : 0 ≤ p) : memP mt p ↔ (lI (mt (p / 64))).toBitVec.getLsbD (p % 64).toNat = true := by
  have e1 : Int.tdiv p 64 = p / 64 := Int.tdiv_eq_ediv_of_nonneg h
  have e2 : Int.tmod p 64 = p % 64 := Int.tmod_eq_emod_of_nonneg h
  have e3 : (((p % 64).toNat : Nat) : Int) = p % 64 := by omega
  unfold memP bt
  rw [e1, e2]
  generalize hk : (p % 64).toNat = k at e3 ⊢
  rw [← e3, Ne, andI_bt (by omega), Bool.not_eq_false]
theorem memP_ad (mt : Int → Int) {p q : Int} (hp : 0 ≤ p) (hq : 0 ≤ q) : memP (adP mt p) q ↔ memP mt q ∨ q = p := by
  have e1 : Int.tdiv p 64 = p / 64 := Int.tdiv_eq_ediv_of_nonneg hp
  have e2 : Int.tmod p 64 = p % 64 := Int.tmod_eq_emod_of_nonneg hp
  have e3 : (((p % 64).toNat : Nat) : Int) = p % 64 := by omega
  rw [memP_iff _ hq, memP_iff _ hq]
  unfold adP bt
  rw [e1, e2]
  generalize hk : (p % 64).toNat = k at e3
  rw [← e3]
  by_cases h : q / 64 = p / 64
  · rw [h, uF_s, orI_bt (by omega), Bool.or_eq_true, decide_eq_true_eq]
    constructor
    · rintro (a | a)
      · exact Or.inl a
      · right; omega
    · rintro (a | a)
      · exact Or.inl a
      · right; rw [a, hk]
  · rw [uF_n _ _ h]
    constructor
    · exact Or.inl
    · rintro (a | a)
      · exact a
      · exact absurd (by rw [a]) h
theorem memP_0 {mt : Int → Int} (h : ∀ j, 0 ≤ j → j < 30 → mt j = 0) {p : Int} (hp : 0 ≤ p ∧ p < 1920) : ¬ memP mt p := by
  rw [memP_iff _ hp.1, h _ (by omega) (by omega)]
  have : (lI 0).toBitVec = 0#64 := by decide
  rw [this]; simp
/-- the screen, and how many places of it are signed, after n acts of the row -/
noncomputable def sgR (rc rv : Int → Int) : Nat → Int → Int
  | 0 => fun _ => 0
  | n + 1 => if kOf (rc (n : Int)) = 4 then uF (sgR rc rv n) (pix (tOf (rc (n : Int)))) (rv (n : Int)) else sgR rc rv n
noncomputable def sdR (rc rv : Int → Int) : Nat → Int
  | 0 => 0
  | n + 1 => if kOf (rc (n : Int)) = 4 ∧ sgR rc rv n (pix (tOf (rc (n : Int)))) = 0 then sdR rc rv n + 1 else sdR rc rv n
noncomputable def dR (rc rv mt : Int → Int) : Nat → Int
  | 0 => 0
  | n + 1 => if kOf (rc (n : Int)) = 4 ∧ ¬ memP mt (pix (tOf (rc (n : Int)))) ∧ sgR rc rv n (pix (tOf (rc (n : Int)))) = 0 then dR rc rv mt n + 1 else dR rc rv mt n
theorem sgR_s (rc rv : Int → Int) (n : Nat) : sgR rc rv (n + 1) = if kOf (rc (n : Int)) = 4 then uF (sgR rc rv n) (pix (tOf (rc (n : Int)))) (rv (n : Int)) else sgR rc rv n := rfl
theorem sdR_s (rc rv : Int → Int) (n : Nat) : sdR rc rv (n + 1) = if kOf (rc (n : Int)) = 4 ∧ sgR rc rv n (pix (tOf (rc (n : Int)))) = 0 then sdR rc rv n + 1 else sdR rc rv n := rfl
theorem dR_s (rc rv mt : Int → Int) (n : Nat) : dR rc rv mt (n + 1) = if kOf (rc (n : Int)) = 4 ∧ ¬ memP mt (pix (tOf (rc (n : Int)))) ∧ sgR rc rv n (pix (tOf (rc (n : Int)))) = 0 then dR rc rv mt n + 1 else dR rc rv mt n := rfl
theorem dR_ad {rc rv mt : Int → Int} {p : Int} (hp : 0 ≤ p) : ∀ n : Nat, (∀ j : Nat, j < n → kOf (rc (j : Int)) = 4 → 0 ≤ pix (tOf (rc (j : Int))) ∧ rv (j : Int) ≠ 0) →
    dR rc rv (adP mt p) n = dR rc rv mt n - (if ¬ memP mt p ∧ sgR rc rv n p ≠ 0 then 1 else 0)
  | 0, _ => by
    unfold dR sgR
    rw [if_neg (fun q => q.2 rfl)]; rfl
  | n + 1, h => by
    have ih := dR_ad (mt := mt) hp n (fun j a b => h j (by omega) b)
    rw [dR_s, dR_s, sgR_s, ih]
    by_cases k : kOf (rc (n : Int)) = 4
    · obtain ⟨h1, h2⟩ := h n (by omega) k
      have hm := memP_ad mt (p := p) (q := pix (tOf (rc (n : Int)))) hp h1
      generalize hr : pix (tOf (rc (n : Int))) = r at h1 hm ⊢
      rw [if_pos k]
      by_cases e : r = p
      · subst e
        rw [uF_s, if_neg (fun q => q.2.1 (hm.mpr (Or.inr rfl)))]
        by_cases m : memP mt r
        · rw [if_neg (fun q => q.1 m), if_neg (fun q => q.2.1 m), if_neg (fun q => q.1 m)]
        · rw [if_pos (show ¬ memP mt r ∧ rv (n : Int) ≠ 0 from ⟨m, h2⟩)]
          by_cases z : sgR rc rv n r = 0
          · rw [if_neg (fun q => q.2 z), if_pos ⟨k, m, z⟩]; omega
          · rw [if_pos ⟨m, z⟩, if_neg (fun q => z q.2.2)]
      · rw [uF_n _ _ (fun q => e q.symm)]
        have hm2 : memP (adP mt p) r ↔ memP mt r := hm.trans ⟨fun q => q.elim id (fun w => absurd w e), Or.inl⟩
        by_cases m : kOf (rc (n : Int)) = 4 ∧ ¬ memP mt r ∧ sgR rc rv n r = 0
        · rw [if_pos (show kOf (rc (n : Int)) = 4 ∧ ¬ memP (adP mt p) r ∧ sgR rc rv n r = 0 from ⟨m.1, fun q => m.2.1 (hm2.mp q), m.2.2⟩), if_pos m]; omega
        · rw [if_neg (fun q => m ⟨q.1, fun w => q.2.1 (hm2.mpr w), q.2.2⟩), if_neg m]
    · have g : ∀ (P : Prop) [Decidable P] (x y : Int), (if kOf (rc (n : Int)) = 4 ∧ P then x else y) = y := fun P _ x y => if_neg (fun q => k q.1)
      rw [if_neg k, g, g]
theorem scF_d {rc rv sg : Int → Int} : ∀ (n : Nat) (mt : Int → Int) (sm : Int), (∀ j : Nat, j < n → kOf (rc (j : Int)) = 4 → 0 ≤ pix (tOf (rc (j : Int))) ∧ rv (j : Int) ≠ 0) →
    (∀ p, 0 ≤ p → ¬ memP mt p → sg p = sgR rc rv n p) → scF rc rv sg n mt sm = sm + dR rc rv mt n
  | 0, mt, sm, _, _ => by unfold scF dR; omega
  | n + 1, mt, sm, h, hs => by
    rw [dR_s]
    unfold scF
    by_cases k : kOf (rc (n : Int)) = 4
    · obtain ⟨h1, h2⟩ := h n (by omega) k
      rw [if_pos k]
      have hm := fun (q : Int) (hq : 0 ≤ q) => memP_ad mt (p := pix (tOf (rc (n : Int)))) (q := q) h1 hq
      have hd := dR_ad (rc := rc) (rv := rv) (mt := mt) h1 n (fun j a b => h j (by omega) b)
      have hs2 : ∀ p, 0 ≤ p → ¬ memP mt p → sg p = uF (sgR rc rv n) (pix (tOf (rc (n : Int)))) (rv (n : Int)) p := fun p a b => by
        have := hs p a b
        rw [sgR_s] at this
        rw [if_pos k] at this; exact this
      generalize hr : pix (tOf (rc (n : Int))) = r at h1 hm hd hs2 ⊢
      rw [show uF mt (Int.tdiv r 64) (orI (mt (Int.tdiv r 64)) (bt r)) = adP mt r from rfl]
      rw [scF_d n (adP mt r) _ (fun j a b => h j (by omega) b) (fun q a b => by
        have b1 : ¬ memP mt q := fun w => b ((hm q a).mpr (Or.inl w))
        have b2 : ¬ q = r := fun w => b ((hm q a).mpr (Or.inr w))
        rw [hs2 q a b1, uF_n _ _ b2]), hd]
      by_cases m : memP mt r
      · rw [if_neg (fun q => m q.1), if_neg (fun q => q.1 m), if_neg (fun q => q.2.1 m)]; omega
      · have m' : andI (mt (Int.tdiv r 64)) (bt r) = 0 := Decidable.not_not.mp m
        have e := hs2 r h1 m
        rw [uF_s] at e
        rw [if_pos ⟨m', e⟩]
        by_cases z : sgR rc rv n r = 0
        · rw [if_neg (fun q => q.2 z), if_pos ⟨k, m, z⟩]; omega
        · rw [if_pos ⟨m, z⟩, if_neg (fun q => z q.2.2)]; omega
    · rw [if_neg k, if_neg (fun q => k q.1)]
      refine scF_d n mt sm (fun j a b => h j (by omega) b) (fun p a b => ?_)
      have := hs p a b
      rw [sgR_s] at this
      rw [if_neg k] at this; exact this
theorem dR_0 {rc rv mt : Int → Int} (h0 : ∀ j, 0 ≤ j → j < 30 → mt j = 0) : ∀ n : Nat, (∀ j : Nat, j < n → kOf (rc (j : Int)) = 4 → 0 ≤ pix (tOf (rc (j : Int))) ∧ pix (tOf (rc (j : Int))) < 1920) → dR rc rv mt n = sdR rc rv n
  | 0, _ => rfl
  | n + 1, h => by
    have ih := dR_0 (rv := rv) h0 n (fun j a b => h j (by omega) b)
    rw [dR_s, sdR_s, ih]
    by_cases k : kOf (rc (n : Int)) = 4 ∧ sgR rc rv n (pix (tOf (rc (n : Int)))) = 0
    · rw [if_pos ⟨k.1, memP_0 h0 (h n (by omega) k.1), k.2⟩, if_pos k]
    · rw [if_neg (fun q => k ⟨q.1, q.2.2⟩), if_neg k]
/-- ALL SIGNED PLACES COUNT -/
theorem scF_all {rc rv sg mt : Int → Int} {n : Nat} (h : ∀ j : Nat, j < n → kOf (rc (j : Int)) = 4 → (0 ≤ pix (tOf (rc (j : Int))) ∧ pix (tOf (rc (j : Int))) < 1920) ∧ rv (j : Int) ≠ 0) (h0 : ∀ j, 0 ≤ j → j < 30 → mt j = 0)
    (hs : ∀ p, 0 ≤ p → sg p = sgR rc rv n p) : scF rc rv sg n mt 0 = sdR rc rv n := by
  rw [scF_d n mt 0 (fun j a b => ⟨(h j a b).1.1, (h j a b).2⟩) (fun p a _ => hs p a), dR_0 h0 n (fun j a b => (h j a b).1)]; omega
