/-! the second writing's records: gathering, merging, counting -/
abbrev kOf (c : Int) : Int := Int.tdiv c 4000000
abbrev tOf (c : Int) : Int := Int.tmod c 4000000
def gaN (co : Int → Int) : Nat → Int
  | 0 => 0
  | n + 1 => if kOf (co (n : Int)) = 0 ∨ kOf (co (n : Int)) = 1 then gaN co n + 1 else gaN co n
def gaS (co so : Int → Int) : Nat → Int → Int
  | 0 => so
  | n + 1 => if kOf (co (n : Int)) = 0 ∨ kOf (co (n : Int)) = 1 then uF (gaS co so n) (gaN co n) (n : Int) else gaS co so n
theorem gaN_r (co : Int → Int) : ∀ n : Nat, 0 ≤ gaN co n ∧ gaN co n ≤ (n : Int)
  | 0 => by unfold gaN; omega
  | n + 1 => by
    have h := gaN_r co n
    unfold gaN
    split <;> omega
theorem gaS_r (co so : Int → Int) : ∀ (n : Nat) (j : Int), 0 ≤ j → j < gaN co n → 0 ≤ gaS co so n j ∧ gaS co so n j < (n : Int)
  | 0, j, h0, h1 => by unfold gaN at h1; omega
  | n + 1, j, h0, h1 => by
    have ih := gaS_r co so n
    unfold gaN at h1
    unfold gaS
    by_cases h : kOf (co (n : Int)) = 0 ∨ kOf (co (n : Int)) = 1
    · rw [if_pos h] at h1 ⊢
      by_cases hj : j = gaN co n
      · rw [hj, uF_s]; omega
      · rw [uF_n _ _ hj]; have := ih j h0 (by omega); omega
    · rw [if_neg h] at h1 ⊢
      have := ih j h0 h1; omega
theorem gaN_s {co : Int → Int} {i : Int} (h : 0 ≤ i) : gaN co (i + 1).toNat = if kOf (co i) = 0 ∨ kOf (co i) = 1 then gaN co i.toNat + 1 else gaN co i.toNat := by
  rw [show (i + 1).toNat = i.toNat + 1 by omega]
  conv => lhs; unfold gaN
  rw [Int.toNat_of_nonneg h]
theorem gaS_s {co so : Int → Int} {i : Int} (h : 0 ≤ i) : gaS co so (i + 1).toNat = if kOf (co i) = 0 ∨ kOf (co i) = 1 then uF (gaS co so i.toNat) (gaN co i.toNat) i else gaS co so i.toNat := by
  rw [show (i + 1).toNat = i.toNat + 1 by omega]
  conv => lhs; unfold gaS
  rw [Int.toNat_of_nonneg h]
/-- does the left one come next -/
abbrev tkL (co so : Int → Int) (mid en l r : Int) : Prop := en ≤ r ∨ (l < mid ∧ tOf (co (so l)) ≤ tOf (co (so r)))
def mg (co so : Int → Int) (mid en : Int) : Nat → Int → Int → Int → (Int → Int) → Int → Int
  | 0, _, _, _, ot => ot
  | n + 1, to, l, r, ot => if tkL co so mid en l r then mg co so mid en n (to + 1) (l + 1) r (uF ot to (so l)) else mg co so mid en n (to + 1) l (r + 1) (uF ot to (so r))
def maF (co so : Int → Int) (w fd : Int) : Nat → Int → (Int → Int) → Int → Int
  | 0, _, ot => ot
  | n + 1, fr, ot => if fr < fd then maF co so w fd n (fr + 2 * w) (mg co so (min (fr + w) fd) (min (min (fr + w) fd + w) fd) (min (min (fr + w) fd + w) fd - fr).toNat fr fr (min (fr + w) fd) ot) else ot
def srt (co : Int → Int) (fd : Int) : Nat → Int → (Int → Int) → (Int → Int) → Int → Int
  | 0, _, so, _ => so
  | n + 1, w, so, ot => if w < fd then srt co fd n (w * 2) (maF co so w fd fd.toNat 0 ot) so else so
/-- ranges -/
theorem mg_r {co so : Int → Int} {mid en lo k : Int} (hs : ∀ j, lo ≤ j → j < en → 0 ≤ so j ∧ so j < k) : ∀ (n : Nat) (to l r : Int) (ot : Int → Int), lo ≤ l → l ≤ mid → mid ≤ r → r ≤ en → to = l + r - mid → to + (n : Int) ≤ en →
    (∀ j, lo ≤ j → j < to → 0 ≤ ot j ∧ ot j < k) → ∀ j, lo ≤ j → j < to + (n : Int) → 0 ≤ mg co so mid en n to l r ot j ∧ mg co so mid en n to l r ot j < k
  | 0, to, l, r, ot, _, _, _, _, _, _, h, j, h0, h1 => by unfold mg; exact h j h0 (by omega)
  | n + 1, to, l, r, ot, a1, a2, a3, a4, a5, a6, h, j, h0, h1 => by
    unfold mg
    by_cases ht : tkL co so mid en l r
    · rw [if_pos ht]
      have hl : l < mid := by rcases ht with q | q <;> omega
      refine mg_r hs n (to + 1) (l + 1) r _ (by omega) (by omega) a3 a4 (by omega) (by omega) (fun j h0 h1 => ?_) j h0 (by omega)
      by_cases hj : j = to
      · rw [hj, uF_s]; exact hs l a1 (by omega)
      · rw [uF_n _ _ hj]; exact h j h0 (by omega)
    · rw [if_neg ht]
      have hr : r < en := by rcases Int.lt_or_le r en with q | q; exact q; exact absurd (Or.inl q) ht
      refine mg_r hs n (to + 1) l (r + 1) _ a1 a2 (by omega) (by omega) (by omega) (by omega) (fun j h0 h1 => ?_) j h0 (by omega)
      by_cases hj : j = to
      · rw [hj, uF_s]; exact hs r (by omega) hr
      · rw [uF_n _ _ hj]; exact h j h0 (by omega)
theorem mg_o {co so : Int → Int} {mid en : Int} : ∀ (n : Nat) (to l r : Int) (ot : Int → Int) (j : Int), j < to ∨ to + (n : Int) ≤ j → mg co so mid en n to l r ot j = ot j
  | 0, to, l, r, ot, j, _ => rfl
  | n + 1, to, l, r, ot, j, h => by
    unfold mg
    split
    · rw [mg_o n (to + 1) (l + 1) r _ j (by omega), uF_n _ _ (by omega)]
    · rw [mg_o n (to + 1) l (r + 1) _ j (by omega), uF_n _ _ (by omega)]
theorem maF_r {co so : Int → Int} {w fd k : Int} (hw : 1 ≤ w) (hs : ∀ j, 0 ≤ j → j < fd → 0 ≤ so j ∧ so j < k) : ∀ (n : Nat) (fr : Int) (ot : Int → Int), 0 ≤ fr → fd ≤ fr + (n : Int) →
    (∀ j, 0 ≤ j → j < fr → j < fd → 0 ≤ ot j ∧ ot j < k) → ∀ j, 0 ≤ j → j < fd → 0 ≤ maF co so w fd n fr ot j ∧ maF co so w fd n fr ot j < k
  | 0, fr, ot, _, hn, h, j, h0, h1 => by unfold maF; exact h j h0 (by omega) h1
  | n + 1, fr, ot, hf, hn, h, j, h0, h1 => by
    unfold maF
    by_cases hc : fr < fd
    · rw [if_pos hc]
      generalize hm : min (fr + w) fd = mid
      generalize he : min (mid + w) fd = en
      refine maF_r hw hs n (fr + 2 * w) _ (by omega) (by omega) (fun j h0 h1 h2 => ?_) j h0 h1
      by_cases hj : j < fr
      · rw [mg_o _ _ _ _ _ _ (Or.inl hj)]; exact h j h0 hj h2
      · exact mg_r (lo := fr) (k := k) (fun q q1 q2 => hs q (by omega) (by omega)) (en - fr).toNat fr fr mid ot (by omega) (by omega) (by omega) (by omega) (by omega) (by omega) (fun q q1 q2 => by omega) j (by omega) (by omega)
    · rw [if_neg hc]; exact h j h0 (by omega) h1
abbrev latA (co so : Int → Int) (fd i : Int) : Prop := fd ≤ i + 1 ∨ tOf (co (so (i + 1))) ≠ tOf (co (so i))
abbrev smeA (co ve ky fv so : Int → Int) (hd i rc : Int) : Prop := rc < hd ∧ ky rc = tOf (co (so i)) ∧ fv rc = ve (so i)
def ctR (co ve ky fv so : Int → Int) (hd fd : Int) : Nat → Int → Int → Int → Int
  | 0, _, _, sm => sm
  | n + 1, i, rc, sm => if latA co so fd i ∧ kOf (co (so i)) = 0 then ctR co ve ky fv so hd fd n (i + 1) (rc + 1) (sm + if smeA co ve ky fv so hd i rc then 1 else 0) else ctR co ve ky fv so hd fd n (i + 1) rc sm
theorem ctR_t {co ve ky fv so : Int → Int} {hd fd i rc sm : Int} (hi : i < fd) (h : latA co so fd i ∧ kOf (co (so i)) = 0) : ctR co ve ky fv so hd fd (fd - i).toNat i rc sm = ctR co ve ky fv so hd fd (fd - (i + 1)).toNat (i + 1) (rc + 1) (sm + if smeA co ve ky fv so hd i rc then 1 else 0) := by
  rw [show (fd - i).toNat = (fd - (i + 1)).toNat + 1 by omega]
  conv => lhs; unfold ctR
  rw [if_pos h]
theorem ctR_f {co ve ky fv so : Int → Int} {hd fd i rc sm : Int} (hi : i < fd) (h : ¬ (latA co so fd i ∧ kOf (co (so i)) = 0)) : ctR co ve ky fv so hd fd (fd - i).toNat i rc sm = ctR co ve ky fv so hd fd (fd - (i + 1)).toNat (i + 1) rc sm := by
  rw [show (fd - i).toNat = (fd - (i + 1)).toNat + 1 by omega]
  conv => lhs; unfold ctR
  rw [if_neg h]
theorem ctR_e {co ve ky fv so : Int → Int} {hd fd i rc sm : Int} (hi : fd ≤ i) : ctR co ve ky fv so hd fd (fd - i).toNat i rc sm = sm := by
  rw [show (fd - i).toNat = 0 by omega]; rfl
theorem mg_t {co so : Int → Int} {mid en to l r : Int} {ot : Int → Int} (hi : to < en) (h : tkL co so mid en l r) : mg co so mid en (en - to).toNat to l r ot = mg co so mid en (en - (to + 1)).toNat (to + 1) (l + 1) r (uF ot to (so l)) := by
  rw [show (en - to).toNat = (en - (to + 1)).toNat + 1 by omega]
  conv => lhs; unfold mg
  rw [if_pos h]
theorem mg_f {co so : Int → Int} {mid en to l r : Int} {ot : Int → Int} (hi : to < en) (h : ¬ tkL co so mid en l r) : mg co so mid en (en - to).toNat to l r ot = mg co so mid en (en - (to + 1)).toNat (to + 1) l (r + 1) (uF ot to (so r)) := by
  rw [show (en - to).toNat = (en - (to + 1)).toNat + 1 by omega]
  conv => lhs; unfold mg
  rw [if_neg h]
theorem mg_e {co so : Int → Int} {mid en to l r : Int} {ot : Int → Int} (hi : en ≤ to) : mg co so mid en (en - to).toNat to l r ot = ot := by
  rw [show (en - to).toNat = 0 by omega]; rfl
