/-! the walk, as a step on numbers -/
def neg1 (v : Int) : Int := if v < 0 then 1 else 0
def dgt (sz va : Int → Int) (n i : Int) : Int := Int.tmod (Int.tdiv ((Int.natAbs (va n) : Nat) : Int) (pw (sz n - 1 - i))) 10
def sgn (sz va : Int → Int) (n i : Int) : Int := if i < neg1 (va n) then 45 else 48 + dgt sz va n (i - neg1 (va n))
def dlen (sz va : Int → Int) (n pl : Int) : Int := min (neg1 (va n) + sz n) (81 - Int.tmod pl 100)
def flF (f : Int → Int) (k n : Int) (g : Int → Int) : Int → Int := fun j => if k ≤ j ∧ j < k + n then g (j - k) else f j
theorem flF_0 (f : Int → Int) (k : Int) (g : Int → Int) : flF f k 0 g = f := by
  funext j; unfold flF; rw [if_neg (by omega)]
theorem flF_s (f : Int → Int) {k n : Int} (g : Int → Int) (hn : 0 ≤ n) {x : Int} (hx : x = g n) : uF (flF f k n g) (k + n) x = flF f k (n + 1) g := by
  funext j; unfold flF uF
  by_cases h : j = k + n
  · rw [if_pos h, if_pos (by omega), hx, h, show k + n - k = n by omega]
  · rw [if_neg h]; dsimp only
    by_cases h2 : k ≤ j ∧ j < k + n
    · rw [if_pos h2, if_pos (by omega)]
    · rw [if_neg h2, if_neg (by omega)]
def dpN (cp k len : Int) : Int := min len (cp - k)
def dpO (cp k len : Int) : Int := if k + len ≤ cp then 1 else 2
def soO (cp k key : Int) : Int := if 0 ≤ key ∧ key < 1000000 ∧ k < cp then 1 else 2
def soK (cp k key : Int) : Int := if 0 ≤ key ∧ key < 1000000 then addN cp k else k
def soF (cp k key : Int) (f : Int → Int) (x : Int) : Int → Int := if 0 ≤ key ∧ key < 1000000 then addF cp k f x else f
theorem neg1_r (v : Int) : 0 ≤ neg1 v ∧ neg1 v ≤ 1 := by unfold neg1; split <;> omega
theorem dgt_r (sz va : Int → Int) (n i : Int) (h : 0 < pw (sz n - 1 - i)) : 0 ≤ dgt sz va n i ∧ dgt sz va n i ≤ 9 := by
  unfold dgt
  have h1 : 0 ≤ Int.tdiv ((Int.natAbs (va n) : Nat) : Int) (pw (sz n - 1 - i)) := Int.tdiv_nonneg (by omega) (by omega)
  have h2 := Int.tmod_nonneg 10 h1
  have h3 := Int.tmod_lt_of_pos (Int.tdiv ((Int.natAbs (va n) : Nat) : Int) (pw (sz n - 1 - i))) (b := 10) (by decide)
  omega
def bg (sz ki fi se : Int → Int) (lim n : Int) (va co ve : Int → Int) (k : Int) (wt : Int → Int) (ht st : Int) : Int × (Int → Int) × (Int → Int) × (Int → Int) × Int × (Int → Int) × Int × Int :=
  if lim ≤ st then (0, va, co, ve, k, wt, ht, addN lim st)
  else if ki n = 1 then (1, uF va (se n) (Int.tmod (va (fi n)) (pw (sz (se n)))), co, ve, k, wt, ht, addN lim st)
  else if ki n = 2 then (beO sz (se n) (va (se n) + va (fi n)), beV sz va (se n) (va (se n) + va (fi n)), co, ve, k, wt, ht, addN lim st)
  else if ki n = 3 then (beO sz (se n) (va (se n) - va (fi n)), beV sz va (se n) (va (se n) - va (fi n)), co, ve, k, wt, ht, addN lim st)
  else if ki n = 4 then (muO sz va (fi n) (se n), muV sz va (fi n) (se n), co, ve, k, wt, ht, addN lim st)
  else if ki n = 5 then (diO sz va (fi n) (se n), diV sz va (fi n) (se n), co, ve, k, wt, ht, addN lim st)
  else if ki n = 6 then (1, va, co, ve, k, uF (uF wt ht (se n)) (ht + 1) (fi n), ht + 1 + 1, addN lim st)
  else if ki n = 7 then (1, va, co, ve, k, (if va (fi n) = 0 then wt else uF wt ht (se n)), (if va (fi n) = 0 then ht else ht + 1), addN lim st)
  else if ki n = 8 then (1, va, co, ve, k, uF wt ht (-n), ht + 1, addN lim st)
  else if ki n = 9 then (dpO 1000 k (dlen sz va (fi n) (se n)), va, flF co k (dpN 1000 k (dlen sz va (fi n) (se n))) (fun j => 4 * 4000000 + (se n + j)), flF ve k (dpN 1000 k (dlen sz va (fi n) (se n))) (sgn sz va (fi n)), k + dpN 1000 k (dlen sz va (fi n) (se n)), wt, ht, addN lim st)
  else if ki n = 10 then (soO 1000 k (va (fi n)), va, soF 1000 k (va (fi n)) co (0 * 4000000 + va (fi n)), soF 1000 k (va (fi n)) ve (va (se n)), soK 1000 k (va (fi n)), wt, ht, addN lim st)
  else if ki n = 11 then (2, va, co, ve, k, wt, ht, addN lim st)
  else if ki n = 12 then (1, va, co, ve, k, (if va (fi n) < 0 then uF wt ht (se n) else wt), (if va (fi n) < 0 then ht + 1 else ht), addN lim st)
  else (1, va, co, ve, k, wt, ht, addN lim st)
def gr (fi se : Int → Int) (lim n : Int) (va wt : Int → Int) (ht st : Int) : Int × (Int → Int) × Int × Int :=
  if va (fi n) = 0 then (1, wt, ht, st)
  else if lim ≤ st then (0, wt, ht, addN lim st)
  else (1, uF (uF wt ht (-n)) (ht + 1) (se n), ht + 1 + 1, addN lim st)
theorem sgn_r (sz va : Int → Int) (n i : Int) (h : 1 ≤ sz n ∧ sz n ≤ 18) (hi : 0 ≤ i ∧ i < neg1 (va n) + sz n) : 45 ≤ sgn sz va n i ∧ sgn sz va n i ≤ 57 := by
  unfold sgn
  split
  · omega
  · have := dgt_r sz va n (i - neg1 (va n)) (pw_rng (by omega)).1
    omega
