/-! the reference's steps -/
theorem pw_s {i : Int} (h : 0 ≤ i) : pw i * 10 = pw (i + 1) := by
  unfold pw
  rw [show (i + 1).toNat = i.toNat + 1 by omega, Int.pow_succ]
theorem uF_id (f : Int → Int) (k : Int) : uF f k (f k) = f := by
  funext j; unfold uF; split
  · rename_i h; rw [h]
  · rfl
theorem uF_same {f : Int → Int} {k v : Int} (h : f k = v) : uF f k v = f := by rw [← h]; exact uF_id f k
def bm (sz ki fi se : Int → Int) (n : Int) (va ds wh wa hl pi : Int → Int) (wn : Int) : Int × (Int → Int) × (Int → Int) × (Int → Int) × (Int → Int) × (Int → Int) × (Int → Int) × Int :=
  if ki n = 1 then (1, uF va (se n) (Int.tmod (va (fi n)) (pw (sz (se n)))), ds, wh, wa, hl, pi, wn)
  else if ki n = 2 then (2 - beO sz (se n) (va (se n) + va (fi n)), beV sz va (se n) (va (se n) + va (fi n)), ds, wh, wa, hl, pi, wn)
  else if ki n = 3 then (2 - beO sz (se n) (va (se n) - va (fi n)), beV sz va (se n) (va (se n) - va (fi n)), ds, wh, wa, hl, pi, wn)
  else if ki n = 4 then (2 - muO sz va (fi n) (se n), muV sz va (fi n) (se n), ds, wh, wa, hl, pi, wn)
  else if ki n = 5 then (2 - diO sz va (fi n) (se n), diV sz va (fi n) (se n), ds, wh, wa, hl, pi, wn)
  else if ki n = 6 then (1, va, ds, wh, wa, hl, uF (uF pi wn (se n)) (wn + 1) (fi n), wn + 1 + 1)
  else if ki n = 7 then (1, va, ds, wh, wa, hl, (if va (fi n) = 0 then pi else uF pi wn (se n)), (if va (fi n) = 0 then wn else wn + 1))
  else if ki n = 8 then (1, va, ds, wh, wa, hl, uF pi wn (-n), wn + 1)
  else if ki n = 9 then (2 - dpO 1000 (hl 0) (dlen sz va (fi n) (se n)), va, flF ds (hl 0) (dpN 1000 (hl 0) (dlen sz va (fi n) (se n))) (fun _ => 4), flF wh (hl 0) (dpN 1000 (hl 0) (dlen sz va (fi n) (se n))) (fun j => se n + j), flF wa (hl 0) (dpN 1000 (hl 0) (dlen sz va (fi n) (se n))) (sgn sz va (fi n)), uF hl 0 (hl 0 + dpN 1000 (hl 0) (dlen sz va (fi n) (se n))), pi, wn)
  else if ki n = 10 then (2 - soO 1000 (hl 0) (va (fi n)), va, soF 1000 (hl 0) (va (fi n)) ds 0, soF 1000 (hl 0) (va (fi n)) wh (va (fi n)), soF 1000 (hl 0) (va (fi n)) wa (va (se n)), uF hl 0 (soK 1000 (hl 0) (va (fi n))), pi, wn)
  else if ki n = 12 then (1, va, ds, wh, wa, hl, (if va (fi n) < 0 then uF pi wn (se n) else pi), (if va (fi n) < 0 then wn + 1 else wn))
  else ((if ki n = 0 then 1 else 0), va, ds, wh, wa, hl, pi, wn)
