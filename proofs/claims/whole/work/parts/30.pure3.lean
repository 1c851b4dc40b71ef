/-! counting below in a rising row; looking for one; the end of what is below one -/
def cnt (f : Int → Int) (x : Int) : Nat → Int
  | 0 => 0
  | n + 1 => cnt f x n + (if f (n : Int) < x then 1 else 0)
theorem cnt_r (f : Int → Int) (x : Int) : ∀ n : Nat, 0 ≤ cnt f x n ∧ cnt f x n ≤ (n : Int)
  | 0 => by unfold cnt; omega
  | n + 1 => by
    have h := cnt_r f x n
    unfold cnt
    split <;> omega
abbrev SO (f : Int → Int) (n : Int) : Prop := ∀ i j, 0 ≤ i → i < j → j < n → f i < f j
theorem cnt_s {f : Int → Int} {x : Int} : ∀ n : Nat, SO f (n : Int) → ∀ j, 0 ≤ j → j < (n : Int) → (f j < x ↔ j < cnt f x n)
  | 0, _, j, h0, h1 => by omega
  | n + 1, hs, j, h0, h1 => by
    have hr := cnt_r f x n
    have ih := cnt_s (x := x) n (fun i j a b c => hs i j a b (by omega))
    unfold cnt
    by_cases hx : f (n : Int) < x
    · rw [if_pos hx]
      have hall : cnt f x n = (n : Int) := by
        by_cases hn : n = 0
        · subst hn; rfl
        · have q := ih ((n : Int) - 1) (by omega) (by omega)
          have q2 := hs ((n : Int) - 1) n (by omega) (by omega) (by omega)
          have q3 := q.mp (by omega)
          omega
      by_cases hj : j = (n : Int)
      · subst hj; exact ⟨fun _ => by omega, fun _ => hx⟩
      · have q := hs j n h0 (by omega) (by omega)
        constructor <;> intro _ <;> omega
    · rw [if_neg hx]
      by_cases hj : j = (n : Int)
      · subst hj; exact ⟨fun q => absurd q hx, fun _ => by omega⟩
      · have q := ih j h0 (by omega)
        rw [Int.add_zero]; exact q
def fi0 (od : Int → Int) (n : Int) : Nat → Int → Int
  | 0, _ => -1
  | m + 1, i => if od i = n then i else fi0 od n m (i + 1)
theorem fi0_r (od : Int → Int) (n : Int) : ∀ (m : Nat) (i : Int), 0 ≤ i → fi0 od n m i = -1 ∨ (i ≤ fi0 od n m i ∧ fi0 od n m i < i + m ∧ od (fi0 od n m i) = n)
  | 0, i, _ => Or.inl rfl
  | m + 1, i, h => by
    unfold fi0
    by_cases q : od i = n
    · rw [if_pos q]; right; exact ⟨by omega, by omega, q⟩
    · rw [if_neg q]
      rcases fi0_r od n m (i + 1) (by omega) with h1 | h1
      · exact Or.inl h1
      · exact Or.inr ⟨by omega, by omega, h1.2.2⟩
def eo (od dp : Int → Int) (d : Int) : Nat → Int → Int
  | 0, i => i
  | m + 1, i => if d < dp (od i) then eo od dp d m (i + 1) else i
theorem eo_r (od dp : Int → Int) (d : Int) : ∀ (m : Nat) (i : Int), i ≤ eo od dp d m i ∧ eo od dp d m i ≤ i + m
  | 0, i => by unfold eo; omega
  | m + 1, i => by
    have h := eo_r od dp d m (i + 1)
    unfold eo
    split <;> omega
def pix (pl : Int) : Int := (Int.tdiv pl 100 - 1) * 80 + Int.tmod pl 100 - 1
theorem fi0_stop {od : Int → Int} {n i : Int} {m : Nat} (h : i < i + (m : Int)) (hq : od i = n) : fi0 od n m i = i := by
  cases m with
  | zero => omega
  | succ m => unfold fi0; rw [if_pos hq]
theorem fi0_go {od : Int → Int} {n i t : Int} (h : i < t) (hq : od i ≠ n) : fi0 od n (t - i).toNat i = fi0 od n (t - (i + 1)).toNat (i + 1) := by
  rw [show (t - i).toNat = (t - (i + 1)).toNat + 1 by omega]
  conv => lhs; unfold fi0
  rw [if_neg hq]
theorem fi0_out {od : Int → Int} {n i t : Int} (h : t ≤ i) : fi0 od n (t - i).toNat i = -1 := by
  rw [show (t - i).toNat = 0 by omega]; rfl
theorem eo_go {od dp : Int → Int} {d i t : Int} (h : i < t) (hq : d < dp (od i)) : eo od dp d (t - i).toNat i = eo od dp d (t - (i + 1)).toNat (i + 1) := by
  rw [show (t - i).toNat = (t - (i + 1)).toNat + 1 by omega]
  conv => lhs; unfold eo
  rw [if_pos hq]
theorem eo_stop {od dp : Int → Int} {d i t : Int} (hq : t ≤ i ∨ dp (od i) ≤ d) : eo od dp d (t - i).toNat i = i := by
  by_cases h : t ≤ i
  · rw [show (t - i).toNat = 0 by omega]; rfl
  · rw [show (t - i).toNat = (t - (i + 1)).toNat + 1 by omega]
    unfold eo
    rw [if_neg (by omega)]
