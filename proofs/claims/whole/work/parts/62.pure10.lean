/-! the reference's laying out of segments -/
def l1F (ab tr : Int → Int) : Nat → (Int → Int) → Int → (Int → Int) × Int
  | 0, la, op => (la, op)
  | n + 1, la, op => if tr ((n : Int) + 1) ≠ 0 ∧ ab ((n : Int) + 1) ≤ 0 then l1F ab tr n (uF la op ((n : Int) + 1)) (op + 1) else l1F ab tr n la op
theorem l1F_t {ab tr la : Int → Int} {i op : Int} (h : 0 < i) (hc : tr i ≠ 0 ∧ ab i ≤ 0) : l1F ab tr i.toNat la op = l1F ab tr (i - 1).toNat (uF la op i) (op + 1) := by
  rw [show i.toNat = (i - 1).toNat + 1 by omega]
  conv => lhs; unfold l1F
  rw [show (((i - 1).toNat : Nat) : Int) + 1 = i by omega, if_pos hc]
theorem l1F_f {ab tr la : Int → Int} {i op : Int} (h : 0 < i) (hc : ¬ (tr i ≠ 0 ∧ ab i ≤ 0)) : l1F ab tr i.toNat la op = l1F ab tr (i - 1).toNat la op := by
  rw [show i.toNat = (i - 1).toNat + 1 by omega]
  conv => lhs; unfold l1F
  rw [show (((i - 1).toNat : Nat) : Int) + 1 = i by omega, if_neg hc]
theorem l1F_m (ab tr : Int → Int) : ∀ (n : Nat) (la : Int → Int) (op : Int), op ≤ (l1F ab tr n la op).2 ∧ (l1F ab tr n la op).2 ≤ op + (n : Int)
  | 0, la, op => by unfold l1F; dsimp only; omega
  | n + 1, la, op => by
    unfold l1F
    split
    · have := l1F_m ab tr n (uF la op ((n : Int) + 1)) (op + 1); omega
    · have := l1F_m ab tr n la op; omega
/-- the ones below s, from i down -/
def cpF (ab tr : Int → Int) (s : Int) : Nat → (Int → Int) → Int → (Int → Int) × Int
  | 0, la, op => (la, op)
  | n + 1, la, op => if tr (s + (n : Int) + 1) ≠ 0 ∧ ab (s + (n : Int) + 1) = s then cpF ab tr s n (uF la op (s + (n : Int) + 1)) (op + 1) else cpF ab tr s n la op
theorem cpF_t {ab tr la : Int → Int} {s i op : Int} (h : s < i) (hc : tr i ≠ 0 ∧ ab i = s) : cpF ab tr s (i - s).toNat la op = cpF ab tr s (i - 1 - s).toNat (uF la op i) (op + 1) := by
  rw [show (i - s).toNat = (i - 1 - s).toNat + 1 by omega]
  conv => lhs; unfold cpF
  rw [show s + (((i - 1 - s).toNat : Nat) : Int) + 1 = i by omega, if_pos hc]
theorem cpF_f {ab tr la : Int → Int} {s i op : Int} (h : s < i) (hc : ¬ (tr i ≠ 0 ∧ ab i = s)) : cpF ab tr s (i - s).toNat la op = cpF ab tr s (i - 1 - s).toNat la op := by
  rw [show (i - s).toNat = (i - 1 - s).toNat + 1 by omega]
  conv => lhs; unfold cpF
  rw [show s + (((i - 1 - s).toNat : Nat) : Int) + 1 = i by omega, if_neg hc]
theorem cpF_e {ab tr la : Int → Int} {s i op : Int} (h : i ≤ s) : cpF ab tr s (i - s).toNat la op = (la, op) := by
  rw [show (i - s).toNat = 0 by omega]; rfl
theorem cpF_m (ab tr : Int → Int) (s : Int) : ∀ (n : Nat) (la : Int → Int) (op : Int), op ≤ (cpF ab tr s n la op).2
  | 0, la, op => by unfold cpF; dsimp only; omega
  | n + 1, la, op => by
    unfold cpF
    split
    · have := cpF_m ab tr s n (uF la op (s + (n : Int) + 1)) (op + 1); omega
    · exact cpF_m ab tr s n la op
/-- after so many were laid: the row, the pile, its height -/
def mnF (ab tr : Int → Int) (md : Int) (od la : Int → Int) : Nat → (Int → Int) × (Int → Int) × Int
  | 0 => (od, (l1F ab tr md.toNat la 0).1, (l1F ab tr md.toNat la 0).2)
  | n + 1 => (uF (mnF ab tr md od la n).1 (n : Int) ((mnF ab tr md od la n).2.1 ((mnF ab tr md od la n).2.2 - 1)),
      (cpF ab tr ((mnF ab tr md od la n).2.1 ((mnF ab tr md od la n).2.2 - 1)) (md - (mnF ab tr md od la n).2.1 ((mnF ab tr md od la n).2.2 - 1)).toNat (mnF ab tr md od la n).2.1 ((mnF ab tr md od la n).2.2 - 1)).1,
      (cpF ab tr ((mnF ab tr md od la n).2.1 ((mnF ab tr md od la n).2.2 - 1)) (md - (mnF ab tr md od la n).2.1 ((mnF ab tr md od la n).2.2 - 1)).toNat (mnF ab tr md od la n).2.1 ((mnF ab tr md od la n).2.2 - 1)).2)
theorem mnF_s {ab tr : Int → Int} {md : Int} {od la : Int → Int} {i : Int} (h : 0 ≤ i) {xo xl : Int → Int} {xp : Int} (e : (xo, xl, xp) = mnF ab tr md od la i.toNat) :
    mnF ab tr md od la (i + 1).toNat = (uF xo i (xl (xp - 1)), (cpF ab tr (xl (xp - 1)) (md - xl (xp - 1)).toNat xl (xp - 1)).1, (cpF ab tr (xl (xp - 1)) (md - xl (xp - 1)).toNat xl (xp - 1)).2) := by
  rw [show (i + 1).toNat = i.toNat + 1 by omega]
  conv => lhs; unfold mnF
  rw [← e, Int.toNat_of_nonneg h]
/-- what makes the laying out safe: it ends behind T, and the pile stays in its row -/
def LOK (ab tr : Int → Int) (md : Int) (od la : Int → Int) (T : Nat) : Prop :=
  T ≤ 100 ∧ (mnF ab tr md od la T).2.2 = 0 ∧ ∀ t : Nat, t < T → (0 < (mnF ab tr md od la t).2.2 ∧ (mnF ab tr md od la t).2.2 ≤ 100) ∧ (mnF ab tr md od la (t + 1)).2.2 ≤ 100 ∧ 1 ≤ (mnF ab tr md od la t).2.1 ((mnF ab tr md od la t).2.2 - 1) ∧ (mnF ab tr md od la t).2.1 ((mnF ab tr md od la t).2.2 - 1) ≤ md
def aAt (sz va : Int → Int) (n i : Int) : Int := dgt sz va n i + (if va n < 0 ∧ i = sz n - 1 then 112 else 48)
