/-! numbers: every int and long of the machine as the image of an Int -/
def iI (z : Int) : Int32 := Int32.ofInt z
def lI (z : Int) : Int64 := Int64.ofInt z
theorem iI_add (a b : Int) : iI a + iI b = iI (a + b) := (Int32.ofInt_add a b).symm
theorem iI_sub (a b : Int) : iI a - iI b = iI (a - b) := (Int32.ofInt_sub a b).symm
theorem iI_mul (a b : Int) : iI a * iI b = iI (a * b) := (Int32.ofInt_mul a b).symm
theorem iI_neg (a : Int) : -iI a = iI (-a) := (Int32.ofInt_neg a).symm
theorem lI_add (a b : Int) : lI a + lI b = lI (a + b) := (Int64.ofInt_add a b).symm
theorem lI_sub (a b : Int) : lI a - lI b = lI (a - b) := (Int64.ofInt_sub a b).symm
theorem lI_mul (a b : Int) : lI a * lI b = lI (a * b) := (Int64.ofInt_mul a b).symm
theorem lI_neg (a : Int) : -lI a = lI (-a) := (Int64.ofInt_neg a).symm
theorem iI_toInt {z : Int} (h : -2147483648 ≤ z ∧ z < 2147483648) : (iI z).toInt = z := Int32.toInt_ofInt_of_le (by omega) (by omega)
theorem lI_toInt {z : Int} (h : -9223372036854775808 ≤ z ∧ z < 9223372036854775808) : (lI z).toInt = z := Int64.toInt_ofInt_of_le (by omega) (by omega)
theorem iI_of (x : Int32) : iI x.toInt = x := Int32.ofInt_toInt x
theorem lI_of (x : Int64) : lI x.toInt = x := Int64.ofInt_toInt x
theorem r32 (x : Int32) : -2147483648 ≤ x.toInt ∧ x.toInt < 2147483648 := ⟨by have := x.le_toInt; omega, by have := x.toInt_lt; omega⟩
theorem r64 (x : Int64) : -9223372036854775808 ≤ x.toInt ∧ x.toInt < 9223372036854775808 := ⟨by have := x.le_toInt; omega, by have := x.toInt_lt; omega⟩
theorem iI_ex (x : Int32) : ∃ z : Int, (-2147483648 ≤ z ∧ z < 2147483648) ∧ x = iI z := ⟨x.toInt, r32 x, (iI_of x).symm⟩
theorem lI_ex (x : Int64) : ∃ z : Int, (-9223372036854775808 ≤ z ∧ z < 9223372036854775808) ∧ x = lI z := ⟨x.toInt, r64 x, (lI_of x).symm⟩
theorem iI_le {a b : Int} (ha : -2147483648 ≤ a ∧ a < 2147483648) (hb : -2147483648 ≤ b ∧ b < 2147483648) : iI a ≤ iI b ↔ a ≤ b := by
  rw [Int32.le_iff_toInt_le, iI_toInt ha, iI_toInt hb]
theorem iI_lt {a b : Int} (ha : -2147483648 ≤ a ∧ a < 2147483648) (hb : -2147483648 ≤ b ∧ b < 2147483648) : iI a < iI b ↔ a < b := by
  rw [Int32.lt_iff_toInt_lt, iI_toInt ha, iI_toInt hb]
theorem iI_eq {a b : Int} (ha : -2147483648 ≤ a ∧ a < 2147483648) (hb : -2147483648 ≤ b ∧ b < 2147483648) : iI a = iI b ↔ a = b := by
  rw [← Int32.toInt_inj, iI_toInt ha, iI_toInt hb]
theorem lI_le {a b : Int} (ha : -9223372036854775808 ≤ a ∧ a < 9223372036854775808) (hb : -9223372036854775808 ≤ b ∧ b < 9223372036854775808) : lI a ≤ lI b ↔ a ≤ b := by
  rw [Int64.le_iff_toInt_le, lI_toInt ha, lI_toInt hb]
theorem lI_lt {a b : Int} (ha : -9223372036854775808 ≤ a ∧ a < 9223372036854775808) (hb : -9223372036854775808 ≤ b ∧ b < 9223372036854775808) : lI a < lI b ↔ a < b := by
  rw [Int64.lt_iff_toInt_lt, lI_toInt ha, lI_toInt hb]
theorem lI_eq {a b : Int} (ha : -9223372036854775808 ≤ a ∧ a < 9223372036854775808) (hb : -9223372036854775808 ≤ b ∧ b < 9223372036854775808) : lI a = lI b ↔ a = b := by
  rw [← Int64.toInt_inj, lI_toInt ha, lI_toInt hb]
theorem iI_0 : iI 0 = 0 := rfl
theorem lI_0 : lI 0 = 0 := rfl
theorem iI_nat (n : Nat) : iI (n : Int) = nI n := Int32.ofInt_eq_ofNat
theorem iI_clamp {z : Int} (h : 0 ≤ z ∧ z < 2147483648) : (iI z).toNatClampNeg = z.toNat := by
  show (iI z).toInt.toNat = z.toNat
  rw [iI_toInt (by omega)]
theorem iI_in {z : Int} {n : Nat} (h : 0 ≤ z ∧ z < 2147483648) (hn : z < (n : Int)) : vp_in (iI z) n := by
  intro hh
  rcases hh with q | q
  · rw [← iI_0, iI_lt (by omega) (by omega)] at q; omega
  · rw [iI_clamp h] at q; omega
theorem iI_l {z : Int} (h : -2147483648 ≤ z ∧ z < 2147483648) : (iI z).toInt64 = lI z := by
  show Int64.ofInt (iI z).toInt = lI z
  rw [iI_toInt h]; rfl
theorem lI_i (z : Int) : (lI z).toInt32 = iI z := Int64.toInt32_ofInt
theorem iI_b {z : Int} (h : -128 ≤ z ∧ z < 128) : (iI z).toInt8.toInt32 = iI z := by
  have e : (iI z).toInt8 = Int8.ofInt z := Int32.toInt8_ofInt
  rw [e]
  show Int32.ofInt (Int8.ofInt z).toInt = iI z
  rw [Int8.toInt_ofInt_of_le (by omega) (by omega)]; rfl
theorem iI_nb {z : Int} (h : -128 ≤ z ∧ z < 128) : vp_nar .byte (iI z) = iI z := by rw [vp_nar_byte, iI_b h]
theorem iI_div {a b : Int} (ha : -2147483648 < a ∧ a < 2147483648) (hb : -2147483648 ≤ b ∧ b < 2147483648) : iI a / iI b = iI (a.tdiv b) := by
  apply Int32.toInt_inj.mp
  have hne : iI a ≠ Int32.minValue := by
    intro h
    have h2 := congrArg Int32.toInt h
    rw [iI_toInt (by omega)] at h2
    have : Int32.minValue.toInt = -2147483648 := by decide
    omega
  rw [Int32.toInt_div_of_ne_left _ _ hne, iI_toInt (by omega), iI_toInt hb, iI_toInt]
  have h1 := Int.natAbs_tdiv_le_natAbs a b
  omega
theorem lI_div {a b : Int} (ha : -9223372036854775808 < a ∧ a < 9223372036854775808) (hb : -9223372036854775808 ≤ b ∧ b < 9223372036854775808) : lI a / lI b = lI (a.tdiv b) := by
  apply Int64.toInt_inj.mp
  have hne : lI a ≠ Int64.minValue := by
    intro h
    have h2 := congrArg Int64.toInt h
    rw [lI_toInt (by omega)] at h2
    have : Int64.minValue.toInt = -9223372036854775808 := by decide
    omega
  rw [Int64.toInt_div_of_ne_left _ _ hne, lI_toInt (by omega), lI_toInt hb, lI_toInt]
  have h1 := Int.natAbs_tdiv_le_natAbs a b
  omega
theorem lI_divP {a b : Int} (ha : -9223372036854775808 ≤ a ∧ a < 9223372036854775808) (hb : 0 < b ∧ b < 9223372036854775808) : lI a / lI b = lI (a.tdiv b) := by
  apply Int64.toInt_inj.mp
  have hne : lI b ≠ -1 := by
    intro h
    have h2 := congrArg Int64.toInt h
    rw [lI_toInt (by omega)] at h2
    have : (-1 : Int64).toInt = -1 := by decide
    omega
  rw [Int64.toInt_div_of_ne_right _ _ hne, lI_toInt (by omega), lI_toInt (by omega), lI_toInt]
  have h1 := Int.natAbs_tdiv_le_natAbs a b
  by_cases h0 : a = -9223372036854775808
  · subst h0
    have h3 : Int.tdiv (-9223372036854775808) b ≤ 0 := by
      have := Int.tdiv_nonneg (a := 9223372036854775808) (b := b) (by omega) (by omega)
      have h4 := Int.neg_tdiv 9223372036854775808 b
      omega
    omega
  · omega
theorem tmod_eq (a b : Int) : a - a.tdiv b * b = a.tmod b := by
  have := Int.tmod_add_tdiv_mul a b
  omega
theorem iI_rem {a b : Int} (ha : -2147483648 < a ∧ a < 2147483648) (hb : -2147483648 ≤ b ∧ b < 2147483648) : iI a - iI a / iI b * iI b = iI (a.tmod b) := by
  rw [iI_div ha hb, iI_mul, iI_sub, tmod_eq]
theorem lI_remP {a b : Int} (ha : -9223372036854775808 ≤ a ∧ a < 9223372036854775808) (hb : 0 < b ∧ b < 9223372036854775808) : lI a - lI a / lI b * lI b = lI (a.tmod b) := by
  rw [lI_divP ha hb, lI_mul, lI_sub, tmod_eq]
theorem iI_ne0 {z : Int} (h : -2147483648 ≤ z ∧ z < 2147483648) (h0 : z ≠ 0) : ¬ iI z = 0 := by
  rw [← iI_0, iI_eq h (by omega)]; exact h0
theorem lI_ne0 {z : Int} (h : -9223372036854775808 ≤ z ∧ z < 9223372036854775808) (h0 : z ≠ 0) : ¬ lI z = 0 := by
  rw [← lI_0, lI_eq h (by omega)]; exact h0
/-- a row of numbers with one changed -/
def uF (f : Int → Int) (k : Int) (v : Int) : Int → Int := fun j => if j = k then v else f j
theorem uF_s (f : Int → Int) (k : Int) (v : Int) : uF f k v k = v := if_pos rfl
theorem uF_n (f : Int → Int) {k j : Int} (v : Int) (h : j ≠ k) : uF f k v j = f j := if_neg h
theorem upd_iI (f : Int → Int) {k : Int} (hk : 0 ≤ k) (v : Int) : upd (fun j : Nat => iI (f (j : Int))) k.toNat (iI v) = fun j : Nat => iI (uF f k v (j : Int)) := by
  funext j
  unfold upd uF
  by_cases h : j = k.toNat
  · rw [if_pos h, if_pos (by omega)]
  · rw [if_neg h, if_neg (by omega)]
theorem upd_lI (f : Int → Int) {k : Int} (hk : 0 ≤ k) (v : Int) : vp_updL (fun j : Nat => lI (f (j : Int))) k.toNat (lI v) = fun j : Nat => lI (uF f k v (j : Int)) := by
  funext j
  unfold vp_updL uF
  by_cases h : j = k.toNat
  · rw [if_pos h, if_pos (by omega)]
  · rw [if_neg h, if_neg (by omega)]
/-- n of them copied: from sp on in f to dp on in g -/
def cF (f g : Int → Int) (sp dp n : Int) : Int → Int := fun j => if dp ≤ j ∧ j < dp + n then f (sp + (j - dp)) else g j
theorem cpy_iI (f g : Int → Int) {sp dp n : Int} (h : 0 ≤ sp ∧ 0 ≤ dp ∧ 0 ≤ n) : va_cpy (fun j : Nat => iI (f (j : Int))) (fun j : Nat => iI (g (j : Int))) sp.toNat dp.toNat n.toNat = fun j : Nat => iI (cF f g sp dp n (j : Int)) := by
  funext j
  unfold va_cpy cF
  by_cases hc : dp.toNat ≤ j ∧ j < dp.toNat + n.toNat
  · rw [if_pos hc, if_pos (by omega)]
    have e : ((sp.toNat + (j - dp.toNat) : Nat) : Int) = sp + ((j : Int) - dp) := by omega
    exact congrArg (fun z => iI (f z)) e
  · rw [if_neg hc, if_neg (by omega)]
theorem cpy_lI (f g : Int → Int) {sp dp n : Int} (h : 0 ≤ sp ∧ 0 ≤ dp ∧ 0 ≤ n) : va_cpy (fun j : Nat => lI (f (j : Int))) (fun j : Nat => lI (g (j : Int))) sp.toNat dp.toNat n.toNat = fun j : Nat => lI (cF f g sp dp n (j : Int)) := by
  funext j
  unfold va_cpy cF
  by_cases hc : dp.toNat ≤ j ∧ j < dp.toNat + n.toNat
  · rw [if_pos hc, if_pos (by omega)]
    have e : ((sp.toNat + (j - dp.toNat) : Nat) : Int) = sp + ((j : Int) - dp) := by omega
    exact congrArg (fun z => lI (f z)) e
  · rw [if_neg hc, if_neg (by omega)]
theorem iI_nz {z : Int} (h : z = 0 ∨ z = 1) : vp_nar .boolean (iI z) = iI z := by
  rcases h with h | h <;> subst h <;> decide
