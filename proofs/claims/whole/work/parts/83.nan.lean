/-! a whole number over a hundred is no NaN -/
def gdN (n : Nat) : Prop := ∃ (s : Bool) (e t : Nat), n = (s.toNat * 2048 + e) * 4503599627370496 + t ∧ t < 4503599627370496 ∧ (e < 2047 ∨ (e = 2047 ∧ t = 0))
def gdD : FP.Core.Datum → Prop
  | .nan => False
  | .inf _ => True
  | .fin _ c q => c < 9007199254740992 ∧ -1074 ≤ q ∧ q ≤ 971
theorem b64_tails : FP.Core.b64.tails = 4503599627370496 := by decide +kernel
theorem b64_exps : FP.Core.b64.exps = 2048 := by decide +kernel
theorem b64_qmin : FP.Core.b64.qmin = -1074 := by decide +kernel
theorem b64_qmax : FP.Core.b64.qmax = 971 := by decide +kernel
theorem b64_p : (2 : Nat) ^ FP.Core.b64.p = 9007199254740992 := by decide +kernel
theorem gd_enc : ∀ d : FP.Core.Datum, gdD d → gdN (FP.Core.encode FP.Core.b64 d)
  | .nan, h => h.elim
  | .inf s, _ => ⟨s, 2047, 0, by simp only [FP.Core.encode, FP.Core.assemble, b64_tails, b64_exps], by omega, Or.inr ⟨rfl, rfl⟩⟩
  | .fin s c q, h => by
    obtain ⟨h1, h2, h3⟩ := h
    simp only [FP.Core.encode, FP.Core.assemble, b64_tails, b64_exps, b64_qmin]
    by_cases hc : c < 4503599627370496
    · rw [if_pos hc]; exact ⟨s, 0, c, rfl, hc, Or.inl (by omega)⟩
    · rw [if_neg hc]; exact ⟨s, _, _, rfl, by omega, Or.inl (by omega)⟩
theorem gd_settle {s : Bool} {c : Nat} {q : Int} (h : -1074 ≤ q) : gdD (FP.Core.settle FP.Core.b64 s c q) := by
  unfold FP.Core.settle FP.Core.bound
  rw [b64_p, b64_qmax, b64_tails]
  by_cases h1 : c < 9007199254740992
  · rw [if_pos h1]
    by_cases h2 : q ≤ 971
    · rw [if_pos h2]; exact ⟨h1, h, h2⟩
    · rw [if_neg h2]; trivial
  · rw [if_neg h1]
    by_cases h2 : q + 1 ≤ 971
    · rw [if_pos h2]; exact ⟨by omega, by omega, h2⟩
    · rw [if_neg h2]; trivial
theorem gd_ratio (s : Bool) (A B : Nat) (e : Int) : gdD (FP.Core.roundRatio FP.Core.b64 s A B e) := by
  unfold FP.Core.roundRatio
  by_cases h : A = 0
  · rw [if_pos h, b64_qmin]; exact ⟨by omega, by omega, by omega⟩
  · rw [if_neg h]
    unfold FP.Core.roundAt FP.Core.quantum
    rw [b64_qmin]
    exact gd_settle (by omega)
theorem gd_dec {n : Nat} (h : gdN n) : FP.Core.decode FP.Core.b64 n ≠ .nan := by
  obtain ⟨s, e, t, rfl, h1, h2⟩ := h
  have hs : s.toNat = 0 ∨ s.toNat = 1 := by cases s <;> simp
  unfold FP.Core.decode FP.Core.fieldE FP.Core.fieldT
  rw [b64_tails, b64_exps]
  have e1 : ((s.toNat * 2048 + e) * 4503599627370496 + t) / 4503599627370496 % 2048 = e := by omega
  have e2 : ((s.toNat * 2048 + e) * 4503599627370496 + t) % 4503599627370496 = t := by omega
  rw [e1, e2]
  by_cases q : e = 2048 - 1
  · rw [if_pos q, if_pos (by omega)]; intro k; cases k
  · rw [if_neg q]; split <;> (intro k; cases k)
theorem gd_lt {n : Nat} (h : gdN n) : n < 18446744073709551616 := by
  obtain ⟨s, e, t, rfl, h1, h2⟩ := h
  have hs : s.toNat = 0 ∨ s.toNat = 1 := by cases s <;> simp
  omega
theorem gd_bits {n : Nat} (h : gdN n) : vf_n64 (UInt64.ofNat n) := by
  have hl := gd_lt h
  obtain ⟨s, e, t, rfl, h1, h2⟩ := h
  have hs : s.toNat = 0 ∨ s.toNat = 1 := by cases s <;> simp
  unfold vf_n64
  rw [UInt64.le_iff_toNat_le, UInt64.toNat_and]
  rw [show (0x7fffffffffffffff : UInt64).toNat = 2 ^ 63 - 1 from by decide, Nat.and_two_pow_sub_one_eq_mod, UInt64.toNat_ofNat_of_lt' hl]
  show _ ≤ 9218868437227405312
  omega
theorem gd_val {a : UInt64} {n : Nat} (h : gdN n) (ha : a = UInt64.ofNat n) : FP.Core.decode FP.Core.b64 a.toNat ≠ .nan := by
  rw [ha, UInt64.toNat_ofNat_of_lt' (gd_lt h)]
  exact gd_dec h
theorem nan100 (z : Int) : vf_n64 (FP.ddiv (FP.l2d (lI z)) (4636737291354636288 : UInt64)) := by
  have h0 : FP.Core.decode FP.Core.b64 (FP.l2d (lI z)).toNat ≠ .nan := gd_val (gd_enc (FP.Core.round FP.Core.b64 (FP.Core.ofInt (lI z).toInt)) (gd_ratio _ _ _ _)) rfl
  have h1 : FP.Core.decode FP.Core.b64 (4636737291354636288 : UInt64).toNat = .fin false 7036874417766400 (-46) := by decide +kernel
  refine gd_bits (n := FP.Core.div FP.Core.b64 (FP.l2d (lI z)).toNat (4636737291354636288 : UInt64).toNat) (gd_enc _ ?_)
  rw [h1]
  generalize FP.Core.decode FP.Core.b64 (FP.l2d (lI z)).toNat = d at h0 ⊢
  cases d with
  | nan => exact absurd rfl h0
  | inf s => trivial
  | fin s c q =>
    show gdD (if (7036874417766400 : Nat) = 0 then (if c = 0 then FP.Core.Datum.nan else FP.Core.Datum.inf (s != false)) else FP.Core.roundRatio FP.Core.b64 (s != false) c 7036874417766400 (q - (-46)))
    rw [if_neg (by omega)]
    exact gd_ratio _ _ _ _
