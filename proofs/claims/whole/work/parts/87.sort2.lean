theorem blk {W i : Int} (hW : 1 ≤ W) (hi : 0 ≤ i) : ∃ k, 0 ≤ k ∧ k * W ≤ i ∧ i < k * W + W := by
  refine ⟨i / W, Int.ediv_nonneg hi (by omega), Int.ediv_mul_le i (by omega), ?_⟩
  have h := Int.lt_ediv_add_one_mul_self i (show 0 < W by omega)
  rw [Int.add_mul, Int.one_mul] at h
  exact h
theorem blk_le {W k k' : Int} (hW : 1 ≤ W) (h : k < k') : k * W + W ≤ k' * W := by
  have := Int.mul_le_mul_of_nonneg_right (show k + 1 ≤ k' by omega) (show 0 ≤ W by omega)
  rw [Int.add_mul, Int.one_mul] at this
  exact this
abbrev BS1 (co ot : Int → Int) (W fd k : Int) : Prop := ∀ i j, k * W ≤ i → i < j → j < k * W + W → j < fd → LX co (ot i) (ot j)
abbrev BS2 (so ot : Int → Int) (W fd k : Int) : Prop := ∀ i, k * W ≤ i → i < k * W + W → i < fd → ∃ q, k * W ≤ q ∧ q < k * W + W ∧ q < fd ∧ ot i = so q
abbrev BS3 (so ot : Int → Int) (W fd k : Int) : Prop := ∀ q, k * W ≤ q → q < k * W + W → q < fd → ∃ i, k * W ≤ i ∧ i < k * W + W ∧ i < fd ∧ ot i = so q
theorem maF_so {co so : Int → Int} {w fd : Int} (hw : 1 ≤ w) (hI : ∀ i j, 0 ≤ i → i < j → j < fd → tOf (co (so i)) = tOf (co (so j)) → so i < so j) (hB : ∀ k, 0 ≤ k → BS1 co so w fd k) :
    ∀ (n : Nat) (k : Int) (ot : Int → Int), 0 ≤ k → fd ≤ k * (2 * w) + (n : Int) → (∀ k', 0 ≤ k' → k' < k → BS1 co ot (2 * w) fd k' ∧ BS2 so ot (2 * w) fd k' ∧ BS3 so ot (2 * w) fd k') →
    ∀ k', 0 ≤ k' → BS1 co (maF co so w fd n (k * (2 * w)) ot) (2 * w) fd k' ∧ BS2 so (maF co so w fd n (k * (2 * w)) ot) (2 * w) fd k' ∧ BS3 so (maF co so w fd n (k * (2 * w)) ot) (2 * w) fd k' := by
  have done : ∀ (k : Int) (ot : Int → Int), fd ≤ k * (2 * w) → (∀ k', 0 ≤ k' → k' < k → BS1 co ot (2 * w) fd k' ∧ BS2 so ot (2 * w) fd k' ∧ BS3 so ot (2 * w) fd k') → ∀ k', 0 ≤ k' → BS1 co ot (2 * w) fd k' ∧ BS2 so ot (2 * w) fd k' ∧ BS3 so ot (2 * w) fd k' := by
    intro k ot hf h k' hk'
    by_cases c : k' < k
    · exact h k' hk' c
    · have hle : k * (2 * w) ≤ k' * (2 * w) := Int.mul_le_mul_of_nonneg_right (by omega) (by omega)
      exact ⟨fun i j a b d e => by omega, fun i a b d => by omega, fun q a b d => by omega⟩
  intro n
  induction n with
  | zero => intro k ot hk hf h; unfold maF; exact done k ot (by omega) h
  | succ n ih =>
    intro k ot hk hf h
    unfold maF
    by_cases c : k * (2 * w) < fd
    · rw [if_pos c]
      have e1 : 2 * k * w = k * (2 * w) := by rw [Int.mul_comm 2 k, Int.mul_assoc]
      have e2 : (2 * k + 1) * w = k * (2 * w) + w := by rw [Int.add_mul, Int.one_mul, e1]
      have e3 : (k + 1) * (2 * w) = k * (2 * w) + 2 * w := by rw [Int.add_mul, Int.one_mul]
      have b1 := hB (2 * k) (by omega)
      have b2 := hB (2 * k + 1) (by omega)
      have hn0 : 0 ≤ k * (2 * w) := Int.mul_nonneg hk (by omega)
      have hle : ∀ k', k' < k → k' * (2 * w) + 2 * w ≤ k * (2 * w) := fun k' q => blk_le (by omega) q
      rw [← e3]
      refine ih (k + 1) _ (by omega) (by omega) (fun k' g1 g2 => ?_)
      unfold BS1 at b1 b2
      rw [e1] at b1
      rw [e2] at b2
      generalize hfr : k * (2 * w) = fr at *
      generalize hm : min (fr + w) fd = mid
      generalize he : min (mid + w) fd = en
      obtain ⟨m1, m2, m3⟩ := mg_w (co := co) (so := so) (lo := fr) (mid := mid) (en := en) (by omega) (fun i j p1 p2 p3 => b1 i j p1 p2 (by omega) (by omega)) (fun i j p1 p2 p3 => b2 i j (by omega) p2 (by omega) (by omega)) (fun i j p1 p2 p3 p4 p5 => hI i j (by omega) (by omega) (by omega) p5) ot
      by_cases q : k' < k
      · obtain ⟨h1, h2, h3⟩ := h k' g1 q
        have hl := hle k' q
        have ho : ∀ i, i < k' * (2 * w) + 2 * w → mg co so mid en (en - fr).toNat fr fr mid ot i = ot i := fun i z => mg_o _ _ _ _ _ _ (Or.inl (by omega))
        refine ⟨fun i j p1 p2 p3 p4 => ?_, fun i p1 p2 p3 => ?_, fun x p1 p2 p3 => ?_⟩
        · rw [ho i (by omega), ho j p3]; exact h1 i j p1 p2 p3 p4
        · rw [ho i p2]; exact h2 i p1 p2 p3
        · obtain ⟨i, r1, r2, r3, r4⟩ := h3 x p1 p2 p3
          exact ⟨i, r1, r2, r3, by rw [ho i r2]; exact r4⟩
      · have hkk : k' = k := by omega
        subst hkk
        unfold BS1 BS2 BS3
        rw [hfr]
        refine ⟨fun i j p1 p2 p3 p4 => m1 i j p1 p2 (by omega), fun i p1 p2 p3 => ?_, fun x p1 p2 p3 => ?_⟩
        · obtain ⟨x, r1, r2, r3⟩ := m2 i p1 (by omega)
          exact ⟨x, r1, by omega, by omega, r3⟩
        · obtain ⟨i, r1, r2, r3⟩ := m3 x p1 (by omega)
          exact ⟨i, r1, by omega, by omega, r3⟩
    · rw [if_neg c]; exact done k ot (by omega) h
theorem srt_so {co : Int → Int} {fd : Int} {R : Int → Prop} : ∀ (n : Nat) (w : Int) (so ot : Int → Int), 1 ≤ w → fd ≤ w + (n : Int) → (∀ i j, 0 ≤ i → i < j → j < fd → tOf (co (so i)) = tOf (co (so j)) → so i < so j) → (∀ k, 0 ≤ k → BS1 co so w fd k) →
    (∀ i, 0 ≤ i → i < fd → R (so i)) → (∀ x, R x → ∃ i, 0 ≤ i ∧ i < fd ∧ so i = x) →
    (∀ i j, 0 ≤ i → i < j → j < fd → LX co (srt co fd n w so ot i) (srt co fd n w so ot j)) ∧ (∀ i, 0 ≤ i → i < fd → R (srt co fd n w so ot i)) ∧ (∀ x, R x → ∃ i, 0 ≤ i ∧ i < fd ∧ srt co fd n w so ot i = x)
  | 0, w, so, ot, hw, hf, hI, hB, hR, hS => by
    unfold srt
    have b := hB 0 (by omega)
    unfold BS1 at b
    rw [Int.zero_mul] at b
    exact ⟨fun i j p1 p2 p3 => b i j p1 p2 (by omega) p3, hR, hS⟩
  | n + 1, w, so, ot, hw, hf, hI, hB, hR, hS => by
    unfold srt
    by_cases c : w < fd
    · rw [if_pos c]
      have hm := maF_so (co := co) (so := so) hw hI hB fd.toNat 0 ot (by omega) (by omega) (fun k' a b => by omega)
      rw [Int.zero_mul] at hm
      generalize maF co so w fd fd.toNat 0 ot = O at hm ⊢
      rw [Int.mul_comm w 2]
      refine srt_so n (2 * w) O so (by omega) (by omega) (fun i j p1 p2 p3 p4 => ?_) (fun k hk => (hm k hk).1) (fun i p1 p2 => ?_) (fun x hx => ?_)
      · obtain ⟨k, k0, k1, k2⟩ := blk (W := 2 * w) (i := i) (by omega) p1
        obtain ⟨k', k0', k1', k2'⟩ := blk (W := 2 * w) (i := j) (by omega) (by omega)
        by_cases e : k = k'
        · subst e
          rcases (hm k k0).1 i j k1 p2 k2' p3 with z | z
          · omega
          · exact z.2
        · have hlt : k < k' := by
            rcases Int.lt_or_le k k' with z | z
            · exact z
            · have := blk_le (W := 2 * w) (by omega) (show k' < k by omega); omega
          have hb := blk_le (W := 2 * w) (by omega) hlt
          obtain ⟨q, r1, r2, r3, r4⟩ := (hm k k0).2.1 i k1 k2 (by omega)
          obtain ⟨q', r1', r2', r3', r4'⟩ := (hm k' k0').2.1 j k1' k2' p3
          have hn0 : 0 ≤ k * (2 * w) := Int.mul_nonneg k0 (by omega)
          rw [r4, r4'] at p4 ⊢
          exact hI q q' (by omega) (by omega) r3' p4
      · obtain ⟨k, k0, k1, k2⟩ := blk (W := 2 * w) (i := i) (by omega) p1
        obtain ⟨q, r1, r2, r3, r4⟩ := (hm k k0).2.1 i k1 k2 p2
        have hn0 : 0 ≤ k * (2 * w) := Int.mul_nonneg k0 (by omega)
        rw [r4]; exact hR q (by omega) r3
      · obtain ⟨q, q1, q2, q3⟩ := hS x hx
        obtain ⟨k, k0, k1, k2⟩ := blk (W := 2 * w) (i := q) (by omega) q1
        obtain ⟨i, r1, r2, r3, r4⟩ := (hm k k0).2.2 q k1 k2 q2
        have hn0 : 0 ≤ k * (2 * w) := Int.mul_nonneg k0 (by omega)
        exact ⟨i, by omega, r3, r4.trans q3⟩
    · rw [if_neg c]
      have b := hB 0 (by omega)
      unfold BS1 at b
      rw [Int.zero_mul] at b
      exact ⟨fun i j p1 p2 p3 => b i j p1 p2 (by omega) p3, hR, hS⟩
