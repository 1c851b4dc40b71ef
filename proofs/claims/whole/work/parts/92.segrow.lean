/-! the class's row of segments: what an insert and a delete leave -/
theorem eo_sp {od dp : Int → Int} {d : Int} : ∀ (m : Nat) (i : Int), (∀ j, i ≤ j → j < eo od dp d m i → d < dp (od j)) ∧ (eo od dp d m i < i + (m : Int) → dp (od (eo od dp d m i)) ≤ d)
  | 0, i => ⟨fun j a b => by unfold eo at b; omega, fun q => by unfold eo at q; omega⟩
  | m + 1, i => by
    obtain ⟨h1, h2⟩ := eo_sp (od := od) (dp := dp) (d := d) m (i + 1)
    unfold eo
    by_cases c : d < dp (od i)
    · rw [if_pos c]
      refine ⟨fun j a b => ?_, fun q => h2 (by omega)⟩
      by_cases e : j = i
      · rw [e]; exact c
      · exact h1 j (by omega) b
    · rw [if_neg c]; exact ⟨fun j a b => by omega, fun _ => by omega⟩
theorem fi0_no {od : Int → Int} {n : Int} : ∀ (m : Nat) (i : Int), 0 ≤ i → fi0 od n m i = -1 → ∀ j, i ≤ j → j < i + (m : Int) → od j ≠ n
  | 0, i, _, _, j, a, b => by omega
  | m + 1, i, h0, h, j, a, b => by
    unfold fi0 at h
    by_cases c : od i = n
    · rw [if_pos c] at h; omega
    · rw [if_neg c] at h
      by_cases e : j = i
      · rw [e]; exact c
      · exact fi0_no m (i + 1) (by omega) h j (by omega) (by omega)
theorem GO_ins {od ab dp : Int → Int} {th md p x : Int} (h : GO od ab dp th md) (hth : 0 ≤ th ∧ 0 ≤ md) (hp : 0 ≤ p ∧ p ≤ th) (hx : 0 ≤ x ∧ x ≤ md) (hA : ∀ j, 0 ≤ j → j < p → plt (Pa ab (od j)) (Pa ab x ++ [md + 1])) (hB : ∀ j, p ≤ j → j < th → plt (Pa ab x ++ [md + 1]) (Pa ab (od j))) (hC : x = 0 ∨ ∃ j, 0 ≤ j ∧ j < th ∧ od j = x) :
    GO (uF (cF od od p (p + 1) (th - p)) p (md + 1)) (uF ab (md + 1) x) (uF dp (md + 1) (if x = 0 then 0 else dp x + 1)) (th + 1) (md + 1) := by
  obtain ⟨hu, hd, hr, hs, hc⟩ := h
  have a := fun (j : Int) => ins_at od (p := p) (hd := th) (x := md + 1) (j := j) hp
  have he : ∀ j, 1 ≤ j → j ≤ md → uF ab (md + 1) x j = ab j := fun j _ q => uF_n _ _ (by omega)
  have hu' : UP (uF ab (md + 1) x) (md + 1) := fun j a b => by
    by_cases e : j = md + 1
    · rw [e, uF_s]; omega
    · rw [uF_n _ _ e]; exact hu j a (by omega)
  have ho : ∀ j, j ≤ md → Pa (uF ab (md + 1) x) j = Pa ab j := fun j q => Pa_ext hu he q
  have hn : Pa (uF ab (md + 1) x) (md + 1) = Pa ab x ++ [md + 1] := by rw [Pa_s hu' ⟨by omega, by omega⟩, uF_s, ho x hx.2]
  -- each place of the new row
  have cs : ∀ j, 0 ≤ j → j < th + 1 → (j < p ∧ uF (cF od od p (p + 1) (th - p)) p (md + 1) j = od j) ∨ (j = p ∧ uF (cF od od p (p + 1) (th - p)) p (md + 1) j = md + 1) ∨ (p < j ∧ uF (cF od od p (p + 1) (th - p)) p (md + 1) j = od (j - 1)) := fun j a0 a1 => by
    rcases Int.lt_trichotomy j p with q | q | q
    · exact Or.inl ⟨q, (a j).1 q⟩
    · exact Or.inr (Or.inl ⟨q, (a j).2.1 q⟩)
    · exact Or.inr (Or.inr ⟨q, (a j).2.2 q (by omega)⟩)
  have back : ∀ j, 0 ≤ j → j < th → ∃ k, 0 ≤ k ∧ k < th + 1 ∧ uF (cF od od p (p + 1) (th - p)) p (md + 1) k = od j := fun j a0 a1 => by
    by_cases q : j < p
    · exact ⟨j, a0, by omega, (a j).1 q⟩
    · exact ⟨j + 1, by omega, by omega, by rw [(a (j + 1)).2.2 (by omega) (by omega), Int.add_sub_cancel]⟩
  refine ⟨hu', fun j a0 a1 => ?_, fun j a0 a1 => ?_, fun i j a0 a1 a2 => ?_, fun j a0 a1 => ?_⟩
  · by_cases e : j = md + 1
    · rw [e, uF_s, hn, List.length_append]
      by_cases z : x = 0
      · rw [if_pos z, z, Pa_0 _ (Int.le_refl 0)]; simp
      · rw [if_neg z]; have := hd x (by omega) hx.2; simp; omega
    · rw [uF_n _ _ e, ho j (by omega)]; exact hd j a0 (by omega)
  · rcases cs j a0 a1 with ⟨q, e⟩ | ⟨q, e⟩ | ⟨q, e⟩
    · rw [e]; have := hr j a0 (by omega); omega
    · rw [e]; omega
    · rw [e]; have := hr (j - 1) (by omega) (by omega); omega
  · rcases cs i a0 (by omega) with ⟨q, e⟩ | ⟨q, e⟩ | ⟨q, e⟩ <;> rcases cs j (by omega) a2 with ⟨r, f⟩ | ⟨r, f⟩ | ⟨r, f⟩
    · rw [e, f, ho _ (hr i a0 (by omega)).2, ho _ (hr j (by omega) (by omega)).2]; exact hs i j a0 a1 (by omega)
    · rw [e, f, ho _ (hr i a0 (by omega)).2, hn]; exact hA i a0 q
    · rw [e, f, ho _ (hr i a0 (by omega)).2, ho _ (hr (j - 1) (by omega) (by omega)).2]; exact hs i (j - 1) a0 (by omega) (by omega)
    · omega
    · omega
    · rw [e, f, hn, ho _ (hr (j - 1) (by omega) (by omega)).2]; exact hB (j - 1) (by omega) (by omega)
    · omega
    · omega
    · rw [e, f, ho _ (hr (i - 1) (by omega) (by omega)).2, ho _ (hr (j - 1) (by omega) (by omega)).2]; exact hs (i - 1) (j - 1) (by omega) (by omega) (by omega)
  · have old : ∀ k, 0 ≤ k → k < th → uF ab (md + 1) x (od k) = 0 ∨ ∃ j, 0 ≤ j ∧ j < th + 1 ∧ uF (cF od od p (p + 1) (th - p)) p (md + 1) j = uF ab (md + 1) x (od k) := fun k k0 k1 => by
      rw [he _ (hr k k0 k1).1 (hr k k0 k1).2]
      rcases hc k k0 k1 with q | ⟨w, w0, w1, w2⟩
      · exact Or.inl q
      · obtain ⟨v, v0, v1, v2⟩ := back w w0 w1
        exact Or.inr ⟨v, v0, v1, v2.trans w2⟩
    rcases cs j a0 a1 with ⟨q, e⟩ | ⟨q, e⟩ | ⟨q, e⟩
    · rw [e]; exact old j a0 (by omega)
    · rw [e, uF_s]
      rcases hC with z | ⟨w, w0, w1, w2⟩
      · exact Or.inl z
      · obtain ⟨v, v0, v1, v2⟩ := back w w0 w1
        exact Or.inr ⟨v, v0, v1, v2.trans w2⟩
    · rw [e]; exact old (j - 1) (by omega) (by omega)
/-- the new one's place -/
theorem GO_pl {od ab dp : Int → Int} {th md x i E : Int} (h : GO od ab dp th md) (hi : 0 ≤ i ∧ i < th) (hx : od i = x) (hE : i < E ∧ E ≤ th) (h1 : ∀ j, i < j → j < E → dp (od i) < dp (od j)) (h2 : E < th → dp (od E) ≤ dp (od i)) :
    (∀ j, 0 ≤ j → j < E → plt (Pa ab (od j)) (Pa ab x ++ [md + 1])) ∧ (∀ j, E ≤ j → j < th → plt (Pa ab x ++ [md + 1]) (Pa ab (od j))) := by
  obtain ⟨b1, b2⟩ := GO_blk h hi hE h1 h2
  obtain ⟨hu, hd, hr, hs, hc⟩ := h
  rw [hx] at b1 b2
  refine ⟨fun j a b => ?_, fun j a b => ?_⟩
  · rcases Int.lt_trichotomy j i with q | q | q
    · have := hs j i a q hi.2
      rw [hx] at this
      exact plt_tr this (plt_app _ _ _)
    · rw [q, hx]; exact plt_app _ _ _
    · obtain ⟨w, e⟩ := b1 j q b
      rw [e, plt_l]
      cases w with
      | nil => trivial
      | cons c cs =>
        have hm := Pa_le hu (od j).toNat (od j) (by omega) (hr j (by omega) (by omega)).2 c (by rw [e]; simp)
        exact plt_c.mpr (Or.inl (by have := hr j (by omega) (by omega); omega))
  · have p1 := hs i j hi.1 (by omega) b
    rw [hx] at p1
    rcases plt_d p1 with q | q
    · exact absurd q (b2 j a b)
    · have := q [md + 1] []
      rwa [List.append_nil] at this
theorem GO_pl0 {od ab dp : Int → Int} {th md : Int} (h : GO od ab dp th md) : ∀ j, 0 ≤ j → j < th → plt (Pa ab (od j)) (Pa ab 0 ++ [md + 1]) := by
  obtain ⟨hu, hd, hr, hs, hc⟩ := h
  intro j a b
  have hy := hr j a b
  rw [Pa_0 _ (Int.le_refl 0)]
  show plt _ [md + 1]
  cases hw : Pa ab (od j) with
  | nil => trivial
  | cons c cs =>
    have hm := Pa_le hu (od j).toNat (od j) (by omega) hy.2 c (by rw [hw]; simp)
    exact plt_c.mpr (Or.inl (by omega))
