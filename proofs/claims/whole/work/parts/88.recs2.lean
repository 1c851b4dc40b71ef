/-! what a file holds, by the row alone -/
abbrev HO (t : FSt) (y u : Int) : Prop := ∃ r, 0 ≤ r ∧ r < t.2.2 ∧ t.1 r = y ∧ t.2.1 r = u
theorem SO_inj {f : Int → Int} {n i j : Int} (h : SO f n) (hi : 0 ≤ i ∧ i < n) (hj : 0 ≤ j ∧ j < n) (e : f i = f j) : i = j := by
  rcases Int.lt_trichotomy i j with q | q | q
  · have := h i j hi.1 q hj.2; omega
  · exact q
  · have := h j i hj.1 q hi.2; omega
theorem HO_put {t : FSt} {x v y u : Int} (h : FV t.1 t.2.2) : HO (fPut t x v) y u ↔ (y = x ∧ u = v) ∨ (y ≠ x ∧ HO t y u) := by
  obtain ⟨hh, hso, -⟩ := h
  obtain ⟨ky, fv, hd⟩ := t
  dsimp only at hh hso
  obtain ⟨hp, hc⟩ := cnt_z (x := x) hh.1 hso
  unfold HO fPut pK pV pH
  dsimp only
  generalize hpe : cnt ky x hd.toNat = p at hp hc ⊢
  by_cases c : p < hd ∧ ky p = x
  · rw [if_pos c, if_pos c, if_pos c]
    constructor
    · rintro ⟨r, r0, r1, r2, r3⟩
      by_cases e : r = p
      · left; rw [e, uF_s] at r3; rw [e] at r2; omega
      · right
        rw [uF_n _ _ e] at r3
        refine ⟨fun q => e (SO_inj hso ⟨r0, r1⟩ ⟨hp.1, c.1⟩ (by omega)), r, r0, r1, r2, r3⟩
    · rintro (⟨rfl, rfl⟩ | ⟨hn, r, r0, r1, r2, r3⟩)
      · exact ⟨p, hp.1, c.1, c.2, uF_s _ _ _⟩
      · have e : ¬ r = p := fun q => hn (by rw [← r2, q]; exact c.2)
        exact ⟨r, r0, r1, r2, by rw [uF_n _ _ e]; exact r3⟩
  · rw [if_neg c, if_neg c, if_neg c]
    have hno : ∀ r, 0 ≤ r → r < hd → ky r ≠ x := fun r r0 r1 q => by
      have a := (hc r r0 r1)
      by_cases hr : r = p
      · exact c ⟨by omega, by rw [← hr]; exact q⟩
      · have b := hc p hp.1 (by omega)
        have d := hso p r hp.1 (by omega) r1
        omega
    have a := fun (f : Int → Int) (w j : Int) => ins_at f (p := p) (hd := hd) (x := w) (j := j) hp
    constructor
    · rintro ⟨r, r0, r1, r2, r3⟩
      by_cases e : r = p
      · left; rw [(a ky x r).2.1 e] at r2; rw [(a fv v r).2.1 e] at r3; omega
      · right
        by_cases e2 : r < p
        · rw [(a ky x r).1 e2] at r2; rw [(a fv v r).1 e2] at r3
          exact ⟨fun q => hno r r0 (by omega) (by omega), r, r0, by omega, r2, r3⟩
        · rw [(a ky x r).2.2 (by omega) (by omega)] at r2; rw [(a fv v r).2.2 (by omega) (by omega)] at r3
          exact ⟨fun q => hno (r - 1) (by omega) (by omega) (by omega), r - 1, by omega, by omega, r2, r3⟩
    · rintro (⟨rfl, rfl⟩ | ⟨hn, r, r0, r1, r2, r3⟩)
      · exact ⟨p, hp.1, by omega, (a ky _ p).2.1 rfl, (a fv _ p).2.1 rfl⟩
      · by_cases e2 : r < p
        · exact ⟨r, r0, by omega, by rw [(a ky x r).1 e2]; exact r2, by rw [(a fv v r).1 e2]; exact r3⟩
        · refine ⟨r + 1, by omega, by omega, ?_, ?_⟩
          · rw [(a ky x (r + 1)).2.2 (by omega) (by omega), Int.add_sub_cancel]; exact r2
          · rw [(a fv v (r + 1)).2.2 (by omega) (by omega), Int.add_sub_cancel]; exact r3
theorem HO_drop {t : FSt} {x y u : Int} (h : FV t.1 t.2.2) : HO (fDrop t x) y u ↔ y ≠ x ∧ HO t y u := by
  obtain ⟨hh, hso, -⟩ := h
  obtain ⟨ky, fv, hd⟩ := t
  dsimp only at hh hso
  obtain ⟨hp, hc⟩ := cnt_z (x := x) hh.1 hso
  unfold HO fDrop dK dH
  dsimp only
  generalize hpe : cnt ky x hd.toNat = p at hp hc ⊢
  by_cases c : p < hd ∧ ky p = x
  · rw [if_pos c, if_pos c, if_pos c]
    have a := fun (f : Int → Int) (j : Int) => del_at f (p := p) (hd := hd) (j := j) ⟨hp.1, c.1⟩
    constructor
    · rintro ⟨r, r0, r1, r2, r3⟩
      by_cases e2 : r < p
      · rw [(a ky r).1 e2] at r2; rw [(a fv r).1 e2] at r3
        exact ⟨fun q => by have := (hc r r0 (by omega)).mpr e2; omega, r, r0, by omega, r2, r3⟩
      · rw [(a ky r).2 (by omega) r1] at r2; rw [(a fv r).2 (by omega) r1] at r3
        exact ⟨fun q => by have := hso p (r + 1) hp.1 (by omega) (by omega); omega, r + 1, by omega, by omega, r2, r3⟩
    · rintro ⟨hn, r, r0, r1, r2, r3⟩
      have e : ¬ r = p := fun q => hn (by rw [← r2, q]; exact c.2)
      by_cases e2 : r < p
      · exact ⟨r, r0, by omega, by rw [(a ky r).1 e2]; exact r2, by rw [(a fv r).1 e2]; exact r3⟩
      · refine ⟨r - 1, by omega, by omega, ?_, ?_⟩
        · rw [(a ky (r - 1)).2 (by omega) (by omega), Int.sub_add_cancel]; exact r2
        · rw [(a fv (r - 1)).2 (by omega) (by omega), Int.sub_add_cancel]; exact r3
  · rw [if_neg c, if_neg c, if_neg c]
    constructor
    · rintro ⟨r, r0, r1, r2, r3⟩
      refine ⟨fun q => ?_, r, r0, r1, r2, r3⟩
      have b := hc r r0 r1
      by_cases hr : r = p
      · exact c ⟨by omega, by rw [← hr]; omega⟩
      · have b2 := hc p hp.1 (by omega)
        have d := hso p r hp.1 (by omega) r1
        omega
    · rintro ⟨-, q⟩; exact q
abbrev Rn (rc : Int → Int) (n x : Int) : Prop := (0 ≤ x ∧ x < n) ∧ (kOf (rc x) = 0 ∨ kOf (rc x) = 1)
/-- x holds u after n acts -/
def hR (rc rv : Int → Int) : Nat → Int → Int → Prop
  | 0, _, _ => False
  | n + 1, x, u => if kOf (rc (n : Int)) = 0 then (x = tOf (rc (n : Int)) ∧ u = rv (n : Int)) ∨ (x ≠ tOf (rc (n : Int)) ∧ hR rc rv n x u) else if kOf (rc (n : Int)) = 1 then x ≠ tOf (rc (n : Int)) ∧ hR rc rv n x u else hR rc rv n x u
theorem hR_s (rc rv : Int → Int) (n : Nat) (x u : Int) : hR rc rv (n + 1) x u = if kOf (rc (n : Int)) = 0 then (x = tOf (rc (n : Int)) ∧ u = rv (n : Int)) ∨ (x ≠ tOf (rc (n : Int)) ∧ hR rc rv n x u) else if kOf (rc (n : Int)) = 1 then x ≠ tOf (rc (n : Int)) ∧ hR rc rv n x u else hR rc rv n x u := rfl
theorem hR_no {rc rv : Int → Int} {x u : Int} : ∀ n : Nat, (∀ a, Rn rc (n : Int) a → tOf (rc a) ≠ x) → ¬ hR rc rv n x u
  | 0, _ => fun q => q
  | n + 1, h => by
    have ih := hR_no (rv := rv) (u := u) n (fun a q => h a ⟨⟨q.1.1, by omega⟩, q.2⟩)
    rw [hR_s]
    by_cases k0 : kOf (rc (n : Int)) = 0
    · rw [if_pos k0]
      have := h n ⟨⟨by omega, by omega⟩, Or.inl k0⟩
      rintro (q | q)
      · exact this q.1.symm
      · exact ih q.2
    · rw [if_neg k0]
      by_cases k1 : kOf (rc (n : Int)) = 1
      · rw [if_pos k1]; exact fun q => ih q.2
      · rw [if_neg k1]; exact ih
theorem hR_la {rc rv : Int → Int} {x u a : Int} : ∀ n : Nat, Rn rc (n : Int) a → tOf (rc a) = x → (∀ b, Rn rc (n : Int) b → tOf (rc b) = x → b ≤ a) → (hR rc rv n x u ↔ kOf (rc a) = 0 ∧ u = rv a)
  | 0, h, _, _ => by omega
  | n + 1, h, ht, hb => by
    rw [hR_s]
    by_cases e : a = (n : Int)
    · subst e
      by_cases k0 : kOf (rc (n : Int)) = 0
      · rw [if_pos k0]
        constructor
        · rintro (q | q)
          · exact ⟨k0, q.2⟩
          · exact absurd ht.symm q.1
        · rintro ⟨-, q⟩; exact Or.inl ⟨ht.symm, q⟩
      · have k1 : kOf (rc (n : Int)) = 1 := h.2.resolve_left k0
        rw [if_neg k0, if_pos k1]
        exact ⟨fun q => absurd ht.symm q.1, fun q => absurd q.1 k0⟩
    · have ih := hR_la (rv := rv) (u := u) n ⟨⟨h.1.1, by omega⟩, h.2⟩ ht (fun b q r => hb b ⟨⟨q.1.1, by omega⟩, q.2⟩ r)
      have hn : (kOf (rc (n : Int)) = 0 ∨ kOf (rc (n : Int)) = 1) → x ≠ tOf (rc (n : Int)) := fun q r => by
        have := hb n ⟨⟨by omega, by omega⟩, q⟩ r.symm; omega
      by_cases k0 : kOf (rc (n : Int)) = 0
      · rw [if_pos k0]
        have hx := hn (Or.inl k0)
        exact ⟨fun q => q.elim (fun w => absurd w.1 hx) (fun w => ih.mp w.2), fun q => Or.inr ⟨hx, ih.mpr q⟩⟩
      · rw [if_neg k0]
        by_cases k1 : kOf (rc (n : Int)) = 1
        · rw [if_pos k1]
          exact ⟨fun q => ih.mp q.2, fun q => ⟨hn (Or.inr k1), ih.mpr q⟩⟩
        · rw [if_neg k1]; exact ih
theorem gaS_f (rc so : Int → Int) : ∀ n : Nat, (∀ i j, 0 ≤ i → i < j → j < gaN rc n → gaS rc so n i < gaS rc so n j) ∧ (∀ i, 0 ≤ i → i < gaN rc n → Rn rc (n : Int) (gaS rc so n i)) ∧ (∀ x, Rn rc (n : Int) x → ∃ i, 0 ≤ i ∧ i < gaN rc n ∧ gaS rc so n i = x)
  | 0 => ⟨fun i j a b c => by unfold gaN at c; omega, fun i a b => by unfold gaN at b; omega, fun x h => by omega⟩
  | n + 1 => by
    obtain ⟨h1, h2, h3⟩ := gaS_f rc so n
    have hr := gaN_r rc n
    unfold gaN gaS
    by_cases k : kOf (rc (n : Int)) = 0 ∨ kOf (rc (n : Int)) = 1
    · rw [if_pos k, if_pos k]
      refine ⟨fun i j a b c => ?_, fun i a b => ?_, fun x h => ?_⟩
      · rw [uF_n _ _ (show ¬ i = gaN rc n by omega)]
        by_cases e : j = gaN rc n
        · rw [e, uF_s]; have := h2 i a (by omega); omega
        · rw [uF_n _ _ e]; exact h1 i j a b (by omega)
      · by_cases e : i = gaN rc n
        · rw [e, uF_s]; exact ⟨⟨by omega, by omega⟩, k⟩
        · rw [uF_n _ _ e]; have := h2 i a (by omega); exact ⟨⟨this.1.1, by omega⟩, this.2⟩
      · by_cases e : x = (n : Int)
        · exact ⟨gaN rc n, hr.1, by omega, by rw [uF_s, e]⟩
        · obtain ⟨i, a, b, d⟩ := h3 x ⟨⟨h.1.1, by omega⟩, h.2⟩
          exact ⟨i, a, by omega, by rw [uF_n _ _ (by omega)]; exact d⟩
    · rw [if_neg k, if_neg k]
      refine ⟨h1, fun i a b => ?_, fun x h => ?_⟩
      · have := h2 i a b; exact ⟨⟨this.1.1, by omega⟩, this.2⟩
      · refine h3 x ⟨⟨h.1.1, ?_⟩, h.2⟩
        rcases Int.lt_or_le x (n : Int) with q | q
        · exact q
        · rw [show x = (n : Int) by omega] at h; exact absurd h.2 k
