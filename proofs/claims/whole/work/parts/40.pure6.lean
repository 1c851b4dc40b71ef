/-! the plain side: files, segments, screen; what an act does -/
abbrev FV (ky : Int → Int) (hd : Int) : Prop := (0 ≤ hd ∧ hd ≤ 1000) ∧ SO ky hd ∧ ∀ j, 0 ≤ j → j < hd → 0 ≤ ky j ∧ ky j < 4000000
theorem cnt_z {ky : Int → Int} {hd x : Int} (h : 0 ≤ hd) (hs : SO ky hd) : (0 ≤ cnt ky x hd.toNat ∧ cnt ky x hd.toNat ≤ hd) ∧ ∀ j, 0 ≤ j → j < hd → (ky j < x ↔ j < cnt ky x hd.toNat) := by
  have h1 := cnt_r ky x hd.toNat
  have h2 := cnt_s (f := ky) (x := x) hd.toNat (by rw [Int.toNat_of_nonneg h]; exact hs)
  rw [Int.toNat_of_nonneg h] at h1 h2
  exact ⟨h1, h2⟩
/-- a row behind an insertion -/
theorem ins_at (f : Int → Int) {p hd x j : Int} (hp : 0 ≤ p ∧ p ≤ hd) : (j < p → uF (cF f f p (p + 1) (hd - p)) p x j = f j) ∧ (j = p → uF (cF f f p (p + 1) (hd - p)) p x j = x) ∧ (p < j → j ≤ hd → uF (cF f f p (p + 1) (hd - p)) p x j = f (j - 1)) := by
  refine ⟨fun h => ?_, fun h => ?_, fun h h2 => ?_⟩
  · rw [uF_n _ _ (by omega)]; unfold cF; rw [if_neg (by omega)]
  · rw [h, uF_s]
  · rw [uF_n _ _ (by omega)]; unfold cF; rw [if_pos (by omega)]; congr 1; omega
theorem del_at (f : Int → Int) {p hd j : Int} (hp : 0 ≤ p ∧ p < hd) : (j < p → cF f f (p + 1) p (hd - 1 - p) j = f j) ∧ (p ≤ j → j < hd - 1 → cF f f (p + 1) p (hd - 1 - p) j = f (j + 1)) := by
  refine ⟨fun h => ?_, fun h h2 => ?_⟩
  · unfold cF; rw [if_neg (by omega)]
  · unfold cF; rw [if_pos (by omega)]; congr 1; omega
theorem FV_put {ky : Int → Int} {hd x : Int} (h : FV ky hd) (hx : 0 ≤ x ∧ x < 4000000) (hl : hd < 1000) : FV (pK ky hd x) (pH ky hd x) ∧ pH ky hd x ≤ hd + 1 := by
  obtain ⟨h1, h2, h3⟩ := h
  obtain ⟨c1, c2⟩ := cnt_z (x := x) h1.1 h2
  unfold pK pH
  by_cases hc : cnt ky x hd.toNat < hd ∧ ky (cnt ky x hd.toNat) = x
  · rw [if_pos hc, if_pos hc]; exact ⟨⟨h1, h2, h3⟩, by omega⟩
  · rw [if_neg hc, if_neg hc]
    generalize cnt ky x hd.toNat = p at *
    have hgt : ∀ j, p ≤ j → j < hd → x < ky j := by
      intro j a b
      have q := c2 p (by omega)
      by_cases hp : j = p
      · subst hp; have := c2 j (by omega) b; have : ky j ≠ x := fun e => hc ⟨b, e⟩; omega
      · have q2 := h2 p j (by omega) (by omega) b
        have := q (by omega)
        omega
    refine ⟨⟨by omega, ?_, ?_⟩, by omega⟩
    · intro i j a b c
      obtain ⟨i1, i2, i3⟩ := ins_at ky (p := p) (hd := hd) (x := x) (j := i) (by omega)
      obtain ⟨j1, j2, j3⟩ := ins_at ky (p := p) (hd := hd) (x := x) (j := j) (by omega)
      rcases Int.lt_trichotomy i p with hi | hi | hi <;> rcases Int.lt_trichotomy j p with hj | hj | hj
      · rw [i1 hi, j1 hj]; exact h2 i j a b (by omega)
      · rw [i1 hi, j2 hj]; exact (c2 i a (by omega)).mpr hi
      · rw [i1 hi, j3 hj (by omega)]
        by_cases hq : i = j - 1
        · omega
        · exact h2 i (j - 1) a (by omega) (by omega)
      · omega
      · omega
      · rw [i2 hi, j3 hj (by omega)]; exact hgt (j - 1) (by omega) (by omega)
      · omega
      · omega
      · rw [i3 hi (by omega), j3 hj (by omega)]; exact h2 (i - 1) (j - 1) (by omega) (by omega) (by omega)
    · intro j a b
      obtain ⟨j1, j2, j3⟩ := ins_at ky (p := p) (hd := hd) (x := x) (j := j) (by omega)
      rcases Int.lt_trichotomy j p with hj | hj | hj
      · rw [j1 hj]; exact h3 j a (by omega)
      · rw [j2 hj]; exact hx
      · rw [j3 hj (by omega)]; exact h3 (j - 1) (by omega) (by omega)
theorem FV_drop {ky : Int → Int} {hd x : Int} (h : FV ky hd) : FV (dK ky ky hd x) (dH ky hd x) ∧ dH ky hd x ≤ hd := by
  obtain ⟨h1, h2, h3⟩ := h
  obtain ⟨c1, c2⟩ := cnt_z (x := x) h1.1 h2
  unfold dK dH
  by_cases hc : cnt ky x hd.toNat < hd ∧ ky (cnt ky x hd.toNat) = x
  · rw [if_pos hc, if_pos hc]
    generalize cnt ky x hd.toNat = p at *
    refine ⟨⟨by omega, ?_, ?_⟩, by omega⟩
    · intro i j a b c
      obtain ⟨i1, i2⟩ := del_at ky (p := p) (hd := hd) (j := i) (by omega)
      obtain ⟨j1, j2⟩ := del_at ky (p := p) (hd := hd) (j := j) (by omega)
      by_cases hi : i < p
      · rw [i1 hi]
        by_cases hj : j < p
        · rw [j1 hj]; exact h2 i j a b (by omega)
        · rw [j2 (by omega) (by omega)]; exact h2 i (j + 1) a (by omega) (by omega)
      · rw [i2 (by omega) (by omega), j2 (by omega) (by omega)]; exact h2 (i + 1) (j + 1) (by omega) (by omega) (by omega)
    · intro j a b
      obtain ⟨j1, j2⟩ := del_at ky (p := p) (hd := hd) (j := j) (by omega)
      by_cases hj : j < p
      · rw [j1 hj]; exact h3 j a (by omega)
      · rw [j2 (by omega) (by omega)]; exact h3 (j + 1) (by omega) (by omega)
  · rw [if_neg hc, if_neg hc]; exact ⟨⟨h1, h2, h3⟩, by omega⟩
abbrev FSt : Type := (Int → Int) × (Int → Int) × Int
abbrev GSt : Type := (Int → Int) × (Int → Int) × (Int → Int) × (Int → Int) × Int × Int
abbrev PSt : Type := FSt × GSt × (Int → Int)
def fPut (t : FSt) (x v : Int) : FSt := (pK t.1 t.2.2 x, pV t.1 t.2.1 t.2.2 x v, pH t.1 t.2.2 x)
def fDrop (t : FSt) (x : Int) : FSt := (dK t.1 t.1 t.2.2 x, dK t.1 t.2.1 t.2.2 x, dH t.1 t.2.2 x)
noncomputable def gIns (t : GSt) (x v : Int) : GSt :=
  (sIF (t.2.2.2.2.2 < 100 ∧ sP0 t.1 t.2.2.2.2.1 x ≠ -1) t.1 (uF (cF t.1 t.1 (sPL t.1 t.2.2.1 t.2.2.2.2.1 x) (sPL t.1 t.2.2.1 t.2.2.2.2.1 x + 1) (t.2.2.2.2.1 - sPL t.1 t.2.2.1 t.2.2.2.2.1 x)) (sPL t.1 t.2.2.1 t.2.2.2.2.1 x) (t.2.2.2.2.2 + 1)),
   sIF (t.2.2.2.2.2 < 100 ∧ sP0 t.1 t.2.2.2.2.1 x ≠ -1) t.2.1 (uF t.2.1 (t.2.2.2.2.2 + 1) x),
   sIF (t.2.2.2.2.2 < 100 ∧ sP0 t.1 t.2.2.2.2.1 x ≠ -1) t.2.2.1 (uF t.2.2.1 (t.2.2.2.2.2 + 1) (if x = 0 then 0 else t.2.2.1 x + 1)),
   sIF (t.2.2.2.2.2 < 100 ∧ sP0 t.1 t.2.2.2.2.1 x ≠ -1) t.2.2.2.1 (uF t.2.2.2.1 (t.2.2.2.2.2 + 1) v),
   sI (t.2.2.2.2.2 < 100 ∧ sP0 t.1 t.2.2.2.2.1 x ≠ -1) t.2.2.2.2.1 (t.2.2.2.2.1 + 1),
   sI (t.2.2.2.2.2 < 100 ∧ sP0 t.1 t.2.2.2.2.1 x ≠ -1) t.2.2.2.2.2 (t.2.2.2.2.2 + 1))
abbrev gF (t : GSt) (x : Int) : Int := fi0 t.1 x t.2.2.2.2.1.toNat 0
abbrev gE (t : GSt) (x : Int) : Int := eo t.1 t.2.2.1 (t.2.2.1 (t.1 (gF t x))) (t.2.2.2.2.1 - (gF t x + 1)).toNat (gF t x + 1)
noncomputable def gDel (t : GSt) (x : Int) : GSt :=
  (sIF (gF t x = -1) (cF t.1 t.1 (gE t x) (gF t x) (t.2.2.2.2.1 - gE t x)) t.1, t.2.1, t.2.2.1, t.2.2.2.1, sI (gF t x = -1) (t.2.2.2.2.1 - (gE t x - gF t x)) t.2.2.2.2.1, t.2.2.2.2.2)
noncomputable def doF (t : PSt) (kd tg v : Int) : PSt :=
  if kd = 0 then (fPut t.1 tg v, t.2.1, t.2.2)
  else if kd = 1 then (fDrop t.1 tg, t.2.1, t.2.2)
  else if kd = 2 then (t.1, gIns t.2.1 tg v, t.2.2)
  else if kd = 3 then (t.1, gDel t.2.1 tg, t.2.2)
  else if kd = 4 then (t.1, t.2.1, uF t.2.2 (pix tg) v)
  else t
theorem doF_0 {t : PSt} {kd tg v : Int} (h : kd = 0) : doF t kd tg v = (fPut t.1 tg v, t.2.1, t.2.2) := by unfold doF; rw [if_pos h]
theorem doF_1 {t : PSt} {kd tg v : Int} (h : kd = 1) : doF t kd tg v = (fDrop t.1 tg, t.2.1, t.2.2) := by unfold doF; rw [if_neg (by omega), if_pos h]
theorem doF_2 {t : PSt} {kd tg v : Int} (h : kd = 2) : doF t kd tg v = (t.1, gIns t.2.1 tg v, t.2.2) := by unfold doF; rw [if_neg (by omega), if_neg (by omega), if_pos h]
theorem doF_3 {t : PSt} {kd tg v : Int} (h : kd = 3) : doF t kd tg v = (t.1, gDel t.2.1 tg, t.2.2) := by unfold doF; rw [if_neg (by omega), if_neg (by omega), if_neg (by omega), if_pos h]
theorem doF_4 {t : PSt} {kd tg v : Int} (h : kd = 4) : doF t kd tg v = (t.1, t.2.1, uF t.2.2 (pix tg) v) := by unfold doF; rw [if_neg (by omega), if_neg (by omega), if_neg (by omega), if_neg (by omega), if_pos h]
/-- a place; an act that may be done -/
abbrev PLC (p : Int) : Prop := 100 ≤ p ∧ p ≤ 2480 ∧ 1 ≤ Int.tmod p 100 ∧ Int.tmod p 100 ≤ 80
abbrev okA (kd tg v : Int) : Prop := (0 ≤ kd ∧ kd ≤ 4) ∧ (0 ≤ tg ∧ tg < 4000000) ∧ (-9223372036854775808 ≤ v ∧ v < 9223372036854775808) ∧ (kd = 2 → tg ≤ 100) ∧ (kd = 3 → 1 ≤ tg ∧ tg ≤ 100) ∧ (kd = 4 → PLC tg ∧ 32 ≤ v ∧ v ≤ 126)
theorem pix_r {p : Int} (h : PLC p) : 0 ≤ pix p ∧ pix p < 1920 := by
  unfold pix
  have h1 : Int.tdiv p 100 = p / 100 := Int.tdiv_eq_ediv_of_nonneg (by omega)
  have h2 : Int.tmod p 100 = p % 100 := Int.tmod_eq_emod_of_nonneg (by omega)
  omega
def GV (t : GSt) : Prop := (0 ≤ t.2.2.2.2.1 ∧ t.2.2.2.2.1 ≤ t.2.2.2.2.2 ∧ t.2.2.2.2.2 ≤ 100) ∧ (∀ j, 0 ≤ j → j < t.2.2.2.2.1 → 1 ≤ t.1 j ∧ t.1 j ≤ t.2.2.2.2.2) ∧ (∀ j, 1 ≤ j → j ≤ t.2.2.2.2.2 → 0 ≤ t.2.2.1 j ∧ t.2.2.1 j < j)
theorem sP0_r {od : Int → Int} {th x : Int} (h : 0 ≤ th) : sP0 od th x = -1 ∨ (0 ≤ sP0 od th x ∧ sP0 od th x ≤ th ∧ (x ≠ 0 → sP0 od th x < th ∧ od (sP0 od th x) = x)) := by
  have hf := fi0_r od x th.toNat 0 (by omega)
  rw [Int.toNat_of_nonneg h] at hf
  unfold sP0
  by_cases hx : x = 0
  · rw [if_pos hx]; right; exact ⟨h, by omega, fun q => absurd hx q⟩
  · rw [if_neg hx]; rcases hf with q | q
    · exact Or.inl q
    · exact Or.inr ⟨q.1, by omega, fun _ => ⟨by omega, q.2.2⟩⟩
theorem sPL_r {od dp : Int → Int} {th x : Int} (h : 0 ≤ th) (hp : sP0 od th x ≠ -1) : 0 ≤ sPL od dp th x ∧ sPL od dp th x ≤ th := by
  have h0 := sP0_r (od := od) (x := x) h
  unfold sPL
  by_cases hx : x = 0
  · rw [if_pos hx]; omega
  · rw [if_neg hx]
    have he := eo_r od dp (dp (od (sP0 od th x))) (th - (sP0 od th x + 1)).toNat (sP0 od th x + 1)
    omega
theorem GV_ins {t : GSt} {x v : Int} (h : GV t) (hx : 0 ≤ x ∧ x ≤ 100) : GV (gIns t x v) := by
  obtain ⟨od, ab, dp, sv, th, md⟩ := t
  obtain ⟨h1, h2, h3⟩ := h
  dsimp only at h1 h2 h3
  unfold gIns
  dsimp only
  by_cases hc : md < 100 ∧ sP0 od th x ≠ -1
  · rw [sIF_t hc, sIF_t hc, sIF_t hc, sIF_t hc, sI_t hc, sI_t hc]
    have h0 := sP0_r (od := od) (x := x) h1.1
    have hl := sPL_r (od := od) (dp := dp) (x := x) h1.1 hc.2
    generalize sPL od dp th x = p at hl ⊢
    refine ⟨by dsimp only; omega, fun j a b => ?_, fun j a b => ?_⟩
    · dsimp only at b ⊢
      obtain ⟨j1, j2, j3⟩ := ins_at od (p := p) (hd := th) (x := md + 1) (j := j) (by omega)
      rcases Int.lt_trichotomy j p with hj | hj | hj
      · rw [j1 hj]; have := h2 j a (by omega); omega
      · rw [j2 hj]; omega
      · rw [j3 hj (by omega)]; have := h2 (j - 1) (by omega) (by omega); omega
    · dsimp only at b ⊢
      by_cases hj : j = md + 1
      · rw [hj, uF_s]
        by_cases hx0 : x = 0
        · rw [if_pos hx0]; omega
        · rw [if_neg hx0]
          have q := h2 (sP0 od th x) (by omega) (by omega)
          have q2 := h3 x (by omega) (by omega)
          omega
      · rw [uF_n _ _ hj]; exact h3 j a (by omega)
  · rw [sIF_f hc, sIF_f hc, sIF_f hc, sIF_f hc, sI_f hc, sI_f hc]; exact ⟨h1, h2, h3⟩
theorem GV_del {t : GSt} {x : Int} (h : GV t) : GV (gDel t x) := by
  obtain ⟨od, ab, dp, sv, th, md⟩ := t
  obtain ⟨h1, h2, h3⟩ := h
  dsimp only at h1 h2 h3
  have hf := fi0_r od x th.toNat 0 (by omega)
  rw [Int.toNat_of_nonneg h1.1] at hf
  unfold gDel
  dsimp only [gF, gE]
  have he := eo_r od dp (dp (od (fi0 od x th.toNat 0))) (th - (fi0 od x th.toNat 0 + 1)).toNat (fi0 od x th.toNat 0 + 1)
  by_cases hc : fi0 od x th.toNat 0 = -1
  · rw [sIF_t hc, sI_t hc]; exact ⟨h1, h2, h3⟩
  · rw [sIF_f hc, sI_f hc]
    generalize eo od dp (dp (od (fi0 od x th.toNat 0))) (th - (fi0 od x th.toNat 0 + 1)).toNat (fi0 od x th.toNat 0 + 1) = e at he ⊢
    generalize fi0 od x th.toNat 0 = p at *
    refine ⟨by dsimp only; omega, fun j a b => ?_, h3⟩
    dsimp only at b ⊢
    unfold cF
    split
    · exact h2 _ (by omega) (by omega)
    · exact h2 j a (by omega)
/-- what holds of the plain side when at most n acts were done -/
def PI (t : PSt) (n : Int) : Prop := FV t.1.1 t.1.2.2 ∧ t.1.2.2 ≤ n ∧ GV t.2.1
theorem PI_do {t : PSt} {n kd tg v : Int} (h : PI t n) (hn : n < 1000) (ha : okA kd tg v) : PI (doF t kd tg v) (n + 1) := by
  obtain ⟨h1, h2, h3⟩ := h
  obtain ⟨a1, a2, a3, a4, a5, a6⟩ := ha
  rcases (show kd = 0 ∨ kd = 1 ∨ kd = 2 ∨ kd = 3 ∨ kd = 4 by omega) with q | q | q | q | q
  · rw [doF_0 q]; have := FV_put (x := tg) h1 (by omega) (by omega); exact ⟨this.1, by have := this.2; show pH _ _ _ ≤ _; omega, h3⟩
  · rw [doF_1 q]; have := FV_drop (x := tg) h1; exact ⟨this.1, by have := this.2; show dH _ _ _ ≤ _; omega, h3⟩
  · rw [doF_2 q]; exact ⟨h1, by dsimp only; omega, GV_ins h3 ⟨a2.1, a4 q⟩⟩
  · rw [doF_3 q]; exact ⟨h1, by dsimp only; omega, GV_del h3⟩
  · rw [doF_4 q]; exact ⟨h1, by dsimp only; omega, h3⟩
noncomputable def daF (co ve : Int → Int) (t : PSt) : Nat → PSt
  | 0 => t
  | n + 1 => doF (daF co ve t n) (kOf (co (n : Int))) (tOf (co (n : Int))) (ve (n : Int))
theorem daF_s {co ve : Int → Int} {t : PSt} {i : Int} (h : 0 ≤ i) : daF co ve t (i + 1).toNat = doF (daF co ve t i.toNat) (kOf (co i)) (tOf (co i)) (ve i) := by
  rw [show (i + 1).toNat = i.toNat + 1 by omega]
  conv => lhs; unfold daF
  rw [Int.toNat_of_nonneg h]
