/-! the reference's plain side -/
theorem cF_up {f : Int → Int} {q hd : Int} (h : q ≤ hd) : uF (cF f f q (q + 1) (hd - q)) q (cF f f q (q + 1) (hd - q) (q - 1)) = cF f f (q - 1) (q - 1 + 1) (hd - (q - 1)) := by
  funext j
  unfold uF cF
  by_cases h1 : j = q
  · rw [if_pos h1, if_neg (by omega), if_pos (by omega)]; congr 1; omega
  · rw [if_neg h1]
    by_cases h2 : q + 1 ≤ j ∧ j < q + 1 + (hd - q)
    · rw [if_pos h2, if_pos (by omega)]; congr 1; omega
    · rw [if_neg h2, if_neg (by omega)]
theorem cF_dn {f : Int → Int} {p q : Int} (h : p ≤ q) : uF (cF f f (p + 1) p (q - p)) q (cF f f (p + 1) p (q - p) (q + 1)) = cF f f (p + 1) p (q + 1 - p) := by
  funext j
  unfold uF cF
  by_cases h1 : j = q
  · rw [if_pos h1, if_neg (by omega), if_pos (by omega)]; congr 1; omega
  · rw [if_neg h1]
    by_cases h2 : p ≤ j ∧ j < p + (q - p)
    · rw [if_pos h2, if_pos (by omega)]
    · rw [if_neg h2, if_neg (by omega)]
theorem cF_0 (f g : Int → Int) (a b : Int) : cF f g a b 0 = g := by
  funext j; unfold cF; rw [if_neg (by omega)]
abbrev okIm (md : Int) (tr : Int → Int) (x : Int) : Prop := md < 100 ∧ (x = 0 ∨ tr x ≠ 0)
def dlM (ab : Int → Int) : Nat → Int → (Int → Int) → Int → (Int → Int) × Int
  | 0, _, tr, al => (tr, al)
  | n + 1, i, tr, al => if tr i ≠ 0 ∧ 0 < ab i ∧ tr (ab i) = 0 then dlM ab n (i + 1) (uF tr i 0) (al - 1) else dlM ab n (i + 1) tr al
theorem dlM_t {ab : Int → Int} {md i : Int} {tr : Int → Int} {al : Int} (h : i ≤ md) (hc : tr i ≠ 0 ∧ 0 < ab i ∧ tr (ab i) = 0) : dlM ab (md + 1 - i).toNat i tr al = dlM ab (md + 1 - (i + 1)).toNat (i + 1) (uF tr i 0) (al - 1) := by
  rw [show (md + 1 - i).toNat = (md + 1 - (i + 1)).toNat + 1 by omega]
  conv => lhs; unfold dlM
  rw [if_pos hc]
theorem dlM_f {ab : Int → Int} {md i : Int} {tr : Int → Int} {al : Int} (h : i ≤ md) (hc : ¬ (tr i ≠ 0 ∧ 0 < ab i ∧ tr (ab i) = 0)) : dlM ab (md + 1 - i).toNat i tr al = dlM ab (md + 1 - (i + 1)).toNat (i + 1) tr al := by
  rw [show (md + 1 - i).toNat = (md + 1 - (i + 1)).toNat + 1 by omega]
  conv => lhs; unfold dlM
  rw [if_neg hc]
theorem dlM_e {ab : Int → Int} {md i : Int} {tr : Int → Int} {al : Int} (h : md < i) : dlM ab (md + 1 - i).toNat i tr al = (tr, al) := by
  rw [show (md + 1 - i).toNat = 0 by omega]; rfl
abbrev MG : Type := Int × Int × (Int → Int) × (Int → Int) × (Int → Int)
abbrev MPl : Type := FSt × MG × (Int → Int) × Int
/-- md, alive, above, there, value -/
def mIns (t : MG) (x v : Int) : MG := if okIm t.1 t.2.2.2.1 x then (t.1 + 1, t.2.1 + 1, uF t.2.2.1 (t.1 + 1) x, uF t.2.2.2.1 (t.1 + 1) 1, uF t.2.2.2.2 (t.1 + 1) v) else t
def mDel (t : MG) (x : Int) : MG := if t.2.2.2.1 x ≠ 0 then (t.1, (dlM t.2.2.1 (t.1 + 1 - (x + 1)).toNat (x + 1) (uF t.2.2.2.1 x 0) (t.2.1 - 1)).2, t.2.2.1, (dlM t.2.2.1 (t.1 + 1 - (x + 1)).toNat (x + 1) (uF t.2.2.2.1 x 0) (t.2.1 - 1)).1, t.2.2.2.2) else t
theorem mIns_t {t : MG} {x v : Int} (h : okIm t.1 t.2.2.2.1 x) : mIns t x v = (t.1 + 1, t.2.1 + 1, uF t.2.2.1 (t.1 + 1) x, uF t.2.2.2.1 (t.1 + 1) 1, uF t.2.2.2.2 (t.1 + 1) v) := if_pos h
theorem mIns_f {t : MG} {x v : Int} (h : ¬ okIm t.1 t.2.2.2.1 x) : mIns t x v = t := if_neg h
theorem mDel_t {t : MG} {x : Int} (h : t.2.2.2.1 x ≠ 0) : mDel t x = (t.1, (dlM t.2.2.1 (t.1 + 1 - (x + 1)).toNat (x + 1) (uF t.2.2.2.1 x 0) (t.2.1 - 1)).2, t.2.2.1, (dlM t.2.2.1 (t.1 + 1 - (x + 1)).toNat (x + 1) (uF t.2.2.2.1 x 0) (t.2.1 - 1)).1, t.2.2.2.2) := if_pos h
theorem mDel_f {t : MG} {x : Int} (h : ¬ t.2.2.2.1 x ≠ 0) : mDel t x = t := if_neg h
def doM (t : MPl) (kd tg v : Int) : MPl :=
  if kd = 0 then (fPut t.1 tg v, t.2.1, t.2.2)
  else if kd = 1 then (fDrop t.1 tg, t.2.1, t.2.2)
  else if kd = 2 then (t.1, mIns t.2.1 tg v, t.2.2)
  else if kd = 3 then (t.1, mDel t.2.1 tg, t.2.2)
  else (t.1, t.2.1, uF t.2.2.1 (pix tg) v, t.2.2.2 + (if t.2.2.1 (pix tg) = 0 then 1 else 0))
theorem doM_0 {t : MPl} {kd tg v : Int} (h : kd = 0) : doM t kd tg v = (fPut t.1 tg v, t.2.1, t.2.2) := by unfold doM; rw [if_pos h]
theorem doM_1 {t : MPl} {kd tg v : Int} (h : kd = 1) : doM t kd tg v = (fDrop t.1 tg, t.2.1, t.2.2) := by unfold doM; rw [if_neg (by omega), if_pos h]
theorem doM_2 {t : MPl} {kd tg v : Int} (h : kd = 2) : doM t kd tg v = (t.1, mIns t.2.1 tg v, t.2.2) := by unfold doM; rw [if_neg (by omega), if_neg (by omega), if_pos h]
theorem doM_3 {t : MPl} {kd tg v : Int} (h : kd = 3) : doM t kd tg v = (t.1, mDel t.2.1 tg, t.2.2) := by unfold doM; rw [if_neg (by omega), if_neg (by omega), if_neg (by omega), if_pos h]
theorem doM_4 {t : MPl} {kd tg v : Int} (h : kd = 4) : doM t kd tg v = (t.1, t.2.1, uF t.2.2.1 (pix tg) v, t.2.2.2 + (if t.2.2.1 (pix tg) = 0 then 1 else 0)) := by unfold doM; rw [if_neg (by omega), if_neg (by omega), if_neg (by omega), if_neg (by omega)]
def MGV (t : MG) : Prop := (0 ≤ t.1 ∧ t.1 ≤ 100) ∧ (∀ j, 0 ≤ j → j ≤ 100 → t.2.2.2.1 j = 0 ∨ t.2.2.2.1 j = 1) ∧ (∀ j, t.1 < j → j ≤ 100 → t.2.2.2.1 j = 0) ∧ t.2.2.2.1 0 = 0 ∧ (∀ j, 1 ≤ j → j ≤ t.1 → 0 ≤ t.2.2.1 j ∧ t.2.2.1 j < j)
abbrev TR0 (tr : Int → Int) (md : Int) : Prop := (∀ j, 0 ≤ j → j ≤ 100 → tr j = 0 ∨ tr j = 1) ∧ (∀ j, md < j → j ≤ 100 → tr j = 0) ∧ tr 0 = 0
theorem TR0_clr {tr : Int → Int} {md i : Int} (h : TR0 tr md) : TR0 (uF tr i 0) md := by
  refine ⟨fun j a b => ?_, fun j a b => ?_, ?_⟩
  · by_cases hj : j = i
    · rw [hj, uF_s]; exact Or.inl rfl
    · rw [uF_n _ _ hj]; exact h.1 j a b
  · by_cases hj : j = i
    · rw [hj, uF_s]
    · rw [uF_n _ _ hj]; exact h.2.1 j a b
  · by_cases hj : (0 : Int) = i
    · rw [hj, uF_s]
    · rw [uF_n _ _ hj]; exact h.2.2
theorem dlM_r {ab : Int → Int} {md : Int} : ∀ (n : Nat) (i : Int) (tr : Int → Int) (al : Int), TR0 tr md → TR0 (dlM ab n i tr al).1 md
  | 0, _, tr, _, h => h
  | n + 1, i, tr, al, h => by
    unfold dlM
    split
    · exact dlM_r n (i + 1) _ _ (TR0_clr h)
    · exact dlM_r n (i + 1) _ _ h
theorem MGV_ins {t : MG} {x v : Int} (h : MGV t) (hx : 0 ≤ x ∧ x ≤ 100) : MGV (mIns t x v) := by
  obtain ⟨md, al, ab, tr, sv⟩ := t
  obtain ⟨h1, h2, h3, h4, h5⟩ := h
  dsimp only at h1 h2 h3 h4 h5
  by_cases hc : okIm md tr x
  · rw [mIns_t hc]
    have hxm : x ≤ md := by
      rcases hc.2 with q | q
      · omega
      · by_cases hh : md < x
        · exact absurd (h3 x hh hx.2) q
        · omega
    refine ⟨by dsimp only; omega, fun j a b => ?_, fun j a b => ?_, ?_, fun j a b => ?_⟩
    · dsimp only
      by_cases hj : j = md + 1
      · rw [hj, uF_s]; exact Or.inr rfl
      · rw [uF_n _ _ hj]; exact h2 j a b
    · dsimp only at a ⊢; rw [uF_n _ _ (by omega)]; exact h3 j (by omega) b
    · dsimp only; rw [uF_n _ _ (by omega)]; exact h4
    · dsimp only at b ⊢
      by_cases hj : j = md + 1
      · rw [hj, uF_s]; omega
      · rw [uF_n _ _ hj]; exact h5 j a (by omega)
  · rw [mIns_f hc]; exact ⟨h1, h2, h3, h4, h5⟩
theorem MGV_del {t : MG} {x : Int} (h : MGV t) : MGV (mDel t x) := by
  obtain ⟨h1, h2, h3, h4, h5⟩ := h
  by_cases hc : t.2.2.2.1 x ≠ 0
  · rw [mDel_t hc]
    have q := dlM_r (ab := t.2.2.1) (md := t.1) (t.1 + 1 - (x + 1)).toNat (x + 1) (uF t.2.2.2.1 x 0) (t.2.1 - 1) (TR0_clr ⟨h2, h3, h4⟩)
    exact ⟨h1, q.1, q.2.1, q.2.2, h5⟩
  · rw [mDel_f hc]; exact ⟨h1, h2, h3, h4, h5⟩
abbrev SGV (sg : Int → Int) : Prop := ∀ j, 0 ≤ j → j < 1920 → 0 ≤ sg j ∧ sg j ≤ 126
def PM (t : MPl) (n : Int) : Prop := FV t.1.1 t.1.2.2 ∧ t.1.2.2 ≤ n ∧ MGV t.2.1 ∧ SGV t.2.2.1
theorem PM_do {t : MPl} {n kd tg v : Int} (h : PM t n) (hn : n < 1000) (ha : okA kd tg v) : PM (doM t kd tg v) (n + 1) := by
  obtain ⟨h1, h2, h3, h4⟩ := h
  obtain ⟨a1, a2, a3, a4, a5, a6⟩ := ha
  rcases (show kd = 0 ∨ kd = 1 ∨ kd = 2 ∨ kd = 3 ∨ kd = 4 by omega) with q | q | q | q | q
  · rw [doM_0 q]; have := FV_put (x := tg) h1 (by omega) (by omega); exact ⟨this.1, by have := this.2; show pH _ _ _ ≤ _; omega, h3, h4⟩
  · rw [doM_1 q]; have := FV_drop (x := tg) h1; exact ⟨this.1, by have := this.2; show dH _ _ _ ≤ _; omega, h3, h4⟩
  · rw [doM_2 q]; exact ⟨h1, by dsimp only; omega, MGV_ins h3 ⟨a2.1, a4 q⟩, h4⟩
  · rw [doM_3 q]; exact ⟨h1, by dsimp only; omega, MGV_del h3, h4⟩
  · rw [doM_4 q]
    refine ⟨h1, by dsimp only; omega, h3, fun j a b => ?_⟩
    dsimp only
    by_cases hj : j = pix tg
    · rw [hj, uF_s]; have := (a6 q).2; omega
    · rw [uF_n _ _ hj]; exact h4 j a b
def dmF (ds wh wa : Int → Int) (fr : Int) (t : MPl) : Nat → MPl
  | 0 => t
  | n + 1 => doM (dmF ds wh wa fr t n) (ds (fr + (n : Int))) (wh (fr + (n : Int))) (wa (fr + (n : Int)))
theorem dmF_s {ds wh wa : Int → Int} {fr : Int} {t : MPl} {i : Int} (h : fr ≤ i) : dmF ds wh wa fr t (i + 1 - fr).toNat = doM (dmF ds wh wa fr t (i - fr).toNat) (ds i) (wh i) (wa i) := by
  rw [show (i + 1 - fr).toNat = (i - fr).toNat + 1 by omega]
  conv => lhs; unfold dmF
  rw [show fr + (((i - fr).toNat : Nat) : Int) = i by omega]
