/-! the second writing's segments and screen; the same steps are the reference's -/
abbrev okI (md : Int) (tr : Int → Int) (x : Int) : Prop := md < 100 ∧ (x = 0 ∨ (1 ≤ x ∧ x ≤ md ∧ tr x ≠ 0))
abbrev okD (md : Int) (tr : Int → Int) (x : Int) : Prop := 1 ≤ x ∧ x ≤ md ∧ tr x ≠ 0
def dlF (ab : Int → Int) : Nat → Int → (Int → Int) → Int → Int
  | 0, _, tr => tr
  | n + 1, i, tr => dlF ab n (i + 1) (if ab i ≠ 0 ∧ tr (ab i) = 0 then uF tr i 0 else tr)
theorem dlF_g {ab : Int → Int} {md i : Int} {tr : Int → Int} (h : i ≤ md) : dlF ab (md + 1 - i).toNat i tr = dlF ab (md + 1 - (i + 1)).toNat (i + 1) (if ab i ≠ 0 ∧ tr (ab i) = 0 then uF tr i 0 else tr) := by
  rw [show (md + 1 - i).toNat = (md + 1 - (i + 1)).toNat + 1 by omega]
  conv => lhs; unfold dlF
theorem dlF_e {ab : Int → Int} {md i : Int} {tr : Int → Int} (h : md < i) : dlF ab (md + 1 - i).toNat i tr = tr := by
  rw [show (md + 1 - i).toNat = 0 by omega]; rfl
abbrev TR (tr : Int → Int) (md : Int) : Prop := ∀ j, 1 ≤ j → j ≤ md → tr j = 0 ∨ tr j = 1
theorem TR_set {tr : Int → Int} {md i v : Int} (h : TR tr md) (hv : v = 0 ∨ v = 1) : TR (uF tr i v) md := by
  intro j h1 h2
  by_cases hj : j = i
  · rw [hj, uF_s]; exact hv
  · rw [uF_n _ _ hj]; exact h j h1 h2
theorem dlF_r {ab : Int → Int} {md : Int} : ∀ (n : Nat) (i : Int) (tr : Int → Int), TR tr md → TR (dlF ab n i tr) md
  | 0, _, tr, h => h
  | n + 1, i, tr, h => by
    unfold dlF
    refine dlF_r n (i + 1) _ ?_
    split
    · exact TR_set h (Or.inl rfl)
    · exact h
/-- segments as numbered: how many were made, the one above, there or not, how deep, the value -/
abbrev SSt : Type := Int × (Int → Int) × (Int → Int) × (Int → Int) × (Int → Int)
def sInsD (t : SSt) (x v : Int) : SSt := if okI t.1 t.2.2.1 x then (t.1 + 1, uF t.2.1 (t.1 + 1) x, uF t.2.2.1 (t.1 + 1) 1, uF t.2.2.2.1 (t.1 + 1) (if x = 0 then 0 else t.2.2.2.1 x + 1), uF t.2.2.2.2 (t.1 + 1) v) else t
def sDelD (t : SSt) (x : Int) : SSt := if okD t.1 t.2.2.1 x then (t.1, t.2.1, dlF t.2.1 (t.1 + 1 - (x + 1)).toNat (x + 1) (uF t.2.2.1 x 0), t.2.2.2.1, t.2.2.2.2) else t
def sActD (t : SSt) (c v : Int) : SSt := if kOf c = 2 then sInsD t (tOf c) v else if kOf c = 3 then sDelD t (tOf c) else t
def sgF (co ve : Int → Int) (t0 : SSt) : Nat → SSt
  | 0 => t0
  | n + 1 => sActD (sgF co ve t0 n) (co (n : Int)) (ve (n : Int))
theorem sgF_s {co ve : Int → Int} {t0 : SSt} {i : Int} (h : 0 ≤ i) : sgF co ve t0 (i + 1).toNat = sActD (sgF co ve t0 i.toNat) (co i) (ve i) := by
  rw [show (i + 1).toNat = i.toNat + 1 by omega]
  conv => lhs; unfold sgF
  rw [Int.toNat_of_nonneg h]
/-- what holds of them -/
def SV (t : SSt) : Prop := (0 ≤ t.1 ∧ t.1 ≤ 100) ∧ TR t.2.2.1 t.1 ∧ (∀ j, 1 ≤ j → j ≤ t.1 → 0 ≤ t.2.1 j ∧ t.2.1 j < j) ∧ (∀ j, 1 ≤ j → j ≤ t.1 → 0 ≤ t.2.2.2.1 j ∧ t.2.2.2.1 j < j)
theorem SV_act {t : SSt} (c v : Int) (h : SV t) : SV (sActD t c v) := by
  obtain ⟨h1, h2, h3, h4⟩ := h
  unfold sActD
  split
  · unfold sInsD
    split
    · rename_i hk
      refine ⟨by dsimp only; omega, ?_, ?_, ?_⟩
      · intro j a b; dsimp only at b ⊢
        by_cases hj : j = t.1 + 1
        · rw [hj, uF_s]; exact Or.inr rfl
        · rw [uF_n _ _ hj]; exact h2 j a (by omega)
      · intro j a b; dsimp only at b ⊢
        by_cases hj : j = t.1 + 1
        · rw [hj, uF_s]; omega
        · rw [uF_n _ _ hj]; exact h3 j a (by omega)
      · intro j a b; dsimp only at b ⊢
        by_cases hj : j = t.1 + 1
        · rw [hj, uF_s]; split
          · omega
          · have := h4 (tOf c) (by omega) (by omega); omega
        · rw [uF_n _ _ hj]; exact h4 j a (by omega)
    · exact ⟨h1, h2, h3, h4⟩
  · split
    · unfold sDelD
      split
      · exact ⟨h1, dlF_r _ _ _ (TR_set h2 (Or.inl rfl)), h3, h4⟩
      · exact ⟨h1, h2, h3, h4⟩
    · exact ⟨h1, h2, h3, h4⟩
/-- how much room each needs; where each stands -/
def msF (ab tr : Int → Int) : Nat → (Int → Int) → Int → Int
  | 0, sp => sp
  | n + 1, sp => msF ab tr n (if tr ((n : Int) + 1) ≠ 0 then uF sp (ab ((n : Int) + 1)) (sp (ab ((n : Int) + 1)) + sp ((n : Int) + 1)) else sp)
theorem msF_g {ab tr sp : Int → Int} {i : Int} (h : 1 ≤ i) : msF ab tr i.toNat sp = msF ab tr (i - 1).toNat (if tr i ≠ 0 then uF sp (ab i) (sp (ab i) + sp i) else sp) := by
  rw [show i.toNat = (i - 1).toNat + 1 by omega]
  conv => lhs; unfold msF
  rw [show (((i - 1).toNat : Nat) : Int) + 1 = i by omega]
def nxF (ab tr sp nx : Int → Int) : Nat → Int → Int
  | 0 => uF nx 0 0
  | n + 1 => if tr ((n : Int) + 1) ≠ 0 then uF (uF (nxF ab tr sp nx n) (ab ((n : Int) + 1)) (nxF ab tr sp nx n (ab ((n : Int) + 1)) + sp ((n : Int) + 1))) ((n : Int) + 1) (nxF ab tr sp nx n (ab ((n : Int) + 1)) + 1) else nxF ab tr sp nx n
abbrev smS (od pab pdp psv ab dp sv : Int → Int) (th n pl : Int) : Prop := pl < th ∧ od pl = n ∧ pab n = ab n ∧ pdp n = dp n ∧ psv n = sv n
def lyC (od pab pdp psv ab tr dp sv sp nx : Int → Int) (th : Int) : Nat → Int
  | 0 => 0
  | n + 1 => if tr ((n : Int) + 1) ≠ 0 then lyC od pab pdp psv ab tr dp sv sp nx th n + (if smS od pab pdp psv ab dp sv th ((n : Int) + 1) (nxF ab tr sp nx n (ab ((n : Int) + 1))) then 1 else 0) else lyC od pab pdp psv ab tr dp sv sp nx th n
theorem nxF_g {ab tr sp nx : Int → Int} {i : Int} (h : 1 ≤ i) : nxF ab tr sp nx (i + 1 - 1).toNat = if tr i ≠ 0 then uF (uF (nxF ab tr sp nx (i - 1).toNat) (ab i) (nxF ab tr sp nx (i - 1).toNat (ab i) + sp i)) i (nxF ab tr sp nx (i - 1).toNat (ab i) + 1) else nxF ab tr sp nx (i - 1).toNat := by
  rw [show (i + 1 - 1).toNat = (i - 1).toNat + 1 by omega]
  conv => lhs; unfold nxF
  rw [show (((i - 1).toNat : Nat) : Int) + 1 = i by omega]
theorem lyC_g {od pab pdp psv ab tr dp sv sp nx : Int → Int} {th i : Int} (h : 1 ≤ i) : lyC od pab pdp psv ab tr dp sv sp nx th (i + 1 - 1).toNat = if tr i ≠ 0 then lyC od pab pdp psv ab tr dp sv sp nx th (i - 1).toNat + (if smS od pab pdp psv ab dp sv th i (nxF ab tr sp nx (i - 1).toNat (ab i)) then 1 else 0) else lyC od pab pdp psv ab tr dp sv sp nx th (i - 1).toNat := by
  rw [show (i + 1 - 1).toNat = (i - 1).toNat + 1 by omega]
  conv => lhs; unfold lyC
  rw [show (((i - 1).toNat : Nat) : Int) + 1 = i by omega]
theorem lyC_r {od pab pdp psv ab tr dp sv sp nx : Int → Int} {th : Int} : ∀ n : Nat, 0 ≤ lyC od pab pdp psv ab tr dp sv sp nx th n ∧ lyC od pab pdp psv ab tr dp sv sp nx th n ≤ (n : Int)
  | 0 => by unfold lyC; omega
  | n + 1 => by
    have h := lyC_r (od := od) (pab := pab) (pdp := pdp) (psv := psv) (ab := ab) (tr := tr) (dp := dp) (sv := sv) (sp := sp) (nx := nx) (th := th) n
    unfold lyC
    split
    · split <;> omega
    · omega
/-- bits for places -/
def bt (p : Int) : Int := shlI 1 (Int.tmod p 64)
def scF (co ve sg : Int → Int) : Nat → (Int → Int) → Int → Int
  | 0, _, sm => sm
  | n + 1, mt, sm => if kOf (co (n : Int)) = 4 then scF co ve sg n (uF mt (Int.tdiv (pix (tOf (co (n : Int)))) 64) (orI (mt (Int.tdiv (pix (tOf (co (n : Int)))) 64)) (bt (pix (tOf (co (n : Int))))))) (sm + if andI (mt (Int.tdiv (pix (tOf (co (n : Int)))) 64)) (bt (pix (tOf (co (n : Int))))) = 0 ∧ sg (pix (tOf (co (n : Int)))) = ve (n : Int) then 1 else 0) else scF co ve sg n mt sm
theorem scF_t {co ve sg mt : Int → Int} {i sm : Int} (h : 0 ≤ i) (h4 : kOf (co i) = 4) : scF co ve sg (i + 1).toNat mt sm = scF co ve sg (i - 1 + 1).toNat (uF mt (Int.tdiv (pix (tOf (co i))) 64) (orI (mt (Int.tdiv (pix (tOf (co i))) 64)) (bt (pix (tOf (co i)))))) (sm + if andI (mt (Int.tdiv (pix (tOf (co i))) 64)) (bt (pix (tOf (co i)))) = 0 ∧ sg (pix (tOf (co i))) = ve i then 1 else 0) := by
  rw [show (i + 1).toNat = (i - 1 + 1).toNat + 1 by omega]
  conv => lhs; unfold scF
  rw [show (((i - 1 + 1).toNat : Nat) : Int) = i by omega, if_pos h4]
theorem scF_f {co ve sg mt : Int → Int} {i sm : Int} (h : 0 ≤ i) (h4 : kOf (co i) ≠ 4) : scF co ve sg (i + 1).toNat mt sm = scF co ve sg (i - 1 + 1).toNat mt sm := by
  rw [show (i + 1).toNat = (i - 1 + 1).toNat + 1 by omega]
  conv => lhs; unfold scF
  rw [show (((i - 1 + 1).toNat : Nat) : Int) = i by omega, if_neg h4]
theorem scF_e {co ve sg mt : Int → Int} {i sm : Int} (h : i < 0) : scF co ve sg (i + 1).toNat mt sm = sm := by
  rw [show (i + 1).toNat = 0 by omega]; rfl
theorem andI_r (a b : Int) : -9223372036854775808 ≤ andI a b ∧ andI a b < 9223372036854775808 := r64 _
theorem sInsD_t {t : SSt} {x v : Int} (h : okI t.1 t.2.2.1 x) : sInsD t x v = (t.1 + 1, uF t.2.1 (t.1 + 1) x, uF t.2.2.1 (t.1 + 1) 1, uF t.2.2.2.1 (t.1 + 1) (if x = 0 then 0 else t.2.2.2.1 x + 1), uF t.2.2.2.2 (t.1 + 1) v) := if_pos h
theorem sInsD_f {t : SSt} {x v : Int} (h : ¬ okI t.1 t.2.2.1 x) : sInsD t x v = t := if_neg h
theorem sDelD_t {t : SSt} {x : Int} (h : okD t.1 t.2.2.1 x) : sDelD t x = (t.1, t.2.1, dlF t.2.1 (t.1 + 1 - (x + 1)).toNat (x + 1) (uF t.2.2.1 x 0), t.2.2.2.1, t.2.2.2.2) := if_pos h
theorem sDelD_f {t : SSt} {x : Int} (h : ¬ okD t.1 t.2.2.1 x) : sDelD t x = t := if_neg h
theorem dlF_t {ab : Int → Int} {md i : Int} {tr : Int → Int} (h : i ≤ md) (hc : ab i ≠ 0 ∧ tr (ab i) = 0) : dlF ab (md + 1 - i).toNat i tr = dlF ab (md + 1 - (i + 1)).toNat (i + 1) (uF tr i 0) := by
  rw [dlF_g h, if_pos hc]
theorem dlF_f {ab : Int → Int} {md i : Int} {tr : Int → Int} (h : i ≤ md) (hc : ¬ (ab i ≠ 0 ∧ tr (ab i) = 0)) : dlF ab (md + 1 - i).toNat i tr = dlF ab (md + 1 - (i + 1)).toNat (i + 1) tr := by
  rw [dlF_g h, if_neg hc]
theorem msF_t {ab tr sp : Int → Int} {i : Int} (h : 1 ≤ i) (hc : tr i ≠ 0) : msF ab tr i.toNat sp = msF ab tr (i - 1).toNat (uF sp (ab i) (sp (ab i) + sp i)) := by
  rw [msF_g h, if_pos hc]
theorem msF_f {ab tr sp : Int → Int} {i : Int} (h : 1 ≤ i) (hc : ¬ tr i ≠ 0) : msF ab tr i.toNat sp = msF ab tr (i - 1).toNat sp := by
  rw [msF_g h, if_neg hc]
theorem nxF_t {ab tr sp nx : Int → Int} {i : Int} (h : 1 ≤ i) (hc : tr i ≠ 0) : nxF ab tr sp nx (i + 1 - 1).toNat = uF (uF (nxF ab tr sp nx (i - 1).toNat) (ab i) (nxF ab tr sp nx (i - 1).toNat (ab i) + sp i)) i (nxF ab tr sp nx (i - 1).toNat (ab i) + 1) := by
  rw [nxF_g h, if_pos hc]
theorem nxF_f {ab tr sp nx : Int → Int} {i : Int} (h : 1 ≤ i) (hc : ¬ tr i ≠ 0) : nxF ab tr sp nx (i + 1 - 1).toNat = nxF ab tr sp nx (i - 1).toNat := by
  rw [nxF_g h, if_neg hc]
theorem lyC_t {od pab pdp psv ab tr dp sv sp nx : Int → Int} {th i : Int} (h : 1 ≤ i) (hc : tr i ≠ 0) : lyC od pab pdp psv ab tr dp sv sp nx th (i + 1 - 1).toNat = lyC od pab pdp psv ab tr dp sv sp nx th (i - 1).toNat + (if smS od pab pdp psv ab dp sv th i (nxF ab tr sp nx (i - 1).toNat (ab i)) then 1 else 0) := by
  rw [lyC_g h, if_pos hc]
theorem lyC_f {od pab pdp psv ab tr dp sv sp nx : Int → Int} {th i : Int} (h : 1 ≤ i) (hc : ¬ tr i ≠ 0) : lyC od pab pdp psv ab tr dp sv sp nx th (i + 1 - 1).toNat = lyC od pab pdp psv ab tr dp sv sp nx th (i - 1).toNat := by
  rw [lyC_g h, if_neg hc]
