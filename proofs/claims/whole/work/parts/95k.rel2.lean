/-! a whole unit of acts on class and reference; the start -/
theorem flF_lo {f g : Int → Int} {k n j : Int} (h : j < k) : flF f k n g j = f j := by unfold flF; rw [if_neg (by omega)]
theorem flF_in {f g : Int → Int} {k n i : Int} (h : 0 ≤ i ∧ i < n) : flF f k n g (k + i) = g i := by
  unfold flF; rw [if_pos (by omega)]; exact congrArg g (by omega)
theorem RL2_k {rc rv co ve ds wh wa : Int → Int} {rk k fr : Int} {t : PSt} {g : MPl} (hrk : 0 ≤ rk ∧ rk + k ≤ 1000) (h : RL2 rc rv rk t g)
    (ha : ∀ j, 0 ≤ j → j < k → okA (ds (fr + j)) (wh (fr + j)) (wa (fr + j)) ∧ kOf (co j) = ds (fr + j) ∧ tOf (co j) = wh (fr + j) ∧ ve j = wa (fr + j)) :
    ∀ i : Nat, (i : Int) ≤ k → RL2 (flF rc rk k (fun q => kOf (co q) * 4000000 + tOf (co q))) (flF rv rk k ve) (rk + (i : Int)) (daF co ve t i) (dmF ds wh wa fr g i)
  | 0, _ => by
    have e : rk + ((0 : Nat) : Int) = rk := by omega
    rw [e]
    exact RL2_x hrk.1 h (fun j a b => ⟨flF_lo b, flF_lo b⟩)
  | i + 1, hi => by
    have ih := RL2_k hrk h ha i (by omega)
    obtain ⟨a1, a2, a3, a4⟩ := ha (i : Int) (by omega) (by omega)
    have e : rk + ((i + 1 : Nat) : Int) = rk + (i : Int) + 1 := by omega
    rw [e]
    unfold daF dmF
    rw [a2, a3, a4]
    exact RL2_s ⟨by omega, by omega⟩ ih a1 (fun _ _ _ => ⟨rfl, rfl⟩) (by rw [flF_in ⟨by omega, by omega⟩, a2, a3]) (by rw [flF_in ⟨by omega, by omega⟩, a4])
theorem PI_k {co ve ds wh wa : Int → Int} {rk k fr : Int} {t : PSt} (hrk : 0 ≤ rk ∧ rk + k ≤ 1000) (h : PI t rk)
    (ha : ∀ j, 0 ≤ j → j < k → okA (ds (fr + j)) (wh (fr + j)) (wa (fr + j)) ∧ kOf (co j) = ds (fr + j) ∧ tOf (co j) = wh (fr + j) ∧ ve j = wa (fr + j)) :
    ∀ i : Nat, (i : Int) ≤ k → PI (daF co ve t i) (rk + (i : Int))
  | 0, _ => by
    have e : rk + ((0 : Nat) : Int) = rk := by omega
    rw [e]; exact h
  | i + 1, hi => by
    have ih := PI_k hrk h ha i (by omega)
    obtain ⟨a1, a2, a3, a4⟩ := ha (i : Int) (by omega) (by omega)
    have e : rk + ((i + 1 : Nat) : Int) = rk + (i : Int) + 1 := by omega
    rw [e]
    unfold daF
    rw [a2, a3, a4]
    exact PI_do ih (by omega) a1
theorem PM_k {ds wh wa : Int → Int} {rk k fr : Int} {g : MPl} (hrk : 0 ≤ rk ∧ rk + k ≤ 1000) (h : PM g rk)
    (ha : ∀ j, 0 ≤ j → j < k → okA (ds (fr + j)) (wh (fr + j)) (wa (fr + j))) :
    ∀ i : Nat, (i : Int) ≤ k → PM (dmF ds wh wa fr g i) (rk + (i : Int))
  | 0, _ => by
    have e : rk + ((0 : Nat) : Int) = rk := by omega
    rw [e]; exact h
  | i + 1, hi => by
    have ih := PM_k hrk h ha i (by omega)
    have e : rk + ((i + 1 : Nat) : Int) = rk + (i : Int) + 1 := by omega
    rw [e]
    unfold dmF
    exact PM_do ih (by omega) (ha (i : Int) (by omega) (by omega))
abbrev tZ : PSt := ((zF, zF, 0), (zF, zF, zF, zF, 0, 0), zF)
abbrev gZm : MPl := ((zF, zF, 0), (0, 0, zF, zF, zF), zF, 0)
theorem FV_0 : FV zF 0 := ⟨by omega, fun i j a b c => by omega, fun j a b => by omega⟩
theorem RL2_0 (rc rv : Int → Int) : RL2 rc rv 0 tZ gZm := by
  refine ⟨rfl, fun ta tr td tv => ?_, rfl, rfl, rfl, fun x u => ⟨fun q => ?_, fun q => q.elim⟩, FV_0, by decide, fun j a b => by omega⟩
  · refine ⟨⟨fun j a b => by dsimp only at b; omega, fun j a b => by dsimp only at b; omega, fun j a b => by dsimp only at b; omega, fun i j a b c => by dsimp only at c; omega, fun j a b => by dsimp only at b; omega⟩, by decide, ⟨rfl, rfl⟩, ⟨rfl, rfl, rfl⟩, fun j a b => by dsimp only at b; omega, fun j a b => by dsimp only at b; omega, fun j a b => rfl⟩
  · obtain ⟨r, a, b, -⟩ := q
    dsimp only at b; omega
theorem PI_0 : PI tZ 0 := ⟨FV_0, by decide, by decide, fun j a b => by dsimp only at b; omega, fun j a b => by dsimp only at b; omega⟩
theorem PM_0 : PM gZm 0 := ⟨FV_0, by decide, ⟨by decide, fun j a b => Or.inl rfl, fun j a b => rfl, rfl, fun j a b => by dsimp only at b; omega⟩, fun j a b => ⟨by show (0 : Int) ≤ 0; omega, by show (0 : Int) ≤ 126; omega⟩⟩
/-! values come from the row -/
theorem hR_in {rc rv : Int → Int} {x u : Int} : ∀ n : Nat, hR rc rv n x u → ∃ j, 0 ≤ j ∧ j < (n : Int) ∧ u = rv j
  | 0, h => h.elim
  | n + 1, h => by
    rw [hR_s] at h
    have go : hR rc rv n x u → ∃ j, 0 ≤ j ∧ j < ((n + 1 : Nat) : Int) ∧ u = rv j := fun q => by
      obtain ⟨j, a, b, e⟩ := hR_in n q
      exact ⟨j, a, by omega, e⟩
    by_cases k0 : kOf (rc (n : Int)) = 0
    · rw [if_pos k0] at h
      rcases h with h | h
      · exact ⟨n, by omega, by omega, h.2⟩
      · exact go h.2
    · rw [if_neg k0] at h
      by_cases k1 : kOf (rc (n : Int)) = 1
      · rw [if_pos k1] at h; exact go h.2
      · rw [if_neg k1] at h; exact go h
abbrev R64 (v : Int) : Prop := -9223372036854775808 ≤ v ∧ v < 9223372036854775808
theorem sAct_v {t : SSt} {c v : Int} (h : ∀ j, 1 ≤ j → j ≤ t.1 → R64 (t.2.2.2.2 j)) (hv : R64 v) : ∀ j, 1 ≤ j → j ≤ (sActD t c v).1 → R64 ((sActD t c v).2.2.2.2 j) := by
  unfold sActD
  by_cases k2 : kOf c = 2
  · rw [if_pos k2]
    by_cases ok : okI t.1 t.2.2.1 (tOf c)
    · rw [sInsD_t ok]
      intro j a b
      dsimp only at b ⊢
      by_cases e : j = t.1 + 1
      · rw [e, uF_s]; exact hv
      · rw [uF_n _ _ e]; exact h j a (by omega)
    · rw [sInsD_f ok]; exact h
  · rw [if_neg k2]
    by_cases k3 : kOf c = 3
    · rw [if_pos k3]
      by_cases ok : okD t.1 t.2.2.1 (tOf c)
      · rw [sDelD_t ok]; exact h
      · rw [sDelD_f ok]; exact h
    · rw [if_neg k3]; exact h
theorem sgF_v {rc rv ta tr td tv : Int → Int} : ∀ n : Nat, (∀ j, 0 ≤ j → j < (n : Int) → R64 (rv j)) → ∀ j, 1 ≤ j → j ≤ (sgF rc rv (0, ta, tr, td, tv) n).1 → R64 ((sgF rc rv (0, ta, tr, td, tv) n).2.2.2.2 j)
  | 0, _, j, a, b => by unfold sgF at b; dsimp only at b; omega
  | n + 1, h, j, a, b => by
    unfold sgF at b ⊢
    exact sAct_v (sgF_v n (fun q c d => h q c (by omega))) (h n (by omega) (by omega)) j a b
