/-! class and reference, over the row -/
theorem sgF_x {rc rv rc' rv' : Int → Int} {t0 : SSt} : ∀ n : Nat, (∀ j, 0 ≤ j → j < (n : Int) → rc' j = rc j ∧ rv' j = rv j) → sgF rc' rv' t0 n = sgF rc rv t0 n
  | 0, _ => rfl
  | n + 1, h => by
    have e := h n (by omega) (by omega)
    unfold sgF
    rw [sgF_x n (fun j a b => h j a (by omega)), e.1, e.2]
theorem sgR_x {rc rv rc' rv' : Int → Int} : ∀ n : Nat, (∀ j, 0 ≤ j → j < (n : Int) → rc' j = rc j ∧ rv' j = rv j) → sgR rc' rv' n = sgR rc rv n
  | 0, _ => rfl
  | n + 1, h => by
    have e := h n (by omega) (by omega)
    rw [sgR_s, sgR_s, sgR_x n (fun j a b => h j a (by omega)), e.1, e.2]
theorem sdR_x {rc rv rc' rv' : Int → Int} : ∀ n : Nat, (∀ j, 0 ≤ j → j < (n : Int) → rc' j = rc j ∧ rv' j = rv j) → sdR rc' rv' n = sdR rc rv n
  | 0, _ => rfl
  | n + 1, h => by
    have e := h n (by omega) (by omega)
    rw [sdR_s, sdR_s, sdR_x n (fun j a b => h j a (by omega)), sgR_x n (fun j a b => h j a (by omega)), e.1]
theorem hR_x {rc rv rc' rv' : Int → Int} {x u : Int} : ∀ n : Nat, (∀ j, 0 ≤ j → j < (n : Int) → rc' j = rc j ∧ rv' j = rv j) → (hR rc' rv' n x u ↔ hR rc rv n x u)
  | 0, _ => Iff.rfl
  | n + 1, h => by
    have e := h n (by omega) (by omega)
    have ih := hR_x (x := x) (u := u) n (fun j a b => h j a (by omega))
    rw [hR_s, hR_s, e.1, e.2]
    by_cases k0 : kOf (rc (n : Int)) = 0
    · rw [if_pos k0, if_pos k0, ih]
    · rw [if_neg k0, if_neg k0]
      by_cases k1 : kOf (rc (n : Int)) = 1
      · rw [if_pos k1, if_pos k1, ih]
      · rw [if_neg k1, if_neg k1, ih]
def RL2 (rc rv : Int → Int) (n : Int) (t : PSt) (g : MPl) : Prop :=
  g.1 = t.1 ∧ (∀ ta tr td tv : Int → Int, TRI t.2.1 g.2.1 (sgF rc rv (0, ta, tr, td, tv) n.toNat)) ∧ g.2.2.1 = t.2.2 ∧ t.2.2 = sgR rc rv n.toNat ∧ g.2.2.2 = sdR rc rv n.toNat ∧ (∀ x u, HO t.1 x u ↔ hR rc rv n.toNat x u) ∧ FV t.1.1 t.1.2.2 ∧ t.1.2.2 ≤ n ∧
  ∀ j, 0 ≤ j → j < n → (0 ≤ rc j ∧ rc j < 20000000) ∧ okA (kOf (rc j)) (tOf (rc j)) (rv j)
theorem RL2_x {rc rv rc' rv' : Int → Int} {n : Int} {t : PSt} {g : MPl} (hn : 0 ≤ n) (h : RL2 rc rv n t g) (hx : ∀ j, 0 ≤ j → j < n → rc' j = rc j ∧ rv' j = rv j) : RL2 rc' rv' n t g := by
  have hx' : ∀ j, 0 ≤ j → j < ((n.toNat : Nat) : Int) → rc' j = rc j ∧ rv' j = rv j := fun j a b => hx j a (by omega)
  obtain ⟨h1, h2, h3, h4, h5, h6, h7, h8, h9⟩ := h
  refine ⟨h1, fun ta tr td tv => ?_, h3, ?_, ?_, fun x u => ?_, h7, h8, fun j a b => ?_⟩
  · rw [sgF_x n.toNat hx']; exact h2 ta tr td tv
  · rw [sgR_x n.toNat hx']; exact h4
  · rw [sdR_x n.toNat hx']; exact h5
  · rw [hR_x n.toNat hx']; exact h6 x u
  · rw [(hx j a b).1, (hx j a b).2]; exact h9 j a b
theorem RL2_s {rc rv rc' rv' : Int → Int} {n kd tg v : Int} {t : PSt} {g : MPl} (hn : 0 ≤ n ∧ n < 1000) (h : RL2 rc rv n t g) (ha : okA kd tg v) (hx : ∀ j, 0 ≤ j → j < n → rc' j = rc j ∧ rv' j = rv j) (h1 : rc' n = kd * 4000000 + tg) (h2 : rv' n = v) : RL2 rc' rv' (n + 1) (doF t kd tg v) (doM g kd tg v) := by
  obtain ⟨r1, r2, r3, r4, r5, r6, r7, r8, r9⟩ := RL2_x hn.1 h hx
  obtain ⟨q1, q2, q3⟩ := code_r (a := kd) (b := tg) ha.1 ha.2.1
  rw [← h1] at q1 q2 q3
  have e1 : (n + 1).toNat = n.toNat + 1 := by omega
  have e2 : ((n.toNat : Nat) : Int) = n := by omega
  have sF : ∀ t0 : SSt, sgF rc' rv' t0 (n + 1).toNat = sActD (sgF rc' rv' t0 n.toNat) (rc' n) (rv' n) := fun t0 => sgF_s hn.1
  have val : ∀ j, 0 ≤ j → j < n + 1 → (0 ≤ rc' j ∧ rc' j < 20000000) ∧ okA (kOf (rc' j)) (tOf (rc' j)) (rv' j) := fun j a b => by
    by_cases e : j = n
    · rw [e, q2, q3, h2]; exact ⟨q1, ha⟩
    · exact r9 j a (by omega)
  have sg1 : sgR rc' rv' (n + 1).toNat = if kd = 4 then uF t.2.2 (pix tg) v else t.2.2 := by rw [e1, sgR_s, e2, q2, q3, h2, ← r4]
  have sd1 : sdR rc' rv' (n + 1).toNat = if kd = 4 ∧ t.2.2 (pix tg) = 0 then g.2.2.2 + 1 else g.2.2.2 := by rw [e1, sdR_s, e2, q2, q3, ← r4, ← r5]
  have hr1 : ∀ x u, hR rc' rv' (n + 1).toNat x u ↔ (if kd = 0 then (x = tg ∧ u = v) ∨ (x ≠ tg ∧ HO t.1 x u) else if kd = 1 then x ≠ tg ∧ HO t.1 x u else HO t.1 x u) := fun x u => by
    rw [e1, hR_s, e2, q2, q3, h2]
    by_cases k0 : kd = 0
    · rw [if_pos k0, if_pos k0, r6]
    · rw [if_neg k0, if_neg k0]
      by_cases k1 : kd = 1
      · rw [if_pos k1, if_pos k1, r6]
      · rw [if_neg k1, if_neg k1, r6]
  obtain ⟨k1, k2, k3, k4, k5, k6⟩ := id ha
  unfold RL2
  rcases (show kd = 0 ∨ kd = 1 ∨ kd = 2 ∨ kd = 3 ∨ kd = 4 by omega) with c | c | c | c | c
  · rw [doF_0 c, doM_0 c]
    have hp := FV_put (x := tg) r7 k2 (by omega)
    refine ⟨by rw [r1], fun ta tr td tv => ?_, r3, ?_, ?_, fun x u => ?_, hp.1, ?_, val⟩
    · rw [sF]; unfold sActD; rw [q2, if_neg (by omega), if_neg (by omega)]; exact r2 ta tr td tv
    · rw [sg1, if_neg (by omega)]
    · rw [sd1, if_neg (fun w => by omega)]
    · rw [hr1, if_pos c]; exact HO_put r7
    · have := hp.2; show pH _ _ _ ≤ _; omega
  · rw [doF_1 c, doM_1 c]
    have hp := FV_drop (x := tg) r7
    refine ⟨by rw [r1], fun ta tr td tv => ?_, r3, ?_, ?_, fun x u => ?_, hp.1, ?_, val⟩
    · rw [sF]; unfold sActD; rw [q2, if_neg (by omega), if_neg (by omega)]; exact r2 ta tr td tv
    · rw [sg1, if_neg (by omega)]
    · rw [sd1, if_neg (fun w => by omega)]
    · rw [hr1, if_neg (by omega), if_pos c]; exact HO_drop r7
    · have := hp.2; show dH _ _ _ ≤ _; omega
  · rw [doF_2 c, doM_2 c]
    refine ⟨r1, fun ta tr td tv => ?_, r3, ?_, ?_, fun x u => ?_, r7, by dsimp only; omega, val⟩
    · rw [sF]; unfold sActD; rw [q2, if_pos c, q3, h2]; exact TRI_ins (r2 ta tr td tv) ⟨k2.1, k4 c⟩
    · rw [sg1, if_neg (by omega)]
    · rw [sd1, if_neg (fun w => by omega)]
    · rw [hr1, if_neg (by omega), if_neg (by omega)]
  · rw [doF_3 c, doM_3 c]
    refine ⟨r1, fun ta tr td tv => ?_, r3, ?_, ?_, fun x u => ?_, r7, by dsimp only; omega, val⟩
    · rw [sF]; unfold sActD; rw [q2, if_neg (by omega), if_pos c, q3]; exact TRI_del (r2 ta tr td tv) (k5 c)
    · rw [sg1, if_neg (by omega)]
    · rw [sd1, if_neg (fun w => by omega)]
    · rw [hr1, if_neg (by omega), if_neg (by omega)]
  · rw [doF_4 c, doM_4 c]
    refine ⟨r1, fun ta tr td tv => ?_, ?_, ?_, ?_, fun x u => ?_, r7, by dsimp only; omega, val⟩
    · dsimp only; rw [sF]; unfold sActD; rw [q2, if_neg (by omega), if_neg (by omega)]; exact r2 ta tr td tv
    · dsimp only; rw [r3]
    · rw [sg1, if_pos c]
    · rw [sd1]
      dsimp only
      rw [r3]
      by_cases z : t.2.2 (pix tg) = 0
      · rw [if_pos z, if_pos ⟨c, z⟩]
      · rw [if_neg z, if_neg (fun w => z w.2)]; omega
    · rw [hr1, if_neg (by omega), if_neg (by omega)]
