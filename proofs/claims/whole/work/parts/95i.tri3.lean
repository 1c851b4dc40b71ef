theorem cB_clr {tr : Int → Int} {i : Int} (ht : tr i ≠ 0) : ∀ n : Nat, (1 ≤ i ∧ i ≤ (n : Int)) → cB (alv (uF tr i 0)) n = cB (alv tr) n - 1
  | 0, h => by omega
  | n + 1, h => by
    unfold cB
    by_cases e : i = (n : Int) + 1
    · subst e
      have h0 : cB (alv (uF tr ((n : Int) + 1) 0)) n = cB (alv tr) n := cB_ext n (fun x a b => by unfold alv; rw [uF_n _ _ (by omega)])
      rw [h0, if_neg (fun q => by have := of_decide_eq_true q; rw [uF_s] at this; exact this rfl), if_pos (decide_eq_true ht)]; omega
    · rw [cB_clr ht n (by omega)]
      have : alv (uF tr i 0) ((n : Int) + 1) = alv tr ((n : Int) + 1) := by unfold alv; rw [uF_n _ _ (fun q => e q.symm)]
      rw [this]; omega
theorem dlM_c {ab : Int → Int} {md : Int} : ∀ (n : Nat) (i : Int) (tr : Int → Int) (al : Int), 1 ≤ i → i + (n : Int) ≤ md + 1 → (dlM ab n i tr al).2 - cB (alv (dlM ab n i tr al).1) md.toNat = al - cB (alv tr) md.toNat
  | 0, i, tr, al, _, _ => rfl
  | n + 1, i, tr, al, h1, h2 => by
    unfold dlM
    by_cases c : tr i ≠ 0 ∧ 0 < ab i ∧ tr (ab i) = 0
    · rw [if_pos c, dlM_c n (i + 1) _ _ (by omega) (by omega), cB_clr c.1 md.toNat (by omega)]; omega
    · rw [if_neg c]; exact dlM_c n (i + 1) tr al (by omega) (by omega)
theorem dlM_hi {ab : Int → Int} : ∀ (n : Nat) (i : Int) (tr : Int → Int) (al : Int) (j : Int), i + (n : Int) ≤ j → (dlM ab n i tr al).1 j = tr j
  | 0, i, tr, al, j, _ => rfl
  | n + 1, i, tr, al, j, h => by
    unfold dlM
    by_cases c : tr i ≠ 0 ∧ 0 < ab i ∧ tr (ab i) = 0
    · rw [if_pos c, dlM_hi n (i + 1) _ _ j (by omega), uF_n _ _ (by omega)]
    · rw [if_neg c]; exact dlM_hi n (i + 1) tr al j (by omega)
theorem TRI_del {t : GSt} {g : MG} {q : SSt} {x : Int} (h : TRI t g q) (hx : 1 ≤ x ∧ x ≤ 100) : TRI (gDel t x) (mDel g x) (sDelD q x) := by
  obtain ⟨od, ab, dp, sv, th, md⟩ := t
  obtain ⟨gm, al, gab, gtr, gsv⟩ := g
  obtain ⟨qm, qab, qtr, qdp, qsv⟩ := q
  unfold TRI at h
  dsimp only at h
  obtain ⟨h1, h2, ⟨e1, e2⟩, ⟨e3, e4, e5⟩, h5, h6, h7⟩ := h
  replace e1 := e1.symm
  replace e2 := e2.symm
  replace e3 := e3.symm
  replace e4 := e4.symm
  replace e5 := e5.symm
  subst e1 e2 e3 e4 e5
  have hfr := fi0_r od x th.toNat 0 (Int.le_refl 0)
  by_cases c : fi0 od x th.toNat 0 = -1
  · have hno : ¬ MB od th x := fun ⟨j, a, b, e⟩ => fi0_no th.toNat 0 (Int.le_refl 0) c j a (by omega) e
    have cg : ¬ gtr x ≠ 0 := fun w => by
      rcases Int.lt_or_le md x with u | u
      · exact w (h7 x u hx.2)
      · exact hno ((h6 x hx.1 u).1.mp w)
    have cq : ¬ okD md qtr x := fun w => hno ((h6 x w.1 w.2.1).2.mp w.2.2)
    rw [mDel_f (t := (md, th, ab, gtr, sv)) cg, sDelD_f (t := (md, qab, qtr, qdp, qsv)) cq]
    unfold gDel gF
    dsimp only
    rw [sIF_t c, sI_t c]
    exact ⟨h1, h2, ⟨rfl, rfl⟩, ⟨rfl, rfl, rfl⟩, h5, h6, h7⟩
  · obtain ⟨i0, i1, i2⟩ := hfr.resolve_left c
    have hmx : MB od th x := ⟨_, i0, by omega, i2⟩
    have hxm := MB_r h1 hmx
    have cg : gtr x ≠ 0 := (h6 x hxm.1 hxm.2).1.mpr hmx
    have cqt : qtr x ≠ 0 := (h6 x hxm.1 hxm.2).2.mpr hmx
    have cq : okD md qtr x := ⟨hxm.1, hxm.2, cqt⟩
    rw [mDel_t (t := (md, th, ab, gtr, sv)) cg, sDelD_t (t := (md, qab, qtr, qdp, qsv)) cq]
    unfold gDel gE gF
    dsimp only
    rw [sIF_f c, sI_f c]
    generalize fi0 od x th.toNat 0 = i at c i0 i1 i2 ⊢
    have he := eo_r od dp (dp (od i)) (th - (i + 1)).toNat (i + 1)
    have hs := eo_sp (od := od) (dp := dp) (d := dp (od i)) (th - (i + 1)).toNat (i + 1)
    generalize eo od dp (dp (od i)) (th - (i + 1)).toNat (i + 1) = E at he hs ⊢
    obtain ⟨g1, gm⟩ := GO_del h1 (i := i) (E := E) ⟨i0, by omega⟩ ⟨by omega, by omega⟩ (fun j a b => hs.1 j (by omega) b) (fun w => hs.2 (by omega))
    have hu := h1.1
    have hcg := MB_cl h1 (fun j a b => (h6 j a b).1)
    have hcq := MB_cl h1 (fun j a b => (h6 j a b).2)
    have st : ∀ tr : Int → Int, ∀ j, 1 ≤ j → j < x + 1 → (uF tr x 0 j ≠ 0 ↔ tr j ≠ 0 ∧ ¬ pfx (Pa ab x) (Pa ab j)) := fun tr j a b => by
      by_cases e : j = x
      · rw [e, uF_s]; exact ⟨fun w => absurd rfl w, fun w => absurd (pfx_rf _) w.2⟩
      · rw [uF_n _ _ e]
        refine ⟨fun w => ⟨w, fun ⟨z, ez⟩ => ?_⟩, fun w => w.1⟩
        have hl := Pa_le hu j.toNat j (by omega) (by omega) x (by rw [ez, Pa_s hu hxm]; simp)
        omega
    have dm := dlM_m hu hxm gtr hcg (md + 1 - (x + 1)).toNat (x + 1) (uF gtr x 0) (th - 1) (by omega) (by omega) (st gtr) (fun j a => uF_n _ _ (by omega))
    have dc := dlM_c (ab := ab) (md := md) (md + 1 - (x + 1)).toNat (x + 1) (uF gtr x 0) (th - 1) (by omega) (by omega)
    rw [cB_clr cg md.toNat (by omega), ← MB_n h1 ⟨h2.1, h2.2.1⟩ (fun j a b => (h6 j a b).1)] at dc
    have hqab : ∀ j, 1 ≤ j → j ≤ md → qab j = ab j := fun j a b => (h5 j a b).1
    have huq : UP qab md := fun j a b => by rw [hqab j a b]; exact hu j a b
    have hpq : ∀ j, j ≤ md → Pa qab j = Pa ab j := fun j b => Pa_ext hu hqab b
    have stq : ∀ j, 1 ≤ j → j < x + 1 → (uF qtr x 0 j ≠ 0 ↔ qtr j ≠ 0 ∧ ¬ pfx (Pa qab x) (Pa qab j)) := fun j a b => by rw [hpq x hxm.2, hpq j (by omega)]; exact st qtr j a b
    have dq := dlF_m huq hxm qtr (fun j a b w => by rw [hqab j a b]; exact hcq j a b w) (md + 1 - (x + 1)).toNat (x + 1) (uF qtr x 0) (by omega) (by omega) stq (fun j a => uF_n _ _ (by omega))
    rw [i2] at gm
    have mem : ∀ j, 1 ≤ j → j ≤ md → ((dlM ab (md + 1 - (x + 1)).toNat (x + 1) (uF gtr x 0) (th - 1)).1 j ≠ 0 ↔ MB (cF od od E i (th - E)) (th - (E - i)) j) ∧ (dlF qab (md + 1 - (x + 1)).toNat (x + 1) (uF qtr x 0) j ≠ 0 ↔ MB (cF od od E i (th - E)) (th - (E - i)) j) := fun j a b => by
      refine ⟨(dm j a b).trans ?_, (dq j a b).trans ?_⟩
      · rw [(h6 j a b).1]; exact (gm j).symm
      · rw [(h6 j a b).2, hpq x hxm.2, hpq j b]; exact (gm j).symm
    have hth0 : 0 ≤ th - (E - i) := by omega
    refine ⟨g1, ⟨hth0, h2.2⟩, ⟨rfl, rfl⟩, ⟨rfl, rfl, ?_⟩, h5, mem, fun j a b => ?_⟩
    · have := MB_n g1 ⟨hth0, h2.2.1⟩ (fun j a b => (mem j a b).1)
      dsimp only at this ⊢
      omega
    · dsimp only at a ⊢
      rw [dlM_hi _ _ _ _ _ (by omega), uF_n _ _ (by omega)]; exact h7 j a b
