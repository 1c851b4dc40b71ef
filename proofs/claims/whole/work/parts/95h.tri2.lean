theorem TRI_ins {t : GSt} {g : MG} {q : SSt} {x v : Int} (h : TRI t g q) (hx : 0 ≤ x ∧ x ≤ 100) : TRI (gIns t x v) (mIns g x v) (sInsD q x v) := by
  obtain ⟨od, ab, dp, sv, th, md⟩ := t
  obtain ⟨gm, al, gab, gtr, gsv⟩ := g
  obtain ⟨qm, qab, qtr, qdp, qsv⟩ := q
  unfold TRI at h
  dsimp only at h
  obtain ⟨h1, h2, ⟨e1, e2⟩, ⟨e3, e4, e5⟩, h5, h6, h7⟩ := h
  replace e1 := e1.symm
  replace e2 := e2.symm
  replace e3 := e3.symm
  replace e4 := e4.symm
  replace e5 := e5.symm
  subst e1 e2 e3 e4 e5
  obtain ⟨p1, p2⟩ := sP0_i (od := od) (x := x) h2.1 hx.1
  have hmb : ∀ y, MB od th y → 1 ≤ y ∧ y ≤ md := fun y q => MB_r h1 q
  by_cases c : md < 100 ∧ sP0 od th x ≠ -1
  · have cx := p1.mp c.2
    have cg : okIm md gtr x := ⟨c.1, cx.elim Or.inl (fun w => Or.inr ((h6 x (hmb x w).1 (hmb x w).2).1.mpr w))⟩
    have cq : okI md qtr x := ⟨c.1, cx.elim Or.inl (fun w => Or.inr ⟨(hmb x w).1, (hmb x w).2, (h6 x (hmb x w).1 (hmb x w).2).2.mpr w⟩)⟩
    have hxm : x ≤ md := cx.elim (fun w => by omega) (fun w => (hmb x w).2)
    rw [mIns_t (t := (md, th, ab, gtr, sv)) cg, sInsD_t (t := (md, qab, qtr, qdp, qsv)) cq]
    unfold gIns
    dsimp only
    rw [sIF_t c, sIF_t c, sIF_t c, sIF_t c, sI_t c, sI_t c]
    have hgo : GO (uF (cF od od (sPL od dp th x) (sPL od dp th x + 1) (th - sPL od dp th x)) (sPL od dp th x) (md + 1)) (uF ab (md + 1) x) (uF dp (md + 1) (if x = 0 then 0 else dp x + 1)) (th + 1) (md + 1) ∧ (0 ≤ sPL od dp th x ∧ sPL od dp th x ≤ th) := by
      unfold sPL
      by_cases z : x = 0
      · rw [if_pos z, show sP0 od th x = th by unfold sP0; rw [if_pos z]]
        exact ⟨GO_ins h1 ⟨h2.1, h2.2.1⟩ ⟨h2.1, Int.le_refl _⟩ ⟨hx.1, hxm⟩ (fun j a b => by rw [z]; exact GO_pl0 h1 j a b) (fun j a b => by omega) (Or.inl z), h2.1, Int.le_refl _⟩
      · rw [if_neg z]
        obtain ⟨i0, i1, i2⟩ := p2 z c.2
        generalize sP0 od th x = i at i0 i1 i2 ⊢
        have he := eo_r od dp (dp (od i)) (th - (i + 1)).toNat (i + 1)
        have hs := eo_sp (od := od) (dp := dp) (d := dp (od i)) (th - (i + 1)).toNat (i + 1)
        generalize eo od dp (dp (od i)) (th - (i + 1)).toNat (i + 1) = E at he hs ⊢
        obtain ⟨b1, b2⟩ := GO_pl h1 ⟨i0, i1⟩ i2 ⟨by omega, by omega⟩ (fun j a b => hs.1 j (by omega) b) (fun w => hs.2 (by omega))
        exact ⟨GO_ins h1 ⟨h2.1, h2.2.1⟩ ⟨by omega, by omega⟩ ⟨hx.1, hxm⟩ b1 b2 (Or.inr ⟨i, i0, i1, i2⟩), by omega, by omega⟩
    obtain ⟨g1, gp⟩ := hgo
    generalize sPL od dp th x = p at g1 gp ⊢
    have a := fun (j : Int) => ins_at od (p := p) (hd := th) (x := md + 1) (j := j) gp
    have hm : ∀ y, MB (uF (cF od od p (p + 1) (th - p)) p (md + 1)) (th + 1) y ↔ MB od th y ∨ y = md + 1 := fun y => by
      constructor
      · rintro ⟨j, a0, a1, e⟩
        rcases Int.lt_trichotomy j p with w | w | w
        · rw [(a j).1 w] at e; exact Or.inl ⟨j, a0, by omega, e⟩
        · rw [(a j).2.1 w] at e; exact Or.inr e.symm
        · rw [(a j).2.2 w (by omega)] at e; exact Or.inl ⟨j - 1, by omega, by omega, e⟩
      · rintro (⟨j, a0, a1, e⟩ | e)
        · by_cases w : j < p
          · exact ⟨j, a0, by omega, by rw [(a j).1 w]; exact e⟩
          · exact ⟨j + 1, by omega, by omega, by rw [(a (j + 1)).2.2 (by omega) (by omega), Int.add_sub_cancel]; exact e⟩
        · exact ⟨p, gp.1, by omega, by rw [(a p).2.1 rfl]; exact e.symm⟩
    refine ⟨g1, by dsimp only; omega, ⟨rfl, rfl⟩, ⟨rfl, rfl, rfl⟩, fun j a0 a1 => ?_, fun j a0 a1 => ?_, fun j a0 a1 => ?_⟩
    · dsimp only at a1 ⊢
      by_cases e : j = md + 1
      · subst e
        rw [uF_s, uF_s, uF_s, uF_s, uF_s, uF_s]
        refine ⟨rfl, ?_, rfl⟩
        by_cases z : x = 0
        · rw [if_pos z, if_pos z]
        · rw [if_neg z, if_neg z, (h5 x (by omega) hxm).2.1]
      · rw [uF_n _ _ e, uF_n _ _ e, uF_n _ _ e, uF_n _ _ e, uF_n _ _ e, uF_n _ _ e]; exact h5 j a0 (by omega)
    · dsimp only at a1 ⊢
      rw [hm]
      by_cases e : j = md + 1
      · subst e
        rw [uF_s, uF_s]
        exact ⟨⟨fun _ => Or.inr rfl, fun _ => by omega⟩, ⟨fun _ => Or.inr rfl, fun _ => by omega⟩⟩
      · rw [uF_n _ _ e, uF_n _ _ e]
        have := h6 j a0 (by omega)
        exact ⟨this.1.trans ⟨Or.inl, fun w => w.elim id (fun z => absurd z e)⟩, this.2.trans ⟨Or.inl, fun w => w.elim id (fun z => absurd z e)⟩⟩
    · dsimp only at a0 ⊢
      rw [uF_n _ _ (by omega)]; exact h7 j (by omega) a1
  · have cg : ¬ okIm md gtr x := fun w => c ⟨w.1, p1.mpr (w.2.elim Or.inl (fun z => by
      by_cases e : x = 0
      · exact Or.inl e
      · right
        rcases Int.lt_or_le md x with u | u
        · exact absurd (h7 x u hx.2) z
        · exact (h6 x (by omega) u).1.mp z))⟩
    have cq : ¬ okI md qtr x := fun w => c ⟨w.1, p1.mpr (w.2.elim Or.inl (fun z => Or.inr ((h6 x z.1 z.2.1).2.mp z.2.2)))⟩
    rw [mIns_f (t := (md, th, ab, gtr, sv)) cg, sInsD_f (t := (md, qab, qtr, qdp, qsv)) cq]
    unfold gIns
    dsimp only
    rw [sIF_f c, sIF_f c, sIF_f c, sIF_f c, sI_f c, sI_f c]
    exact ⟨h1, h2, ⟨rfl, rfl⟩, ⟨rfl, rfl, rfl⟩, h5, h6, h7⟩
