/-! what the second writing and segment need -/
theorem UP_ext {ab ab' : Int → Int} {md : Int} (h : UP ab md) (he : ∀ j, 1 ≤ j → j ≤ md → ab' j = ab j) : UP ab' md := fun j a b => by rw [he j a b]; exact h j a b
theorem sec_seg {od ab dp sv sp nx : Int → Int} {th md : Int} {g : MG} {q : SSt} (h : TRI (od, ab, dp, sv, th, md) g q) :
    (∀ n : Nat, (n : Int) < q.1 → q.2.2.1 ((n : Int) + 1) ≠ 0 → 0 ≤ nxF q.2.1 q.2.2.1 (msF q.2.1 q.2.2.1 q.1.toNat (flF sp 0 (q.1 + 1) (fun _ => 1))) nx n (q.2.1 ((n : Int) + 1)) ∧ nxF q.2.1 q.2.2.1 (msF q.2.1 q.2.2.1 q.1.toNat (flF sp 0 (q.1 + 1) (fun _ => 1))) nx n (q.2.1 ((n : Int) + 1)) < 2147483648) ∧
    lyC od ab dp sv q.2.1 q.2.2.1 q.2.2.2.1 q.2.2.2.2 (msF q.2.1 q.2.2.1 q.1.toNat (flF sp 0 (q.1 + 1) (fun _ => 1))) nx th q.1.toNat = th := by
  obtain ⟨q0, ab', tr', dp', sv'⟩ := q
  obtain ⟨hG, hb, ⟨-, q1⟩, -, hq, hm, -⟩ := h
  dsimp only at hG hb q1 hq hm ⊢
  subst q1
  have hu : UP ab' q0 := UP_ext hG.1 (fun j a b => (hq j a b).1)
  have hcl := MB_cl hG (fun j a b => (hm j a b).2)
  have hc : ∀ j, 1 ≤ j → j ≤ q0 → tr' j ≠ 0 → ab' j = 0 ∨ tr' (ab' j) ≠ 0 := fun j a b c => by rw [(hq j a b).1]; exact hcl j a b c
  have hPa : ∀ n, n ≤ q0 → Pa ab' n = Pa ab n := fun n hn => Pa_ext hG.1 (fun j a b => (hq j a b).1) hn
  have hsp : ∀ s, 1 ≤ s → s ≤ q0 → tr' s ≠ 0 → msF ab' tr' q0.toNat (flF sp 0 (q0 + 1) (fun _ => 1)) s = szS ab' tr' q0 s :=
    ms_ok hb.2.1 hu hc q0.toNat _ (by omega) (fun s a b => by unfold flF; rw [if_pos (by omega)]; dsimp only; omega)
  have hpl : ∀ n : Nat, (n : Int) < q0 → tr' ((n : Int) + 1) ≠ 0 → nxF ab' tr' (msF ab' tr' q0.toNat (flF sp 0 (q0 + 1) (fun _ => 1))) nx n (ab' ((n : Int) + 1)) = rkS ab' tr' q0 ((n : Int) + 1) :=
    fun n a b => pl_rk hb.2.1 hu hc hsp a b
  refine ⟨fun n a b => ?_, ?_⟩
  · rw [hpl n a b]
    have hr := cB_r (fun m => bP (tr' m ≠ 0 ∧ plt (Pa ab' m) (Pa ab' ((n : Int) + 1)))) q0.toNat
    unfold rkS
    omega
  · rw [lyC_all (md := q0) (fun n a b => ?_) q0.toNat (by omega)]
    · exact (MB_n hG ⟨hb.1, hb.2.1⟩ (fun j a b => (hm j a b).2)).symm
    · rw [hpl n a b]
      obtain ⟨j, j0, j1, j2⟩ := (hm ((n : Int) + 1) (by omega) (by omega)).2.mp b
      have hj := rk_at (ab := ab') (tr := tr') (o := od) (md := q0) (T := th) (i := j) hb.2.1 (fun i c d => ⟨hG.2.2.1 i c d, (hm _ (hG.2.2.1 i c d).1 (hG.2.2.1 i c d).2).2.mpr ⟨i, c, d, rfl⟩⟩)
        (fun i k c d f => by rw [hPa _ (hG.2.2.1 i c (by omega)).2, hPa _ (hG.2.2.1 k (by omega) f).2]; exact hG.2.2.2.1 i k c d f) (fun x c d f => (hm x c d).2.mp f) ⟨j0, j1⟩
      rw [j2] at hj
      rw [← hj]
      have e := hq ((n : Int) + 1) (by omega) (by omega)
      exact ⟨j1, j2, e.1.symm, e.2.1.symm, e.2.2.symm⟩
/-- the reference's row is the class's -/
theorem seg_row {od ab dp sv tr od' la : Int → Int} {th md al : Int} {sv' : Int → Int} {q : SSt} (h : TRI (od, ab, dp, sv, th, md) (md, al, ab, tr, sv') q) (hgv : GV (od, ab, dp, sv, th, md)) :
    LOK ab tr md od' la th.toNat ∧ (∀ i, 0 ≤ i → i < th → (mnF ab tr md od' la th.toNat).1 i = od i) ∧ (∀ j, 1 ≤ j → j ≤ md → (ab j = 0 → dp j = 0) ∧ (ab j ≠ 0 → dp j = dp (ab j) + 1) ∧ 0 ≤ dp j ∧ dp j ≤ 100) := by
  obtain ⟨hG, hb, -, -, -, hm, -⟩ := h
  dsimp only at hG hb hm
  have hm1 : ∀ j, 1 ≤ j → j ≤ md → (tr j ≠ 0 ↔ MB od th j) := fun j a b => (hm j a b).1
  have hcl := MB_cl hG hm1
  have hn := MB_n hG ⟨hb.1, hb.2.1⟩ hm1
  obtain ⟨l1, l2⟩ := lay_ok (od := od') (la := la) ⟨hb.2.1, hb.2.2⟩ hG.1 hcl
  rw [← hn] at l1 l2
  refine ⟨l1, fun i a b => ?_, fun j a b => ?_⟩
  · obtain ⟨-, o1, o2, -, -, -, o3⟩ := l2
    refine row_uq (ab := ab) (T := th) (T' := th) o2 hG.2.2.2.1 (fun x => ⟨fun ⟨k, k0, k1, k2⟩ => ?_, fun ⟨k, k0, k1, k2⟩ => ?_⟩) i.toNat i a (by omega) b b
    · have := o1 k k0 k1
      rw [k2] at this
      exact (hm1 x this.1.1 this.1.2).mp this.2
    · have hr := hG.2.2.1 k k0 k1
      rw [k2] at hr
      rcases o3 x hr.1 hr.2 ((hm1 x hr.1 hr.2).mpr ⟨k, k0, k1, k2⟩) with z | ⟨z, z0, z1, -⟩
      · exact z
      · omega
  · have d1 := hG.2.1 j a b
    have u1 := hG.1 j a b
    have g1 := hgv.2.2 j a b
    dsimp only at g1
    have p1 := Pa_s hG.1 ⟨a, b⟩
    rw [p1, List.length_append] at d1
    simp only [List.length_cons, List.length_nil] at d1
    refine ⟨fun z => ?_, fun z => ?_, g1.1, by omega⟩
    · rw [Pa_0 ab (n := ab j) (by omega)] at d1
      simp only [List.length_nil] at d1
      omega
    · have d2 := hG.2.1 (ab j) (by omega) (by omega)
      omega
