abbrev RE (sz va ki fi se : Int → Int) (mk nk lim st rf rk : Int) (ky fv : Int → Int) (hd md th : Int) (ab sv sg sz' va' ki' fi' se' : Int → Int) (mk' nk' lim' st' rf' dn : Int) (ky' fv' : Int → Int) (hd' md' al : Int) (ab' sv' sg' : Int → Int) : Prop := sz = sz' ∧ va = va' ∧ ki = ki' ∧ fi = fi' ∧ se = se' ∧ mk = mk' ∧ nk = nk' ∧ lim = lim' ∧ st = st' ∧ rf = rf' ∧ rk = dn ∧ ky = ky' ∧ fv = fv' ∧ hd = hd' ∧ md = md' ∧ th = al ∧ ab = ab' ∧ sv = sv' ∧ sg = sg'
def RB (sz va ki fi se rc rv : Int → Int) (mk nk lim rk k0 : Int) (ky fv : Int → Int) (hd : Int) (od ab dp sv : Int → Int) (th md : Int) (sg mr : Int → Int) (sd : Int) : Prop := ((0 ≤ mk ∧ mk ≤ 60) ∧ CV sz va mk ∧ (0 ≤ nk ∧ nk ≤ 200) ∧ NV ki fi se mk nk ∧ (1 ≤ lim ∧ lim ≤ 5000) ∧ (0 ≤ rk ∧ rk ≤ 1000) ∧ k0 = 0) ∧ RL2 rc rv rk ((ky, fv, hd), (od, ab, dp, sv, th, md), sg) ((ky, fv, hd), (md, th, ab, mr, sv), sg, sd) ∧ PI ((ky, fv, hd), (od, ab, dp, sv, th, md), sg) rk ∧ PM ((ky, fv, hd), (md, th, ab, mr, sv), sg, sd) rk
def RU (ho ds wh wa : Int → Int) (fq : Nat → Option Nat) (u0 p1a : Nat) (co1 ve1 : Int → Int) (k1 : Int) (p2a : Nat) (co2 ve2 : Int → Int) (k2 : Int) (p3a : Nat) (co3 ve3 : Int → Int) (k3 : Int) (p4a : Nat) (co4 ve4 : Int → Int) (k4 : Int) (p5a : Nat) (co5 ve5 : Int → Int) (k5 : Int) (p6a : Nat) (co6 ve6 : Int → Int) (k6 : Int) (p7a : Nat) (co7 ve7 : Int → Int) (k7 : Int) (p8a : Nat) (co8 ve8 : Int → Int) (k8 : Int) : Prop := fq 0 = some u0 ∧ (fq 1 = some p1a ∧ UNr co1 ve1 k1 1 ho ds wh wa) ∧ (fq 2 = some p2a ∧ UNr co2 ve2 k2 2 ho ds wh wa) ∧ (fq 3 = some p3a ∧ UNr co3 ve3 k3 3 ho ds wh wa) ∧ (fq 4 = some p4a ∧ UNr co4 ve4 k4 4 ho ds wh wa) ∧ (fq 5 = some p5a ∧ UNr co5 ve5 k5 5 ho ds wh wa) ∧ (fq 6 = some p6a ∧ UNr co6 ve6 k6 6 ho ds wh wa) ∧ (fq 7 = some p7a ∧ UNr co7 ve7 k7 7 ho ds wh wa) ∧ (fq 8 = some p8a ∧ UNr co8 ve8 k8 8 ho ds wh wa)
abbrev Ah (s : State) : Nat → Prop := fun q => s.heap.size ≤ q
def LA (p : Program) (l : Launch) (e : Env) (s : State) (m : MethodId) (below : List Frame) (meth : Method) (c : Code) (Q : State → Prop) (G : Gx) (b x0 m0 o0 : Nat) (i : Int) (pc cells slots : Nat) : Prop :=
  ∀ (y0 w0 w1 a0 a1 a2 a3 b0 b1 b2 b3 u0 u1 u2 e0 e1 e2 f0 f1 f2 s0 s1 s2 s3 s4 g0 g1 r0 r1 r2 t0 t1 t2 t3 t4 t5 t6 v0 v1 p1a p1b p1c p2a p2b p2c p3a p3b p3c p4a p4b p4c p5a p5b p5c p6a p6b p6c p7a p7b p7c p8a p8b p8c m4 m5 m6 m8 m9 m10 m13 m14 m15 m16 m17 m20 m21 m24 m25 m26 m27 m28 m29 : Nat) (fq : Nat → Option Nat) (wt sz va ke ki fi se co ve rc rv ky fv od ab dp sv sg so ot ta tv tr td sp nx mt co1 ve1 co2 ve2 co3 ve3 co4 ve4 co5 ve5 co6 ve6 co7 ve7 co8 ve8 sz' va' be ki' fi' se' pi ho ds wh wa ky' fv' ab' mr sv' oe la sg' ou : Int → Int) (rf lim ht st mk nk k0 rk hd th md fd tm k1 k2 k3 k4 k5 k6 k7 k8 lim' fa rf' mk' nk' st' wn dn hd' md' al sd : Int) (H : Heap) (locs : List Loc) (ls : Array Slot), RE sz va ki fi se mk nk lim st rf rk ky fv hd md th ab sv sg sz' va' ki' fi' se' mk' nk' lim' st' rf' dn ky' fv' hd' md' al ab' sv' sg' → RB sz va ki fi se rc rv mk nk lim rk k0 ky fv hd od ab dp sv th md sg mr sd → RU ho ds wh wa fq u0 p1a co1 ve1 k1 p2a co2 ve2 k2 p3a co3 ve3 k3 p4a co4 ve4 k4 p5a co5 ve5 k5 p6a co6 ve6 k6 p7a co7 ve7 k7 p8a co8 ve8 k8 →
    va_P G.1 vwCl [rO x0 11 [.ref w0, .ref a0, .ref b0, .ref y0, .ref e0, .ref f0, .ref s0, .ref g0, .ref r0, .ref t0, .ref v0, .int (iI rf)], rQ G y0 9 fq, rO w0 10 [.ref a0, .ref b0, .ref u0, .int (iI lim), .ref w1, .int (iI ht), .int (iI st)], rI G w1 201 wt, rO a0 2 [.ref a1, .ref a2, .ref a3, .int (iI mk)], rI G a1 61 sz, rL G a2 61 va, rL G a3 61 ke, rO b0 4 [.ref b1, .ref b2, .ref b3, .int (iI nk)], rI G b1 201 ki, rI G b2 201 fi, rI G b3 201 se, rO u0 1 [.ref u1, .ref u2, .int (iI k0)], rI G u1 1000 co, rL G u2 1000 ve, rO e0 1 [.ref e1, .ref e2, .int (iI rk)], rI G e1 1000 rc, rL G e2 1000 rv, rO f0 3 [.ref f1, .ref f2, .int (iI hd)], rI G f1 1000 ky, rL G f2 1000 fv, rO s0 9 [.ref s1, .ref s2, .ref s3, .ref s4, .int (iI th), .int (iI md)], rI G s1 100 od, rI G s2 101 ab, rI G s3 101 dp, rL G s4 101 sv, rO g0 5 [.ref g1], rB G g1 1920 sg, rO r0 6 [.ref r1, .ref r2, .int (iI fd)], rI G r1 1000 so, rI G r2 1000 ot, rO t0 8 [.ref t1, .ref t2, .ref t3, .ref t4, .ref t5, .ref t6, .int (iI tm)], rI G t1 101 ta, rL G t2 101 tv, rZ G t3 101 tr, rI G t4 101 td, rI G t5 101 sp, rI G t6 101 nx, rO v0 7 [.ref v1], rL G v1 30 mt, rO p1a 1 [.ref p1b, .ref p1c, .int (iI k1)], rI G p1b 50 co1, rL G p1c 50 ve1, rO p2a 1 [.ref p2b, .ref p2c, .int (iI k2)], rI G p2b 50 co2, rL G p2c 50 ve2, rO p3a 1 [.ref p3b, .ref p3c, .int (iI k3)], rI G p3b 50 co3, rL G p3c 50 ve3, rO p4a 1 [.ref p4b, .ref p4c, .int (iI k4)], rI G p4b 50 co4, rL G p4c 50 ve4, rO p5a 1 [.ref p5b, .ref p5c, .int (iI k5)], rI G p5b 50 co5, rL G p5c 50 ve5, rO p6a 1 [.ref p6b, .ref p6c, .int (iI k6)], rI G p6b 50 co6, rL G p6c 50 ve6, rO p7a 1 [.ref p7b, .ref p7c, .int (iI k7)], rI G p7b 50 co7, rL G p7c 50 ve7, rO p8a 1 [.ref p8b, .ref p8c, .int (iI k8)], rI G p8b 50 co8, rL G p8c 50 ve8, rO m0 12 [.int (iI lim'), .int (iI fa), .int (iI rf'), .int (iI mk'), .ref m4, .ref m5, .ref m6, .int (iI nk'), .ref m8, .ref m9, .ref m10, .int (iI st'), .int (iI wn), .ref m13, .ref m14, .ref m15, .ref m16, .ref m17, .int (iI dn), .int (iI hd'), .ref m20, .ref m21, .int (iI md'), .int (iI al), .ref m24, .ref m25, .ref m26, .ref m27, .ref m28, .ref m29, .int (iI sd)], rI G m4 61 sz', rL G m5 61 va', rL G m6 61 be, rI G m8 201 ki', rI G m9 201 fi', rI G m10 201 se', rI G m13 900 pi, rI G m14 9 ho, rI G m15 1400 ds, rL G m16 1400 wh, rL G m17 1400 wa, rL G m20 1000 ky', rL G m21 1000 fv', rI G m24 101 ab', rZ G m25 101 mr, rL G m26 101 sv', rI G m27 101 oe, rI G m28 101 la, rI G m29 1920 sg', rL G o0 1 ou] H → va_D (Ah s) [rO x0 11 [.ref w0, .ref a0, .ref b0, .ref y0, .ref e0, .ref f0, .ref s0, .ref g0, .ref r0, .ref t0, .ref v0, .int (iI rf)], rQ G y0 9 fq, rO w0 10 [.ref a0, .ref b0, .ref u0, .int (iI lim), .ref w1, .int (iI ht), .int (iI st)], rI G w1 201 wt, rO a0 2 [.ref a1, .ref a2, .ref a3, .int (iI mk)], rI G a1 61 sz, rL G a2 61 va, rL G a3 61 ke, rO b0 4 [.ref b1, .ref b2, .ref b3, .int (iI nk)], rI G b1 201 ki, rI G b2 201 fi, rI G b3 201 se, rO u0 1 [.ref u1, .ref u2, .int (iI k0)], rI G u1 1000 co, rL G u2 1000 ve, rO e0 1 [.ref e1, .ref e2, .int (iI rk)], rI G e1 1000 rc, rL G e2 1000 rv, rO f0 3 [.ref f1, .ref f2, .int (iI hd)], rI G f1 1000 ky, rL G f2 1000 fv, rO s0 9 [.ref s1, .ref s2, .ref s3, .ref s4, .int (iI th), .int (iI md)], rI G s1 100 od, rI G s2 101 ab, rI G s3 101 dp, rL G s4 101 sv, rO g0 5 [.ref g1], rB G g1 1920 sg, rO r0 6 [.ref r1, .ref r2, .int (iI fd)], rI G r1 1000 so, rI G r2 1000 ot, rO t0 8 [.ref t1, .ref t2, .ref t3, .ref t4, .ref t5, .ref t6, .int (iI tm)], rI G t1 101 ta, rL G t2 101 tv, rZ G t3 101 tr, rI G t4 101 td, rI G t5 101 sp, rI G t6 101 nx, rO v0 7 [.ref v1], rL G v1 30 mt, rO p1a 1 [.ref p1b, .ref p1c, .int (iI k1)], rI G p1b 50 co1, rL G p1c 50 ve1, rO p2a 1 [.ref p2b, .ref p2c, .int (iI k2)], rI G p2b 50 co2, rL G p2c 50 ve2, rO p3a 1 [.ref p3b, .ref p3c, .int (iI k3)], rI G p3b 50 co3, rL G p3c 50 ve3, rO p4a 1 [.ref p4b, .ref p4c, .int (iI k4)], rI G p4b 50 co4, rL G p4c 50 ve4, rO p5a 1 [.ref p5b, .ref p5c, .int (iI k5)], rI G p5b 50 co5, rL G p5c 50 ve5, rO p6a 1 [.ref p6b, .ref p6c, .int (iI k6)], rI G p6b 50 co6, rL G p6c 50 ve6, rO p7a 1 [.ref p7b, .ref p7c, .int (iI k7)], rI G p7b 50 co7, rL G p7c 50 ve7, rO p8a 1 [.ref p8b, .ref p8c, .int (iI k8)], rI G p8b 50 co8, rL G p8c 50 ve8, rO m0 12 [.int (iI lim'), .int (iI fa), .int (iI rf'), .int (iI mk'), .ref m4, .ref m5, .ref m6, .int (iI nk'), .ref m8, .ref m9, .ref m10, .int (iI st'), .int (iI wn), .ref m13, .ref m14, .ref m15, .ref m16, .ref m17, .int (iI dn), .int (iI hd'), .ref m20, .ref m21, .int (iI md'), .int (iI al), .ref m24, .ref m25, .ref m26, .ref m27, .ref m28, .ref m29, .int (iI sd)], rI G m4 61 sz', rL G m5 61 va', rL G m6 61 be, rI G m8 201 ki', rI G m9 201 fi', rI G m10 201 se', rI G m13 900 pi, rI G m14 9 ho, rI G m15 1400 ds, rL G m16 1400 wh, rL G m17 1400 wa, rL G m20 1000 ky', rL G m21 1000 fv', rI G m24 101 ab', rZ G m25 101 mr, rL G m26 101 sv', rI G m27 101 oe, rI G m28 101 la, rI G m29 1920 sg', rL G o0 1 ou] → va_S (Ah s) s.heap H locs → lv_has ls 9 [(4, .int (iI i)), (3, .ref o0), (2, .ref m0), (1, .ref x0), (0, .ref b)] → W p l e room_1 s m #[Value.ref b] below meth c H locs cells slots Q (F0 m pc ls [])
abbrev LXc (p : Program) (s : State) (m : MethodId) (c : Code) (b L : Nat) (xs : Nat → Int32) (G : Gx) : Prop := CallFix p m c cL_law 9 s #[Value.ref b] wsL_law RL ∧ Ctx G (Ah s) s ∧ va_X b L xs s s.heap ∧ b < s.heap.size ∧ Tz (Ah s) s ∧ (∀ w ∈ wsTh, w.before #[Value.ref b] s = true) ∧ (Cond.classLink RL 13 RJx00060).before #[Value.ref b] s = true ∧ L ≤ 3585
theorem NV_mk {ki fi se : Int → Int} {mk nk : Int} (h : NV ki fi se mk nk) : NV ki fi se (mk + 1) nk := fun n a b => by
  obtain ⟨h1, h2, h3, h4, h5, h6⟩ := h n a b
  exact ⟨h1, fun x y z => ⟨(h2 x y z).1, by have := (h2 x y z).2; omega⟩, h3, fun x => ⟨(h4 x).1, by have := (h4 x).2; omega⟩, h5, h6⟩
theorem CV_add {sz va : Int → Int} {mk n v : Int} (h : CV sz va mk) (hn : 1 ≤ n ∧ n ≤ 18) : CV (uF sz (mk + 1) n) (uF va (mk + 1) (Int.tmod v (pw n))) (mk + 1) := fun c a b => by
  by_cases e : c = mk + 1
  · subst e
    rw [uF_s, uF_s]
    have := tmod_pw v (pw_rng (i := n) (by omega)).1
    exact ⟨hn.1, hn.2, this.1, this.2⟩
  · rw [uF_n _ _ e, uF_n _ _ e]; exact h c a (by omega)
theorem RB_cell {sz va ki fi se rc rv : Int → Int} {mk nk lim rk k0 : Int} {ky fv : Int → Int} {hd : Int} {od ab dp sv : Int → Int} {th md : Int} {sg mr : Int → Int} {sd : Int} {n v : Int} (h : RB sz va ki fi se rc rv mk nk lim rk k0 ky fv hd od ab dp sv th md sg mr sd) :
    RB (sIF (okC mk n) sz (uF sz (mk + 1) n)) (sIF (okC mk n) va (uF va (mk + 1) (Int.tmod v (pw n)))) ki fi se rc rv (sI (okC mk n) mk (mk + 1)) nk lim rk k0 ky fv hd od ab dp sv th md sg mr sd := by
  obtain ⟨⟨h1, h2, h3, h4, h5, h6, h7⟩, h8⟩ := h
  by_cases q : okC mk n
  · rw [sIF_t q, sIF_t q, sI_t q]
    exact ⟨⟨by omega, CV_add h2 q.1, h3, NV_mk h4, h5, h6, h7⟩, h8⟩
  · rw [sIF_f q, sIF_f q, sI_f q]
    exact ⟨⟨h1, h2, h3, h4, h5, h6, h7⟩, h8⟩
theorem NV_add {ki fi se : Int → Int} {mk nk kd x y : Int} (h : NV ki fi se mk nk) (hn : 0 ≤ nk) (q : okN mk nk kd x y ∧ (kd = 9 → PLC y) ∧ nk < 200) : NV (uF ki (nk + 1) kd) (uF fi (nk + 1) x) (uF se (nk + 1) y) mk (nk + 1) := fun n a b => by
  by_cases e : n = nk + 1
  · subst e
    obtain ⟨⟨q1, q2, q3, q4, q5⟩, q6, q7⟩ := q
    unfold NV1
    rw [uF_s, uF_s, uF_s]
    refine ⟨q1, q2, fun z => ?_, q3, fun z => ?_, q6⟩
    · have := q5 z; omega
    · have := q4 z; omega
  · unfold NV1
    rw [uF_n _ _ e, uF_n _ _ e, uF_n _ _ e]
    exact h n a (by omega)
theorem RB_node {sz va ki fi se rc rv : Int → Int} {mk nk lim rk k0 : Int} {ky fv : Int → Int} {hd : Int} {od ab dp sv : Int → Int} {th md : Int} {sg mr : Int → Int} {sd : Int} {kd x y : Int} (h : RB sz va ki fi se rc rv mk nk lim rk k0 ky fv hd od ab dp sv th md sg mr sd) :
    RB sz va (sIF (okN mk nk kd x y ∧ (kd = 9 → PLC y) ∧ nk < 200) ki (uF ki (nk + 1) kd)) (sIF (okN mk nk kd x y ∧ (kd = 9 → PLC y) ∧ nk < 200) fi (uF fi (nk + 1) x)) (sIF (okN mk nk kd x y ∧ (kd = 9 → PLC y) ∧ nk < 200) se (uF se (nk + 1) y)) rc rv mk (sI (okN mk nk kd x y ∧ (kd = 9 → PLC y) ∧ nk < 200) nk (nk + 1)) lim rk k0 ky fv hd od ab dp sv th md sg mr sd := by
  obtain ⟨⟨h1, h2, h3, h4, h5, h6, h7⟩, h8⟩ := h
  by_cases q : okN mk nk kd x y ∧ (kd = 9 → PLC y) ∧ nk < 200
  · rw [sIF_t q, sIF_t q, sIF_t q, sI_t q]
    exact ⟨⟨h1, h2, by omega, NV_add h4 h3.1 q, h5, h6, h7⟩, h8⟩
  · rw [sIF_f q, sIF_f q, sIF_f q, sI_f q]
    exact ⟨⟨h1, h2, h3, h4, h5, h6, h7⟩, h8⟩
theorem aSeg_row {od oe ab dp sv : Int → Int} {th i w : Int} (h : 0 ≤ i → i < th → oe i = od i) : aSeg od ab dp sv th i w = aSeg oe ab dp sv th i w := by
  unfold aSeg
  by_cases q : i < 0 ∨ th ≤ i
  · rw [if_pos q, if_pos q]
  · rw [if_neg q, if_neg q, h (by omega) (by omega)]
theorem aSeg_out {od ab dp sv : Int → Int} {th i w : Int} (h : ¬ (0 ≤ i ∧ i < th ∧ 0 ≤ w ∧ w ≤ 4)) : aSeg od ab dp sv th i w = -1 := by
  unfold aSeg
  by_cases q : i < 0 ∨ th ≤ i
  · rw [if_pos q]
  · rw [if_neg q, if_neg (by omega), if_neg (by omega), if_neg (by omega), if_neg (by omega), if_neg (by omega)]
/-- all that second wants -/
theorem sec_hyps {rc rv : Int → Int} {rk : Int} {ky fv : Int → Int} {hd : Int} {od ab dp sv : Int → Int} {th md : Int} {sg mr : Int → Int} {sd : Int} (hrk : 0 ≤ rk ∧ rk ≤ 1000) (hR2 : RL2 rc rv rk ((ky, fv, hd), (od, ab, dp, sv, th, md), sg) ((ky, fv, hd), (md, th, ab, mr, sv), sg, sd)) (hPI : PI ((ky, fv, hd), (od, ab, dp, sv, th, md), sg) rk) (hPM : PM ((ky, fv, hd), (md, th, ab, mr, sv), sg, sd) rk) (ta tv tr td sp nx so ot mt : Int → Int) :
    (∀ j, 0 ≤ j → j < rk → 0 ≤ rc j ∧ rc j < 20000000) ∧ (∀ j, 0 ≤ j → j < hd → -9223372036854775808 ≤ fv j ∧ fv j < 9223372036854775808) ∧ (∀ j, 0 ≤ j → j < rk → -9223372036854775808 ≤ rv j ∧ rv j < 9223372036854775808) ∧ (0 ≤ th ∧ th ≤ 100) ∧
    (∀ j, 1 ≤ j → j ≤ (sgF rc rv (0, ta, tr, td, tv) rk.toNat).1 → (-2147483648 ≤ ab j ∧ ab j < 2147483648) ∧ (-2147483648 ≤ dp j ∧ dp j < 2147483648) ∧ (-9223372036854775808 ≤ sv j ∧ sv j < 9223372036854775808) ∧ (-9223372036854775808 ≤ (sgF rc rv (0, ta, tr, td, tv) rk.toNat).2.2.2.2 j ∧ (sgF rc rv (0, ta, tr, td, tv) rk.toNat).2.2.2.2 j < 9223372036854775808)) ∧
    (∀ j, 0 ≤ j → j < th → -2147483648 ≤ od j ∧ od j < 2147483648) ∧ (∀ j, 0 ≤ j → j < rk → kOf (rc j) = 4 → tOf (rc j) ≤ 10000 ∧ 0 ≤ pix (tOf (rc j)) ∧ pix (tOf (rc j)) < 1920) ∧ (∀ j, 0 ≤ j → j < 1920 → -128 ≤ sg j ∧ sg j < 128) ∧
    ctR rc rv ky fv (srt rc (gaN rc rk.toNat) 1000 1 (gaS rc so rk.toNat) ot) hd (gaN rc rk.toNat) (gaN rc rk.toNat).toNat 0 0 0 = hd ∧ scF rc rv sg rk.toNat (flF mt 0 30 (fun _ => 0)) 0 = sd := by
  obtain ⟨r1, r2, r3, r4, r5, r6, r7, r8, r9⟩ := hR2
  obtain ⟨p1, p2, p3⟩ := hPI
  obtain ⟨g1, g2, g3, g4⟩ := hPM
  dsimp only at r4 r5 r6 r7 r8 p1 p2 p3 g4
  have hn : ((rk.toNat : Nat) : Int) = rk := by omega
  have hv : ∀ j, 0 ≤ j → j < rk → R64 (rv j) := fun j a b => (r9 j a b).2.2.2.1
  have h3 := r2 ta tr td tv
  obtain ⟨hG, hb, ⟨-, q1⟩, -, hq, -, -⟩ := h3
  dsimp only at hG hb q1 hq
  have hq' := sgF_v (rc := rc) (rv := rv) (ta := ta) (tr := tr) (td := td) (tv := tv) rk.toNat (fun j a b => hv j a (by omega))
  have p3' : GV (od, ab, dp, sv, th, md) := p3
  obtain ⟨v1, v2, v3⟩ := p3'
  dsimp only at v1 v2 v3
  refine ⟨fun j a b => (r9 j a b).1, fun j a b => ?_, hv, by omega, fun j a b => ?_, fun j a b => ?_, fun j a b k => ?_, fun j a b => ?_, ?_, ?_⟩
  · obtain ⟨z, z0, z1, z2⟩ := hR_in rk.toNat ((r6 (ky j) (fv j)).mp ⟨j, a, b, rfl, rfl⟩)
    rw [z2]; exact hv z z0 (by omega)
  · rw [q1] at b
    have u1 := hG.1 j a b
    have u2 := v3 j a b
    have u3 := hq' j a (by rw [q1]; exact b)
    have u4 := (hq j a b).2.2
    exact ⟨by omega, by omega, by rw [← u4]; exact u3, u3⟩
  · have := v2 j a b; omega
  · have o := (r9 j a b).2
    have pl := (o.2.2.2.2.2 k).1
    have := pix_r pl
    exact ⟨by omega, this⟩
  · have := g4 j a b; omega
  · exact ctR_all (t := (ky, fv, hd)) (n := rk.toNat) (by omega) r7 r6
  · have e5 : sd = sdR rc rv rk.toNat := r5
    rw [e5]
    refine scF_all (fun j a k => ?_) (fun j a b => ?_) (fun p _ => congrFun r4 p)
    · have o := (r9 (j : Int) (by omega) (by omega)).2
      have pl := o.2.2.2.2.2 k
      have := pix_r pl.1
      exact ⟨this, by omega⟩
    · unfold flF; rw [if_pos (by omega)]
/-! act, commit, run: what becomes of the relation -/
theorem sI_c {c1 c2 : Prop} {a b : Int} (h : c1 ↔ c2) : sI c1 a b = sI c2 a b := by rw [propext h]
theorem aAct_eq {ho : Int → Int} {k u kd a b : Int} (he : 1 ≤ u → u ≤ 8 → ho u = k) : aAct k u kd a b = aAct (ho u) u kd a b := by
  by_cases q : 1 ≤ u ∧ u ≤ 8
  · rw [he q.1 q.2]
  · unfold aAct
    rw [if_pos (fun z => q ⟨z.1, z.2.1⟩), if_pos (fun z => q ⟨z.1, z.2.1⟩)]
abbrev acK (u kd a b k : Int) : Prop := (1 ≤ u ∧ u ≤ 8 ∧ 0 ≤ kd ∧ kd ≤ 4) ∧ okL kd a b ∧ k < 50
theorem act_iff {ho : Int → Int} {k u kd a b : Int} (he : 1 ≤ u → u ≤ 8 → ho u = k) : acK u kd a b k ↔ acK u kd a b (ho u) :=
  ⟨fun q => ⟨q.1, q.2.1, by rw [he q.1.1 q.1.2.1]; exact q.2.2⟩, fun q => ⟨q.1, q.2.1, by rw [← he q.1.1 q.1.2.1]; exact q.2.2⟩⟩
theorem UNa_s {co ve ho ds wh wa : Int → Int} {k w u kd a b : Int} (hw : w = u) (hb : R64 b) (h : UNr co ve k w ho ds wh wa) :
    UNr (sIF (acK u kd a b k) co (uF co k (kd * 4000000 + a))) (sIF (acK u kd a b k) ve (uF ve k b)) (sI (acK u kd a b k) k (k + 1)) w (sIF (acK u kd a b (ho u)) ho (uF ho u (ho u + 1))) (sIF (acK u kd a b (ho u)) ds (uF ds (950 + 50 * u + ho u) kd)) (sIF (acK u kd a b (ho u)) wh (uF wh (950 + 50 * u + ho u) a)) (sIF (acK u kd a b (ho u)) wa (uF wa (950 + 50 * u + ho u) b)) := by
  subst hw
  have iff := act_iff (kd := kd) (a := a) (b := b) (fun (_ : 1 ≤ w) (_ : w ≤ 8) => h.2.1)
  by_cases q : acK w kd a b k
  · have q2 := iff.mp q
    rw [sIF_t q, sIF_t q, sI_t q, sIF_t q2, sIF_t q2, sIF_t q2, sIF_t q2]
    exact UN_add h q.2.2 (okL_A q.2.1 hb)
  · have q2 := fun z => q (iff.mpr z)
    rw [sIF_f q, sIF_f q, sI_f q, sIF_f q2, sIF_f q2, sIF_f q2, sIF_f q2]
    exact h
theorem UNa_o {co ve ho ds wh wa : Int → Int} {k w u kd a b : Int} (hw : 1 ≤ w ∧ w ≤ 8) (hne : w ≠ u) (h0 : ∀ q, 1 ≤ q → q ≤ 8 → 0 ≤ ho q ∧ ho q ≤ 50) (h : UNr co ve k w ho ds wh wa) :
    UNr co ve k w (sIF (acK u kd a b (ho u)) ho (uF ho u (ho u + 1))) (sIF (acK u kd a b (ho u)) ds (uF ds (950 + 50 * u + ho u) kd)) (sIF (acK u kd a b (ho u)) wh (uF wh (950 + 50 * u + ho u) a)) (sIF (acK u kd a b (ho u)) wa (uF wa (950 + 50 * u + ho u) b)) := by
  by_cases q : acK u kd a b (ho u)
  · rw [sIF_t q, sIF_t q, sIF_t q, sIF_t q]
    exact UN_o hw ⟨q.1.1, q.1.2.1⟩ hne ⟨(h0 u q.1.1 q.1.2.1).1, q.2.2⟩ h
  · rw [sIF_f q, sIF_f q, sIF_f q, sIF_f q]
    exact h
theorem UNa_x {co ve ho ds wh wa : Int → Int} {k w u kd a b : Int} (hv : ¬ (1 ≤ u ∧ u ≤ 8)) (h : UNr co ve k w ho ds wh wa) :
    UNr co ve k w (sIF (acK u kd a b (ho u)) ho (uF ho u (ho u + 1))) (sIF (acK u kd a b (ho u)) ds (uF ds (950 + 50 * u + ho u) kd)) (sIF (acK u kd a b (ho u)) wh (uF wh (950 + 50 * u + ho u) a)) (sIF (acK u kd a b (ho u)) wa (uF wa (950 + 50 * u + ho u) b)) := by
  have q : ¬ acK u kd a b (ho u) := fun z => hv ⟨z.1.1, z.1.2.1⟩
  rw [sIF_f q, sIF_f q, sIF_f q, sIF_f q]
  exact h
theorem UNa_x1 {co ve ho ds wh wa : Int → Int} {k w u kd a b : Int} (hv : ¬ (1 ≤ u ∧ u ≤ 8)) (h : UNr co ve k w ho ds wh wa) :
    UNr (sIF (acK u kd a b k) co (uF co k (kd * 4000000 + a))) (sIF (acK u kd a b k) ve (uF ve k b)) (sI (acK u kd a b k) k (k + 1)) w (sIF (acK u kd a b (ho u)) ho (uF ho u (ho u + 1))) (sIF (acK u kd a b (ho u)) ds (uF ds (950 + 50 * u + ho u) kd)) (sIF (acK u kd a b (ho u)) wh (uF wh (950 + 50 * u + ho u) a)) (sIF (acK u kd a b (ho u)) wa (uF wa (950 + 50 * u + ho u) b)) := by
  have q : ¬ acK u kd a b k := fun z => hv ⟨z.1.1, z.1.2.1⟩
  rw [sIF_f q, sIF_f q, sI_f q]
  exact UNa_x hv h
theorem UNc_s {co ve ho ds wh wa : Int → Int} {k w u : Int} (hw : w = u) (h : UNr co ve k w ho ds wh wa) : UNr co ve 0 w (uF ho u 0) ds wh wa := by subst hw; exact UN_cl h
theorem UN_aq {co ve ho ds wh wa : Int → Int} {k u : Int} (h : UNr co ve k u ho ds wh wa) : ∀ q, (950 + 50 * u) ≤ q → q < (950 + 50 * u) + ho u → okA (ds q) (wh q) (wa q) := fun q a b => by
  have e := (h.2.2 (q - (950 + 50 * u)) (by omega) (by rw [h.2.1] at b; omega)).1
  rw [show 950 + 50 * u + (q - (950 + 50 * u)) = q by omega] at e
  exact e
theorem RU_ho {ho ds wh wa : Int → Int} {fq : Nat → Option Nat} {u0 p1a : Nat} {co1 ve1 : Int → Int} {k1 : Int} {p2a : Nat} {co2 ve2 : Int → Int} {k2 : Int} {p3a : Nat} {co3 ve3 : Int → Int} {k3 : Int} {p4a : Nat} {co4 ve4 : Int → Int} {k4 : Int} {p5a : Nat} {co5 ve5 : Int → Int} {k5 : Int} {p6a : Nat} {co6 ve6 : Int → Int} {k6 : Int} {p7a : Nat} {co7 ve7 : Int → Int} {k7 : Int} {p8a : Nat} {co8 ve8 : Int → Int} {k8 : Int}
    (h : RU ho ds wh wa fq u0 p1a co1 ve1 k1 p2a co2 ve2 k2 p3a co3 ve3 k3 p4a co4 ve4 k4 p5a co5 ve5 k5 p6a co6 ve6 k6 p7a co7 ve7 k7 p8a co8 ve8 k8) : ∀ q, 1 ≤ q → q ≤ 8 → 0 ≤ ho q ∧ ho q ≤ 50 := fun q a b => by
  obtain ⟨-, ⟨-, n1⟩, ⟨-, n2⟩, ⟨-, n3⟩, ⟨-, n4⟩, ⟨-, n5⟩, ⟨-, n6⟩, ⟨-, n7⟩, -, n8⟩ := h
  rcases (show q = 1 ∨ q = 2 ∨ q = 3 ∨ q = 4 ∨ q = 5 ∨ q = 6 ∨ q = 7 ∨ q = 8 by omega) with e | e | e | e | e | e | e | e
  · rw [e, n1.2.1]; exact n1.1
  · rw [e, n2.2.1]; exact n2.1
  · rw [e, n3.2.1]; exact n3.1
  · rw [e, n4.2.1]; exact n4.1
  · rw [e, n5.2.1]; exact n5.1
  · rw [e, n6.2.1]; exact n6.1
  · rw [e, n7.2.1]; exact n7.1
  · rw [e, n8.2.1]; exact n8.1
theorem RL2_g {rc rv : Int → Int} {n : Int} {t : PSt} {g : MPl} (h : RL2 rc rv n t g) : ((t.1.1, t.1.2.1, t.1.2.2), (t.2.1.2.2.2.2.2, t.2.1.2.2.2.2.1, t.2.1.2.1, g.2.1.2.2.2.1, t.2.1.2.2.2.1), t.2.2, g.2.2.2) = g := by
  obtain ⟨h1, h2, h3, -⟩ := h
  obtain ⟨-, -, ⟨g1, -⟩, ⟨g2, g3, g4⟩, -⟩ := h2 zF zF zF zF
  obtain ⟨g1', ⟨md, al, ab, tr, sv⟩, sg, sd⟩ := g
  dsimp only at h1 h3 g1 g2 g3 g4 ⊢
  rw [h1, h3, g1, g2, g3, g4]
/-- acts done on both sides -/
theorem RB_do {sz va ki fi se rc rv : Int → Int} {mk nk lim rk k0 : Int} {ky fv : Int → Int} {hd : Int} {od ab dp sv : Int → Int} {th md : Int} {sg mr : Int → Int} {sd : Int} {co ve ds wh wa : Int → Int} {k fr h : Int}
    (hB : RB sz va ki fi se rc rv mk nk lim rk k0 ky fv hd od ab dp sv th md sg mr sd) (hk : 0 ≤ k ∧ rk + k ≤ 1000) (hh : h = k) (ha : ∀ j, 0 ≤ j → j < k → okA (ds (fr + j)) (wh (fr + j)) (wa (fr + j)) ∧ kOf (co j) = ds (fr + j) ∧ tOf (co j) = wh (fr + j) ∧ ve j = wa (fr + j)) {t : PSt} {g : MPl}
    (ht : daF co ve ((ky, fv, hd), (od, ab, dp, sv, th, md), sg) k.toNat = t) (hg : dmF ds wh wa fr ((ky, fv, hd), (md, th, ab, mr, sv), sg, sd) h.toNat = g) :
    rk + k = rk + h ∧ t.1.1 = g.1.1 ∧ t.1.2.1 = g.1.2.1 ∧ t.1.2.2 = g.1.2.2 ∧ t.2.1.2.2.2.2.2 = g.2.1.1 ∧ t.2.1.2.2.2.2.1 = g.2.1.2.1 ∧ t.2.1.2.1 = g.2.1.2.2.1 ∧ t.2.1.2.2.2.1 = g.2.1.2.2.2.2 ∧ t.2.2 = g.2.2.1 ∧
    RB sz va ki fi se (flF rc rk k (fun q => kOf (co q) * 4000000 + tOf (co q))) (flF rv rk k ve) mk nk lim (rk + k) k0 t.1.1 t.1.2.1 t.1.2.2 t.2.1.1 t.2.1.2.1 t.2.1.2.2.1 t.2.1.2.2.2.1 t.2.1.2.2.2.2.1 t.2.1.2.2.2.2.2 t.2.2 g.2.1.2.2.2.1 g.2.2.2 := by
  subst hh
  obtain ⟨⟨h1, h2, h3, h4, h5, h6, h7⟩, hR2, hPI, hPM⟩ := hB
  have r := RL2_k (ds := ds) (wh := wh) (wa := wa) (fr := fr) (co := co) (ve := ve) ⟨h6.1, hk.2⟩ hR2 ha h.toNat (by omega)
  have pi := PI_k (ds := ds) (wh := wh) (wa := wa) (fr := fr) (co := co) (ve := ve) ⟨h6.1, hk.2⟩ hPI ha h.toNat (by omega)
  have pm := PM_k (ds := ds) (wh := wh) (wa := wa) (fr := fr) ⟨h6.1, hk.2⟩ hPM (fun j a b => (ha j a b).1) h.toNat (by omega)
  have e : rk + ((h.toNat : Nat) : Int) = rk + h := by omega
  rw [e, ht, hg] at r
  rw [e, ht] at pi
  rw [e, hg] at pm
  have hq := RL2_g r
  refine ⟨rfl, congrArg (fun z : MPl => z.1.1) hq, congrArg (fun z : MPl => z.1.2.1) hq, congrArg (fun z : MPl => z.1.2.2) hq, congrArg (fun z : MPl => z.2.1.1) hq, congrArg (fun z : MPl => z.2.1.2.1) hq, congrArg (fun z : MPl => z.2.1.2.2.1) hq, congrArg (fun z : MPl => z.2.1.2.2.2.2) hq, congrArg (fun z : MPl => z.2.2.1) hq, ⟨h1, h2, h3, h4, h5, by omega, h7⟩, ?_, pi, ?_⟩
  · rw [hq]; exact r
  · rw [hq]; exact pm
theorem run_va0 {va ke be : Int → Int} {mk : Int} {z : Int × WSt} {y : Int × MSt} (hm : 0 ≤ mk ∧ mk ≤ 60) (h1 : z.1 = y.1) (h2 : z.2.1 = y.2.1) (ho : OUT va y.2.1 mk) :
    (if z.1 = 0 then cF (cF va ke 0 0 61) z.2.1 0 0 61 else z.2.1) = (if y.1 = 0 then cF (cF va be 1 1 mk) y.2.1 1 1 mk else y.2.1) := by
  rw [h1, h2]
  by_cases q : y.1 = 0
  · rw [if_pos q, if_pos q, back_c ho hm, back_m ho hm]
  · rw [if_neg q, if_neg q]
theorem run_cv0 {sz va ke : Int → Int} {mk : Int} {z : Int × WSt} {y : Int × MSt} (hm : 0 ≤ mk ∧ mk ≤ 60) (hcv : CV sz va mk) (hz : CV sz z.2.1 mk) (h2 : z.2.1 = y.2.1) (ho : OUT va y.2.1 mk) : CV sz (if z.1 = 0 then cF (cF va ke 0 0 61) z.2.1 0 0 61 else z.2.1) mk := by
  by_cases q : z.1 = 0
  · rw [if_pos q, h2, back_c ho hm]; exact hcv
  · rw [if_neg q]; exact hz
theorem HI_0 {ds wh wa ho y1 y2 y3 y4 : Int → Int} (h : HIb ds wh wa ho y1 y2 y3 y4) : HIb ds wh wa ho y1 y2 y3 (uF y4 0 0) := ⟨h.1, fun j a => by rw [uF_n _ _ a]; exact h.2 j a⟩
theorem RB_va {sz va ki fi se rc rv : Int → Int} {mk nk lim rk k0 : Int} {ky fv : Int → Int} {hd : Int} {od ab dp sv : Int → Int} {th md : Int} {sg mr : Int → Int} {sd : Int} {vb : Int → Int} (h : RB sz va ki fi se rc rv mk nk lim rk k0 ky fv hd od ab dp sv th md sg mr sd) (hv : CV sz vb mk) : RB sz vb ki fi se rc rv mk nk lim rk 0 ky fv hd od ab dp sv th md sg mr sd := by
  obtain ⟨⟨h1, h2, h3, h4, h5, h6, h7⟩, h8⟩ := h
  exact ⟨⟨h1, hv, h3, h4, h5, h6, rfl⟩, h8⟩
/-- what two runs give each other -/
theorem run_two {sz ki fi se : Int → Int} {lim mk nk rt rk : Int} {va co ve wt ds wh wa ho pi : Int → Int} (hN : NV ki fi se mk nk) (hrt : 1 ≤ rt ∧ rt ≤ nk) (hlim : 1 ≤ lim) (hC : CV sz va mk) {z : Int × WSt} {y : Int × MSt}
    (hz : itw sz ki fi se lim 20000 (1, va, co, ve, 0, uF wt 0 rt, 0 + 1, 0) = z) (hy : itM sz ki fi se lim 20000 (1, va, ds, wh, wa, uF ho 0 0, uF pi 0 rt, 0 + 1, 0) = y) :
    (z.1 = y.1 ∧ z.2.1 = y.2.1 ∧ z.2.2.2.2.2.2.2 = y.2.2.2.2.2.2.2.2) ∧ (0 ≤ y.1 ∧ y.1 ≤ 2) ∧ (0 ≤ z.2.2.2.2.1 ∧ z.2.2.2.2.1 ≤ 1000) ∧ (0 ≤ y.2.2.2.2.2.1 0 ∧ y.2.2.2.2.2.1 0 ≤ 1000) ∧ CV sz z.2.1 mk ∧ OUT va y.2.1 mk ∧ HIb ds wh wa ho y.2.2.1 y.2.2.2.1 y.2.2.2.2.1 (uF y.2.2.2.2.2.1 0 0) ∧ AVm y.2.2.1 y.2.2.2.1 y.2.2.2.2.1 (y.2.2.2.2.2.1 0) ∧
    ((z.1 = 1 ∧ rk + z.2.2.2.2.1 ≤ 1000) ↔ (y.1 = 1 ∧ rk + y.2.2.2.2.2.1 0 ≤ 1000)) ∧ (z.1 = 1 → z.2.2.2.2.1 = y.2.2.2.2.2.1 0 ∧ (∀ j, 0 ≤ j → j < z.2.2.2.2.1 → (0 ≤ z.2.2.1 j ∧ z.2.2.1 j < 20000000) ∧ okA (kOf (z.2.2.1 j)) (tOf (z.2.2.1 j)) (z.2.2.2.1 j)) ∧
      ∀ j, 0 ≤ j → j < z.2.2.2.2.1 → okA (y.2.2.1 (0 + j)) (y.2.2.2.1 (0 + j)) (y.2.2.2.2.1 (0 + j)) ∧ kOf (z.2.2.1 j) = y.2.2.1 (0 + j) ∧ tOf (z.2.2.1 j) = y.2.2.2.1 (0 + j) ∧ z.2.2.2.1 j = y.2.2.2.2.1 (0 + j)) := by
  obtain ⟨sr, wok, mok⟩ := run_sim (co := co) (ve := ve) (wt := wt) (ds := ds) (wh := wh) (wa := wa) (ho := ho) (pi := pi) hN hrt hlim hC
  have hi := HI_it (sz := sz) (ki := ki) (fi := fi) (se := se) (d0 := ds) (w0 := wh) (a0 := wa) (h0 := ho) (lim := lim) 20000 (1, va, ds, wh, wa, uF ho 0 0, uF pi 0 rt, 0 + 1, 0) ⟨fun j a => ⟨rfl, rfl, rfl⟩, fun j a => uF_n _ _ a⟩
  rw [hz] at sr wok
  rw [hy] at sr mok hi
  obtain ⟨s1, s2, s3, s4⟩ := sr
  obtain ⟨w1, -, w3, -⟩ := wok
  obtain ⟨m1, -, m3, -, -, m6, m7, m8⟩ := mok
  refine ⟨⟨s1, s2, s3⟩, m6, w3, m3, w1, m8, HI_0 hi, m7, ⟨fun q => ?_, fun q => ?_⟩, fun q => ?_⟩
  · obtain ⟨-, -, k, -⟩ := s4 q.1
    rw [← s1, ← k]; exact q
  · obtain ⟨-, -, k, -⟩ := s4 (s1.trans q.1)
    rw [s1, k]; exact q
  · obtain ⟨-, -, k, ac⟩ := s4 q
    have av := AV_of (k := z.2.2.2.2.1) (by rw [k]; exact m7) ac
    refine ⟨k, fun j a b => ⟨(av j a b).1, (av j a b).2.1⟩, fun j a b => ?_⟩
    obtain ⟨-, o, c1, c2, c3⟩ := av j a b
    rw [Int.zero_add]
    rw [c1, c2, c3] at o
    exact ⟨o, c1, c2, c3⟩
