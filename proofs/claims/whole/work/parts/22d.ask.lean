-- asking class and reference, from all that is known
def MQF (h h2 : HH) : Prop := ∀ a k, ¬ (139 ≤ a ∧ a ≤ 155) → ¬ (a = 120 ∧ ((34 ≤ k ∧ k ≤ 36) ∨ k = 50)) → h2 a k = h a k
theorem MQF.refl {h : HH} : MQF h h := fun _ _ _ _ => rfl
theorem MQF.trans {h h2 h3 : HH} (a : MQF h h2) (b : MQF h2 h3) : MQF h h3 := fun q k e1 e2 => (b q k e1 e2).trans (a q k e1 e2)
theorem AF.mq {h h2 : HH} (a : AF h h2) : MQF h h2 := fun q k e1 e2 => a q k (by omega) (by omega)
theorem MF.mq {h h2 : HH} (a : MF h h2) : MQF h h2 := fun q k e1 e2 => a q k (by omega) (by omega)
theorem YF.mq {h h2 : HH} (a : YF h h2) : MQF h h2 := fun q k e1 e2 => a q k (by omega) (by omega) (by omega)
theorem MQF.qf {h h2 : HH} {al : AL} (a : MQF h h2) : QF h al h2 al := ⟨fun q k e => by
  unfold qp at e
  exact a q k (by omega) (by omega), fun _ _ => rfl⟩
theorem MQF.cg {h h2 : HH} {al : AL} {V : Nat → List Cl} {nV : Int} (a : MQF h h2) (hC : CGs h al V nV) : CGs h2 al V nV := hC.ot fun q k e => a q k (by omega) (by omega)
theorem MQF.up {h h2 : HH} {a k : Nat} {z : Int} (hf : MQF h h2) (e : (139 ≤ a ∧ a ≤ 155) ∨ (a = 120 ∧ ((34 ≤ k ∧ k ≤ 36) ∨ k = 50))) : MQF h (uH h2 a k z) := fun q j e1 e2 => by
  rw [uH_ne (by omega)]
  exact hf q j e1 e2
/-- what asking the class may change -/
def CQF (h : HH) (al : AL) (h2 : HH) (al2 : AL) : Prop := (∀ a k, tG a = false → ¬ ((21 ≤ a ∧ a ≤ 25) ∨ (a = 20 ∧ 5 ≤ k) ∨ (51 ≤ a ∧ a ≤ 53) ∨ (a = 50 ∧ 3 ≤ k) ∨ a = 78) → h2 a k = h a k) ∧ ∀ a, a < 230 → al2 a = al a
theorem CQF.qf {h h2 : HH} {al al2 : AL} (a : CQF h al h2 al2) : QF h al h2 al2 := ⟨fun q k e => by
  have := tG_q e
  unfold qp at e
  exact a.1 q k this (by omega), a.2⟩
theorem CF.cq {h h2 : HH} {al al2 : AL} (a : CF h al h2 al2) : CQF h al h2 al2 := ⟨fun q k e _ => a.1 q k e, a.2⟩
theorem CQF.refl {h : HH} {al : AL} : CQF h al h al := ⟨fun _ _ _ _ => rfl, fun _ _ => rfl⟩
theorem CQF.trans {h h2 h3 : HH} {al al2 al3 : AL} (a : CQF h al h2 al2) (b : CQF h2 al2 h3 al3) : CQF h al h3 al3 := ⟨fun q k e e2 => (b.1 q k e e2).trans (a.1 q k e e2), fun q e => (b.2 q e).trans (a.2 q e)⟩
theorem WF.cq {h h2 : HH} {al al2 : AL} {nH nP : Nat} (a : WF 20 nH nP h al h2 al2) : CQF h al h2 al2 := ⟨fun q k e e2 => a.1 q k e (by omega) (by omega) (by omega) (by omega), a.2⟩
section AQ
variable {g : GC} {d : Nat} {h h2 : HH} {al al2 : AL} {K : KT}
variable {V : Nat → List Cl} {nV vl : Int} {nH nP rd lots l yr : Nat} {lo S : Nat → Nat} {O P k v : Nat → Int} {st : Nat → Nat → Int}
theorem ALLf.done (hA : ALLf h al V nV vl nH nP rd lots l yr lo S O P k v st) (hS : Sim h al) (hf : MQF h h2) : Sim h2 al := hA.sim hS hf.qf (hf.cg hA.2.1.1)
theorem ALLf.mq (hA : ALLf h al V nV vl nH nP rd lots l yr lo S O P k v st) (hf : MQF h h2) : ALLf h2 al V nV vl nH nP rd lots l yr lo S O P k v st := hA.qf hf.qf (hf.cg hA.2.1.1)
theorem c_stepsA {p j ln ho : Nat} {ii li kk vv : Int} {sst : Nat → Int} (hA : ALLf h al V nV vl nH nP rd lots l yr lo S O P k v st) (hh : HN ho) (hF : HF h ho (p : Int) kk vv sst) (hp : p < nP) (ej : ii = (j : Int)) (hj : j < nH) (el : li = (ln : Int)) (hl : 1 ≤ ln ∧ ln ≤ 9)
    (hK : ∀ (h2 : HH) (al2 : AL), CF h al h2 al2 → ALLf h2 al2 V nV vl nH nP rd lots l yr lo S O P k v st → K (some (xi (stS kk vv sst (lastL (Vw V vl) 3 0) (tbl (Vw V vl) (j : Int) (p : Int)) ln (S j) (P p) : Int))) h2 al2) : Call g (d + 6) yLa_stepsOf [xr 1, xr 10, xr (Int.ofNat ho), xi ii, xi li] h al K := by
  obtain ⟨⟨hW, hN, hB⟩, ⟨hG, hM, hz⟩, ⟨⟨e1, e2, e3⟩, hv, h5⟩, -⟩ := id hA
  obtain ⟨⟨⟨a1, a2⟩, ⟨a3, a4⟩, a5, a6⟩, ⟨⟨c1, c2, c3⟩, c4, c5⟩, ⟨m1, m2⟩, ⟨g1, g2, g3, g4, g5⟩, -⟩ := hN
  refine c_stepsOf hW hG (by rw [e1]; exact hv) hh hF (by omega) ej (by omega) el hl (c1 j hj) (g2 j hj) (c3 p hp) fun h2 al2 hc hC2 => ?_
  rw [e1]
  exact hK h2 al2 hc (hA.qf hc.qf hC2)
theorem c_worthA {p j ln ho : Nat} {ii li kk vv : Int} {sst : Nat → Int} (hA : ALLf h al V nV vl nH nP rd lots l yr lo S O P k v st) (hh : HN ho) (hF : HF h ho (p : Int) kk vv sst) (hp : p < nP) (ej : ii = (j : Int)) (hj : j < nH) (el : li = (ln : Int)) (hl : 1 ≤ ln ∧ ln ≤ 9)
    (hK : ∀ (h2 : HH) (al2 : AL), CF h al h2 al2 → ALLf h2 al2 V nV vl nH nP rd lots l yr lo S O P k v st → K (some (xi (wtS kk vv sst (lastL (Vw V vl) 3 0) (tbl (Vw V vl) (j : Int) (p : Int)) ln (S j) (P p)))) h2 al2) : Call g (d + 6) yLa_worthOf [xr 1, xr 10, xr (Int.ofNat ho), xi ii, xi li] h al K := by
  obtain ⟨⟨hW, hN, hB⟩, ⟨hG, hM, hz⟩, ⟨⟨e1, e2, e3⟩, hv, h5⟩, -⟩ := id hA
  obtain ⟨⟨⟨a1, a2⟩, ⟨a3, a4⟩, a5, a6⟩, ⟨⟨c1, c2, c3⟩, c4, c5⟩, ⟨m1, m2⟩, ⟨g1, g2, g3, g4, g5⟩, -⟩ := hN
  refine c_worthOf hW hG (by rw [e1]; exact hv) hh hF (by omega) ej (by omega) el hl (c1 j hj) (g2 j hj) (c3 p hp) fun h2 al2 hc hC2 => ?_
  rw [e1]
  exact hK h2 al2 hc (hA.qf hc.qf hC2)
theorem c_worthsA {p ho : Nat} {kk vv : Int} {sst : Nat → Int} (hA : ALLf h al V nV vl nH nP rd lots l yr lo S O P k v st) (hh : HN ho) (hF : HF h ho (p : Int) kk vv sst) (hp : p < nP)
    (hK : ∀ (h2 : HH) (al2 : AL), CF h al h2 al2 → ALLf h2 al2 V nV vl nH nP rd lots l yr lo S O P k v st → K (some (xi (wsm (fun j => wtS kk vv sst (lastL (Vw V vl) 3 0) (tbl (Vw V vl) (j : Int) (p : Int)) rd (S j) (P p)) nH))) h2 al2) : Call g (d + 7) yLa_worthsOf [xr 1, xr 10, xr (Int.ofNat ho)] h al K := by
  obtain ⟨⟨hW, hN, hB⟩, ⟨hG, hM, hz⟩, ⟨⟨e1, e2, e3⟩, hv, h5⟩, -⟩ := id hA
  obtain ⟨⟨⟨a1, a2⟩, ⟨a3, a4⟩, a5, a6⟩, ⟨⟨c1, c2, c3⟩, c4, c5⟩, ⟨m1, m2⟩, ⟨g1, g2, g3, g4, g5⟩, ⟨-, ⟨d1, d2, d3, d4⟩, -⟩, -⟩ := hN
  refine c_worthsOf (S := S) hW hG (by rw [e1]; exact hv) hh hF (by omega) a1 a5 d1 ⟨d3, d4⟩ (fun j hj => ⟨c1 j hj, g2 j hj⟩) (c3 p hp) fun h2 al2 hc hC2 => ?_
  rw [e1]
  exact hK h2 al2 hc (hA.qf hc.qf hC2)
theorem ASK.mf {VL : List Cl} {pay : Int} (hQ : ASK h VL pay k v st nH nP rd lots l lo S O P) (hm : MF h h2) (hM : MC h2 VL (fun p => epr (k p) (v p) pay) 36) : ASK h2 VL pay k v st nH nP rd lots l lo S O P := by
  obtain ⟨b1, b2, ⟨b3, b4⟩, b5, b6⟩ := hQ
  refine ⟨hm.mb b1, hM, ⟨fun j hj => ?_, fun p hp => ?_⟩, b5.yf hm.yf, (hm 120 36 (by decide) (by decide)).trans b6⟩
  · rw [hm 142 j (by decide) (by decide), hm 143 j (by decide) (by decide)]
    exact b3 j hj
  · rw [hm 144 p (by decide) (by decide), hm 145 p (by decide) (by decide)]
    exact b4 p hp
theorem c_allWorths {VL : List Cl} {pay : Int} {p : Nat} {pi : Int} (hW : Wd h) (hQ : ASK h VL pay k v st nH nP rd lots l lo S O P) (hp : p < nP) (ep : pi = (p : Int)) (hS : ∀ j, j < nH → h 121 j = (S j : Int) ∧ S j < 10) (hnH : nH ≤ 6) (h2r : h 120 2 = (rd : Int)) (hr : 1 ≤ rd ∧ rd ≤ 9) (hP : I32 (P p))
    (hK : ∀ h2 : HH, MF h h2 → ASK h2 VL pay k v st nH nP rd lots l lo S O P → K (some (xi (wsm (fun j => wtS (k p) (v p) (st p) pay (tbl VL (j : Int) (p : Int)) rd (S j) (P p)) nH))) h2 al) : Call g (d + 7) yMo_allWorths [xr 120, xi pi] h al K := by
  subst ep
  have loop : ∀ (m j : Nat) (h2 : HH), j + m = nH → MF h h2 → ASK h2 VL pay k v st nH nP rd lots l lo S O P → XW g (d + 6) mMo_allWorths K 4 [some (xr 120), some (xi (p : Int)), some (xi (wsm (fun j => wtS (k p) (v p) (st p) pay (tbl VL (j : Int) (p : Int)) rd (S j) (P p)) j)), some (xi (j : Int))] [] h2 al := by
    intro m
    induction m with
    | zero =>
      intro j h2 hj hm hQ2
      have e : j = nH := by omega
      subst e
      have done := hK h2 hm hQ2
      have e0 : h2 120 0 = (j : Int) := hQ2.2.2.2.1.2.1
      obtain ⟨h3, rfl⟩ := hm.wd hW
      refine XW_t4 [4] 60 okMo_allWorths ?_
      refine ite_f (show ¬ (j : Int) < wr h3 120 0 by rw [e0]; omega) ?_
      exact done
    | succ m ih =>
      intro j h2 hj hm hQ2
      have e0 : h2 120 0 = (nH : Int) := hQ2.2.2.2.1.2.1
      have e2 : h2 120 2 = (rd : Int) := (hm 120 2 (by decide) (by decide)).trans h2r
      have es : h2 121 j = (S j : Int) := (hm 121 j (by decide) (by decide)).trans (hS j (by omega)).1
      have hj6 : j < 6 := by omega
      have hW2 := hm.wd hW
      obtain ⟨h3, rfl⟩ := id hW2
      refine XW_t4 [4] 60 okMo_allWorths ?_
      refine ite_t (show (j : Int) < wr h3 120 0 by rw [e0]; omega) ?_
      refine ⟨j, rfl, by show j < 6; exact hj6, _, es, ?_⟩
      refine c_Mworth (p := p) (i := j) (l := rd) (s := S j) hW2 hQ2.1 hQ2.2.1 hp (by omega) hr (hS j (by omega)).2 rfl rfl e2 rfl (hQ2.2.2.1.2 p hp).2 hP fun h4 hm4 hM4 => ?_
      have := ih (j + 1) h4 (by omega) (hm.trans hm4) (hQ2.mf hm4 hM4)
      rw [← nS j (by omega)] at this
      exact this
  refine cof ocMo_allWorths rfl (XW_t4 [4] 60 okMo_allWorths ?_)
  exact loop nH 0 h (by omega) MF.refl hQ
end AQ
-- calls that only ask
section Q1
variable {g : GC} {d : Nat} {h : HH} {al : AL}
theorem s_would {p i ln : Int} (hS : Sim h al) : Call g (d + 8) yBy_would [xr 0, xi p, xi i, xi ln] h al (fun v h1 al1 => Call g (d + 8) yMo_would [xr 120, xi p, xi i, xi ln] h1 al1 (Ok2 v)) := by
  obtain ⟨V, nV, vl, nH, nP, rd, lots, l, yr, lo, S, O, P, k, v, st, hA⟩ := hS.all
  obtain ⟨⟨hW, hN, hB⟩, -⟩ := id hA
  obtain ⟨h0, rfl⟩ := id hW
  have bad : ¬ (0 ≤ p ∧ p < (nP : Int)) ∨ ¬ (0 ≤ i ∧ i < (nH : Int)) → Call g (d + 8) yMo_would [xr 120, xi p, xi i, xi ln] (wr h0) al (Ok2 (some (xi (-1)))) := fun hb => by
    refine cof ocMo_would rfl (XW_t4 [] 80 okMo_would ?_)
    refine c_isHolderA hA (fun pn e1 e2 _ => ?_) (fun _ => ⟨⟨_, rfl, rfl⟩, hS⟩)
    refine c_isHoldingA hA (fun jn e3 e4 _ => ?_) (fun _ => ⟨⟨_, rfl, rfl⟩, hS⟩)
    exact absurd hb (by omega)
  refine cof ocBy_would rfl (XW_t4 [] 80 okBy_would ?_)
  refine c_holderA hA (fun pn ho ep hp hp6 hh hF => ?_) (fun hno => bad (Or.inl hno))
  refine c_hasHoldingA hA (fun j ej hj hj6 => ?_) (fun hno => bad (Or.inr hno))
  refine c_within (fun hl => ?_) (fun hl => ?_)
  · refine c_stepsA (ln := ln.toNat) hA hh hF hp ej hj (by omega) (by omega) fun h2 al2 hc hA2 => ?_
    have hS2 := hA.sim hS hc.qf hA2.2.1.1
    obtain ⟨⟨hW2, hN2, -⟩, -⟩ := id hA2
    obtain ⟨-, -, -, ⟨g1, g2, g3, g4, g5⟩, -⟩ := id hN2
    obtain ⟨h3, rfl⟩ := id hW2
    refine cof ocMo_would rfl (XW_t4 [] 80 okMo_would ?_)
    refine c_isHolderA hA2 (fun pn2 e1 e2 _ => ?_) (fun hno => absurd hno (by omega))
    refine c_isHoldingA hA2 (fun jn e3 e4 _ => ?_) (fun hno => absurd hno (by omega))
    refine c_in (fun _ => ?_) (fun q => absurd hl q)
    refine c_asIsA hA2 fun h4 hf4 hQ4 => ?_
    have hW4 := hf4.mq.qf (al := al2) |>.wd hW2
    have e121 : h4 121 j = (S j : Int) := (hf4 _ _ (by omega) (by omega)).trans (hN2.2.2.1.1 j hj).1
    have e126 : h4 126 pn = P pn := (hf4 _ _ (by omega) (by omega)).trans (hN2.2.2.1.2 pn hp).2
    obtain ⟨h5, rfl⟩ := id hW4
    refine ⟨j, ej, by show j < 6; exact hj6, _, e121, ?_⟩
    refine ⟨pn, ep, by show pn < 6; exact hp6, _, e126, ?_⟩
    refine c_mendsOf (p := pn) (i := j) (l := ln.toNat) (s := S j) hW4 hQ4.1 hQ4.2.1 hp hj6 (by omega) (g2 j hj) ep ej (by omega) rfl fun h6 hm hr hM => ?_
    exact ⟨⟨_, rfl, rfl⟩, hA2.done hS2 (hf4.mq.trans hm.mq)⟩
  · refine cof ocMo_would rfl (XW_t4 [] 80 okMo_would ?_)
    refine c_isHolderA hA (fun pn2 e1 e2 _ => ?_) (fun hno => absurd hno (by omega))
    refine c_isHoldingA hA (fun jn e3 e4 _ => ?_) (fun hno => absurd hno (by omega))
    refine c_in (fun q => absurd q hl) (fun _ => ⟨⟨_, rfl, rfl⟩, hS⟩)
theorem s_worth {p i ln : Int} (hS : Sim h al) : Call g (d + 8) yBy_worth [xr 0, xi p, xi i, xi ln] h al (fun v h1 al1 => Call g (d + 8) yMo_worth [xr 120, xi p, xi i, xi ln] h1 al1 (Ok2 v)) := by
  obtain ⟨V, nV, vl, nH, nP, rd, lots, l, yr, lo, S, O, P, k, v, st, hA⟩ := hS.all
  obtain ⟨⟨hW, hN, hB⟩, -⟩ := id hA
  obtain ⟨h0, rfl⟩ := id hW
  have bad : ¬ (0 ≤ p ∧ p < (nP : Int)) ∨ ¬ (0 ≤ i ∧ i < (nH : Int)) → Call g (d + 8) yMo_worth [xr 120, xi p, xi i, xi ln] (wr h0) al (Ok2 (some (xi (-100001)))) := fun hb => by
    refine cof ocMo_worth rfl (XW_t4 [] 80 okMo_worth ?_)
    refine c_isHolderA hA (fun pn e1 e2 _ => ?_) (fun _ => ⟨⟨_, rfl, rfl⟩, hS⟩)
    refine c_isHoldingA hA (fun jn e3 e4 _ => ?_) (fun _ => ⟨⟨_, rfl, rfl⟩, hS⟩)
    exact absurd hb (by omega)
  refine cof ocBy_worth rfl (XW_t4 [] 80 okBy_worth ?_)
  refine c_holderA hA (fun pn ho ep hp hp6 hh hF => ?_) (fun hno => bad (Or.inl hno))
  refine c_hasHoldingA hA (fun j ej hj hj6 => ?_) (fun hno => bad (Or.inr hno))
  refine c_within (fun hl => ?_) (fun hl => ?_)
  · refine c_worthA (ln := ln.toNat) hA hh hF hp ej hj (by omega) (by omega) fun h2 al2 hc hA2 => ?_
    have hS2 := hA.sim hS hc.qf hA2.2.1.1
    obtain ⟨⟨hW2, hN2, -⟩, -⟩ := id hA2
    obtain ⟨-, -, -, ⟨g1, g2, g3, g4, g5⟩, -⟩ := id hN2
    obtain ⟨h3, rfl⟩ := id hW2
    refine cof ocMo_worth rfl (XW_t4 [] 80 okMo_worth ?_)
    refine c_isHolderA hA2 (fun pn2 e1 e2 _ => ?_) (fun hno => absurd hno (by omega))
    refine c_isHoldingA hA2 (fun jn e3 e4 _ => ?_) (fun hno => absurd hno (by omega))
    refine c_in (fun _ => ?_) (fun q => absurd hl q)
    refine c_asIsA hA2 fun h4 hf4 hQ4 => ?_
    have hW4 := hf4.mq.qf (al := al2) |>.wd hW2
    have e121 : h4 121 j = (S j : Int) := (hf4 _ _ (by omega) (by omega)).trans (hN2.2.2.1.1 j hj).1
    obtain ⟨h5, rfl⟩ := id hW4
    refine ⟨j, ej, by show j < 6; exact hj6, _, e121, ?_⟩
    refine c_Mworth (p := pn) (i := j) (l := ln.toNat) (s := S j) hW4 hQ4.1 hQ4.2.1 hp hj6 (by omega) (g2 j hj) ep ej (by omega) rfl (hQ4.2.2.1.2 pn hp).2 (g5 pn hp) fun h6 hm hM => ?_
    exact ⟨⟨_, rfl, rfl⟩, hA2.done hS2 (hf4.mq.trans hm.mq)⟩
  · refine cof ocMo_worth rfl (XW_t4 [] 80 okMo_worth ?_)
    refine c_isHolderA hA (fun pn2 e1 e2 _ => ?_) (fun hno => absurd hno (by omega))
    refine c_isHoldingA hA (fun jn e3 e4 _ => ?_) (fun hno => absurd hno (by omega))
    refine c_in (fun q => absurd q hl) (fun _ => ⟨⟨_, rfl, rfl⟩, hS⟩)
theorem s_mends {p : Int} (hS : Sim h al) : Call g (d + 8) yBy_mends [xr 0, xi p] h al (fun v h1 al1 => Call g (d + 8) yMo_mends [xr 120, xi p] h1 al1 (Ok2 v)) := by
  obtain ⟨V, nV, vl, nH, nP, rd, lots, l, yr, lo, S, O, P, k, v, st, hA⟩ := hS.all
  obtain ⟨⟨hW, hN, hB⟩, -⟩ := id hA
  obtain ⟨-, ⟨⟨c1, c2, c3⟩, -, -⟩, ⟨m1, m2⟩, ⟨g1, g2, g3, g4, g5⟩, ⟨⟨l1, l2, l3⟩, -, -⟩, -⟩ := id hN
  obtain ⟨h0, rfl⟩ := id hW
  refine cof ocBy_mends rfl (XW_t4 [] 80 okBy_mends ?_)
  refine c_holderA hA (fun pn ho ep hp hp6 hh hF => ?_) (fun hno => ?_)
  · rcases (c2 pn hp6).1 hp with ⟨o1, o2⟩ | ⟨o1, o2⟩
    · refine c_atE rfl ep (by show pn < 6; exact hp6) o2 ?_
      refine cof ocMo_mends rfl (XW_t4 [] 80 okMo_mends ?_)
      refine c_isHolderA hA (fun pn2 e1 e2 _ => ?_) (fun hno => absurd hno (by omega))
      refine ⟨pn, ep, by show pn < 6; exact hp6, _, (m2 pn hp).1, ?_⟩
      refine ite_t (show O pn < 0 by omega) ?_
      exact ⟨⟨_, rfl, rfl⟩, hS⟩
    · have hOp := g3 pn hp
      have n6 := hN.1.2.2
      refine c_atE rfl ep (by show pn < 6; exact hp6) o2 ?_
      refine ite_f (show ¬ O pn = -5 by omega) ?_
      refine c_stepsA (ln := l) (j := (O pn).toNat) hA hh hF hp (by omega) (by omega) l1 (by omega) fun h2 al2 hc hA2 => ?_
      have hS2 := hA.sim hS hc.qf hA2.2.1.1
      obtain ⟨⟨hW2, hN2, -⟩, -⟩ := id hA2
      obtain ⟨h3, rfl⟩ := id hW2
      refine cof ocMo_mends rfl (XW_t4 [] 80 okMo_mends ?_)
      refine c_isHolderA hA2 (fun pn2 e1 e2 _ => ?_) (fun hno => absurd hno (by omega))
      refine ⟨pn, ep, by show pn < 6; exact hp6, _, (hN2.2.2.1.2 pn hp).1, ?_⟩
      refine ite_f (show ¬ O pn < 0 by omega) ?_
      refine c_asIsA hA2 fun h4 hf4 hQ4 => ?_
      have hW4 := hf4.mq.qf (al := al2) |>.wd hW2
      have e125 : h4 125 pn = O pn := (hf4 _ _ (by omega) (by omega)).trans (hN2.2.2.1.2 pn hp).1
      have e121 : h4 121 (O pn).toNat = (S (O pn).toNat : Int) := (hf4 _ _ (by omega) (by omega)).trans (hN2.2.2.1.1 _ (by omega)).1
      have e126 : h4 126 pn = P pn := (hf4 _ _ (by omega) (by omega)).trans (hN2.2.2.1.2 pn hp).2
      have e3 : h4 120 3 = (l : Int) := (hf4 _ _ (by omega) (by omega)).trans hN2.2.2.2.2.1.1.2.1
      obtain ⟨h5, rfl⟩ := id hW4
      refine ⟨pn, ep, by show pn < 6; exact hp6, _, e125, ?_⟩
      refine ⟨pn, ep, by show pn < 6; exact hp6, _, e125, ?_⟩
      refine ⟨(O pn).toNat, by omega, by show (O pn).toNat < 6; omega, _, e121, ?_⟩
      refine ⟨pn, ep, by show pn < 6; exact hp6, _, e126, ?_⟩
      refine c_mendsOf (p := pn) (i := (O pn).toNat) (l := l) (s := S (O pn).toNat) hW4 hQ4.1 hQ4.2.1 hp (by omega) g1 (g2 _ (by omega)) ep (by omega) e3 rfl fun h6 hm hr hM => ?_
      exact ⟨⟨_, rfl, rfl⟩, hA2.done hS2 (hf4.mq.trans hm.mq)⟩
  · refine cof ocMo_mends rfl (XW_t4 [] 80 okMo_mends ?_)
    exact c_isHolderA hA (fun pn2 e1 e2 _ => absurd hno (by omega)) (fun _ => ⟨⟨_, rfl, rfl⟩, hS⟩)
end Q1
