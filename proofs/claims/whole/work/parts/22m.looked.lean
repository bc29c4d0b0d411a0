-- looked
def lkS (k v : Int) (st : Nat → Int) (pay : Int) (T : TB) (rd : Nat) (bk : Nat → Int) : Nat → Nat → Nat → Nat → Int → Int
  | 0, _, _, _, _ => -5
  | m + 1, y, s, l, pu => if ((stS k v st pay T l s pu : Nat) : Int) = bk y then lkS k v st pay T rd bk m (y + 1) (bhS T l s (stS k v st pay T l s pu)) (if 2 ≤ l then l - 1 else rd) (if 2 ≤ l then wI (pu + gnS T l s (stS k v st pay T l s pu)) else wI (wI (pu + gnS T l s (stS k v st pay T l s pu)) + wI (pay * (bhS T l s (stS k v st pay T l s pu) : Int)))) else (y : Int)
section Q10
variable {g : GC} {d : Nat} {h : HH} {al : AL}
set_option maxRecDepth 8000 in
theorem s_looked {p i : Int} (hS : Sim h al) : Call g (d + 9) yBy_looked [xr 0, xi p, xi i] h al (fun v h1 al1 => Call g (d + 9) yMo_looked [xr 120, xi p, xi i] h1 al1 (Ok2 v)) := by
  obtain ⟨V, nV, vl, nH, nP, rd, lots, l, yr, lo, S, O, P, k, v, st, hA⟩ := hS.all
  obtain ⟨hPB, hlo, hg⟩ := hA.pb
  obtain ⟨b1, b2, b3, b4, b5, b6, b7⟩ := id hPB
  obtain ⟨⟨hW, hN, hB⟩, ⟨hG, -, q0, hz⟩, ⟨⟨e1, e2, e3⟩, hv, h5v⟩, -, hr⟩ := id hA
  obtain ⟨gl, gS, gO, gI, gP⟩ := id hg
  obtain ⟨-, ⟨⟨c1, c2, c3⟩, -⟩, -, -, ⟨⟨l1, -⟩, -⟩, -⟩ := id hN
  obtain ⟨v0, -⟩ := (vnm_VN vl).k
  obtain ⟨nb, hnb⟩ : ∃ nb : Nat, h 120 6 = (nb : Int) := ⟨(h 120 6).toNat, by have := hB.1; omega⟩
  obtain ⟨bk, hbk⟩ : ∃ bk : Nat → Int, ∀ y, bk y = h 129 y := ⟨_, fun _ => rfl⟩
  have hbb : nb ≤ 12 ∧ h 10 6 = (nb : Int) ∧ ∀ y, y < nb → h 15 y = bk y ∧ h 129 y = bk y := by
    obtain ⟨⟨x1, x2, x3⟩, x4⟩ := hB
    refine ⟨by omega, by omega, fun y hy => ?_⟩
    have := x4 y (by omega) (by omega)
    rw [hbk]
    exact ⟨this.1, rfl⟩
  obtain ⟨hb12, hb6, hbr⟩ := hbb
  obtain ⟨h0, rfl⟩ := id hW
  have bad : ¬ (0 ≤ p ∧ p < (nP : Int)) ∨ ¬ (0 ≤ i ∧ i < (nH : Int)) → Call g (d + 9) yMo_looked [xr 120, xi p, xi i] (wr h0) al (Ok2 (some (xi (-1)))) := fun hb => by
    refine cof ocMo_looked rfl (XW_t4 [] 80 okMo_looked ?_)
    refine c_isHolderA hA (fun pn e1 e2 _ => ?_) (fun _ => ⟨⟨_, rfl, rfl⟩, hS⟩)
    refine c_isHoldingA hA (fun jn e3 e4 _ => ?_) (fun _ => ⟨⟨_, rfl, rfl⟩, hS⟩)
    exact absurd hb (by omega)
  refine cof ocBy_looked rfl (XW_t4 [79] 120 okBy_looked ?_)
  refine c_holderA hA (fun pn ho ep hp hp6 hh hF => ?_) (fun hno => bad (Or.inl hno))
  refine c_hasHoldingA hA (fun j ej hj hj6 => ?_) (fun hno => bad (Or.inr hno))
  obtain ⟨k0, k1⟩ := hh.k
  have hv9 := (hr pn hp).2.1.2.2
  obtain ⟨T, hT⟩ : ∃ T : TB, T = tbl (Vw V vl) (j : Int) (pn : Int) := ⟨_, rfl⟩
  have hTd : gdT T := by rw [hT]; exact tbl_ok hz.2.1
  obtain ⟨py, hpy⟩ : ∃ py : Int, py = lastL (Vw V vl) 3 0 := ⟨_, rfl⟩
  obtain ⟨R, hR⟩ : ∃ R : Int, R = lkS (k pn) (v pn) (st pn) py T rd bk nb 0 (S j) l (P pn) := ⟨_, rfl⟩
  -- the reference
  have mod : ∀ (h2 : HH) (al2 : AL), CQF (wr h0) al h2 al2 → ALLf h2 al2 V nV vl nH nP rd lots l yr lo S O P k v st → Sim h2 al2 → Call g (d + 9) yMo_looked [xr 120, xi p, xi i] h2 al2 (Ok2 (some (xi R))) := by
    intro h2 al2 hc2 hA2 hS2
    obtain ⟨⟨hW2, hN2, -⟩, -⟩ := id hA2
    obtain ⟨-, -, ⟨m1, m2⟩, -, ⟨⟨-, l2, -⟩, ⟨-, d2, -⟩, -⟩, -⟩ := id hN2
    have fb : ∀ h3 : HH, MQF h2 h3 → Wd h3 ∧ h3 120 6 = (nb : Int) ∧ h3 120 2 = (rd : Int) ∧ ∀ y, y < nb → h3 129 y = bk y := fun h3 hm =>
      ⟨hm.qf (al := al2) |>.wd hW2, by rw [hm _ _ (by omega) (by omega), hc2.1 120 6 rfl (by omega)]; exact hnb, (hm _ _ (by omega) (by omega)).trans d2, fun y hy => by rw [hm _ _ (by omega) (by omega), hc2.1 129 y rfl (by omega)]; exact (hbr y hy).2⟩
    have loop : ∀ (m y s ll : Nat) (pu : Int) (h3 : HH) (x7 : Option XV), y + m = nb → s < 10 → (1 ≤ ll ∧ ll ≤ 9) → R = lkS (k pn) (v pn) (st pn) py T rd bk m y s ll pu → MQF h2 h3 → MB h3 (Vw V vl) py k v st nP → MC h3 (Vw V vl) (fun p => epr (k p) (v p) py) 36 →
        XW g (d + 8) mMo_looked (Ok2 (some (xi R))) 46 [some (xr 120), some (xi p), some (xi i), some (xi (s : Int)), some (xi pu), some (xi (ll : Int)), some (xi (y : Int)), x7] [] h3 al2 := by
      intro m
      induction m with
      | zero =>
        intro y s ll pu h3 x7 hy hs hll hRR hm hB3 hM3
        obtain ⟨hW3, f6, f2, fB⟩ := fb h3 hm
        have done := hA2.done hS2 hm
        obtain ⟨h3', rfl⟩ := id hW3
        refine XW_t4 [46] 60 okMo_looked ?_
        refine ite_f (show ¬ (y : Int) < wr h3' 120 6 by rw [f6]; omega) ?_
        exact ⟨⟨_, rfl, by rw [hRR]; rfl⟩, done⟩
      | succ m ih =>
        intro y s ll pu h3 x7 hy hs hll hRR hm hB3 hM3
        obtain ⟨hW3, f6, f2, fB⟩ := fb h3 hm
        obtain ⟨h3', rfl⟩ := id hW3
        refine XW_t4 [46, 147] 160 okMo_looked ?_
        refine ite_t (show (y : Int) < wr h3' 120 6 by rw [f6]; omega) ?_
        refine c_mendsOf (p := pn) (i := j) (l := ll) (s := s) hW3 hB3 hM3 hp hj6 hll hs ep ej rfl rfl fun h4 hm4 hr4 hM4 => ?_
        rw [← hT]
        have hmm4 := hm.trans hm4.mq
        obtain ⟨hW4, f64, f24, fB4⟩ := fb h4 hmm4
        have hsm : s + stS (k pn) (v pn) (st pn) py T ll s pu < 10 := stS_le hs hv9
        have hRR2 : R = if ((stS (k pn) (v pn) (st pn) py T ll s pu : Nat) : Int) = bk y then lkS (k pn) (v pn) (st pn) py T rd bk m (y + 1) (bhS T ll s (stS (k pn) (v pn) (st pn) py T ll s pu)) (if 2 ≤ ll then ll - 1 else rd) (if 2 ≤ ll then wI (pu + gnS T ll s (stS (k pn) (v pn) (st pn) py T ll s pu)) else wI (wI (pu + gnS T ll s (stS (k pn) (v pn) (st pn) py T ll s pu)) + wI (py * (bhS T ll s (stS (k pn) (v pn) (st pn) py T ll s pu) : Int)))) else (y : Int) := hRR
        generalize stS (k pn) (v pn) (st pn) py T ll s pu = mm at hsm hRR2 ⊢
        have eb := fB4 y (by omega)
        have hB4 := hm4.mb hB3
        have done4 := hA2.done hS2 hmm4
        obtain ⟨h4', rfl⟩ := id hW4
        refine ⟨y, rfl, by show y < 12; omega, _, eb, ?_⟩
        refine ite_i (fun q => ?_) (fun q => ?_)
        · have q : (mm : Int) = bk y := q
          rw [if_pos q] at hRR2
          refine ⟨y, rfl, by show y < 12; omega, _, eb.trans q.symm, ?_⟩
          refine c_Momin ?_
          have e9 : (if (mm : Int) < wI (9 - (s : Int)) then (mm : Int) else wI (9 - (s : Int))) = (mm : Int) := by
            rw [wI_id (by omega)]
            split <;> omega
          rw [e9]
          refine c_layRaw hW4 hB4.1.2 hM4 hp6 hj6 ep ej fun h5 hm5 _ hr5 hM5 h15 hT5 => ?_
          rw [← hT] at hT5
          have hmm5 := hmm4.trans hm5.mq
          obtain ⟨hW5, f65, f25, fB5⟩ := fb h5 hmm5
          have hB5 := hm5.mb hB4
          have f34 := hB5.2.1
          obtain ⟨h5', rfl⟩ := id hW5
          refine c_Mgain (l := ll) (s := s) (m := mm) hW5 hT5 hp6 hj6 ⟨hll.1, by omega⟩ hsm ep ej rfl rfl rfl ?_
          have esm : ∀ _ : Unit, wI ((s : Int) + (mm : Int)) = ((s + mm : Nat) : Int) := fun _ => by rw [wI_id (by omega)]; omega
          refine c_at0 (l := ll) (s := s + mm) hp6 hj6 (by omega) (by omega) ep ej rfl (esm ()) ?_
          refine ⟨a0 pn j ll (s + mm), rfl, by show _ < 6840; exact a0_lt hp6 hj6 (by omega) hsm, _, ((hT5 0 ll (s + mm) (by decide) hll.1 (by omega) hsm : wr h5' 148 (a0 pn j ll (s + mm)) = _)), ?_⟩
          refine c_fallen (t := s + mm) (esm ()) (by omega) ⟨(hTd 0 ll (s + mm)).1, (hTd 0 ll (s + mm)).2.2⟩ ?_
          show XW g (d + 8) mMo_looked (Ok2 (some (xi R))) 147 [some (xr 120), some (xi p), some (xi i), some (xi (bhS T ll s mm : Int)), some (xi (wI (pu + gnS T ll s mm))), some (xi (wI ((ll : Int) + -1))), some (xi (y : Int)), some (xi (mm : Int))] [] (wr h5') al2
          rw [nP2 (by omega) (by omega)]
          by_cases q2 : 2 ≤ ll
          · rw [if_pos q2, if_pos q2] at hRR2
            have t := ih (y + 1) (bhS T ll s mm) (ll - 1) (wI (pu + gnS T ll s mm)) (wr h5') (some (xi (mm : Int))) (by omega) (bhS_le hsm) (by omega) hRR2 hmm5 hB5 hM5
            rw [← nS y (by omega)] at t
            obtain ⟨ll2, hl2⟩ : ∃ ll2 : Nat, ll2 = ll - 1 := ⟨_, rfl⟩
            rw [← hl2] at t ⊢
            refine XW_t4 [46] 60 okMo_looked ?_
            refine ite_t (by omega) ?_
            exact t
          · rw [if_neg q2, if_neg q2] at hRR2
            have t := ih (y + 1) (bhS T ll s mm) rd (wI (wI (pu + gnS T ll s mm) + wI (py * (bhS T ll s mm : Int)))) (wr h5') (some (xi (mm : Int))) (by omega) (bhS_le hsm) b3 hRR2 hmm5 hB5 hM5
            rw [← nS y (by omega), ← f25, ← f34] at t
            rw [show ll - 1 = 0 by omega]
            refine XW_t4 [46] 60 okMo_looked ?_
            exact t
        · have q : ¬ (mm : Int) = bk y := q
          rw [if_neg q] at hRR2
          exact ⟨⟨_, rfl, by rw [hRR2]⟩, done4⟩
    obtain ⟨h2', rfl⟩ := id hW2
    refine cof ocMo_looked rfl (XW_t4 [46] 100 okMo_looked ?_)
    refine c_isHolderA hA2 (fun pn2 e1 e2 _ => ?_) (fun hno => absurd hno (by omega))
    refine c_isHoldingA hA2 (fun jn e3 e4 _ => ?_) (fun hno => absurd hno (by omega))
    refine c_asIsA hA2 fun h4 hf4 hQ4 => ?_
    have hW4 := hf4.mq.qf (al := al2) |>.wd hW2
    have e121 : h4 121 j = (S j : Int) := (hf4 _ _ (by omega) (by omega)).trans (m1 j hj).1
    have e126 : h4 126 pn = P pn := (hf4 _ _ (by omega) (by omega)).trans (m2 pn hp).2
    have e3' : h4 120 3 = (l : Int) := (hf4 _ _ (by omega) (by omega)).trans l2
    rw [← hpy] at hQ4
    have t := loop nb 0 (S j) l (P pn) h4 none (by omega) (gS j hj) gl hR hf4.mq hQ4.1 hQ4.2.1
    rw [← e3'] at t
    obtain ⟨h4', rfl⟩ := id hW4
    refine ⟨j, ej, by show j < 6; exact hj6, _, e121, ?_⟩
    refine ⟨pn, ep, by show pn < 6; exact hp6, _, e126, ?_⟩
    exact t
  -- the class
  have hgn : GN (230 + 8 * (7 * j + pn)) := ⟨7 * j + pn, by omega, rfl⟩
  obtain ⟨g0, -⟩ := hgn.k
  have loop : ∀ (m y s ll : Nat) (pu : Int) (h3 : HH) (al3 : AL) (x9 : Option XV), y + m = nb → s < 10 → (1 ≤ ll ∧ ll ≤ 9) → R = lkS (k pn) (v pn) (st pn) py T rd bk m y s ll pu → CF (wr h0) al h3 al3 → ALLf h3 al3 V nV vl nH nP rd lots l yr lo S O P k v st → h3 5 (7 * j + pn) = ((230 + 8 * (7 * j + pn) : Nat) : Int) → tbG h3 V (7 * j + pn) = T → h3 (230 + 8 * (7 * j + pn)) 9 = py → GA h3 (230 + 8 * (7 * j + pn)) T →
      XW g (d + 8) mBy_looked (fun v h1 al1 => Call g (d + 9) yMo_looked [xr 120, xi p, xi i] h1 al1 (Ok2 v)) 79 [some (xr 0), some (xi p), some (xi i), some (xr (Int.ofNat ho)), some (xr (Int.ofNat (230 + 8 * (7 * j + pn)))), some (xi (s : Int)), some (xi (ll : Int)), some (xi pu), some (xi (y : Int)), x9] [] h3 al3 := by
    intro m
    induction m with
    | zero =>
      intro y s ll pu h3 al3 x9 hy hs hll hRR hc3 hA3 _ _ _ _
      have md := mod h3 al3 hc3.cq hA3 (hA.sim hS hc3.qf hA3.2.1.1)
      have hW3 := hA3.1.1
      have f6 : h3 10 6 = (nb : Int) := (hc3.1 10 6 rfl).trans hb6
      rw [hRR] at md
      obtain ⟨h3', rfl⟩ := id hW3
      refine XW_t4 [79] 60 okBy_looked ?_
      refine ite_f (show ¬ (y : Int) < wr h3' 10 6 by rw [f6]; omega) ?_
      exact md
    | succ m ih =>
      intro y s ll pu h3 al3 x9 hy hs hll hRR hc3 hA3 g5 eT h9 hGA
      have hW3 := hA3.1.1
      have f6 : h3 10 6 = (nb : Int) := (hc3.1 10 6 rfl).trans hb6
      have hF3 := hF.cf hh hc3
      obtain ⟨h3', rfl⟩ := id hW3
      refine XW_t4 [79, 157] 160 okBy_looked ?_
      refine ite_t (show (y : Int) < wr h3' 10 6 by rw [f6]; omega) ?_
      refine cond_i (rcv_c k0 rfl rfl) ?_
      refine c_stepsInE (l := ll) (s := s) hgn hh hGA h9 hF3 rfl hll rfl hs fun h4 hS4 hP4 => ?_
      have hsp := hA3.2.1.1.sp (by omega) g5 hS4 (by rw [eT]; exact hP4)
      have hc4 := hc3.trans hsp.1
      have hA4 := hA3.qf hsp.1.qf hsp.2
      have hGA4 : GA h4 (230 + 8 * (7 * j + pn)) T := ⟨hS4.gf hGA.1, hS4.gt hGA.2.1, hGA.2.2.1, hP4⟩
      have g54 : h4 5 (7 * j + pn) = ((230 + 8 * (7 * j + pn) : Nat) : Int) := (hS4.1 5 _ (by omega) (by omega) (by omega) (by omega)).trans g5
      have eT4 : tbG h4 V (7 * j + pn) = T := (tbG_fr (hS4.2 8 (by decide) (by decide))).trans eT
      have h94 : h4 (230 + 8 * (7 * j + pn)) 9 = py := (hS4.2 9 (by decide) (by decide)).trans h9
      have hsm : s + stS (k pn) (v pn) (st pn) py T ll s pu < 10 := stS_le hs hv9
      have hRR2 : R = if ((stS (k pn) (v pn) (st pn) py T ll s pu : Nat) : Int) = bk y then lkS (k pn) (v pn) (st pn) py T rd bk m (y + 1) (bhS T ll s (stS (k pn) (v pn) (st pn) py T ll s pu)) (if 2 ≤ ll then ll - 1 else rd) (if 2 ≤ ll then wI (pu + gnS T ll s (stS (k pn) (v pn) (st pn) py T ll s pu)) else wI (wI (pu + gnS T ll s (stS (k pn) (v pn) (st pn) py T ll s pu)) + wI (py * (bhS T ll s (stS (k pn) (v pn) (st pn) py T ll s pu) : Int)))) else (y : Int) := hRR
      generalize stS (k pn) (v pn) (st pn) py T ll s pu = mm at hsm hRR2 ⊢
      have eb : h4 15 y = bk y := (hc4.1 15 y rfl).trans (hbr y (by omega)).1
      have f10 : h4 10 10 = vl := hA4.2.2.1.1.1
      have f8 : h4 10 8 = (rd : Int) := hA4.1.2.1.2.2.2.2.1.2.1.1
      have hvc := hA4.2.1.1.1.2.at hv h5v
      have md := mod h4 al3 hc4.cq hA4 (hA.sim hS hc4.qf hA4.2.1.1)
      have hW4 := hA4.1.1
      obtain ⟨h4', rfl⟩ := id hW4
      refine c_atE rfl rfl (by show y < 12; omega) eb ?_
      refine ite_i (fun q => ?_) (fun q => ?_)
      · have q : (mm : Int) = bk y := q
        rw [if_pos q] at hRR2
        refine cond_i (rcv_c g0 rfl rfl) ?_
        refine c_gainE (l := ll) (s := s) (m := mm) hgn hGA4.1 hGA4.2.1 rfl ⟨hll.1, by omega⟩ rfl rfl hsm ?_
        refine cond_i (rcv_c g0 rfl rfl) ?_
        refine c_behindE (l := ll) (s := s) (m := mm) hgn hGA4.1 hGA4.2.1 hTd rfl ⟨hll.1, by omega⟩ rfl rfl hsm ?_
        show XW g (d + 8) mBy_looked (fun v h1 al1 => Call g (d + 9) yMo_looked [xr 120, xi p, xi i] h1 al1 (Ok2 v)) 157 [some (xr 0), some (xi p), some (xi i), some (xr (Int.ofNat ho)), some (xr (Int.ofNat (230 + 8 * (7 * j + pn)))), some (xi (bhS T ll s mm : Int)), some (xi (wI ((ll : Int) + -1))), some (xi (wI (pu + gnS T ll s mm))), some (xi (y : Int)), some (xi (mm : Int))] [] (wr h4') al3
        rw [nP2 (by omega) (by omega)]
        by_cases q2 : 2 ≤ ll
        · rw [if_pos q2, if_pos q2] at hRR2
          have t := ih (y + 1) (bhS T ll s mm) (ll - 1) (wI (pu + gnS T ll s mm)) (wr h4') al3 (some (xi (mm : Int))) (by omega) (bhS_le hsm) (by omega) hRR2 hc4 hA4 g54 eT4 h94 hGA4
          rw [← nS y (by omega)] at t
          obtain ⟨ll2, hl2⟩ : ∃ ll2 : Nat, ll2 = ll - 1 := ⟨_, rfl⟩
          rw [← hl2] at t ⊢
          refine XW_t4 [79] 60 okBy_looked ?_
          refine ite_f (by omega) ?_
          exact t
        · rw [if_neg q2, if_neg q2] at hRR2
          have t := ih (y + 1) (bhS T ll s mm) rd (wI (wI (pu + gnS T ll s mm) + wI (py * (bhS T ll s mm : Int)))) (wr h4') al3 (some (xi (mm : Int))) (by omega) (bhS_le hsm) b3 hRR2 hc4 hA4 g54 eT4 h94 hGA4
          rw [← nS y (by omega), ← f8] at t
          rw [show ll - 1 = 0 by omega]
          refine XW_t4 [79] 60 okBy_looked ?_
          refine c_valleyOf_n hW4 ?_
          rw [f10]
          refine cond_i (by rw [v0]; rfl) ⟨_, hvc.2.1.trans hpy.symm, ?_⟩
          exact t
      · have q : ¬ (mm : Int) = bk y := q
        rw [if_neg q] at hRR2
        rw [hRR2] at md
        exact md
  have callG : ∀ oi oj : Int, oi = (j : Int) → oj = (pn : Int) → ∀ K2 : KT, (∀ (h5 : HH) (al5 : AL), CF (wr h0) al h5 al5 → CGs h5 al5 V nV → h5 5 (7 * j + pn) = ((230 + 8 * (7 * j + pn) : Nat) : Int) → tbG h5 V (7 * j + pn) = T → h5 (230 + 8 * (7 * j + pn)) 9 = py → GA h5 (230 + 8 * (7 * j + pn)) T → K2 (some (xr (Int.ofNat (230 + 8 * (7 * j + pn))))) h5 al5) → Call g (d + 8) yLa_ground [xr 1, xr 10, xi oi, xi oj] (wr h0) al K2 := fun oi oj e ee K2 hk => by
    subst e
    subst ee
    refine c_ground_n hW hG (by rw [e1]; exact hv) hj6 (Or.inl ⟨rfl, hp6⟩) fun h5 al5 x1 x2 x3 x4 x5 x6 => ?_
    rw [hnm_n hp6, e1, ← hT] at x4 x6
    rw [e1, ← hpy] at x5
    exact hk h5 al5 x1 x2 x3 x4 x5 x6
  refine callG _ _ ej ep _ fun h5 al5 hc5 hC5 g5 eT h9 hGA => ?_
  have hA5 := hA.qf hc5.qf hC5
  have hW5 := hA5.1.1
  have e11 : h5 11 j = (S j : Int) := (hc5.1 11 j rfl).trans (c1 j hj)
  have e13 : h5 13 pn = P pn := (hc5.1 13 pn rfl).trans (c3 pn hp)
  have e7 : h5 10 7 = (l : Int) := (hc5.1 10 7 rfl).trans l1
  have t := loop nb 0 (S j) l (P pn) h5 al5 none (by omega) (gS j hj) gl hR hc5 hA5 g5 eT h9 hGA
  rw [← e7] at t
  obtain ⟨h5', rfl⟩ := id hW5
  refine c_atE rfl ej (by show j < 6; exact hj6) e11 ?_
  refine c_atE rfl ep (by show pn < 6; exact hp6) e13 ?_
  exact t
end Q10
