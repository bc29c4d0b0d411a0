-- expect, keep
def kpS (f : Nat → Bool) : Nat → Nat
  | 0 => 0
  | n + 1 => if f n = true then kpS f n ||| 2 ^ n else kpS f n
theorem kpS_lt {f : Nat → Bool} : ∀ n, kpS f n < 2 ^ n := by
  intro n
  induction n with
  | zero => exact Nat.one_pos
  | succ n ih =>
    have h2 : 2 ^ n < 2 ^ (n + 1) := Nat.pow_lt_pow_right (by decide) (by omega)
    unfold kpS
    split
    · exact Nat.or_lt_two_pow (by omega) h2
    · omega
section Q6
variable {g : GC} {d : Nat} {h : HH} {al : AL}
theorem s_expect {p w : Int} (hS : Sim h al) : Call g (d + 9) yBy_expect [xr 0, xi p, xi w] h al (fun v h1 al1 => Call g (d + 9) yMo_expect [xr 120, xi p, xi w] h1 al1 (Ok2L v)) := by
  obtain ⟨V, nV, vl, nH, nP, rd, lots, l, yr, lo, S, O, P, k, v, st, hA⟩ := hS.all
  obtain ⟨hPB, hlo, hg⟩ := hA.pb
  obtain ⟨b1, b2, b3, b4, b5, b6, b7⟩ := id hPB
  obtain ⟨⟨hW, hN, hB⟩, ⟨-, -, q0, hz⟩, -, -, hr⟩ := id hA
  have a1 := hN.1.1.1
  have a2 := hN.1.1.2
  obtain ⟨h0, rfl⟩ := id hW
  have bad : ¬ ((0 ≤ p ∧ p < (nP : Int)) ∧ (0 ≤ w ∧ w ≤ 1) ∧ 1 ≤ nH) → Call g (d + 9) yMo_expect [xr 120, xi p, xi w] (wr h0) al (Ok2L (some (xl (-9223372036854775808)))) := fun hb => by
    refine cof ocMo_expect rfl (XW_t4 [] 80 okMo_expect ?_)
    refine c_isHolderA hA (fun pn e1 e2 _ => ?_) (fun _ => ⟨⟨_, rfl, rfl⟩, hS⟩)
    refine c_in (fun e3 => ?_) (fun _ => ⟨⟨_, rfl, rfl⟩, hS⟩)
    refine ite_t (show wr h0 120 0 = 0 by omega) ?_
    exact ⟨⟨_, rfl, rfl⟩, hS⟩
  refine cof ocBy_expect rfl (XW_t4 [] 80 okBy_expect ?_)
  refine c_holderA hA (fun pn ho ep hp hp6 hh hF => ?_) (fun hno => bad fun q => hno q.1)
  refine c_within (fun hw => ?_) (fun hno => bad fun q => hno q.2.1)
  refine ite_i (fun q => ?_) (fun q => ?_)
  · have q : wr h0 1 6 < 1 := q
    exact bad fun q2 => by omega
  · have q : ¬ wr h0 1 6 < 1 := q
    refine c_worthsA hA hh hF hp fun h2 al2 hc hA2 => ?_
    have hS2 := hA.sim hS hc.qf hA2.2.1.1
    obtain ⟨⟨hW2, hN2, -⟩, -⟩ := id hA2
    obtain ⟨-, -, -, ⟨g1, g2, g3, g4, g5⟩, -⟩ := id hN2
    have a12 := hN2.1.1.1
    have a22 := hN2.1.1.2
    obtain ⟨sm, hsm⟩ : ∃ sm : Int, sm = wsm (fun j => wtS (k pn) (v pn) (st pn) (lastL (Vw V vl) 3 0) (tbl (Vw V vl) (j : Int) (pn : Int)) rd (S j) (P pn)) nH := ⟨_, rfl⟩
    have hb : -360000 ≤ sm ∧ sm ≤ 360000 := by
      have := wsm_b (f := fun j => wtS (k pn) (v pn) (st pn) (lastL (Vw V vl) 3 0) (tbl (Vw V vl) (j : Int) (pn : Int)) rd (S j) (P pn)) nH b1 (fun j hj => wtS_b (tbl_ok hz.2.1) (fun ll hll => ((hr pn hp).2.2 ll hll).2.2) (lastL_b hz.2.1.2 (by decide)) (hr pn hp).2.1.2 b3.2 (g2 j hj))
      rw [← hsm] at this
      omega
    rw [← hsm]
    have hgc : 0 < Nat.gcd nH sm.natAbs := Nat.gcd_pos_of_pos_left _ (by omega)
    have hgc2 : Nat.gcd nH sm.natAbs ≤ nH := Nat.gcd_le_left _ (by omega)
    generalize Nat.gcd nH sm.natAbs = gc at hgc hgc2
    have mod : ∀ z : Int, (z = if w = 0 then sm.tdiv (Nat.gcd nH sm.natAbs : Int) else (nH : Int).tdiv (Nat.gcd nH sm.natAbs : Int)) → Call g (d + 9) yMo_expect [xr 120, xi p, xi w] h2 al2 (Ok2L (some (xl z))) := by
      intro z hzz
      have hgc : 0 < Nat.gcd nH sm.natAbs := Nat.gcd_pos_of_pos_left _ (by omega)
      obtain ⟨h2', rfl⟩ := id hW2
      refine cof ocMo_expect rfl (XW_t4 [] 100 okMo_expect ?_)
      refine c_isHolderA hA2 (fun pn2 e1 e2 _ => ?_) (fun hno => absurd hno (by omega))
      refine c_in (fun e3 => ?_) (fun q => absurd hw q)
      refine ite_f (show ¬ wr h2' 120 0 = 0 by omega) ?_
      refine c_asIsA hA2 fun h4 hf4 hQ4 => ?_
      have hW4 := hf4.mq.qf (al := al2) |>.wd hW2
      have f2 : h4 120 2 = (rd : Int) := (hf4 _ _ (by omega) (by omega)).trans hN2.2.2.2.2.1.2.1.2.1
      have fS : ∀ j, j < nH → h4 121 j = (S j : Int) ∧ S j < 10 := fun j hj => ⟨(hf4 _ _ (by omega) (by omega)).trans (hN2.2.2.1.1 j hj).1, g2 j hj⟩
      obtain ⟨h4', rfl⟩ := id hW4
      refine c_allWorths hW4 hQ4 hp ep fS b1 f2 b3 (g5 pn hp) fun h5 hm5 hQ5 => ?_
      rw [← hsm]
      have hm := hf4.mq.trans hm5.mq
      have hW5 := hm.qf (al := al2) |>.wd hW2
      have e0 : h5 120 0 = (nH : Int) := (hm _ _ (by omega) (by omega)).trans a22
      have fin := hA2.done hS2 hm
      obtain ⟨h5', rfl⟩ := id hW5
      have callD : ∀ bi : Int, bi = (nH : Int) → ∀ K2 : KT, K2 (some (xl (Nat.gcd nH sm.natAbs : Int))) (wr h5') al2 → Call g (d + 8) yMo_divisor [xr 120, xl sm, xl bi] (wr h5') al2 K2 := fun bi e K2 hk => by
        subst e
        exact c_divisor (by omega) (by omega) hk
      refine callD _ e0 _ ?_
      refine ite_i (fun q => ?_) (fun q => ?_)
      · have q : w = 0 := q
        rw [if_pos q] at hzz
        refine ⟨by omega, ?_⟩
        have e : wL (sm.tdiv (Nat.gcd nH sm.natAbs : Int)) = z := by
          rw [hzz]
          have := Int.natAbs_tdiv sm (Nat.gcd nH sm.natAbs : Int)
          have h3 : (sm.tdiv (Nat.gcd nH sm.natAbs : Int)).natAbs ≤ sm.natAbs := by rw [this]; exact Nat.div_le_self _ _
          unfold wL
          omega
        exact ⟨⟨_, rfl, congrArg (fun x => some (xl x)) e⟩, fin⟩
      · have q : ¬ w = 0 := q
        rw [if_neg q] at hzz
        refine ⟨by omega, ?_⟩
        have e : wL ((wr h5' 120 0).tdiv (Nat.gcd nH sm.natAbs : Int)) = z := by
          rw [hzz, e0]
          show wL ((nH / Nat.gcd nH sm.natAbs : Nat) : Int) = ((nH / Nat.gcd nH sm.natAbs : Nat) : Int)
          have h3 := Nat.div_le_self nH (Nat.gcd nH sm.natAbs)
          generalize nH / Nat.gcd nH sm.natAbs = x at h3 ⊢
          unfold wL
          omega
        exact ⟨⟨_, rfl, congrArg (fun x => some (xl x)) e⟩, fin⟩
    clear hgc hgc2
    clear gc
    have hgc : 0 < Nat.gcd nH sm.natAbs := Nat.gcd_pos_of_pos_left _ (by omega)
    obtain ⟨h2', rfl⟩ := id hW2
    refine c_abs ?_
    have ea : (if sm < 0 then wI (-sm) else sm) = (sm.natAbs : Int) := by
      split
      · rw [wI_id (by omega)]; omega
      · omega
    have callG : ∀ ai bi : Int, ai = (sm.natAbs : Int) → bi = (nH : Int) → ∀ K2 : KT, K2 (some (xi (Nat.gcd nH sm.natAbs : Int))) (wr h2') al2 → Call g (d + 8) yBy_commonDivisor [xi ai, xi bi] (wr h2') al2 K2 := fun ai bi e e2 K2 hk => by
      subst e
      subst e2
      exact c_gcd (by omega) hk
    refine callG _ _ ea a12 _ ?_
    refine ite_f (show ¬ ((Nat.gcd nH sm.natAbs : Nat) : Int) < 1 by omega) ?_
    refine ite_i (fun q => ?_) (fun q => ?_)
    · have q : w = 0 := q
      refine ⟨by omega, ?_⟩
      have e : wI (sm.tdiv (Nat.gcd nH sm.natAbs : Int)) = sm.tdiv (Nat.gcd nH sm.natAbs : Int) := by
        have := Int.natAbs_tdiv sm (Nat.gcd nH sm.natAbs : Int)
        have h3 : (sm.tdiv (Nat.gcd nH sm.natAbs : Int)).natAbs ≤ sm.natAbs := by rw [this]; exact Nat.div_le_self _ _
        exact wI_id (by omega)
      exact mod _ (by rw [if_pos q]; exact e)
    · have q : ¬ w = 0 := q
      refine ⟨by omega, ?_⟩
      have e : wI ((wr h2' 1 6).tdiv (Nat.gcd nH sm.natAbs : Int)) = (nH : Int).tdiv (Nat.gcd nH sm.natAbs : Int) := by
        rw [a12]
        show wI ((nH / Nat.gcd nH sm.natAbs : Nat) : Int) = ((nH / Nat.gcd nH sm.natAbs : Nat) : Int)
        have h3 := Nat.div_le_self nH (Nat.gcd nH sm.natAbs)
        generalize nH / Nat.gcd nH sm.natAbs = x at h3 ⊢
        exact wI_id (by omega)
      exact mod _ (by rw [if_neg q]; exact e)
theorem s_keep (hS : Sim h al) : Call g (d + 9) yBy_keep [xr 0] h al (fun v h1 al1 => Call g (d + 9) yMo_keep [xr 120] h1 al1 (Ok2 v)) := by
  obtain ⟨V, nV, vl, nH, nP, rd, lots, l, yr, lo, S, O, P, k, v, st, hA⟩ := hS.all
  obtain ⟨hPB, hlo, hg⟩ := hA.pb
  obtain ⟨b1, b2, b3, b4, b5, b6, b7⟩ := id hPB
  obtain ⟨⟨hW, hN, hB⟩, ⟨hG, -, q0, hz⟩, ⟨⟨e1, e2, e3⟩, hv, h5⟩, -, hr⟩ := id hA
  have hvc := hG.1.2.at hv h5
  obtain ⟨v0, -⟩ := (vnm_VN vl).k
  obtain ⟨F, hF0⟩ : ∃ F : Nat → Bool, F = fun p => decide (0 ≤ O p ∧ wsm (fun j => wtS (k p) (v p) (st p) (lastL (Vw V vl) 3 0) (tbl (Vw V vl) (j : Int) (p : Int)) rd (S j) (P p)) nH < wI (wI (wtS (k p) (v p) (st p) (lastL (Vw V vl) 3 0) (tbl (Vw V vl) (O p) (p : Int)) rd (S (O p).toNat) (P p) - lastL (Vw V vl) 4 0) * (nH : Int))) := ⟨_, rfl⟩
  have hF1 : ∀ p, ¬ 0 ≤ O p → F p = false := fun p q => by rw [hF0]; exact decide_eq_false (fun q2 => q q2.1)
  have hkb : ∀ n, n ≤ 6 → kpS F n < 1024 := fun n hn => Nat.lt_of_lt_of_le (kpS_lt n) (Nat.le_trans (Nat.pow_le_pow_right (by decide) hn) (by decide))
  have h2b : ∀ n, n < 6 → (2 : Nat) ^ n < 1024 := fun n hn => Nat.lt_of_lt_of_le (Nat.pow_lt_pow_right (by decide) hn) (by decide)
  -- the reference
  have mod : ∀ (h2 : HH) (al2 : AL), ALLf h2 al2 V nV vl nH nP rd lots l yr lo S O P k v st → Sim h2 al2 → Call g (d + 9) yMo_keep [xr 120] h2 al2 (Ok2 (some (xi (kpS F nP : Int)))) := by
    intro h2 al2 hA2 hS2
    obtain ⟨⟨hW2, hN2, -⟩, -⟩ := id hA2
    obtain ⟨-, -, ⟨m1, m2⟩, ⟨g1, g2, g3, g4, g5⟩, ⟨-, ⟨-, d2, -⟩, -⟩, -⟩ := id hN2
    have loop : ∀ (m p : Nat) (h3 : HH) (x3 : Option XV), p + m = nP → MQF h2 h3 → ASK h3 (Vw V vl) (lastL (Vw V vl) 3 0) k v st nH nP rd lots l lo S O P → XW g (d + 8) mMo_keep (Ok2 (some (xi (kpS F nP : Int)))) 8 [some (xr 120), some (xi (kpS F p : Int)), some (xi (p : Int)), x3] [] h3 al2 := by
      intro m
      induction m with
      | zero =>
        intro p h3 x3 hp hm hQ
        have hA3 := hA2.mq hm
        have hW3 := hA3.1.1
        have ep : h3 120 1 = (nP : Int) := hA3.1.2.1.1.2.1.2
        have done := hA2.done hS2 hm
        obtain ⟨h3', rfl⟩ := id hW3
        refine XW_t4 [8] 60 okMo_keep ?_
        refine ite_f (show ¬ (p : Int) < wr h3' 120 1 by rw [ep]; omega) ?_
        rw [show p = nP by omega]
        exact ⟨⟨_, rfl, rfl⟩, done⟩
      | succ m ih =>
        intro p h3 x3 hp hm hQ
        have hA3 := hA2.mq hm
        obtain ⟨⟨hW3, hN3, -⟩, ⟨-, -, q3, hz3⟩, -⟩ := id hA3
        have ep : h3 120 1 = (nP : Int) := hN3.1.2.1.2
        have hp6 : p < 6 := by omega
        have eO : h3 125 p = O p := (hN3.2.2.1.2 p (by omega)).1
        have e2r : h3 120 2 = (rd : Int) := hN3.2.2.2.2.1.2.1.2.1
        have eS : ∀ j, j < nH → h3 121 j = (S j : Int) ∧ S j < 10 := fun j hj => ⟨(hN3.2.2.1.1 j hj).1, g2 j hj⟩
        have nxt : ∀ (h4 : HH) (x3 : Option XV), MQF h2 h4 → ASK h4 (Vw V vl) (lastL (Vw V vl) 3 0) k v st nH nP rd lots l lo S O P → XW g (d + 8) mMo_keep (Ok2 (some (xi (kpS F nP : Int)))) 8 [some (xr 120), some (xi ((if F p = true then kpS F p ||| 2 ^ p else kpS F p : Nat) : Int)), some (xi (wI ((p : Int) + 1))), x3] [] h4 al2 := fun h4 x3 hm4 hQ4 => by
          rw [nS p (by omega)]
          exact ih (p + 1) h4 x3 (by omega) hm4 hQ4
        obtain ⟨h3', rfl⟩ := id hW3
        refine XW_t4 [8] 120 okMo_keep ?_
        refine ite_t (show (p : Int) < wr h3' 120 1 by rw [ep]; omega) ?_
        refine ⟨p, rfl, by show p < 6; exact hp6, _, eO, ?_⟩
        refine ite_i (fun q => ?_) (fun q => ?_)
        · have q : O p < 0 := q
          have t := nxt (wr h3') x3 hm hQ
          rw [hF1 p (by omega)] at t
          exact t
        · have q : ¬ O p < 0 := q
          have hOp := g3 p (by omega)
          refine ⟨p, rfl, by show p < 6; exact hp6, _, eO, ?_⟩
          refine ⟨p, rfl, by show p < 6; exact hp6, _, eO, ?_⟩
          refine ⟨(O p).toNat, by omega, by show (O p).toNat < 6; omega, _, (eS (O p).toNat (by omega)).1, ?_⟩
          refine c_Mworth (p := p) (i := (O p).toNat) (l := rd) (s := S (O p).toNat) hW3 hQ.1 hQ.2.1 (by omega) (by omega) b3 (g2 _ (by omega)) rfl (by omega) e2r rfl (hQ.2.2.1.2 p (by omega)).2 (g5 p (by omega)) fun h4 hm4 hM4 => ?_
          have hQ4 := hQ.mf hm4 hM4
          have hmm4 := hm.trans hm4.mq
          have hA4 := hA2.mq hmm4
          obtain ⟨⟨hW4, hN4, -⟩, ⟨-, -, q4, hz4⟩, -⟩ := id hA4
          have e0 : h4 120 0 = (nH : Int) := hN4.1.1.2
          have e2r4 : h4 120 2 = (rd : Int) := hN4.2.2.2.2.1.2.1.2.1
          have eS4 : ∀ j, j < nH → h4 121 j = (S j : Int) ∧ S j < 10 := fun j hj => ⟨(hN4.2.2.1.1 j hj).1, g2 j hj⟩
          obtain ⟨h4', rfl⟩ := id hW4
          refine c_last (w := 4) hW4 hz4 ?_
          refine c_allWorths hW4 hQ4 (by omega) rfl eS4 b1 e2r4 b3 (g5 p (by omega)) fun h5 hm5 hQ5 => ?_
          have hmm5 := hmm4.trans hm5.mq
          have t := fun x3 => nxt h5 x3 hmm5 hQ5
          have eOn : (((O p).toNat : Nat) : Int) = O p := by omega
          rw [eOn]
          have hW5 := (hA2.mq hmm5).1.1
          obtain ⟨h5', rfl⟩ := id hW5
          refine ite_i (fun q2 => ?_) (fun q2 => ?_)
          · have q2 : wsm (fun j => wtS (k p) (v p) (st p) (lastL (Vw V vl) 3 0) (tbl (Vw V vl) (j : Int) (p : Int)) rd (S j) (P p)) nH < wI (wI (wtS (k p) (v p) (st p) (lastL (Vw V vl) 3 0) (tbl (Vw V vl) (O p) (p : Int)) rd (S (O p).toNat) (P p) - lastL (Vw V vl) 4 0) * wr h4' 120 0) := q2
            rw [e0] at q2
            have eF : F p = true := by rw [hF0]; exact decide_eq_true ⟨by omega, q2⟩
            rw [eF, if_pos rfl] at t
            rw [← oI_n (hkb p (by omega)) (h2b p hp6), ← shl_n (by omega)] at t
            exact t _
          · have q2 : ¬ wsm (fun j => wtS (k p) (v p) (st p) (lastL (Vw V vl) 3 0) (tbl (Vw V vl) (j : Int) (p : Int)) rd (S j) (P p)) nH < wI (wI (wtS (k p) (v p) (st p) (lastL (Vw V vl) 3 0) (tbl (Vw V vl) (O p) (p : Int)) rd (S (O p).toNat) (P p) - lastL (Vw V vl) 4 0) * wr h4' 120 0) := q2
            rw [e0] at q2
            have eF : F p = false := by rw [hF0]; exact decide_eq_false (fun q3 => q2 q3.2)
            rw [eF, if_neg (by decide)] at t
            have e5 : oI (kpS F p : Int) 0 = (kpS F p : Int) := by
              have := oI_n (hkb p (by omega)) (show 0 < 1024 by decide)
              rw [Nat.or_zero] at this
              exact this
            rw [← e5] at t
            exact t _
    obtain ⟨h2', rfl⟩ := id hW2
    refine cof ocMo_keep rfl (XW_t4 [8] 60 okMo_keep ?_)
    refine c_asIsA hA2 fun h4 hf4 hQ4 => ?_
    have hW4 := hf4.mq.qf (al := al2) |>.wd hW2
    have t := loop nP 0 h4 none (by omega) hf4.mq hQ4
    obtain ⟨h4', rfl⟩ := id hW4
    exact t
  -- the class
  have loop : ∀ (m p : Nat) (h3 : HH) (al3 : AL) (x4 x5 x6 : Option XV), p + m = nP → CF h al h3 al3 → ALLf h3 al3 V nV vl nH nP rd lots l yr lo S O P k v st → XW g (d + 8) mBy_keep (fun v h1 al1 => Call g (d + 9) yMo_keep [xr 120] h1 al1 (Ok2 v)) 19 [some (xr 0), some (xi (lastL (Vw V vl) 4 0)), some (xi (kpS F p : Int)), some (xi (p : Int)), x4, x5, x6] [] h3 al3 := by
    intro m
    induction m with
    | zero =>
      intro p h3 al3 x4 x5 x6 hp hc hA3
      have hS3 := hA.sim hS hc.qf hA3.2.1.1
      have md := mod h3 al3 hA3 hS3
      have hW3 := hA3.1.1
      have ep : h3 1 5 = (nP : Int) := hA3.1.2.1.1.2.1.1
      obtain ⟨h3', rfl⟩ := id hW3
      refine XW_t4 [19] 60 okBy_keep ?_
      refine ite_f (show ¬ (p : Int) < wr h3' 1 5 by rw [ep]; omega) ?_
      rw [show p = nP by omega]
      exact md
    | succ m ih =>
      intro p h3 al3 x4 x5 x6 hp hc hA3
      have hp6 : p < 6 := by omega
      obtain ⟨⟨hW3, hN3, -⟩, -⟩ := id hA3
      obtain ⟨⟨⟨s1, s2⟩, ⟨ep, s3⟩, -⟩, ⟨⟨c1, c2, c3⟩, -⟩, -, ⟨g1, g2, g3, g4, g5⟩, ⟨-, ⟨d1, -⟩, -⟩, -⟩ := id hN3
      have nxt : ∀ (h4 : HH) (al4 : AL) (x4 x5 x6 : Option XV), CF h al h4 al4 → ALLf h4 al4 V nV vl nH nP rd lots l yr lo S O P k v st → XW g (d + 8) mBy_keep (fun v h1 al1 => Call g (d + 9) yMo_keep [xr 120] h1 al1 (Ok2 v)) 19 [some (xr 0), some (xi (lastL (Vw V vl) 4 0)), some (xi ((if F p = true then kpS F p ||| 2 ^ p else kpS F p : Nat) : Int)), some (xi (wI ((p : Int) + 1))), x4, x5, x6] [] h4 al4 := fun h4 al4 x4 x5 x6 hc4 hA4 => by
        rw [nS p (by omega)]
        exact ih (p + 1) h4 al4 x4 x5 x6 (by omega) hc4 hA4
      obtain ⟨h3', rfl⟩ := id hW3
      refine XW_t4 [19] 120 okBy_keep ?_
      refine ite_t (show (p : Int) < wr h3' 1 5 by rw [ep]; omega) ?_
      refine c_holderA hA3 (fun pn ho epn hpn hpn6 hh hF => ?_) (fun hno => absurd hno (by omega))
      have epp : pn = p := by omega
      subst epp
      rcases (c2 pn hpn6).1 hpn with ⟨x1, x2⟩ | ⟨x1, x2⟩
      · refine c_atE rfl rfl (by show pn < 6; exact hpn6) x2 ?_
        have t := nxt (wr h3') al3 (some (xr (Int.ofNat ho))) (some (xi (-5))) x6 hc hA3
        rw [hF1 pn (by omega)] at t
        exact t
      · have hOp := g3 pn hpn
        refine c_atE rfl rfl (by show pn < 6; exact hpn6) x2 ?_
        refine ite_f (show ¬ O pn = -5 by omega) ?_
        refine c_worthA (ln := rd) (j := (O pn).toNat) hA3 hh hF hpn (by omega) (by omega) d1 b3 fun h4 al4 hc4 hA4 => ?_
        obtain ⟨⟨hW4, hN4, -⟩, -⟩ := id hA4
        have e6 : h4 1 6 = (nH : Int) := hN4.1.1.1
        have hF4 := hF.cf hh hc4
        obtain ⟨h4', rfl⟩ := id hW4
        refine c_worthsA hA4 hh hF4 hpn fun h5 al5 hc5 hA5 => ?_
        have t := fun x4 x5 x6 => nxt h5 al5 x4 x5 x6 ((hc.trans hc4).trans hc5) hA5
        have eOn : (((O pn).toNat : Nat) : Int) = O pn := by omega
        rw [eOn]
        have hW5 := hA5.1.1
        obtain ⟨h5', rfl⟩ := id hW5
        refine ite_i (fun q2 => ?_) (fun q2 => ?_)
        · have q2 : wsm (fun j => wtS (k pn) (v pn) (st pn) (lastL (Vw V vl) 3 0) (tbl (Vw V vl) (j : Int) (pn : Int)) rd (S j) (P pn)) nH < wI (wI (wtS (k pn) (v pn) (st pn) (lastL (Vw V vl) 3 0) (tbl (Vw V vl) (O pn) (pn : Int)) rd (S (O pn).toNat) (P pn) - lastL (Vw V vl) 4 0) * wr h4' 1 6) := q2
          rw [e6] at q2
          have eF : F pn = true := by rw [hF0]; exact decide_eq_true ⟨by omega, q2⟩
          rw [eF, if_pos rfl] at t
          rw [← oI_n (hkb pn (by omega)) (h2b pn hpn6), ← shl_n (by omega)] at t
          exact t _ _ _
        · have q2 : ¬ wsm (fun j => wtS (k pn) (v pn) (st pn) (lastL (Vw V vl) 3 0) (tbl (Vw V vl) (j : Int) (pn : Int)) rd (S j) (P pn)) nH < wI (wI (wtS (k pn) (v pn) (st pn) (lastL (Vw V vl) 3 0) (tbl (Vw V vl) (O pn) (pn : Int)) rd (S (O pn).toNat) (P pn) - lastL (Vw V vl) 4 0) * wr h4' 1 6) := q2
          rw [e6] at q2
          have eF : F pn = false := by rw [hF0]; exact decide_eq_false (fun q3 => q2 q3.2)
          rw [eF, if_neg (by decide)] at t
          exact t _ _ _
  have t := loop nP 0 h al none none none (by omega) CF.refl hA
  obtain ⟨h0, rfl⟩ := id hW
  refine cof ocBy_keep rfl (XW_t4 [19] 80 okBy_keep ?_)
  refine c_valleyOf_n hW ?_
  rw [e1]
  refine cond_i (by rw [v0]; rfl) ⟨_, hvc.2.2.1, ?_⟩
  exact t
end Q6
