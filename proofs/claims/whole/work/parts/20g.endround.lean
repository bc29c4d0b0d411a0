-- the end of a round, by the class
section ER
variable {g : GC} {d : Nat} {h : HH} {al : AL} {K : KT}
theorem c_lotIsWhole_n {nH lots : Nat} {lo : Nat → Nat} (hW : Wd h) (h6 : h 1 6 = (nH : Int)) (hH : nH ≤ 6) (h5 : h 10 5 = (lots : Int)) (hL : lots ≤ 6) (hlo : ∀ q, q < lots → h (10 + 4) q = (lo q : Int)) (hd : ∀ p q, p < lots → q < lots → lo p = lo q → p = q)
    (hK : K (some (xi (if lotB lots nH lo = true then 1 else 0))) h al) : Call g (d + 2) yLa_lotIsWhole [xr 1, xr 10] h al K := by
  have hno : lotB lots nH lo = false → K (some (xi 0)) h al := fun e => by
    rw [e] at hK
    exact hK
  have loop : ∀ m k : Nat, k + m = nH → lots = nH → (∀ q, q < k → ∃ p, p < lots ∧ lo p = q) → XW g (d + 1) mLa_lotIsWhole K 15 [some (xr 1), some (xr 10), some (xi (k : Int))] [] h al := by
    intro m
    induction m with
    | zero =>
      intro k hk hL2 hq
      obtain ⟨h0, rfl⟩ := id hW
      refine XW_t4 [15] 40 okLa_lotIsWhole ?_
      refine ite_f (show ¬ (k : Int) < wr h0 1 6 by rw [h6]; omega) ?_
      have e : lotB lots nH lo = true := lotB_i hL2 (by
        intro q hq2
        have := pig2 (n := nH) (f := lo) (fun r hr => by
          obtain ⟨p, p1, p2⟩ := hq r (by omega)
          exact ⟨p, by omega, p2⟩) q (by omega)
        exact this)
      rw [e] at hK
      exact ⟨Or.inr rfl, hK⟩
    | succ m ih =>
      intro k hk hL2 hq
      have hW2 := hW
      obtain ⟨h0, rfl⟩ := id hW
      refine XW_t4 [15] 40 okLa_lotIsWhole ?_
      refine ite_t (show (k : Int) < wr h0 1 6 by rw [h6]; omega) ?_
      refine c_inLot_n hW2 (by rw [h5]; omega) (fun hy => ?_) (fun hn => ?_)
      · obtain ⟨p, hp, hp2, hp3⟩ := hy
        have := ih (k + 1) (by omega) hL2 fun q hq2 => by
          by_cases e : q = k
          · have := hlo p (by omega)
            rw [show wr h0 (10 + 4) p = (k : Int) from hp3] at this
            exact ⟨p, by omega, by omega⟩
          · exact hq q (by omega)
        rw [← nS k (by omega)] at this
        exact this
      · refine ⟨Or.inl rfl, hno ?_⟩
        cases e : lotB lots nH lo with
        | false => rfl
        | true =>
          obtain ⟨a1, a2⟩ := lotB_lt e
          obtain ⟨q, q1, q2⟩ := pig nH lo (fun q hq => a2 q (by omega)) (fun p q hp hq => hd p q (by omega) (by omega)) k (by omega)
          have := hn q (by omega) (by omega)
          exact absurd (show wr h0 (10 + 4) q = (k : Int) by rw [hlo q (by omega), q2]) this
  have hW2 := hW
  obtain ⟨h0, rfl⟩ := id hW
  refine cof ocLa_lotIsWhole rfl (XW_t4 [15] 40 okLa_lotIsWhole ?_)
  refine ite_i (fun q => ?_) (fun q => ?_)
  · have q : wr h0 10 5 = wr h0 1 6 := q
    exact loop nH 0 (by omega) (by omega) (fun q hq => absurd hq (by omega))
  · have q : ¬ wr h0 10 5 = wr h0 1 6 := q
    refine ⟨Or.inl rfl, hno ?_⟩
    unfold lotB
    rw [decide_eq_false (by omega)]
    rfl
set_option maxRecDepth 8000 in
theorem c_endRound_n {V : Nat → List Cl} {nV : Int} {nH nP lots rd : Nat} {lo : Nat → Nat} {S : Nat → Nat} {O P : Nat → Int} (hW : Wd h) (hC : CVs h V nV) (h5' : nV ≤ 5) (hv : -1 ≤ h 10 10 ∧ h 10 10 < nV) (hcw : CWd 10 h nH nP S O P) (hO : ∀ p, p < nP → O p = -1 ∨ (0 ≤ O p ∧ O p < (nH : Int))) (e5 : h 1 5 = (nP : Int)) (hnP : nP ≤ 6) (h6 : h 1 6 = (nH : Int)) (hH : nH ≤ 6) (h5 : h 10 5 = (lots : Int)) (hL : lots ≤ 6) (hlo : ∀ q, q < lots → h (10 + 4) q = (lo q : Int)) (hd : ∀ p q, p < lots → q < lots → lo p = lo q → p = q) (h8 : h 10 8 = (rd : Int))
    (hK : ∀ h2 : HH, WF 10 nH nP h al h2 al → h2 10 7 = (rd : Int) → h2 10 9 = h 10 9 → (∀ a q, 30 ≤ a ∨ a = 5 → h2 a q = h a q) → CWd 10 h2 nH nP S (if lotB lots nH lo = true then oE lots lo else O) (pE (lastL (Vw V (h 10 10)) 3 0) S O P) → K none h2 al) :
    Call g (d + 3) yLa_endRound [xr 1, xr 10] h al K := by
  obtain ⟨c1, c2, c3⟩ := id hcw
  have hvv : VN (vnm (h 10 10)) := vnm_VN _
  obtain ⟨v0, -⟩ := hvv.k
  have hvc := hC.at hv h5'
  -- who has what anew
  have loopB : ∀ (m k : Nat) (h2 : HH) (x2 : Int) (x4 : Option XV), lotB lots nH lo = true → k + m = nP → WF 10 nH nP h al h2 al → h2 10 7 = (rd : Int) → h2 10 9 = h 10 9 → (∀ a q, 30 ≤ a ∨ a = 5 → h2 a q = h a q) → (∀ j, j < nH → h2 (10 + 1) j = (S j : Int)) → (∀ p, p < nP → h2 (10 + 3) p = pE (lastL (Vw V (h 10 10)) 3 0) S O P p) → (∀ p, p < 6 → h2 (10 + 2) p = if p < k then (if p < lots then (lo p : Int) else -5) else h (10 + 2) p) →
      XW g (d + 2) mLa_endRound K 89 [some (xr 1), some (xr 10), some (xi x2), some (xi (k : Int)), x4] [] h2 al := by
    intro m
    induction m with
    | zero =>
      intro k h2 x2 x4 hb hk hf f7 f9 fo fS fP fO
      have f5 : h2 1 5 = (nP : Int) := (hf.1 1 5 rfl (by omega) (by omega) (by omega) (by omega)).trans e5
      have hW2 := hf.wd (by decide) hW
      refine (?_ : XW g (d + 2) mLa_endRound K 89 [some (xr 1), some (xr 10), some (xi x2), some (xi (k : Int)), x4] [] h2 al)
      have done := hK h2 hf f7 f9 fo ⟨fS, fun p hp => ?_, fP⟩
      · obtain ⟨h3, rfl⟩ := id hW2
        refine XW_t4 [89] 60 okLa_endRound ?_
        refine ite_f (show ¬ (k : Int) < wr h3 1 5 by rw [f5]; omega) ?_
        exact done
      · rw [fO p hp, if_pos hb]
        unfold oE
        refine ⟨fun q => ?_, fun q => ?_⟩
        · rw [if_pos (show p < k by omega)]
          by_cases q2 : p < lots
          · rw [if_pos q2, if_pos q2]
            exact Or.inr ⟨by omega, rfl⟩
          · rw [if_neg q2, if_neg q2]
            exact Or.inl ⟨rfl, rfl⟩
        · rw [if_neg (show ¬ p < k by omega)]
          exact (c2 p hp).2 q
    | succ m ih =>
      intro k h2 x2 x4 hb hk hf f7 f9 fo fS fP fO
      have f5 : h2 1 5 = (nP : Int) := (hf.1 1 5 rfl (by omega) (by omega) (by omega) (by omega)).trans e5
      have g5 : h2 10 5 = (lots : Int) := (hf.1 10 5 rfl (by omega) (by omega) (by omega) (by omega)).trans h5
      have glo : ∀ q, q < lots → h2 (10 + 4) q = (lo q : Int) := fun q hq => (hf.1 (10 + 4) q rfl (by omega) (by omega) (by omega) (by omega)).trans (hlo q hq)
      have hW2 := hf.wd (by decide) hW
      obtain ⟨h3, rfl⟩ := id hW2
      have go : ∀ z : Int, z = (if k < lots then (lo k : Int) else -5) → XW g (d + 2) mLa_endRound K 89 [some (xr 1), some (xr 10), some (xi x2), some (xi ((k + 1 : Nat) : Int)), x4] [] (uH (wr h3) (10 + 2) k z) al := fun z hz => by
        refine ih (k + 1) _ x2 x4 hb (by omega) (hf.up (by omega)) ?_ ?_ (fun a q hq => ?_) (fun j hj => ?_) (fun p hp => ?_) (fun p hp => ?_)
        · rw [uH_ne (by omega)]; exact f7
        · rw [uH_ne (by omega)]; exact f9
        · rw [uH_ne (by omega)]; exact fo a q hq
        · rw [uH_ne (by omega)]; exact fS j hj
        · rw [uH_ne (by omega)]; exact fP p hp
        · rw [uH_r]
          by_cases e : p = k
          · rw [if_pos e, if_pos (by omega), hz, e]
          · rw [if_neg e, fO p hp]
            by_cases e2 : p < k
            · rw [if_pos e2, if_pos (show p < k + 1 by omega)]
            · rw [if_neg e2, if_neg (show ¬ p < k + 1 by omega)]
      rw [← nS k (by omega)] at go
      refine XW_t4 [89] 60 okLa_endRound ?_
      refine ite_t (show (k : Int) < wr h3 1 5 by rw [f5]; omega) ?_
      refine ite_i (fun q => ?_) (fun q => ?_)
      · have q : (k : Int) < wr h3 10 5 := q
        have q2 : k < lots := by rw [g5] at q; omega
        refine c_atE rfl rfl (by show k < 6; omega) (glo k q2) ?_
        refine c_putE rfl rfl (by show k < 6; omega) ?_
        have t := go (lo k : Int) (by rw [if_pos q2])
        exact t
      · have q : ¬ (k : Int) < wr h3 10 5 := q
        have q2 : ¬ k < lots := by rw [g5] at q; omega
        refine c_putE rfl rfl (by show k < 6; omega) ?_
        have t := go (-5) (by rw [if_neg q2])
        exact t
  -- what is paid
  have loopA : ∀ (m k : Nat) (h2 : HH) (x4 : Option XV), k + m = nP → (∀ a q, ¬ (a = 10 + 3 ∧ q < nP) → h2 a q = h a q) → (∀ p, p < nP → h2 (10 + 3) p = if p < k then pE (lastL (Vw V (h 10 10)) 3 0) S O P p else P p) →
      XW g (d + 2) mLa_endRound K 11 [some (xr 1), some (xr 10), some (xi (lastL (Vw V (h 10 10)) 3 0)), some (xi (k : Int)), x4] [] h2 al := by
    intro m
    induction m with
    | zero =>
      intro k h2 x4 hk fa fP
      have f5 : h2 1 5 = (nP : Int) := (fa 1 5 (by omega)).trans e5
      have f8 : h2 10 8 = (rd : Int) := (fa 10 8 (by omega)).trans h8
      have f6 : h2 1 6 = (nH : Int) := (fa 1 6 (by omega)).trans h6
      have g5 : h2 10 5 = (lots : Int) := (fa 10 5 (by omega)).trans h5
      have glo : ∀ q, q < lots → h2 (10 + 4) q = (lo q : Int) := fun q hq => (fa (10 + 4) q (by omega)).trans (hlo q hq)
      have hWF : WF 10 nH nP h al h2 al := ⟨fun a q e1 e2 e3 e4 e5 => fa a q e4, fun _ _ => rfl⟩
      have hW2 := hWF.wd (by decide) hW
      have hWF3 : WF 10 nH nP h al (uH h2 10 7 (h2 10 8)) al := hWF.up (by omega)
      have hW3 := hWF3.wd (by decide) hW
      have key : Call g (d + 2) yLa_lotIsWhole [xr 1, xr 10] (uH h2 10 7 (h2 10 8)) al fun r h3 al3 => XW g (d + 2) mLa_endRound K 83 [some (xr 1), some (xr 10), some (xi (lastL (Vw V (h 10 10)) 3 0)), some (xi (k : Int)), x4] (r.toList ++ []) h3 al3 := by
        refine c_lotIsWhole_n hW3 (by rw [uH_ne (by omega)]; exact f6) hH (by rw [uH_ne (by omega)]; exact g5) hL (fun q hq => by rw [uH_ne (by omega)]; exact glo q hq) hd ?_
        have u7 : (uH h2 10 7 (h2 10 8)) 10 7 = (rd : Int) := by rw [uH_at]; exact f8
        have u9 : (uH h2 10 7 (h2 10 8)) 10 9 = h 10 9 := by rw [uH_ne (by omega)]; exact fa 10 9 (by omega)
        have uo : ∀ a q, 30 ≤ a ∨ a = 5 → (uH h2 10 7 (h2 10 8)) a q = h a q := fun a q hq => by rw [uH_ne (by omega)]; exact fa a q (by omega)
        have uS : ∀ j, j < nH → (uH h2 10 7 (h2 10 8)) (10 + 1) j = (S j : Int) := fun j hj => by rw [uH_ne (by omega)]; exact (fa _ _ (by omega)).trans (c1 j hj)
        have uP : ∀ p, p < nP → (uH h2 10 7 (h2 10 8)) (10 + 3) p = pE (lastL (Vw V (h 10 10)) 3 0) S O P p := fun p hp => by
          rw [uH_ne (by omega), fP p hp, if_pos (by omega)]
        have uO : ∀ p, (uH h2 10 7 (h2 10 8)) (10 + 2) p = h (10 + 2) p := fun p => by rw [uH_ne (by omega)]; exact fa _ _ (by omega)
        obtain ⟨h3, e3⟩ := hW3
        rw [e3] at hWF3 u7 u9 uo uS uP uO ⊢
        cases hb : lotB lots nH lo with
        | false =>
          refine XW_t4 [89] 60 okLa_endRound ?_
          exact hK _ hWF3 u7 u9 uo ⟨uS, fun p hp => by rw [uO, hb]; exact c2 p hp, uP⟩
        | true =>
          refine XW_t4 [89] 60 okLa_endRound ?_
          exact loopB nP 0 _ _ _ hb (by omega) hWF3 u7 u9 uo uS uP (fun p hp => by rw [if_neg (by omega)]; exact uO p)
      obtain ⟨h3, rfl⟩ := id hW2
      refine XW_t4 [11, 83] 60 okLa_endRound ?_
      refine ite_f (show ¬ (k : Int) < wr h3 1 5 by rw [f5]; omega) ?_
      exact key
    | succ m ih =>
      intro k h2 x4 hk fa fP
      have f5 : h2 1 5 = (nP : Int) := (fa 1 5 (by omega)).trans e5
      have hWF : WF 10 nH nP h al h2 al := ⟨fun a q e1 e2 e3 e4 e5 => fa a q e4, fun _ _ => rfl⟩
      have hW2 := hWF.wd (by decide) hW
      have fO := (c2 k (by omega)).1 (by omega)
      rw [← fa (10 + 2) k (by omega)] at fO
      have fPk : h2 (10 + 3) k = P k := by rw [fP k (by omega), if_neg (by omega)]
      have fS : ∀ j, j < nH → h2 (10 + 1) j = (S j : Int) := fun j hj => (fa _ _ (by omega)).trans (c1 j hj)
      obtain ⟨h3, rfl⟩ := id hW2
      refine XW_t4 [11] 60 okLa_endRound ?_
      refine ite_t (show (k : Int) < wr h3 1 5 by rw [f5]; omega) ?_
      rcases fO with ⟨a1, a2⟩ | ⟨a1, a2⟩
      · refine c_atE rfl rfl (by show k < 6; omega) a2 ?_
        have := ih (k + 1) (wr h3) (some (xi (-5))) (by omega) fa (fun p hp => by
          rw [fP p hp]
          by_cases e : p = k
          · rw [if_neg (by omega), if_pos (by omega)]
            unfold pE
            rw [if_pos (by rw [e]; omega)]
          · by_cases e2 : p < k
            · rw [if_pos e2, if_pos (by omega)]
            · rw [if_neg e2, if_neg (by omega)])
        rw [← nS k (by omega)] at this
        exact this
      · refine c_atE rfl rfl (by show k < 6; omega) a2 ?_
        refine ite_f (show ¬ O k = -5 by omega) ?_
        have hOk := hO k (by omega)
        refine c_atE rfl rfl (by show k < 6; omega) fPk ?_
        refine c_atE (j := (O k).toNat) rfl (by omega) (by show (O k).toNat < 6; omega) (fS _ (by omega)) ?_
        refine c_putE rfl rfl (by show k < 6; omega) ?_
        have := ih (k + 1) (uH (wr h3) (10 + 3) k (wI (P k + wI (lastL (Vw V (h 10 10)) 3 0 * (S (O k).toNat : Int))))) (some (xi (O k))) (by omega) (fun a q hq => by rw [uH_ne (by omega)]; exact fa a q hq) (fun p hp => by
          rw [uH_r]
          by_cases e : p = k
          · rw [if_pos e, if_pos (by omega), e]
            unfold pE
            rw [if_neg (by omega)]
          · rw [if_neg e, fP p hp]
            by_cases e2 : p < k
            · rw [if_pos e2, if_pos (by omega)]
            · rw [if_neg e2, if_neg (by omega)])
        rw [← nS k (by omega)] at this
        exact this
  obtain ⟨h0, rfl⟩ := id hW
  refine cof ocLa_endRound rfl (XW_t4 [11] 60 okLa_endRound ?_)
  refine c_valleyOf_n hW ?_
  refine cond_i (by rw [v0]; rfl) ⟨_, hvc.2.1, ?_⟩
  exact loopA nP 0 _ none (by omega) (fun _ _ _ => rfl) (fun p hp => by rw [if_neg (by omega)]; exact c3 p hp)
theorem c_lotIsWhole_a {nH lots : Nat} {lo : Nat → Nat} (hW : Wd h) (h6 : h 1 6 = (nH : Int)) (hH : nH ≤ 6) (h5 : h 20 5 = (lots : Int)) (hL : lots ≤ 6) (hlo : ∀ q, q < lots → h (20 + 4) q = (lo q : Int)) (hd : ∀ p q, p < lots → q < lots → lo p = lo q → p = q)
    (hK : K (some (xi (if lotB lots nH lo = true then 1 else 0))) h al) : Call g (d + 2) yLa_lotIsWhole [xr 1, xr 20] h al K := by
  have hno : lotB lots nH lo = false → K (some (xi 0)) h al := fun e => by
    rw [e] at hK
    exact hK
  have loop : ∀ m k : Nat, k + m = nH → lots = nH → (∀ q, q < k → ∃ p, p < lots ∧ lo p = q) → XW g (d + 1) mLa_lotIsWhole K 15 [some (xr 1), some (xr 20), some (xi (k : Int))] [] h al := by
    intro m
    induction m with
    | zero =>
      intro k hk hL2 hq
      obtain ⟨h0, rfl⟩ := id hW
      refine XW_t4 [15] 40 okLa_lotIsWhole ?_
      refine ite_f (show ¬ (k : Int) < wr h0 1 6 by rw [h6]; omega) ?_
      have e : lotB lots nH lo = true := lotB_i hL2 (by
        intro q hq2
        have := pig2 (n := nH) (f := lo) (fun r hr => by
          obtain ⟨p, p1, p2⟩ := hq r (by omega)
          exact ⟨p, by omega, p2⟩) q (by omega)
        exact this)
      rw [e] at hK
      exact ⟨Or.inr rfl, hK⟩
    | succ m ih =>
      intro k hk hL2 hq
      have hW2 := hW
      obtain ⟨h0, rfl⟩ := id hW
      refine XW_t4 [15] 40 okLa_lotIsWhole ?_
      refine ite_t (show (k : Int) < wr h0 1 6 by rw [h6]; omega) ?_
      refine c_inLot_a hW2 (by rw [h5]; omega) (fun hy => ?_) (fun hn => ?_)
      · obtain ⟨p, hp, hp2, hp3⟩ := hy
        have := ih (k + 1) (by omega) hL2 fun q hq2 => by
          by_cases e : q = k
          · have := hlo p (by omega)
            rw [show wr h0 (20 + 4) p = (k : Int) from hp3] at this
            exact ⟨p, by omega, by omega⟩
          · exact hq q (by omega)
        rw [← nS k (by omega)] at this
        exact this
      · refine ⟨Or.inl rfl, hno ?_⟩
        cases e : lotB lots nH lo with
        | false => rfl
        | true =>
          obtain ⟨a1, a2⟩ := lotB_lt e
          obtain ⟨q, q1, q2⟩ := pig nH lo (fun q hq => a2 q (by omega)) (fun p q hp hq => hd p q (by omega) (by omega)) k (by omega)
          have := hn q (by omega) (by omega)
          exact absurd (show wr h0 (20 + 4) q = (k : Int) by rw [hlo q (by omega), q2]) this
  have hW2 := hW
  obtain ⟨h0, rfl⟩ := id hW
  refine cof ocLa_lotIsWhole rfl (XW_t4 [15] 40 okLa_lotIsWhole ?_)
  refine ite_i (fun q => ?_) (fun q => ?_)
  · have q : wr h0 20 5 = wr h0 1 6 := q
    exact loop nH 0 (by omega) (by omega) (fun q hq => absurd hq (by omega))
  · have q : ¬ wr h0 20 5 = wr h0 1 6 := q
    refine ⟨Or.inl rfl, hno ?_⟩
    unfold lotB
    rw [decide_eq_false (by omega)]
    rfl
set_option maxRecDepth 8000 in
theorem c_endRound_a {V : Nat → List Cl} {nV : Int} {nH nP lots rd : Nat} {lo : Nat → Nat} {S : Nat → Nat} {O P : Nat → Int} (hW : Wd h) (hC : CVs h V nV) (h5' : nV ≤ 5) (hv : -1 ≤ h 20 10 ∧ h 20 10 < nV) (hcw : CWd 20 h nH nP S O P) (hO : ∀ p, p < nP → O p = -1 ∨ (0 ≤ O p ∧ O p < (nH : Int))) (e5 : h 1 5 = (nP : Int)) (hnP : nP ≤ 6) (h6 : h 1 6 = (nH : Int)) (hH : nH ≤ 6) (h5 : h 20 5 = (lots : Int)) (hL : lots ≤ 6) (hlo : ∀ q, q < lots → h (20 + 4) q = (lo q : Int)) (hd : ∀ p q, p < lots → q < lots → lo p = lo q → p = q) (h8 : h 20 8 = (rd : Int))
    (hK : ∀ h2 : HH, WF 20 nH nP h al h2 al → h2 20 7 = (rd : Int) → h2 20 9 = h 20 9 → (∀ a q, 30 ≤ a ∨ a = 5 → h2 a q = h a q) → CWd 20 h2 nH nP S (if lotB lots nH lo = true then oE lots lo else O) (pE (lastL (Vw V (h 20 10)) 3 0) S O P) → K none h2 al) :
    Call g (d + 3) yLa_endRound [xr 1, xr 20] h al K := by
  obtain ⟨c1, c2, c3⟩ := id hcw
  have hvv : VN (vnm (h 20 10)) := vnm_VN _
  obtain ⟨v0, -⟩ := hvv.k
  have hvc := hC.at hv h5'
  -- who has what anew
  have loopB : ∀ (m k : Nat) (h2 : HH) (x2 : Int) (x4 : Option XV), lotB lots nH lo = true → k + m = nP → WF 20 nH nP h al h2 al → h2 20 7 = (rd : Int) → h2 20 9 = h 20 9 → (∀ a q, 30 ≤ a ∨ a = 5 → h2 a q = h a q) → (∀ j, j < nH → h2 (20 + 1) j = (S j : Int)) → (∀ p, p < nP → h2 (20 + 3) p = pE (lastL (Vw V (h 20 10)) 3 0) S O P p) → (∀ p, p < 6 → h2 (20 + 2) p = if p < k then (if p < lots then (lo p : Int) else -5) else h (20 + 2) p) →
      XW g (d + 2) mLa_endRound K 89 [some (xr 1), some (xr 20), some (xi x2), some (xi (k : Int)), x4] [] h2 al := by
    intro m
    induction m with
    | zero =>
      intro k h2 x2 x4 hb hk hf f7 f9 fo fS fP fO
      have f5 : h2 1 5 = (nP : Int) := (hf.1 1 5 rfl (by omega) (by omega) (by omega) (by omega)).trans e5
      have hW2 := hf.wd (by decide) hW
      refine (?_ : XW g (d + 2) mLa_endRound K 89 [some (xr 1), some (xr 20), some (xi x2), some (xi (k : Int)), x4] [] h2 al)
      have done := hK h2 hf f7 f9 fo ⟨fS, fun p hp => ?_, fP⟩
      · obtain ⟨h3, rfl⟩ := id hW2
        refine XW_t4 [89] 60 okLa_endRound ?_
        refine ite_f (show ¬ (k : Int) < wr h3 1 5 by rw [f5]; omega) ?_
        exact done
      · rw [fO p hp, if_pos hb]
        unfold oE
        refine ⟨fun q => ?_, fun q => ?_⟩
        · rw [if_pos (show p < k by omega)]
          by_cases q2 : p < lots
          · rw [if_pos q2, if_pos q2]
            exact Or.inr ⟨by omega, rfl⟩
          · rw [if_neg q2, if_neg q2]
            exact Or.inl ⟨rfl, rfl⟩
        · rw [if_neg (show ¬ p < k by omega)]
          exact (c2 p hp).2 q
    | succ m ih =>
      intro k h2 x2 x4 hb hk hf f7 f9 fo fS fP fO
      have f5 : h2 1 5 = (nP : Int) := (hf.1 1 5 rfl (by omega) (by omega) (by omega) (by omega)).trans e5
      have g5 : h2 20 5 = (lots : Int) := (hf.1 20 5 rfl (by omega) (by omega) (by omega) (by omega)).trans h5
      have glo : ∀ q, q < lots → h2 (20 + 4) q = (lo q : Int) := fun q hq => (hf.1 (20 + 4) q rfl (by omega) (by omega) (by omega) (by omega)).trans (hlo q hq)
      have hW2 := hf.wd (by decide) hW
      obtain ⟨h3, rfl⟩ := id hW2
      have go : ∀ z : Int, z = (if k < lots then (lo k : Int) else -5) → XW g (d + 2) mLa_endRound K 89 [some (xr 1), some (xr 20), some (xi x2), some (xi ((k + 1 : Nat) : Int)), x4] [] (uH (wr h3) (20 + 2) k z) al := fun z hz => by
        refine ih (k + 1) _ x2 x4 hb (by omega) (hf.up (by omega)) ?_ ?_ (fun a q hq => ?_) (fun j hj => ?_) (fun p hp => ?_) (fun p hp => ?_)
        · rw [uH_ne (by omega)]; exact f7
        · rw [uH_ne (by omega)]; exact f9
        · rw [uH_ne (by omega)]; exact fo a q hq
        · rw [uH_ne (by omega)]; exact fS j hj
        · rw [uH_ne (by omega)]; exact fP p hp
        · rw [uH_r]
          by_cases e : p = k
          · rw [if_pos e, if_pos (by omega), hz, e]
          · rw [if_neg e, fO p hp]
            by_cases e2 : p < k
            · rw [if_pos e2, if_pos (show p < k + 1 by omega)]
            · rw [if_neg e2, if_neg (show ¬ p < k + 1 by omega)]
      rw [← nS k (by omega)] at go
      refine XW_t4 [89] 60 okLa_endRound ?_
      refine ite_t (show (k : Int) < wr h3 1 5 by rw [f5]; omega) ?_
      refine ite_i (fun q => ?_) (fun q => ?_)
      · have q : (k : Int) < wr h3 20 5 := q
        have q2 : k < lots := by rw [g5] at q; omega
        refine c_atE rfl rfl (by show k < 6; omega) (glo k q2) ?_
        refine c_putE rfl rfl (by show k < 6; omega) ?_
        have t := go (lo k : Int) (by rw [if_pos q2])
        exact t
      · have q : ¬ (k : Int) < wr h3 20 5 := q
        have q2 : ¬ k < lots := by rw [g5] at q; omega
        refine c_putE rfl rfl (by show k < 6; omega) ?_
        have t := go (-5) (by rw [if_neg q2])
        exact t
  -- what is paid
  have loopA : ∀ (m k : Nat) (h2 : HH) (x4 : Option XV), k + m = nP → (∀ a q, ¬ (a = 20 + 3 ∧ q < nP) → h2 a q = h a q) → (∀ p, p < nP → h2 (20 + 3) p = if p < k then pE (lastL (Vw V (h 20 10)) 3 0) S O P p else P p) →
      XW g (d + 2) mLa_endRound K 11 [some (xr 1), some (xr 20), some (xi (lastL (Vw V (h 20 10)) 3 0)), some (xi (k : Int)), x4] [] h2 al := by
    intro m
    induction m with
    | zero =>
      intro k h2 x4 hk fa fP
      have f5 : h2 1 5 = (nP : Int) := (fa 1 5 (by omega)).trans e5
      have f8 : h2 20 8 = (rd : Int) := (fa 20 8 (by omega)).trans h8
      have f6 : h2 1 6 = (nH : Int) := (fa 1 6 (by omega)).trans h6
      have g5 : h2 20 5 = (lots : Int) := (fa 20 5 (by omega)).trans h5
      have glo : ∀ q, q < lots → h2 (20 + 4) q = (lo q : Int) := fun q hq => (fa (20 + 4) q (by omega)).trans (hlo q hq)
      have hWF : WF 20 nH nP h al h2 al := ⟨fun a q e1 e2 e3 e4 e5 => fa a q e4, fun _ _ => rfl⟩
      have hW2 := hWF.wd (by decide) hW
      have hWF3 : WF 20 nH nP h al (uH h2 20 7 (h2 20 8)) al := hWF.up (by omega)
      have hW3 := hWF3.wd (by decide) hW
      have key : Call g (d + 2) yLa_lotIsWhole [xr 1, xr 20] (uH h2 20 7 (h2 20 8)) al fun r h3 al3 => XW g (d + 2) mLa_endRound K 83 [some (xr 1), some (xr 20), some (xi (lastL (Vw V (h 20 10)) 3 0)), some (xi (k : Int)), x4] (r.toList ++ []) h3 al3 := by
        refine c_lotIsWhole_a hW3 (by rw [uH_ne (by omega)]; exact f6) hH (by rw [uH_ne (by omega)]; exact g5) hL (fun q hq => by rw [uH_ne (by omega)]; exact glo q hq) hd ?_
        have u7 : (uH h2 20 7 (h2 20 8)) 20 7 = (rd : Int) := by rw [uH_at]; exact f8
        have u9 : (uH h2 20 7 (h2 20 8)) 20 9 = h 20 9 := by rw [uH_ne (by omega)]; exact fa 20 9 (by omega)
        have uo : ∀ a q, 30 ≤ a ∨ a = 5 → (uH h2 20 7 (h2 20 8)) a q = h a q := fun a q hq => by rw [uH_ne (by omega)]; exact fa a q (by omega)
        have uS : ∀ j, j < nH → (uH h2 20 7 (h2 20 8)) (20 + 1) j = (S j : Int) := fun j hj => by rw [uH_ne (by omega)]; exact (fa _ _ (by omega)).trans (c1 j hj)
        have uP : ∀ p, p < nP → (uH h2 20 7 (h2 20 8)) (20 + 3) p = pE (lastL (Vw V (h 20 10)) 3 0) S O P p := fun p hp => by
          rw [uH_ne (by omega), fP p hp, if_pos (by omega)]
        have uO : ∀ p, (uH h2 20 7 (h2 20 8)) (20 + 2) p = h (20 + 2) p := fun p => by rw [uH_ne (by omega)]; exact fa _ _ (by omega)
        obtain ⟨h3, e3⟩ := hW3
        rw [e3] at hWF3 u7 u9 uo uS uP uO ⊢
        cases hb : lotB lots nH lo with
        | false =>
          refine XW_t4 [89] 60 okLa_endRound ?_
          exact hK _ hWF3 u7 u9 uo ⟨uS, fun p hp => by rw [uO, hb]; exact c2 p hp, uP⟩
        | true =>
          refine XW_t4 [89] 60 okLa_endRound ?_
          exact loopB nP 0 _ _ _ hb (by omega) hWF3 u7 u9 uo uS uP (fun p hp => by rw [if_neg (by omega)]; exact uO p)
      obtain ⟨h3, rfl⟩ := id hW2
      refine XW_t4 [11, 83] 60 okLa_endRound ?_
      refine ite_f (show ¬ (k : Int) < wr h3 1 5 by rw [f5]; omega) ?_
      exact key
    | succ m ih =>
      intro k h2 x4 hk fa fP
      have f5 : h2 1 5 = (nP : Int) := (fa 1 5 (by omega)).trans e5
      have hWF : WF 20 nH nP h al h2 al := ⟨fun a q e1 e2 e3 e4 e5 => fa a q e4, fun _ _ => rfl⟩
      have hW2 := hWF.wd (by decide) hW
      have fO := (c2 k (by omega)).1 (by omega)
      rw [← fa (20 + 2) k (by omega)] at fO
      have fPk : h2 (20 + 3) k = P k := by rw [fP k (by omega), if_neg (by omega)]
      have fS : ∀ j, j < nH → h2 (20 + 1) j = (S j : Int) := fun j hj => (fa _ _ (by omega)).trans (c1 j hj)
      obtain ⟨h3, rfl⟩ := id hW2
      refine XW_t4 [11] 60 okLa_endRound ?_
      refine ite_t (show (k : Int) < wr h3 1 5 by rw [f5]; omega) ?_
      rcases fO with ⟨a1, a2⟩ | ⟨a1, a2⟩
      · refine c_atE rfl rfl (by show k < 6; omega) a2 ?_
        have := ih (k + 1) (wr h3) (some (xi (-5))) (by omega) fa (fun p hp => by
          rw [fP p hp]
          by_cases e : p = k
          · rw [if_neg (by omega), if_pos (by omega)]
            unfold pE
            rw [if_pos (by rw [e]; omega)]
          · by_cases e2 : p < k
            · rw [if_pos e2, if_pos (by omega)]
            · rw [if_neg e2, if_neg (by omega)])
        rw [← nS k (by omega)] at this
        exact this
      · refine c_atE rfl rfl (by show k < 6; omega) a2 ?_
        refine ite_f (show ¬ O k = -5 by omega) ?_
        have hOk := hO k (by omega)
        refine c_atE rfl rfl (by show k < 6; omega) fPk ?_
        refine c_atE (j := (O k).toNat) rfl (by omega) (by show (O k).toNat < 6; omega) (fS _ (by omega)) ?_
        refine c_putE rfl rfl (by show k < 6; omega) ?_
        have := ih (k + 1) (uH (wr h3) (20 + 3) k (wI (P k + wI (lastL (Vw V (h 20 10)) 3 0 * (S (O k).toNat : Int))))) (some (xi (O k))) (by omega) (fun a q hq => by rw [uH_ne (by omega)]; exact fa a q hq) (fun p hp => by
          rw [uH_r]
          by_cases e : p = k
          · rw [if_pos e, if_pos (by omega), e]
            unfold pE
            rw [if_neg (by omega)]
          · rw [if_neg e, fP p hp]
            by_cases e2 : p < k
            · rw [if_pos e2, if_pos (by omega)]
            · rw [if_neg e2, if_neg (by omega)])
        rw [← nS k (by omega)] at this
        exact this
  obtain ⟨h0, rfl⟩ := id hW
  refine cof ocLa_endRound rfl (XW_t4 [11] 60 okLa_endRound ?_)
  refine c_valleyOf_a hW ?_
  refine cond_i (by rw [v0]; rfl) ⟨_, hvc.2.1, ?_⟩
  exact loopA nP 0 _ none (by omega) (fun _ _ _ => rfl) (fun p hp => by rw [if_neg (by omega)]; exact c3 p hp)
end ER
