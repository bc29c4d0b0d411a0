-- a year of the reference, and years
section MG
variable {g : GC} {d : Nat} {h : HH} {al : AL} {K : KT}
set_option maxRecDepth 8000 in
theorem c_goYear {V : List Cl} {pay : Int} {tk tv : Nat → Int} {st : Nat → Nat → Int} {nH nP rd lots : Nat} {lo : Nat → Nat} {Z : YZ} (hW : Wd h) (hB : MB h V pay tk tv st nP) (hM : MC h V (fun p => epr (tk p) (tv p) pay) 36) (hpay : pay = lastL V 3 0) (hQ : YQ h nH nP rd lots lo) (hL : lots ≤ 6) (hd : ∀ p q, p < lots → q < lots → lo p = lo q → p = q) (hlo6 : ∀ q, q < lots → lo q < 6) (hnH : nH ≤ 6) (hw : MWd h nH nP Z.2.1 Z.2.2.1 Z.2.2.2.1) (h36 : h 120 36 = (Z.1 : Int)) (h50 : h 120 50 = Z.2.2.2.2) (hZ : gdZ nH nP Z)
    (hK : ∀ h2 : HH, YF h h2 → MC h2 V (fun p => epr (tk p) (tv p) pay) 36 → MWd h2 nH nP (yN V tk tv st nP nH rd lots lo Z).2.1 (yN V tk tv st nP nH rd lots lo Z).2.2.1 (yN V tk tv st nP nH rd lots lo Z).2.2.2.1 → h2 120 36 = ((yN V tk tv st nP nH rd lots lo Z).1 : Int) → h2 120 50 = (yN V tk tv st nP nH rd lots lo Z).2.2.2.2 → K none h2 al) : Call g (d + 6) yMo_goYear [xr 120] h al K := by
  obtain ⟨l, S, O, P, G⟩ := Z
  obtain ⟨⟨hl, hS, hO, hI, hP⟩, hG⟩ := id hZ
  simp only at hl hS hO hI hP hG hw h36 h50
  have hnP := hB.1.1
  obtain ⟨q0, hz⟩ := hB.1.2
  have hgdV := hz.2.1
  obtain ⟨w1, w2⟩ := id hw
  have hmY : ∀ p, p < nP → 0 ≤ O p → S (O p).toNat + mY V tk tv st l S O P p < 10 := fun p hp h0 => by
    have := hO p hp
    exact stS_le (hS _ (by omega)) (hB.2.2 p hp).2.1.2.2
  -- the end
  have last : ∀ (h2 : HH) (x1 x2 x3 x4 x5 : Option XV), YF h h2 → MC h2 V (fun p => epr (tk p) (tv p) pay) 36 → MWd h2 nH nP (sY V tk tv st nP l S O P) O (pY V tk tv st l S O P) → h2 120 36 = (l : Int) → h2 120 50 = gnY V tk tv st nP l S O P G nH → XW g (d + 5) mMo_goYear K 212 [some (xr 120), x1, x2, x3, x4, x5] [] h2 al := by
    intro h2 x1 x2 x3 x4 x5 hf hM2 hw2 f36 f50
    have e1 : ∀ _ : Unit, wI ((l : Int) - 1) = ((l - 1 : Nat) : Int) := fun _ => by rw [wI_id (by omega)]; omega
    have key : XW g (d + 5) mMo_goYear K 222 [some (xr 120), x1, x2, x3, x4, x5] [] (uH h2 120 36 ((l - 1 : Nat) : Int)) al := by
      have hf3 : YF h (uH h2 120 36 ((l - 1 : Nat) : Int)) := hf.up (Or.inr ⟨rfl, Or.inl rfl⟩)
      have hM3 : MC (uH h2 120 36 ((l - 1 : Nat) : Int)) V (fun p => epr (tk p) (tv p) pay) 36 := hM2.up (by omega)
      have hw3 : MWd (uH h2 120 36 ((l - 1 : Nat) : Int)) nH nP (sY V tk tv st nP l S O P) O (pY V tk tv st l S O P) := by
        refine ⟨fun j hj => ?_, fun p hp => ?_⟩
        · rw [uH_ne (by omega), uH_ne (by omega)]; exact hw2.1 j hj
        · rw [uH_ne (by omega), uH_ne (by omega)]; exact hw2.2 p hp
      have g36 : (uH h2 120 36 ((l - 1 : Nat) : Int)) 120 36 = ((l - 1 : Nat) : Int) := uH_at
      have g50 : (uH h2 120 36 ((l - 1 : Nat) : Int)) 120 50 = gnY V tk tv st nP l S O P G nH := by rw [uH_ne (by omega)]; exact f50
      generalize uH h2 120 36 ((l - 1 : Nat) : Int) = h3 at hf3 hM3 hw3 g36 g50 ⊢
      have hW3 := hf3.wd hW
      have hk := hK h3 hf3 hM3
      unfold yN at hk
      by_cases q : 2 ≤ l
      · simp only [if_pos q] at hk
        have := hk hw3 g36 g50
        obtain ⟨h4, rfl⟩ := id hW3
        refine XW_t4 [] 60 okMo_goYear ?_
        refine ite_t (show 0 < wr h4 120 36 by rw [g36]; omega) ?_
        exact this
      · have hQ3 := hQ.yf hf3
        have hB3 := hf3.mb hB
        obtain ⟨h4, rfl⟩ := id hW3
        refine XW_t4 [] 60 okMo_goYear ?_
        refine ite_f (show ¬ 0 < wr h4 120 36 by rw [g36]; omega) ?_
        refine c_draw (pay := pay) hW3 hQ3 hL hd hnP hnH hw3 hB3.2.1 hO (fun p hp => pY_ok (hP p hp)) hlo6 fun h5 fa hw5 => ?_
        have hf5 : YF (wr h4) h5 := fun a k _ e2 _ => fa a k (by omega)
        have hf6 := hf3.trans hf5
        have hQ5 := hQ.yf hf6
        have hM5 : MC h5 V (fun p => epr (tk p) (tv p) pay) 36 := hM3.ot fun a k e1 _ => fa a k (by omega)
        have f50' : h5 120 50 = gnY V tk tv st nP l S O P G nH := (fa 120 50 (by omega)).trans g50
        have hk := hK (uH h5 120 36 (h5 120 35)) (hf6.up (Or.inr ⟨rfl, Or.inl rfl⟩)) (hM5.up (by omega))
        unfold yN at hk
        simp only [if_neg q] at hk
        have := hk ⟨fun j hj => by rw [uH_ne (by omega), uH_ne (by omega)]; exact hw5.1 j hj, fun p hp => by rw [uH_ne (by omega), uH_ne (by omega), ← hpay]; exact hw5.2 p hp⟩ (by rw [uH_at]; exact hQ5.2.2.2.1) (by rw [uH_ne (by omega)]; exact f50')
        obtain ⟨h6, rfl⟩ := hf6.wd hW
        exact this
    rw [← e1 (), ← f36] at key
    obtain ⟨h3, rfl⟩ := hf.wd hW
    refine XW_t4 [222] 60 okMo_goYear ?_
    exact key
  -- the holdings
  have loopB : ∀ (m j : Nat) (h2 : HH) (x2 x3 x4 x5 : Option XV), j + m = nH → YF h h2 → MC h2 V (fun p => epr (tk p) (tv p) pay) 36 → (∀ q, q < nH → h2 142 q = ((if q < j then sY V tk tv st nP l S O P q else S q : Nat) : Int) ∧ h2 143 q = ow O nP q) → (∀ p, p < nP → h2 144 p = O p ∧ h2 145 p = (if 0 ≤ O p ∧ O p < (j : Int) then pY V tk tv st l S O P p else P p)) → (∀ p, p < nP → 0 ≤ O p → h2 153 p = (mY V tk tv st l S O P p : Int)) → h2 120 36 = (l : Int) → h2 120 50 = gnY V tk tv st nP l S O P G j →
      XW g (d + 5) mMo_goYear K 69 [some (xr 120), some (xi (j : Int)), x2, x3, x4, x5] [] h2 al := by
    intro m
    induction m with
    | zero =>
      intro j h2 x2 x3 x4 x5 hj hf hM2 fS fP fm f36 f50
      have hQ2 := hQ.yf hf
      have e : j = nH := by omega
      subst e
      have done := last h2 (some (xi (j : Int))) x2 x3 x4 x5 hf hM2 ⟨fun q hq => by have := fS q hq; rw [if_pos hq] at this; exact this, fun p hp => by
        refine ⟨(fP p hp).1, ?_⟩
        rw [(fP p hp).2]
        rcases hO p hp with q | q
        · rw [if_neg (by omega)]
          unfold pY
          rw [if_pos (by omega)]
        · rw [if_pos q]⟩ f36 f50
      obtain ⟨h3, rfl⟩ := hf.wd hW
      refine XW_t4 [69, 212] 60 okMo_goYear ?_
      refine ite_f (show ¬ (j : Int) < wr h3 120 0 by rw [hQ2.2.1]; omega) ?_
      exact done
    | succ m ih =>
      intro j h2 x2 x3 x4 x5 hj hf hM2 fS fP fm f36 f50
      have hQ2 := hQ.yf hf
      have hB2 := hf.mb hB
      have hW2 := hf.wd hW
      have hj6 : j < 6 := by omega
      have f142 : h2 142 j = (S j : Int) := by rw [(fS j (by omega)).1, if_neg (by omega)]
      have f143 : h2 143 j = ow O nP j := (fS j (by omega)).2
      have hSj := hS j (by omega)
      rcases ow_c O (j : Int) nP with ⟨a1, a2⟩ | ⟨p, a1, a2, a3⟩
      · -- nobody's
        have esY : sY V tk tv st nP l S O P j = fal (S j) (tbl V (j : Int) 99 0 l (S j)) := by
          unfold sY
          rw [if_pos (by omega)]
          rfl
        have next : ∀ (h3 : HH) (x2 x3 : Option XV), MF h2 h3 → MC h3 V (fun p => epr (tk p) (tv p) pay) 36 → XW g (d + 5) mMo_goYear K 69 [some (xr 120), some (xi (wI ((j : Int) + 1))), x2, x3, x4, x5] [] (uH h3 142 j (fal (S j) (tbl V (j : Int) 99 0 l (S j)) : Int)) al := fun h3 x2 x3 hm hM3 => by
          rw [nS j (by omega)]
          have ff : ∀ a k, (142 ≤ a ∧ a ≤ 145) ∨ a = 153 ∨ a = 120 → h3 a k = h2 a k := fun a k e => hm a k (by omega) (by omega)
          refine ih (j + 1) _ x2 x3 x4 x5 (by omega) ((hf.trans hm.yf).up (by omega)) (hM3.up (by omega)) (fun q hq => ?_) (fun p hp => ?_) (fun p hp h0 => ?_) ?_ ?_
          · rw [uH_r, uH_ne (by omega), ff 143 q (by omega)]
            refine ⟨?_, (fS q hq).2⟩
            by_cases e : q = j
            · rw [if_pos e, if_pos (by omega), e, esY]
            · rw [if_neg e, ff 142 q (by omega), (fS q hq).1]
              by_cases e2 : q < j
              · rw [if_pos e2, if_pos (by omega)]
              · rw [if_neg e2, if_neg (by omega)]
          · rw [uH_ne (by omega), uH_ne (by omega), ff 144 p (by omega), ff 145 p (by omega)]
            refine ⟨(fP p hp).1, ?_⟩
            rw [(fP p hp).2]
            have := a2 p hp
            by_cases e2 : 0 ≤ O p ∧ O p < (j : Int)
            · rw [if_pos e2, if_pos (by omega)]
            · rw [if_neg e2, if_neg (by omega)]
          · rw [uH_ne (by omega), ff 153 p (by omega)]
            exact fm p hp h0
          · rw [uH_ne (by omega), ff 120 36 (by omega)]
            exact f36
          · rw [uH_ne (by omega), ff 120 50 (by omega), f50]
            show _ = wI (_ + if ow O nP j < 0 then 0 else _)
            rw [if_pos (by omega)]
            exact (wI_0 (gnY_ok hG j)).symm
        rw [a1] at f143
        obtain ⟨h3, rfl⟩ := id hW2
        refine XW_t4 [69] 100 okMo_goYear ?_
        refine ite_t (show (j : Int) < wr h3 120 0 by rw [hQ2.2.1]; omega) ?_
        refine ⟨j, rfl, by show j < 6; exact hj6, _, f143, ?_⟩
        refine ⟨j, rfl, by show j < 6; exact hj6, _, f142, ?_⟩
        obtain ⟨q1, hz1⟩ := hB2.1.2
        have callS : ∀ lf : Int, lf = (l : Int) → ∀ K2 : KT, (∀ W : Nat → Int, K2 (some (xi (tbl V (j : Int) 99 0 l (S j)))) (rowU (wr h3) 139 W) al) → Call g (d + 5) yMo_sumOf [xr 120, xi ((0 : Nat) : Int), xi (S j : Int), xi lf, xi (j : Int), xi 99] (wr h3) al K2 := fun lf e K2 hk => by
          subst e
          exact c_sumOf (w := 0) hW2 hz1 (by decide) hk
        refine callS _ f36 _ fun W => ?_
        have hF := (fl_b (V := V) (w := 0) (s := (S j : Int)) (lf := (l : Int)) (i := (j : Int)) (p := 99) hgdV)
        refine c_fallen (t := S j) rfl (by omega) ⟨hF.1, hF.2.2 rfl⟩ ?_
        refine ⟨j, rfl, by show j < 6; exact hj6, ?_⟩
        exact next (rowU (wr h3) 139 W) _ _ (fun a k e1 _ => rowU_ne e1) (hM2.ot fun a k e1 e2 => rowU_ne (by omega))
      · -- somebody's
        have hp6 : p < 6 := by omega
        have eoj : (O p).toNat = j := by omega
        have h0p : 0 ≤ O p := by omega
        have f145 : h2 145 p = P p := by rw [(fP p a1).2, if_neg (by omega)]
        have f153 := fm p a1 h0p
        have hsm := hmY p a1 h0p
        rw [eoj] at hsm
        have esY : sY V tk tv st nP l S O P j = fal (S j + mY V tk tv st l S O P p) (tbl V (j : Int) (p : Int) 0 l (S j + mY V tk tv st l S O P p)) := by
          unfold sY
          rw [a2, if_neg (by omega)]
          rfl
        have egY : gY V tk tv st l S O P p = gnS (tbl V (j : Int) (p : Int)) l (S j) (mY V tk tv st l S O P p) := by
          unfold gY
          rw [eoj, a3]
        rw [a2] at f143
        generalize hmm : mY V tk tv st l S O P p = mm at hsm esY egY f153
        have next : ∀ (h3 : HH) (x2 x3 x4 x5 : Option XV) (z1 z2 z3 : Int), MF h2 h3 → MC h3 V (fun p => epr (tk p) (tv p) pay) 36 → z1 = wI (P p + gnS (tbl V (j : Int) (p : Int)) l (S j) mm) → z2 = wI (gnY V tk tv st nP l S O P G j + gnS (tbl V (j : Int) (p : Int)) l (S j) mm) → z3 = (fal (S j + mm) (tbl V (j : Int) (p : Int) 0 l (S j + mm)) : Int) → XW g (d + 5) mMo_goYear K 69 [some (xr 120), some (xi (wI ((j : Int) + 1))), x2, x3, x4, x5] [] (uH (uH (uH h3 145 p z1) 120 50 z2) 142 j z3) al := fun h3 x2 x3 x4 x5 z1 z2 z3 hm hM3 e1 e2 e3 => by
          rw [nS j (by omega)]
          have ff : ∀ a k, (142 ≤ a ∧ a ≤ 145) ∨ a = 153 ∨ a = 120 → h3 a k = h2 a k := fun a k e => hm a k (by omega) (by omega)
          refine ih (j + 1) _ x2 x3 x4 x5 (by omega) ((((hf.trans hm.yf).up (by omega)).up (by omega)).up (by omega)) (((hM3.up (by omega)).up (by omega)).up (by omega)) (fun q hq => ?_) (fun q hq => ?_) (fun q hq h0 => ?_) ?_ ?_
          · rw [uH_r, uH_ne (a := 143) (by omega), uH_ne (a := 143) (by omega), uH_ne (a := 143) (by omega), ff 143 q (by omega)]
            refine ⟨?_, (fS q hq).2⟩
            by_cases e : q = j
            · rw [if_pos e, if_pos (by omega), e, esY, e3]
            · rw [if_neg e, uH_ne (by omega), uH_ne (by omega), ff 142 q (by omega), (fS q hq).1]
              by_cases e2 : q < j
              · rw [if_pos e2, if_pos (by omega)]
              · rw [if_neg e2, if_neg (by omega)]
          · rw [uH_ne (a := 144) (by omega), uH_ne (a := 144) (by omega), uH_ne (a := 144) (by omega), ff 144 q (by omega)]
            refine ⟨(fP q hq).1, ?_⟩
            rw [uH_ne (by omega), uH_ne (by omega), uH_r]
            by_cases e : q = p
            · rw [if_pos e, if_pos (by rw [e]; omega), e1, e]
              unfold pY
              rw [if_neg (by omega), egY]
            · rw [if_neg e, ff 145 q (by omega), (fP q hq).2]
              have : O q ≠ (j : Int) := fun e4 => e (hI q p hq a1 (by omega) (e4.trans a3.symm))
              by_cases e2 : 0 ≤ O q ∧ O q < (j : Int)
              · rw [if_pos e2, if_pos (by omega)]
              · rw [if_neg e2, if_neg (by omega)]
          · rw [uH_ne (by omega), uH_ne (by omega), uH_ne (by omega), ff 153 q (by omega)]
            exact fm q hq h0
          · rw [uH_ne (by omega), uH_ne (by omega), uH_ne (by omega), ff 120 36 (by omega)]
            exact f36
          · rw [uH_ne (by omega), uH_at, e2]
            show _ = wI (_ + if ow O nP j < 0 then 0 else gY V tk tv st l S O P (ow O nP j).toNat)
            rw [a2, if_neg (by omega), show ((p : Int)).toNat = p from rfl, egY]
        obtain ⟨h3, rfl⟩ := id hW2
        refine XW_t4 [69] 140 okMo_goYear ?_
        refine ite_t (show (j : Int) < wr h3 120 0 by rw [hQ2.2.1]; omega) ?_
        refine ⟨j, rfl, by show j < 6; exact hj6, _, f143, ?_⟩
        refine ⟨j, rfl, by show j < 6; exact hj6, _, f142, ?_⟩
        refine ⟨p, rfl, by show p < 6; exact hp6, _, f153, ?_⟩
        refine c_layRaw hW2 hB2.1.2 hM2 hp6 hj6 rfl rfl fun h4 hm _ hr hM4 h1 hT => ?_
        have hmW := hm.wd hW2
        have g36 : h4 120 36 = (l : Int) := (hm 120 36 (by decide) (by decide)).trans f36
        have g145 : h4 145 p = P p := (hm 145 p (by decide) (by decide)).trans f145
        have g50 : h4 120 50 = gnY V tk tv st nP l S O P G j := (hm 120 50 (by decide) (by decide)).trans f50
        obtain ⟨h5, rfl⟩ := id hmW
        refine c_Mgain (l := l) (s := S j) (m := mm) hmW hT hp6 hj6 ⟨hl.1, by omega⟩ hsm rfl rfl g36 rfl rfl ?_
        refine ⟨p, rfl, by show p < 6; exact hp6, _, g145, ?_⟩
        refine ⟨p, rfl, by show p < 6; exact hp6, ?_⟩
        have esm : ∀ _ : Unit, wI ((S j : Int) + (mm : Int)) = ((S j + mm : Nat) : Int) := fun _ => by rw [wI_id (by omega)]; omega
        refine c_at0 (l := l) (s := S j + mm) hp6 hj6 (by omega) (by omega) rfl rfl g36 (esm ()) ?_
        refine ⟨a0 p j l (S j + mm), rfl, by show _ < 6840; exact a0_lt hp6 hj6 (by omega) hsm, _, ((hT 0 l (S j + mm) (by decide) hl.1 (by omega) hsm : wr h5 148 (a0 p j l (S j + mm)) = _)), ?_⟩
        refine c_fallen (t := S j + mm) (esm ()) (by omega) ⟨(tbl_ok hgdV 0 l (S j + mm)).1, (tbl_ok hgdV 0 l (S j + mm)).2.2⟩ ?_
        refine ⟨j, rfl, by show j < 6; exact hj6, ?_⟩
        exact next (wr h5) _ _ _ _ _ _ _ hm hM4 rfl (by rw [← g50]; rfl) rfl
  -- what is mended
  have loopA : ∀ (m p : Nat) (h2 : HH) (x2 x3 x4 x5 : Option XV), p + m = nP → (∀ a k, a ≠ 139 → (a < 146 ∨ 153 < a) → h2 a k = h a k) → MC h2 V (fun p => epr (tk p) (tv p) pay) 36 → (∀ q, q < p → 0 ≤ O q → h2 153 q = (mY V tk tv st l S O P q : Int)) →
      XW g (d + 5) mMo_goYear K 2 [some (xr 120), some (xi (p : Int)), x2, x3, x4, x5] [] h2 al := by
    intro m
    induction m with
    | zero =>
      intro p h2 x2 x3 x4 x5 hp fa hM2 fm
      have hf : YF h h2 := fun a k e1 e2 _ => fa a k e1 (by omega)
      have hQ2 := hQ.yf hf
      have ff : ∀ a k, (142 ≤ a ∧ a ≤ 145) ∨ a = 120 → h2 a k = h a k := fun a k e => fa a k (by omega) (by omega)
      have done := loopB nH 0 h2 x2 x3 x4 x5 (by omega) hf hM2 (fun q hq => by rw [if_neg (by omega), ff 142 q (by omega), ff 143 q (by omega)]; exact w1 q hq) (fun q hq => by rw [if_neg (by omega), ff 144 q (by omega), ff 145 q (by omega)]; exact w2 q hq) (fun q hq h0 => fm q (by omega) h0) ((ff 120 36 (by omega)).trans h36) ((ff 120 50 (by omega)).trans h50)
      obtain ⟨h3, rfl⟩ := hf.wd hW
      refine XW_t4 [2, 69] 60 okMo_goYear ?_
      refine ite_f (show ¬ (p : Int) < wr h3 120 1 by rw [hQ2.1]; omega) ?_
      exact done
    | succ m ih =>
      intro p h2 x2 x3 x4 x5 hp fa hM2 fm
      have hf : YF h h2 := fun a k e1 e2 _ => fa a k e1 (by omega)
      have hQ2 := hQ.yf hf
      have hB2 := hf.mb hB
      have hW2 := hf.wd hW
      have ff : ∀ a k, (142 ≤ a ∧ a ≤ 145) ∨ a = 120 → h2 a k = h a k := fun a k e => fa a k (by omega) (by omega)
      have f144 : h2 144 p = O p := (ff 144 p (by omega)).trans (w2 p (by omega)).1
      have f145 : h2 145 p = P p := (ff 145 p (by omega)).trans (w2 p (by omega)).2
      have f36 : h2 120 36 = (l : Int) := (ff 120 36 (by omega)).trans h36
      have next : ∀ (h3 : HH) (z : Int), MF h2 h3 → MC h3 V (fun p => epr (tk p) (tv p) pay) 36 → (0 ≤ O p → z = (mY V tk tv st l S O P p : Int)) → XW g (d + 5) mMo_goYear K 2 [some (xr 120), some (xi (wI ((p : Int) + 1))), x2, x3, x4, x5] [] (uH h3 153 p z) al := fun h3 z hm hM3 hz => by
        rw [nS p (by omega)]
        refine ih (p + 1) _ x2 x3 x4 x5 (by omega) (fun a k e1 e2 => by rw [uH_ne (by omega)]; exact (hm a k e1 (by omega)).trans (fa a k e1 e2)) (hM3.up (by omega)) (fun q hq h0 => ?_)
        rw [uH_r]
        by_cases e : q = p
        · rw [if_pos e, e]
          exact hz (by rw [← e]; exact h0)
        · rw [if_neg e, hm 153 q (by decide) (by decide)]
          exact fm q (by omega) h0
      have hp6 : p < 6 := by omega
      have hOp := hO p (by omega)
      obtain ⟨h3, rfl⟩ := id hW2
      refine XW_t4 [2] 100 okMo_goYear ?_
      refine ite_t (show (p : Int) < wr h3 120 1 by rw [hQ2.1]; omega) ?_
      refine ⟨p, rfl, by show p < 6; exact hp6, _, f144, ?_⟩
      refine ite_i (fun q => ?_) (fun q => ?_)
      · have q : O p < 0 := q
        refine ⟨p, rfl, by show p < 6; exact hp6, ?_⟩
        exact next (wr h3) 0 MF.refl hM2 (fun h0 => by omega)
      · have q : ¬ O p < 0 := q
        have f142 : wr h3 142 (O p).toNat = (S (O p).toNat : Int) := (ff 142 _ (by omega)).trans (w1 _ (by omega)).1
        refine ⟨p, rfl, by show p < 6; exact hp6, _, f144, ?_⟩
        refine ⟨p, rfl, by show p < 6; exact hp6, _, f144, ?_⟩
        refine ⟨(O p).toNat, by omega, by show (O p).toNat < 6; omega, _, f142, ?_⟩
        refine ⟨p, rfl, by show p < 6; exact hp6, _, f145, ?_⟩
        refine c_mendsOf (p := p) (i := (O p).toNat) (l := l) (s := S (O p).toNat) hW2 hB2 hM2 (by omega) (by omega) hl (hS _ (by omega)) rfl (by omega) f36 rfl fun h4 hm hr hM4 => ?_
        refine ⟨p, rfl, by show p < 6; exact hp6, ?_⟩
        refine next h4 _ hm hM4 fun h0 => ?_
        unfold mY
        rw [← hpay, show (((O p).toNat : Nat) : Int) = O p by omega]
  refine cof ocMo_goYear rfl (XW_t4 [2] 60 okMo_goYear ?_)
  exact loopA nP 0 h none none none none (by omega) (fun _ _ _ _ => rfl) hM (fun q hq => absurd hq (by omega))
theorem c_goYears {V : List Cl} {pay : Int} {tk tv : Nat → Int} {st : Nat → Nat → Int} {nH nP rd lots l n : Nat} {lo : Nat → Nat} {S : Nat → Nat} {O P : Nat → Int} (hW : Wd h) (hB : MB h V pay tk tv st nP) (hM : MC h V (fun p => epr (tk p) (tv p) pay) 36) (hpay : pay = lastL V 3 0) (hQ : YQ h nH nP rd lots lo) (hL : lots ≤ 6) (hd : ∀ p q, p < lots → q < lots → lo p = lo q → p = q) (hlo6 : ∀ q, q < lots → lo q < 6) (hnH : nH ≤ 6) (hr : 1 ≤ rd ∧ rd ≤ 9) (hw : MWd h nH nP S O P) (h36 : h 120 36 = (l : Int)) (hg : gdW nH nP l S O P) (hn : n ≤ 100)
    (hK : ∀ h2 : HH, YF h h2 → MC h2 V (fun p => epr (tk p) (tv p) pay) 36 → MWd h2 nH nP (yNs V tk tv st nP nH rd lots lo (l, S, O, P, 0) n).2.1 (yNs V tk tv st nP nH rd lots lo (l, S, O, P, 0) n).2.2.1 (yNs V tk tv st nP nH rd lots lo (l, S, O, P, 0) n).2.2.2.1 → h2 120 36 = ((yNs V tk tv st nP nH rd lots lo (l, S, O, P, 0) n).1 : Int) → h2 120 50 = (yNs V tk tv st nP nH rd lots lo (l, S, O, P, 0) n).2.2.2.2 → K none h2 al) : Call g (d + 7) yMo_goYears [xr 120, xi (n : Int)] h al K := by
  have hv : ∀ p, p < nP → tv p ≤ 9 := fun p hp => (hB.2.2 p hp).2.1.2.2
  have loop : ∀ (m y : Nat) (h2 : HH), y + m = n → YF h h2 → MC h2 V (fun p => epr (tk p) (tv p) pay) 36 → MWd h2 nH nP (yNs V tk tv st nP nH rd lots lo (l, S, O, P, 0) y).2.1 (yNs V tk tv st nP nH rd lots lo (l, S, O, P, 0) y).2.2.1 (yNs V tk tv st nP nH rd lots lo (l, S, O, P, 0) y).2.2.2.1 → h2 120 36 = ((yNs V tk tv st nP nH rd lots lo (l, S, O, P, 0) y).1 : Int) → h2 120 50 = (yNs V tk tv st nP nH rd lots lo (l, S, O, P, 0) y).2.2.2.2 →
      XW g (d + 6) mMo_goYears K 7 [some (xr 120), some (xi (n : Int)), some (xi (y : Int))] [] h2 al := by
    intro m
    induction m with
    | zero =>
      intro y h2 hy hf hM2 hw2 f36 f50
      refine XW_t4 [7] 60 okMo_goYears ?_
      refine ite_f (by omega) ?_
      rw [show y = n by omega] at hw2 f36 f50
      exact hK h2 hf hM2 hw2 f36 f50
    | succ m ih =>
      intro y h2 hy hf hM2 hw2 f36 f50
      have hZ : gdZ nH nP (yNs V tk tv st nP nH rd lots lo (l, S, O, P, 0) y) := yNs_ok ⟨hg, by show I32 0; unfold I32; omega⟩ hv hr hd y
      refine XW_t4 [7] 60 okMo_goYears ?_
      refine ite_t (by omega) ?_
      refine c_goYear (Z := yNs V tk tv st nP nH rd lots lo (l, S, O, P, 0) y) (hf.wd hW) (hf.mb hB) hM2 hpay (hQ.yf hf) hL hd hlo6 hnH hw2 f36 f50 hZ fun h3 hf3 hM3 hw3 g36 g50 => ?_
      have := ih (y + 1) h3 (by omega) (hf.trans hf3) hM3 hw3 g36 g50
      rw [← nS y (by omega)] at this
      exact this
  have hf0 : YF h (uH h 120 50 0) := YF.refl.up (Or.inr ⟨rfl, Or.inr rfl⟩)
  have hM0 : MC (uH h 120 50 0) V (fun p => epr (tk p) (tv p) pay) 36 := hM.up (by omega)
  have hw0 : MWd (uH h 120 50 0) nH nP S O P := ⟨fun j hj => by rw [uH_ne (by omega), uH_ne (by omega)]; exact hw.1 j hj, fun p hp => by rw [uH_ne (by omega), uH_ne (by omega)]; exact hw.2 p hp⟩
  have g36 : (uH h 120 50 0) 120 36 = (l : Int) := (uH_ne (by omega)).trans h36
  refine cof ocMo_goYears rfl (XW_t4 [7] 60 okMo_goYears ?_)
  exact loop n 0 (uH h 120 50 0) (by omega) hf0 hM0 hw0 g36 uH_at
end MG
