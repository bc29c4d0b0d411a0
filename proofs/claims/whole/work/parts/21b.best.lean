-- the reference's best rows
theorem is0 {T : TB} {prev : Nat → Int} {l s : Nat} : wI (gnS T l s 0 + prev (fal (s + 0) (T 0 l (s + 0)))) = mvS T prev l s := by
  unfold gnS mvS
  rw [show wI (((0 : Nat) : Int) * T 2 l s) = 0 by rw [show ((0 : Nat) : Int) * T 2 l s = 0 from Int.zero_mul _]; rfl]
  rw [Nat.add_zero, Int.sub_zero]
  exact wIa
theorem isM {T : TB} {prev : Nat → Int} {l s m : Nat} : wI (gnS T l s m + prev (fal (s + m) (T 0 l (s + m)))) = cdS T prev l s m := by
  unfold gnS cdS mvS
  exact wIs
/-- while best rows are laid -/
def LB (h h2 : HH) (T : TB) (e : Int) (p i l0 s0 : Nat) : Prop := (∀ a k, a ≠ 151 → a ≠ 152 → h2 a k = h a k) ∧ (∀ w x, w < 2 → (x < 190 * (6 * p + i) ∨ 190 * (6 * p + i) + 190 ≤ x) → h2 (151 + w) x = h (151 + w) x) ∧ ∀ l s, l ≤ 18 → s < 10 → (l < l0 ∨ (l = l0 ∧ s < s0)) → h2 152 (a0 p i l s) = (bsf T e l s).2 ∧ (1 ≤ l → h2 151 (a0 p i l s) = ((bsf T e l s).1 : Int))
section MB
variable {g : GC} {d : Nat} {h : HH} {al : AL} {K : KT}
set_option maxRecDepth 8000 in
theorem c_layBest {V : List Cl} {pay : Int} {tk tv : Nat → Int} {st : Nat → Nat → Int} {nP p i : Nat} {pi ii : Int} (hW : Wd h) (hB : MB h V pay tk tv st nP) (hM : MC h V (fun p => epr (tk p) (tv p) pay) 36) (hp : p < nP) (hi : i < 6) (ep : pi = (p : Int)) (ei : ii = (i : Int)) (hK : ∀ h2 : HH, MF h h2 → (∀ x, h 146 x = 1 → h2 146 x = 1) → MC h2 V (fun p => epr (tk p) (tv p) pay) 36 → ML h2 p i (tbl V (i : Int) (p : Int)) (epr (tk p) (tv p) pay) → K none h2 al) : Call g (d + 4) yMo_layBest [xr 120, xi pi, xi ii] h al K := by
  subst ep
  subst ei
  have hnP := hB.1.1
  have hp6 : p < 6 := by omega
  obtain ⟨q0, hz⟩ := hB.1.2
  have hgd : gdT (tbl V (i : Int) (p : Int)) := tbl_ok hz.2.1
  have e6 : ∀ _ : Unit, wI (wI (6 * (p : Int)) + (i : Int)) = ((6 * p + i : Nat) : Int) := fun _ => by
    rw [wI_id (z := 6 * (p : Int)) (by omega), wI_id (by omega)]
    omega
  obtain ⟨h0, rfl⟩ := id hW
  refine cof ocMo_layBest rfl (XW_t4 [74] 80 okMo_layBest ?_)
  refine ⟨6 * p + i, e6 (), by show _ < 36; omega, _, rfl, ?_⟩
  refine ite_i (fun q => ?_) (fun q => ?_)
  · have q : wr h0 147 (6 * p + i) = 0 := q
    refine ⟨6 * p + i, e6 (), by show _ < 36; omega, Or.inr rfl, ?_⟩
    have hf1 : MF (wr h0) (uH (wr h0) 147 (6 * p + i) 1) := fun a k _ q2 => uH_ne (by omega)
    have hM1 : MC (uH (wr h0) 147 (6 * p + i) 1) V (fun p => epr (tk p) (tv p) pay) (6 * p + i) := fun p2 i2 hp2 hi2 => by
      rw [uH_ne (a := 146) (by omega)]
      refine ⟨?_, fun hx => ?_⟩
      · rcases (hM p2 i2 hp2 hi2).1 with m3 | ⟨m3, m4⟩
        · exact Or.inl m3
        · exact Or.inr ⟨m3, fun w l s q3 q4 q5 q6 => (uH_ne (by omega)).trans (m4 w l s q3 q4 q5 q6)⟩
      · rw [uH_ne (by omega)]
        rcases (hM p2 i2 hp2 hi2).2 (by omega) with m2 | ⟨m3, m4, m5⟩
        · exact Or.inl m2
        · exact Or.inr ⟨m3, m4, fun l s q3 q4 => by rw [uH_ne (by omega), uH_ne (by omega)]; exact m5 l s q3 q4⟩
    refine c_layRaw (hf1.wd hW) ⟨q0, hf1.mz hz⟩ hM1 hp6 hi rfl rfl fun h2 hmf f147 f146 hM2 r1 hT => ?_
    have hmf2 := hf1.trans hmf
    have hB2 := hmf2.mb hB
    have hW2 := hmf2.wd hW
    have f147x : h2 147 (6 * p + i) = 1 := by rw [f147, uH_at]
    have tS : ∀ h3 : HH, LB h2 h3 (tbl V (i : Int) (p : Int)) (epr (tk p) (tv p) pay) p i 19 0 → MF (wr h0) h3 ∧ (∀ x, wr h0 146 x = 1 → h3 146 x = 1) ∧ MC h3 V (fun p => epr (tk p) (tv p) pay) 36 ∧ ML h3 p i (tbl V (i : Int) (p : Int)) (epr (tk p) (tv p) pay) := fun h3 hL => by
      obtain ⟨l1, l2, l3⟩ := hL
      have ml : ML h3 p i (tbl V (i : Int) (p : Int)) (epr (tk p) (tv p) pay) := fun l s q1 q2 => l3 l s q1 q2 (by omega)
      refine ⟨hmf2.trans fun a k _ q2 => l1 a k (by omega) (by omega), fun x hx => by rw [l1 146 x (by decide) (by decide)]; exact f146 x ((uH_ne (show ¬ (146 = 147 ∧ x = 6 * p + i) by omega)).trans hx), fun p2 i2 hp2 hi2 => ?_, ml⟩
      rw [l1 146 _ (by decide) (by decide), l1 147 _ (by decide) (by decide)]
      refine ⟨?_, fun hx => ?_⟩
      · rcases (hM2 p2 i2 hp2 hi2).1 with m3 | ⟨m3, m4⟩
        · exact Or.inl m3
        · exact Or.inr ⟨m3, fun w l s q3 q4 q5 q6 => (l1 (148 + w) _ (by omega) (by omega)).trans (m4 w l s q3 q4 q5 q6)⟩
      · by_cases q2 : 6 * p2 + i2 = 6 * p + i
        · have : p2 = p ∧ i2 = i := by omega
          obtain ⟨rfl, rfl⟩ := this
          exact Or.inr ⟨f147x, r1, ml⟩
        · rcases (hM2 p2 i2 hp2 hi2).2 q2 with m2 | ⟨m3, m4, m5⟩
          · exact Or.inl m2
          · refine Or.inr ⟨m3, m4, fun l s q3 q4 => ?_⟩
            have t0 := l2 0 (a0 p2 i2 l s) (by decide) (by unfold a0; omega)
            have t1 := l2 1 (a0 p2 i2 l s) (by decide) (by unfold a0; omega)
            rw [show 151 + 0 = 151 from rfl] at t0
            rw [show 151 + 1 = 152 from rfl] at t1
            rw [t0, t1]
            exact m5 l s q3 q4
    generalize hTT : tbl V (i : Int) (p : Int) = T at hT tS hgd
    generalize hEE : epr (tk p) (tv p) pay = e at tS
    have htk := (hB2.2.2 p hp).1
    have htv := (hB2.2.2 p hp).2.1
    have hpay := hB2.2.1
    -- one row
    have loopS : ∀ (m s l : Nat) (h3 : HH) (x6 x7 x8 x9 : Option XV) (b3 : Int), s + m = 10 → 1 ≤ l → l ≤ 18 → LB h2 h3 T e p i l s → (∀ (h4 : HH) (x5 x6 x7 x8 x9 : Option XV), LB h2 h4 T e p i (l + 1) 0 → XW g (d + 3) mMo_layBest K 108 [some (xr 120), some (xi (p : Int)), some (xi (i : Int)), some (xi b3), some (xi ((l + 1 : Nat) : Int)), x5, x6, x7, x8, x9] [] h4 al) →
        XW g (d + 3) mMo_layBest K 118 [some (xr 120), some (xi (p : Int)), some (xi (i : Int)), some (xi b3), some (xi (l : Int)), some (xi (s : Int)), x6, x7, x8, x9] [] h3 al := by
      intro m
      induction m with
      | zero =>
        intro s l h3 x6 x7 x8 x9 b3 hs h1l hl hL go
        have := go h3 (some (xi (s : Int))) x6 x7 x8 x9 ⟨hL.1, hL.2.1, fun l2 s2 q1 q2 q3 => hL.2.2 l2 s2 q1 q2 (by omega)⟩
        rw [← nS l (by omega)] at this
        refine XW_t4 [108] 60 okMo_layBest ?_
        exact ite_f (by omega) this
      | succ m ih =>
        intro s l h3 x6 x7 x8 x9 b3 hs h1l hl hL go
        have hLf : ∀ a k, a ≠ 151 → a ≠ 152 → h3 a k = h2 a k := hL.1
        have hW3 : Wd h3 := MF.wd (fun a k _ q2 => hLf a k (by omega) (by omega)) hW2
        have hT3 : MT h3 p i T := fun w l s q1 q2 q3 q4 => (hLf _ _ (by omega) (by omega)).trans (hT w l s q1 q2 q3 q4)
        have hprev : ∀ t, t < 10 → h3 152 (a0 p i (l - 1) t) = (bsf T e (l - 1) t).2 := fun t ht => (hL.2.2 (l - 1) t (by omega) ht (by omega)).1
        have hbl : bsf T e l s = pkS T (fun t => (bsf T e (l - 1) t).2) l s := by
          obtain ⟨l2, rfl⟩ : ∃ l2, l = l2 + 1 := ⟨l - 1, by omega⟩
          rfl
        generalize hpv : (fun t => (bsf T e (l - 1) t).2) = prev at hbl
        have hprev2 : ∀ t, t < 10 → h3 152 (a0 p i (l - 1) t) = prev t := fun t ht => by rw [← hpv]; exact hprev t ht
        have fin : ∀ (m8 : Int) (x9 : Option XV), XW g (d + 3) mMo_layBest K 236 [some (xr 120), some (xi (p : Int)), some (xi (i : Int)), some (xi b3), some (xi (l : Int)), some (xi (s : Int)), some (xi ((pkS T prev l s).1 : Int)), some (xi (pkS T prev l s).2), some (xi m8), x9] [] h3 al := by
          intro m8 x9
          have hnew : LB h2 (uH (uH h3 151 (a0 p i l s) ((pkS T prev l s).1 : Int)) 152 (a0 p i l s) (pkS T prev l s).2) T e p i l (s + 1) := by
            refine ⟨fun a k q1 q2 => ?_, fun w x hw hx => ?_, fun l2 s2 q1 q2 q3 => ?_⟩
            · rw [uH_ne (by omega), uH_ne (by omega)]
              exact hLf a k q1 q2
            · rw [uH_ne (by unfold a0; omega), uH_ne (by unfold a0; omega)]
              exact hL.2.1 w x hw hx
            · by_cases e2 : a0 p i l2 s2 = a0 p i l s
              · have : l2 = l ∧ s2 = s := by unfold a0 at e2; omega
                obtain ⟨rfl, rfl⟩ := this
                rw [uH_at, uH_ne (by omega), uH_at, hbl]
                exact ⟨rfl, fun _ => rfl⟩
              · rw [uH_ne (by omega), uH_ne (by omega), uH_ne (by omega), uH_ne (by omega)]
                refine hL.2.2 l2 s2 q1 q2 ?_
                rcases q3 with q3 | ⟨q3, q4⟩
                · exact Or.inl q3
                · refine Or.inr ⟨q3, ?_⟩
                  by_cases e3 : s2 = s
                  · rw [q3, e3] at e2
                    exact absurd rfl e2
                  · omega
          have := ih (s + 1) l _ (some (xi ((pkS T prev l s).1 : Int))) (some (xi (pkS T prev l s).2)) (some (xi m8)) x9 b3 (by omega) h1l hl hnew go
          rw [← nS s (by omega)] at this
          obtain ⟨h4, rfl⟩ := id hW3
          refine XW_t4 [118] 60 okMo_layBest ?_
          refine c_at0 hp6 hi (by omega) (by omega) rfl rfl rfl rfl ?_
          refine ⟨a0 p i l s, rfl, by show _ < 6840; exact a0_lt hp6 hi hl (by omega), ?_⟩
          refine c_at0 hp6 hi (by omega) (by omega) rfl rfl rfl rfl ?_
          refine ⟨a0 p i l s, rfl, by show _ < 6840; exact a0_lt hp6 hi hl (by omega), ?_⟩
          exact this
        have out : ∀ (m b : Nat) (mo : Int) (bi : Int) (x9 : Option XV), m ≤ 3 → (m = 3 ∨ ¬ s + m < 10) → bi = (b : Int) → (b, mo) = pkS T prev l s → XW g (d + 3) mMo_layBest K 134 [some (xr 120), some (xi (p : Int)), some (xi (i : Int)), some (xi b3), some (xi (l : Int)), some (xi (s : Int)), some (xi bi), some (xi mo), some (xi (m : Int)), x9] [] h3 al := by
          intro m b mo bi x9 hm hex hbi hpk
          have := fin (m : Int) x9
          rw [← hpk] at this
          rw [hbi]
          by_cases q : m = 3
          · refine XW_t4 [236] 60 okMo_layBest ?_
            refine ite_f (by omega) ?_
            exact this
          · refine XW_t4 [145] 60 okMo_layBest ?_
            refine ite_t (by omega) ?_
            show XW g (d + 3) mMo_layBest K 145 [some (xr 120), some (xi (p : Int)), some (xi (i : Int)), some (xi b3), some (xi (l : Int)), some (xi (s : Int)), some (xi (b : Int)), some (xi mo), some (xi (m : Int)), x9] [xi (wI ((s : Int) + (m : Int)))] h3 al
            obtain ⟨t, ht⟩ : ∃ t : Nat, t = s + m := ⟨_, rfl⟩
            rw [show wI ((s : Int) + (m : Int)) = (t : Int) by rw [wI_id (by omega)]; omega]
            refine XW_t4 [236] 60 okMo_layBest ?_
            refine ite_f (by omega) ?_
            exact this
        have step : ∀ (m : Nat) (b mo : Int) (x9 : Option XV), m < 3 → s + m < 10 →
            ((0 ≤ b ∧ wI (gnS T l s m + prev (fal (s + m) (T 0 l (s + m)))) ≤ mo) → XW g (d + 3) mMo_layBest K 134 [some (xr 120), some (xi (p : Int)), some (xi (i : Int)), some (xi b3), some (xi (l : Int)), some (xi (s : Int)), some (xi b), some (xi mo), some (xi ((m + 1 : Nat) : Int)), some (xi (wI (gnS T l s m + prev (fal (s + m) (T 0 l (s + m))))))] [] h3 al) →
            (¬ (0 ≤ b ∧ wI (gnS T l s m + prev (fal (s + m) (T 0 l (s + m)))) ≤ mo) → XW g (d + 3) mMo_layBest K 134 [some (xr 120), some (xi (p : Int)), some (xi (i : Int)), some (xi b3), some (xi (l : Int)), some (xi (s : Int)), some (xi (m : Int)), some (xi (wI (gnS T l s m + prev (fal (s + m) (T 0 l (s + m)))))), some (xi ((m + 1 : Nat) : Int)), some (xi (wI (gnS T l s m + prev (fal (s + m) (T 0 l (s + m))))))] [] h3 al) →
            XW g (d + 3) mMo_layBest K 134 [some (xr 120), some (xi (p : Int)), some (xi (i : Int)), some (xi b3), some (xi (l : Int)), some (xi (s : Int)), some (xi b), some (xi mo), some (xi (m : Int)), x9] [] h3 al := by
          intro m b mo x9 hm hsm hy hn
          rw [← nS m (by omega)] at hy hn
          have esm : ∀ _ : Unit, wI ((s : Int) + (m : Int)) = ((s + m : Nat) : Int) := fun _ => by rw [wI_id (by omega)]; omega
          have hfl : fal (s + m) (T 0 l (s + m)) < 10 := by unfold fal; omega
          refine XW_t4 [145] 60 okMo_layBest ?_
          refine ite_t (by omega) ?_
          show XW g (d + 3) mMo_layBest K 145 [some (xr 120), some (xi (p : Int)), some (xi (i : Int)), some (xi b3), some (xi (l : Int)), some (xi (s : Int)), some (xi b), some (xi mo), some (xi (m : Int)), x9] [xi (wI ((s : Int) + (m : Int)))] h3 al
          have go2 : XW g (d + 3) mMo_layBest K 150 [some (xr 120), some (xi (p : Int)), some (xi (i : Int)), some (xi b3), some (xi (l : Int)), some (xi (s : Int)), some (xi b), some (xi mo), some (xi (m : Int)), x9] [] h3 al := by
            obtain ⟨h4, rfl⟩ := id hW3
            refine XW_t4 [193] 100 okMo_layBest ?_
            refine c_Mgain hW3 hT3 hp6 hi ⟨h1l, hl⟩ hsm rfl rfl rfl rfl rfl ?_
            refine (XW_call9 (pc := 193) (o := 120) (r := [xr 148, xi (wI ((s : Int) + (m : Int))), xr 120, xi (wI ((l : Int) - 1)), xi (i : Int), xi (p : Int), xr 120, xr 152, xi (gnS T l s m)]) (As := [xi (p : Int), xi (i : Int), xi (l : Int), xi (wI ((s : Int) + (m : Int)))]) okMo_layBest rfl rfl rfl (Nat.le_of_ble_eq_true rfl) ?_ : XW g (d + 3) mMo_layBest K 193 [some (xr 120), some (xi (p : Int)), some (xi (i : Int)), some (xi b3), some (xi (l : Int)), some (xi (s : Int)), some (xi b), some (xi mo), some (xi (m : Int)), x9] [xi (wI ((s : Int) + (m : Int))), xi (l : Int), xi (i : Int), xi (p : Int), xr 120, xr 148, xi (wI ((s : Int) + (m : Int))), xr 120, xi (wI ((l : Int) - 1)), xi (i : Int), xi (p : Int), xr 120, xr 152, xi (gnS T l s m)] (wr h4) al)
            refine c_at0 (l := l) (s := s + m) hp6 hi (by omega) (by omega) rfl rfl rfl (esm ()) ?_
            refine XW_t4 [134] 100 okMo_layBest ?_
            refine ⟨a0 p i l (s + m), rfl, by show _ < 6840; exact a0_lt hp6 hi hl hsm, _, hT3 0 l (s + m) (by decide) h1l hl hsm, ?_⟩
            refine c_fallen (t := s + m) (esm ()) (by omega) ⟨(hgd 0 l (s + m)).1, (hgd 0 l (s + m)).2.2⟩ ?_
            refine c_at0 (l := l - 1) (s := fal (s + m) (T 0 l (s + m))) hp6 hi (by omega) (by omega) rfl rfl (by rw [wI_id (by omega)]; omega) rfl ?_
            refine ⟨a0 p i (l - 1) (fal (s + m) (T 0 l (s + m))), rfl, by show _ < 6840; exact a0_lt hp6 hi (by omega) hfl, _, hprev2 _ hfl, ?_⟩
            refine ite_i (fun q => ?_) (fun q => ?_)
            · have q : b < 0 := q
              exact hn (fun q2 => by omega)
            · have q : ¬ b < 0 := q
              refine ite_i (fun q2 => ?_) (fun q2 => ?_)
              · have q2 : mo < wI (gnS T l s m + prev (fal (s + m) (T 0 l (s + m)))) := q2
                exact hn (fun q3 => by omega)
              · have q2 : ¬ mo < wI (gnS T l s m + prev (fal (s + m) (T 0 l (s + m)))) := q2
                exact hy ⟨by omega, by omega⟩
          obtain ⟨t, ht⟩ : ∃ t : Nat, t = s + m := ⟨_, rfl⟩
          rw [esm (), ← ht]
          refine XW_t4 [150] 60 okMo_layBest ?_
          refine ite_t (by omega) ?_
          exact go2
        have at2 : ∀ (b : Nat) (mo : Int) (x9 : Option XV), s + 1 < 10 → (b, mo) = pk1 T prev l s → XW g (d + 3) mMo_layBest K 134 [some (xr 120), some (xi (p : Int)), some (xi (i : Int)), some (xi b3), some (xi (l : Int)), some (xi (s : Int)), some (xi (b : Int)), some (xi mo), some (xi ((2 : Nat) : Int)), x9] [] h3 al := by
          intro b mo x9 hs1 hpk
          by_cases q : s + 2 < 10
          · refine step 2 b mo x9 (by decide) q (fun q2 => ?_) (fun q2 => ?_)
            · rw [isM] at q2
              refine out 3 b mo _ _ (by decide) (Or.inl rfl) rfl ?_
              unfold pkS
              rw [if_neg (by rw [← hpk]; show ¬ (s + 2 < 10 ∧ mo < _); omega), hpk]
            · rw [isM] at q2 ⊢
              refine out 3 2 _ _ _ (by decide) (Or.inl rfl) rfl ?_
              unfold pkS
              rw [if_pos (by rw [← hpk]; show s + 2 < 10 ∧ mo < _; omega)]
          · refine out 2 b mo _ x9 (by decide) (Or.inr q) rfl ?_
            unfold pkS
            rw [if_neg (fun q2 => q q2.1), hpk]
        have at1 : ∀ x9 : Option XV, XW g (d + 3) mMo_layBest K 134 [some (xr 120), some (xi (p : Int)), some (xi (i : Int)), some (xi b3), some (xi (l : Int)), some (xi (s : Int)), some (xi ((0 : Nat) : Int)), some (xi (mvS T prev l s)), some (xi ((1 : Nat) : Int)), x9] [] h3 al := by
          intro x9
          by_cases q : s + 1 < 10
          · refine step 1 ((0 : Nat) : Int) _ x9 (by decide) q (fun q2 => ?_) (fun q2 => ?_)
            · rw [isM] at q2 ⊢
              refine at2 0 _ _ q ?_
              unfold pk1
              rw [if_neg (by omega)]
            · rw [isM] at q2 ⊢
              refine at2 1 _ _ q ?_
              unfold pk1
              rw [if_pos (by omega)]
          · refine out 1 0 _ _ x9 (by decide) (Or.inr q) rfl ?_
            unfold pkS
            rw [if_neg (by omega)]
            unfold pk1
            rw [if_neg (fun q2 => q q2.1)]
        have at00 : ∀ x9 : Option XV, XW g (d + 3) mMo_layBest K 134 [some (xr 120), some (xi (p : Int)), some (xi (i : Int)), some (xi b3), some (xi (l : Int)), some (xi (s : Int)), some (xi (-1)), some (xi 0), some (xi ((0 : Nat) : Int)), x9] [] h3 al := by
          intro x9
          refine step 0 (-1) 0 x9 (by decide) (by omega) (fun q2 => absurd q2.1 (by decide)) (fun _ => ?_)
          rw [is0]
          exact at1 _
        refine XW_t4 [134] 60 okMo_layBest ?_
        refine ite_t (by omega) ?_
        exact at00 x9
    have loopL : ∀ (m l : Nat) (h3 : HH) (x5 x6 x7 x8 x9 : Option XV) (b3 : Int), l + m = 19 → 1 ≤ l → LB h2 h3 T e p i l 0 → XW g (d + 3) mMo_layBest K 108 [some (xr 120), some (xi (p : Int)), some (xi (i : Int)), some (xi b3), some (xi (l : Int)), x5, x6, x7, x8, x9] [] h3 al := by
      intro m
      induction m with
      | zero =>
        intro l h3 x5 x6 x7 x8 x9 b3 hl h1l hL
        refine XW_t4 [108] 60 okMo_layBest ?_
        refine ite_f (by omega) ?_
        rw [show l = 19 by omega] at hL
        obtain ⟨a1, a2, a3, a4⟩ := tS h3 hL
        rw [hTT, hEE] at hK
        exact hK h3 a1 a2 a3 a4
      | succ m ih =>
        intro l h3 x5 x6 x7 x8 x9 b3 hl h1l hL
        refine XW_t4 [118] 60 okMo_layBest ?_
        refine ite_t (by omega) ?_
        exact loopS 10 0 l h3 x6 x7 x8 x9 b3 rfl h1l (by omega) hL fun h4 x5 x6 x7 x8 x9 hL4 => ih (l + 1) h4 x5 x6 x7 x8 x9 b3 (by omega) (by omega) hL4
    have loop0 : ∀ (m s : Nat) (h3 : HH) (x5 x6 x7 x8 x9 : Option XV), s + m = 10 → LB h2 h3 T e p i 0 s → XW g (d + 3) mMo_layBest K 74 [some (xr 120), some (xi (p : Int)), some (xi (i : Int)), some (xi e), some (xi (s : Int)), x5, x6, x7, x8, x9] [] h3 al := by
      intro m
      induction m with
      | zero =>
        intro s h3 x5 x6 x7 x8 x9 hs hL
        refine XW_t4 [108] 60 okMo_layBest ?_
        refine ite_f (by omega) ?_
        exact loopL 18 1 h3 x5 x6 x7 x8 x9 e rfl (by decide) ⟨hL.1, hL.2.1, fun l2 s2 q1 q2 q3 => hL.2.2 l2 s2 q1 q2 (by omega)⟩
      | succ m ih =>
        intro s h3 x5 x6 x7 x8 x9 hs hL
        have hLf : ∀ a k, a ≠ 151 → a ≠ 152 → h3 a k = h2 a k := hL.1
        have hW3 : Wd h3 := MF.wd (fun a k _ q2 => hLf a k (by omega) (by omega)) hW2
        have := ih (s + 1) (uH h3 152 (a0 p i 0 s) (wI (e * (s : Int)))) x5 x6 x7 x8 x9 (by omega) ⟨fun a k q1 q2 => by rw [uH_ne (by omega)]; exact hLf a k q1 q2, fun w x hw hx => by rw [uH_ne (by unfold a0; omega)]; exact hL.2.1 w x hw hx, fun l2 s2 q1 q2 q3 => by
          have hl2 : l2 = 0 := by omega
          subst hl2
          by_cases e3 : s2 = s
          · subst e3
            rw [uH_at]
            exact ⟨rfl, fun q => absurd q (by omega)⟩
          · have hne : a0 p i 0 s2 ≠ a0 p i 0 s := by unfold a0; omega
            rw [uH_ne (by omega)]
            refine ⟨(hL.2.2 0 s2 q1 q2 (by omega)).1, fun q => absurd q (by omega)⟩⟩
        rw [← nS s (by omega)] at this
        obtain ⟨h4, rfl⟩ := id hW3
        refine XW_t4 [74] 60 okMo_layBest ?_
        refine ite_t (by omega) ?_
        refine c_at0 (l := 0) hp6 hi (by omega) (by omega) rfl rfl rfl rfl ?_
        refine ⟨a0 p i 0 s, rfl, by show _ < 6840; exact a0_lt hp6 hi (by omega) (by omega), ?_⟩
        exact this
    have start : ∀ b : Int, b = e → XW g (d + 3) mMo_layBest K 74 [some (xr 120), some (xi (p : Int)), some (xi (i : Int)), some (xi b), some (xi ((0 : Nat) : Int)), none, none, none, none, none] [] h2 al := fun b hb => by
      rw [hb]
      exact loop0 10 0 h2 none none none none none rfl ⟨fun _ _ _ _ => rfl, fun _ _ _ _ => rfl, fun l s _ _ q => absurd q (by omega)⟩
    obtain ⟨h3, rfl⟩ := id hW2
    unfold epr at hEE
    refine ⟨p, rfl, by show p < 6; exact hp6, _, htk.1, ?_⟩
    refine ite_i (fun q4 => ?_) (fun q4 => ?_)
    · have q4 : tk p = 4 := q4
      rw [if_pos q4] at hEE
      have t := start (wr h3 120 34) (hpay.trans hEE)
      exact t
    · have q4 : ¬ tk p = 4 := q4
      rw [if_neg q4] at hEE
      refine ⟨p, rfl, by show p < 6; exact hp6, _, htk.1, ?_⟩
      refine ite_i (fun q5 => ?_) (fun q5 => ?_)
      · have q5 : tk p = 5 := q5
        rw [if_pos q5] at hEE
        refine ⟨p, rfl, by show p < 6; exact hp6, _, htv.1, ?_⟩
        have t := start (tv p) hEE
        exact t
      · have q5 : ¬ tk p = 5 := q5
        rw [if_neg q5] at hEE
        have t := start 0 hEE
        exact t
  · have q : ¬ wr h0 147 (6 * p + i) = 0 := q
    rcases (hM p i hp6 hi).2 (by omega) with m | ⟨m1, m2, m3⟩
    · exact absurd m q
    · exact hK _ MF.refl (fun _ q => q) hM m3
end MB
