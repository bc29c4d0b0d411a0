-- swaps
def swpT (W : Nat → Int → Int) (a b : Nat) (Z : (Nat → Int) × Nat) : (Nat → Int) × Nat :=
  if 0 ≤ Z.1 a ∧ 0 ≤ Z.1 b ∧ W a (Z.1 a) < W a (Z.1 b) ∧ W b (Z.1 b) < W b (Z.1 a) then (fun p => if p = b then Z.1 a else if p = a then Z.1 b else Z.1 p, Z.2 + 1) else Z
def swpB (W : Nat → Int → Int) (a : Nat) : Nat → Nat → (Nat → Int) × Nat → (Nat → Int) × Nat
  | 0, _, Z => Z
  | m + 1, b, Z => swpB W a m (b + 1) (swpT W a b Z)
def swpA (W : Nat → Int → Int) (nP : Nat) : Nat → Nat → (Nat → Int) × Nat → (Nat → Int) × Nat
  | 0, _, Z => Z
  | m + 1, a, Z => swpA W nP m (a + 1) (swpB W a (nP - (a + 1)) (a + 1) Z)
/-- who has what, and how often was swapped -/
def gdS2 (nH nP : Nat) (Z : (Nat → Int) × Nat) : Prop := (∀ p, p < nP → Z.1 p = -1 ∨ (0 ≤ Z.1 p ∧ Z.1 p < (nH : Int)))
theorem swpT_ok {W : Nat → Int → Int} {a b nH nP : Nat} {Z : (Nat → Int) × Nat} (h : gdS2 nH nP Z) (ha : a < nP) (hb : b < nP) : gdS2 nH nP (swpT W a b Z) ∧ (swpT W a b Z).2 ≤ Z.2 + 1 := by
  unfold swpT
  split
  · refine ⟨fun p hp => ?_, Nat.le_refl _⟩
    show (if p = b then Z.1 a else if p = a then Z.1 b else Z.1 p) = -1 ∨ _
    show (if p = b then Z.1 a else if p = a then Z.1 b else Z.1 p) = -1 ∨ (0 ≤ (if p = b then Z.1 a else if p = a then Z.1 b else Z.1 p) ∧ (if p = b then Z.1 a else if p = a then Z.1 b else Z.1 p) < (nH : Int))
    split
    · exact h a ha
    · split
      · exact h b hb
      · exact h p hp
  · exact ⟨h, by omega⟩
section Q7
variable {g : GC} {d : Nat} {h : HH} {al : AL} {K : KT}
variable {V : Nat → List Cl} {nV vl : Int} {nH nP rd lots l yr : Nat} {lo S : Nat → Nat} {O P k v : Nat → Int} {st : Nat → Nat → Int}
abbrev Wst (V : List Cl) (l : Nat) (S : Nat → Nat) (P k v : Nat → Int) (st : Nat → Nat → Int) : Nat → Int → Int := fun p i => wtS (k p) (v p) (st p) (lastL V 3 0) (tbl V i (p : Int)) l (S i.toNat) (P p)
theorem c_wouldRather {a : Nat} {o1 o2 : Int} (hA : ALLf h al V nV vl nH nP rd lots l yr lo S O P k v st) (ha : a < nP) (h1 : 0 ≤ o1 ∧ o1 < (nH : Int)) (h2 : 0 ≤ o2 ∧ o2 < (nH : Int))
    (hK : ∀ (h2 : HH) (al2 : AL), CF h al h2 al2 → ALLf h2 al2 V nV vl nH nP rd lots l yr lo S O P k v st → K (some (xi (if Wst (Vw V vl) l S P k v st a o1 < Wst (Vw V vl) l S P k v st a o2 then 1 else 0))) h2 al2) : Call g (d + 7) yBy_wouldRather [xr 0, xi (a : Int), xi o1, xi o2] h al K := by
  obtain ⟨⟨hW, hN, -⟩, -⟩ := id hA
  have hl1 := hN.2.2.2.2.1.1.1
  have hg := hN.2.2.2.1.1
  obtain ⟨h0, rfl⟩ := id hW
  refine cof ocBy_wouldRather rfl (XW_t4 [] 80 okBy_wouldRather ?_)
  refine c_holderA hA (fun pn ho epn hpn hpn6 hh hF => ?_) (fun hno => absurd hno (by omega))
  have epp : pn = a := by omega
  subst epp
  refine c_worthA (ln := l) (j := o2.toNat) hA hh hF hpn (by omega) (by omega) hl1 hg fun h4 al4 hc4 hA4 => ?_
  obtain ⟨⟨hW4, hN4, -⟩, -⟩ := id hA4
  have hl4 := hN4.2.2.2.2.1.1.1
  have hF4 := hF.cf hh hc4
  obtain ⟨h4', rfl⟩ := id hW4
  refine c_worthA (ln := l) (j := o1.toNat) hA4 hh hF4 hpn (by omega) (by omega) hl4 hg fun h5 al5 hc5 hA5 => ?_
  have hk := hK h5 al5 (hc4.trans hc5) hA5
  rw [show ((o2.toNat : Nat) : Int) = o2 by omega, show ((o1.toNat : Nat) : Int) = o1 by omega]
  refine ite_i (fun q => ?_) (fun q => ?_)
  · have q : Wst (Vw V vl) l S P k v st pn o1 < Wst (Vw V vl) l S P k v st pn o2 := q
    rw [if_pos q] at hk
    exact ⟨Or.inr rfl, hk⟩
  · have q : ¬ Wst (Vw V vl) l S P k v st pn o1 < Wst (Vw V vl) l S P k v st pn o2 := q
    rw [if_neg q] at hk
    exact ⟨Or.inl rfl, hk⟩
theorem c_wantsMore {VL : List Cl} {a : Nat} {o1 o2 : Int} (hW : Wd h) (hB : MB h VL (lastL VL 3 0) k v st nP) (hM : MC h VL (fun p => epr (k p) (v p) (lastL VL 3 0)) 36) (hp145 : h 145 a = P a) (hP : I32 (P a)) (hnH : nH ≤ 6) (hS : ∀ j, j < nH → h 121 j = (S j : Int) ∧ S j < 10) (h3 : h 120 3 = (l : Int)) (hl : 1 ≤ l ∧ l ≤ 9) (ha : a < nP) (h1 : 0 ≤ o1 ∧ o1 < (nH : Int)) (h2 : 0 ≤ o2 ∧ o2 < (nH : Int))
    (hK : ∀ h2 : HH, MF h h2 → MC h2 VL (fun p => epr (k p) (v p) (lastL VL 3 0)) 36 → K (some (xi (if Wst VL l S P k v st a o1 < Wst VL l S P k v st a o2 then 1 else 0))) h2 al) : Call g (d + 7) yMo_wantsMore [xr 120, xi (a : Int), xi o1, xi o2] h al K := by
  obtain ⟨h0, rfl⟩ := id hW
  refine cof ocMo_wantsMore rfl (XW_t4 [] 80 okMo_wantsMore ?_)
  refine ⟨o2.toNat, by omega, by show o2.toNat < 6; omega, _, (hS _ (by omega)).1, ?_⟩
  refine c_Mworth (p := a) (i := o2.toNat) (l := l) (s := S o2.toNat) hW hB hM ha (by omega) hl (hS _ (by omega)).2 rfl (by omega) h3 rfl hp145 hP fun h4 hm4 hM4 => ?_
  have hW4 := hm4.wd hW
  have e3 : h4 120 3 = (l : Int) := (hm4 _ _ (by decide) (by decide)).trans h3
  have e121 : h4 121 o1.toNat = (S o1.toNat : Int) := (hm4 _ _ (by decide) (by decide)).trans (hS _ (by omega)).1
  have e145 : h4 145 a = P a := (hm4 _ _ (by decide) (by decide)).trans hp145
  obtain ⟨h4', rfl⟩ := id hW4
  refine ⟨o1.toNat, by omega, by show o1.toNat < 6; omega, _, e121, ?_⟩
  refine c_Mworth (p := a) (i := o1.toNat) (l := l) (s := S o1.toNat) hW4 (hm4.mb hB) hM4 ha (by omega) hl (hS _ (by omega)).2 rfl (by omega) e3 rfl e145 hP fun h5 hm5 hM5 => ?_
  have hk := hK h5 (hm4.trans hm5) hM5
  rw [show ((o2.toNat : Nat) : Int) = o2 by omega, show ((o1.toNat : Nat) : Int) = o1 by omega]
  refine ite_i (fun q => ?_) (fun q => ?_)
  · have q : Wst VL l S P k v st a o1 < Wst VL l S P k v st a o2 := q
    rw [if_pos q] at hk
    exact ⟨Or.inr rfl, hk⟩
  · have q : ¬ Wst VL l S P k v st a o1 < Wst VL l S P k v st a o2 := q
    rw [if_neg q] at hk
    exact ⟨Or.inl rfl, hk⟩
end Q7
section Q8
variable {g : GC} {d : Nat} {h : HH} {al : AL}
set_option maxRecDepth 8000 in
theorem s_swaps (hS : Sim h al) : Call g (d + 9) yBy_swaps [xr 0] h al (fun v h1 al1 => Call g (d + 9) yMo_swaps [xr 120] h1 al1 (Ok2 v)) := by
  obtain ⟨V, nV, vl, nH, nP, rd, lots, l, yr, lo, S, O, P, k, v, st, hA⟩ := hS.all
  obtain ⟨hPB, hlo, hg⟩ := hA.pb
  obtain ⟨b1, b2, b3, b4, b5, b6, b7⟩ := id hPB
  obtain ⟨⟨hW, hN, hB⟩, -⟩ := id hA
  obtain ⟨gl, gS, gO, gI, gP⟩ := id hg
  obtain ⟨W, hWW⟩ : ∃ W, W = Wst (Vw V vl) l S P k v st := ⟨_, rfl⟩
  have hR : ∀ o : Int, 0 ≤ o → True := fun _ _ => trivial
  clear hR
  -- the reference
  have mod : ∀ (h2 : HH) (al2 : AL), ALLf h2 al2 V nV vl nH nP rd lots l yr lo S O P k v st → Sim h2 al2 → Call g (d + 9) yMo_swaps [xr 120] h2 al2 (Ok2 (some (xi ((swpA W nP nP 0 (O, 0)).2 : Int)))) := by
    intro h2 al2 hA2 hS2
    obtain ⟨⟨hW2, hN2, -⟩, -⟩ := id hA2
    obtain ⟨-, -, ⟨m1, m2⟩, -, ⟨⟨-, l2, -⟩, -⟩, -⟩ := id hN2
    -- what stays true
    have frame : ∀ h3 : HH, MQF h2 h3 → Wd h3 ∧ h3 120 1 = (nP : Int) ∧ h3 120 3 = (l : Int) ∧ ∀ j, j < nH → h3 121 j = (S j : Int) ∧ S j < 10 := fun h3 hm =>
      ⟨hm.qf (al := al2) |>.wd hW2, (hm _ _ (by omega) (by omega)).trans hN2.1.2.1.2, (hm _ _ (by omega) (by omega)).trans l2, fun j hj => ⟨(hm _ _ (by omega) (by omega)).trans (m1 j hj).1, gS j hj⟩⟩
    have loopB : ∀ (m b a : Nat) (Z : (Nat → Int) × Nat) (h3 : HH) (x4 x5 : Option XV), b + m = nP → a < b → a < nP → Z.2 + m < 1000 → gdS2 nH nP Z → MQF h2 h3 → MB h3 (Vw V vl) (lastL (Vw V vl) 3 0) k v st nP → MC h3 (Vw V vl) (fun p => epr (k p) (v p) (lastL (Vw V vl) 3 0)) 36 → (∀ p, p < nP → h3 144 p = Z.1 p ∧ h3 145 p = P p) →
        (∀ (h4 : HH) (b4 : Int) (x4 x5 : Option XV), gdS2 nH nP (swpB W a m b Z) → (swpB W a m b Z).2 ≤ Z.2 + m → MQF h2 h4 → MB h4 (Vw V vl) (lastL (Vw V vl) 3 0) k v st nP → MC h4 (Vw V vl) (fun p => epr (k p) (v p) (lastL (Vw V vl) 3 0)) 36 → (∀ p, p < nP → h4 144 p = (swpB W a m b Z).1 p ∧ h4 145 p = P p) → XW g (d + 8) mMo_swaps (Ok2 (some (xi ((swpA W nP nP 0 (O, 0)).2 : Int)))) 106 [some (xr 120), some (xi ((swpB W a m b Z).2 : Int)), some (xi (a : Int)), some (xi b4), x4, x5] [] h4 al2) →
        XW g (d + 8) mMo_swaps (Ok2 (some (xi ((swpA W nP nP 0 (O, 0)).2 : Int)))) 20 [some (xr 120), some (xi (Z.2 : Int)), some (xi (a : Int)), some (xi (b : Int)), x4, x5] [] h3 al2 := by
      intro m
      induction m with
      | zero =>
        intro b a Z h3 x4 x5 hb hab ha hz hgd hm hB3 hM3 hO go
        obtain ⟨hW3, f1, f3, fS⟩ := frame h3 hm
        have t := go h3 (b : Int) x4 x5 hgd (by show Z.2 ≤ Z.2 + 0; omega) hm hB3 hM3 hO
        obtain ⟨h3', rfl⟩ := id hW3
        refine XW_t4 [20, 106] 60 okMo_swaps ?_
        refine ite_f (show ¬ (b : Int) < wr h3' 120 1 by rw [f1]; omega) ?_
        exact t
      | succ m ih =>
        intro b a Z h3 x4 x5 hb hab ha hz hgd hm hB3 hM3 hO go
        obtain ⟨hW3, f1, f3, fS⟩ := frame h3 hm
        have ha6 : a < 6 := by omega
        have hb6 : b < 6 := by omega
        have hok := swpT_ok (W := W) hgd ha (show b < nP by omega)
        have nx := fun (h4 : HH) (x4 x5 : Option XV) hm4 hB4 hM4 hO4 => ih (b + 1) a (swpT W a b Z) h4 x4 x5 (by omega) (by omega) ha (by omega) hok.1 hm4 hB4 hM4 hO4 (fun h5 b4 x4 x5 y1 y2 y3 y4 y5 y6 => go h5 b4 x4 x5 y1 (by have : (swpB W a (m + 1) b Z).2 = (swpB W a m (b + 1) (swpT W a b Z)).2 := rfl; omega) y3 y4 y5 y6)
        rw [← nS b (by omega)] at nx
        have no : ¬ (0 ≤ Z.1 a ∧ 0 ≤ Z.1 b ∧ W a (Z.1 a) < W a (Z.1 b) ∧ W b (Z.1 b) < W b (Z.1 a)) → swpT W a b Z = Z := fun q => by unfold swpT; rw [if_neg q]
        have hga := hgd a ha
        have hgb := hgd b (by omega)
        obtain ⟨h3', rfl⟩ := id hW3
        refine XW_t4 [20, 106] 120 okMo_swaps ?_
        refine ite_t (show (b : Int) < wr h3' 120 1 by rw [f1]; omega) ?_
        refine ⟨a, rfl, by show a < 6; exact ha6, _, (hO a ha).1, ?_⟩
        refine ⟨b, rfl, by show b < 6; exact hb6, _, (hO b (by omega)).1, ?_⟩
        refine ite_i (fun q => ?_) (fun q => ?_)
        · have q : Z.1 a < 0 := q
          have e := no (fun q2 => by omega)
          rw [e] at nx
          exact nx _ _ _ hm hB3 hM3 hO
        · have q : ¬ Z.1 a < 0 := q
          refine ite_i (fun q2 => ?_) (fun q2 => ?_)
          · have q2 : Z.1 b < 0 := q2
            have e := no (fun q2 => by omega)
            rw [e] at nx
            exact nx _ _ _ hm hB3 hM3 hO
          · have q2 : ¬ Z.1 b < 0 := q2
            refine c_wantsMore (a := a) (o1 := Z.1 a) (o2 := Z.1 b) (S := S) (l := l) (nH := nH) (P := P) hW3 hB3 hM3 (hO a ha).2 (gP a ha) b1 fS f3 gl ha (by omega) (by omega) fun h4 hm4 hM4 => ?_
            rw [← hWW]
            have hmm4 := hm.trans hm4.mq
            obtain ⟨hW4, f14, f34, fS4⟩ := frame h4 hmm4
            have hB4 := hm4.mb hB3
            have hO4 : ∀ p, p < nP → h4 144 p = Z.1 p ∧ h4 145 p = P p := fun p hp => ⟨(hm4 _ _ (by decide) (by decide)).trans (hO p hp).1, (hm4 _ _ (by decide) (by decide)).trans (hO p hp).2⟩
            obtain ⟨h4', rfl⟩ := id hW4
            by_cases w1 : W a (Z.1 a) < W a (Z.1 b)
            · rw [if_pos w1]
              refine c_wantsMore (a := b) (o1 := Z.1 b) (o2 := Z.1 a) (S := S) (l := l) (nH := nH) (P := P) hW4 hB4 hM4 (hO4 b (by omega)).2 (gP b (by omega)) b1 fS4 f34 gl (by omega) (by omega) (by omega) fun h5 hm5 hM5 => ?_
              rw [← hWW]
              have hmm5 := hmm4.trans hm5.mq
              obtain ⟨hW5, f15, f35, fS5⟩ := frame h5 hmm5
              have hB5 := hm5.mb hB4
              have hO5 : ∀ p, p < nP → h5 144 p = Z.1 p ∧ h5 145 p = P p := fun p hp => ⟨(hm5 _ _ (by decide) (by decide)).trans (hO4 p hp).1, (hm5 _ _ (by decide) (by decide)).trans (hO4 p hp).2⟩
              by_cases w2 : W b (Z.1 b) < W b (Z.1 a)
              · rw [if_pos w2]
                have e : swpT W a b Z = (fun p => if p = b then Z.1 a else if p = a then Z.1 b else Z.1 p, Z.2 + 1) := by unfold swpT; rw [if_pos ⟨by omega, by omega, w1, w2⟩]
                rw [e] at nx
                have hB6 : MB (uH (uH h5 144 a (Z.1 b)) 144 b (Z.1 a)) (Vw V vl) (lastL (Vw V vl) 3 0) k v st nP := YF.mb ((YF.refl.up (by omega)).up (by omega)) hB5
                have hM6 : MC (uH (uH h5 144 a (Z.1 b)) 144 b (Z.1 a)) (Vw V vl) (fun p => epr (k p) (v p) (lastL (Vw V vl) 3 0)) 36 := (hM5.up (by omega)).up (by omega)
                have t := fun x4 x5 => nx (uH (uH h5 144 a (Z.1 b)) 144 b (Z.1 a)) x4 x5 ((hmm5.up (by omega)).up (by omega)) hB6 hM6 (fun p hp => by
                  rw [uH_r, uH_r, uH_ne (by omega), uH_ne (by omega)]
                  refine ⟨?_, (hO5 p hp).2⟩
                  by_cases c1 : p = b
                  · rw [if_pos c1]
                    exact (if_pos c1).symm
                  · rw [if_neg c1]
                    show _ = (if p = b then Z.1 a else if p = a then Z.1 b else Z.1 p)
                    rw [if_neg c1]
                    by_cases c2 : p = a
                    · rw [if_pos c2, if_pos c2]
                    · rw [if_neg c2, if_neg c2]
                      exact (hO5 p hp).1)
                have en : ((Z.2 + 1 : Nat) : Int) = wI ((Z.2 : Int) + 1) := (nS Z.2 (by omega)).symm
                rw [en] at t
                obtain ⟨h5', rfl⟩ := id hW5
                refine ⟨a, rfl, by show a < 6; exact ha6, ?_⟩
                refine ⟨b, rfl, by show b < 6; exact hb6, ?_⟩
                exact t _ _
              · rw [if_neg w2]
                have e := no (fun q2 => w2 q2.2.2.2)
                rw [e] at nx
                obtain ⟨h5', rfl⟩ := id hW5
                exact nx _ _ _ hmm5 hB5 hM5 hO5
            · rw [if_neg w1]
              have e := no (fun q2 => w1 q2.2.2.1)
              rw [e] at nx
              exact nx _ _ _ hmm4 hB4 hM4 hO4
    have loopA : ∀ (m a : Nat) (Z : (Nat → Int) × Nat) (h3 : HH) (x3 x4 x5 : Option XV), a + m = nP → Z.2 + 6 * m < 1000 → swpA W nP m a Z = swpA W nP nP 0 (O, 0) → gdS2 nH nP Z → MQF h2 h3 → MB h3 (Vw V vl) (lastL (Vw V vl) 3 0) k v st nP → MC h3 (Vw V vl) (fun p => epr (k p) (v p) (lastL (Vw V vl) 3 0)) 36 → (∀ p, p < nP → h3 144 p = Z.1 p ∧ h3 145 p = P p) →
        XW g (d + 8) mMo_swaps (Ok2 (some (xi ((swpA W nP nP 0 (O, 0)).2 : Int)))) 8 [some (xr 120), some (xi (Z.2 : Int)), some (xi (a : Int)), x3, x4, x5] [] h3 al2 := by
      intro m
      induction m with
      | zero =>
        intro a Z h3 x3 x4 x5 ha hz hsw hgd hm hB3 hM3 hO
        obtain ⟨hW3, f1, f3, fS⟩ := frame h3 hm
        have done := hA2.done hS2 hm
        obtain ⟨h3', rfl⟩ := id hW3
        refine XW_t4 [8] 60 okMo_swaps ?_
        refine ite_f (show ¬ (a : Int) < wr h3' 120 1 by rw [f1]; omega) ?_
        refine ⟨⟨_, rfl, ?_⟩, done⟩
        rw [← hsw]
        rfl
      | succ m ih =>
        intro a Z h3 x3 x4 x5 ha hz hsw hgd hm hB3 hM3 hO
        obtain ⟨hW3, f1, f3, fS⟩ := frame h3 hm
        have t := loopB (nP - (a + 1)) (a + 1) a Z h3 x4 x5 (by omega) (by omega) (by omega) (by omega) hgd hm hB3 hM3 hO (fun h4 b4 x4 x5 y1 y2 y3 y4 y5 y6 => by
          have t2 := ih (a + 1) (swpB W a (nP - (a + 1)) (a + 1) Z) h4 (some (xi b4)) x4 x5 (by omega) (by omega) hsw y1 y3 y4 y5 y6
          rw [← nS a (by omega)] at t2
          refine XW_t4 [8] 60 okMo_swaps ?_
          exact t2)
        rw [← nS a (by omega)] at t
        obtain ⟨h3', rfl⟩ := id hW3
        refine XW_t4 [8, 20] 60 okMo_swaps ?_
        refine ite_t (show (a : Int) < wr h3' 120 1 by rw [f1]; omega) ?_
        exact t
    obtain ⟨h2', rfl⟩ := id hW2
    refine cof ocMo_swaps rfl (XW_t4 [8] 60 okMo_swaps ?_)
    refine c_asIsA hA2 fun h4 hf4 hQ4 => ?_
    have hW4 := hf4.mq.qf (al := al2) |>.wd hW2
    have t := loopA nP 0 (O, 0) h4 none none none (by omega) (by show 0 + 6 * nP < 1000; omega) rfl gO hf4.mq hQ4.1 hQ4.2.1 hQ4.2.2.1.2
    obtain ⟨h4', rfl⟩ := id hW4
    exact t
  -- the class
  have loopB : ∀ (m b a : Nat) (Z : (Nat → Int) × Nat) (h3 : HH) (al3 : AL) (x4 x5 : Option XV), b + m = nP → a < b → a < nP → Z.2 + m < 1000 → gdS2 nH nP Z → CQF h al h3 al3 → ALLf h3 al3 V nV vl nH nP rd lots l yr lo S O P k v st → (∀ p, p < nP → (Z.1 p = -1 ∧ h3 22 p = -5) ∨ (0 ≤ Z.1 p ∧ h3 22 p = Z.1 p)) →
      (∀ (h4 : HH) (al4 : AL) (b4 : Int) (x4 x5 : Option XV), gdS2 nH nP (swpB W a m b Z) → (swpB W a m b Z).2 ≤ Z.2 + m → CQF h al h4 al4 → ALLf h4 al4 V nV vl nH nP rd lots l yr lo S O P k v st → (∀ p, p < nP → ((swpB W a m b Z).1 p = -1 ∧ h4 22 p = -5) ∨ (0 ≤ (swpB W a m b Z).1 p ∧ h4 22 p = (swpB W a m b Z).1 p)) → XW g (d + 8) mBy_swaps (fun v h1 al1 => Call g (d + 9) yMo_swaps [xr 120] h1 al1 (Ok2 v)) 140 [some (xr 0), some (xi ((swpB W a m b Z).2 : Int)), some (xi (a : Int)), some (xi b4), x4, x5] [] h4 al4) →
      XW g (d + 8) mBy_swaps (fun v h1 al1 => Call g (d + 9) yMo_swaps [xr 120] h1 al1 (Ok2 v)) 30 [some (xr 0), some (xi (Z.2 : Int)), some (xi (a : Int)), some (xi (b : Int)), x4, x5] [] h3 al3 := by
    intro m
    induction m with
    | zero =>
      intro b a Z h3 al3 x4 x5 hb hab ha hz hgd hc hA3 hO go
      have hW3 := hA3.1.1
      have f1 := hA3.1.2.1.1.2.1.1
      have t := go h3 al3 (b : Int) x4 x5 hgd (by show Z.2 ≤ Z.2 + 0; omega) hc hA3 hO
      obtain ⟨h3', rfl⟩ := id hW3
      refine XW_t4 [30, 140] 60 okBy_swaps ?_
      refine ite_f (show ¬ (b : Int) < wr h3' 1 5 by rw [f1]; omega) ?_
      exact t
    | succ m ih =>
      intro b a Z h3 al3 x4 x5 hb hab ha hz hgd hc hA3 hO go
      have hW3 := hA3.1.1
      have f1 := hA3.1.2.1.1.2.1.1
      have ha6 : a < 6 := by omega
      have hb6 : b < 6 := by omega
      have hok := swpT_ok (W := W) hgd ha (show b < nP by omega)
      have nx := fun (h4 : HH) (al4 : AL) (x4 x5 : Option XV) hc4 hA4 hO4 => ih (b + 1) a (swpT W a b Z) h4 al4 x4 x5 (by omega) (by omega) ha (by omega) hok.1 hc4 hA4 hO4 (fun h5 al5 b4 x4 x5 y1 y2 y3 y4 y5 => go h5 al5 b4 x4 x5 y1 (by have : (swpB W a (m + 1) b Z).2 = (swpB W a m (b + 1) (swpT W a b Z)).2 := rfl; omega) y3 y4 y5)
      rw [← nS b (by omega)] at nx
      have no : ¬ (0 ≤ Z.1 a ∧ 0 ≤ Z.1 b ∧ W a (Z.1 a) < W a (Z.1 b) ∧ W b (Z.1 b) < W b (Z.1 a)) → swpT W a b Z = Z := fun q => by unfold swpT; rw [if_neg q]
      have hga := hgd a ha
      have hgb := hgd b (by omega)
      -- what stands in the row
      obtain ⟨za, hza⟩ : ∃ za, h3 22 a = za := ⟨_, rfl⟩
      obtain ⟨zb, hzb⟩ : ∃ zb, h3 22 b = zb := ⟨_, rfl⟩
      have oa := hO a ha
      have ob := hO b (by omega)
      rw [hza] at oa
      rw [hzb] at ob
      obtain ⟨h3', rfl⟩ := id hW3
      refine XW_t4 [30, 140] 120 okBy_swaps ?_
      refine ite_t (show (b : Int) < wr h3' 1 5 by rw [f1]; omega) ?_
      refine c_atE rfl rfl (by show a < 6; exact ha6) hza ?_
      refine c_atE rfl rfl (by show b < 6; exact hb6) hzb ?_
      refine ite_i (fun q => ?_) (fun q => ?_)
      · have q : za = -5 := q
        have e := no (fun q2 => by omega)
        rw [e] at nx
        exact nx _ _ _ _ hc hA3 hO
      · have q : ¬ za = -5 := q
        refine ite_i (fun q2 => ?_) (fun q2 => ?_)
        · have q2 : zb = -5 := q2
          have e := no (fun q2 => by omega)
          rw [e] at nx
          exact nx _ _ _ _ hc hA3 hO
        · have q2 : ¬ zb = -5 := q2
          have eza : za = Z.1 a := by omega
          have ezb : zb = Z.1 b := by omega
          subst eza
          subst ezb
          refine c_wouldRather hA3 ha (by omega) (by omega) fun h4 al4 hc4 hA4 => ?_
          rw [← hWW]
          have hcc4 := hc.trans hc4.cq
          have hO4 : ∀ p, p < nP → (Z.1 p = -1 ∧ h4 22 p = -5) ∨ (0 ≤ Z.1 p ∧ h4 22 p = Z.1 p) := fun p hp => by rw [hc4.1 22 p rfl]; exact hO p hp
          have hW4 := hA4.1.1
          obtain ⟨h4', rfl⟩ := id hW4
          by_cases w1 : W a (Z.1 a) < W a (Z.1 b)
          · rw [if_pos w1]
            refine c_wouldRather hA4 (show b < nP by omega) (by omega) (by omega) fun h5 al5 hc5 hA5 => ?_
            rw [← hWW]
            have hcc5 := hcc4.trans hc5.cq
            have hO5 : ∀ p, p < nP → (Z.1 p = -1 ∧ h5 22 p = -5) ∨ (0 ≤ Z.1 p ∧ h5 22 p = Z.1 p) := fun p hp => by rw [hc5.1 22 p rfl]; exact hO4 p hp
            have hW5 := hA5.1.1
            by_cases w2 : W b (Z.1 b) < W b (Z.1 a)
            · rw [if_pos w2]
              have e : swpT W a b Z = (fun p => if p = b then Z.1 a else if p = a then Z.1 b else Z.1 p, Z.2 + 1) := by unfold swpT; rw [if_pos ⟨by omega, by omega, w1, w2⟩]
              rw [e] at nx
              have hc6 : CQF h al (uH (uH h5 22 a (Z.1 b)) 22 b (Z.1 a)) al5 := hcc5.trans ⟨fun q j e1 e2 => by rw [uH_ne (by omega), uH_ne (by omega)], fun _ _ => rfl⟩
              have hA6 := hA.qf hc6.qf ((hA5.2.1.1.up (by omega)).up (by omega))
              have t := fun x4 x5 => nx (uH (uH h5 22 a (Z.1 b)) 22 b (Z.1 a)) al5 x4 x5 hc6 hA6 (fun p hp => by
                rw [uH_r, uH_r]
                show ((if p = b then Z.1 a else if p = a then Z.1 b else Z.1 p) = -1 ∧ _) ∨ (0 ≤ (if p = b then Z.1 a else if p = a then Z.1 b else Z.1 p) ∧ _ = (if p = b then Z.1 a else if p = a then Z.1 b else Z.1 p))
                by_cases c1 : p = b
                · rw [if_pos c1, if_pos c1]
                  exact Or.inr ⟨by omega, rfl⟩
                · rw [if_neg c1, if_neg c1]
                  by_cases c2 : p = a
                  · rw [if_pos c2, if_pos c2]
                    exact Or.inr ⟨by omega, rfl⟩
                  · rw [if_neg c2, if_neg c2]
                    exact hO5 p hp)
              have en : ((Z.2 + 1 : Nat) : Int) = wI ((Z.2 : Int) + 1) := (nS Z.2 (by omega)).symm
              rw [en] at t
              obtain ⟨h5', rfl⟩ := id hW5
              refine c_putE rfl rfl (by show a < 6; exact ha6) ?_
              refine c_putE rfl rfl (by show b < 6; exact hb6) ?_
              exact t _ _
            · rw [if_neg w2]
              have e := no (fun q2 => w2 q2.2.2.2)
              rw [e] at nx
              obtain ⟨h5', rfl⟩ := id hW5
              exact nx _ _ _ _ hcc5 hA5 hO5
          · rw [if_neg w1]
            have e := no (fun q2 => w1 q2.2.2.1)
            rw [e] at nx
            exact nx _ _ _ _ hcc4 hA4 hO4
  have loopA : ∀ (m a : Nat) (Z : (Nat → Int) × Nat) (h3 : HH) (al3 : AL) (x3 x4 x5 : Option XV), a + m = nP → Z.2 + 6 * m < 1000 → swpA W nP m a Z = swpA W nP nP 0 (O, 0) → gdS2 nH nP Z → CQF h al h3 al3 → ALLf h3 al3 V nV vl nH nP rd lots l yr lo S O P k v st → (∀ p, p < nP → (Z.1 p = -1 ∧ h3 22 p = -5) ∨ (0 ≤ Z.1 p ∧ h3 22 p = Z.1 p)) →
      XW g (d + 8) mBy_swaps (fun v h1 al1 => Call g (d + 9) yMo_swaps [xr 120] h1 al1 (Ok2 v)) 15 [some (xr 0), some (xi (Z.2 : Int)), some (xi (a : Int)), x3, x4, x5] [] h3 al3 := by
    intro m
    induction m with
    | zero =>
      intro a Z h3 al3 x3 x4 x5 ha hz hsw hgd hc hA3 hO
      have hW3 := hA3.1.1
      have f1 := hA3.1.2.1.1.2.1.1
      have md := mod h3 al3 hA3 (hA.sim hS hc.qf hA3.2.1.1)
      rw [← hsw] at md
      obtain ⟨h3', rfl⟩ := id hW3
      refine XW_t4 [15] 60 okBy_swaps ?_
      refine ite_f (show ¬ (a : Int) < wr h3' 1 5 by rw [f1]; omega) ?_
      exact md
    | succ m ih =>
      intro a Z h3 al3 x3 x4 x5 ha hz hsw hgd hc hA3 hO
      have hW3 := hA3.1.1
      have f1 := hA3.1.2.1.1.2.1.1
      have t := loopB (nP - (a + 1)) (a + 1) a Z h3 al3 x4 x5 (by omega) (by omega) (by omega) (by omega) hgd hc hA3 hO (fun h4 al4 b4 x4 x5 y1 y2 y3 y4 y5 => by
        have t2 := ih (a + 1) (swpB W a (nP - (a + 1)) (a + 1) Z) h4 al4 (some (xi b4)) x4 x5 (by omega) (by omega) hsw y1 y3 y4 y5
        rw [← nS a (by omega)] at t2
        refine XW_t4 [15] 60 okBy_swaps ?_
        exact t2)
      rw [← nS a (by omega)] at t
      obtain ⟨h3', rfl⟩ := id hW3
      refine XW_t4 [15, 30] 60 okBy_swaps ?_
      refine ite_t (show (a : Int) < wr h3' 1 5 by rw [f1]; omega) ?_
      exact t
  obtain ⟨h0, rfl⟩ := id hW
  refine cof ocBy_swaps rfl (XW_t4 [15] 60 okBy_swaps ?_)
  refine c_become_an hW fun h2 hb hW2 => ?_
  obtain ⟨hA2, hc2, -, -, hcw2, -, -⟩ := hA.ahead hb
  have t := loopA nP 0 (O, 0) h2 al none none none (by omega) (by show 0 + 6 * nP < 1000; omega) rfl gO hc2 hA2 (fun p hp => (hcw2.2.1 p (by omega)).1 hp)
  obtain ⟨h2', rfl⟩ := id hW2
  exact t
end Q8
