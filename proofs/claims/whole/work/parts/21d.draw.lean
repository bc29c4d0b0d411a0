-- the reference's years
/-- the world that is tried tells S, O, P -/
def MWd (h : HH) (nH nP : Nat) (S : Nat → Nat) (O P : Nat → Int) : Prop := (∀ j, j < nH → h 142 j = (S j : Int) ∧ h 143 j = ow O nP j) ∧ ∀ p, p < nP → h 144 p = O p ∧ h 145 p = P p
/-- what years of the reference may change -/
def YF (h h2 : HH) : Prop := ∀ a k, a ≠ 139 → (a < 142 ∨ 153 < a) → ¬ (a = 120 ∧ (k = 36 ∨ k = 50)) → h2 a k = h a k
theorem YF.refl {h : HH} : YF h h := fun _ _ _ _ _ => rfl
theorem YF.trans {h h2 h3 : HH} (a : YF h h2) (b : YF h2 h3) : YF h h3 := fun q k e1 e2 e3 => (b q k e1 e2 e3).trans (a q k e1 e2 e3)
theorem MF.yf {h h2 : HH} (a : MF h h2) : YF h h2 := fun q k e1 e2 _ => a q k e1 (by omega)
theorem YF.up {h h2 : HH} {a k : Nat} {z : Int} (hf : YF h h2) (ha : (142 ≤ a ∧ a ≤ 153) ∨ (a = 120 ∧ (k = 36 ∨ k = 50))) : YF h (uH h2 a k z) := fun q j e1 e2 e3 => by
  rw [uH_ne (by omega)]
  exact hf q j e1 e2 e3
theorem YF.wd {h h2 : HH} (hm : YF h h2) (hW : Wd h) : Wd h2 := hW.of fun a k hk => by
  by_cases q : a = 139 ∨ (142 ≤ a ∧ a ≤ 153)
  · have c : ck 154 (fun a => decide ((a = 139 ∨ 142 ≤ a) → wl a = [])) = true := by decide +kernel
    have := of_decide_eq_true (ck_of c (show a < 154 by omega)) (by omega)
    exact absurd (by rw [this]; show (-9 : Int) < 0; decide) hk
  · refine hm a k (by omega) (by omega) ?_
    rintro ⟨rfl, q2⟩
    rcases q2 with rfl | rfl
    · exact hk (by decide)
    · exact hk (by decide)
theorem YF.mz {h h2 : HH} {V : List Cl} {q0 : Nat} (hm : YF h h2) (hQ : MZ h V q0) : MZ h2 V q0 := by
  refine hQ.fr fun a k q => ?_
  have c : ck 154 (fun a => decide ((a = 139 ∨ 142 ≤ a) → inR 131 136 a = false ∧ Nat.beq a 120 = false)) = true := by decide +kernel
  by_cases q2 : a = 139 ∨ (142 ≤ a ∧ a ≤ 153)
  · have := of_decide_eq_true (ck_of c (show a < 154 by omega)) (by omega)
    unfold tQ at q
    rw [this.1, this.2] at q
    cases q
  · refine hm a k (by omega) (by omega) ?_
    rintro ⟨rfl, q3⟩
    rcases q3 with rfl | rfl <;> cases q
theorem YF.mb {h h2 : HH} {V : List Cl} {pay : Int} {tk tv : Nat → Int} {st : Nat → Nat → Int} {nP : Nat} (hm : YF h h2) (hB : MB h V pay tk tv st nP) : MB h2 V pay tk tv st nP := by
  obtain ⟨⟨h1, q0, hz⟩, h2, h3⟩ := hB
  refine ⟨⟨h1, q0, hm.mz hz⟩, (hm _ _ (by decide) (by decide) (by decide)).trans h2, fun p hp => ?_⟩
  rw [hm 140 p (by decide) (by decide) (by omega), hm 141 p (by decide) (by decide) (by omega)]
  refine ⟨(h3 p hp).1, (h3 p hp).2.1, fun l hl => ?_⟩
  rw [hm 127 _ (by decide) (by decide) (by omega)]
  exact (h3 p hp).2.2 l hl
theorem MC.ot {h h2 : HH} {V : List Cl} {e : Nat → Int} {x : Nat} (hM : MC h V e x) (hq : ∀ a k, 146 ≤ a → a ≤ 152 → h2 a k = h a k) : MC h2 V e x := fun p i hp hi => by
  rw [hq 146 _ (by decide) (by decide), hq 147 _ (by decide) (by decide)]
  obtain ⟨m1, m2⟩ := hM p i hp hi
  refine ⟨?_, fun hx => ?_⟩
  · rcases m1 with m | ⟨m3, m4⟩
    · exact Or.inl m
    · exact Or.inr ⟨m3, fun w l s q1 q2 q3 q4 => (hq _ _ (by omega) (by omega)).trans (m4 w l s q1 q2 q3 q4)⟩
  · rcases m2 hx with m | ⟨m3, m4, m5⟩
    · exact Or.inl m
    · exact Or.inr ⟨m3, m4, fun l s q1 q2 => by rw [hq 152 _ (by decide) (by decide), hq 151 _ (by decide) (by decide)]; exact m5 l s q1 q2⟩
theorem MC.up {h : HH} {V : List Cl} {e : Nat → Int} {x a k : Nat} {z : Int} (hM : MC h V e x) (ha : a < 146 ∨ 152 < a) : MC (uH h a k z) V e x := hM.ot fun q j e1 e2 => uH_ne (by omega)
/-- what is told, and the LOT -/
def YQ (h : HH) (nH nP rd lots : Nat) (lo : Nat → Nat) : Prop := h 120 1 = (nP : Int) ∧ h 120 0 = (nH : Int) ∧ h 120 5 = (lots : Int) ∧ h 120 35 = (rd : Int) ∧ ∀ q, q < lots → h 128 q = (lo q : Int)
theorem YQ.yf {h h2 : HH} {nH nP rd lots : Nat} {lo : Nat → Nat} (hQ : YQ h nH nP rd lots lo) (hf : YF h h2) : YQ h2 nH nP rd lots lo := by
  obtain ⟨q1, q2, q3, q4, q5⟩ := hQ
  exact ⟨(hf 120 1 (by decide) (by decide) (by decide)).trans q1, (hf 120 0 (by decide) (by decide) (by decide)).trans q2, (hf 120 5 (by decide) (by decide) (by decide)).trans q3, (hf 120 35 (by decide) (by decide) (by decide)).trans q4, fun q hq => (hf 128 q (by decide) (by decide) (by omega)).trans (q5 q hq)⟩
section MD
variable {g : GC} {d : Nat} {h : HH} {al : AL} {K : KT}
theorem c_isLot {nH nP rd lots : Nat} {lo : Nat → Nat} (hW : Wd h) (hQ : YQ h nH nP rd lots lo) (hL : lots ≤ 6) (hK : K (some (xi (if lotB lots nH lo = true then 1 else 0))) h al) : Call g (d + 1) yMo_isLot [xr 120] h al K := by
  obtain ⟨q1, q2, q3, q4, q5⟩ := hQ
  have hno : lotB lots nH lo = false → K (some (xi 0)) h al := fun e => by
    rw [e] at hK
    exact hK
  obtain ⟨h0, rfl⟩ := id hW
  have loop : ∀ m k : Nat, k + m = lots → lots = nH → (∀ q, q < k → lo q < nH) → XW g d mMo_isLot K 15 [some (xr 120), some (xi (k : Int))] [] (wr h0) al := by
    intro m
    induction m with
    | zero =>
      intro k hk hL2 hq
      refine XW_t4 [15] 40 okMo_isLot ?_
      refine ite_f (show ¬ (k : Int) < wr h0 120 5 by omega) ?_
      rw [lotB_i hL2 fun q hq2 => hq q (by omega)] at hK
      exact ⟨Or.inr rfl, hK⟩
    | succ m ih =>
      intro k hk hL2 hq
      refine XW_t4 [15] 40 okMo_isLot ?_
      refine ite_t (show (k : Int) < wr h0 120 5 by omega) ?_
      refine ⟨k, rfl, by show k < 6; omega, _, q5 k (by omega), ?_⟩
      refine ite_i (fun e => ?_) (fun e => ?_)
      · have e : (lo k : Int) < wr h0 120 0 := e
        have := ih (k + 1) (by omega) hL2 fun q hq2 => by
          by_cases e2 : q = k
          · rw [e2]; omega
          · exact hq q (by omega)
        rw [← nS k (by omega)] at this
        exact this
      · have e : ¬ (lo k : Int) < wr h0 120 0 := e
        refine ⟨Or.inl rfl, hno ?_⟩
        cases e2 : lotB lots nH lo with
        | false => rfl
        | true => exact absurd ((lotB_lt e2).2 k (by omega)) (by omega)
  refine cof ocMo_isLot rfl (XW_t4 [15] 40 okMo_isLot ?_)
  refine ite_i (fun q => ?_) (fun q => ?_)
  · have q : wr h0 120 5 = wr h0 120 0 := q
    exact loop lots 0 (by omega) (by omega) (fun q hq => absurd hq (by omega))
  · have q : ¬ wr h0 120 5 = wr h0 120 0 := q
    refine ⟨Or.inl rfl, hno ?_⟩
    unfold lotB
    rw [decide_eq_false (by omega)]
    rfl
set_option maxRecDepth 8000 in
theorem c_draw {nH nP rd lots : Nat} {lo : Nat → Nat} {S : Nat → Nat} {O P : Nat → Int} {pay : Int} (hW : Wd h) (hQ : YQ h nH nP rd lots lo) (hL : lots ≤ 6) (hd : ∀ p q, p < lots → q < lots → lo p = lo q → p = q) (hnP : nP ≤ 6) (hnH : nH ≤ 6) (hM : MWd h nH nP S O P) (hpay : h 120 34 = pay) (hO : ∀ p, p < nP → O p = -1 ∨ (0 ≤ O p ∧ O p < (nH : Int))) (hP : ∀ p, p < nP → I32 (P p)) (hlo6 : ∀ q, q < lots → lo q < 6)
    (hK : ∀ h2 : HH, (∀ a k, (a < 143 ∨ 145 < a) → h2 a k = h a k) → MWd h2 nH nP S (if lotB lots nH lo = true then oE lots lo else O) (pE pay S O P) → K none h2 al) : Call g (d + 2) yMo_draw [xr 120] h al K := by
  obtain ⟨m1, m2⟩ := id hM
  have frW : ∀ h2 : HH, (∀ a k, (a < 143 ∨ 145 < a) → h2 a k = h a k) → Wd h2 := fun h2 fa => YF.wd (fun a k _ e2 _ => fa a k (by omega)) hW
  have frQ : ∀ h2 : HH, (∀ a k, (a < 143 ∨ 145 < a) → h2 a k = h a k) → YQ h2 nH nP rd lots lo := fun h2 fa => hQ.yf (fun a k _ e2 _ => fa a k (by omega))
  have loopC : ∀ (m k : Nat) (h2 : HH) (x2 : Option XV), lotB lots nH lo = true → k ≤ lots → k ≤ nP → k + m = lots → (∀ a k, (a < 143 ∨ 145 < a) → h2 a k = h a k) → (∀ p, p < nP → h2 145 p = pE pay S O P p) → (∀ p, p < 6 → h2 144 p = if p < k then (lo p : Int) else -1) → (∀ q, q < k → h2 143 (lo q) = (q : Int)) → (∀ x, x < 6 → (∀ q, q < k → lo q ≠ x) → h2 143 x = -1) →
      XW g (d + 1) mMo_draw K 89 [some (xr 120), some (xi (k : Int)), x2] [] h2 al := by
    intro m k h2 x2 hb
    have fin : ∀ (k : Nat) (h2 : HH), k ≤ lots → k ≤ nP → (k = lots ∨ k = nP) → (∀ a k, (a < 143 ∨ 145 < a) → h2 a k = h a k) → (∀ p, p < nP → h2 145 p = pE pay S O P p) → (∀ p, p < 6 → h2 144 p = if p < k then (lo p : Int) else -1) → (∀ q, q < k → h2 143 (lo q) = (q : Int)) → (∀ x, x < 6 → (∀ q, q < k → lo q ≠ x) → h2 143 x = -1) → K none h2 al := by
      intro k h2 e1 e2 e3 fa fP fO f3 f4
      refine hK h2 fa ⟨fun j hj => ⟨(fa 142 j (by omega)).trans (m1 j hj).1, ?_⟩, fun p hp => ⟨?_, fP p hp⟩⟩
      · rw [if_pos hb]
        rcases ow_c (oE lots lo) (j : Int) nP with ⟨a1, a2⟩ | ⟨p, a1, a2, a3⟩
        · rw [a1]
          refine f4 j (by omega) fun q hq e => a2 q (by omega) ?_
          unfold oE
          rw [if_pos (by omega), e]
        · rw [a2]
          unfold oE at a3
          by_cases q : p < lots
          · rw [if_pos q] at a3
            rw [show j = lo p by omega]
            exact f3 p (by omega)
          · rw [if_neg q] at a3
            omega
      · rw [if_pos hb, fO p (by omega)]
        unfold oE
        by_cases q : p < lots
        · rw [if_pos q, if_pos (by omega)]
        · rw [if_neg q, if_neg (by omega)]
    revert k h2 x2
    induction m with
    | zero =>
      intro k h2 x2 e1 e2 hk fa fP fO f3 f4
      have hQ2 := frQ h2 fa
      have done := fin k h2 e1 e2 (Or.inl (by omega)) fa fP fO f3 f4
      obtain ⟨h3, rfl⟩ := frW h2 fa
      refine XW_t4 [89] 60 okMo_draw ?_
      refine ite_f (show ¬ (k : Int) < wr h3 120 5 by rw [hQ2.2.2.1]; omega) ?_
      exact done
    | succ m ih =>
      intro k h2 x2 e1 e2 hk fa fP fO f3 f4
      have hQ2 := frQ h2 fa
      by_cases q : k = nP
      · have done := fin k h2 e1 e2 (Or.inr q) fa fP fO f3 f4
        obtain ⟨h3, rfl⟩ := frW h2 fa
        refine XW_t4 [89] 60 okMo_draw ?_
        refine ite_t (show (k : Int) < wr h3 120 5 by rw [hQ2.2.2.1]; omega) ?_
        refine ite_f (show ¬ (k : Int) < wr h3 120 1 by rw [hQ2.1]; omega) ?_
        exact done
      · have hlk := hlo6 k (by omega)
        have := ih (k + 1) (uH (uH h2 144 k (lo k : Int)) 143 (lo k) (k : Int)) x2 (by omega) (by omega) (by omega) (fun a j e => by rw [uH_ne (by omega), uH_ne (by omega)]; exact fa a j e) (fun p hp => by rw [uH_ne (by omega), uH_ne (by omega)]; exact fP p hp) (fun p hp => by
          rw [uH_ne (by omega), uH_r]
          by_cases e : p = k
          · rw [if_pos e, if_pos (by omega), e]
          · rw [if_neg e, fO p hp]
            by_cases e3 : p < k
            · rw [if_pos e3, if_pos (by omega)]
            · rw [if_neg e3, if_neg (by omega)]) (fun q hq => by
          rw [uH_r]
          by_cases e : lo q = lo k
          · have := hd q k (by omega) (by omega) e
            rw [if_pos e, this]
          · rw [if_neg e, uH_ne (by omega)]
            refine f3 q ?_
            by_cases e3 : q = k
            · rw [e3] at e
              exact absurd rfl e
            · omega) (fun x hx hno => by
          rw [uH_r, if_neg (fun e => hno k (by omega) e.symm), uH_ne (by omega)]
          exact f4 x hx fun q hq => hno q (by omega))
        rw [← nS k (by omega)] at this
        have g5 : ∀ z, (uH h2 144 k z) 128 k = (lo k : Int) := fun z => by rw [uH_ne (by omega)]; exact hQ2.2.2.2.2 k (by omega)
        obtain ⟨h3, rfl⟩ := frW h2 fa
        refine XW_t4 [89] 60 okMo_draw ?_
        refine ite_t (show (k : Int) < wr h3 120 5 by rw [hQ2.2.2.1]; omega) ?_
        refine ite_t (show (k : Int) < wr h3 120 1 by rw [hQ2.1]; omega) ?_
        refine ⟨k, rfl, by show k < 6; omega, _, hQ2.2.2.2.2 k (by omega), ?_⟩
        refine ⟨k, rfl, by show k < 6; omega, ?_⟩
        refine ⟨k, rfl, by show k < 6; omega, _, g5 _, ?_⟩
        refine ⟨lo k, rfl, by show lo k < 6; omega, ?_⟩
        exact this
  have loopB : ∀ (m k : Nat) (h2 : HH) (x2 : Option XV), lotB lots nH lo = true → k + m = 6 → (∀ a k, (a < 143 ∨ 145 < a) → h2 a k = h a k) → (∀ p, p < nP → h2 145 p = pE pay S O P p) → (∀ p, p < k → h2 144 p = -1 ∧ h2 143 p = -1) →
      XW g (d + 1) mMo_draw K 61 [some (xr 120), some (xi (k : Int)), x2] [] h2 al := by
    intro m
    induction m with
    | zero =>
      intro k h2 x2 hb hk fa fP fO
      obtain ⟨h3, rfl⟩ := frW h2 fa
      refine XW_t4 [61, 89] 60 okMo_draw ?_
      refine ite_f (by omega) ?_
      exact loopC lots 0 (wr h3) x2 hb (by omega) (by omega) (by omega) fa fP (fun p hp => by rw [if_neg (by omega)]; exact (fO p (by omega)).1) (fun q hq => absurd hq (by omega)) (fun x hx _ => (fO x (by omega)).2)
    | succ m ih =>
      intro k h2 x2 hb hk fa fP fO
      have := ih (k + 1) (uH (uH h2 143 k (-1)) 144 k (-1)) x2 hb (by omega) (fun a j e => by rw [uH_ne (by omega), uH_ne (by omega)]; exact fa a j e) (fun p hp => by rw [uH_ne (by omega), uH_ne (by omega)]; exact fP p hp) (fun p hp => by
        by_cases e : p = k
        · subst e
          rw [uH_at, uH_ne (by omega), uH_at]
          exact ⟨rfl, rfl⟩
        · rw [uH_ne (by omega), uH_ne (by omega), uH_ne (by omega), uH_ne (by omega)]
          exact fO p (by omega))
      rw [← nS k (by omega)] at this
      obtain ⟨h3, rfl⟩ := frW h2 fa
      refine XW_t4 [61] 60 okMo_draw ?_
      refine ite_t (by omega) ?_
      refine ⟨k, rfl, by show k < 6; omega, ?_⟩
      refine ⟨k, rfl, by show k < 6; omega, ?_⟩
      exact this
  have loopA : ∀ (m k : Nat) (h2 : HH) (x2 : Option XV), k + m = nP → (∀ a j, a ≠ 145 → h2 a j = h a j) → (∀ p, p < nP → h2 145 p = if p < k then pE pay S O P p else P p) →
      XW g (d + 1) mMo_draw K 2 [some (xr 120), some (xi (k : Int)), x2] [] h2 al := by
    intro m
    induction m with
    | zero =>
      intro k h2 x2 hk fa fP
      have fa2 : ∀ a k, (a < 143 ∨ 145 < a) → h2 a k = h a k := fun a j e => fa a j (by omega)
      have hQ2 := frQ h2 fa2
      have hW2 := frW h2 fa2
      have fP2 : ∀ p, p < nP → h2 145 p = pE pay S O P p := fun p hp => by rw [fP p hp, if_pos (by omega)]
      have fOw : ∀ j, h2 143 j = h 143 j := fun j => fa 143 j (by omega)
      have fO : ∀ j, h2 144 j = h 144 j := fun j => fa 144 j (by omega)
      obtain ⟨h3, rfl⟩ := id hW2
      refine XW_t4 [2, 61] 60 okMo_draw ?_
      refine ite_f (show ¬ (k : Int) < wr h3 120 1 by rw [hQ2.1]; omega) ?_
      refine c_isLot hW2 hQ2 hL ?_
      cases hb : lotB lots nH lo with
      | false =>
        refine hK _ fa2 ⟨fun j hj => ⟨(fa2 142 j (by omega)).trans (m1 j hj).1, ?_⟩, fun p hp => ⟨?_, fP2 p hp⟩⟩
        · rw [fOw, hb]
          exact (m1 j hj).2
        · rw [fO, hb]
          exact (m2 p hp).1
      | true => exact loopB 6 0 (wr h3) x2 hb rfl fa2 fP2 (fun p hp => absurd hp (by omega))
    | succ m ih =>
      intro k h2 x2 hk fa fP
      have fa2 : ∀ a k, (a < 143 ∨ 145 < a) → h2 a k = h a k := fun a j e => fa a j (by omega)
      have hQ2 := frQ h2 fa2
      have hW2 := frW h2 fa2
      have fPk : h2 145 k = P k := by rw [fP k (by omega), if_neg (by omega)]
      have fOk : h2 144 k = O k := (fa 144 k (by omega)).trans (m2 k (by omega)).1
      have fpay : h2 120 34 = pay := (fa 120 34 (by omega)).trans hpay
      have next : ∀ z, z = pE pay S O P k → XW g (d + 1) mMo_draw K 2 [some (xr 120), some (xi (wI ((k : Int) + 1))), some (xi (O k))] [] (uH h2 145 k z) al := fun z hz => by
        have := ih (k + 1) (uH h2 145 k z) (some (xi (O k))) (by omega) (fun a j e => by rw [uH_ne (by omega)]; exact fa a j e) (fun p hp => by
          rw [uH_r]
          by_cases e : p = k
          · rw [if_pos e, if_pos (by omega), hz, e]
          · rw [if_neg e, fP p hp]
            by_cases e3 : p < k
            · rw [if_pos e3, if_pos (by omega)]
            · rw [if_neg e3, if_neg (by omega)])
        rw [nS k (by omega)]
        exact this
      have hOk := hO k (by omega)
      obtain ⟨h3, rfl⟩ := id hW2
      refine XW_t4 [2] 60 okMo_draw ?_
      refine ite_t (show (k : Int) < wr h3 120 1 by rw [hQ2.1]; omega) ?_
      refine ⟨k, rfl, by show k < 6; omega, _, fOk, ?_⟩
      refine ⟨k, rfl, by show k < 6; omega, _, fPk, ?_⟩
      refine ite_i (fun q => ?_) (fun q => ?_)
      · have q : O k < 0 := q
        refine ⟨k, rfl, by show k < 6; omega, ?_⟩
        have t := next (wI (P k + 0)) (by unfold pE; rw [if_pos q]; exact wI_0 (hP k (by omega)))
        exact t
      · have q : ¬ O k < 0 := q
        refine ⟨(O k).toNat, by omega, by show (O k).toNat < 6; omega, _, (fa 142 _ (by omega)).trans (m1 (O k).toNat (by omega)).1, ?_⟩
        refine ⟨k, rfl, by show k < 6; omega, ?_⟩
        have t := next (wI (P k + wI (wr h3 120 34 * (S (O k).toNat : Int)))) (by unfold pE; rw [if_neg q, fpay])
        exact t
  obtain ⟨h0, rfl⟩ := id hW
  refine cof ocMo_draw rfl (XW_t4 [2] 60 okMo_draw ?_)
  exact loopA nP 0 _ none (by omega) (fun _ _ _ => rfl) (fun p hp => by rw [if_neg (by omega)]; exact (m2 p hp).2)
end MD
