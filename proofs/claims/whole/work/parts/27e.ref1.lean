-- the reference reads a text: leaves
def TXm (ch : Nat → Int) (N : Nat) (h : HH) : Prop := h 120 18 = (N : Int) ∧ N ≤ 100 ∧ (∀ k, k < N → (-128 ≤ h 130 k ∧ h 130 k < 128) ∧ ch k = h 130 k % 256) ∧ ∀ k, N ≤ k → ch k = 0
/-- what the reference reads, beside what the class reads -/
def nxr (r x : Int) : Prop := (1 ≤ r ∧ r ≤ 127 ∧ r = x) ∨ (r ≤ 0 ∧ (x ≤ 0 ∨ 128 ≤ x))
/-- only place and number -/
def FN (h h2 : HH) : Prop := ∀ a k, ¬ (a = 120 ∧ (k = 19 ∨ k = 20)) → h2 a k = h a k
theorem FN.refl {h : HH} : FN h h := fun _ _ _ => rfl
theorem FN.trans {h h2 h3 : HH} (a : FN h h2) (b : FN h2 h3) : FN h h3 := fun q k e => (b q k e).trans (a q k e)
theorem FN.up {h h2 : HH} {k : Nat} {z : Int} (hf : FN h h2) (hk : k = 19 ∨ k = 20) : FN h (uH h2 120 k z) := fun a j e => by
  rw [uH_ne (by omega)]
  exact hf a j e
theorem FN.wd {h h2 : HH} (hf : FN h h2) (hW : Wd h) : Wd h2 := hW.of fun a k hk => hf a k (by rintro ⟨rfl, rfl | rfl⟩ <;> exact hk (by decide))
theorem TXm.fn {ch : Nat → Int} {N : Nat} {h h2 : HH} (hT : TXm ch N h) (hf : FN h h2) : TXm ch N h2 := by
  obtain ⟨t1, t2, t3, t4⟩ := hT
  refine ⟨(hf _ _ (by omega)).trans t1, t2, fun k hk => ?_, t4⟩
  rw [hf 130 k (by omega)]
  exact t3 k hk
section MR1
variable {g : GC} {d : Nat} {h : HH} {al : AL} {K : KT} {ch : Nat → Int} {N p : Nat}
theorem c_Mnext (hW : Wd h) (hT : TXm ch N h) (hp : h 120 19 = (p : Int)) (hK : ∀ r : Int, nxr r (ch p) → K (some (xi r)) h al) : Call g (d + 1) yMo_next [xr 120] h al K := by
  obtain ⟨t1, t2, t3, t4⟩ := hT
  obtain ⟨h0, rfl⟩ := hW
  refine cof ocMo_next rfl (XW_t4 [] 40 okMo_next ?_)
  by_cases q : p < N
  · refine ite_t (show wr h0 120 19 < wr h0 120 18 by omega) ?_
    refine ⟨p, hp, by show p < 100; omega, _, rfl, hK (wr h0 130 p) ?_⟩
    have := t3 p q
    unfold nxr
    omega
  · refine ite_f (show ¬ wr h0 120 19 < wr h0 120 18 by omega) ?_
    refine hK _ (Or.inr ⟨by decide, Or.inl ?_⟩)
    rw [t4 p (by omega)]
    exact Int.le_refl _
theorem c_takes {c : Int} (hc : 1 ≤ c ∧ c ≤ 127) (hW : Wd h) (hT : TXm ch N h) (hp : h 120 19 = (p : Int)) (ht : ch p = c → ∀ h2 : HH, FN h h2 → h2 120 19 = ((p + 1 : Nat) : Int) → K (some (xi 1)) h2 al) (hf : ch p ≠ c → K (some (xi 0)) h al) : Call g (d + 2) yMo_takes [xr 120, xi c] h al K := by
  have hT2 := hT
  have hW2 := hW
  obtain ⟨t1, t2, t3, t4⟩ := hT
  obtain ⟨h0, rfl⟩ := hW
  refine cof ocMo_takes rfl (XW_t4 [] 40 okMo_takes ?_)
  refine c_Mnext hW2 hT2 hp fun r hr => ?_
  refine ite_i (fun q => ?_) (fun q => ?_)
  · have q : r = c := q
    have e : ch p = c := by unfold nxr at hr; omega
    have l1 := ch_lt t4 (p := p) (by omega)
    refine ⟨Or.inr rfl, ht e _ (FN.refl.up (Or.inl rfl)) ?_⟩
    rw [uH_at]
    show wI (wr h0 120 19 + 1) = _
    rw [hp, nS p (by omega)]
  · have q : ¬ r = c := q
    exact ⟨Or.inl rfl, hf (by unfold nxr at hr; omega)⟩
theorem c_isDigit (hW : Wd h) (hT : TXm ch N h) (hp : h 120 19 = (p : Int)) (ht : 48 ≤ ch p ∧ ch p ≤ 57 → K (some (xi 1)) h al) (hf : ¬ (48 ≤ ch p ∧ ch p ≤ 57) → K (some (xi 0)) h al) : Call g (d + 2) yMo_isDigit [xr 120] h al K := by
  have hT2 := hT
  have hW2 := hW
  obtain ⟨h0, rfl⟩ := hW
  refine cof ocMo_isDigit rfl (XW_t4 [] 40 okMo_isDigit ?_)
  refine c_Mnext hW2 hT2 hp fun r hr => ?_
  unfold nxr at hr
  exact c_in (fun q => ⟨Or.inr rfl, ht (by omega)⟩) (fun q => ⟨Or.inl rfl, hf (by omega)⟩)
theorem c_takesNumber (hW : Wd h) (hT : TXm ch N h) (hp : h 120 19 = (p : Int)) (hpN : p ≤ N) (hK : ∀ h2 : HH, FN h h2 → h2 120 19 = ((nuS ch p).2.1 : Int) → ((nuS ch p).1 = true → h2 120 20 = ((nuS ch p).2.2 : Int)) → K (some (xi (bI (nuS ch p).1))) h2 al) : Call g (d + 3) yMo_takesNumber [xr 120] h al K := by
  have hT2 := hT
  have hW2 := hW
  obtain ⟨t1, t2, t3, t4⟩ := id hT
  unfold nuS at hK
  by_cases q : 48 ≤ ch p ∧ ch p ≤ 57
  · rw [if_pos q] at hK
    have l1 := ch_lt t4 (p := p) (by omega)
    have hf1 : FN h (uH h 120 20 0) := FN.refl.up (Or.inr rfl)
    -- behind the first digit
    have k16 : ∀ h3 : HH, FN h h3 → h3 120 19 = ((p + 1 : Nat) : Int) → h3 120 20 = ch p - 48 → XW g (d + 2) mMo_takesNumber K 16 [some (xr 120), some (xi 1)] [] h3 al := by
      intro h3 hf3 e19 e20
      have hT3 := hT.fn hf3
      have hW3 := hf3.wd hW
      by_cases q2 : 48 ≤ ch (p + 1) ∧ ch (p + 1) ≤ 57
      · rw [if_pos q2] at hK
        have l2 := ch_lt t4 (p := p + 1) (by omega)
        have hW3' := hW3
        obtain ⟨h3', rfl⟩ := hW3
        refine XW_t4 [16] 60 okMo_takesNumber ?_
        refine c_isDigit hW3' hT3 e19 (fun _ => ?_) (fun q3 => absurd q2 q3)
        refine c_Mnext hW3' hT3 e19 fun r hr => ?_
        have er : r = ch (p + 1) := by unfold nxr at hr; omega
        subst er
        refine XW_t4 [] 40 okMo_takesNumber ?_
        refine ⟨Or.inr rfl, hK _ ((hf3.up (Or.inr rfl)).up (Or.inl rfl)) ?_ fun _ => ?_⟩
        · rw [uH_at]
          show wI (wr h3' 120 19 + 1) = ((p + 2 : Nat) : Int)
          rw [e19, nS (p + 1) (by omega)]
        · rw [uH_ne (by omega), uH_at]
          show wI (wI (wI (10 * wr h3' 120 20) + ch (p + 1)) - 48) = (((10 * (ch p - 48) + (ch (p + 1) - 48)).toNat : Nat) : Int)
          rw [e20, wI_id (z := 10 * (ch p - 48)) (by omega), wI_id (z := 10 * (ch p - 48) + ch (p + 1)) (by omega), wI_id (by omega)]
          omega
      · rw [if_neg q2] at hK
        have hW3' := hW3
        obtain ⟨h3', rfl⟩ := hW3
        refine XW_t4 [16] 60 okMo_takesNumber ?_
        refine c_isDigit hW3' hT3 e19 (fun q3 => absurd q3 q2) (fun _ => ?_)
        refine ⟨Or.inr rfl, hK _ hf3 e19 fun _ => ?_⟩
        show wr h3' 120 20 = (((ch p - 48).toNat : Nat) : Int)
        rw [e20]
        omega
    have hT1 := hT.fn hf1
    have hW1 := hf1.wd hW
    obtain ⟨h0, rfl⟩ := hW
    refine cof ocMo_takesNumber rfl (XW_t4 [16] 60 okMo_takesNumber ?_)
    refine c_isDigit hW2 hT2 hp (fun _ => ?_) (fun q3 => absurd q q3)
    show XW g (d + 2) mMo_takesNumber K 16 [some (xr 120), some (xi 0)] [] (uH (wr h0) 120 20 0) al
    refine XW_t4 [16] 60 okMo_takesNumber ?_
    refine c_isDigit (p := p) (h := uH (wr h0) 120 20 0) hW1 hT1 ((uH_ne (by omega)).trans hp) (fun _ => ?_) (fun q3 => absurd q q3)
    refine c_Mnext (p := p) (h := uH (wr h0) 120 20 0) hW1 hT1 ((uH_ne (by omega)).trans hp) fun r hr => ?_
    have er : r = ch p := by unfold nxr at hr; omega
    subst er
    refine k16 (uH (uH (uH (wr h0) 120 20 0) 120 20 _) 120 19 _) ((hf1.up (Or.inr rfl)).up (Or.inl rfl)) ?_ ?_
    · rw [uH_at]
      show wI (wr h0 120 19 + 1) = _
      rw [hp, nS p (by omega)]
    · rw [uH_ne (by omega), uH_at]
      show wI (wI (wI (10 * 0) + ch p) - 48) = ch p - 48
      rw [wI_id (z := 10 * 0) (by decide), wI_id (z := 10 * 0 + ch p) (by omega), wI_id (by omega)]
      omega
  · rw [if_neg q] at hK
    obtain ⟨h0, rfl⟩ := hW
    refine cof ocMo_takesNumber rfl (XW_t4 [16] 60 okMo_takesNumber ?_)
    refine c_isDigit hW2 hT2 hp (fun q3 => absurd q3 q) (fun _ => ?_)
    exact ⟨Or.inl rfl, hK _ FN.refl hp fun q => by cases q⟩
def wfT : List Nat := [0, 4, 9, 13, 16]
def wmT : List Nat := [4, 5, 4, 3, 4]
theorem wdS_m {w : Nat} (hw : w ≤ 4) : (wmT.getD w 0 ≤ 5 ∧ wfT.getD w 0 + wmT.getD w 0 ≤ 20 ∧ (wdS w).drop (wmT.getD w 0) = [32]) ∧ ∀ j, j < wmT.getD w 0 → (wdS w).drop j = leT.getD (wfT.getD w 0 + j) 0 :: (wdS w).drop (j + 1) ∧ 1 ≤ leT.getD (wfT.getD w 0 + j) 0 ∧ leT.getD (wfT.getD w 0 + j) 0 ≤ 127 := by
  have c : ck 5 (fun w => decide (wmT.getD w 0 ≤ 5 ∧ wfT.getD w 0 + wmT.getD w 0 ≤ 20 ∧ (wdS w).drop (wmT.getD w 0) = [32]) && ck 5 (fun j => decide (j < wmT.getD w 0 → (wdS w).drop j = leT.getD (wfT.getD w 0 + j) 0 :: (wdS w).drop (j + 1) ∧ 1 ≤ leT.getD (wfT.getD w 0 + j) 0 ∧ leT.getD (wfT.getD w 0 + j) 0 ≤ 127))) = true := by decide +kernel
  have c2 := ck_of c (show w < 5 by omega)
  rw [Bool.and_eq_true] at c2
  have c3 := of_decide_eq_true c2.1
  exact ⟨c3, fun j hj => of_decide_eq_true (ck_of c2.2 (show j < 5 by omega)) hj⟩
theorem c_takesWord {w : Nat} (hw : w ≤ 4) (hW : Wd h) (hT : TXm ch N h) (hp : h 120 19 = (p : Int)) (hpN : p ≤ N) (h138 : ∀ k : Nat, k < 20 → h 138 k = leT.getD k 0) (hK : ∀ h2 : HH, FN h h2 → h2 120 19 = ((lwS ch (wdS w) p).2 : Int) → K (some (xi (bI (lwS ch (wdS w) p).1))) h2 al) : Call g (d + 3) yMo_takesWord [xr 120, xi (wfT.getD w 0 : Int), xi (wmT.getD w 0 : Int)] h al K := by
  obtain ⟨⟨b1, b2, b3⟩, b4⟩ := wdS_m hw
  generalize ewf : wfT.getD w 0 = wf at b2 b4 ⊢
  generalize ewm : wmT.getD w 0 = wm at b1 b2 b3 b4 ⊢
  have loop : ∀ (m j p2 : Nat) (h2 : HH), j + m = wm → FN h h2 → h2 120 19 = (p2 : Int) → lwS ch (wdS w) p = lwS ch ((wdS w).drop j) p2 → XW g (d + 2) mMo_takesWord K 2 [some (xr 120), some (xi (wf : Int)), some (xi (wm : Int)), some (xi (j : Int))] [] h2 al := by
    intro m
    induction m with
    | zero =>
      intro j p2 h2 hj hf hp2 hl
      have ej : j = wm := by omega
      subst ej
      rw [b3] at hl
      have e' : lwS ch [32] p2 = if ch p2 = 32 then (true, p2 + 1) else (false, p2) := rfl
      rw [e'] at hl
      have hW2 := hf.wd hW
      refine XW_t4 [2] 60 okMo_takesWord ?_
      refine ite_f (by omega) ?_
      refine c_takes (by decide) hW2 (hT.fn hf) hp2 (fun q h3 hf3 hp3 => ?_) (fun q => ?_)
      · rw [if_pos q] at hl
        rw [hl] at hK
        exact ⟨Or.inr rfl, hK h3 (hf.trans hf3) hp3⟩
      · rw [if_neg q] at hl
        rw [hl] at hK
        exact ⟨Or.inl rfl, hK h2 hf hp2⟩
    | succ m ih =>
      intro j p2 h2 hj hf hp2 hl
      obtain ⟨c1, c2, c3⟩ := b4 j (by omega)
      rw [c1] at hl
      have e' : lwS ch (leT.getD (wf + j) 0 :: (wdS w).drop (j + 1)) p2 = if ch p2 = leT.getD (wf + j) 0 then lwS ch ((wdS w).drop (j + 1)) (p2 + 1) else (false, p2) := rfl
      rw [e'] at hl
      have hW2 := hf.wd hW
      have hT2 := hT.fn hf
      have el : h2 138 (wf + j) = leT.getD (wf + j) 0 := (hf 138 _ (by omega)).trans (h138 _ (by omega))
      have ei : ∀ _ : Unit, wI ((wf : Int) + (j : Int)) = ((wf + j : Nat) : Int) := fun _ => by rw [wI_id (by omega)]; omega
      have hW2' := hW2
      obtain ⟨h2', rfl⟩ := hW2
      refine XW_t4 [2] 60 okMo_takesWord ?_
      refine ite_t (by omega) ?_
      refine ⟨wf + j, ei (), by show wf + j < 20; omega, _, el, ?_⟩
      refine c_takes ⟨c2, c3⟩ hW2' hT2 hp2 (fun q h3 hf3 hp3 => ?_) (fun q => ?_)
      · rw [if_pos q] at hl
        have t := ih (j + 1) (p2 + 1) h3 (by omega) (hf.trans hf3) hp3 hl
        rw [← nS j (by omega)] at t
        exact t
      · rw [if_neg q] at hl
        rw [hl] at hK
        exact ⟨Or.inl rfl, hK (wr h2') hf hp2⟩
  refine cof ocMo_takesWord rfl ?_
  refine XW_t4 [2] 40 okMo_takesWord ?_
  exact loop wm 0 p h (by omega) FN.refl hp rfl
theorem c_place {r x : Int} (hr : nxr r x) (hK : K (some (xi (if ltS x = 4 then -1 else (ltS x : Int)))) h al) : Call g (d + 1) yMo_place [xr 120, xi r] h al K := by
  unfold nxr at hr
  unfold ltS at hK
  refine cof ocMo_place rfl (XW_t4 [] 40 okMo_place ?_)
  refine ite_i (fun q => ?_) (fun q1 => ite_i (fun q => ?_) (fun q2 => ite_i (fun q => ?_) (fun q3 => ite_i (fun q => ?_) (fun q4 => ?_))))
  · have q : r = 105 := q
    rw [if_neg (show ¬ x = 115 by omega), if_neg (show ¬ x = 108 by omega), if_pos (show x = 105 by omega)] at hK
    exact hK
  · have q : r = 108 := q
    rw [if_neg (show ¬ x = 115 by omega), if_pos (show x = 108 by omega)] at hK
    exact hK
  · have q : r = 112 := q
    rw [if_neg (show ¬ x = 115 by omega), if_neg (show ¬ x = 108 by omega), if_neg (show ¬ x = 105 by omega), if_pos (show x = 112 by omega)] at hK
    exact hK
  · have q : r = 115 := q
    rw [if_pos (show x = 115 by omega)] at hK
    exact hK
  · have q1 : ¬ r = 105 := q1
    have q2 : ¬ r = 108 := q2
    have q3 : ¬ r = 112 := q3
    have q4 : ¬ r = 115 := q4
    rw [if_neg (show ¬ x = 115 by omega), if_neg (show ¬ x = 108 by omega), if_neg (show ¬ x = 105 by omega), if_neg (show ¬ x = 112 by omega)] at hK
    exact hK
end MR1
