-- the reference's tables
theorem wIa {a b : Int} : wI (wI a + b) = wI (a + b) := by unfold wI; omega
theorem wIs {a b c : Int} : wI (wI (a - b) + c) = wI (wI (a + c) - b) := by unfold wI; omega
def a0 (p i l s : Nat) : Nat := 190 * (6 * p + i) + (10 * l + s)
/-- the tables of a holder and a holding -/
def MT (h : HH) (p i : Nat) (T : TB) : Prop := ∀ w l s : Nat, w < 3 → 1 ≤ l → l ≤ 18 → s < 10 → h (148 + w) (a0 p i l s) = T w l s
/-- the best rows -/
def ML (h : HH) (p i : Nat) (T : TB) (e : Int) : Prop := ∀ l s : Nat, l ≤ 18 → s < 10 → h 152 (a0 p i l s) = (bsf T e l s).2 ∧ (1 ≤ l → h 151 (a0 p i l s) = ((bsf T e l s).1 : Int))
/-- what asking the reference may change -/
def MF (h h2 : HH) : Prop := ∀ a k, a ≠ 139 → (a < 146 ∨ 152 < a) → h2 a k = h a k
theorem MF.refl {h : HH} : MF h h := fun _ _ _ _ => rfl
theorem MF.trans {h h2 h3 : HH} (a : MF h h2) (b : MF h2 h3) : MF h h3 := fun q k e1 e2 => (b q k e1 e2).trans (a q k e1 e2)
theorem MF.wd {h h2 : HH} (hm : MF h h2) (hW : Wd h) : Wd h2 := hW.of fun a k hk => by
  refine hm a k ?_ ?_
  · rintro rfl
    exact hk (by show (-9 : Int) < 0; decide)
  · by_cases q : 146 ≤ a ∧ a ≤ 152
    · have c : ck 153 (fun a => decide (146 ≤ a → wl a = [])) = true := by decide +kernel
      have := of_decide_eq_true (ck_of c (show a < 153 by omega)) q.1
      exact absurd (by rw [this]; show (-9 : Int) < 0; decide) hk
    · omega
theorem MF.mz {h h2 : HH} {V : List Cl} {q0 : Nat} (hm : MF h h2) (hQ : MZ h V q0) : MZ h2 V q0 := by
  refine hQ.fr fun a k q => hm a k ?_ ?_
  · rintro rfl
    cases q
  · by_cases e : a < 146
    · exact Or.inl e
    · refine Or.inr ?_
      by_cases e2 : a ≤ 152
      · have c : ck 153 (fun a => decide (146 ≤ a → inR 131 136 a = false ∧ Nat.beq a 120 = false)) = true := by decide +kernel
        have := of_decide_eq_true (ck_of c (show a < 153 by omega)) (by omega)
        unfold tQ at q
        rw [this.1, this.2] at q
        cases q
      · omega
/-- what is laid is right -/
def MC (h : HH) (V : List Cl) (e : Nat → Int) (x : Nat) : Prop := ∀ p i : Nat, p < 6 → i < 6 → (h 146 (6 * p + i) = 0 ∨ (h 146 (6 * p + i) = 1 ∧ MT h p i (tbl V (i : Int) (p : Int)))) ∧ (6 * p + i ≠ x → h 147 (6 * p + i) = 0 ∨ (h 147 (6 * p + i) = 1 ∧ h 146 (6 * p + i) = 1 ∧ ML h p i (tbl V (i : Int) (p : Int)) (e p)))
/-- how it was asked -/
def MB (h : HH) (V : List Cl) (pay : Int) (tk tv : Nat → Int) (st : Nat → Nat → Int) (nP : Nat) : Prop := (nP ≤ 6 ∧ ∃ q0, MZ h V q0) ∧ h 120 34 = pay ∧ ∀ p, p < nP → (h 140 p = tk p ∧ 0 ≤ tk p ∧ tk p ≤ 6) ∧ (h 141 p = tv p ∧ 0 ≤ tv p ∧ tv p ≤ 9) ∧ ∀ l, l < 10 → h 127 (10 * p + l) = st p l ∧ -1 ≤ st p l ∧ st p l ≤ 2
theorem MF.mb {h h2 : HH} {V : List Cl} {pay : Int} {tk tv : Nat → Int} {st : Nat → Nat → Int} {nP : Nat} (hm : MF h h2) (hB : MB h V pay tk tv st nP) : MB h2 V pay tk tv st nP := by
  obtain ⟨⟨h1, q0, hz⟩, h2, h3⟩ := hB
  refine ⟨⟨h1, q0, hm.mz hz⟩, (hm _ _ (by decide) (by decide)).trans h2, fun p hp => ?_⟩
  rw [hm 140 p (by decide) (by decide), hm 141 p (by decide) (by decide)]
  refine ⟨(h3 p hp).1, (h3 p hp).2.1, fun l hl => ?_⟩
  rw [hm 127 _ (by decide) (by decide)]
  exact (h3 p hp).2.2 l hl
section MR
variable {g : GC} {d : Nat} {h : HH} {al : AL} {K : KT}
theorem c_at0 {p i l s : Nat} {pi ii li si : Int} (hp : p < 6) (hi : i < 6) (hl : l < 100) (hs : s < 100) (ep : pi = (p : Int)) (ei : ii = (i : Int)) (el : li = (l : Int)) (es : si = (s : Int)) (hK : K (some (xi (a0 p i l s : Int))) h al) : Call g (d + 1) yMo_at0 [xr 120, xi pi, xi ii, xi li, xi si] h al K := by
  subst ep
  subst ei
  subst el
  subst es
  refine cof ocMo_at0 rfl (XW_t4 [] 40 okMo_at0 ?_)
  show K (some (xi (wI (wI (wI (190 * wI (wI (6 * (p : Int)) + (i : Int))) + wI (10 * (l : Int))) + (s : Int))))) h al
  have e : wI (wI (wI (190 * wI (wI (6 * (p : Int)) + (i : Int))) + wI (10 * (l : Int))) + (s : Int)) = (a0 p i l s : Int) := by
    unfold a0
    rw [wI_id (z := 6 * (p : Int)) (by omega), wI_id (z := 10 * (l : Int)) (by omega), wI_id (z := 6 * (p : Int) + (i : Int)) (by omega), wI_id (z := 190 * (6 * (p : Int) + (i : Int))) (by omega), wI_id (z := 190 * (6 * (p : Int) + (i : Int)) + 10 * (l : Int)) (by omega), wI_id (by omega)]
    omega
  rw [e]
  exact hK
theorem c_fallen {t : Nat} {ti F : Int} (et : ti = (t : Int)) (ht : t < 1000) (hF : 0 ≤ F ∧ F ≤ 9) (hK : K (some (xi (fal t F : Int))) h al) : Call g (d + 1) yMo_fallen [xr 120, xi ti, xi F] h al K := by
  subst et
  refine cof ocMo_fallen rfl (XW_t4 [] 40 okMo_fallen ?_)
  unfold fal at hK
  refine ite_i (fun q => ?_) (fun q => ?_)
  · have q : (t : Int) < F := q
    rw [show t - F.toNat = 0 by omega] at hK
    exact hK
  · have q : ¬ (t : Int) < F := q
    have e : wI ((t : Int) - F) = ((t - F.toNat : Nat) : Int) := by rw [wI_id (by omega)]; omega
    show K (some (xi (wI ((t : Int) - F)))) h al
    rw [e]
    exact hK
theorem c_Mreckons {k : Int} (ht : rk k → K (some (xi 1)) h al) (hf : ¬ rk k → K (some (xi 0)) h al) : Call g (d + 1) yMo_reckons [xr 120, xi k] h al K := by
  refine cof ocMo_reckons rfl (XW_t4 [] 60 okMo_reckons ?_)
  refine ite_i (fun q => ⟨Or.inr rfl, ht (Or.inl q)⟩) (fun q1 => ?_)
  refine ite_i (fun q => ⟨Or.inr rfl, ht (Or.inr (Or.inl q))⟩) (fun q2 => ?_)
  refine ite_i (fun q => ⟨Or.inr rfl, ht (Or.inr (Or.inr (Or.inl q)))⟩) (fun q3 => ?_)
  refine ite_i (fun q => ⟨Or.inr rfl, ht (Or.inr (Or.inr (Or.inr q)))⟩) (fun q4 => ⟨Or.inl rfl, hf ?_⟩)
  rintro (q | q | q | q)
  · exact q1 q
  · exact q2 q
  · exact q3 q
  · exact q4 q
theorem c_yearsOf {p l : Nat} {k v pi li : Int} (hW : Wd h) (hp : p < 6) (ep : pi = (p : Int)) (el : li = (l : Int)) (h1 : h 140 p = k) (h2 : h 141 p = v) (hv : 0 ≤ v ∧ v ≤ 9) (hl : l < 100) (hK : K (some (xi (yrs k v l : Int))) h al) : Call g (d + 1) yMo_yearsOf [xr 120, xi pi, xi li] h al K := by
  subst ep
  subst el
  obtain ⟨h0, rfl⟩ := id hW
  refine cof ocMo_yearsOf rfl (XW_t4 [] 60 okMo_yearsOf ?_)
  refine ⟨p, rfl, by show p < 6; exact hp, _, h1, ?_⟩
  refine ite_i (fun q => ?_) (fun q => ?_)
  · have q : k = 3 := q
    refine ⟨p, rfl, by show p < 6; exact hp, _, h2, ?_⟩
    have e : wI ((l : Int) + v) = ((yrs k v l : Nat) : Int) := by
      unfold yrs
      rw [if_pos q, wI_id (by omega)]
      omega
    show K (some (xi (wI ((l : Int) + v)))) (wr h0) al
    rw [e]
    exact hK
  · have q : ¬ k = 3 := q
    unfold yrs at hK
    rw [if_neg q] at hK
    exact hK
theorem a0_lt {p i l s : Nat} (hp : p < 6) (hi : i < 6) (hl : l ≤ 18) (hs : s < 10) : a0 p i l s < 6840 := by unfold a0; omega
theorem c_Mgain {p i l s m : Nat} {pi ii li si mi : Int} {T : TB} (hW : Wd h) (hT : MT h p i T) (hp : p < 6) (hi : i < 6) (hl : 1 ≤ l ∧ l ≤ 18) (hs : s + m < 10) (ep : pi = (p : Int)) (ei : ii = (i : Int)) (el : li = (l : Int)) (es : si = (s : Int)) (em : mi = (m : Int)) (hK : K (some (xi (gnS T l s m))) h al) : Call g (d + 2) yMo_gain [xr 120, xi pi, xi ii, xi li, xi si, xi mi] h al K := by
  subst ep
  subst ei
  subst el
  subst es
  subst em
  obtain ⟨h0, rfl⟩ := id hW
  refine cof ocMo_gain rfl (XW_t4 [] 60 okMo_gain ?_)
  refine c_at0 (s := s + m) hp hi (by omega) (by omega) rfl rfl rfl (by rw [wI_id (by omega)]; omega) ?_
  refine ⟨a0 p i l (s + m), rfl, by show _ < 6840; exact a0_lt hp hi (by omega) (by omega), _, hT 1 l (s + m) (by decide) hl.1 hl.2 (by omega), ?_⟩
  refine c_at0 (s := s) hp hi (by omega) (by omega) rfl rfl rfl rfl ?_
  refine ⟨a0 p i l s, rfl, by show _ < 6840; exact a0_lt hp hi (by omega) (by omega), _, hT 2 l s (by decide) hl.1 hl.2 (by omega), ?_⟩
  exact hK
/-- while tables are laid -/
def LR (h h2 : HH) (V : List Cl) (p i l0 s0 : Nat) : Prop := (∀ a k, a ≠ 139 → a ≠ 148 → a ≠ 149 → a ≠ 150 → h2 a k = h a k) ∧ (∀ w x, w < 3 → (x < 190 * (6 * p + i) ∨ 190 * (6 * p + i) + 190 ≤ x) → h2 (148 + w) x = h (148 + w) x) ∧ ∀ w l s, w < 3 → 1 ≤ l → l ≤ 18 → s < 10 → (l < l0 ∨ (l = l0 ∧ s < s0)) → h2 (148 + w) (a0 p i l s) = tbl V (i : Int) (p : Int) w l s
set_option maxRecDepth 8000 in
theorem c_layRaw {V : List Cl} {e : Nat → Int} {x p i : Nat} {pi ii : Int} (hW : Wd h) (hQ : ∃ q0, MZ h V q0) (hM : MC h V e x) (hp : p < 6) (hi : i < 6) (ep : pi = (p : Int)) (ei : ii = (i : Int)) (hK : ∀ h2 : HH, MF h h2 → (∀ k, h2 147 k = h 147 k) → (∀ x, h 146 x = 1 → h2 146 x = 1) → MC h2 V e x → h2 146 (6 * p + i) = 1 → MT h2 p i (tbl V (i : Int) (p : Int)) → K none h2 al) : Call g (d + 3) yMo_layRaw [xr 120, xi pi, xi ii] h al K := by
  subst ep
  subst ei
  have e6 : ∀ _ : Unit, wI (wI (6 * (p : Int)) + (i : Int)) = ((6 * p + i : Nat) : Int) := fun _ => by
    rw [wI_id (z := 6 * (p : Int)) (by omega), wI_id (by omega)]
    omega
  obtain ⟨h0, rfl⟩ := id hW
  refine cof ocMo_layRaw rfl (XW_t4 [29] 60 okMo_layRaw ?_)
  refine ⟨6 * p + i, e6 (), by show _ < 36; omega, _, rfl, ?_⟩
  refine ite_i (fun q => ?_) (fun q => ?_)
  · have q : wr h0 146 (6 * p + i) = 0 := q
    refine ⟨6 * p + i, e6 (), by show _ < 36; omega, Or.inr rfl, ?_⟩
    -- all rows
    obtain ⟨q0, hz⟩ := hQ
    have hf1 : MF (wr h0) (uH (wr h0) 146 (6 * p + i) 1) := fun a k _ q2 => uH_ne (by omega)
    have tS : ∀ h2 : HH, LR (uH (wr h0) 146 (6 * p + i) 1) h2 V p i 19 0 → MF (wr h0) h2 ∧ (∀ k, h2 147 k = wr h0 147 k) ∧ (∀ x, wr h0 146 x = 1 → h2 146 x = 1) ∧ MC h2 V e x ∧ h2 146 (6 * p + i) = 1 ∧ MT h2 p i (tbl V (i : Int) (p : Int)) := fun h2 hL => by
      obtain ⟨l1, l2, l3⟩ := hL
      have mt : MT h2 p i (tbl V (i : Int) (p : Int)) := fun w l s q1 q2 q3 q4 => l3 w l s q1 q2 q3 q4 (by omega)
      have f146 : ∀ k, h2 146 k = if k = 6 * p + i then 1 else wr h0 146 k := fun k => by rw [l1 146 k (by decide) (by decide) (by decide) (by decide), uH_r]
      have f147 : ∀ k, h2 147 k = wr h0 147 k := fun k => by rw [l1 147 k (by decide) (by decide) (by decide) (by decide), uH_ne (by omega)]
      have f151 : ∀ k, h2 151 k = wr h0 151 k := fun k => by rw [l1 151 k (by decide) (by decide) (by decide) (by decide), uH_ne (by omega)]
      have f152 : ∀ k, h2 152 k = wr h0 152 k := fun k => by rw [l1 152 k (by decide) (by decide) (by decide) (by decide), uH_ne (by omega)]
      refine ⟨fun a k q1 q2 => (l1 a k q1 (by omega) (by omega) (by omega)).trans (hf1 a k q1 q2), f147, fun x hx => by
        rw [f146]
        split
        · rfl
        · exact hx, fun p2 i2 hp2 hi2 => ?_, by rw [f146, if_pos rfl], mt⟩
      have m2 := (hM p2 i2 hp2 hi2).2
      rw [f146, f147]
      by_cases q2 : 6 * p2 + i2 = 6 * p + i
      · have : p2 = p ∧ i2 = i := by omega
        obtain ⟨rfl, rfl⟩ := this
        rw [if_pos rfl]
        refine ⟨Or.inr ⟨rfl, mt⟩, fun hx => ?_⟩
        rcases m2 hx with m2 | ⟨m3, m4, m5⟩
        · exact Or.inl m2
        · rw [q] at m4
          omega
      · rw [if_neg q2]
        refine ⟨?_, fun hx => ?_⟩
        · rcases (hM p2 i2 hp2 hi2).1 with m3 | ⟨m3, m4⟩
          · exact Or.inl m3
          · refine Or.inr ⟨m3, fun w l s q3 q4 q5 q6 => ?_⟩
            rw [l2 w _ q3 (by unfold a0; omega), uH_ne (by omega)]
            exact m4 w l s q3 q4 q5 q6
        · rcases m2 hx with m2 | ⟨m3, m4, m5⟩
          · exact Or.inl m2
          · refine Or.inr ⟨m3, m4, fun l s q3 q4 => ?_⟩
            rw [f151, f152]
            exact m5 l s q3 q4
    have hM1 : MZ (uH (wr h0) 146 (6 * p + i) 1) V q0 := hf1.mz hz
    have hW1 : Wd (uH (wr h0) 146 (6 * p + i) 1) := hf1.wd hW
    generalize uH (wr h0) 146 (6 * p + i) 1 = h1 at tS hM1 hW1 ⊢
    have loopS : ∀ (m s l : Nat) (h2 : HH) (x5 : Option XV), s + m = 10 → 1 ≤ l → l ≤ 18 → LR h1 h2 V p i l s → (∀ (h3 : HH) (x4 x5 : Option XV), LR h1 h3 V p i (l + 1) 0 → XW g (d + 2) mMo_layRaw K 29 [some (xr 120), some (xi (p : Int)), some (xi (i : Int)), some (xi ((l + 1 : Nat) : Int)), x4, x5] [] h3 al) →
        XW g (d + 2) mMo_layRaw K 38 [some (xr 120), some (xi (p : Int)), some (xi (i : Int)), some (xi (l : Int)), some (xi (s : Int)), x5] [] h2 al := by
      intro m
      induction m with
      | zero =>
        intro s l h2 x5 hs h1l hl hL go
        have := go h2 (some (xi (s : Int))) x5 ⟨hL.1, hL.2.1, fun w l2 s2 q1 q2 q3 q4 q5 => hL.2.2 w l2 s2 q1 q2 q3 q4 (by omega)⟩
        rw [← nS l (by omega)] at this
        refine XW_t4 [29] 60 okMo_layRaw ?_
        exact ite_f (by omega) this
      | succ m ih =>
        intro s l h2 x5 hs h1l hl hL go
        have hLf : ∀ a k, a ≠ 139 → a ≠ 148 → a ≠ 149 → a ≠ 150 → h2 a k = h1 a k := hL.1
        have hmf : MF h1 h2 := fun a k q1 q2 => hLf a k q1 (by omega) (by omega) (by omega)
        have hz2 := hmf.mz hM1
        have hW2 := hmf.wd hW1
        obtain ⟨h3, rfl⟩ := id hW2
        refine XW_t4 [38] 80 okMo_layRaw ?_
        refine ite_t (by omega) ?_
        refine c_at0 hp hi (by omega) (by omega) rfl rfl rfl rfl ?_
        refine c_sumOf (w := 0) hW2 hz2 (by decide) fun W1 => ?_
        refine ⟨a0 p i l s, rfl, by show _ < 6840; exact a0_lt hp hi (by omega) (by omega), ?_⟩
        have g1 : MF (wr h3) (uH (rowU (wr h3) 139 W1) 148 (a0 p i l s) (fl V 0 (s : Int) (l : Int) (i : Int) (p : Int))) := fun a k q1 q2 => by rw [uH_ne (by omega), rowU_ne q1]
        refine c_sumOf (w := 1) (g1.wd hW2) (g1.mz hz2) (by decide) fun W2 => ?_
        refine ⟨a0 p i l s, rfl, by show _ < 6840; exact a0_lt hp hi (by omega) (by omega), ?_⟩
        have g2 : MF (wr h3) (uH (rowU (uH (rowU (wr h3) 139 W1) 148 (a0 p i l s) (fl V 0 (s : Int) (l : Int) (i : Int) (p : Int))) 139 W2) 149 (a0 p i l s) (fl V 1 (s : Int) (l : Int) (i : Int) (p : Int))) := fun a k q1 q2 => by rw [uH_ne (by omega), rowU_ne q1]; exact g1 a k q1 q2
        refine c_sumOf (w := 2) (g2.wd hW2) (g2.mz hz2) (by decide) fun W3 => ?_
        refine ⟨a0 p i l s, rfl, by show _ < 6840; exact a0_lt hp hi (by omega) (by omega), ?_⟩
        have hfin : LR h1 (uH (rowU (uH (rowU (uH (rowU (wr h3) 139 W1) 148 (a0 p i l s) (fl V 0 (s : Int) (l : Int) (i : Int) (p : Int))) 139 W2) 149 (a0 p i l s) (fl V 1 (s : Int) (l : Int) (i : Int) (p : Int))) 139 W3) 150 (a0 p i l s) (fl V 2 (s : Int) (l : Int) (i : Int) (p : Int))) V p i l (s + 1) := by
          have r0 : ∀ k, (uH (rowU (uH (rowU (uH (rowU (wr h3) 139 W1) 148 (a0 p i l s) (fl V 0 (s : Int) (l : Int) (i : Int) (p : Int))) 139 W2) 149 (a0 p i l s) (fl V 1 (s : Int) (l : Int) (i : Int) (p : Int))) 139 W3) 150 (a0 p i l s) (fl V 2 (s : Int) (l : Int) (i : Int) (p : Int))) 148 k = if k = a0 p i l s then tbl V (i : Int) (p : Int) 0 l s else wr h3 148 k := fun k => by
            rw [uH_ne (by omega), rowU_ne (by decide), uH_ne (by omega), rowU_ne (by decide), uH_r, rowU_ne (by decide)]; rfl
          have r1 : ∀ k, (uH (rowU (uH (rowU (uH (rowU (wr h3) 139 W1) 148 (a0 p i l s) (fl V 0 (s : Int) (l : Int) (i : Int) (p : Int))) 139 W2) 149 (a0 p i l s) (fl V 1 (s : Int) (l : Int) (i : Int) (p : Int))) 139 W3) 150 (a0 p i l s) (fl V 2 (s : Int) (l : Int) (i : Int) (p : Int))) 149 k = if k = a0 p i l s then tbl V (i : Int) (p : Int) 1 l s else wr h3 149 k := fun k => by
            rw [uH_ne (by omega), rowU_ne (by decide), uH_r, rowU_ne (by decide), uH_ne (by omega), rowU_ne (by decide)]; rfl
          have r2 : ∀ k, (uH (rowU (uH (rowU (uH (rowU (wr h3) 139 W1) 148 (a0 p i l s) (fl V 0 (s : Int) (l : Int) (i : Int) (p : Int))) 139 W2) 149 (a0 p i l s) (fl V 1 (s : Int) (l : Int) (i : Int) (p : Int))) 139 W3) 150 (a0 p i l s) (fl V 2 (s : Int) (l : Int) (i : Int) (p : Int))) 150 k = if k = a0 p i l s then tbl V (i : Int) (p : Int) 2 l s else wr h3 150 k := fun k => by
            rw [uH_r, rowU_ne (by decide), uH_ne (by omega), rowU_ne (by decide), uH_ne (by omega), rowU_ne (by decide)]; rfl
          refine ⟨fun a k q1 q2 q3 q4 => ?_, fun w x hw hx => ?_, fun w l2 s2 hw q2 q3 q4 q5 => ?_⟩
          · rw [uH_ne (by omega), rowU_ne q1, uH_ne (by omega), rowU_ne q1, uH_ne (by omega), rowU_ne q1]
            exact hLf a k q1 q2 q3 q4
          · have hne : x ≠ a0 p i l s := by unfold a0; omega
            have h3' : w = 0 ∨ w = 1 ∨ w = 2 := by omega
            rcases h3' with rfl | rfl | rfl
            · exact (r0 x).trans ((if_neg hne).trans (hL.2.1 0 x hw hx))
            · exact (r1 x).trans ((if_neg hne).trans (hL.2.1 1 x hw hx))
            · exact (r2 x).trans ((if_neg hne).trans (hL.2.1 2 x hw hx))
          · by_cases e2 : a0 p i l2 s2 = a0 p i l s
            · have : l2 = l ∧ s2 = s := by unfold a0 at e2; omega
              obtain ⟨rfl, rfl⟩ := this
              have h3' : w = 0 ∨ w = 1 ∨ w = 2 := by omega
              rcases h3' with rfl | rfl | rfl
              · exact (r0 _).trans (if_pos rfl)
              · exact (r1 _).trans (if_pos rfl)
              · exact (r2 _).trans (if_pos rfl)
            · have hlt : l2 < l ∨ (l2 = l ∧ s2 < s) := by
                rcases q5 with q5 | ⟨q5, q6⟩
                · exact Or.inl q5
                · refine Or.inr ⟨q5, ?_⟩
                  by_cases e3 : s2 = s
                  · rw [q5, e3] at e2
                    exact absurd rfl e2
                  · omega
              have h3' : w = 0 ∨ w = 1 ∨ w = 2 := by omega
              rcases h3' with rfl | rfl | rfl
              · exact (r0 _).trans ((if_neg e2).trans (hL.2.2 0 l2 s2 hw q2 q3 q4 hlt))
              · exact (r1 _).trans ((if_neg e2).trans (hL.2.2 1 l2 s2 hw q2 q3 q4 hlt))
              · exact (r2 _).trans ((if_neg e2).trans (hL.2.2 2 l2 s2 hw q2 q3 q4 hlt))
        have := ih (s + 1) l _ (some (xi (a0 p i l s : Int))) (by omega) h1l hl hfin go
        rw [← nS s (by omega)] at this
        exact this
    have loopL : ∀ (m l : Nat) (h2 : HH) (x4 x5 : Option XV), l + m = 19 → 1 ≤ l → LR h1 h2 V p i l 0 → XW g (d + 2) mMo_layRaw K 29 [some (xr 120), some (xi (p : Int)), some (xi (i : Int)), some (xi (l : Int)), x4, x5] [] h2 al := by
      intro m
      induction m with
      | zero =>
        intro l h2 x4 x5 hl h1l hL
        refine XW_t4 [29] 60 okMo_layRaw ?_
        refine ite_f (by omega) ?_
        rw [show l = 19 by omega] at hL
        obtain ⟨a1, a2, a3, a4, a5, a6⟩ := tS h2 hL
        exact hK h2 a1 a2 a3 a4 a5 a6
      | succ m ih =>
        intro l h2 x4 x5 hl h1l hL
        refine XW_t4 [38] 60 okMo_layRaw ?_
        refine ite_t (by omega) ?_
        exact loopS 10 0 l h2 x5 rfl h1l (by omega) hL fun h3 x4 x5 hL3 => ih (l + 1) h3 x4 x5 (by omega) (by omega) hL3
    exact loopL 18 1 h1 none none rfl (by decide) ⟨fun _ _ _ _ _ _ => rfl, fun _ _ _ _ => rfl, fun w l s _ q1 _ _ q2 => absurd q2 (by omega)⟩
  · have q : ¬ wr h0 146 (6 * p + i) = 0 := q
    rcases (hM p i hp hi).1 with m | ⟨m1, m2⟩
    · exact absurd m q
    · exact hK _ MF.refl (fun _ => rfl) (fun _ q => q) hM m1 m2
end MR
