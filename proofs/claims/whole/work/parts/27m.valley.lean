-- valley
section VY
variable {g : GC} {d : Nat} {h : HH} {al : AL} {K : KT} {ch : Nat → Int} {N v : Nat}
theorem c_freshValley (hW : Wd h) (h17 : h 1 7 = (v : Int)) (hv : v < 5) (hK : K (some (xr (Int.ofNat (86 + 6 * v)))) h al) : Call g (d + 1) yLa_freshValley [xr 1] h al K := by
  obtain ⟨h0, rfl⟩ := hW
  refine cof ocLa_freshValley rfl (XW_t4 [] 40 okLa_freshValley ?_)
  refine ite_t (show wr h0 1 7 < 5 by omega) ?_
  refine ⟨⟨by show 0 ≤ wr h0 1 7; omega, by show wr h0 1 7 < 5; omega⟩, ?_⟩
  show K (some (xr (wr h0 4 (wr h0 1 7).toNat))) (wr h0) al
  rw [h17, Int.toNat_natCast, wr4 hv]
  exact hK
set_option maxRecDepth 8000 in
theorem c_Mvalley (hW : Wd h) (hT : TXm ch N h) (e16 : h 120 16 = (v : Int)) (hv : v < 5) (h138 : ∀ k : Nat, k < 20 → h 138 k = leT.getD k 0)
    (hok : (txS ch N 10 0 []).1 = true → ∀ h2 : HH, FX v h h2 → h2 131 v = ((txS ch N 10 0 []).2.2.length : Int) → VL h2 v (txS ch N 10 0 []).2.2 → K (some (xi (v : Int))) (uH (uH (uH h2 120 18 0) 120 17 (v : Int)) 120 16 ((v + 1 : Nat) : Int)) al)
    (hno : (txS ch N 10 0 []).1 = false → ∀ h2 : HH, FX v h h2 → K (some (xi (wI (-10 - ((txS ch N 10 0 []).2.1 : Int))))) (uH h2 120 18 0) al) : Call g (d + 8) yMo_valley [xr 120] h al K := by
  have call : ∀ (fi : Int) (K2 : KT), fi = (v : Int) → ((txS ch N 10 0 []).1 = true → ∀ h2 : HH, FX v h h2 → h2 131 v = ((txS ch N 10 0 []).2.2.length : Int) → VL h2 v (txS ch N 10 0 []).2.2 → K2 (some (xi 1)) h2 al) → ((txS ch N 10 0 []).1 = false → ∀ h2 : HH, FX v h h2 → h2 120 19 = ((txS ch N 10 0 []).2.1 : Int) → K2 (some (xi 0)) h2 al) → Call g (d + 7) yMo_goesText [xr 120, xi fi] h al K2 := fun fi K2 e a b => by
    subst e
    exact c_goesText hW hT (by omega) h138 a b
  have hW2 := hW
  obtain ⟨h0, rfl⟩ := hW
  refine cof ocMo_valley rfl (XW_t4 [] 60 okMo_valley ?_)
  refine ite_f (show ¬ wr h0 120 16 = 5 by omega) ?_
  refine call _ _ e16 (fun q h2 hf e131 hV => ?_) (fun q h2 hf e19 => ?_)
  · have t := hok q h2 hf e131 hV
    have e16' : h2 120 16 = (v : Int) := (hf _ _ (by omega) (by decide) (by omega) (by omega) (by omega)).trans e16
    rw [← nS v (by omega), ← e16'] at t
    obtain ⟨h2', rfl⟩ := hf.wd hW2
    exact t
  · have t := hno q h2 hf
    rw [← e19] at t
    obtain ⟨h2', rfl⟩ := hf.wd hW2
    exact t
set_option maxRecDepth 8000 in
theorem s_valley (hS : Sim h al) : Call g (d + 23) yBy_valley [xr 0] h al (fun v h1 al1 => Call g (d + 23) yMo_valley [xr 120] h1 al1 (Ok2 v)) := by
  have hW := hS.1
  obtain ⟨⟨t1, t2, t3⟩, tt⟩ := hS.2.2.2.2.1
  obtain ⟨-, -, hK0⟩ := hS.2.2.2.2.2.2.2.1
  obtain ⟨⟨b1, b2, b3⟩, ⟨b4, b5, b6⟩, -⟩ := hS.2.2.2.2.2.2.2.2
  have hW2 := hW
  by_cases hv5 : h 120 16 < 5
  · obtain ⟨v, ev⟩ : ∃ v : Nat, h 120 16 = (v : Int) := ⟨(h 120 16).toNat, by omega⟩
    have hv : v < 5 := by omega
    have e17 : h 1 7 = (v : Int) := b4.trans ev
    obtain ⟨N, eN⟩ : ∃ N : Nat, h 120 18 = (N : Int) := ⟨(h 120 18).toNat, by omega⟩
    have eN2 : h 40 1 = (N : Int) := t1.trans eN
    have hN : N ≤ 100 := by omega
    obtain ⟨ch, ech⟩ : ∃ ch : Nat → Int, ch = fun k => if k < N then h 41 k else 0 := ⟨_, rfl⟩
    have ch1 : ∀ k, k < N → h 41 k = ch k := fun k hk => by rw [ech]; exact (if_pos hk).symm
    have ch0 : ∀ k, N ≤ k → ch k = 0 := fun k hk => by rw [ech]; exact if_neg (by omega)
    have hTt : TXt ch N h := ⟨eN2, hN, ch1, ch0, fun k => by
      by_cases q : k < N
      · have := tt k (by omega) (by omega)
        rw [← ch1 k q]
        omega
      · rw [ch0 k (by omega)]
        decide⟩
    have hTm : TXm ch N h := ⟨eN, hN, fun k hk => ⟨by have := tt k (by omega) (by omega); omega, by rw [← ch1 k hk]; exact (tt k (by omega) (by omega)).1⟩, ch0⟩
    have hvn : VN (86 + 6 * v) := by unfold VN; omega
    obtain ⟨x1, x2⟩ := txS_ok ch0 hN 10 0 [] (Nat.zero_le _) (by decide) (fun c hc => by cases hc) (Nat.le_refl _)
    -- the reference, behind the class
    have mod : ∀ (h2 : HH) (r : XV), FV2 (86 + 6 * v) h h2 → ∀ h3 : HH, (∀ a k, ¬ (a = 40 ∧ k = 1) → ¬ (a = 10 ∧ k = 10) → ¬ (a = 1 ∧ k = 7) → h3 a k = h2 a k) → h3 40 1 = 0 → (((txS ch N 10 0 []).1 = true ∧ r = xi (v : Int) ∧ VC h2 (86 + 6 * v) (txS ch N 10 0 []).2.2 ∧ h3 10 10 = (v : Int) ∧ h3 1 7 = ((v + 1 : Nat) : Int)) ∨ ((txS ch N 10 0 []).1 = false ∧ r = xi (wI (-10 - ((txS ch N 10 0 []).2.1 : Int))) ∧ h3 10 10 = h 10 10 ∧ h3 1 7 = h 1 7)) → Call g (d + 23) yMo_valley [xr 120] h3 al (Ok2 (some r)) := by
      intro h2 r hf h3 hf3 e401 cse
      have ff : ∀ a k, ¬ (a = 40 ∧ 1 ≤ k) → ¬ (86 + 6 * v ≤ a ∧ a ≤ 86 + 6 * v + 4) → ¬ (a = 10 ∧ k = 10) → ¬ (a = 1 ∧ k = 7) → h3 a k = h a k := fun a k q1 q2 q3 q4 => (hf3 a k (by omega) q3 q4).trans (hf a k (by omega) (by omega) (by omega))
      have hW3 : Wd h3 := by
        refine (hf.wd hvn hW).of fun a k hk => hf3 a k ?_ ?_ ?_
        · rintro ⟨rfl, rfl⟩; exact hk (by decide)
        · rintro ⟨rfl, rfl⟩; exact hk (by decide)
        · rintro ⟨rfl, rfl⟩; exact hk (by decide)
      have hTm3 : TXm ch N h3 := ⟨(ff _ _ (by omega) (by omega) (by omega) (by omega)).trans eN, hN, fun k hk => by
        rw [ff 130 k (by omega) (by omega) (by omega) (by omega)]
        exact hTm.2.2.1 k hk, ch0⟩
      have e163 : h3 120 16 = (v : Int) := (ff _ _ (by omega) (by omega) (by omega) (by omega)).trans ev
      refine c_Mvalley (d := d + 15) hW3 hTm3 e163 hv (fun k hk => (ff _ _ (by omega) (by omega) (by omega) (by omega)).trans (hK0 k hk)) (fun q h4 hf4 e131 hV4 => ?_) (fun q h4 hf4 => ?_)
      · rcases cse with ⟨-, er, hVC, e10, e17'⟩ | ⟨q2, -⟩
        · rw [er]
          refine ⟨⟨_, rfl, rfl⟩, ?_⟩
          have hfin : TFr v h (uH (uH (uH h4 120 18 0) 120 17 (v : Int)) 120 16 ((v + 1 : Nat) : Int)) := fun a k q1 q2 q3 q4 q5 q6 q7 q8 q9 q10 => by
            rw [uH_ne (by omega), uH_ne (by omega), uH_ne (by omega), hf4 a k (by omega) q4 q5 q6 q7]
            exact ff a k q1 q2 q8 q9
          have w4 : ∀ a k, a ≠ 120 → a < 131 → uH (uH (uH h4 120 18 0) 120 17 (v : Int)) 120 16 ((v + 1 : Nat) : Int) a k = h3 a k := fun a k q1 q2 => by
            rw [uH_ne (by omega), uH_ne (by omega), uH_ne (by omega)]
            exact hf4 a k (by omega) (by omega) (by omega) (by omega) (by omega)
          have w5 : ∀ a k, a ≠ 120 → uH (uH (uH h4 120 18 0) 120 17 (v : Int)) 120 16 ((v + 1 : Nat) : Int) a k = h4 a k := fun a k q1 => by
            rw [uH_ne (by omega), uH_ne (by omega), uH_ne (by omega)]
          have hWf : Wd (uH (uH (uH h4 120 18 0) 120 17 (v : Int)) 120 16 ((v + 1 : Nat) : Int)) := (((hf4.wd hW3).up (by decide)).up (by decide)).up (by decide)
          obtain ⟨g1, g2⟩ := x2 q
          obtain ⟨c1, c2, c3, c4⟩ := hVC
          refine hS.val1 (v := v) (W := (txS ch N 10 0 []).2.2) hWf hv ev hfin ((w4 _ _ (by decide) (by decide)).trans e401) ?_ ((w4 _ _ (by decide) (by decide)).trans e10) ((w4 _ _ (by decide) (by decide)).trans e17') uH_at ?_ ?_ ((w5 _ _ (by decide)).trans e131) g1 g2 ?_
          · rw [uH_ne (by omega), uH_ne (by omega), uH_at]
          · rw [uH_ne (by omega), uH_at]
          · have w6 : ∀ a k, 86 + 6 * v ≤ a → a ≤ 86 + 6 * v + 4 → uH (uH (uH h4 120 18 0) 120 17 (v : Int)) 120 16 ((v + 1 : Nat) : Int) a k = h2 a k := fun a k q1 q2 => (w4 a k (by omega) (by omega)).trans (hf3 a k (by omega) (by omega) (by omega))
            refine ⟨(w6 _ _ (by omega) (by omega)).trans c1, (w6 _ _ (by omega) (by omega)).trans c2, (w6 _ _ (by omega) (by omega)).trans c3, g1, Nat.le_trans sgl_flt g2, CE_fr2 _ _ _ c4 (fun i _ => ⟨w6 _ _ (by omega) (by omega), w6 _ _ (by omega) (by omega), w6 _ _ (by omega) (by omega)⟩) (fun i _ => w6 _ _ (by omega) (by omega))⟩
          · intro j hj
            obtain ⟨⟨y1, y2, y3⟩, y4⟩ := hV4 j hj
            refine ⟨⟨(w5 _ _ (by decide)).trans y1, (w5 _ _ (by decide)).trans y2, fun q2 => ?_⟩, fun q2 => ?_⟩
            · obtain ⟨a, z1, z2, z3, z4⟩ := y3 q2
              exact ⟨a, z1, (w5 _ _ (by decide)).trans z2, (w5 _ _ (by decide)).trans z3, fun i hi => (w5 _ _ (by decide)).trans (z4 i hi)⟩
            · rw [w5 _ _ (by decide)]
              exact y4 q2
        · rw [q] at q2
          cases q2
      · rcases cse with ⟨q2, -⟩ | ⟨-, er, e10, e17'⟩
        · rw [q] at q2
          cases q2
        · rw [er]
          refine ⟨⟨_, rfl, rfl⟩, ?_⟩
          have hfin : TFr v h (uH h4 120 18 0) := fun a k q1 q2 q3 q4 q5 q6 q7 q8 q9 q10 => by
            rw [uH_ne (by omega), hf4 a k (by omega) q4 q5 q6 q7]
            exact ff a k q1 q2 q8 q9
          have w4 : ∀ a k, ¬ (a = 120 ∧ 18 ≤ k) → a < 131 → uH h4 120 18 0 a k = h3 a k := fun a k q1 q2 => by
            rw [uH_ne (by omega)]
            exact hf4 a k (by omega) (by omega) (by omega) (by omega) (by omega)
          refine hS.val0 (v := v) ((hf4.wd hW3).up (by decide)) hv ev hfin ((w4 _ _ (by omega) (by decide)).trans e401) uH_at ((w4 _ _ (by omega) (by decide)).trans e10) ((w4 _ _ (by omega) (by decide)).trans e17') ((w4 _ _ (by omega) (by decide)).trans (e163.trans ev.symm)) ((w4 _ _ (by omega) (by decide)).trans (ff _ _ (by omega) (by omega) (by omega) (by omega)))
    obtain ⟨h0, rfl⟩ := id hW
    refine cof ocBy_valley rfl (XW_t4 [] 80 okBy_valley ?_)
    refine c_freshValley hW2 e17 hv ?_
    refine c_parse (vn := 86 + 6 * v) hW2 hTt hvn (fun q h2 hf2 hC2 => ?_) (fun q h2 hf2 => ?_)
    · have e172 : h2 1 7 = (v : Int) := (hf2 _ _ (by omega) (by omega) (by omega)).trans e17
      have t := mod h2 (xi (v : Int)) hf2 (uH (uH (uH h2 40 1 0) 10 10 (v : Int)) 1 7 ((v + 1 : Nat) : Int)) (fun a k q1 q2 q3 => by rw [uH_ne q3, uH_ne q2, uH_ne q1]) (by rw [uH_ne (by omega), uH_ne (by omega), uH_at]) (Or.inl ⟨q, rfl, hC2, by rw [uH_ne (by omega), uH_at], uH_at⟩)
      rw [← nS v (by omega), ← e172] at t
      obtain ⟨h2', rfl⟩ := hf2.wd hvn hW2
      exact t
    · have t := mod h2 (xi (wI (-10 - ((txS ch N 10 0 []).2.1 : Int)))) hf2 (uH h2 40 1 0) (fun a k q1 _ _ => uH_ne q1) uH_at (Or.inr ⟨q, rfl, (uH_ne (by omega)).trans (hf2 _ _ (by omega) (by omega) (by omega)), (uH_ne (by omega)).trans (hf2 _ _ (by omega) (by omega) (by omega))⟩)
      obtain ⟨h2', rfl⟩ := hf2.wd hvn hW2
      exact t
  · obtain ⟨h0, rfl⟩ := id hW
    refine cof ocBy_valley rfl (XW_t4 [] 80 okBy_valley ?_)
    refine cof ocLa_freshValley rfl (XW_t4 [] 40 okLa_freshValley ?_)
    refine ite_f (show ¬ wr h0 1 7 < 5 by omega) ?_
    refine cof ocMo_valley rfl (XW_t4 [] 60 okMo_valley ?_)
    refine ite_t (show wr h0 120 16 = 5 by omega) ?_
    exact ⟨⟨_, rfl, rfl⟩, hS⟩
end VY
