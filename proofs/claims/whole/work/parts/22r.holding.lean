-- a holding comes, a holder comes
section Q14
variable {g : GC} {d : Nat} {h : HH} {al : AL} {K : KT}
set_option maxRecDepth 8000 in
theorem s_holding {s : Int} (hS : Sim h al) : Call g (d + 9) yBy_holding [xr 0, xi s] h al (fun v h1 al1 => Call g (d + 9) yMo_holding [xr 120, xi s] h1 al1 (Ok2 v)) := by
  obtain ⟨V, nV, vl, nH, nP, rd, lots, l, yr, lo, S, O, P, k, v, st, hA⟩ := hS.all
  obtain ⟨⟨hW, hN, hB⟩, -⟩ := id hA
  obtain ⟨⟨⟨a1, a2⟩, ⟨a3, a4⟩, a5, a6⟩, ⟨⟨c1, c2, c3⟩, c4, c5⟩, ⟨m1, m2⟩, ⟨g1, g2, g3, g4, g5⟩, hscal, o1, o2, o3, o4, o5⟩ := id hN
  obtain ⟨h0, rfl⟩ := id hW
  refine cof ocBy_holding rfl (XW_t4 [21] 100 okBy_holding ?_)
  refine c_within (fun hs => ?_) (fun hs => ?_)
  · obtain ⟨sn, rfl⟩ := Int.eq_ofNat_of_zero_le hs.1
    show XW g (d + 8) mBy_holding (fun v h1 al1 => Call g (d + 9) yMo_holding [xr 120, xi (sn : Int)] h1 al1 (Ok2 v)) 21 [some (xr 0), some (xi (sn : Int)), some (xi (wr h0 1 6))] [] (wr h0) al
    rw [a1]
    refine XW_t4 [30] 60 okBy_holding ?_
    refine ite_i (fun q => ?_) (fun q => ?_)
    · have q : (nH : Int) < 6 := q
      -- where both end
      have fin : ∀ (h3 : HH) (O2 : Nat → Int), (∀ a j, ¬ (a = 11 ∧ j = nH) → ¬ (a = 12 ∧ j = nH) → ¬ (a = 1 ∧ j = 6) → ¬ (a = 121 ∧ j = nH) → ¬ (a = 122 ∧ j = nH) → ¬ (a = 125 ∧ j = nH) → ¬ (a = 120 ∧ j = 0) → h3 a j = wr h0 a j) → h3 1 6 = ((nH + 1 : Nat) : Int) → h3 120 0 = ((nH + 1 : Nat) : Int) → h3 11 nH = (sn : Int) → h3 121 nH = (sn : Int) → (∀ p, p < nP → O2 p = O p ∨ (p = nH ∧ O p = -1 ∧ O2 p = (nH : Int))) → (nH < nP → (O2 nH = -1 ∧ h3 12 nH = -5) ∨ (0 ≤ O2 nH ∧ h3 12 nH = O2 nH)) → (nP ≤ nH → h3 12 nH = -5) → (nH < nP → h3 125 nH = O2 nH) → h3 122 nH = ow O2 nP nH → Sim h3 al := by
        intro h3 O2 F e16 e120 e11 e121 eO2 e12 e12' e125 e122
        have hO2 : ∀ p, p < nP → O2 p = -1 ∨ (0 ≤ O2 p ∧ O2 p < ((nH + 1 : Nat) : Int)) := fun p hp => by
          have := g3 p hp
          have := eO2 p hp
          omega
        have hI2 : inj O2 nP := fun p q hp hq h00 e => by
          have x1 := eO2 p hp
          have x2 := eO2 q hq
          have x3 := g3 p hp
          have x4 := g3 q hq
          rcases x1 with x1 | x1
          · rcases x2 with x2 | x2
            · exact g4 p q hp hq (by omega) (by omega)
            · omega
          · rcases x2 with x2 | x2
            · omega
            · omega
        have how : ∀ j, j < nH → ow O2 nP j = ow O nP j := fun j hj => by
          rcases ow_c O (j : Int) nP with ⟨y1, y2⟩ | ⟨p, y1, y2, y3⟩
          · rw [y1]
            refine ow_n fun p hp e => ?_
            have := eO2 p hp
            have := y2 p hp
            omega
          · rw [y2]
            exact ow_p hI2 y1 (by omega) (by have := eO2 p y1; omega)
        have hNW : NWf h3 (nH + 1) nP rd lots l yr lo (fun j => if j = nH then sn else S j) O2 P := by
          refine ⟨⟨⟨e16, e120⟩, ⟨(F _ _ (by omega) (by omega) (by omega) (by omega) (by omega) (by omega) (by omega)).trans a3, (F _ _ (by omega) (by omega) (by omega) (by omega) (by omega) (by omega) (by omega)).trans a4⟩, by omega, a6⟩, ⟨⟨fun j hj => ?_, fun p hp => ⟨fun q1 => ?_, fun q1 => ?_⟩, fun p hp => (F _ _ (by omega) (by omega) (by omega) (by omega) (by omega) (by omega) (by omega)).trans (c3 p hp)⟩, fun j q1 q2 => (F _ _ (by omega) (by omega) (by omega) (by omega) (by omega) (by omega) (by omega)).trans (c4 j (by omega) q2), fun j q1 q2 => (F _ _ (by omega) (by omega) (by omega) (by omega) (by omega) (by omega) (by omega)).trans (c5 j q1 q2)⟩, ⟨fun j hj => ⟨?_, ?_⟩, fun p hp => ⟨?_, (F _ _ (by omega) (by omega) (by omega) (by omega) (by omega) (by omega) (by omega)).trans (m2 p hp).2⟩⟩, ⟨g1, fun j hj => ?_, hO2, hI2, g5⟩, ?_, (F _ _ (by omega) (by omega) (by omega) (by omega) (by omega) (by omega) (by omega)).trans o1, (F _ _ (by omega) (by omega) (by omega) (by omega) (by omega) (by omega) (by omega)).trans o2, o3, fun q hq => ⟨(F _ _ (by omega) (by omega) (by omega) (by omega) (by omega) (by omega) (by omega)).trans (o4 q hq).1, (F _ _ (by omega) (by omega) (by omega) (by omega) (by omega) (by omega) (by omega)).trans (o4 q hq).2.1, (o4 q hq).2.2⟩, o5⟩
          · show h3 11 j = ((if j = nH then sn else S j : Nat) : Int)
            by_cases e : j = nH
            · rw [if_pos e, e]; exact e11
            · rw [if_neg e]
              exact (F _ _ (by omega) (by omega) (by omega) (by omega) (by omega) (by omega) (by omega)).trans (c1 j (by omega))
          · show (O2 p = -1 ∧ h3 12 p = -5) ∨ (0 ≤ O2 p ∧ h3 12 p = O2 p)
            by_cases e : p = nH
            · subst e; exact e12 q1
            · rw [F 12 p (by omega) (by omega) (by omega) (by omega) (by omega) (by omega) (by omega)]
              have x1 := eO2 p q1
              have x2 : (O p = -1 ∧ wr h0 12 p = -5) ∨ (0 ≤ O p ∧ wr h0 12 p = O p) := (c2 p hp).1 q1
              omega
          · show h3 12 p = -5
            by_cases e : p = nH
            · subst e; exact e12' q1
            · rw [F 12 p (by omega) (by omega) (by omega) (by omega) (by omega) (by omega) (by omega)]
              exact (c2 p hp).2 q1
          · show h3 121 j = ((if j = nH then sn else S j : Nat) : Int)
            by_cases e : j = nH
            · rw [if_pos e, e]; exact e121
            · rw [if_neg e]
              exact (F _ _ (by omega) (by omega) (by omega) (by omega) (by omega) (by omega) (by omega)).trans (m1 j (by omega)).1
          · by_cases e : j = nH
            · subst e; exact e122
            · rw [how j (by omega)]
              exact (F _ _ (by omega) (by omega) (by omega) (by omega) (by omega) (by omega) (by omega)).trans (m1 j (by omega)).2
          · by_cases e : p = nH
            · subst e; exact e125 hp
            · rw [F 125 p (by omega) (by omega) (by omega) (by omega) (by omega) (by omega) (by omega), (m2 p hp).1]
              have := eO2 p hp
              omega
          · show (if j = nH then sn else S j) < 10
            by_cases e : j = nH
            · rw [if_pos e]; omega
            · rw [if_neg e]; exact g2 j (by omega)
          · obtain ⟨⟨x1, x2, x3⟩, ⟨x4, x5, x6⟩, x7, x8, x9⟩ := hscal
            exact ⟨⟨(F _ _ (by omega) (by omega) (by omega) (by omega) (by omega) (by omega) (by omega)).trans x1, (F _ _ (by omega) (by omega) (by omega) (by omega) (by omega) (by omega) (by omega)).trans x2, x3⟩, ⟨(F _ _ (by omega) (by omega) (by omega) (by omega) (by omega) (by omega) (by omega)).trans x4, (F _ _ (by omega) (by omega) (by omega) (by omega) (by omega) (by omega) (by omega)).trans x5, x6⟩, (F _ _ (by omega) (by omega) (by omega) (by omega) (by omega) (by omega) (by omega)).trans x7, (F _ _ (by omega) (by omega) (by omega) (by omega) (by omega) (by omega) (by omega)).trans x8, x9⟩
        have F2 : ∀ a j, ¬ (a = 11 ∨ a = 12 ∨ (a = 1 ∧ j = 6) ∨ a = 121 ∨ a = 122 ∨ a = 125 ∨ (a = 120 ∧ j = 0)) → h3 a j = wr h0 a j := fun a j e => F a j (by omega) (by omega) (by omega) (by omega) (by omega) (by omega) (by omega)
        have hBK : BKf h3 := by
          unfold BKf
          rw [F2 10 6 (by omega), F2 120 6 (by omega)]
          refine ⟨hB.1, fun i h1 h2 => ?_⟩
          rw [F2 15 i (by omega), F2 129 i (by omega)]
          exact hB.2 i h1 h2
        have hW3 : Wd h3 := hW.of fun a j hk => F2 a j (by
          rintro (rfl | rfl | ⟨rfl, rfl⟩ | rfl | rfl | rfl | ⟨rfl, rfl⟩)
          · exact hk (by show (-9 : Int) < 0; decide)
          · exact hk (by show (-9 : Int) < 0; decide)
          · exact hk (by decide)
          · exact hk (by show (-9 : Int) < 0; decide)
          · exact hk (by show (-9 : Int) < 0; decide)
          · exact hk (by show (-9 : Int) < 0; decide)
          · exact hk (by decide))
        have hI3 : SI h3 := by
          have hI := hS.2.2.1
          have e : ∀ h n m v, I0 (rs tI h) n m v = I0 h n m v := fun _ _ _ _ => rfl
          show I0 h3 _ _ _
          rw [← e, rs_of (h := wr h0) fun a j q => F2 a j ?_, e, e120, F2 120 1 (by omega), F2 120 16 (by omega)]
          · rcases hI with x | ⟨x1, x2, x3, x4⟩
            · exact Or.inl x
            · exact Or.inr ⟨x1, x2, by omega, x4⟩
          · unfold tI inR at q
            simp only [Bool.or_eq_true, Bool.and_eq_true, Nat.ble_eq, Nat.beq_eq] at q
            omega
        exact hS.mk2 hW3 (Or.inl (SN.of hNW hBK)) (Or.inl hI3) (Or.inr ⟨fun a j q => F2 a j (by unfold pH at q; omega), fun _ _ _ => rfl⟩) (Or.inr fun a j q => F2 a j (by unfold pT at q; omega)) (Or.inr fun a j q => F2 a j (by unfold pP at q; omega)) (Or.inr fun a j q => F2 a j (by unfold pC at q; omega)) (fun a j q => F2 a j (by unfold pK at q; omega)) (Or.inr ⟨fun a j q => F2 a j (by unfold pV at q; omega), fun _ _ => rfl⟩)
      -- the reference, behind the class
      have mod : ∀ (h2 : HH), Wd h2 → (∀ a j, ¬ (a = 11 ∧ j = nH) → ¬ (a = 12 ∧ j = nH) → ¬ (a = 1 ∧ j = 6) → h2 a j = wr h0 a j) → h2 1 6 = ((nH + 1 : Nat) : Int) → h2 11 nH = (sn : Int) → ((nH < nP ∧ O nH = -1 ∧ h2 12 nH = (nH : Int)) ∨ (¬ (nH < nP ∧ O nH = -1) ∧ h2 12 nH = wr h0 12 nH)) → Call g (d + 9) yMo_holding [xr 120, xi (sn : Int)] h2 al (Ok2 (some (xi (nH : Int)))) := by
        intro h2 hW2 F e16 e11 e12
        have eA : h2 120 0 = (nH : Int) := (F _ _ (by omega) (by omega) (by omega)).trans a2
        have eB : h2 120 1 = (nP : Int) := (F _ _ (by omega) (by omega) (by omega)).trans a4
        have e122 : ow O nP (nH : Int) = -1 := ow_n fun p hp e => by
          have := g3 p hp
          omega
        have ew2 : wI (h2 120 0 + 1) = ((nH + 1 : Nat) : Int) := by rw [eA]; exact nS nH (by omega)
        -- nobody's
        have endA : ¬ (nH < nP ∧ O nH = -1) → Sim (uH (uH (uH h2 121 nH (sn : Int)) 122 nH (-1)) 120 0 (wI (h2 120 0 + 1))) al := fun q1 => by
          have q2 : h2 12 nH = wr h0 12 nH := by omega
          refine fin _ O (fun a j y1 y2 y3 y4 y5 y6 y7 => ?_) ?_ ?_ ?_ ?_ (fun p hp => Or.inl rfl) (fun y => ?_) (fun y => ?_) (fun y => ?_) ?_
          · rw [uH_ne (by omega), uH_ne (by omega), uH_ne (by omega)]
            exact F a j y1 y2 y3
          · rw [uH_ne (by omega), uH_ne (by omega), uH_ne (by omega)]; exact e16
          · rw [uH_at]; exact ew2
          · rw [uH_ne (by omega), uH_ne (by omega), uH_ne (by omega)]; exact e11
          · rw [uH_ne (by omega), uH_ne (by omega), uH_at]
          · rw [uH_ne (by omega), uH_ne (by omega), uH_ne (by omega), q2]
            exact (c2 nH (by omega)).1 y
          · rw [uH_ne (by omega), uH_ne (by omega), uH_ne (by omega), q2]
            exact (c2 nH (by omega)).2 y
          · rw [uH_ne (by omega), uH_ne (by omega), uH_ne (by omega), F 125 nH (by omega) (by omega) (by omega)]
            exact (m2 nH y).1
          · rw [uH_ne (by omega), uH_at, e122]
        have endB : nH < nP → O nH = -1 → Sim (uH (uH (uH (uH (uH h2 121 nH (sn : Int)) 122 nH (-1)) 120 0 (wI (h2 120 0 + 1))) 122 nH (nH : Int)) 125 nH (nH : Int)) al := fun q1 q2 => by
          have q3 : h2 12 nH = (nH : Int) := by omega
          have hI2 : inj (fun p => if p = nH then (nH : Int) else O p) nP := fun p q hp hq h00 e => by
            have x3 := g3 p hp
            have x4 := g3 q hq
            have e : (if p = nH then (nH : Int) else O p) = (if q = nH then (nH : Int) else O q) := e
            have h00 : 0 ≤ (if p = nH then (nH : Int) else O p) := h00
            by_cases y1 : p = nH
            · by_cases y2 : q = nH
              · omega
              · rw [if_pos y1, if_neg y2] at e
                omega
            · by_cases y2 : q = nH
              · rw [if_neg y1, if_pos y2] at e
                omega
              · rw [if_neg y1] at e h00
                rw [if_neg y2] at e
                exact g4 p q hp hq h00 e
          refine fin _ (fun p => if p = nH then (nH : Int) else O p) (fun a j y1 y2 y3 y4 y5 y6 y7 => ?_) ?_ ?_ ?_ ?_ (fun p hp => ?_) (fun y => ?_) (fun y => by omega) (fun y => ?_) ?_
          · rw [uH_ne (by omega), uH_ne (by omega), uH_ne (by omega), uH_ne (by omega), uH_ne (by omega)]
            exact F a j y1 y2 y3
          · rw [uH_ne (by omega), uH_ne (by omega), uH_ne (by omega), uH_ne (by omega), uH_ne (by omega)]; exact e16
          · rw [uH_ne (by omega), uH_ne (by omega), uH_at]; exact ew2
          · rw [uH_ne (by omega), uH_ne (by omega), uH_ne (by omega), uH_ne (by omega), uH_ne (by omega)]; exact e11
          · rw [uH_ne (by omega), uH_ne (by omega), uH_ne (by omega), uH_ne (by omega), uH_at]
          · show (if p = nH then (nH : Int) else O p) = O p ∨ (p = nH ∧ O p = -1 ∧ (if p = nH then (nH : Int) else O p) = (nH : Int))
            by_cases e : p = nH
            · exact Or.inr ⟨e, by rw [e]; exact q2, if_pos e⟩
            · exact Or.inl (if_neg e)
          · refine Or.inr ⟨?_, ?_⟩
            · show 0 ≤ (if nH = nH then (nH : Int) else O nH)
              rw [if_pos rfl]
              omega
            · rw [uH_ne (by omega), uH_ne (by omega), uH_ne (by omega), uH_ne (by omega), uH_ne (by omega), q3]
              exact (if_pos rfl).symm
          · rw [uH_at]
            exact (if_pos rfl).symm
          · rw [uH_ne (by omega), uH_at]
            exact (ow_p hI2 q1 (by omega) (if_pos rfl)).symm
        have e125 : nH < nP → h2 125 nH = O nH := fun y => (F 125 nH (by omega) (by omega) (by omega)).trans (m2 nH y).1
        have u1 : ∀ a j, ¬ (a = 121 ∨ a = 122 ∨ (a = 120 ∧ j = 0)) → (uH (uH (uH h2 121 nH (sn : Int)) 122 nH (-1)) 120 0 (wI (h2 120 0 + 1))) a j = h2 a j := fun a j e => by rw [uH_ne (by omega), uH_ne (by omega), uH_ne (by omega)]
        have key : XW g (d + 8) mMo_holding (Ok2 (some (xi (nH : Int)))) 55 [some (xr 120), some (xi (sn : Int)), some (xi (nH : Int))] [] (uH (uH (uH h2 121 nH (sn : Int)) 122 nH (-1)) 120 0 (wI (h2 120 0 + 1))) al := by
          have hW3 : Wd (uH (uH (uH h2 121 nH (sn : Int)) 122 nH (-1)) 120 0 (wI (h2 120 0 + 1))) := ((hW2.upA rfl).upA rfl).up (by decide)
          have x1 : (uH (uH (uH h2 121 nH (sn : Int)) 122 nH (-1)) 120 0 (wI (h2 120 0 + 1))) 120 1 = (nP : Int) := (u1 _ _ (by omega)).trans eB
          have x2 : nH < nP → (uH (uH (uH h2 121 nH (sn : Int)) 122 nH (-1)) 120 0 (wI (h2 120 0 + 1))) 125 nH = O nH := fun y => (u1 _ _ (by omega)).trans (e125 y)
          generalize uH (uH (uH h2 121 nH (sn : Int)) 122 nH (-1)) 120 0 (wI (h2 120 0 + 1)) = h3 at hW3 x1 x2 endA endB ⊢
          obtain ⟨h3', rfl⟩ := id hW3
          refine XW_t4 [] 80 okMo_holding ?_
          refine ite_i (fun y => ?_) (fun y => ?_)
          · have y : (nH : Int) < wr h3' 120 1 := y
            rw [x1] at y
            refine ⟨nH, rfl, by show nH < 6; omega, _, x2 (by omega), ?_⟩
            have := g3 nH (by omega)
            refine ite_i (fun z => ?_) (fun z => ?_)
            · have z : O nH < 0 := z
              refine ⟨nH, rfl, by show nH < 6; omega, ?_⟩
              refine ⟨nH, rfl, by show nH < 6; omega, ?_⟩
              exact ⟨⟨_, rfl, rfl⟩, endB (by omega) (by omega)⟩
            · have z : ¬ O nH < 0 := z
              exact ⟨⟨_, rfl, rfl⟩, endA (by omega)⟩
          · have y : ¬ (nH : Int) < wr h3' 120 1 := y
            rw [x1] at y
            exact ⟨⟨_, rfl, rfl⟩, endA (by omega)⟩
        obtain ⟨h2', rfl⟩ := id hW2
        refine cof ocMo_holding rfl (XW_t4 [31] 80 okMo_holding ?_)
        refine c_in (fun _ => ?_) (fun q => absurd hs q)
        refine ite_f (show ¬ wr h2' 120 0 = 6 by omega) ?_
        show XW g (d + 8) mMo_holding (Ok2 (some (xi (nH : Int)))) 31 [some (xr 120), some (xi (sn : Int)), some (xi (wr h2' 120 0))] [] (wr h2') al
        rw [eA]
        refine XW_t4 [55] 80 okMo_holding ?_
        refine ⟨nH, rfl, by show nH < 6; omega, ?_⟩
        refine ⟨nH, rfl, by show nH < 6; omega, ?_⟩
        exact key
      -- the class
      have F1 : ∀ z a j, ¬ (a = 11 ∧ j = nH) → ¬ (a = 1 ∧ j = 6) → (uH (uH (wr h0) 1 6 z) 11 nH (sn : Int)) a j = wr h0 a j := fun z a j y1 y2 => by rw [uH_ne (by omega), uH_ne (by omega)]
      have hW1 : ∀ z, Wd (uH (uH (wr h0) 1 6 z) 11 nH (sn : Int)) := fun z => (hW.up (by decide)).upA rfl
      have endA : ¬ (nH < nP ∧ O nH = -1) → Call g (d + 9) yMo_holding [xr 120, xi (sn : Int)] (uH (uH (wr h0) 1 6 (wI ((nH : Int) + 1))) 11 nH (sn : Int)) al (Ok2 (some (xi (nH : Int)))) := fun q1 => mod _ (hW1 _) (fun a j y1 y2 y3 => F1 _ a j y1 y3) (by rw [uH_ne (by omega), uH_at]; exact nS nH (by omega)) uH_at (Or.inr ⟨q1, F1 _ 12 nH (by omega) (by omega)⟩)
      have endB : nH < nP → O nH = -1 → Call g (d + 9) yMo_holding [xr 120, xi (sn : Int)] (uH (uH (uH (wr h0) 1 6 (wI ((nH : Int) + 1))) 11 nH (sn : Int)) 12 nH (nH : Int)) al (Ok2 (some (xi (nH : Int)))) := fun q1 q2 => mod _ ((hW1 _).upA rfl) (fun a j y1 y2 y3 => by rw [uH_ne (by omega)]; exact F1 _ a j y1 y3) (by rw [uH_ne (by omega), uH_ne (by omega), uH_at]; exact nS nH (by omega)) (by rw [uH_ne (by omega), uH_at]) (Or.inl ⟨q1, q2, uH_at⟩)
      refine XW_t4 [52] 80 okBy_holding ?_
      refine c_putE rfl rfl (by show nH < 6; omega) ?_
      have x1 : (uH (uH (wr h0) 1 6 (wI ((nH : Int) + 1))) 11 nH (sn : Int)) 1 5 = (nP : Int) := (F1 _ 1 5 (by omega) (by omega)).trans a3
      have x2 : (uH (uH (wr h0) 1 6 (wI ((nH : Int) + 1))) 11 nH (sn : Int)) 12 nH = wr h0 12 nH := F1 _ 12 nH (by omega) (by omega)
      have hW3 := hW1 (wI ((nH : Int) + 1))
      have key : XW g (d + 8) mBy_holding (fun v h1 al1 => Call g (d + 9) yMo_holding [xr 120, xi (sn : Int)] h1 al1 (Ok2 v)) 52 [some (xr 0), some (xi (sn : Int)), some (xi (nH : Int))] [] (uH (uH (wr h0) 1 6 (wI ((nH : Int) + 1))) 11 nH (sn : Int)) al := by
        generalize uH (uH (wr h0) 1 6 (wI ((nH : Int) + 1))) 11 nH (sn : Int) = h3 at x1 x2 hW3 endA endB ⊢
        obtain ⟨h3', rfl⟩ := id hW3
        refine XW_t4 [] 80 okBy_holding ?_
        refine ite_i (fun y => ?_) (fun y => ?_)
        · have y : (nH : Int) < wr h3' 1 5 := y
          rw [x1] at y
          refine ⟨nH, rfl, by show nH < 6; omega, _, x2, ?_⟩
          have hc : (O nH = -1 ∧ wr h0 12 nH = -5) ∨ (0 ≤ O nH ∧ wr h0 12 nH = O nH) := (c2 nH (by omega)).1 (by omega)
          refine ite_i (fun z => ?_) (fun z => ?_)
          · have z : wr h0 12 nH = -5 := z
            refine c_putE rfl rfl (by show nH < 6; omega) ?_
            exact endB (by omega) (by omega)
          · have z : ¬ wr h0 12 nH = -5 := z
            exact endA (by omega)
        · have y : ¬ (nH : Int) < wr h3' 1 5 := y
          rw [x1] at y
          exact endA (by omega)
      exact key
    · have q : ¬ (nH : Int) < 6 := q
      refine cof ocMo_holding rfl (XW_t4 [] 80 okMo_holding ?_)
      refine c_in (fun _ => ?_) (fun q => absurd hs q)
      refine ite_t (show wr h0 120 0 = 6 by omega) ?_
      exact ⟨⟨_, rfl, rfl⟩, hS⟩
  · refine cof ocMo_holding rfl (XW_t4 [] 80 okMo_holding ?_)
    exact c_in (fun q => absurd q hs) (fun _ => ⟨⟨_, rfl, rfl⟩, hS⟩)
end Q14
