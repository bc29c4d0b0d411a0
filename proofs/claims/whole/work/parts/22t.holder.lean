-- holder
theorem ow_cg {O O2 : Nat → Int} {j : Int} : ∀ n, (∀ p, p < n → O p = O2 p) → ow O n j = ow O2 n j := by
  intro n
  induction n with
  | zero => intro _; rfl
  | succ n ih =>
    intro e
    unfold ow
    rw [e n (by omega), ih fun p hp => e p (by omega)]
section Q16
variable {g : GC} {d : Nat} {h : HH} {al : AL} {K : KT}
set_option maxRecDepth 8000 in
theorem s_holder {kk vv : Int} (hS : Sim h al) : Call g (d + 9) yBy_holder [xr 0, xi kk, xi vv] h al (fun v h1 al1 => Call g (d + 9) yMo_holder [xr 120, xi kk, xi vv] h1 al1 (Ok2 v)) := by
  obtain ⟨V, nV, vl, nH, nP, rd, lots, l, yr, lo, S, O, P, k, v, st, hA⟩ := hS.all
  obtain ⟨⟨hW, hN, hB⟩, -⟩ := id hA
  obtain ⟨⟨⟨a1, a2⟩, ⟨a3, a4⟩, a5, a6⟩, ⟨⟨c1, c2, c3⟩, c4, c5⟩, ⟨m1, m2⟩, ⟨g1, g2, g3, g4, g5⟩, hscal, o1, o2, o3, o4, o5⟩ := id hN
  have hH := hS.2.2.2.1
  obtain ⟨h0, rfl⟩ := id hW
  refine cof ocBy_holder rfl (XW_t4 [33] 100 okBy_holder ?_)
  refine c_within (fun hk => ?_) (fun hk => ?_)
  · refine c_within (fun hv => ?_) (fun hv => ?_)
    · show XW g (d + 8) mBy_holder (fun v h1 al1 => Call g (d + 9) yMo_holder [xr 120, xi kk, xi vv] h1 al1 (Ok2 v)) 33 [some (xr 0), some (xi kk), some (xi vv), some (xi (wr h0 1 5))] [] (wr h0) al
      rw [a3]
      by_cases q : nP < 6
      · have hal : ∀ j, j < 4 → al (200 + 4 * nP + j) = false := ((hH nP q).2 (by omega)).2.2
        obtain ⟨asg, hasg⟩ : ∃ asg : Prop, asg = (nP < nH ∧ ∀ p, p < nP → O p ≠ (nP : Int)) := ⟨_, rfl⟩
        -- where both end
        have fin : ∀ (h3 : HH) (al3 : AL) (z : Int), (∀ a j, ¬ (200 + 4 * nP ≤ a ∧ a ≤ 203 + 4 * nP) → ¬ (a = 2 ∧ j = nP) → ¬ (a = 3 ∧ j = nP) → ¬ (a = 1 ∧ j = 5) → ¬ (a = 12 ∧ j = nP) → ¬ (a = 123 ∧ j = nP) → ¬ (a = 124 ∧ j = nP) → ¬ (a = 126 ∧ j = nP) → ¬ (a = 125 ∧ j = nP) → ¬ (a = 127 ∧ 10 * nP ≤ j ∧ j < 10 * nP + 10) → ¬ (a = 120 ∧ j = 1) → ¬ (a = 122 ∧ j = nP) → h3 a j = wr h0 a j) → (∀ a, ¬ (200 + 4 * nP ≤ a ∧ a ≤ 203 + 4 * nP) → al3 a = al a) → h3 1 5 = ((nP + 1 : Nat) : Int) → h3 120 1 = ((nP + 1 : Nat) : Int) → h3 2 nP = ((200 + 4 * nP : Nat) : Int) → h3 3 nP = ((202 + 4 * nP : Nat) : Int) →
            (h3 (200 + 4 * nP) 0 = (nP : Int) ∧ h3 (200 + 4 * nP) 1 = kk ∧ h3 (200 + 4 * nP) 2 = vv ∧ h3 (200 + 4 * nP) 3 = ((201 + 4 * nP : Nat) : Int) ∧ ∀ j, j < 10 → h3 (201 + 4 * nP) j = -5) → (h3 (202 + 4 * nP) 0 = (nP : Int) ∧ h3 (202 + 4 * nP) 1 = 3 ∧ h3 (202 + 4 * nP) 2 = 9 ∧ h3 (202 + 4 * nP) 3 = ((203 + 4 * nP : Nat) : Int) ∧ ∀ j, j < 10 → h3 (203 + 4 * nP) j = -5) →
            h3 123 nP = kk → h3 124 nP = vv → h3 126 nP = 0 → h3 125 nP = z → (∀ j, j < 10 → h3 127 (10 * nP + j) = -1) → ((z = -1 ∧ h3 12 nP = -5 ∧ h3 122 nP = wr h0 122 nP) ∨ (asg ∧ z = (nP : Int) ∧ h3 12 nP = (nP : Int) ∧ h3 122 nP = (nP : Int))) → Sim h3 al3 := by
          intro h3 al3 z F A e15 e120 e2 e3 ea eb e123 e124 e126 e125 e127 hz
          have F2 : ∀ a j, ¬ ((200 ≤ a ∧ a ≤ 223) ∨ a = 2 ∨ a = 3 ∨ (a = 1 ∧ j = 5) ∨ a = 12 ∨ a = 123 ∨ a = 124 ∨ a = 126 ∨ a = 125 ∨ a = 127 ∨ (a = 120 ∧ j = 1) ∨ a = 122) → h3 a j = wr h0 a j := fun a j e => F a j (by omega) (by omega) (by omega) (by omega) (by omega) (by omega) (by omega) (by omega) (by omega) (by omega) (by omega) (by omega)
          have zr : z = -1 ∨ (0 ≤ z ∧ z < (nH : Int)) := by
            rw [hasg] at hz
            rcases hz with x | x
            · exact Or.inl x.1
            · have := x.1.1
              omega
          have zo : ∀ p, p < nP → 0 ≤ z → O p ≠ z := fun p hp h00 => by
            rw [hasg] at hz
            rcases hz with x | x
            · omega
            · rw [x.2.1]
              exact x.1.2 p hp
          have hne : ∀ p, p < nP → (if p = nP then z else O p) = O p := fun p hp => if_neg (by omega)
          have hNW : NWf h3 nH (nP + 1) rd lots l yr lo S (fun p => if p = nP then z else O p) (fun p => if p = nP then 0 else P p) := by
            refine ⟨⟨⟨(F2 _ _ (by omega)).trans a1, (F2 _ _ (by omega)).trans a2⟩, ⟨e15, e120⟩, a5, by omega⟩, ⟨⟨fun j hj => (F2 _ _ (by omega)).trans (c1 j hj), fun p hp => ⟨fun q1 => ?_, fun q1 => ?_⟩, fun p hp => ?_⟩, fun j q1 q2 => (F2 _ _ (by omega)).trans (c4 j q1 q2), fun j q1 q2 => (F2 _ _ (by omega)).trans (c5 j (by omega) q2)⟩, ⟨fun j hj => ⟨(F2 _ _ (by omega)).trans (m1 j hj).1, ?_⟩, fun p hp => ⟨?_, ?_⟩⟩, ⟨g1, g2, fun p hp => ?_, fun p q hp hq h00 e => ?_, fun p hp => ?_⟩, ?_, (F2 _ _ (by omega)).trans o1, (F2 _ _ (by omega)).trans o2, o3, fun q hq => ⟨(F2 _ _ (by omega)).trans (o4 q hq).1, (F2 _ _ (by omega)).trans (o4 q hq).2.1, (o4 q hq).2.2⟩, o5⟩
            · show ((if p = nP then z else O p) = -1 ∧ h3 12 p = -5) ∨ (0 ≤ (if p = nP then z else O p) ∧ h3 12 p = (if p = nP then z else O p))
              by_cases e : p = nP
              · subst e
                rw [if_pos rfl]
                omega
              · rw [if_neg e, F 12 p (by omega) (by omega) (by omega) (by omega) (by omega) (by omega) (by omega) (by omega) (by omega) (by omega) (by omega) (by omega)]
                exact (c2 p hp).1 (by omega)
            · show h3 12 p = -5
              rw [F 12 p (by omega) (by omega) (by omega) (by omega) (by omega) (by omega) (by omega) (by omega) (by omega) (by omega) (by omega) (by omega)]
              exact (c2 p hp).2 (by omega)
            · show h3 13 p = (if p = nP then 0 else P p)
              rw [F2 13 p (by omega)]
              by_cases e : p = nP
              · rw [if_pos e]
                exact c5 p (by omega) (by omega)
              · rw [if_neg e]
                exact c3 p (by omega)
            · show h3 122 j = ow (fun p => if p = nP then z else O p) (nP + 1) j
              have e1 : ow (fun p => if p = nP then z else O p) (nP + 1) (j : Int) = if (if nP = nP then z else O nP) = (j : Int) then (nP : Int) else ow (fun p => if p = nP then z else O p) nP (j : Int) := rfl
              rw [e1, if_pos rfl, ow_cg (O2 := O) nP fun p hp => hne p hp]
              by_cases ej : j = nP
              · subst ej
                rcases hz with ⟨x1, x2, x3⟩ | ⟨x0, x1, x2, x3⟩
                · rw [if_neg (by omega), x3]
                  exact (m1 j hj).2
                · rw [if_pos x1]
                  exact x3
              · rw [F 122 j (by omega) (by omega) (by omega) (by omega) (by omega) (by omega) (by omega) (by omega) (by omega) (by omega) (by omega) (by omega), if_neg (by omega)]
                exact (m1 j hj).2
            · show h3 125 p = (if p = nP then z else O p)
              by_cases e : p = nP
              · rw [if_pos e, e]; exact e125
              · rw [if_neg e, F 125 p (by omega) (by omega) (by omega) (by omega) (by omega) (by omega) (by omega) (by omega) (by omega) (by omega) (by omega) (by omega)]
                exact (m2 p (by omega)).1
            · show h3 126 p = (if p = nP then 0 else P p)
              by_cases e : p = nP
              · rw [if_pos e, e]; exact e126
              · rw [if_neg e, F 126 p (by omega) (by omega) (by omega) (by omega) (by omega) (by omega) (by omega) (by omega) (by omega) (by omega) (by omega) (by omega)]
                exact (m2 p (by omega)).2
            · show (if p = nP then z else O p) = -1 ∨ (0 ≤ (if p = nP then z else O p) ∧ (if p = nP then z else O p) < (nH : Int))
              by_cases e : p = nP
              · rw [if_pos e]; exact zr
              · rw [if_neg e]; exact g3 p (by omega)
            · have e : (if p = nP then z else O p) = (if q = nP then z else O q) := e
              have h00 : 0 ≤ (if p = nP then z else O p) := h00
              by_cases y1 : p = nP
              · by_cases y2 : q = nP
                · omega
                · rw [if_pos y1] at h00
                  rw [if_pos y1, if_neg y2] at e
                  exact absurd e.symm (zo q (by omega) h00)
              · by_cases y2 : q = nP
                · rw [if_neg y1] at h00
                  rw [if_neg y1, if_pos y2] at e
                  exact absurd e (zo p (by omega) (by omega))
                · rw [if_neg y1] at h00
                  rw [if_neg y1, if_neg y2] at e
                  exact g4 p q (by omega) (by omega) h00 e
            · show I32 (if p = nP then 0 else P p)
              by_cases e : p = nP
              · rw [if_pos e]; unfold I32; omega
              · rw [if_neg e]; exact g5 p (by omega)
            · obtain ⟨⟨x1, x2, x3⟩, ⟨x4, x5, x6⟩, x7, x8, x9⟩ := hscal
              exact ⟨⟨(F2 _ _ (by omega)).trans x1, (F2 _ _ (by omega)).trans x2, x3⟩, ⟨(F2 _ _ (by omega)).trans x4, (F2 _ _ (by omega)).trans x5, x6⟩, (F2 _ _ (by omega)).trans x7, (F2 _ _ (by omega)).trans x8, x9⟩
          have hBK : BKf h3 := by
            unfold BKf
            rw [F2 10 6 (by omega), F2 120 6 (by omega)]
            refine ⟨hB.1, fun i h1 h2 => ?_⟩
            rw [F2 15 i (by omega), F2 129 i (by omega)]
            exact hB.2 i h1 h2
          have wlH : ∀ a, 200 ≤ a → a < 230 → wl a = [] := fun a q1 q2 => by
            have c : ck 230 (fun a => decide (200 ≤ a → wl a = [])) = true := by decide +kernel
            exact of_decide_eq_true (ck_of c q2) q1
          have hW3 : Wd h3 := hW.of fun a j hk2 => F2 a j (by
            rintro (q1 | rfl | rfl | ⟨rfl, rfl⟩ | rfl | rfl | rfl | rfl | rfl | rfl | ⟨rfl, rfl⟩ | rfl)
            · exact hk2 (by rw [wlH a q1.1 (by omega)]; show (-9 : Int) < 0; decide)
            · exact hk2 (by show (-9 : Int) < 0; decide)
            · exact hk2 (by show (-9 : Int) < 0; decide)
            · exact hk2 (by decide)
            · exact hk2 (by show (-9 : Int) < 0; decide)
            · exact hk2 (by show (-9 : Int) < 0; decide)
            · exact hk2 (by show (-9 : Int) < 0; decide)
            · exact hk2 (by show (-9 : Int) < 0; decide)
            · exact hk2 (by show (-9 : Int) < 0; decide)
            · exact hk2 (by show (-9 : Int) < 0; decide)
            · exact hk2 (by decide)
            · exact hk2 (by show (-9 : Int) < 0; decide))
          have hI3 : SI h3 := by
            have hI := hS.2.2.1
            have e : ∀ h n m v, I0 (rs tI h) n m v = I0 h n m v := fun _ _ _ _ => rfl
            show I0 h3 _ _ _
            rw [← e, rs_of (h := wr h0) fun a j q => F2 a j ?_, e, e120, F2 120 0 (by omega), F2 120 16 (by omega)]
            · rcases hI with x | ⟨x1, x2, x3, x4, x5⟩
              · exact Or.inl x
              · exact Or.inr ⟨x1, x2, x3, by omega, x5⟩
            · unfold tI inR at q
              simp only [Bool.or_eq_true, Bool.and_eq_true, Nat.ble_eq, Nat.beq_eq] at q
              omega
          have hH3 : SH h3 al3 := by
            show H0 (rs tH h3) al3 _
            rw [e120]
            have R : ∀ a j, tH a j = true → rs tH h3 a j = h3 a j := fun a j e => rs_in e
            have t1 : ∀ a j, a = 2 ∨ a = 3 ∨ a = 123 ∨ a = 124 ∨ a = 127 → tH a j = true := fun a j e => by
              rcases e with rfl | rfl | rfl | rfl | rfl <;> rfl
            intro i hi
            by_cases ei : i = nP
            · subst ei
              refine ⟨fun _ => ?_, fun q1 => absurd q1 (by omega)⟩
              rw [R 2 _ (t1 _ _ (by decide)), R 3 _ (t1 _ _ (by decide)), R 123 _ (t1 _ _ (by decide)), R 124 _ (t1 _ _ (by decide)), R (200 + 4 * i) 0 (tH_ho (by omega) (by omega)), R (200 + 4 * i) 1 (tH_ho (by omega) (by omega)), R (200 + 4 * i) 2 (tH_ho (by omega) (by omega)), R (200 + 4 * i) 3 (tH_ho (by omega) (by omega)), R (202 + 4 * i) 0 (tH_ho (by omega) (by omega)), R (202 + 4 * i) 1 (tH_ho (by omega) (by omega)), R (202 + 4 * i) 2 (tH_ho (by omega) (by omega)), R (202 + 4 * i) 3 (tH_ho (by omega) (by omega))]
              obtain ⟨y0, y1, y2, y3, y4⟩ := ea
              obtain ⟨z0, z1, z2, z3, z4⟩ := eb
              refine ⟨e2, e3, by omega, by omega, y0, y1.trans e123.symm, y2.trans e124.symm, y3, z0, z1, z2, z3, fun ll hll => ?_, fun ll hll => ?_⟩
              · rw [R (203 + 4 * i) ll (tH_ho (by omega) (by omega))]
                exact z4 ll hll
              · rw [R 127 _ (t1 _ _ (by decide)), R (201 + 4 * i) ll (tH_ho (by omega) (by omega))]
                exact Or.inl ⟨e127 ll hll, y4 ll hll⟩
            · obtain ⟨x1, x2⟩ := hH i hi
              have G : ∀ a j, ((a = 2 ∨ a = 3 ∨ a = 123 ∨ a = 124) ∧ j = i) ∨ (200 + 4 * i ≤ a ∧ a ≤ 203 + 4 * i) ∨ (a = 127 ∧ 10 * i ≤ j ∧ j < 10 * i + 10) → rs tH h3 a j = rs tH (wr h0) a j := fun a j e => by
                unfold rs
                rw [F a j (by omega) (by omega) (by omega) (by omega) (by omega) (by omega) (by omega) (by omega) (by omega) (by omega) (by omega) (by omega)]
              refine ⟨fun q1 => ?_, fun q1 => ?_⟩
              · obtain ⟨b1, b2, b3, b4, b5, b6, b7, b8, b9, b10, b11, b12, b13, b14⟩ := x1 (by omega)
                rw [G 2 i (by omega), G 3 i (by omega), G 123 i (by omega), G 124 i (by omega), G (200 + 4 * i) 0 (by omega), G (200 + 4 * i) 1 (by omega), G (200 + 4 * i) 2 (by omega), G (200 + 4 * i) 3 (by omega), G (202 + 4 * i) 0 (by omega), G (202 + 4 * i) 1 (by omega), G (202 + 4 * i) 2 (by omega), G (202 + 4 * i) 3 (by omega)]
                refine ⟨b1, b2, b3, b4, b5, b6, b7, b8, b9, b10, b11, b12, fun ll hll => ?_, fun ll hll => ?_⟩
                · rw [G (203 + 4 * i) ll (by omega)]
                  exact b13 ll hll
                · rw [G 127 (10 * i + ll) (by omega), G (201 + 4 * i) ll (by omega)]
                  exact b14 ll hll
              · obtain ⟨b1, b2, b3⟩ := x2 (by omega)
                rw [G 2 i (by omega), G 3 i (by omega)]
                exact ⟨b1, b2, fun j hj => (A _ (by omega)).trans (b3 j hj)⟩
          exact hS.mk2 hW3 (Or.inl (SN.of hNW hBK)) (Or.inl hI3) (Or.inl hH3) (Or.inr fun a j q => F2 a j (by unfold pT at q; omega)) (Or.inr fun a j q => F2 a j (by unfold pP at q; omega)) (Or.inr fun a j q => F2 a j (by unfold pC at q; omega)) (fun a j q => F2 a j (by unfold pK at q; omega)) (Or.inr ⟨fun a j q => F2 a j (by unfold pV at q; omega), fun a q => A a (by omega)⟩)
        -- the reference, behind the class
        have mod : ∀ (h2 : HH) (al2 : AL), Wd h2 → (∀ a j, ¬ (200 + 4 * nP ≤ a ∧ a ≤ 203 + 4 * nP) → ¬ (a = 2 ∧ j = nP) → ¬ (a = 3 ∧ j = nP) → ¬ (a = 1 ∧ j = 5) → ¬ (a = 12 ∧ j = nP) → h2 a j = wr h0 a j) → (∀ a, ¬ (200 + 4 * nP ≤ a ∧ a ≤ 203 + 4 * nP) → al2 a = al a) → h2 1 5 = ((nP + 1 : Nat) : Int) → h2 2 nP = ((200 + 4 * nP : Nat) : Int) → h2 3 nP = ((202 + 4 * nP : Nat) : Int) →
            (h2 (200 + 4 * nP) 0 = (nP : Int) ∧ h2 (200 + 4 * nP) 1 = kk ∧ h2 (200 + 4 * nP) 2 = vv ∧ h2 (200 + 4 * nP) 3 = ((201 + 4 * nP : Nat) : Int) ∧ ∀ j, j < 10 → h2 (201 + 4 * nP) j = -5) → (h2 (202 + 4 * nP) 0 = (nP : Int) ∧ h2 (202 + 4 * nP) 1 = 3 ∧ h2 (202 + 4 * nP) 2 = 9 ∧ h2 (202 + 4 * nP) 3 = ((203 + 4 * nP : Nat) : Int) ∧ ∀ j, j < 10 → h2 (203 + 4 * nP) j = -5) → ((asg ∧ h2 12 nP = (nP : Int)) ∨ (¬ asg ∧ h2 12 nP = -5)) → Call g (d + 9) yMo_holder [xr 120, xi kk, xi vv] h2 al2 (Ok2 (some (xi (nP : Int)))) := by
          intro h2 al2 hW2 F A e15 e2 e3 ea eb e12
          have eA : h2 120 1 = (nP : Int) := (F _ _ (by omega) (by omega) (by omega) (by omega) (by omega)).trans a4
          have eH : h2 120 0 = (nH : Int) := (F _ _ (by omega) (by omega) (by omega) (by omega) (by omega)).trans a2
          -- behind all rows
          have tail : ∀ h3 : HH, (∀ a j, ¬ (a = 123 ∧ j = nP) → ¬ (a = 124 ∧ j = nP) → ¬ (a = 126 ∧ j = nP) → ¬ (a = 125 ∧ j = nP) → ¬ (a = 127 ∧ 10 * nP ≤ j ∧ j < 10 * nP + 10) → h3 a j = h2 a j) → h3 123 nP = kk → h3 124 nP = vv → h3 126 nP = 0 → h3 125 nP = -1 → (∀ j, j < 10 → h3 127 (10 * nP + j) = -1) → ∀ x4, XW g (d + 8) mMo_holder (Ok2 (some (xi (nP : Int)))) 111 [some (xr 120), some (xi kk), some (xi vv), some (xi (nP : Int)), x4] [] (uH h3 120 1 ((nP + 1 : Nat) : Int)) al2 := by
            intro h3 F3 e123 e124 e126 e125 e127 x4
            have hW3 : Wd h3 := hW2.of fun a j hk2 => F3 a j (by rintro ⟨rfl, _⟩; exact hk2 (by show (-9 : Int) < 0; decide)) (by rintro ⟨rfl, _⟩; exact hk2 (by show (-9 : Int) < 0; decide)) (by rintro ⟨rfl, _⟩; exact hk2 (by show (-9 : Int) < 0; decide)) (by rintro ⟨rfl, _⟩; exact hk2 (by show (-9 : Int) < 0; decide)) (by rintro ⟨rfl, _⟩; exact hk2 (by show (-9 : Int) < 0; decide))
            have hW4 : Wd (uH h3 120 1 ((nP + 1 : Nat) : Int)) := hW3.up (by decide)
            have G : ∀ a j, ¬ (a = 123 ∨ a = 124 ∨ a = 126 ∨ a = 125 ∨ a = 127) → h3 a j = h2 a j := fun a j e => F3 a j (by omega) (by omega) (by omega) (by omega) (by omega)
            have endA : ¬ asg → Sim (uH h3 120 1 ((nP + 1 : Nat) : Int)) al2 := fun q1 => by
              have U : ∀ a j, ¬ (a = 120 ∧ j = 1) → (uH h3 120 1 ((nP + 1 : Nat) : Int)) a j = h3 a j := fun a j e => uH_ne e
              have T : ∀ a j, ¬ (a = 120 ∧ j = 1) → ¬ (a = 123 ∨ a = 124 ∨ a = 126 ∨ a = 125 ∨ a = 127) → (uH h3 120 1 ((nP + 1 : Nat) : Int)) a j = h2 a j := fun a j e e2 => (U a j e).trans (G a j e2)
              refine fin _ al2 (-1) (fun a j y1 y2 y3 y4 y5 y6 y7 y8 y9 y10 y11 y12 => (U a j y11).trans ((F3 a j y6 y7 y8 y9 y10).trans (F a j y1 y2 y3 y4 y5))) A ((T _ _ (by omega) (by omega)).trans e15) uH_at ((T _ _ (by omega) (by omega)).trans e2) ((T _ _ (by omega) (by omega)).trans e3) ?_ ?_ ((U _ _ (by omega)).trans e123) ((U _ _ (by omega)).trans e124) ((U _ _ (by omega)).trans e126) ((U _ _ (by omega)).trans e125) (fun j hj => (U _ _ (by omega)).trans (e127 j hj)) (Or.inl ⟨rfl, ?_, ?_⟩)
              · obtain ⟨y0, y1, y2, y3, y4⟩ := ea
                exact ⟨(T _ _ (by omega) (by omega)).trans y0, (T _ _ (by omega) (by omega)).trans y1, (T _ _ (by omega) (by omega)).trans y2, (T _ _ (by omega) (by omega)).trans y3, fun j hj => (T _ _ (by omega) (by omega)).trans (y4 j hj)⟩
              · obtain ⟨y0, y1, y2, y3, y4⟩ := eb
                exact ⟨(T _ _ (by omega) (by omega)).trans y0, (T _ _ (by omega) (by omega)).trans y1, (T _ _ (by omega) (by omega)).trans y2, (T _ _ (by omega) (by omega)).trans y3, fun j hj => (T _ _ (by omega) (by omega)).trans (y4 j hj)⟩
              · rcases e12 with ⟨x1, _⟩ | ⟨_, x2⟩
                · exact absurd x1 q1
                · exact (T _ _ (by omega) (by omega)).trans x2
              · exact (T _ _ (by omega) (by omega)).trans (F _ _ (by omega) (by omega) (by omega) (by omega) (by omega))
            have endB : asg → Sim (uH (uH (uH h3 120 1 ((nP + 1 : Nat) : Int)) 122 nP (nP : Int)) 125 nP (nP : Int)) al2 := fun q1 => by
              have U : ∀ a j, ¬ (a = 120 ∧ j = 1) → ¬ (a = 122 ∧ j = nP) → ¬ (a = 125 ∧ j = nP) → (uH (uH (uH h3 120 1 ((nP + 1 : Nat) : Int)) 122 nP (nP : Int)) 125 nP (nP : Int)) a j = h3 a j := fun a j y1 y2 y3 => by rw [uH_ne y3, uH_ne y2, uH_ne y1]
              have T : ∀ a j, ¬ (a = 120 ∧ j = 1) → ¬ (a = 122 ∧ j = nP) → ¬ (a = 123 ∨ a = 124 ∨ a = 126 ∨ a = 125 ∨ a = 127) → (uH (uH (uH h3 120 1 ((nP + 1 : Nat) : Int)) 122 nP (nP : Int)) 125 nP (nP : Int)) a j = h2 a j := fun a j y1 y2 y3 => (U a j y1 y2 (by omega)).trans (G a j y3)
              refine fin _ al2 (nP : Int) (fun a j y1 y2 y3 y4 y5 y6 y7 y8 y9 y10 y11 y12 => (U a j y11 y12 y9).trans ((F3 a j y6 y7 y8 y9 y10).trans (F a j y1 y2 y3 y4 y5))) A ((T _ _ (by omega) (by omega) (by omega)).trans e15) (by rw [uH_ne (by omega), uH_ne (by omega), uH_at]) ((T _ _ (by omega) (by omega) (by omega)).trans e2) ((T _ _ (by omega) (by omega) (by omega)).trans e3) ?_ ?_ ((U _ _ (by omega) (by omega) (by omega)).trans e123) ((U _ _ (by omega) (by omega) (by omega)).trans e124) ((U _ _ (by omega) (by omega) (by omega)).trans e126) uH_at (fun j hj => (U _ _ (by omega) (by omega) (by omega)).trans (e127 j hj)) (Or.inr ⟨q1, rfl, ?_, ?_⟩)
              · obtain ⟨y0, y1, y2, y3, y4⟩ := ea
                exact ⟨(T _ _ (by omega) (by omega) (by omega)).trans y0, (T _ _ (by omega) (by omega) (by omega)).trans y1, (T _ _ (by omega) (by omega) (by omega)).trans y2, (T _ _ (by omega) (by omega) (by omega)).trans y3, fun j hj => (T _ _ (by omega) (by omega) (by omega)).trans (y4 j hj)⟩
              · obtain ⟨y0, y1, y2, y3, y4⟩ := eb
                exact ⟨(T _ _ (by omega) (by omega) (by omega)).trans y0, (T _ _ (by omega) (by omega) (by omega)).trans y1, (T _ _ (by omega) (by omega) (by omega)).trans y2, (T _ _ (by omega) (by omega) (by omega)).trans y3, fun j hj => (T _ _ (by omega) (by omega) (by omega)).trans (y4 j hj)⟩
              · rcases e12 with ⟨_, x2⟩ | ⟨x1, _⟩
                · exact (T _ _ (by omega) (by omega) (by omega)).trans x2
                · exact absurd q1 x1
              · rw [uH_ne (by omega), uH_at]
            have x1 : (uH h3 120 1 ((nP + 1 : Nat) : Int)) 120 0 = (nH : Int) := (uH_ne (by omega)).trans ((G _ _ (by omega)).trans eH)
            have x2 : nP < nH → (uH h3 120 1 ((nP + 1 : Nat) : Int)) 122 nP = ow O nP (nP : Int) := fun y => (uH_ne (by omega)).trans ((G _ _ (by omega)).trans ((F _ _ (by omega) (by omega) (by omega) (by omega) (by omega)).trans (m1 nP y).2))
            generalize uH h3 120 1 ((nP + 1 : Nat) : Int) = h4 at hW4 x1 x2 endA endB ⊢
            obtain ⟨h4', rfl⟩ := id hW4
            refine XW_t4 [] 80 okMo_holder ?_
            refine ite_i (fun y => ?_) (fun y => ?_)
            · have y : (nP : Int) < wr h4' 120 0 := y
              rw [x1] at y
              refine ⟨nP, rfl, by show nP < 6; omega, _, x2 (by omega), ?_⟩
              refine ite_i (fun z => ?_) (fun z => ?_)
              · have z : ow O nP (nP : Int) < 0 := z
                have ha : asg := by
                  rw [hasg]
                  rcases ow_c O (nP : Int) nP with ⟨y1, y2⟩ | ⟨p, y1, y2, y3⟩
                  · exact ⟨by omega, y2⟩
                  · omega
                refine ⟨nP, rfl, by show nP < 6; omega, ?_⟩
                refine ⟨nP, rfl, by show nP < 6; omega, ?_⟩
                exact ⟨⟨_, rfl, rfl⟩, endB ha⟩
              · have z : ¬ ow O nP (nP : Int) < 0 := z
                have ha : ¬ asg := by
                  rw [hasg]
                  rintro ⟨_, y2⟩
                  rcases ow_c O (nP : Int) nP with ⟨y1, _⟩ | ⟨p, y1, _, y3⟩
                  · omega
                  · exact y2 p y1 y3
                exact ⟨⟨_, rfl, rfl⟩, endA ha⟩
            · have y : ¬ (nP : Int) < wr h4' 120 0 := y
              rw [x1] at y
              have ha : ¬ asg := by
                rw [hasg]
                rintro ⟨y1, _⟩
                omega
              exact ⟨⟨_, rfl, rfl⟩, endA ha⟩
          -- its row
          have loop : ∀ (m j : Nat) (h3 : HH), j + m = 10 → (∀ a i, ¬ (a = 123 ∧ i = nP) → ¬ (a = 124 ∧ i = nP) → ¬ (a = 126 ∧ i = nP) → ¬ (a = 125 ∧ i = nP) → ¬ (a = 127 ∧ 10 * nP ≤ i ∧ i < 10 * nP + 10) → h3 a i = h2 a i) → h3 123 nP = kk → h3 124 nP = vv → h3 126 nP = 0 → h3 125 nP = -1 → (∀ i, i < j → h3 127 (10 * nP + i) = -1) → XW g (d + 8) mMo_holder (Ok2 (some (xi (nP : Int)))) 75 [some (xr 120), some (xi kk), some (xi vv), some (xi (nP : Int)), some (xi (j : Int))] [] h3 al2 := by
            intro m
            induction m with
            | zero =>
              intro j h3 hj F3 e123 e124 e126 e125 e127
              have t := tail h3 F3 e123 e124 e126 e125 (fun i hi => e127 i (by omega)) (some (xi (j : Int)))
              have e1 : h3 120 1 = (nP : Int) := (F3 _ _ (by omega) (by omega) (by omega) (by omega) (by omega)).trans eA
              rw [← nS nP (by omega), ← e1] at t
              have hW3 : Wd h3 := hW2.of fun a j hk2 => F3 a j (by rintro ⟨rfl, _⟩; exact hk2 (by show (-9 : Int) < 0; decide)) (by rintro ⟨rfl, _⟩; exact hk2 (by show (-9 : Int) < 0; decide)) (by rintro ⟨rfl, _⟩; exact hk2 (by show (-9 : Int) < 0; decide)) (by rintro ⟨rfl, _⟩; exact hk2 (by show (-9 : Int) < 0; decide)) (by rintro ⟨rfl, _⟩; exact hk2 (by show (-9 : Int) < 0; decide))
              rw [e1] at t
              have t2 : XW g (d + 8) mMo_holder (Ok2 (some (xi (nP : Int)))) 111 [some (xr 120), some (xi kk), some (xi vv), some (xi (nP : Int)), some (xi (j : Int))] [] (uH h3 120 1 (wI (h3 120 1 + 1))) al2 := by rw [e1]; exact t
              obtain ⟨h3', rfl⟩ := id hW3
              refine XW_t4 [75, 111] 60 okMo_holder ?_
              refine ite_f (by omega) ?_
              exact t2
            | succ m ih =>
              intro j h3 hj F3 e123 e124 e126 e125 e127
              have hW3 : Wd h3 := hW2.of fun a j hk2 => F3 a j (by rintro ⟨rfl, _⟩; exact hk2 (by show (-9 : Int) < 0; decide)) (by rintro ⟨rfl, _⟩; exact hk2 (by show (-9 : Int) < 0; decide)) (by rintro ⟨rfl, _⟩; exact hk2 (by show (-9 : Int) < 0; decide)) (by rintro ⟨rfl, _⟩; exact hk2 (by show (-9 : Int) < 0; decide)) (by rintro ⟨rfl, _⟩; exact hk2 (by show (-9 : Int) < 0; decide))
              have e10 : Unit → wI (wI (10 * (nP : Int)) + (j : Int)) = ((10 * nP + j : Nat) : Int) := fun _ => by rw [wI_id (z := 10 * (nP : Int)) (by omega), wI_id (by omega)]; omega
              have t := ih (j + 1) (uH h3 127 (10 * nP + j) (-1)) (by omega) (fun a i y1 y2 y3 y4 y5 => by rw [uH_ne (by omega)]; exact F3 a i y1 y2 y3 y4 y5) (by rw [uH_ne (by omega)]; exact e123) (by rw [uH_ne (by omega)]; exact e124) (by rw [uH_ne (by omega)]; exact e126) (by rw [uH_ne (by omega)]; exact e125) (fun i hi => by
                rw [uH_r]
                by_cases e : i = j
                · rw [if_pos (by omega)]
                · rw [if_neg (by omega)]
                  exact e127 i (by omega))
              rw [← nS j (by omega)] at t
              obtain ⟨h3', rfl⟩ := id hW3
              refine XW_t4 [75] 60 okMo_holder ?_
              refine ite_t (by omega) ?_
              refine ⟨10 * nP + j, e10 (), by show _ < 60; omega, ?_⟩
              exact t
          have t := loop 10 0 (uH (uH (uH (uH h2 123 nP kk) 124 nP vv) 126 nP 0) 125 nP (-1)) rfl (fun a i y1 y2 y3 y4 y5 => by rw [uH_ne y4, uH_ne y3, uH_ne y2, uH_ne y1]) (by rw [uH_ne (by omega), uH_ne (by omega), uH_ne (by omega), uH_at]) (by rw [uH_ne (by omega), uH_ne (by omega), uH_at]) (by rw [uH_ne (by omega), uH_at]) uH_at (fun i hi => absurd hi (by omega))
          obtain ⟨h2', rfl⟩ := id hW2
          refine cof ocMo_holder rfl (XW_t4 [44] 80 okMo_holder ?_)
          refine c_in (fun _ => ?_) (fun q => absurd hk q)
          refine c_in (fun _ => ?_) (fun q => absurd hv q)
          refine ite_f (show ¬ wr h2' 120 1 = 6 by omega) ?_
          show XW g (d + 8) mMo_holder (Ok2 (some (xi (nP : Int)))) 44 [some (xr 120), some (xi kk), some (xi vv), some (xi (wr h2' 120 1)), none] [] (wr h2') al2
          rw [eA]
          refine XW_t4 [75] 80 okMo_holder ?_
          refine ⟨nP, rfl, by show nP < 6; omega, ?_⟩
          refine ⟨nP, rfl, by show nP < 6; omega, ?_⟩
          refine ⟨nP, rfl, by show nP < 6; omega, ?_⟩
          refine ⟨nP, rfl, by show nP < 6; omega, ?_⟩
          exact t
        -- the class
        refine XW_t4 [51] 60 okBy_holder ?_
        refine ite_t (by omega) ?_
        refine c_join hW a3 q hal fun h2 al2 F A e15 e2 e3 ea eb => ?_
        have hW2 : Wd h2 := hW.of fun a j hk2 => F a j (by
          intro q1
          have c : ck 230 (fun a => decide (200 ≤ a → wl a = [])) = true := by decide +kernel
          exact hk2 (by rw [of_decide_eq_true (ck_of c (show a < 230 by omega)) (by omega)]; show (-9 : Int) < 0; decide)) (by
          rintro ⟨rfl, _⟩
          exact hk2 (by show (-9 : Int) < 0; decide)) (by
          rintro ⟨rfl, _⟩
          exact hk2 (by show (-9 : Int) < 0; decide)) (by
          rintro ⟨rfl, rfl⟩
          exact hk2 (by decide))
        have f16 : h2 1 6 = (nH : Int) := (F _ _ (by omega) (by omega) (by omega) (by omega)).trans a1
        have f12 : ∀ p, h2 12 p = wr h0 12 p := fun p => F _ _ (by omega) (by omega) (by omega) (by omega)
        have f12n : h2 12 nP = -5 := (f12 nP).trans ((c2 nP q).2 (by omega))
        have endA : ¬ asg → Call g (d + 9) yMo_holder [xr 120, xi kk, xi vv] h2 al2 (Ok2 (some (xi (nP : Int)))) := fun q1 => mod h2 al2 hW2 (fun a j y1 y2 y3 y4 _ => F a j y1 y2 y3 y4) A e15 e2 e3 ea eb (Or.inr ⟨q1, f12n⟩)
        have endB : asg → Call g (d + 9) yMo_holder [xr 120, xi kk, xi vv] (uH h2 12 nP (nP : Int)) al2 (Ok2 (some (xi (nP : Int)))) := fun q1 => by
          refine mod _ al2 (hW2.upA rfl) (fun a j y1 y2 y3 y4 y5 => (uH_ne y5).trans (F a j y1 y2 y3 y4)) A ((uH_ne (by omega)).trans e15) ((uH_ne (by omega)).trans e2) ((uH_ne (by omega)).trans e3) ?_ ?_ (Or.inl ⟨q1, uH_at⟩)
          · obtain ⟨y0, y1, y2, y3, y4⟩ := ea
            exact ⟨(uH_ne (by omega)).trans y0, (uH_ne (by omega)).trans y1, (uH_ne (by omega)).trans y2, (uH_ne (by omega)).trans y3, fun j hj => (uH_ne (by omega)).trans (y4 j hj)⟩
          · obtain ⟨y0, y1, y2, y3, y4⟩ := eb
            exact ⟨(uH_ne (by omega)).trans y0, (uH_ne (by omega)).trans y1, (uH_ne (by omega)).trans y2, (uH_ne (by omega)).trans y3, fun j hj => (uH_ne (by omega)).trans (y4 j hj)⟩
        obtain ⟨h2', rfl⟩ := id hW2
        refine XW_t4 [] 100 okBy_holder ?_
        refine c_hasHolding (fun y => ?_) (fun y => ?_)
        · rw [f16] at y
          refine c_whose_n hW2 (fun p hp e _ => ?_) (fun hno => ?_)
          · have ha : ¬ asg := by
              rw [hasg]
              rintro ⟨_, y2⟩
              rw [f12 p] at e
              by_cases z : p < nP
              · have x2 : (O p = -1 ∧ wr h0 12 p = -5) ∨ (0 ≤ O p ∧ wr h0 12 p = O p) := (c2 p hp).1 z
                exact y2 p z (by omega)
              · have x2 : wr h0 12 p = -5 := (c2 p hp).2 (by omega)
                omega
            exact endA ha
          · have ha : asg := by
              rw [hasg]
              refine ⟨by omega, fun p hp e => hno p (by omega) ?_⟩
              rw [f12 p]
              have x2 : (O p = -1 ∧ wr h0 12 p = -5) ∨ (0 ≤ O p ∧ wr h0 12 p = O p) := (c2 p (by omega)).1 hp
              omega
            refine c_putE rfl rfl (by show nP < 6; omega) ?_
            exact endB ha
        · rw [f16] at y
          exact endA (by rw [hasg]; rintro ⟨y1, _⟩; omega)
      · refine XW_t4 [] 60 okBy_holder ?_
        refine ite_f (by omega) ?_
        refine cof ocMo_holder rfl (XW_t4 [] 80 okMo_holder ?_)
        refine c_in (fun _ => ?_) (fun q => absurd hk q)
        refine c_in (fun _ => ?_) (fun q => absurd hv q)
        refine ite_t (show wr h0 120 1 = 6 by omega) ?_
        exact ⟨⟨_, rfl, rfl⟩, hS⟩
    · refine cof ocMo_holder rfl (XW_t4 [] 80 okMo_holder ?_)
      refine c_in (fun _ => ?_) (fun q => absurd hk q)
      exact c_in (fun q => absurd q hv) (fun _ => ⟨⟨_, rfl, rfl⟩, hS⟩)
  · refine cof ocMo_holder rfl (XW_t4 [] 80 okMo_holder ?_)
    exact c_in (fun q => absurd q hk) (fun _ => ⟨⟨_, rfl, rfl⟩, hS⟩)
end Q16
