-- row
section Q13
variable {g : GC} {d : Nat} {h : HH} {al : AL}
set_option maxRecDepth 8000 in
theorem s_row {p ln m : Int} (hS : Sim h al) : Call g (d + 9) yBy_row [xr 0, xi p, xi ln, xi m] h al (fun v h1 al1 => Call g (d + 9) yMo_row [xr 120, xi p, xi ln, xi m] h1 al1 (Ok2 v)) := by
  obtain ⟨V, nV, vl, nH, nP, rd, lots, l, yr, lo, S, O, P, k, v, st, hA⟩ := hS.all
  obtain ⟨⟨hW, hN, hB⟩, -, -, -, hr⟩ := id hA
  have hH := hS.2.2.2.1
  have e1 := hN.1.2.1.2
  have n6 := hN.1.2.2
  obtain ⟨-, -, wpos, -⟩ := hH.wh (nP := nP) e1
  obtain ⟨h0, rfl⟩ := id hW
  have bad : ¬ ((0 ≤ p ∧ p < (nP : Int)) ∧ (1 ≤ ln ∧ ln ≤ 9)) → Call g (d + 9) yMo_row [xr 120, xi p, xi ln, xi m] (wr h0) al (Ok2 (some (xi (-1)))) := fun hb => by
    refine cof ocMo_row rfl (XW_t4 [] 80 okMo_row ?_)
    refine c_isHolderA hA (fun pn e1 e2 _ => ?_) (fun _ => ⟨⟨_, rfl, rfl⟩, hS⟩)
    exact c_in (fun e3 => absurd hb (by omega)) (fun _ => ⟨⟨_, rfl, rfl⟩, hS⟩)
  refine cof ocBy_row rfl (XW_t4 [] 80 okBy_row ?_)
  refine c_holderAt hW (fun q => ?_) (fun q => bad (by omega))
  by_cases hp : p.toNat < nP
  · obtain ⟨ep, -⟩ := wpos p.toNat (by omega) hp
    obtain ⟨pn, rfl⟩ := Int.eq_ofNat_of_zero_le q.1
    have hp : pn < nP := hp
    have hp6 : pn < 6 := by omega
    have hh : HN (200 + 4 * pn) := ⟨2 * pn, by omega, by omega⟩
    obtain ⟨k0, k1⟩ := hh.k
    have l10 := hh.l g
    have hF : HF (wr h0) (200 + 4 * pn) (pn : Int) (k pn) (v pn) (st pn) := by
      obtain ⟨ho, x1, x2, x3⟩ := (hA.2.2.2.1.1 pn hp6).1 hp
      have ep2 : wr h0 2 pn = ((200 + 4 * pn : Nat) : Int) := ep
      rw [ep2] at x2
      have : ho = 200 + 4 * pn := by omega
      rw [← this]
      exact x3
    have ep2 : wr h0 2 ((pn : Int)).toNat = Int.ofNat (200 + 4 * pn) := ep
    rw [ep2]
    refine c_within (fun hl => ?_) (fun hl => bad (fun b => hl b.2))
    obtain ⟨lnn, rfl⟩ := Int.eq_ofNat_of_zero_le (show 0 ≤ ln by omega)
    have e10 : Unit → wI (wI (10 * (pn : Int)) + (lnn : Int)) = ((10 * pn + lnn : Nat) : Int) := fun _ => by rw [wI_id (z := 10 * (pn : Int)) (by omega), wI_id (by omega)]; omega
    refine c_within (fun hm => ?_) (fun hm => ?_)
    · refine cond_i (by rw [k0]; rfl) ⟨_, hF.2.1, ?_⟩
      refine ite_i (fun qk => ?_) (fun qk => ?_)
      · have qk : k pn = 6 := qk
        have hst := hF.2.2.2.2.2.2 lnn (by omega)
        obtain ⟨zz, hzz⟩ : ∃ zz, wr h0 (200 + 4 * pn + 1) lnn = zz := ⟨_, rfl⟩
        have hmst := (hr pn hp).2.2 lnn (by omega)
        refine cond_i (by rw [k0]; rfl) ⟨_, hF.2.2.2.1, ?_⟩
        refine c_atE (isA50 k1) rfl (by omega) hzz ?_
        refine cond_i (by rw [k0]; rfl) ⟨_, hF.2.2.2.1, ?_⟩
        -- both written
        have fin : ∀ y : Int, y = (if m < 0 then -5 else m) → Call g (d + 9) yMo_row [xr 120, xi (pn : Int), xi (lnn : Int), xi m] (uH (wr h0) (200 + 4 * pn + 1) lnn y) al (Ok2 (some (xi zz))) := by
          intro y hy
          have hW2 : Wd (uH (wr h0) (200 + 4 * pn + 1) lnn y) := hW.upA (by
            have c : ck 230 (fun a => decide (200 ≤ a → wl a = [])) = true := by decide +kernel
            exact of_decide_eq_true (ck_of c (show 200 + 4 * pn + 1 < 230 by omega)) (by omega))
          have f : ∀ a j, a ≤ 150 → (uH (wr h0) (200 + 4 * pn + 1) lnn y) a j = wr h0 a j := fun a j e => uH_ne (by omega)
          have done : Sim (uH (uH (wr h0) (200 + 4 * pn + 1) lnn y) 127 (10 * pn + lnn) m) al := by
            have F2 : ∀ a j, ¬ (a = 127 ∨ a = 200 + 4 * pn + 1) → (uH (uH (wr h0) (200 + 4 * pn + 1) lnn y) 127 (10 * pn + lnn) m) a j = wr h0 a j := fun a j e => by rw [uH_ne (by omega), uH_ne (by omega)]
            refine hS.mk2 (hW2.upA rfl) (Or.inr fun a j q => F2 a j (by unfold pN at q; omega)) (Or.inr fun a j q => F2 a j (by unfold pI at q; omega)) (Or.inl ?_) (Or.inr fun a j q => F2 a j (by unfold pT at q; omega)) (Or.inr fun a j q => F2 a j (by unfold pP at q; omega)) (Or.inr fun a j q => F2 a j (by unfold pC at q; omega)) (fun a j q => F2 a j (by unfold pK at q; omega)) (Or.inr ⟨fun a j q => F2 a j (by unfold pV at q; omega), fun _ _ => rfl⟩)
            show H0 (rs tH (uH (uH (wr h0) (200 + 4 * pn + 1) lnn y) 127 (10 * pn + lnn) m)) al _
            rw [F2 120 1 (by omega)]
            have R : ∀ a j, tH a j = true → rs tH (uH (uH (wr h0) (200 + 4 * pn + 1) lnn y) 127 (10 * pn + lnn) m) a j = (uH (uH (wr h0) (200 + 4 * pn + 1) lnn y) 127 (10 * pn + lnn) m) a j := fun a j e => rs_in e
            have R0 : ∀ a j, tH a j = true → rs tH (wr h0) a j = wr h0 a j := fun a j e => rs_in e
            intro i hi
            obtain ⟨x1, x2⟩ := hH i hi
            refine ⟨fun qi => ?_, fun qi => ?_⟩
            · obtain ⟨b1, b2, b3, b4, b5, b6, b7, b8, b9, b10, b11, b12, b13, b14⟩ := x1 qi
              have G : ∀ a j, ¬ (a = 127 ∨ a = 200 + 4 * pn + 1) → rs tH (uH (uH (wr h0) (200 + 4 * pn + 1) lnn y) 127 (10 * pn + lnn) m) a j = rs tH (wr h0) a j := fun a j e => by
                unfold rs
                rw [F2 a j e]
              rw [G 2 i (by omega), G 3 i (by omega), G 123 i (by omega), G 124 i (by omega), G (200 + 4 * i) 0 (by omega), G (200 + 4 * i) 1 (by omega), G (200 + 4 * i) 2 (by omega), G (200 + 4 * i) 3 (by omega), G (202 + 4 * i) 0 (by omega), G (202 + 4 * i) 1 (by omega), G (202 + 4 * i) 2 (by omega), G (202 + 4 * i) 3 (by omega)]
              refine ⟨b1, b2, b3, b4, b5, b6, b7, b8, b9, b10, b11, b12, fun ll hll => ?_, fun ll hll => ?_⟩
              · rw [G (203 + 4 * i) ll (by omega)]
                exact b13 ll hll
              · have t127 : ∀ j, tH 127 j = true := fun j => rfl
                have b := b14 ll hll
                rw [R0 127 _ (t127 _), R0 (201 + 4 * i) _ (tH_ho (by omega) (by omega))] at b
                rw [R 127 _ (t127 _), R (201 + 4 * i) _ (tH_ho (by omega) (by omega)), uH_r, uH_ne (a := 201 + 4 * i) (by omega)]
                by_cases ei : i = pn ∧ ll = lnn
                · obtain ⟨rfl, rfl⟩ := ei
                  rw [if_pos rfl, show 200 + 4 * i + 1 = 201 + 4 * i by omega, uH_at, hy]
                  by_cases qm : m < 0
                  · rw [if_pos qm]
                    exact Or.inl ⟨by omega, rfl⟩
                  · rw [if_neg qm]
                    exact Or.inr ⟨by omega, by omega, rfl⟩
                · rw [if_neg (by omega), uH_ne (a := 127) (by omega), uH_ne (by omega)]
                  exact b
            · obtain ⟨b1, b2, b3⟩ := x2 qi
              have G : ∀ a j, ¬ (a = 127 ∨ a = 200 + 4 * pn + 1) → rs tH (uH (uH (wr h0) (200 + 4 * pn + 1) lnn y) 127 (10 * pn + lnn) m) a j = rs tH (wr h0) a j := fun a j e => by
                unfold rs
                rw [F2 a j e]
              rw [G 2 i (by omega), G 3 i (by omega)]
              exact ⟨b1, b2, b3⟩
          have g120 : ∀ j, (uH (wr h0) (200 + 4 * pn + 1) lnn y) 120 j = wr h0 120 j := fun j => f 120 j (by omega)
          have g123 : (uH (wr h0) (200 + 4 * pn + 1) lnn y) 123 pn = k pn := (f 123 pn (by omega)).trans (hr pn hp).1.1
          have g127 : (uH (wr h0) (200 + 4 * pn + 1) lnn y) 127 (10 * pn + lnn) = st pn lnn := (f 127 _ (by omega)).trans hmst.1
          have hA2 : 0 ≤ (uH (wr h0) (200 + 4 * pn + 1) lnn y) 120 1 ∧ (uH (wr h0) (200 + 4 * pn + 1) lnn y) 120 1 ≤ 6 := by rw [g120]; omega
          have gn : (uH (wr h0) (200 + 4 * pn + 1) lnn y) 120 1 = (nP : Int) := (g120 1).trans e1
          obtain ⟨h2, e2⟩ := hW2
          rw [e2] at done g123 g127 hA2 gn ⊢
          refine cof ocMo_row rfl (XW_t4 [] 100 okMo_row ?_)
          refine c_isHolder hA2 (fun _ => ?_) (fun q => absurd q (by omega))
          refine c_in (fun _ => ?_) (fun q => absurd hl q)
          refine c_in (fun _ => ?_) (fun q => absurd hm q)
          refine ⟨pn, rfl, by show pn < 6; exact hp6, _, g123, ?_⟩
          refine ite_t qk ?_
          refine ⟨10 * pn + lnn, e10 (), by show _ < 60; omega, _, g127, ?_⟩
          refine ⟨10 * pn + lnn, e10 (), by show _ < 60; omega, ?_⟩
          refine ite_i (fun qs => ?_) (fun qs => ?_)
          · have qs : st pn lnn < 0 := qs
            exact ⟨⟨_, rfl, by rw [show zz = -5 by omega]⟩, done⟩
          · have qs : ¬ st pn lnn < 0 := qs
            exact ⟨⟨_, rfl, by rw [show zz = st pn lnn by omega]⟩, done⟩
        refine ite_i (fun qm => ?_) (fun qm => ?_)
        · have qm : m < 0 := qm
          refine c_putE k1 rfl (by omega) ?_
          exact fin _ (by rw [if_pos qm])
        · have qm : ¬ m < 0 := qm
          refine c_putE k1 rfl (by omega) ?_
          exact fin _ (by rw [if_neg qm])
      · have qk : ¬ k pn = 6 := qk
        refine cof ocMo_row rfl (XW_t4 [] 100 okMo_row ?_)
        refine c_isHolderA hA (fun pn2 _ _ _ => ?_) (fun q => absurd q (by omega))
        refine c_in (fun _ => ?_) (fun q => absurd hl q)
        refine c_in (fun _ => ?_) (fun q => absurd hm q)
        refine ⟨pn, rfl, by show pn < 6; exact hp6, _, (hr pn hp).1.1, ?_⟩
        refine ite_f qk ?_
        exact ⟨⟨_, rfl, rfl⟩, hS⟩
    · refine cof ocMo_row rfl (XW_t4 [] 100 okMo_row ?_)
      refine c_isHolderA hA (fun pn2 _ _ _ => ?_) (fun q => absurd q (by omega))
      refine c_in (fun _ => ?_) (fun q => absurd hl q)
      exact c_in (fun q => absurd q hm) (fun _ => ⟨⟨_, rfl, rfl⟩, hS⟩)
  · have en : wr h0 2 p.toNat = -1 := (hA.2.2.2.1.1 p.toNat (by omega)).2 (by omega)
    rw [en]
    exact bad (by omega)
end Q13
