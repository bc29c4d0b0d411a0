-- more calls that only touch, or only look at, the world as it is
section S2
variable {g : GC} {d : Nat} {h : HH} {al : AL}
/-- the reference's own search in its lot -/
theorem l_Molot {n : Int} {K : KT} (hl : 0 ≤ wr h 120 5 ∧ wr h 120 5 ≤ 6) (ht : (∃ p : Nat, p < 6 ∧ (p : Int) < wr h 120 5 ∧ wr h 128 p = n) → K (some (xi (-3))) (wr h) al)
    (hf : (∀ p : Nat, p < 6 → (p : Int) < wr h 120 5 → wr h 128 p ≠ n) → XW g d mMo_lot K 53 [some (xr 120), some (xi n), some (xi (wr h 120 5))] [] (wr h) al) : XW g d mMo_lot K 26 [some (xr 120), some (xi n), some (xi 0)] [] (wr h) al := by
  have loop : ∀ m k : Nat, k + m = 6 → (k : Int) ≤ wr h 120 5 → (∀ q : Nat, q < k → wr h 128 q ≠ n) → XW g d mMo_lot K 26 [some (xr 120), some (xi n), some (xi (k : Int))] [] (wr h) al := by
    intro m
    induction m with
    | zero =>
      intro k hk hle hq
      refine XW_to [26, 53] 40 okMo_lot ?_
      refine ite_f (show ¬ (k : Int) < wr h 120 5 by omega) ?_
      have := hf fun p hp _ => hq p (by omega)
      rw [show wr h 120 5 = (k : Int) by omega] at this
      exact this
    | succ m ih =>
      intro k hk hle hq
      refine XW_to [26, 53] 40 okMo_lot ?_
      refine ite_i (fun h1 => ?_) (fun h1 => ?_)
      · simp only [] at h1
        refine ⟨⟨by omega, by show (k : Int) < 6; omega⟩, ?_⟩
        refine ite_i (fun e => ht ⟨k, by omega, h1, e⟩) (fun e => ?_)
        have := ih (k + 1) (by omega) (by omega) fun q hq2 => by
          by_cases e2 : q = k
          · rw [e2]; exact e
          · exact hq q (by omega)
        rw [← nS k (by omega)] at this
        exact this
      · simp only [] at h1
        have := hf fun p hp hp2 => hq p (by omega)
        rw [show wr h 120 5 = (k : Int) by omega] at this
        exact this
  exact loop 6 0 rfl (by omega) fun q hq => absurd hq (by omega)
theorem s_lot {n : Int} (hS : Sim h al) : Call g (d + 4) yBy_lot [xr 0, xi n] h al (fun v h1 al1 => Call g (d + 4) yMo_lot [xr 120, xi n] h1 al1 (Ok2 v)) := by
  have hX := hS.x
  obtain ⟨hW, hN, -⟩ := id hS
  have hW0 := hW
  obtain ⟨h, rfl⟩ := hW
  obtain ⟨n1, n2, r1, r2, r3, r4, r5, r6, r7, r8, r9, r10, r11⟩ := id hN
  have e5 : wr h 10 5 = wr h 120 5 := r6.1
  have b5 : 0 ≤ wr h 120 5 ∧ wr h 120 5 ≤ 6 := r6.2
  refine cof ocBy_lot rfl (XW_to [] 60 okBy_lot ?_)
  refine ite_i (fun h1 => ?_) (fun h1 => ?_)
  · refine cof ocMo_lot rfl (XW_to [] 60 okMo_lot ?_)
    refine ite_t h1 ?_
    exact ⟨⟨0, rfl, rfl⟩, Sim.of ⟨n1, n2, r1, r2, r3, r4, r5, ⟨rfl, show (0 : Int) ≤ 0 by decide, show (0 : Int) ≤ 6 by decide⟩, fun k _ hk => absurd hk (by show ¬ (k : Int) < 0; omega), fun p q _ _ hk => absurd hk (by show ¬ (p : Int) < 0; omega), r9, r10, r11⟩ ((hX.up rfl).up rfl)⟩
  · refine c_within (fun h2 => ?_) (fun h2 => ?_)
    · refine c_inLot_n hW0 (by omega) (fun h3 => ?_) (fun h3 => ?_)
      · refine cof ocMo_lot rfl (XW_to [26] 60 okMo_lot ?_)
        refine ite_f h1 ?_
        refine c_in (fun _ => ?_) (fun q => absurd h2 q)
        refine l_Molot b5 (fun _ => ⟨⟨-3, rfl, rfl⟩, hS⟩) (fun q => ?_)
        obtain ⟨p, hp, hp2, hp3⟩ := h3
        exact absurd ((r7 p hp (show (p : Int) < wr h 120 5 by omega)).1.symm.trans hp3) (q p hp (by omega))
      · refine ite_i (fun h4 => ?_) (fun h4 => ?_)
        · simp only [] at h4
          refine c_putI rfl ⟨by show 0 ≤ wr h 10 5; omega, h4⟩ ?_
          refine cof ocMo_lot rfl (XW_to [26] 60 okMo_lot ?_)
          refine ite_f h1 ?_
          refine c_in (fun _ => ?_) (fun q => absurd h2 q)
          have ew : wI (wr h 10 5 + 1) = wr h 10 5 + 1 := wI_id (by omega)
          have ew2 : wI (wr h 120 5 + 1) = wr h 120 5 + 1 := wI_id (by omega)
          have hX2 : SX (uH (uH (wr h) 14 (wr h 10 5).toNat n) 10 5 (wI (wr h 10 5 + 1))) al := (hX.up rfl).up rfl
          obtain ⟨h9, e9⟩ := hX2.1
          have x5 : wr h9 120 5 = wr h 120 5 := by rw [← e9]; rfl
          have x128 : ∀ k, wr h9 128 k = wr h 128 k := fun k => by rw [← e9]; rfl
          have key : XW g (d + 3) mMo_lot (Ok2 (some (xi (wI (wr h 10 5 + 1))))) 26 [some (xr 120), some (xi n), some (xi 0)] [] (wr h9) al := by
            refine l_Molot (by omega) (fun q => ?_) (fun q => ?_)
            · obtain ⟨p, hp, hp2, hp3⟩ := q
              rw [x5] at hp2
              rw [x128] at hp3
              exact absurd ((r7 p hp hp2).1.trans hp3) (h3 p hp (by omega))
            · refine XW_to [] 60 okMo_lot ?_
              refine ite_f (show ¬ wr h9 120 5 = 6 by omega) ?_
              refine ⟨⟨by show 0 ≤ wr h9 120 5; omega, by show wr h9 120 5 < 6; omega⟩, ?_⟩
              refine ⟨⟨wI (wr h 10 5 + 1), rfl, congrArg (fun z => some (xi z)) (show wI (wr h9 120 5 + 1) = wI (wr h 10 5 + 1) by rw [e5, x5])⟩, ?_⟩
              show Sim (uH (uH (wr h9) 128 (wr h9 120 5).toNat n) 120 5 (wI (wr h9 120 5 + 1))) al
              rw [x5, ← e9]
              refine Sim.of ⟨n1, n2, r1, r2, r3, r4, r5, ⟨show wI (wr h 10 5 + 1) = wI (wr h 120 5 + 1) by rw [e5], show 0 ≤ wI (wr h 120 5 + 1) by omega, show wI (wr h 120 5 + 1) ≤ 6 by omega⟩, fun k hk hk2 => ?_, fun p q hp hq hp2 hq2 hpq => ?_, r9, r10, r11⟩ ((((hX.up rfl).up rfl).up rfl).up rfl)
              · have hk3 : (k : Int) < wr h 120 5 + 1 := by rw [← ew2]; exact hk2
                show uH (wr h) 14 (wr h 10 5).toNat n 14 k = uH (wr h) 128 (wr h 120 5).toNat n 128 k ∧ 0 ≤ uH (wr h) 128 (wr h 120 5).toNat n 128 k ∧ uH (wr h) 128 (wr h 120 5).toNat n 128 k ≤ 5
                rw [uH_r, uH_r, e5]
                by_cases e : k = (wr h 120 5).toNat
                · rw [if_pos e, if_pos e]; exact ⟨rfl, h2⟩
                · rw [if_neg e, if_neg e]; exact r7 k hk (show (k : Int) < wr h 120 5 by omega)
              · have hp3 : (p : Int) < wr h 120 5 + 1 := by rw [← ew2]; exact hp2
                have hq3 : (q : Int) < wr h 120 5 + 1 := by rw [← ew2]; exact hq2
                have hpq2 : uH (wr h) 128 (wr h 120 5).toNat n 128 p = uH (wr h) 128 (wr h 120 5).toNat n 128 q := hpq
                rw [uH_r, uH_r] at hpq2
                have hno : ∀ k : Nat, k < 6 → (k : Int) < wr h 120 5 → wr h 128 k ≠ n := fun k a b c => h3 k a (by omega) ((r7 k a b).1.trans c)
                by_cases ep : p = (wr h 120 5).toNat <;> by_cases eq : q = (wr h 120 5).toNat
                · omega
                · rw [if_pos ep, if_neg eq] at hpq2
                  exact absurd hpq2.symm (hno q hq (by omega))
                · rw [if_neg ep, if_pos eq] at hpq2
                  exact absurd hpq2 (hno p hp (by omega))
                · rw [if_neg ep, if_neg eq] at hpq2
                  exact r8 p q hp hq (show (p : Int) < wr h 120 5 by omega) (show (q : Int) < wr h 120 5 by omega) hpq2
          rw [← e9] at key
          exact key
        · simp only [] at h4
          refine cof ocMo_lot rfl (XW_to [26] 60 okMo_lot ?_)
          refine ite_f h1 ?_
          refine c_in (fun _ => ?_) (fun q => absurd h2 q)
          refine l_Molot b5 (fun q => ?_) (fun q => ?_)
          · obtain ⟨p, hp, hp2, hp3⟩ := q
            exact absurd ((r7 p hp hp2).1.trans hp3) (h3 p hp (by omega))
          · refine XW_to [] 60 okMo_lot ?_
            refine ite_t (show wr h 120 5 = 6 by omega) ?_
            exact ⟨⟨-4, rfl, rfl⟩, hS⟩
    · refine cof ocMo_lot rfl (XW_to [] 60 okMo_lot ?_)
      refine ite_f h1 ?_
      refine c_in (fun q => absurd q h2) (fun _ => ?_)
      exact ⟨⟨-1, rfl, rfl⟩, hS⟩
theorem s_count {n : Int} (hS : Sim h al) : Call g (d + 4) yBy_count [xr 0, xi n] h al (fun v h1 al1 => Call g (d + 4) yMo_count [xr 120, xi n] h1 al1 (Ok2 v)) := by
  obtain ⟨hW, hN, hI, hH, hT, hP, hC, hK, hV⟩ := id hS
  obtain ⟨h, rfl⟩ := hW
  obtain ⟨n1, n2, r1, r2, r3, r4, r5, r6, r7, r8, r9, r10, r11, r12, r13⟩ := id hN
  refine cof ocBy_count rfl (XW_to [] 60 okBy_count ?_)
  refine ite_i (fun e => ?_) (fun f0 => ite_i (fun e => ?_) (fun f1 => ite_i (fun e => ?_) (fun f2 => ite_i (fun e => ?_) (fun f3 => ite_i (fun e => ?_) (fun f4 => ite_i (fun e => ?_) (fun f5 => ite_i (fun e => ?_) (fun f6 => ite_i (fun e => ?_) (fun f7 => ite_i (fun e => ?_) (fun f8 => ?_)))))))))
  · refine cof ocMo_count rfl (XW_to [] 60 okMo_count (ite_t e ⟨⟨wr h 120 0, congrArg (fun z => some (xi z)) n1.2.2, rfl⟩, hS⟩))
  · refine cof ocMo_count rfl (XW_to [] 60 okMo_count (ite_f f0 (ite_t e ⟨⟨wr h 120 1, congrArg (fun z => some (xi z)) n2.2.2, rfl⟩, hS⟩)))
  · refine cof ocMo_count rfl (XW_to [] 60 okMo_count (ite_f f0 (ite_f f1 (ite_t e ⟨⟨wr h 120 16, congrArg (fun z => some (xi z)) hV.2.1.1, rfl⟩, hS⟩))))
  · refine cof ocMo_count rfl (XW_to [] 60 okMo_count (ite_f f0 (ite_f f1 (ite_f f2 (ite_t e ⟨⟨wr h 120 4, congrArg (fun z => some (xi z)) r13.1, rfl⟩, hS⟩)))))
  · refine cof ocMo_count rfl (XW_to [] 60 okMo_count (ite_f f0 (ite_f f1 (ite_f f2 (ite_f f3 (ite_t e ⟨⟨wr h 120 3, congrArg (fun z => some (xi z)) r11.1, rfl⟩, hS⟩))))))
  · refine cof ocMo_count rfl (XW_to [] 60 okMo_count (ite_f f0 (ite_f f1 (ite_f f2 (ite_f f3 (ite_f f4 (ite_t e ⟨⟨wr h 120 5, congrArg (fun z => some (xi z)) r6.1, rfl⟩, hS⟩)))))))
  · refine cof ocMo_count rfl (XW_to [] 60 okMo_count (ite_f f0 (ite_f f1 (ite_f f2 (ite_f f3 (ite_f f4 (ite_f f5 (ite_t e ⟨⟨wr h 120 6, congrArg (fun z => some (xi z)) r9.1, rfl⟩, hS⟩))))))))
  · refine cof ocMo_count rfl (XW_to [] 60 okMo_count (ite_f f0 (ite_f f1 (ite_f f2 (ite_f f3 (ite_f f4 (ite_f f5 (ite_f f6 (ite_t e ⟨⟨wr h 120 18, congrArg (fun z => some (xi z)) hT.1.1, rfl⟩, hS⟩)))))))))
  · refine cof ocMo_count rfl (XW_to [] 60 okMo_count (ite_f f0 (ite_f f1 (ite_f f2 (ite_f f3 (ite_f f4 (ite_f f5 (ite_f f6 (ite_f f7 (ite_t e ⟨⟨wr h 120 69, congrArg (fun z => some (xi z)) hC.1.1, rfl⟩, hS⟩))))))))))
  · refine cof ocMo_count rfl (XW_to [] 60 okMo_count (ite_f f0 (ite_f f1 (ite_f f2 (ite_f f3 (ite_f f4 (ite_f f5 (ite_f f6 (ite_f f7 (ite_f f8 ⟨⟨-2, rfl, rfl⟩, hS⟩))))))))))
end S2
