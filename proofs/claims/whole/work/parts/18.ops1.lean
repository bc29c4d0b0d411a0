-- calls that only touch the world as it is
section S1
variable {g : GC} {d : Nat} {h : HH} {al : AL}
theorem s_book {m : Int} (hS : Sim h al) : Call g (d + 4) yBy_book [xr 0, xi m] h al (fun v h1 al1 => Call g (d + 4) yMo_book [xr 120, xi m] h1 al1 (Ok2 v)) := by
  have hX := hS.x
  obtain ⟨hW, hN, -⟩ := id hS
  obtain ⟨h, rfl⟩ := hW
  obtain ⟨n1, n2, r1, r2, r3, r4, r5, r6, r7, r8, r9, r10, r11⟩ := id hN
  have e6 : wr h 10 6 = wr h 120 6 := r9.1
  have b6 : 0 ≤ wr h 120 6 ∧ wr h 120 6 ≤ 12 := r9.2
  refine cof ocBy_book rfl (XW_to [] 60 okBy_book ?_)
  refine ite_i (fun h1 => ?_) (fun h1 => ?_)
  · refine cof ocMo_book rfl (XW_to [] 60 okMo_book ?_)
    refine ite_t h1 ?_
    exact ⟨⟨0, rfl, rfl⟩, Sim.of ⟨n1, n2, r1, r2, r3, r4, r5, r6, r7, r8, ⟨rfl, show (0 : Int) ≤ 0 by decide, show (0 : Int) ≤ 12 by decide⟩, fun k _ hk => absurd hk (by show ¬ (k : Int) < 0; omega), r11⟩ ((hX.up rfl).up rfl)⟩
  · refine c_within (fun h2 => ?_) (fun h2 => ?_)
    · refine ite_i (fun h3 => ?_) (fun h3 => ?_)
      · simp only [] at h3
        refine c_putI rfl ⟨by show 0 ≤ wr h 10 6; omega, h3⟩ ?_
        refine cof ocMo_book rfl (XW_to [] 60 okMo_book ?_)
        refine ite_f h1 ?_
        refine c_in (fun _ => ?_) (fun q => absurd h2 q)
        refine ite_f (show ¬ wr h 120 6 = 12 by omega) ?_
        refine ⟨⟨by show 0 ≤ wr h 120 6; omega, by show wr h 120 6 < 12; omega⟩, ?_⟩
        have ew : wI (wr h 10 6 + 1) = wr h 10 6 + 1 := wI_id (by omega)
        have ew2 : wI (wr h 120 6 + 1) = wr h 120 6 + 1 := wI_id (by omega)
        refine ⟨⟨wI (wr h 10 6 + 1), rfl, congrArg (fun z => some (xi z)) (show wI (wr h 120 6 + 1) = wI (wr h 10 6 + 1) by rw [e6])⟩, Sim.of ⟨n1, n2, r1, r2, r3, r4, r5, r6, r7, r8, ⟨show wI (wr h 10 6 + 1) = wI (wr h 120 6 + 1) by rw [e6], show 0 ≤ wI (wr h 120 6 + 1) by omega, show wI (wr h 120 6 + 1) ≤ 12 by omega⟩, fun k hk hk2 => ?_, r11⟩ ((((hX.up rfl).up rfl).up rfl).up rfl)⟩
        have hk3 : (k : Int) < wr h 120 6 + 1 := by rw [← ew2]; exact hk2
        show uH (wr h) 15 (wr h 10 6).toNat m 15 k = uH (wr h) 129 (wr h 120 6).toNat m 129 k ∧ 0 ≤ uH (wr h) 129 (wr h 120 6).toNat m 129 k ∧ uH (wr h) 129 (wr h 120 6).toNat m 129 k ≤ 2
        rw [uH_r, uH_r, e6]
        by_cases e : k = (wr h 120 6).toNat
        · rw [if_pos e, if_pos e]; exact ⟨rfl, h2⟩
        · rw [if_neg e, if_neg e]; exact r10 k hk (show (k : Int) < wr h 120 6 by omega)
      · simp only [] at h3
        refine cof ocMo_book rfl (XW_to [] 60 okMo_book ?_)
        refine ite_f h1 ?_
        refine c_in (fun _ => ?_) (fun q => absurd h2 q)
        refine ite_t (show wr h 120 6 = 12 by omega) ?_
        exact ⟨⟨-4, rfl, rfl⟩, hS⟩
    · refine cof ocMo_book rfl (XW_to [] 60 okMo_book ?_)
      refine ite_f h1 ?_
      refine c_in (fun q => absurd q h2) (fun _ => ?_)
      exact ⟨⟨-2, rfl, rfl⟩, hS⟩
end S1
