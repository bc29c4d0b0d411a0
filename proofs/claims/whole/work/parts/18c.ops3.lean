-- set, of, trace
section S3
variable {g : GC} {d : Nat} {h : HH} {al : AL}
theorem s_set {w n : Int} (hS : Sim h al) : Call g (d + 4) yBy_set [xr 0, xi w, xi n] h al (fun v h1 al1 => Call g (d + 4) yMo_set [xr 120, xi w, xi n] h1 al1 (Ok2 v)) := by
  have hX := hS.x
  obtain ⟨hW, hN, -⟩ := id hS
  obtain ⟨h, rfl⟩ := hW
  obtain ⟨n1, n2, r1, r2, r3, r4, r5, r6, r7, r8, r9, r10, r11, r12, r13⟩ := id hN
  have e3 : wr h 10 7 = wr h 120 3 := r11.1
  have b3 : 1 ≤ wr h 120 3 ∧ wr h 120 3 ≤ wr h 120 2 := r11.2
  have e2 : wr h 10 8 = wr h 120 2 := r12.1
  have b2 : wr h 120 2 ≤ 9 := r12.2
  refine cof ocBy_set rfl (XW_to [] 60 okBy_set ?_)
  refine c_within (fun h1 => ?_) (fun h1 => ?_)
  · refine ite_i (fun h2 => ?_) (fun h2 => ?_)
    · refine c_within (fun h3 => ?_) (fun h3 => ?_)
      · refine ite_t h2 (ite_t h2 ?_)
        refine c_min ?_
        refine cof ocMo_set rfl (XW_to [] 60 okMo_set ?_)
        refine c_in (fun _ => ?_) (fun q => absurd h1 q)
        refine ite_t h2 ?_
        refine c_in (fun _ => ?_) (fun q => absurd h3 q)
        refine ite_t h2 (ite_t h2 (ite_t h2 ?_))
        refine c_Momin ?_
        have em : (if n < wr h 10 7 then n else wr h 10 7) = (if wr h 120 3 < n then wr h 120 3 else n) := by
          rw [e3]
          split <;> split <;> omega
        refine ⟨⟨wr h 120 2, congrArg (fun z => some (xi z)) e2, rfl⟩, Sim.of ⟨n1, n2, r1, r2, r3, r4, r5, r6, r7, r8, r9, r10, ⟨em, ?_, ?_⟩, ⟨rfl, h3.2⟩, r13⟩ ((((hX.up rfl).up rfl).up rfl).up rfl)⟩
        · show 1 ≤ (if wr h 120 3 < n then wr h 120 3 else n)
          split <;> omega
        · show (if wr h 120 3 < n then wr h 120 3 else n) ≤ n
          split <;> omega
      · refine cof ocMo_set rfl (XW_to [] 60 okMo_set ?_)
        refine c_in (fun _ => ?_) (fun q => absurd h1 q)
        refine ite_t h2 ?_
        refine c_in (fun q => absurd q h3) (fun _ => ?_)
        exact ⟨⟨-2, rfl, rfl⟩, hS⟩
    · refine c_within (fun h3 => ?_) (fun h3 => ?_)
      · simp only [] at h3
        refine ite_f h2 (ite_f h2 ?_)
        refine cof ocMo_set rfl (XW_to [] 60 okMo_set ?_)
        refine c_in (fun _ => ?_) (fun q => absurd h1 q)
        refine ite_f h2 ?_
        refine c_in (fun _ => ?_) (fun q => absurd (show 1 ≤ n ∧ n ≤ wr h 120 2 by omega) q)
        refine ite_f h2 (ite_f h2 (ite_f h2 ?_))
        exact ⟨⟨wr h 120 3, congrArg (fun z => some (xi z)) e3, rfl⟩, Sim.of ⟨n1, n2, r1, r2, r3, r4, r5, r6, r7, r8, r9, r10, ⟨rfl, h3.1, show n ≤ wr h 120 2 by omega⟩, r12, r13⟩ ((hX.up rfl).up rfl)⟩
      · simp only [] at h3
        refine cof ocMo_set rfl (XW_to [] 60 okMo_set ?_)
        refine c_in (fun _ => ?_) (fun q => absurd h1 q)
        refine ite_f h2 ?_
        refine c_in (fun q => absurd (show 1 ≤ n ∧ n ≤ wr h 10 8 from by rw [e2]; exact q) h3) (fun _ => ?_)
        exact ⟨⟨-2, rfl, rfl⟩, hS⟩
  · refine cof ocMo_set rfl (XW_to [] 60 okMo_set ?_)
    refine c_in (fun q => absurd q h1) (fun _ => ?_)
    exact ⟨⟨-1, rfl, rfl⟩, hS⟩
theorem s_of {j w : Int} (hS : Sim h al) : Call g (d + 4) yBy_of [xr 0, xi j, xi w] h al (fun v h1 al1 => Call g (d + 4) yMo_of [xr 120, xi j, xi w] h1 al1 (Ok2 v)) := by
  obtain ⟨hW, hN, -⟩ := id hS
  have hW0 := hW
  obtain ⟨h, rfl⟩ := hW
  obtain ⟨n1, n2, r1, r2, r3, r4, r5, r6, r7, r8, r9, r10, r11, r12, r13⟩ := id hN
  have eh : wr h 1 6 = wr h 120 0 := n1.2.2
  have bh : 0 ≤ wr h 120 0 ∧ wr h 120 0 ≤ 6 := ⟨n1.1, n1.2.1⟩
  have bp : 0 ≤ wr h 120 1 ∧ wr h 120 1 ≤ 6 := ⟨n2.1, n2.2.1⟩
  refine cof ocBy_of rfl (XW_to [] 60 okBy_of ?_)
  refine c_hasHolding (fun h1 => ?_) (fun h1 => ?_)
  · have h1' : 0 ≤ j ∧ j < wr h 120 0 := by omega
    obtain ⟨k, hk, ek⟩ : ∃ k : Nat, k < 6 ∧ j = (k : Int) := ⟨j.toNat, by omega, by omega⟩
    subst ek
    refine c_within (fun h2 => ?_) (fun h2 => ?_)
    · refine ite_i (fun h3 => ?_) (fun h3 => ?_)
      · refine c_atI rfl ⟨by omega, by show (k : Int) < 6; omega⟩ ?_
        refine cof ocMo_of rfl (XW_to [] 60 okMo_of ?_)
        refine c_isHolding bh (fun _ => ?_) (fun q => absurd h1' q)
        refine c_in (fun _ => ?_) (fun q => absurd h2 q)
        refine ite_t h3 ?_
        refine ⟨⟨by omega, by show (k : Int) < 6; omega⟩, ?_⟩
        exact ⟨⟨wr h 121 k, congrArg (fun z => some (xi z)) ((r1 k hk).1 h1'.2).1, rfl⟩, hS⟩
      · have mo : ∀ z : Int, (wr h 122 k < 0 ∧ z = -5) ∨ (¬ wr h 122 k < 0 ∧ z = wr h 122 k) → Call g (d + 4) yMo_of [xr 120, xi k, xi w] (wr h) al (Ok2 (some (xi z))) := by
          intro z hz
          refine cof ocMo_of rfl (XW_to [] 60 okMo_of ?_)
          refine c_isHolding bh (fun _ => ?_) (fun q => absurd h1' q)
          refine c_in (fun _ => ?_) (fun q => absurd h2 q)
          refine ite_f h3 ?_
          refine ⟨⟨by omega, by show (k : Int) < 6; omega⟩, ?_⟩
          rcases hz with ⟨a, b⟩ | ⟨a, b⟩
          · refine ite_t a ?_
            exact ⟨⟨-5, by rw [b], rfl⟩, hS⟩
          · refine ite_f a ?_
            refine ⟨⟨by omega, by show (k : Int) < 6; omega⟩, ?_⟩
            exact ⟨⟨z, rfl, by rw [b]; rfl⟩, hS⟩
        refine c_whose_n hW0 (fun p hp e _ => mo _ ?_) (fun q => mo _ ?_)
        · rcases r3 k hk h1'.2 with ⟨a, b⟩ | ⟨p2, a1, a2, a3, a4⟩
          · exfalso
            rcases Int.lt_or_le (p : Int) (wr h 120 1) with q | q
            · rcases (r2 p hp).1 q with ⟨c1, c2⟩ | ⟨c1, c2, c3⟩
              · have c2' : wr h 12 p = -5 := c2
                omega
              · exact b p hp q (c3.symm.trans e)
            · have c2' : wr h 12 p = -5 := (r2 p hp).2 q
              omega
          · have ep : p = p2 := by
              rcases Int.lt_or_le (p : Int) (wr h 120 1) with q | q
              · rcases (r2 p hp).1 q with ⟨c1, c2⟩ | ⟨c1, c2, c3⟩
                · have c2' : wr h 12 p = -5 := c2
                  omega
                · refine r4 p p2 hp a1 q a2 (c3.symm.trans (e.trans a4.symm)) ?_
                  have c1' : 0 ≤ wr h 125 p := c1
                  show wr h 125 p ≠ -1
                  omega
              · have c2' : wr h 12 p = -5 := (r2 p hp).2 q
                omega
            subst ep
            have a3' : wr h 122 k = (p : Int) := a3
            exact Or.inr ⟨by omega, a3'.symm⟩
        · rcases r3 k hk h1'.2 with ⟨a, b⟩ | ⟨p2, a1, a2, a3, a4⟩
          · have a' : wr h 122 k = -1 := a
            exact Or.inl ⟨by omega, rfl⟩
          · exfalso
            have a4' : wr h 125 p2 = (k : Int) := a4
            rcases (r2 p2 a1).1 a2 with ⟨c1, c2⟩ | ⟨c1, c2, c3⟩
            · have c1' : wr h 125 p2 = -1 := c1
              omega
            · exact q p2 a1 (c3.trans a4)
    · refine cof ocMo_of rfl (XW_to [] 60 okMo_of ?_)
      refine c_isHolding bh (fun _ => ?_) (fun q => absurd h1' q)
      refine c_in (fun q => absurd q h2) (fun _ => ?_)
      exact ⟨⟨-1, rfl, rfl⟩, hS⟩
  · refine cof ocMo_of rfl (XW_to [] 60 okMo_of ?_)
    refine c_isHolding bh (fun q => absurd (show 0 ≤ j ∧ j < wr h 1 6 by omega) h1) (fun _ => ?_)
    exact ⟨⟨-1, rfl, rfl⟩, hS⟩
theorem s_trace {i : Int} (hS : Sim h al) : Call g (d + 4) yBy_trace [xr 0, xi i] h al (fun v h1 al1 => Call g (d + 4) yMo_trace [xr 120, xi i] h1 al1 (Ok2 v)) := by
  obtain ⟨hW, hN, hI, hH, hT, hP, hC, hK, hV⟩ := id hS
  obtain ⟨h, rfl⟩ := hW
  have er : wr h 60 1 = wr h 120 69 := hC.1.1
  have br : 0 ≤ wr h 120 69 := hC.1.2.1
  have no : ¬ (0 ≤ i ∧ i < 20 ∧ i < wr h 120 69) → Call g (d + 4) yMo_trace [xr 120, xi i] (wr h) al (Ok2 (some (xi (-1)))) := by
    intro hn
    refine cof ocMo_trace rfl (XW_to [] 60 okMo_trace ?_)
    refine c_in (fun q => ?_) (fun _ => ⟨⟨-1, rfl, rfl⟩, hS⟩)
    exact ite_f (show ¬ i < wr h 120 69 by omega) ⟨⟨-1, rfl, rfl⟩, hS⟩
  refine cof ocBy_trace rfl (XW_to [] 60 okBy_trace ?_)
  refine ite_i (fun h1 => no (by omega)) (fun h1 => ?_)
  refine c_min ?_
  have el : ((ln g 61 : Nat) : Int) = 20 := rfl
  refine ite_i (fun h2 => ?_) (fun h2 => ?_)
  · simp only [el] at h2
    have h3 : i < 20 ∧ i < wr h 60 1 := by split at h2 <;> omega
    obtain ⟨k, hk, ek⟩ : ∃ k : Nat, k < 20 ∧ i = (k : Int) := ⟨i.toNat, by omega, by omega⟩
    subst ek
    refine ⟨⟨by omega, by show (k : Int) < 20; omega⟩, ?_⟩
    refine cof ocMo_trace rfl (XW_to [] 60 okMo_trace ?_)
    refine c_in (fun _ => ?_) (fun q => absurd (show 0 ≤ (k : Int) ∧ (k : Int) ≤ 19 by omega) q)
    refine ite_t (show (k : Int) < wr h 120 69 by omega) ?_
    refine ⟨⟨by omega, by show (k : Int) < 20; omega⟩, ?_⟩
    exact ⟨⟨wr h 162 k, congrArg (fun z => some (xi z)) (hC.2 k hk (show (k : Int) < wr h 120 69 by omega)), rfl⟩, hS⟩
  · simp only [el] at h2
    refine no ?_
    intro q
    apply h2
    split <;> omega
end S3
