-- the law: its loop, and from its entry
section LP
variable {g : GC} {h : HH} {al : AL}
theorem c_disp {i : Nat} (hS : Sim h al) (h180 : al 180 = true) (hi : i + 6 ≤ ln g 180) (hn : ln g 180 ≤ 3072) (h32 : ∀ k, k < ln g 180 → I32 (h 180 k)) (nx : NxL g h i) : XW g 40 mLaw Qt 27 [some (xr 180), some (xr 0), some (xr 120), some (xi (i : Int))] [] h al := by
  refine XW_t4 [33] 20 okLaw ?_
  have l0 : i < ln g 180 := by omega
  refine ⟨i, rfl, l0, _, rfl, ?_⟩
  show XW g 40 mLaw Qt 33 [some (xr 180), some (xr 0), some (xr 120), some (xi (i : Int))] [xi (aI (h 180 i) 63)] h al
  generalize aI (h 180 i) 63 = x
  refine XW_t4 [188, 211, 244, 277, 310, 323, 386, 419, 452, 495, 518, 561, 604, 627, 650, 684, 697, 720, 733, 746, 759, 782, 805, 828, 861, 904, 917, 930, 973, 996, 1029, 1052, 1095, 1168, 1202, 1265, 1271] 2 okLaw ?_
  refine ite_i (fun _ => cs_holding hS h180 hi hn h32 nx) (fun _ => ?_)
  refine ite_i (fun _ => cs_of hS h180 hi hn h32 nx) (fun _ => ?_)
  refine ite_i (fun _ => cs_set hS h180 hi hn h32 nx) (fun _ => ?_)
  refine ite_i (fun _ => cs_feed hS h180 hi hn h32 nx) (fun _ => ?_)
  refine ite_i (fun _ => cs_valley hS h180 hi hn h32 nx) (fun _ => ?_)
  refine ite_i (fun _ => cs_told hS h180 hi hn h32 nx) (fun _ => ?_)
  refine ite_i (fun _ => cs_holder hS h180 hi hn h32 nx) (fun _ => ?_)
  refine ite_i (fun _ => cs_has hS h180 hi hn h32 nx) (fun _ => ?_)
  refine ite_i (fun _ => cs_row hS h180 hi hn h32 nx) (fun _ => ?_)
  refine ite_i (fun _ => cs_mends hS h180 hi hn h32 nx) (fun _ => ?_)
  refine ite_i (fun _ => cs_would hS h180 hi hn h32 nx) (fun _ => ?_)
  refine ite_i (fun _ => cs_worth hS h180 hi hn h32 nx) (fun _ => ?_)
  refine ite_i (fun _ => cs_go hS h180 hi hn h32 nx) (fun _ => ?_)
  refine ite_i (fun _ => cs_lot hS h180 hi hn h32 nx) (fun _ => ?_)
  refine ite_i (fun _ => cs_expect hS h180 hi hn h32 nx) (fun _ => ?_)
  refine ite_i (fun _ => cs_ever hS h180 hi hn h32 nx) (fun _ => ?_)
  refine ite_i (fun _ => cs_rounds hS h180 hi hn h32 nx) (fun _ => ?_)
  refine ite_i (fun _ => cs_pay hS h180 hi hn h32 nx) (fun _ => ?_)
  refine ite_i (fun _ => cs_keep hS h180 hi hn h32 nx) (fun _ => ?_)
  refine ite_i (fun _ => cs_swaps hS h180 hi hn h32 nx) (fun _ => ?_)
  refine ite_i (fun _ => cs_alike hS h180 hi hn h32 nx) (fun _ => ?_)
  refine ite_i (fun _ => cs_best hS h180 hi hn h32 nx) (fun _ => ?_)
  refine ite_i (fun _ => cs_book hS h180 hi hn h32 nx) (fun _ => ?_)
  refine ite_i (fun _ => cs_looked hS h180 hi hn h32 nx) (fun _ => ?_)
  refine ite_i (fun _ => cs_judge hS h180 hi hn h32 nx) (fun _ => ?_)
  refine ite_i (fun _ => cs_image hS h180 hi hn h32 nx) (fun _ => ?_)
  refine ite_i (fun _ => cs_undo hS h180 hi hn h32 nx) (fun _ => ?_)
  refine ite_i (fun _ => cs_act hS h180 hi hn h32 nx) (fun _ => ?_)
  refine ite_i (fun _ => cs_trace hS h180 hi hn h32 nx) (fun _ => ?_)
  refine ite_i (fun _ => cs_taken hS h180 hi hn h32 nx) (fun _ => ?_)
  refine ite_i (fun _ => cs_count hS h180 hi hn h32 nx) (fun _ => ?_)
  refine ite_i (fun _ => cs_tape hS h180 hi hn h32 nx) (fun _ => ?_)
  refine ite_i (fun _ => cs_item hS h180 hi hn h32 nx) (fun _ => ?_)
  refine ite_i (fun _ => cs_read hS h180 hi hn h32 nx) (fun _ => ?_)
  refine ite_i (fun _ => cs_shift hS h180 hi hn h32 nx) (fun _ => ?_)
  exact nx h al hS h180 (fun _ _ => rfl)
theorem lw_end {L : LL} : XW g 40 mLaw Qt 1271 L [] h al := by
  refine XW_t4 [] 5 okLaw ?_
  exact ⟨Or.inr rfl, rfl⟩
theorem c_lloop (hn : ln g 180 ≤ 3072) : ∀ (n i : Nat) (h : HH) (al : AL), ln g 180 ≤ i + n → i ≤ 3078 → Sim h al → al 180 = true → (∀ k, k < ln g 180 → I32 (h 180 k)) → XW g 40 mLaw Qt 18 [some (xr 180), some (xr 0), some (xr 120), some (xi (i : Int))] [] h al := by
  have e6 : wI ((ln g 180 : Int) - 6) = (ln g 180 : Int) - 6 := wI_id ⟨by omega, by omega⟩
  intro n
  induction n with
  | zero =>
    intro i h al h1 h2 hS h180 h32
    refine XW_t4 [27, 1271] 20 okLaw ?_
    refine ite_i (fun _ => lw_end) (fun q => ?_)
    have q : ¬ wI ((ln g 180 : Int) - 6) < (i : Int) := q
    rw [e6] at q
    omega
  | succ n ih =>
    intro i h al h1 h2 hS h180 h32
    refine XW_t4 [27, 1271] 20 okLaw ?_
    refine ite_i (fun _ => lw_end) (fun q => ?_)
    have q : ¬ wI ((ln g 180 : Int) - 6) < (i : Int) := q
    rw [e6] at q
    refine c_disp hS h180 (by omega) hn h32 fun h2 al2 hS2 k180 hq => ?_
    refine XW_t4 [18] 20 okLaw ?_
    show XW g 40 mLaw Qt 18 [some (xr 180), some (xr 0), some (xr 120), some (xi (wI ((i : Int) + 6)))] [] h2 al2
    have e : wI ((i : Int) + 6) = ((i + 6 : Nat) : Int) := by
      have e : wI ((i : Int) + 6) = (i : Int) + 6 := wI_id ⟨by omega, by omega⟩
      rw [e]; omega
    rw [e]
    exact ih (i + 6) h2 al2 (by omega) (by omega) hS2 k180 (fun k hk => by rw [hq k hk]; exact h32 k hk)
theorem c_law (hn : ln g 180 ≤ 3072) (hal : ∀ a, a < 180 → al a = false) (hA : ∀ a, 200 ≤ a → al a = false) (h180 : al 180 = true) (h32 : ∀ k, k < ln g 180 → I32 (h 180 k)) (h181 : ∀ k : Nat, k < 7 → h 181 k = kaT.getD k 0) (h182 : ∀ k : Nat, k < 21 → h 182 k = boT.getD k 0) : XW g 40 mLaw Qt 0 [some (xr 180), none, none, none] [] h al := by
  refine XW_t4 [7] 20 okLaw ?_
  refine ⟨0, rfl, hal 0 (by decide), ?_⟩
  refine c_iBy (d := 37) (fun a ha => hal a (by omega)) ?_
  refine XW_t4 [15] 20 okLaw ?_
  have hal2 : ∀ a, 120 ≤ a → a ≤ 166 → PA DNb al a = false := fun a q1 q2 => by
    have e : DNb a = false := by
      unfold DNb
      rw [inR_f (by omega), inR_f (by omega), inR_f (by omega), inR_f (by omega), inR_f (by omega), inR_f (by omega), inR_f (by omega), inR_f (by omega), inR_f (by omega), inR_f (by omega)]
      rfl
    unfold PA
    rw [e]
    exact hal a (by omega)
  refine ⟨120, rfl, hal2 120 (by decide) (by decide), ?_⟩
  refine c_iMo (d := 39) hal2 ?_
  refine XW_t4 [18] 20 okLaw ?_
  refine c_lloop hn (ln g 180) 0 _ _ (by omega) (by omega) ?_ ?_ ?_
  · refine Sim.start ?_ ?_ ?_ ?_
    · intro a k q
      unfold DNs at q
      unfold MH PI
      cases e1 : Nat.beq a 120 with
      | true =>
        have e1 := Nat.eq_of_beq_eq_true e1
        subst e1
        simp only [cond_true]
        have q : Nat.blt k 75 = true := by
          rw [Bool.or_eq_true, Bool.and_eq_true] at q
          rcases q with q | q
          · exact absurd q (by decide)
          · exact q.2
        rw [q]
        rfl
      | false =>
        rw [e1] at q
        simp only [cond_false]
        cases e2 : inR 121 (120 + 46) a with
        | true => rfl
        | false =>
          have e2 : inR 121 166 a = false := e2
          rw [e2] at q
          simp only [Bool.or_false, Bool.false_and] at q
          rw [q]
          rfl
    · intro a ha
      unfold AM PA DNb
      rw [inR_f (by omega), inR_f (by omega), inR_f (by omega), inR_f (by omega), inR_f (by omega), inR_f (by omega), inR_f (by omega), inR_f (by omega), inR_f (by omega), inR_f (by omega), inR_f (by omega)]
      exact hA a ha
    · exact h181
    · exact h182
  · exact h180
  · exact h32
end LP
