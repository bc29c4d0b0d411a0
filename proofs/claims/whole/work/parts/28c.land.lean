-- the constructors: Land
section IL
variable {g : GC} {d : Nat} {h : HH} {al : AL} {K : KT}
def DNl (a : Nat) : Bool := inR 1 5 a || inR 80 115 a
set_option maxRecDepth 20000 in
theorem c_iLa (hal : ∀ a, a ≤ 115 → 1 ≤ a → al a = false) (hK : K none (PI DNl h) (PA DNl al)) : Call g (d + 2) yLa_init [xr 1] (clr h 1) (upA al 1) K := by
  have e : uH (PI (inR 110 115) (uH (PI (inR 104 109) (uH (PI (inR 98 103) (uH (PI (inR 92 97) (uH (PI (inR 86 91) (uH (clr (uH (PI (inR 80 85) (uH (clr (uH (clr (uH (clr (clr h 1) 2) 1 0 (2)) 3) 1 1 (3)) 4) 1 2 (4))) 1 3 (80)) 5) 1 4 (5))) 4 0 (86))) 4 1 (92))) 4 2 (98))) 4 3 (104))) 4 4 (110) = PI DNl h := by
    funext a k
    by_cases q : (1 ≤ a ∧ a ≤ 5) ∨ (80 ≤ a ∧ a ≤ 115)
    · have q2 : a = 1 ∨ a = 2 ∨ a = 3 ∨ a = 4 ∨ a = 5 ∨ a = 80 ∨ a = 81 ∨ a = 82 ∨ a = 83 ∨ a = 84 ∨ a = 85 ∨ a = 86 ∨ a = 87 ∨ a = 88 ∨ a = 89 ∨ a = 90 ∨ a = 91 ∨ a = 92 ∨ a = 93 ∨ a = 94 ∨ a = 95 ∨ a = 96 ∨ a = 97 ∨ a = 98 ∨ a = 99 ∨ a = 100 ∨ a = 101 ∨ a = 102 ∨ a = 103 ∨ a = 104 ∨ a = 105 ∨ a = 106 ∨ a = 107 ∨ a = 108 ∨ a = 109 ∨ a = 110 ∨ a = 111 ∨ a = 112 ∨ a = 113 ∨ a = 114 ∨ a = 115 := by omega
      rcases q2 with rfl | rfl | rfl | rfl | rfl | rfl | rfl | rfl | rfl | rfl | rfl | rfl | rfl | rfl | rfl | rfl | rfl | rfl | rfl | rfl | rfl | rfl | rfl | rfl | rfl | rfl | rfl | rfl | rfl | rfl | rfl | rfl | rfl | rfl | rfl | rfl | rfl | rfl | rfl | rfl | rfl
      · match k with
        | 0 => rfl
        | 1 => rfl
        | 2 => rfl
        | 3 => rfl
        | 4 => rfl
        | 5 => rfl
        | 6 => rfl
        | 7 => rfl
        | k + 8 => rfl
      · rfl
      · rfl
      · match k with
        | 0 => rfl
        | 1 => rfl
        | 2 => rfl
        | 3 => rfl
        | 4 => rfl
        | k + 5 => rfl
      · rfl
      · rfl
      · rfl
      · rfl
      · rfl
      · rfl
      · rfl
      · rfl
      · rfl
      · rfl
      · rfl
      · rfl
      · rfl
      · rfl
      · rfl
      · rfl
      · rfl
      · rfl
      · rfl
      · rfl
      · rfl
      · rfl
      · rfl
      · rfl
      · rfl
      · rfl
      · rfl
      · rfl
      · rfl
      · rfl
      · rfl
      · rfl
      · rfl
      · rfl
      · rfl
      · rfl
      · rfl
    · have n1 : Nat.beq a 1 = false := nbf (by omega)
      have n2 : Nat.beq a 2 = false := nbf (by omega)
      have n3 : Nat.beq a 3 = false := nbf (by omega)
      have n4 : Nat.beq a 4 = false := nbf (by omega)
      have n5 : Nat.beq a 5 = false := nbf (by omega)
      have r80 : inR 80 85 a = false := inR_f (by omega)
      have r86 : inR 86 91 a = false := inR_f (by omega)
      have r92 : inR 92 97 a = false := inR_f (by omega)
      have r98 : inR 98 103 a = false := inR_f (by omega)
      have r104 : inR 104 109 a = false := inR_f (by omega)
      have r110 : inR 110 115 a = false := inR_f (by omega)
      have nr : DNl a = false := by unfold DNl; rw [inR_f (by omega), inR_f (by omega)]; rfl
      simp only [PI, uH, clr, n1, n2, n3, n4, n5, r80, r86, r92, r98, r104, r110, nr, Bool.false_and, cond_false]
  have ea : PA (inR 110 115) (PA (inR 104 109) (PA (inR 98 103) (PA (inR 92 97) (PA (inR 86 91) (upA (PA (inR 80 85) (upA (upA (upA (upA al 1) 2) 3) 4)) 5))))) = PA DNl al := by
    funext a
    by_cases q : (1 ≤ a ∧ a ≤ 5) ∨ (80 ≤ a ∧ a ≤ 115)
    · have q2 : a = 1 ∨ a = 2 ∨ a = 3 ∨ a = 4 ∨ a = 5 ∨ a = 80 ∨ a = 81 ∨ a = 82 ∨ a = 83 ∨ a = 84 ∨ a = 85 ∨ a = 86 ∨ a = 87 ∨ a = 88 ∨ a = 89 ∨ a = 90 ∨ a = 91 ∨ a = 92 ∨ a = 93 ∨ a = 94 ∨ a = 95 ∨ a = 96 ∨ a = 97 ∨ a = 98 ∨ a = 99 ∨ a = 100 ∨ a = 101 ∨ a = 102 ∨ a = 103 ∨ a = 104 ∨ a = 105 ∨ a = 106 ∨ a = 107 ∨ a = 108 ∨ a = 109 ∨ a = 110 ∨ a = 111 ∨ a = 112 ∨ a = 113 ∨ a = 114 ∨ a = 115 := by omega
      rcases q2 with rfl | rfl | rfl | rfl | rfl | rfl | rfl | rfl | rfl | rfl | rfl | rfl | rfl | rfl | rfl | rfl | rfl | rfl | rfl | rfl | rfl | rfl | rfl | rfl | rfl | rfl | rfl | rfl | rfl | rfl | rfl | rfl | rfl | rfl | rfl | rfl | rfl | rfl | rfl | rfl | rfl <;> rfl
    · have n1 : Nat.beq a 1 = false := nbf (by omega)
      have n2 : Nat.beq a 2 = false := nbf (by omega)
      have n3 : Nat.beq a 3 = false := nbf (by omega)
      have n4 : Nat.beq a 4 = false := nbf (by omega)
      have n5 : Nat.beq a 5 = false := nbf (by omega)
      have r80 : inR 80 85 a = false := inR_f (by omega)
      have r86 : inR 86 91 a = false := inR_f (by omega)
      have r92 : inR 92 97 a = false := inR_f (by omega)
      have r98 : inR 98 103 a = false := inR_f (by omega)
      have r104 : inR 104 109 a = false := inR_f (by omega)
      have r110 : inR 110 115 a = false := inR_f (by omega)
      have nr : DNl a = false := by unfold DNl; rw [inR_f (by omega), inR_f (by omega)]; rfl
      simp only [PA, upA, n1, n2, n3, n4, n5, r80, r86, r92, r98, r104, r110, nr, cond_false]
  rw [← e, ← ea] at hK
  clear e ea
  refine cof ocLa_init rfl (XW_t4 [52] 80 okLa_init ?_)
  refine ⟨2, rfl, hal 2 (by decide) (by decide), rfl, ?_⟩
  refine ⟨3, rfl, hal 3 (by decide) (by decide), rfl, ?_⟩
  refine ⟨4, rfl, hal 4 (by decide) (by decide), rfl, ?_⟩
  refine ⟨80, rfl, hal 80 (by decide) (by decide), ?_⟩
  refine c_iVa80 (fun a q1 q2 => ?_) ?_
  · have n2 : Nat.beq a 2 = false := nbf (by omega)
    have n3 : Nat.beq a 3 = false := nbf (by omega)
    have n4 : Nat.beq a 4 = false := nbf (by omega)
    have n1 : Nat.beq a 1 = false := nbf (by omega)
    simp only [upA, n1, n2, n3, n4, cond_false]
    exact hal a (by omega) (by omega)
  refine ⟨5, rfl, hal 5 (by decide) (by decide), rfl, ?_⟩
  show XW g (d + 1) mLa_init K 52 [some (xr 1), some (xi 0)] [] (uH (clr (uH (PI (inR 80 85) (uH (clr (uH (clr (uH (clr (clr h 1) 2) 1 0 (2)) 3) 1 1 (3)) 4) 1 2 (4))) 1 3 (80)) 5) 1 4 (5)) (upA (PA (inR 80 85) (upA (upA (upA (upA al 1) 2) 3) 4)) 5)
  refine XW_t4 [52] 80 okLa_init ?_
  refine ⟨86, rfl, hal 86 (by decide) (by decide), ?_⟩
  refine c_iVa86 (fun a q1 q2 => ?_) ?_
  · have n1 : Nat.beq a 1 = false := nbf (by omega)
    have n2 : Nat.beq a 2 = false := nbf (by omega)
    have n3 : Nat.beq a 3 = false := nbf (by omega)
    have n4 : Nat.beq a 4 = false := nbf (by omega)
    have n5 : Nat.beq a 5 = false := nbf (by omega)
    have r80 : inR 80 85 a = false := inR_f (by omega)
    simp only [PA, upA, n1, n2, n3, n4, n5, r80, cond_false]
    exact hal a (by omega) (by omega)
  refine ⟨⟨by decide, show (0 : Int) < 5 by decide⟩, ?_⟩
  show XW g (d + 1) mLa_init K 52 [some (xr 1), some (xi 1)] [] (uH (PI (inR 86 91) (uH (clr (uH (PI (inR 80 85) (uH (clr (uH (clr (uH (clr (clr h 1) 2) 1 0 (2)) 3) 1 1 (3)) 4) 1 2 (4))) 1 3 (80)) 5) 1 4 (5))) 4 0 (86)) (PA (inR 86 91) (upA (PA (inR 80 85) (upA (upA (upA (upA al 1) 2) 3) 4)) 5))
  refine XW_t4 [52] 80 okLa_init ?_
  refine ⟨92, rfl, hal 92 (by decide) (by decide), ?_⟩
  refine c_iVa92 (fun a q1 q2 => ?_) ?_
  · have n1 : Nat.beq a 1 = false := nbf (by omega)
    have n2 : Nat.beq a 2 = false := nbf (by omega)
    have n3 : Nat.beq a 3 = false := nbf (by omega)
    have n4 : Nat.beq a 4 = false := nbf (by omega)
    have n5 : Nat.beq a 5 = false := nbf (by omega)
    have r80 : inR 80 85 a = false := inR_f (by omega)
    have r86 : inR 86 91 a = false := inR_f (by omega)
    simp only [PA, upA, n1, n2, n3, n4, n5, r80, r86, cond_false]
    exact hal a (by omega) (by omega)
  refine ⟨⟨by decide, show (1 : Int) < 5 by decide⟩, ?_⟩
  show XW g (d + 1) mLa_init K 52 [some (xr 1), some (xi 2)] [] (uH (PI (inR 92 97) (uH (PI (inR 86 91) (uH (clr (uH (PI (inR 80 85) (uH (clr (uH (clr (uH (clr (clr h 1) 2) 1 0 (2)) 3) 1 1 (3)) 4) 1 2 (4))) 1 3 (80)) 5) 1 4 (5))) 4 0 (86))) 4 1 (92)) (PA (inR 92 97) (PA (inR 86 91) (upA (PA (inR 80 85) (upA (upA (upA (upA al 1) 2) 3) 4)) 5)))
  refine XW_t4 [52] 80 okLa_init ?_
  refine ⟨98, rfl, hal 98 (by decide) (by decide), ?_⟩
  refine c_iVa98 (fun a q1 q2 => ?_) ?_
  · have n1 : Nat.beq a 1 = false := nbf (by omega)
    have n2 : Nat.beq a 2 = false := nbf (by omega)
    have n3 : Nat.beq a 3 = false := nbf (by omega)
    have n4 : Nat.beq a 4 = false := nbf (by omega)
    have n5 : Nat.beq a 5 = false := nbf (by omega)
    have r80 : inR 80 85 a = false := inR_f (by omega)
    have r86 : inR 86 91 a = false := inR_f (by omega)
    have r92 : inR 92 97 a = false := inR_f (by omega)
    simp only [PA, upA, n1, n2, n3, n4, n5, r80, r86, r92, cond_false]
    exact hal a (by omega) (by omega)
  refine ⟨⟨by decide, show (2 : Int) < 5 by decide⟩, ?_⟩
  show XW g (d + 1) mLa_init K 52 [some (xr 1), some (xi 3)] [] (uH (PI (inR 98 103) (uH (PI (inR 92 97) (uH (PI (inR 86 91) (uH (clr (uH (PI (inR 80 85) (uH (clr (uH (clr (uH (clr (clr h 1) 2) 1 0 (2)) 3) 1 1 (3)) 4) 1 2 (4))) 1 3 (80)) 5) 1 4 (5))) 4 0 (86))) 4 1 (92))) 4 2 (98)) (PA (inR 98 103) (PA (inR 92 97) (PA (inR 86 91) (upA (PA (inR 80 85) (upA (upA (upA (upA al 1) 2) 3) 4)) 5))))
  refine XW_t4 [52] 80 okLa_init ?_
  refine ⟨104, rfl, hal 104 (by decide) (by decide), ?_⟩
  refine c_iVa104 (fun a q1 q2 => ?_) ?_
  · have n1 : Nat.beq a 1 = false := nbf (by omega)
    have n2 : Nat.beq a 2 = false := nbf (by omega)
    have n3 : Nat.beq a 3 = false := nbf (by omega)
    have n4 : Nat.beq a 4 = false := nbf (by omega)
    have n5 : Nat.beq a 5 = false := nbf (by omega)
    have r80 : inR 80 85 a = false := inR_f (by omega)
    have r86 : inR 86 91 a = false := inR_f (by omega)
    have r92 : inR 92 97 a = false := inR_f (by omega)
    have r98 : inR 98 103 a = false := inR_f (by omega)
    simp only [PA, upA, n1, n2, n3, n4, n5, r80, r86, r92, r98, cond_false]
    exact hal a (by omega) (by omega)
  refine ⟨⟨by decide, show (3 : Int) < 5 by decide⟩, ?_⟩
  show XW g (d + 1) mLa_init K 52 [some (xr 1), some (xi 4)] [] (uH (PI (inR 104 109) (uH (PI (inR 98 103) (uH (PI (inR 92 97) (uH (PI (inR 86 91) (uH (clr (uH (PI (inR 80 85) (uH (clr (uH (clr (uH (clr (clr h 1) 2) 1 0 (2)) 3) 1 1 (3)) 4) 1 2 (4))) 1 3 (80)) 5) 1 4 (5))) 4 0 (86))) 4 1 (92))) 4 2 (98))) 4 3 (104)) (PA (inR 104 109) (PA (inR 98 103) (PA (inR 92 97) (PA (inR 86 91) (upA (PA (inR 80 85) (upA (upA (upA (upA al 1) 2) 3) 4)) 5)))))
  refine XW_t4 [52] 80 okLa_init ?_
  refine ⟨110, rfl, hal 110 (by decide) (by decide), ?_⟩
  refine c_iVa110 (fun a q1 q2 => ?_) ?_
  · have n1 : Nat.beq a 1 = false := nbf (by omega)
    have n2 : Nat.beq a 2 = false := nbf (by omega)
    have n3 : Nat.beq a 3 = false := nbf (by omega)
    have n4 : Nat.beq a 4 = false := nbf (by omega)
    have n5 : Nat.beq a 5 = false := nbf (by omega)
    have r80 : inR 80 85 a = false := inR_f (by omega)
    have r86 : inR 86 91 a = false := inR_f (by omega)
    have r92 : inR 92 97 a = false := inR_f (by omega)
    have r98 : inR 98 103 a = false := inR_f (by omega)
    have r104 : inR 104 109 a = false := inR_f (by omega)
    simp only [PA, upA, n1, n2, n3, n4, n5, r80, r86, r92, r98, r104, cond_false]
    exact hal a (by omega) (by omega)
  refine ⟨⟨by decide, show (4 : Int) < 5 by decide⟩, ?_⟩
  show XW g (d + 1) mLa_init K 52 [some (xr 1), some (xi 5)] [] (uH (PI (inR 110 115) (uH (PI (inR 104 109) (uH (PI (inR 98 103) (uH (PI (inR 92 97) (uH (PI (inR 86 91) (uH (clr (uH (PI (inR 80 85) (uH (clr (uH (clr (uH (clr (clr h 1) 2) 1 0 (2)) 3) 1 1 (3)) 4) 1 2 (4))) 1 3 (80)) 5) 1 4 (5))) 4 0 (86))) 4 1 (92))) 4 2 (98))) 4 3 (104))) 4 4 (110)) (PA (inR 110 115) (PA (inR 104 109) (PA (inR 98 103) (PA (inR 92 97) (PA (inR 86 91) (upA (PA (inR 80 85) (upA (upA (upA (upA al 1) 2) 3) 4)) 5))))))
  refine XW_t4 [] 80 okLa_init ?_
  exact hK
end IL
