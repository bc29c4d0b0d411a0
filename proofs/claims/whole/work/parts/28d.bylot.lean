-- the constructors: ByLot
section IY
variable {g : GC} {d : Nat} {h : HH} {al : AL} {K : KT}
def DNb (a : Nat) : Bool := inR 0 0 a || inR 1 5 a || inR 10 15 a || inR 20 25 a || inR 30 35 a || inR 40 41 a || inR 50 53 a || inR 60 61 a || inR 65 78 a || inR 80 115 a
set_option maxRecDepth 20000 in
set_option maxHeartbeats 4000000 in
theorem c_iBy (hal : ∀ a, a ≤ 115 → al a = false) (hK : K none (PI DNb h) (PA DNb al)) : Call g (d + 3) yBy_init [xr 0] (clr h 0) (upA al 0) K := by
  have e : uH (PI (inR 76 77) (uH (PI (inR 74 75) (uH (PI (inR 72 73) (uH (PI (inR 70 71) (uH (PI (inR 68 69) (uH (PI (inR 66 67) (uH (clr (uH (clr (uH (PI (inR 60 61) (uH (PI (inR 50 53) (uH (PI (inR 40 41) (uH (PI (inR 30 35) (uH (PI (inR 20 25) (uH (PI (inR 10 15) (uH (PI (DNl) (clr h 0)) 0 0 (1))) 0 1 (10))) 0 2 (20))) 0 3 (30))) 0 5 (40))) 0 6 (50))) 0 7 (60)) 65) 0 8 (65)) 78) 0 9 (78))) 65 0 (66))) 65 1 (68))) 65 2 (70))) 65 3 (72))) 65 4 (74))) 65 5 (76) = PI DNb h := by
    funext a k
    by_cases q : (0 ≤ a ∧ a ≤ 0) ∨ (1 ≤ a ∧ a ≤ 5) ∨ (10 ≤ a ∧ a ≤ 15) ∨ (20 ≤ a ∧ a ≤ 25) ∨ (30 ≤ a ∧ a ≤ 35) ∨ (40 ≤ a ∧ a ≤ 41) ∨ (50 ≤ a ∧ a ≤ 53) ∨ (60 ≤ a ∧ a ≤ 61) ∨ (65 ≤ a ∧ a ≤ 78) ∨ (80 ≤ a ∧ a ≤ 115)
    · have q2 : a = 0 ∨ a = 1 ∨ a = 2 ∨ a = 3 ∨ a = 4 ∨ a = 5 ∨ a = 10 ∨ a = 11 ∨ a = 12 ∨ a = 13 ∨ a = 14 ∨ a = 15 ∨ a = 20 ∨ a = 21 ∨ a = 22 ∨ a = 23 ∨ a = 24 ∨ a = 25 ∨ a = 30 ∨ a = 31 ∨ a = 32 ∨ a = 33 ∨ a = 34 ∨ a = 35 ∨ a = 40 ∨ a = 41 ∨ a = 50 ∨ a = 51 ∨ a = 52 ∨ a = 53 ∨ a = 60 ∨ a = 61 ∨ a = 65 ∨ a = 66 ∨ a = 67 ∨ a = 68 ∨ a = 69 ∨ a = 70 ∨ a = 71 ∨ a = 72 ∨ a = 73 ∨ a = 74 ∨ a = 75 ∨ a = 76 ∨ a = 77 ∨ a = 78 ∨ a = 80 ∨ a = 81 ∨ a = 82 ∨ a = 83 ∨ a = 84 ∨ a = 85 ∨ a = 86 ∨ a = 87 ∨ a = 88 ∨ a = 89 ∨ a = 90 ∨ a = 91 ∨ a = 92 ∨ a = 93 ∨ a = 94 ∨ a = 95 ∨ a = 96 ∨ a = 97 ∨ a = 98 ∨ a = 99 ∨ a = 100 ∨ a = 101 ∨ a = 102 ∨ a = 103 ∨ a = 104 ∨ a = 105 ∨ a = 106 ∨ a = 107 ∨ a = 108 ∨ a = 109 ∨ a = 110 ∨ a = 111 ∨ a = 112 ∨ a = 113 ∨ a = 114 ∨ a = 115 := by omega
      rcases q2 with rfl | rfl | rfl | rfl | rfl | rfl | rfl | rfl | rfl | rfl | rfl | rfl | rfl | rfl | rfl | rfl | rfl | rfl | rfl | rfl | rfl | rfl | rfl | rfl | rfl | rfl | rfl | rfl | rfl | rfl | rfl | rfl | rfl | rfl | rfl | rfl | rfl | rfl | rfl | rfl | rfl | rfl | rfl | rfl | rfl | rfl | rfl | rfl | rfl | rfl | rfl | rfl | rfl | rfl | rfl | rfl | rfl | rfl | rfl | rfl | rfl | rfl | rfl | rfl | rfl | rfl | rfl | rfl | rfl | rfl | rfl | rfl | rfl | rfl | rfl | rfl | rfl | rfl | rfl | rfl | rfl | rfl
      · match k with
        | 0 => rfl
        | 1 => rfl
        | 2 => rfl
        | 3 => rfl
        | 4 => rfl
        | 5 => rfl
        | 6 => rfl
        | 7 => rfl
        | 8 => rfl
        | 9 => rfl
        | k + 10 => rfl
      · rfl
      · rfl
      · rfl
      · rfl
      · rfl
      · rfl
      · rfl
      · rfl
      · rfl
      · rfl
      · rfl
      · rfl
      · rfl
      · rfl
      · rfl
      · rfl
      · rfl
      · rfl
      · rfl
      · rfl
      · rfl
      · rfl
      · rfl
      · rfl
      · rfl
      · rfl
      · rfl
      · rfl
      · rfl
      · rfl
      · rfl
      · match k with
        | 0 => rfl
        | 1 => rfl
        | 2 => rfl
        | 3 => rfl
        | 4 => rfl
        | 5 => rfl
        | k + 6 => rfl
      · rfl
      · rfl
      · rfl
      · rfl
      · rfl
      · rfl
      · rfl
      · rfl
      · rfl
      · rfl
      · rfl
      · rfl
      · rfl
      · rfl
      · rfl
      · rfl
      · rfl
      · rfl
      · rfl
      · rfl
      · rfl
      · rfl
      · rfl
      · rfl
      · rfl
      · rfl
      · rfl
      · rfl
      · rfl
      · rfl
      · rfl
      · rfl
      · rfl
      · rfl
      · rfl
      · rfl
      · rfl
      · rfl
      · rfl
      · rfl
      · rfl
      · rfl
      · rfl
      · rfl
      · rfl
      · rfl
      · rfl
      · rfl
      · rfl
    · have n0 : Nat.beq a 0 = false := nbf (by omega)
      have n65 : Nat.beq a 65 = false := nbf (by omega)
      have n78 : Nat.beq a 78 = false := nbf (by omega)
      have r10 : inR 10 15 a = false := inR_f (by omega)
      have r20 : inR 20 25 a = false := inR_f (by omega)
      have r30 : inR 30 35 a = false := inR_f (by omega)
      have r40 : inR 40 41 a = false := inR_f (by omega)
      have r50 : inR 50 53 a = false := inR_f (by omega)
      have r60 : inR 60 61 a = false := inR_f (by omega)
      have r66 : inR 66 67 a = false := inR_f (by omega)
      have r68 : inR 68 69 a = false := inR_f (by omega)
      have r70 : inR 70 71 a = false := inR_f (by omega)
      have r72 : inR 72 73 a = false := inR_f (by omega)
      have r74 : inR 74 75 a = false := inR_f (by omega)
      have r76 : inR 76 77 a = false := inR_f (by omega)
      have rl : DNl a = false := by unfold DNl; rw [inR_f (by omega), inR_f (by omega)]; rfl
      have nr : DNb a = false := by
        unfold DNb
        rw [inR_f (by omega), inR_f (by omega), inR_f (by omega), inR_f (by omega), inR_f (by omega), inR_f (by omega), inR_f (by omega), inR_f (by omega), inR_f (by omega), inR_f (by omega)]
        rfl
      simp only [PI, uH, clr, n0, n65, n78, r10, r20, r30, r40, r50, r60, r66, r68, r70, r72, r74, r76, rl, nr, Bool.false_and, cond_false]
  have ea : PA (inR 76 77) (PA (inR 74 75) (PA (inR 72 73) (PA (inR 70 71) (PA (inR 68 69) (PA (inR 66 67) (upA (upA (PA (inR 60 61) (PA (inR 50 53) (PA (inR 40 41) (PA (inR 30 35) (PA (inR 20 25) (PA (inR 10 15) (PA (DNl) (upA al 0)))))))) 65) 78)))))) = PA DNb al := by
    funext a
    by_cases q : (0 ≤ a ∧ a ≤ 0) ∨ (1 ≤ a ∧ a ≤ 5) ∨ (10 ≤ a ∧ a ≤ 15) ∨ (20 ≤ a ∧ a ≤ 25) ∨ (30 ≤ a ∧ a ≤ 35) ∨ (40 ≤ a ∧ a ≤ 41) ∨ (50 ≤ a ∧ a ≤ 53) ∨ (60 ≤ a ∧ a ≤ 61) ∨ (65 ≤ a ∧ a ≤ 78) ∨ (80 ≤ a ∧ a ≤ 115)
    · have q2 : a = 0 ∨ a = 1 ∨ a = 2 ∨ a = 3 ∨ a = 4 ∨ a = 5 ∨ a = 10 ∨ a = 11 ∨ a = 12 ∨ a = 13 ∨ a = 14 ∨ a = 15 ∨ a = 20 ∨ a = 21 ∨ a = 22 ∨ a = 23 ∨ a = 24 ∨ a = 25 ∨ a = 30 ∨ a = 31 ∨ a = 32 ∨ a = 33 ∨ a = 34 ∨ a = 35 ∨ a = 40 ∨ a = 41 ∨ a = 50 ∨ a = 51 ∨ a = 52 ∨ a = 53 ∨ a = 60 ∨ a = 61 ∨ a = 65 ∨ a = 66 ∨ a = 67 ∨ a = 68 ∨ a = 69 ∨ a = 70 ∨ a = 71 ∨ a = 72 ∨ a = 73 ∨ a = 74 ∨ a = 75 ∨ a = 76 ∨ a = 77 ∨ a = 78 ∨ a = 80 ∨ a = 81 ∨ a = 82 ∨ a = 83 ∨ a = 84 ∨ a = 85 ∨ a = 86 ∨ a = 87 ∨ a = 88 ∨ a = 89 ∨ a = 90 ∨ a = 91 ∨ a = 92 ∨ a = 93 ∨ a = 94 ∨ a = 95 ∨ a = 96 ∨ a = 97 ∨ a = 98 ∨ a = 99 ∨ a = 100 ∨ a = 101 ∨ a = 102 ∨ a = 103 ∨ a = 104 ∨ a = 105 ∨ a = 106 ∨ a = 107 ∨ a = 108 ∨ a = 109 ∨ a = 110 ∨ a = 111 ∨ a = 112 ∨ a = 113 ∨ a = 114 ∨ a = 115 := by omega
      rcases q2 with rfl | rfl | rfl | rfl | rfl | rfl | rfl | rfl | rfl | rfl | rfl | rfl | rfl | rfl | rfl | rfl | rfl | rfl | rfl | rfl | rfl | rfl | rfl | rfl | rfl | rfl | rfl | rfl | rfl | rfl | rfl | rfl | rfl | rfl | rfl | rfl | rfl | rfl | rfl | rfl | rfl | rfl | rfl | rfl | rfl | rfl | rfl | rfl | rfl | rfl | rfl | rfl | rfl | rfl | rfl | rfl | rfl | rfl | rfl | rfl | rfl | rfl | rfl | rfl | rfl | rfl | rfl | rfl | rfl | rfl | rfl | rfl | rfl | rfl | rfl | rfl | rfl | rfl | rfl | rfl | rfl | rfl <;> rfl
    · have n0 : Nat.beq a 0 = false := nbf (by omega)
      have n65 : Nat.beq a 65 = false := nbf (by omega)
      have n78 : Nat.beq a 78 = false := nbf (by omega)
      have r10 : inR 10 15 a = false := inR_f (by omega)
      have r20 : inR 20 25 a = false := inR_f (by omega)
      have r30 : inR 30 35 a = false := inR_f (by omega)
      have r40 : inR 40 41 a = false := inR_f (by omega)
      have r50 : inR 50 53 a = false := inR_f (by omega)
      have r60 : inR 60 61 a = false := inR_f (by omega)
      have r66 : inR 66 67 a = false := inR_f (by omega)
      have r68 : inR 68 69 a = false := inR_f (by omega)
      have r70 : inR 70 71 a = false := inR_f (by omega)
      have r72 : inR 72 73 a = false := inR_f (by omega)
      have r74 : inR 74 75 a = false := inR_f (by omega)
      have r76 : inR 76 77 a = false := inR_f (by omega)
      have rl : DNl a = false := by unfold DNl; rw [inR_f (by omega), inR_f (by omega)]; rfl
      have nr : DNb a = false := by
        unfold DNb
        rw [inR_f (by omega), inR_f (by omega), inR_f (by omega), inR_f (by omega), inR_f (by omega), inR_f (by omega), inR_f (by omega), inR_f (by omega), inR_f (by omega), inR_f (by omega)]
        rfl
      simp only [PA, upA, n0, n65, n78, r10, r20, r30, r40, r50, r60, r66, r68, r70, r72, r74, r76, rl, nr, cond_false]
  rw [← e, ← ea] at hK
  clear e ea
  refine cof ocBy_init rfl (XW_t4 [107] 120 okBy_init ?_)
  refine ⟨1, rfl, hal 1 (by decide), ?_⟩
  refine c_iLa (fun a q1 q2 => ?_) ?_
  · have n0 : Nat.beq a 0 = false := nbf (by omega)
    simp only [PA, upA, n0, cond_false]
    exact hal a (by omega)
  refine ⟨10, rfl, hal 10 (by decide), ?_⟩
  refine c_iWo10 (fun a q1 q2 => ?_) ?_
  · have n0 : Nat.beq a 0 = false := nbf (by omega)
    have rl : DNl a = false := by unfold DNl; rw [inR_f (by omega), inR_f (by omega)]; rfl
    simp only [PA, upA, n0, rl, cond_false]
    exact hal a (by omega)
  refine ⟨20, rfl, hal 20 (by decide), ?_⟩
  refine c_iWo20 (fun a q1 q2 => ?_) ?_
  · have n0 : Nat.beq a 0 = false := nbf (by omega)
    have r10 : inR 10 15 a = false := inR_f (by omega)
    have rl : DNl a = false := by unfold DNl; rw [inR_f (by omega), inR_f (by omega)]; rfl
    simp only [PA, upA, n0, r10, rl, cond_false]
    exact hal a (by omega)
  refine ⟨30, rfl, hal 30 (by decide), ?_⟩
  refine c_iWo30 (fun a q1 q2 => ?_) ?_
  · have n0 : Nat.beq a 0 = false := nbf (by omega)
    have r10 : inR 10 15 a = false := inR_f (by omega)
    have r20 : inR 20 25 a = false := inR_f (by omega)
    have rl : DNl a = false := by unfold DNl; rw [inR_f (by omega), inR_f (by omega)]; rfl
    simp only [PA, upA, n0, r10, r20, rl, cond_false]
    exact hal a (by omega)
  refine ⟨40, rfl, hal 40 (by decide), ?_⟩
  refine c_iTe (fun a q1 q2 => ?_) ?_
  · have n0 : Nat.beq a 0 = false := nbf (by omega)
    have r10 : inR 10 15 a = false := inR_f (by omega)
    have r20 : inR 20 25 a = false := inR_f (by omega)
    have r30 : inR 30 35 a = false := inR_f (by omega)
    have rl : DNl a = false := by unfold DNl; rw [inR_f (by omega), inR_f (by omega)]; rfl
    simp only [PA, upA, n0, r10, r20, r30, rl, cond_false]
    exact hal a (by omega)
  refine ⟨50, rfl, hal 50 (by decide), ?_⟩
  refine c_iDr (fun a q1 q2 => ?_) ?_
  · have n0 : Nat.beq a 0 = false := nbf (by omega)
    have r10 : inR 10 15 a = false := inR_f (by omega)
    have r20 : inR 20 25 a = false := inR_f (by omega)
    have r30 : inR 30 35 a = false := inR_f (by omega)
    have r40 : inR 40 41 a = false := inR_f (by omega)
    have rl : DNl a = false := by unfold DNl; rw [inR_f (by omega), inR_f (by omega)]; rfl
    simp only [PA, upA, n0, r10, r20, r30, r40, rl, cond_false]
    exact hal a (by omega)
  refine ⟨60, rfl, hal 60 (by decide), ?_⟩
  refine c_iAc (fun a q1 q2 => ?_) ?_
  · have n0 : Nat.beq a 0 = false := nbf (by omega)
    have r10 : inR 10 15 a = false := inR_f (by omega)
    have r20 : inR 20 25 a = false := inR_f (by omega)
    have r30 : inR 30 35 a = false := inR_f (by omega)
    have r40 : inR 40 41 a = false := inR_f (by omega)
    have r50 : inR 50 53 a = false := inR_f (by omega)
    have rl : DNl a = false := by unfold DNl; rw [inR_f (by omega), inR_f (by omega)]; rfl
    simp only [PA, upA, n0, r10, r20, r30, r40, r50, rl, cond_false]
    exact hal a (by omega)
  refine ⟨65, rfl, hal 65 (by decide), rfl, ?_⟩
  refine ⟨78, rfl, hal 78 (by decide), rfl, ?_⟩
  show XW g (d + 2) mBy_init K 107 [some (xr 0), some (xi 0)] [] (uH (clr (uH (clr (uH (PI (inR 60 61) (uH (PI (inR 50 53) (uH (PI (inR 40 41) (uH (PI (inR 30 35) (uH (PI (inR 20 25) (uH (PI (inR 10 15) (uH (PI (DNl) (clr h 0)) 0 0 (1))) 0 1 (10))) 0 2 (20))) 0 3 (30))) 0 5 (40))) 0 6 (50))) 0 7 (60)) 65) 0 8 (65)) 78) 0 9 (78)) (upA (upA (PA (inR 60 61) (PA (inR 50 53) (PA (inR 40 41) (PA (inR 30 35) (PA (inR 20 25) (PA (inR 10 15) (PA (DNl) (upA al 0)))))))) 65) 78)
  refine XW_t4 [107] 80 okBy_init ?_
  refine ⟨66, rfl, hal 66 (by decide), ?_⟩
  refine c_iTa66 (fun a q1 q2 => ?_) ?_
  · have n0 : Nat.beq a 0 = false := nbf (by omega)
    have n65 : Nat.beq a 65 = false := nbf (by omega)
    have n78 : Nat.beq a 78 = false := nbf (by omega)
    have r10 : inR 10 15 a = false := inR_f (by omega)
    have r20 : inR 20 25 a = false := inR_f (by omega)
    have r30 : inR 30 35 a = false := inR_f (by omega)
    have r40 : inR 40 41 a = false := inR_f (by omega)
    have r50 : inR 50 53 a = false := inR_f (by omega)
    have r60 : inR 60 61 a = false := inR_f (by omega)
    have rl : DNl a = false := by unfold DNl; rw [inR_f (by omega), inR_f (by omega)]; rfl
    simp only [PA, upA, n0, n65, n78, r10, r20, r30, r40, r50, r60, rl, cond_false]
    exact hal a (by omega)
  refine ⟨⟨by decide, show (0 : Int) < 6 by decide⟩, ?_⟩
  show XW g (d + 2) mBy_init K 107 [some (xr 0), some (xi 1)] [] (uH (PI (inR 66 67) (uH (clr (uH (clr (uH (PI (inR 60 61) (uH (PI (inR 50 53) (uH (PI (inR 40 41) (uH (PI (inR 30 35) (uH (PI (inR 20 25) (uH (PI (inR 10 15) (uH (PI (DNl) (clr h 0)) 0 0 (1))) 0 1 (10))) 0 2 (20))) 0 3 (30))) 0 5 (40))) 0 6 (50))) 0 7 (60)) 65) 0 8 (65)) 78) 0 9 (78))) 65 0 (66)) (PA (inR 66 67) (upA (upA (PA (inR 60 61) (PA (inR 50 53) (PA (inR 40 41) (PA (inR 30 35) (PA (inR 20 25) (PA (inR 10 15) (PA (DNl) (upA al 0)))))))) 65) 78))
  refine XW_t4 [107] 80 okBy_init ?_
  refine ⟨68, rfl, hal 68 (by decide), ?_⟩
  refine c_iTa68 (fun a q1 q2 => ?_) ?_
  · have n0 : Nat.beq a 0 = false := nbf (by omega)
    have n65 : Nat.beq a 65 = false := nbf (by omega)
    have n78 : Nat.beq a 78 = false := nbf (by omega)
    have r10 : inR 10 15 a = false := inR_f (by omega)
    have r20 : inR 20 25 a = false := inR_f (by omega)
    have r30 : inR 30 35 a = false := inR_f (by omega)
    have r40 : inR 40 41 a = false := inR_f (by omega)
    have r50 : inR 50 53 a = false := inR_f (by omega)
    have r60 : inR 60 61 a = false := inR_f (by omega)
    have r66 : inR 66 67 a = false := inR_f (by omega)
    have rl : DNl a = false := by unfold DNl; rw [inR_f (by omega), inR_f (by omega)]; rfl
    simp only [PA, upA, n0, n65, n78, r10, r20, r30, r40, r50, r60, r66, rl, cond_false]
    exact hal a (by omega)
  refine ⟨⟨by decide, show (1 : Int) < 6 by decide⟩, ?_⟩
  show XW g (d + 2) mBy_init K 107 [some (xr 0), some (xi 2)] [] (uH (PI (inR 68 69) (uH (PI (inR 66 67) (uH (clr (uH (clr (uH (PI (inR 60 61) (uH (PI (inR 50 53) (uH (PI (inR 40 41) (uH (PI (inR 30 35) (uH (PI (inR 20 25) (uH (PI (inR 10 15) (uH (PI (DNl) (clr h 0)) 0 0 (1))) 0 1 (10))) 0 2 (20))) 0 3 (30))) 0 5 (40))) 0 6 (50))) 0 7 (60)) 65) 0 8 (65)) 78) 0 9 (78))) 65 0 (66))) 65 1 (68)) (PA (inR 68 69) (PA (inR 66 67) (upA (upA (PA (inR 60 61) (PA (inR 50 53) (PA (inR 40 41) (PA (inR 30 35) (PA (inR 20 25) (PA (inR 10 15) (PA (DNl) (upA al 0)))))))) 65) 78)))
  refine XW_t4 [107] 80 okBy_init ?_
  refine ⟨70, rfl, hal 70 (by decide), ?_⟩
  refine c_iTa70 (fun a q1 q2 => ?_) ?_
  · have n0 : Nat.beq a 0 = false := nbf (by omega)
    have n65 : Nat.beq a 65 = false := nbf (by omega)
    have n78 : Nat.beq a 78 = false := nbf (by omega)
    have r10 : inR 10 15 a = false := inR_f (by omega)
    have r20 : inR 20 25 a = false := inR_f (by omega)
    have r30 : inR 30 35 a = false := inR_f (by omega)
    have r40 : inR 40 41 a = false := inR_f (by omega)
    have r50 : inR 50 53 a = false := inR_f (by omega)
    have r60 : inR 60 61 a = false := inR_f (by omega)
    have r66 : inR 66 67 a = false := inR_f (by omega)
    have r68 : inR 68 69 a = false := inR_f (by omega)
    have rl : DNl a = false := by unfold DNl; rw [inR_f (by omega), inR_f (by omega)]; rfl
    simp only [PA, upA, n0, n65, n78, r10, r20, r30, r40, r50, r60, r66, r68, rl, cond_false]
    exact hal a (by omega)
  refine ⟨⟨by decide, show (2 : Int) < 6 by decide⟩, ?_⟩
  show XW g (d + 2) mBy_init K 107 [some (xr 0), some (xi 3)] [] (uH (PI (inR 70 71) (uH (PI (inR 68 69) (uH (PI (inR 66 67) (uH (clr (uH (clr (uH (PI (inR 60 61) (uH (PI (inR 50 53) (uH (PI (inR 40 41) (uH (PI (inR 30 35) (uH (PI (inR 20 25) (uH (PI (inR 10 15) (uH (PI (DNl) (clr h 0)) 0 0 (1))) 0 1 (10))) 0 2 (20))) 0 3 (30))) 0 5 (40))) 0 6 (50))) 0 7 (60)) 65) 0 8 (65)) 78) 0 9 (78))) 65 0 (66))) 65 1 (68))) 65 2 (70)) (PA (inR 70 71) (PA (inR 68 69) (PA (inR 66 67) (upA (upA (PA (inR 60 61) (PA (inR 50 53) (PA (inR 40 41) (PA (inR 30 35) (PA (inR 20 25) (PA (inR 10 15) (PA (DNl) (upA al 0)))))))) 65) 78))))
  refine XW_t4 [107] 80 okBy_init ?_
  refine ⟨72, rfl, hal 72 (by decide), ?_⟩
  refine c_iTa72 (fun a q1 q2 => ?_) ?_
  · have n0 : Nat.beq a 0 = false := nbf (by omega)
    have n65 : Nat.beq a 65 = false := nbf (by omega)
    have n78 : Nat.beq a 78 = false := nbf (by omega)
    have r10 : inR 10 15 a = false := inR_f (by omega)
    have r20 : inR 20 25 a = false := inR_f (by omega)
    have r30 : inR 30 35 a = false := inR_f (by omega)
    have r40 : inR 40 41 a = false := inR_f (by omega)
    have r50 : inR 50 53 a = false := inR_f (by omega)
    have r60 : inR 60 61 a = false := inR_f (by omega)
    have r66 : inR 66 67 a = false := inR_f (by omega)
    have r68 : inR 68 69 a = false := inR_f (by omega)
    have r70 : inR 70 71 a = false := inR_f (by omega)
    have rl : DNl a = false := by unfold DNl; rw [inR_f (by omega), inR_f (by omega)]; rfl
    simp only [PA, upA, n0, n65, n78, r10, r20, r30, r40, r50, r60, r66, r68, r70, rl, cond_false]
    exact hal a (by omega)
  refine ⟨⟨by decide, show (3 : Int) < 6 by decide⟩, ?_⟩
  show XW g (d + 2) mBy_init K 107 [some (xr 0), some (xi 4)] [] (uH (PI (inR 72 73) (uH (PI (inR 70 71) (uH (PI (inR 68 69) (uH (PI (inR 66 67) (uH (clr (uH (clr (uH (PI (inR 60 61) (uH (PI (inR 50 53) (uH (PI (inR 40 41) (uH (PI (inR 30 35) (uH (PI (inR 20 25) (uH (PI (inR 10 15) (uH (PI (DNl) (clr h 0)) 0 0 (1))) 0 1 (10))) 0 2 (20))) 0 3 (30))) 0 5 (40))) 0 6 (50))) 0 7 (60)) 65) 0 8 (65)) 78) 0 9 (78))) 65 0 (66))) 65 1 (68))) 65 2 (70))) 65 3 (72)) (PA (inR 72 73) (PA (inR 70 71) (PA (inR 68 69) (PA (inR 66 67) (upA (upA (PA (inR 60 61) (PA (inR 50 53) (PA (inR 40 41) (PA (inR 30 35) (PA (inR 20 25) (PA (inR 10 15) (PA (DNl) (upA al 0)))))))) 65) 78)))))
  refine XW_t4 [107] 80 okBy_init ?_
  refine ⟨74, rfl, hal 74 (by decide), ?_⟩
  refine c_iTa74 (fun a q1 q2 => ?_) ?_
  · have n0 : Nat.beq a 0 = false := nbf (by omega)
    have n65 : Nat.beq a 65 = false := nbf (by omega)
    have n78 : Nat.beq a 78 = false := nbf (by omega)
    have r10 : inR 10 15 a = false := inR_f (by omega)
    have r20 : inR 20 25 a = false := inR_f (by omega)
    have r30 : inR 30 35 a = false := inR_f (by omega)
    have r40 : inR 40 41 a = false := inR_f (by omega)
    have r50 : inR 50 53 a = false := inR_f (by omega)
    have r60 : inR 60 61 a = false := inR_f (by omega)
    have r66 : inR 66 67 a = false := inR_f (by omega)
    have r68 : inR 68 69 a = false := inR_f (by omega)
    have r70 : inR 70 71 a = false := inR_f (by omega)
    have r72 : inR 72 73 a = false := inR_f (by omega)
    have rl : DNl a = false := by unfold DNl; rw [inR_f (by omega), inR_f (by omega)]; rfl
    simp only [PA, upA, n0, n65, n78, r10, r20, r30, r40, r50, r60, r66, r68, r70, r72, rl, cond_false]
    exact hal a (by omega)
  refine ⟨⟨by decide, show (4 : Int) < 6 by decide⟩, ?_⟩
  show XW g (d + 2) mBy_init K 107 [some (xr 0), some (xi 5)] [] (uH (PI (inR 74 75) (uH (PI (inR 72 73) (uH (PI (inR 70 71) (uH (PI (inR 68 69) (uH (PI (inR 66 67) (uH (clr (uH (clr (uH (PI (inR 60 61) (uH (PI (inR 50 53) (uH (PI (inR 40 41) (uH (PI (inR 30 35) (uH (PI (inR 20 25) (uH (PI (inR 10 15) (uH (PI (DNl) (clr h 0)) 0 0 (1))) 0 1 (10))) 0 2 (20))) 0 3 (30))) 0 5 (40))) 0 6 (50))) 0 7 (60)) 65) 0 8 (65)) 78) 0 9 (78))) 65 0 (66))) 65 1 (68))) 65 2 (70))) 65 3 (72))) 65 4 (74)) (PA (inR 74 75) (PA (inR 72 73) (PA (inR 70 71) (PA (inR 68 69) (PA (inR 66 67) (upA (upA (PA (inR 60 61) (PA (inR 50 53) (PA (inR 40 41) (PA (inR 30 35) (PA (inR 20 25) (PA (inR 10 15) (PA (DNl) (upA al 0)))))))) 65) 78))))))
  refine XW_t4 [107] 80 okBy_init ?_
  refine ⟨76, rfl, hal 76 (by decide), ?_⟩
  refine c_iTa76 (fun a q1 q2 => ?_) ?_
  · have n0 : Nat.beq a 0 = false := nbf (by omega)
    have n65 : Nat.beq a 65 = false := nbf (by omega)
    have n78 : Nat.beq a 78 = false := nbf (by omega)
    have r10 : inR 10 15 a = false := inR_f (by omega)
    have r20 : inR 20 25 a = false := inR_f (by omega)
    have r30 : inR 30 35 a = false := inR_f (by omega)
    have r40 : inR 40 41 a = false := inR_f (by omega)
    have r50 : inR 50 53 a = false := inR_f (by omega)
    have r60 : inR 60 61 a = false := inR_f (by omega)
    have r66 : inR 66 67 a = false := inR_f (by omega)
    have r68 : inR 68 69 a = false := inR_f (by omega)
    have r70 : inR 70 71 a = false := inR_f (by omega)
    have r72 : inR 72 73 a = false := inR_f (by omega)
    have r74 : inR 74 75 a = false := inR_f (by omega)
    have rl : DNl a = false := by unfold DNl; rw [inR_f (by omega), inR_f (by omega)]; rfl
    simp only [PA, upA, n0, n65, n78, r10, r20, r30, r40, r50, r60, r66, r68, r70, r72, r74, rl, cond_false]
    exact hal a (by omega)
  refine ⟨⟨by decide, show (5 : Int) < 6 by decide⟩, ?_⟩
  show XW g (d + 2) mBy_init K 107 [some (xr 0), some (xi 6)] [] (uH (PI (inR 76 77) (uH (PI (inR 74 75) (uH (PI (inR 72 73) (uH (PI (inR 70 71) (uH (PI (inR 68 69) (uH (PI (inR 66 67) (uH (clr (uH (clr (uH (PI (inR 60 61) (uH (PI (inR 50 53) (uH (PI (inR 40 41) (uH (PI (inR 30 35) (uH (PI (inR 20 25) (uH (PI (inR 10 15) (uH (PI (DNl) (clr h 0)) 0 0 (1))) 0 1 (10))) 0 2 (20))) 0 3 (30))) 0 5 (40))) 0 6 (50))) 0 7 (60)) 65) 0 8 (65)) 78) 0 9 (78))) 65 0 (66))) 65 1 (68))) 65 2 (70))) 65 3 (72))) 65 4 (74))) 65 5 (76)) (PA (inR 76 77) (PA (inR 74 75) (PA (inR 72 73) (PA (inR 70 71) (PA (inR 68 69) (PA (inR 66 67) (upA (upA (PA (inR 60 61) (PA (inR 50 53) (PA (inR 40 41) (PA (inR 30 35) (PA (inR 20 25) (PA (inR 10 15) (PA (DNl) (upA al 0)))))))) 65) 78)))))))
  refine XW_t4 [] 80 okBy_init ?_
  exact hK
end IY
