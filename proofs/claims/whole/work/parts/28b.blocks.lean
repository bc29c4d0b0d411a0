-- the constructors: blocks
section IB
variable {g : GC} {d : Nat} {h : HH} {al : AL} {K : KT}
theorem c_iVa80 (hal : ∀ a, 80 ≤ a → a ≤ 85 → al a = false) (hK : K none (PI (inR 80 85) h) (PA (inR 80 85) al)) : Call g (d + 1) yVa_init [xr 80] (clr h 80) (upA al 80) K := by
  have e : uH (clr (uH (clr (uH (clr (uH (clr (uH (clr (clr h 80) 81) 80 0 (81)) 82) 80 1 (82)) 83) 80 2 (83)) 84) 80 3 (84)) 85) 80 4 (85) = PI (inR 80 85) h := by
    funext a k
    by_cases q : 80 ≤ a ∧ a ≤ 85
    · have q2 : a = 80 ∨ a = 81 ∨ a = 82 ∨ a = 83 ∨ a = 84 ∨ a = 85 := by omega
      rcases q2 with rfl | rfl | rfl | rfl | rfl | rfl
      · match k with
        | 0 => rfl
        | 1 => rfl
        | 2 => rfl
        | 3 => rfl
        | 4 => rfl
        | 5 => rfl
        | 6 => rfl
        | 7 => rfl
        | 8 => rfl
        | k + 9 => rfl
      · rfl
      · rfl
      · rfl
      · rfl
      · rfl
    · have n80 : Nat.beq a 80 = false := nbf (by omega)
      have n81 : Nat.beq a 81 = false := nbf (by omega)
      have n82 : Nat.beq a 82 = false := nbf (by omega)
      have n83 : Nat.beq a 83 = false := nbf (by omega)
      have n84 : Nat.beq a 84 = false := nbf (by omega)
      have n85 : Nat.beq a 85 = false := nbf (by omega)
      have nr : inR 80 85 a = false := inR_f q
      simp only [PI, uH, clr, n80, n81, n82, n83, n84, n85, nr, Bool.false_and, cond_false]
  have ea : upA (upA (upA (upA (upA (upA al 80) 81) 82) 83) 84) 85 = PA (inR 80 85) al := by
    funext a
    by_cases q : 80 ≤ a ∧ a ≤ 85
    · have q2 : a = 80 ∨ a = 81 ∨ a = 82 ∨ a = 83 ∨ a = 84 ∨ a = 85 := by omega
      rcases q2 with rfl | rfl | rfl | rfl | rfl | rfl <;> rfl
    · have n80 : Nat.beq a 80 = false := nbf (by omega)
      have n81 : Nat.beq a 81 = false := nbf (by omega)
      have n82 : Nat.beq a 82 = false := nbf (by omega)
      have n83 : Nat.beq a 83 = false := nbf (by omega)
      have n84 : Nat.beq a 84 = false := nbf (by omega)
      have n85 : Nat.beq a 85 = false := nbf (by omega)
      have nr : inR 80 85 a = false := inR_f q
      simp only [PA, upA, n80, n81, n82, n83, n84, n85, nr, cond_false]
  rw [← e, ← ea] at hK
  refine cof ocVa_init rfl (XW_to [] 80 okVa_init ?_)
  refine ⟨81, rfl, hal 81 (by decide) (by decide), rfl, ?_⟩
  refine ⟨82, rfl, hal 82 (by decide) (by decide), rfl, ?_⟩
  refine ⟨83, rfl, hal 83 (by decide) (by decide), rfl, ?_⟩
  refine ⟨84, rfl, hal 84 (by decide) (by decide), rfl, ?_⟩
  refine ⟨85, rfl, hal 85 (by decide) (by decide), rfl, ?_⟩
  exact hK
theorem c_iVa86 (hal : ∀ a, 86 ≤ a → a ≤ 91 → al a = false) (hK : K none (PI (inR 86 91) h) (PA (inR 86 91) al)) : Call g (d + 1) yVa_init [xr 86] (clr h 86) (upA al 86) K := by
  have e : uH (clr (uH (clr (uH (clr (uH (clr (uH (clr (clr h 86) 87) 86 0 (87)) 88) 86 1 (88)) 89) 86 2 (89)) 90) 86 3 (90)) 91) 86 4 (91) = PI (inR 86 91) h := by
    funext a k
    by_cases q : 86 ≤ a ∧ a ≤ 91
    · have q2 : a = 86 ∨ a = 87 ∨ a = 88 ∨ a = 89 ∨ a = 90 ∨ a = 91 := by omega
      rcases q2 with rfl | rfl | rfl | rfl | rfl | rfl
      · match k with
        | 0 => rfl
        | 1 => rfl
        | 2 => rfl
        | 3 => rfl
        | 4 => rfl
        | 5 => rfl
        | 6 => rfl
        | 7 => rfl
        | 8 => rfl
        | k + 9 => rfl
      · rfl
      · rfl
      · rfl
      · rfl
      · rfl
    · have n86 : Nat.beq a 86 = false := nbf (by omega)
      have n87 : Nat.beq a 87 = false := nbf (by omega)
      have n88 : Nat.beq a 88 = false := nbf (by omega)
      have n89 : Nat.beq a 89 = false := nbf (by omega)
      have n90 : Nat.beq a 90 = false := nbf (by omega)
      have n91 : Nat.beq a 91 = false := nbf (by omega)
      have nr : inR 86 91 a = false := inR_f q
      simp only [PI, uH, clr, n86, n87, n88, n89, n90, n91, nr, Bool.false_and, cond_false]
  have ea : upA (upA (upA (upA (upA (upA al 86) 87) 88) 89) 90) 91 = PA (inR 86 91) al := by
    funext a
    by_cases q : 86 ≤ a ∧ a ≤ 91
    · have q2 : a = 86 ∨ a = 87 ∨ a = 88 ∨ a = 89 ∨ a = 90 ∨ a = 91 := by omega
      rcases q2 with rfl | rfl | rfl | rfl | rfl | rfl <;> rfl
    · have n86 : Nat.beq a 86 = false := nbf (by omega)
      have n87 : Nat.beq a 87 = false := nbf (by omega)
      have n88 : Nat.beq a 88 = false := nbf (by omega)
      have n89 : Nat.beq a 89 = false := nbf (by omega)
      have n90 : Nat.beq a 90 = false := nbf (by omega)
      have n91 : Nat.beq a 91 = false := nbf (by omega)
      have nr : inR 86 91 a = false := inR_f q
      simp only [PA, upA, n86, n87, n88, n89, n90, n91, nr, cond_false]
  rw [← e, ← ea] at hK
  refine cof ocVa_init rfl (XW_to [] 80 okVa_init ?_)
  refine ⟨87, rfl, hal 87 (by decide) (by decide), rfl, ?_⟩
  refine ⟨88, rfl, hal 88 (by decide) (by decide), rfl, ?_⟩
  refine ⟨89, rfl, hal 89 (by decide) (by decide), rfl, ?_⟩
  refine ⟨90, rfl, hal 90 (by decide) (by decide), rfl, ?_⟩
  refine ⟨91, rfl, hal 91 (by decide) (by decide), rfl, ?_⟩
  exact hK
theorem c_iVa92 (hal : ∀ a, 92 ≤ a → a ≤ 97 → al a = false) (hK : K none (PI (inR 92 97) h) (PA (inR 92 97) al)) : Call g (d + 1) yVa_init [xr 92] (clr h 92) (upA al 92) K := by
  have e : uH (clr (uH (clr (uH (clr (uH (clr (uH (clr (clr h 92) 93) 92 0 (93)) 94) 92 1 (94)) 95) 92 2 (95)) 96) 92 3 (96)) 97) 92 4 (97) = PI (inR 92 97) h := by
    funext a k
    by_cases q : 92 ≤ a ∧ a ≤ 97
    · have q2 : a = 92 ∨ a = 93 ∨ a = 94 ∨ a = 95 ∨ a = 96 ∨ a = 97 := by omega
      rcases q2 with rfl | rfl | rfl | rfl | rfl | rfl
      · match k with
        | 0 => rfl
        | 1 => rfl
        | 2 => rfl
        | 3 => rfl
        | 4 => rfl
        | 5 => rfl
        | 6 => rfl
        | 7 => rfl
        | 8 => rfl
        | k + 9 => rfl
      · rfl
      · rfl
      · rfl
      · rfl
      · rfl
    · have n92 : Nat.beq a 92 = false := nbf (by omega)
      have n93 : Nat.beq a 93 = false := nbf (by omega)
      have n94 : Nat.beq a 94 = false := nbf (by omega)
      have n95 : Nat.beq a 95 = false := nbf (by omega)
      have n96 : Nat.beq a 96 = false := nbf (by omega)
      have n97 : Nat.beq a 97 = false := nbf (by omega)
      have nr : inR 92 97 a = false := inR_f q
      simp only [PI, uH, clr, n92, n93, n94, n95, n96, n97, nr, Bool.false_and, cond_false]
  have ea : upA (upA (upA (upA (upA (upA al 92) 93) 94) 95) 96) 97 = PA (inR 92 97) al := by
    funext a
    by_cases q : 92 ≤ a ∧ a ≤ 97
    · have q2 : a = 92 ∨ a = 93 ∨ a = 94 ∨ a = 95 ∨ a = 96 ∨ a = 97 := by omega
      rcases q2 with rfl | rfl | rfl | rfl | rfl | rfl <;> rfl
    · have n92 : Nat.beq a 92 = false := nbf (by omega)
      have n93 : Nat.beq a 93 = false := nbf (by omega)
      have n94 : Nat.beq a 94 = false := nbf (by omega)
      have n95 : Nat.beq a 95 = false := nbf (by omega)
      have n96 : Nat.beq a 96 = false := nbf (by omega)
      have n97 : Nat.beq a 97 = false := nbf (by omega)
      have nr : inR 92 97 a = false := inR_f q
      simp only [PA, upA, n92, n93, n94, n95, n96, n97, nr, cond_false]
  rw [← e, ← ea] at hK
  refine cof ocVa_init rfl (XW_to [] 80 okVa_init ?_)
  refine ⟨93, rfl, hal 93 (by decide) (by decide), rfl, ?_⟩
  refine ⟨94, rfl, hal 94 (by decide) (by decide), rfl, ?_⟩
  refine ⟨95, rfl, hal 95 (by decide) (by decide), rfl, ?_⟩
  refine ⟨96, rfl, hal 96 (by decide) (by decide), rfl, ?_⟩
  refine ⟨97, rfl, hal 97 (by decide) (by decide), rfl, ?_⟩
  exact hK
theorem c_iVa98 (hal : ∀ a, 98 ≤ a → a ≤ 103 → al a = false) (hK : K none (PI (inR 98 103) h) (PA (inR 98 103) al)) : Call g (d + 1) yVa_init [xr 98] (clr h 98) (upA al 98) K := by
  have e : uH (clr (uH (clr (uH (clr (uH (clr (uH (clr (clr h 98) 99) 98 0 (99)) 100) 98 1 (100)) 101) 98 2 (101)) 102) 98 3 (102)) 103) 98 4 (103) = PI (inR 98 103) h := by
    funext a k
    by_cases q : 98 ≤ a ∧ a ≤ 103
    · have q2 : a = 98 ∨ a = 99 ∨ a = 100 ∨ a = 101 ∨ a = 102 ∨ a = 103 := by omega
      rcases q2 with rfl | rfl | rfl | rfl | rfl | rfl
      · match k with
        | 0 => rfl
        | 1 => rfl
        | 2 => rfl
        | 3 => rfl
        | 4 => rfl
        | 5 => rfl
        | 6 => rfl
        | 7 => rfl
        | 8 => rfl
        | k + 9 => rfl
      · rfl
      · rfl
      · rfl
      · rfl
      · rfl
    · have n98 : Nat.beq a 98 = false := nbf (by omega)
      have n99 : Nat.beq a 99 = false := nbf (by omega)
      have n100 : Nat.beq a 100 = false := nbf (by omega)
      have n101 : Nat.beq a 101 = false := nbf (by omega)
      have n102 : Nat.beq a 102 = false := nbf (by omega)
      have n103 : Nat.beq a 103 = false := nbf (by omega)
      have nr : inR 98 103 a = false := inR_f q
      simp only [PI, uH, clr, n98, n99, n100, n101, n102, n103, nr, Bool.false_and, cond_false]
  have ea : upA (upA (upA (upA (upA (upA al 98) 99) 100) 101) 102) 103 = PA (inR 98 103) al := by
    funext a
    by_cases q : 98 ≤ a ∧ a ≤ 103
    · have q2 : a = 98 ∨ a = 99 ∨ a = 100 ∨ a = 101 ∨ a = 102 ∨ a = 103 := by omega
      rcases q2 with rfl | rfl | rfl | rfl | rfl | rfl <;> rfl
    · have n98 : Nat.beq a 98 = false := nbf (by omega)
      have n99 : Nat.beq a 99 = false := nbf (by omega)
      have n100 : Nat.beq a 100 = false := nbf (by omega)
      have n101 : Nat.beq a 101 = false := nbf (by omega)
      have n102 : Nat.beq a 102 = false := nbf (by omega)
      have n103 : Nat.beq a 103 = false := nbf (by omega)
      have nr : inR 98 103 a = false := inR_f q
      simp only [PA, upA, n98, n99, n100, n101, n102, n103, nr, cond_false]
  rw [← e, ← ea] at hK
  refine cof ocVa_init rfl (XW_to [] 80 okVa_init ?_)
  refine ⟨99, rfl, hal 99 (by decide) (by decide), rfl, ?_⟩
  refine ⟨100, rfl, hal 100 (by decide) (by decide), rfl, ?_⟩
  refine ⟨101, rfl, hal 101 (by decide) (by decide), rfl, ?_⟩
  refine ⟨102, rfl, hal 102 (by decide) (by decide), rfl, ?_⟩
  refine ⟨103, rfl, hal 103 (by decide) (by decide), rfl, ?_⟩
  exact hK
theorem c_iVa104 (hal : ∀ a, 104 ≤ a → a ≤ 109 → al a = false) (hK : K none (PI (inR 104 109) h) (PA (inR 104 109) al)) : Call g (d + 1) yVa_init [xr 104] (clr h 104) (upA al 104) K := by
  have e : uH (clr (uH (clr (uH (clr (uH (clr (uH (clr (clr h 104) 105) 104 0 (105)) 106) 104 1 (106)) 107) 104 2 (107)) 108) 104 3 (108)) 109) 104 4 (109) = PI (inR 104 109) h := by
    funext a k
    by_cases q : 104 ≤ a ∧ a ≤ 109
    · have q2 : a = 104 ∨ a = 105 ∨ a = 106 ∨ a = 107 ∨ a = 108 ∨ a = 109 := by omega
      rcases q2 with rfl | rfl | rfl | rfl | rfl | rfl
      · match k with
        | 0 => rfl
        | 1 => rfl
        | 2 => rfl
        | 3 => rfl
        | 4 => rfl
        | 5 => rfl
        | 6 => rfl
        | 7 => rfl
        | 8 => rfl
        | k + 9 => rfl
      · rfl
      · rfl
      · rfl
      · rfl
      · rfl
    · have n104 : Nat.beq a 104 = false := nbf (by omega)
      have n105 : Nat.beq a 105 = false := nbf (by omega)
      have n106 : Nat.beq a 106 = false := nbf (by omega)
      have n107 : Nat.beq a 107 = false := nbf (by omega)
      have n108 : Nat.beq a 108 = false := nbf (by omega)
      have n109 : Nat.beq a 109 = false := nbf (by omega)
      have nr : inR 104 109 a = false := inR_f q
      simp only [PI, uH, clr, n104, n105, n106, n107, n108, n109, nr, Bool.false_and, cond_false]
  have ea : upA (upA (upA (upA (upA (upA al 104) 105) 106) 107) 108) 109 = PA (inR 104 109) al := by
    funext a
    by_cases q : 104 ≤ a ∧ a ≤ 109
    · have q2 : a = 104 ∨ a = 105 ∨ a = 106 ∨ a = 107 ∨ a = 108 ∨ a = 109 := by omega
      rcases q2 with rfl | rfl | rfl | rfl | rfl | rfl <;> rfl
    · have n104 : Nat.beq a 104 = false := nbf (by omega)
      have n105 : Nat.beq a 105 = false := nbf (by omega)
      have n106 : Nat.beq a 106 = false := nbf (by omega)
      have n107 : Nat.beq a 107 = false := nbf (by omega)
      have n108 : Nat.beq a 108 = false := nbf (by omega)
      have n109 : Nat.beq a 109 = false := nbf (by omega)
      have nr : inR 104 109 a = false := inR_f q
      simp only [PA, upA, n104, n105, n106, n107, n108, n109, nr, cond_false]
  rw [← e, ← ea] at hK
  refine cof ocVa_init rfl (XW_to [] 80 okVa_init ?_)
  refine ⟨105, rfl, hal 105 (by decide) (by decide), rfl, ?_⟩
  refine ⟨106, rfl, hal 106 (by decide) (by decide), rfl, ?_⟩
  refine ⟨107, rfl, hal 107 (by decide) (by decide), rfl, ?_⟩
  refine ⟨108, rfl, hal 108 (by decide) (by decide), rfl, ?_⟩
  refine ⟨109, rfl, hal 109 (by decide) (by decide), rfl, ?_⟩
  exact hK
theorem c_iVa110 (hal : ∀ a, 110 ≤ a → a ≤ 115 → al a = false) (hK : K none (PI (inR 110 115) h) (PA (inR 110 115) al)) : Call g (d + 1) yVa_init [xr 110] (clr h 110) (upA al 110) K := by
  have e : uH (clr (uH (clr (uH (clr (uH (clr (uH (clr (clr h 110) 111) 110 0 (111)) 112) 110 1 (112)) 113) 110 2 (113)) 114) 110 3 (114)) 115) 110 4 (115) = PI (inR 110 115) h := by
    funext a k
    by_cases q : 110 ≤ a ∧ a ≤ 115
    · have q2 : a = 110 ∨ a = 111 ∨ a = 112 ∨ a = 113 ∨ a = 114 ∨ a = 115 := by omega
      rcases q2 with rfl | rfl | rfl | rfl | rfl | rfl
      · match k with
        | 0 => rfl
        | 1 => rfl
        | 2 => rfl
        | 3 => rfl
        | 4 => rfl
        | 5 => rfl
        | 6 => rfl
        | 7 => rfl
        | 8 => rfl
        | k + 9 => rfl
      · rfl
      · rfl
      · rfl
      · rfl
      · rfl
    · have n110 : Nat.beq a 110 = false := nbf (by omega)
      have n111 : Nat.beq a 111 = false := nbf (by omega)
      have n112 : Nat.beq a 112 = false := nbf (by omega)
      have n113 : Nat.beq a 113 = false := nbf (by omega)
      have n114 : Nat.beq a 114 = false := nbf (by omega)
      have n115 : Nat.beq a 115 = false := nbf (by omega)
      have nr : inR 110 115 a = false := inR_f q
      simp only [PI, uH, clr, n110, n111, n112, n113, n114, n115, nr, Bool.false_and, cond_false]
  have ea : upA (upA (upA (upA (upA (upA al 110) 111) 112) 113) 114) 115 = PA (inR 110 115) al := by
    funext a
    by_cases q : 110 ≤ a ∧ a ≤ 115
    · have q2 : a = 110 ∨ a = 111 ∨ a = 112 ∨ a = 113 ∨ a = 114 ∨ a = 115 := by omega
      rcases q2 with rfl | rfl | rfl | rfl | rfl | rfl <;> rfl
    · have n110 : Nat.beq a 110 = false := nbf (by omega)
      have n111 : Nat.beq a 111 = false := nbf (by omega)
      have n112 : Nat.beq a 112 = false := nbf (by omega)
      have n113 : Nat.beq a 113 = false := nbf (by omega)
      have n114 : Nat.beq a 114 = false := nbf (by omega)
      have n115 : Nat.beq a 115 = false := nbf (by omega)
      have nr : inR 110 115 a = false := inR_f q
      simp only [PA, upA, n110, n111, n112, n113, n114, n115, nr, cond_false]
  rw [← e, ← ea] at hK
  refine cof ocVa_init rfl (XW_to [] 80 okVa_init ?_)
  refine ⟨111, rfl, hal 111 (by decide) (by decide), rfl, ?_⟩
  refine ⟨112, rfl, hal 112 (by decide) (by decide), rfl, ?_⟩
  refine ⟨113, rfl, hal 113 (by decide) (by decide), rfl, ?_⟩
  refine ⟨114, rfl, hal 114 (by decide) (by decide), rfl, ?_⟩
  refine ⟨115, rfl, hal 115 (by decide) (by decide), rfl, ?_⟩
  exact hK
theorem c_iTa66 (hal : ∀ a, 66 ≤ a → a ≤ 67 → al a = false) (hK : K none (PI (inR 66 67) h) (PA (inR 66 67) al)) : Call g (d + 1) yTa_init [xr 66] (clr h 66) (upA al 66) K := by
  have e : uH (uH (clr (clr h 66) 67) 66 0 (67)) 66 1 (-1) = PI (inR 66 67) h := by
    funext a k
    by_cases q : 66 ≤ a ∧ a ≤ 67
    · have q2 : a = 66 ∨ a = 67 := by omega
      rcases q2 with rfl | rfl
      · match k with
        | 0 => rfl
        | 1 => rfl
        | 2 => rfl
        | k + 3 => rfl
      · rfl
    · have n66 : Nat.beq a 66 = false := nbf (by omega)
      have n67 : Nat.beq a 67 = false := nbf (by omega)
      have nr : inR 66 67 a = false := inR_f q
      simp only [PI, uH, clr, n66, n67, nr, Bool.false_and, cond_false]
  have ea : upA (upA al 66) 67 = PA (inR 66 67) al := by
    funext a
    by_cases q : 66 ≤ a ∧ a ≤ 67
    · have q2 : a = 66 ∨ a = 67 := by omega
      rcases q2 with rfl | rfl <;> rfl
    · have n66 : Nat.beq a 66 = false := nbf (by omega)
      have n67 : Nat.beq a 67 = false := nbf (by omega)
      have nr : inR 66 67 a = false := inR_f q
      simp only [PA, upA, n66, n67, nr, cond_false]
  rw [← e, ← ea] at hK
  refine cof ocTa_init rfl (XW_t4 [] 80 okTa_init ?_)
  refine ⟨67, rfl, hal 67 (by decide) (by decide), rfl, ?_⟩
  exact hK
theorem c_iTa68 (hal : ∀ a, 68 ≤ a → a ≤ 69 → al a = false) (hK : K none (PI (inR 68 69) h) (PA (inR 68 69) al)) : Call g (d + 1) yTa_init [xr 68] (clr h 68) (upA al 68) K := by
  have e : uH (uH (clr (clr h 68) 69) 68 0 (69)) 68 1 (-1) = PI (inR 68 69) h := by
    funext a k
    by_cases q : 68 ≤ a ∧ a ≤ 69
    · have q2 : a = 68 ∨ a = 69 := by omega
      rcases q2 with rfl | rfl
      · match k with
        | 0 => rfl
        | 1 => rfl
        | 2 => rfl
        | k + 3 => rfl
      · rfl
    · have n68 : Nat.beq a 68 = false := nbf (by omega)
      have n69 : Nat.beq a 69 = false := nbf (by omega)
      have nr : inR 68 69 a = false := inR_f q
      simp only [PI, uH, clr, n68, n69, nr, Bool.false_and, cond_false]
  have ea : upA (upA al 68) 69 = PA (inR 68 69) al := by
    funext a
    by_cases q : 68 ≤ a ∧ a ≤ 69
    · have q2 : a = 68 ∨ a = 69 := by omega
      rcases q2 with rfl | rfl <;> rfl
    · have n68 : Nat.beq a 68 = false := nbf (by omega)
      have n69 : Nat.beq a 69 = false := nbf (by omega)
      have nr : inR 68 69 a = false := inR_f q
      simp only [PA, upA, n68, n69, nr, cond_false]
  rw [← e, ← ea] at hK
  refine cof ocTa_init rfl (XW_t4 [] 80 okTa_init ?_)
  refine ⟨69, rfl, hal 69 (by decide) (by decide), rfl, ?_⟩
  exact hK
theorem c_iTa70 (hal : ∀ a, 70 ≤ a → a ≤ 71 → al a = false) (hK : K none (PI (inR 70 71) h) (PA (inR 70 71) al)) : Call g (d + 1) yTa_init [xr 70] (clr h 70) (upA al 70) K := by
  have e : uH (uH (clr (clr h 70) 71) 70 0 (71)) 70 1 (-1) = PI (inR 70 71) h := by
    funext a k
    by_cases q : 70 ≤ a ∧ a ≤ 71
    · have q2 : a = 70 ∨ a = 71 := by omega
      rcases q2 with rfl | rfl
      · match k with
        | 0 => rfl
        | 1 => rfl
        | 2 => rfl
        | k + 3 => rfl
      · rfl
    · have n70 : Nat.beq a 70 = false := nbf (by omega)
      have n71 : Nat.beq a 71 = false := nbf (by omega)
      have nr : inR 70 71 a = false := inR_f q
      simp only [PI, uH, clr, n70, n71, nr, Bool.false_and, cond_false]
  have ea : upA (upA al 70) 71 = PA (inR 70 71) al := by
    funext a
    by_cases q : 70 ≤ a ∧ a ≤ 71
    · have q2 : a = 70 ∨ a = 71 := by omega
      rcases q2 with rfl | rfl <;> rfl
    · have n70 : Nat.beq a 70 = false := nbf (by omega)
      have n71 : Nat.beq a 71 = false := nbf (by omega)
      have nr : inR 70 71 a = false := inR_f q
      simp only [PA, upA, n70, n71, nr, cond_false]
  rw [← e, ← ea] at hK
  refine cof ocTa_init rfl (XW_t4 [] 80 okTa_init ?_)
  refine ⟨71, rfl, hal 71 (by decide) (by decide), rfl, ?_⟩
  exact hK
theorem c_iTa72 (hal : ∀ a, 72 ≤ a → a ≤ 73 → al a = false) (hK : K none (PI (inR 72 73) h) (PA (inR 72 73) al)) : Call g (d + 1) yTa_init [xr 72] (clr h 72) (upA al 72) K := by
  have e : uH (uH (clr (clr h 72) 73) 72 0 (73)) 72 1 (-1) = PI (inR 72 73) h := by
    funext a k
    by_cases q : 72 ≤ a ∧ a ≤ 73
    · have q2 : a = 72 ∨ a = 73 := by omega
      rcases q2 with rfl | rfl
      · match k with
        | 0 => rfl
        | 1 => rfl
        | 2 => rfl
        | k + 3 => rfl
      · rfl
    · have n72 : Nat.beq a 72 = false := nbf (by omega)
      have n73 : Nat.beq a 73 = false := nbf (by omega)
      have nr : inR 72 73 a = false := inR_f q
      simp only [PI, uH, clr, n72, n73, nr, Bool.false_and, cond_false]
  have ea : upA (upA al 72) 73 = PA (inR 72 73) al := by
    funext a
    by_cases q : 72 ≤ a ∧ a ≤ 73
    · have q2 : a = 72 ∨ a = 73 := by omega
      rcases q2 with rfl | rfl <;> rfl
    · have n72 : Nat.beq a 72 = false := nbf (by omega)
      have n73 : Nat.beq a 73 = false := nbf (by omega)
      have nr : inR 72 73 a = false := inR_f q
      simp only [PA, upA, n72, n73, nr, cond_false]
  rw [← e, ← ea] at hK
  refine cof ocTa_init rfl (XW_t4 [] 80 okTa_init ?_)
  refine ⟨73, rfl, hal 73 (by decide) (by decide), rfl, ?_⟩
  exact hK
theorem c_iTa74 (hal : ∀ a, 74 ≤ a → a ≤ 75 → al a = false) (hK : K none (PI (inR 74 75) h) (PA (inR 74 75) al)) : Call g (d + 1) yTa_init [xr 74] (clr h 74) (upA al 74) K := by
  have e : uH (uH (clr (clr h 74) 75) 74 0 (75)) 74 1 (-1) = PI (inR 74 75) h := by
    funext a k
    by_cases q : 74 ≤ a ∧ a ≤ 75
    · have q2 : a = 74 ∨ a = 75 := by omega
      rcases q2 with rfl | rfl
      · match k with
        | 0 => rfl
        | 1 => rfl
        | 2 => rfl
        | k + 3 => rfl
      · rfl
    · have n74 : Nat.beq a 74 = false := nbf (by omega)
      have n75 : Nat.beq a 75 = false := nbf (by omega)
      have nr : inR 74 75 a = false := inR_f q
      simp only [PI, uH, clr, n74, n75, nr, Bool.false_and, cond_false]
  have ea : upA (upA al 74) 75 = PA (inR 74 75) al := by
    funext a
    by_cases q : 74 ≤ a ∧ a ≤ 75
    · have q2 : a = 74 ∨ a = 75 := by omega
      rcases q2 with rfl | rfl <;> rfl
    · have n74 : Nat.beq a 74 = false := nbf (by omega)
      have n75 : Nat.beq a 75 = false := nbf (by omega)
      have nr : inR 74 75 a = false := inR_f q
      simp only [PA, upA, n74, n75, nr, cond_false]
  rw [← e, ← ea] at hK
  refine cof ocTa_init rfl (XW_t4 [] 80 okTa_init ?_)
  refine ⟨75, rfl, hal 75 (by decide) (by decide), rfl, ?_⟩
  exact hK
theorem c_iTa76 (hal : ∀ a, 76 ≤ a → a ≤ 77 → al a = false) (hK : K none (PI (inR 76 77) h) (PA (inR 76 77) al)) : Call g (d + 1) yTa_init [xr 76] (clr h 76) (upA al 76) K := by
  have e : uH (uH (clr (clr h 76) 77) 76 0 (77)) 76 1 (-1) = PI (inR 76 77) h := by
    funext a k
    by_cases q : 76 ≤ a ∧ a ≤ 77
    · have q2 : a = 76 ∨ a = 77 := by omega
      rcases q2 with rfl | rfl
      · match k with
        | 0 => rfl
        | 1 => rfl
        | 2 => rfl
        | k + 3 => rfl
      · rfl
    · have n76 : Nat.beq a 76 = false := nbf (by omega)
      have n77 : Nat.beq a 77 = false := nbf (by omega)
      have nr : inR 76 77 a = false := inR_f q
      simp only [PI, uH, clr, n76, n77, nr, Bool.false_and, cond_false]
  have ea : upA (upA al 76) 77 = PA (inR 76 77) al := by
    funext a
    by_cases q : 76 ≤ a ∧ a ≤ 77
    · have q2 : a = 76 ∨ a = 77 := by omega
      rcases q2 with rfl | rfl <;> rfl
    · have n76 : Nat.beq a 76 = false := nbf (by omega)
      have n77 : Nat.beq a 77 = false := nbf (by omega)
      have nr : inR 76 77 a = false := inR_f q
      simp only [PA, upA, n76, n77, nr, cond_false]
  rw [← e, ← ea] at hK
  refine cof ocTa_init rfl (XW_t4 [] 80 okTa_init ?_)
  refine ⟨77, rfl, hal 77 (by decide) (by decide), rfl, ?_⟩
  exact hK
theorem c_iTe (hal : ∀ a, 40 ≤ a → a ≤ 41 → al a = false) (hK : K none (PI (inR 40 41) h) (PA (inR 40 41) al)) : Call g (d + 1) yTe_init [xr 40, xr 80] (clr h 40) (upA al 40) K := by
  have e : uH (uH (clr (clr h 40) 41) 40 0 (41)) 40 3 (80) = PI (inR 40 41) h := by
    funext a k
    by_cases q : 40 ≤ a ∧ a ≤ 41
    · have q2 : a = 40 ∨ a = 41 := by omega
      rcases q2 with rfl | rfl
      · match k with
        | 0 => rfl
        | 1 => rfl
        | 2 => rfl
        | 3 => rfl
        | 4 => rfl
        | k + 5 => rfl
      · rfl
    · have n40 : Nat.beq a 40 = false := nbf (by omega)
      have n41 : Nat.beq a 41 = false := nbf (by omega)
      have nr : inR 40 41 a = false := inR_f q
      simp only [PI, uH, clr, n40, n41, nr, Bool.false_and, cond_false]
  have ea : upA (upA al 40) 41 = PA (inR 40 41) al := by
    funext a
    by_cases q : 40 ≤ a ∧ a ≤ 41
    · have q2 : a = 40 ∨ a = 41 := by omega
      rcases q2 with rfl | rfl <;> rfl
    · have n40 : Nat.beq a 40 = false := nbf (by omega)
      have n41 : Nat.beq a 41 = false := nbf (by omega)
      have nr : inR 40 41 a = false := inR_f q
      simp only [PA, upA, n40, n41, nr, cond_false]
  rw [← e, ← ea] at hK
  refine cof ocTe_init rfl (XW_t4 [] 80 okTe_init ?_)
  refine ⟨41, rfl, hal 41 (by decide) (by decide), rfl, ?_⟩
  exact hK
theorem c_iDr (hal : ∀ a, 50 ≤ a → a ≤ 53 → al a = false) (hK : K none (PI (inR 50 53) h) (PA (inR 50 53) al)) : Call g (d + 1) yDr_init [xr 50] (clr h 50) (upA al 50) K := by
  have e : uH (clr (uH (clr (uH (clr (clr h 50) 51) 50 0 (51)) 52) 50 1 (52)) 53) 50 2 (53) = PI (inR 50 53) h := by
    funext a k
    by_cases q : 50 ≤ a ∧ a ≤ 53
    · have q2 : a = 50 ∨ a = 51 ∨ a = 52 ∨ a = 53 := by omega
      rcases q2 with rfl | rfl | rfl | rfl
      · match k with
        | 0 => rfl
        | 1 => rfl
        | 2 => rfl
        | 3 => rfl
        | 4 => rfl
        | 5 => rfl
        | 6 => rfl
        | k + 7 => rfl
      · rfl
      · rfl
      · rfl
    · have n50 : Nat.beq a 50 = false := nbf (by omega)
      have n51 : Nat.beq a 51 = false := nbf (by omega)
      have n52 : Nat.beq a 52 = false := nbf (by omega)
      have n53 : Nat.beq a 53 = false := nbf (by omega)
      have nr : inR 50 53 a = false := inR_f q
      simp only [PI, uH, clr, n50, n51, n52, n53, nr, Bool.false_and, cond_false]
  have ea : upA (upA (upA (upA al 50) 51) 52) 53 = PA (inR 50 53) al := by
    funext a
    by_cases q : 50 ≤ a ∧ a ≤ 53
    · have q2 : a = 50 ∨ a = 51 ∨ a = 52 ∨ a = 53 := by omega
      rcases q2 with rfl | rfl | rfl | rfl <;> rfl
    · have n50 : Nat.beq a 50 = false := nbf (by omega)
      have n51 : Nat.beq a 51 = false := nbf (by omega)
      have n52 : Nat.beq a 52 = false := nbf (by omega)
      have n53 : Nat.beq a 53 = false := nbf (by omega)
      have nr : inR 50 53 a = false := inR_f q
      simp only [PA, upA, n50, n51, n52, n53, nr, cond_false]
  rw [← e, ← ea] at hK
  refine cof ocDr_init rfl (XW_t4 [] 80 okDr_init ?_)
  refine ⟨51, rfl, hal 51 (by decide) (by decide), rfl, ?_⟩
  refine ⟨52, rfl, hal 52 (by decide) (by decide), rfl, ?_⟩
  refine ⟨53, rfl, hal 53 (by decide) (by decide), rfl, ?_⟩
  exact hK
theorem c_iAc (hal : ∀ a, 60 ≤ a → a ≤ 61 → al a = false) (hK : K none (PI (inR 60 61) h) (PA (inR 60 61) al)) : Call g (d + 1) yAc_init [xr 60] (clr h 60) (upA al 60) K := by
  have e : uH (clr (clr h 60) 61) 60 0 (61) = PI (inR 60 61) h := by
    funext a k
    by_cases q : 60 ≤ a ∧ a ≤ 61
    · have q2 : a = 60 ∨ a = 61 := by omega
      rcases q2 with rfl | rfl
      · match k with
        | 0 => rfl
        | 1 => rfl
        | 2 => rfl
        | 3 => rfl
        | 4 => rfl
        | k + 5 => rfl
      · rfl
    · have n60 : Nat.beq a 60 = false := nbf (by omega)
      have n61 : Nat.beq a 61 = false := nbf (by omega)
      have nr : inR 60 61 a = false := inR_f q
      simp only [PI, uH, clr, n60, n61, nr, Bool.false_and, cond_false]
  have ea : upA (upA al 60) 61 = PA (inR 60 61) al := by
    funext a
    by_cases q : 60 ≤ a ∧ a ≤ 61
    · have q2 : a = 60 ∨ a = 61 := by omega
      rcases q2 with rfl | rfl <;> rfl
    · have n60 : Nat.beq a 60 = false := nbf (by omega)
      have n61 : Nat.beq a 61 = false := nbf (by omega)
      have nr : inR 60 61 a = false := inR_f q
      simp only [PA, upA, n60, n61, nr, cond_false]
  rw [← e, ← ea] at hK
  refine cof ocAc_init rfl (XW_t4 [] 80 okAc_init ?_)
  refine ⟨61, rfl, hal 61 (by decide) (by decide), rfl, ?_⟩
  exact hK
theorem c_iWo10 (hal : ∀ a, 10 ≤ a → a ≤ 15 → al a = false) (hK : K none (PI (inR 10 15) h) (PA (inR 10 15) al)) : Call g (d + 2) yWo_init [xr 10] (clr h 10) (upA al 10) K := by
  have e : ∀ f : Nat → Int, (∀ k, k < 6 → f k = -5) → (∀ k, 6 ≤ k → f k = 0) → rowU (uH (uH (uH (uH (clr (uH (clr (uH (clr (uH (clr (uH (clr (clr h 10) 11) 10 0 (11)) 12) 10 1 (12)) 13) 10 2 (13)) 14) 10 3 (14)) 15) 10 4 (15)) 10 7 (9)) 10 8 (9)) 10 10 (-1)) 12 f = PI (inR 10 15) h := by
    intro f f1 f2
    funext a k
    by_cases q : 10 ≤ a ∧ a ≤ 15
    · have q2 : a = 10 ∨ a = 11 ∨ a = 12 ∨ a = 13 ∨ a = 14 ∨ a = 15 := by omega
      rcases q2 with rfl | rfl | rfl | rfl | rfl | rfl
      · match k with
        | 0 => rfl
        | 1 => rfl
        | 2 => rfl
        | 3 => rfl
        | 4 => rfl
        | 5 => rfl
        | 6 => rfl
        | 7 => rfl
        | 8 => rfl
        | 9 => rfl
        | 10 => rfl
        | k + 11 => rfl
      · rfl
      · rw [rowU_at]
        match k with
        | 0 => exact f1 0 (by decide)
        | 1 => exact f1 1 (by decide)
        | 2 => exact f1 2 (by decide)
        | 3 => exact f1 3 (by decide)
        | 4 => exact f1 4 (by decide)
        | 5 => exact f1 5 (by decide)
        | k + 6 => exact f2 (k + 6) (by omega)
      · rfl
      · rfl
      · rfl
    · have n10 : Nat.beq a 10 = false := nbf (by omega)
      have n11 : Nat.beq a 11 = false := nbf (by omega)
      have n12 : Nat.beq a 12 = false := nbf (by omega)
      have n13 : Nat.beq a 13 = false := nbf (by omega)
      have n14 : Nat.beq a 14 = false := nbf (by omega)
      have n15 : Nat.beq a 15 = false := nbf (by omega)
      have nr : inR 10 15 a = false := inR_f q
      simp only [PI, rowU, uH, clr, n10, n11, n12, n13, n14, n15, nr, Bool.false_and, cond_false]
  have ea : upA (upA (upA (upA (upA (upA al 10) 11) 12) 13) 14) 15 = PA (inR 10 15) al := by
    funext a
    by_cases q : 10 ≤ a ∧ a ≤ 15
    · have q2 : a = 10 ∨ a = 11 ∨ a = 12 ∨ a = 13 ∨ a = 14 ∨ a = 15 := by omega
      rcases q2 with rfl | rfl | rfl | rfl | rfl | rfl <;> rfl
    · have n10 : Nat.beq a 10 = false := nbf (by omega)
      have n11 : Nat.beq a 11 = false := nbf (by omega)
      have n12 : Nat.beq a 12 = false := nbf (by omega)
      have n13 : Nat.beq a 13 = false := nbf (by omega)
      have n14 : Nat.beq a 14 = false := nbf (by omega)
      have n15 : Nat.beq a 15 = false := nbf (by omega)
      have nr : inR 10 15 a = false := inR_f q
      simp only [PA, upA, n10, n11, n12, n13, n14, n15, nr, cond_false]
  refine cof ocWo_init rfl (XW_t4 [] 80 okWo_init ?_)
  refine ⟨11, rfl, hal 11 (by decide) (by decide), rfl, ?_⟩
  refine ⟨12, rfl, hal 12 (by decide) (by decide), rfl, ?_⟩
  refine ⟨13, rfl, hal 13 (by decide) (by decide), rfl, ?_⟩
  refine ⟨14, rfl, hal 14 (by decide) (by decide), rfl, ?_⟩
  refine ⟨15, rfl, hal 15 (by decide) (by decide), rfl, ?_⟩
  refine c_fillI (q := 12) rfl (by show 6 < 100000; decide) fun f f1 f2 => ?_
  rw [← e f f1 (fun k hk => f2 k hk), ← ea] at hK
  exact hK
theorem c_iWo20 (hal : ∀ a, 20 ≤ a → a ≤ 25 → al a = false) (hK : K none (PI (inR 20 25) h) (PA (inR 20 25) al)) : Call g (d + 2) yWo_init [xr 20] (clr h 20) (upA al 20) K := by
  have e : ∀ f : Nat → Int, (∀ k, k < 6 → f k = -5) → (∀ k, 6 ≤ k → f k = 0) → rowU (uH (uH (uH (uH (clr (uH (clr (uH (clr (uH (clr (uH (clr (clr h 20) 21) 20 0 (21)) 22) 20 1 (22)) 23) 20 2 (23)) 24) 20 3 (24)) 25) 20 4 (25)) 20 7 (9)) 20 8 (9)) 20 10 (-1)) 22 f = PI (inR 20 25) h := by
    intro f f1 f2
    funext a k
    by_cases q : 20 ≤ a ∧ a ≤ 25
    · have q2 : a = 20 ∨ a = 21 ∨ a = 22 ∨ a = 23 ∨ a = 24 ∨ a = 25 := by omega
      rcases q2 with rfl | rfl | rfl | rfl | rfl | rfl
      · match k with
        | 0 => rfl
        | 1 => rfl
        | 2 => rfl
        | 3 => rfl
        | 4 => rfl
        | 5 => rfl
        | 6 => rfl
        | 7 => rfl
        | 8 => rfl
        | 9 => rfl
        | 10 => rfl
        | k + 11 => rfl
      · rfl
      · rw [rowU_at]
        match k with
        | 0 => exact f1 0 (by decide)
        | 1 => exact f1 1 (by decide)
        | 2 => exact f1 2 (by decide)
        | 3 => exact f1 3 (by decide)
        | 4 => exact f1 4 (by decide)
        | 5 => exact f1 5 (by decide)
        | k + 6 => exact f2 (k + 6) (by omega)
      · rfl
      · rfl
      · rfl
    · have n20 : Nat.beq a 20 = false := nbf (by omega)
      have n21 : Nat.beq a 21 = false := nbf (by omega)
      have n22 : Nat.beq a 22 = false := nbf (by omega)
      have n23 : Nat.beq a 23 = false := nbf (by omega)
      have n24 : Nat.beq a 24 = false := nbf (by omega)
      have n25 : Nat.beq a 25 = false := nbf (by omega)
      have nr : inR 20 25 a = false := inR_f q
      simp only [PI, rowU, uH, clr, n20, n21, n22, n23, n24, n25, nr, Bool.false_and, cond_false]
  have ea : upA (upA (upA (upA (upA (upA al 20) 21) 22) 23) 24) 25 = PA (inR 20 25) al := by
    funext a
    by_cases q : 20 ≤ a ∧ a ≤ 25
    · have q2 : a = 20 ∨ a = 21 ∨ a = 22 ∨ a = 23 ∨ a = 24 ∨ a = 25 := by omega
      rcases q2 with rfl | rfl | rfl | rfl | rfl | rfl <;> rfl
    · have n20 : Nat.beq a 20 = false := nbf (by omega)
      have n21 : Nat.beq a 21 = false := nbf (by omega)
      have n22 : Nat.beq a 22 = false := nbf (by omega)
      have n23 : Nat.beq a 23 = false := nbf (by omega)
      have n24 : Nat.beq a 24 = false := nbf (by omega)
      have n25 : Nat.beq a 25 = false := nbf (by omega)
      have nr : inR 20 25 a = false := inR_f q
      simp only [PA, upA, n20, n21, n22, n23, n24, n25, nr, cond_false]
  refine cof ocWo_init rfl (XW_t4 [] 80 okWo_init ?_)
  refine ⟨21, rfl, hal 21 (by decide) (by decide), rfl, ?_⟩
  refine ⟨22, rfl, hal 22 (by decide) (by decide), rfl, ?_⟩
  refine ⟨23, rfl, hal 23 (by decide) (by decide), rfl, ?_⟩
  refine ⟨24, rfl, hal 24 (by decide) (by decide), rfl, ?_⟩
  refine ⟨25, rfl, hal 25 (by decide) (by decide), rfl, ?_⟩
  refine c_fillI (q := 22) rfl (by show 6 < 100000; decide) fun f f1 f2 => ?_
  rw [← e f f1 (fun k hk => f2 k hk), ← ea] at hK
  exact hK
theorem c_iWo30 (hal : ∀ a, 30 ≤ a → a ≤ 35 → al a = false) (hK : K none (PI (inR 30 35) h) (PA (inR 30 35) al)) : Call g (d + 2) yWo_init [xr 30] (clr h 30) (upA al 30) K := by
  have e : ∀ f : Nat → Int, (∀ k, k < 6 → f k = -5) → (∀ k, 6 ≤ k → f k = 0) → rowU (uH (uH (uH (uH (clr (uH (clr (uH (clr (uH (clr (uH (clr (clr h 30) 31) 30 0 (31)) 32) 30 1 (32)) 33) 30 2 (33)) 34) 30 3 (34)) 35) 30 4 (35)) 30 7 (9)) 30 8 (9)) 30 10 (-1)) 32 f = PI (inR 30 35) h := by
    intro f f1 f2
    funext a k
    by_cases q : 30 ≤ a ∧ a ≤ 35
    · have q2 : a = 30 ∨ a = 31 ∨ a = 32 ∨ a = 33 ∨ a = 34 ∨ a = 35 := by omega
      rcases q2 with rfl | rfl | rfl | rfl | rfl | rfl
      · match k with
        | 0 => rfl
        | 1 => rfl
        | 2 => rfl
        | 3 => rfl
        | 4 => rfl
        | 5 => rfl
        | 6 => rfl
        | 7 => rfl
        | 8 => rfl
        | 9 => rfl
        | 10 => rfl
        | k + 11 => rfl
      · rfl
      · rw [rowU_at]
        match k with
        | 0 => exact f1 0 (by decide)
        | 1 => exact f1 1 (by decide)
        | 2 => exact f1 2 (by decide)
        | 3 => exact f1 3 (by decide)
        | 4 => exact f1 4 (by decide)
        | 5 => exact f1 5 (by decide)
        | k + 6 => exact f2 (k + 6) (by omega)
      · rfl
      · rfl
      · rfl
    · have n30 : Nat.beq a 30 = false := nbf (by omega)
      have n31 : Nat.beq a 31 = false := nbf (by omega)
      have n32 : Nat.beq a 32 = false := nbf (by omega)
      have n33 : Nat.beq a 33 = false := nbf (by omega)
      have n34 : Nat.beq a 34 = false := nbf (by omega)
      have n35 : Nat.beq a 35 = false := nbf (by omega)
      have nr : inR 30 35 a = false := inR_f q
      simp only [PI, rowU, uH, clr, n30, n31, n32, n33, n34, n35, nr, Bool.false_and, cond_false]
  have ea : upA (upA (upA (upA (upA (upA al 30) 31) 32) 33) 34) 35 = PA (inR 30 35) al := by
    funext a
    by_cases q : 30 ≤ a ∧ a ≤ 35
    · have q2 : a = 30 ∨ a = 31 ∨ a = 32 ∨ a = 33 ∨ a = 34 ∨ a = 35 := by omega
      rcases q2 with rfl | rfl | rfl | rfl | rfl | rfl <;> rfl
    · have n30 : Nat.beq a 30 = false := nbf (by omega)
      have n31 : Nat.beq a 31 = false := nbf (by omega)
      have n32 : Nat.beq a 32 = false := nbf (by omega)
      have n33 : Nat.beq a 33 = false := nbf (by omega)
      have n34 : Nat.beq a 34 = false := nbf (by omega)
      have n35 : Nat.beq a 35 = false := nbf (by omega)
      have nr : inR 30 35 a = false := inR_f q
      simp only [PA, upA, n30, n31, n32, n33, n34, n35, nr, cond_false]
  refine cof ocWo_init rfl (XW_t4 [] 80 okWo_init ?_)
  refine ⟨31, rfl, hal 31 (by decide) (by decide), rfl, ?_⟩
  refine ⟨32, rfl, hal 32 (by decide) (by decide), rfl, ?_⟩
  refine ⟨33, rfl, hal 33 (by decide) (by decide), rfl, ?_⟩
  refine ⟨34, rfl, hal 34 (by decide) (by decide), rfl, ?_⟩
  refine ⟨35, rfl, hal 35 (by decide) (by decide), rfl, ?_⟩
  refine c_fillI (q := 32) rfl (by show 6 < 100000; decide) fun f f1 f2 => ?_
  rw [← e f f1 (fun k hk => f2 k hk), ← ea] at hK
  exact hK
end IB
