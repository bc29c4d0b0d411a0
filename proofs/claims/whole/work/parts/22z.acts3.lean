-- acts: mends, leaves, tells
section Q22
variable {g : GC} {c : Nat} {n v : Int}
def acV (w c l : Nat) (x n v : Int) : Int := match w with
  | 0 => mVl l x n v
  | 1 => lVl c l x n v
  | _ => tVl c l x n v
def acB (w c l : Nat) : List Int := match w with
  | 0 => mB l
  | 1 => lBl c l
  | _ => tBl c l
theorem m_0 (hc : c < 7) (d dep : Nat) (x : Int) (hd : dep ≤ 30) : ActC g (d + 2) yAc_from [xr 60, xi 0, xi 0, xi x, xi (dep : Int)] c n v (mB 0) (mVl 0 x n v) := by
  exact fr_0_0 (d := d) hd (run_10 (d := d))
theorem m_1 (hc : c < 7) (d dep : Nat) (x : Int) (hd : dep ≤ 30) : ActC g (d + 2) yAc_from [xr 60, xi 1, xi 0, xi x, xi (dep : Int)] c n v (mB 1) (mVl 1 x n v) := by
  exact fr_1_0 (d := d) hd (run_10 (d := d))
theorem m_3 (hc : c < 7) (d dep : Nat) (x : Int) (hd : dep ≤ 30) : ActC g (d + 2) yAc_from [xr 60, xi 3, xi 0, xi x, xi (dep : Int)] c n v (mB 3) (mVl 3 x n v) := by
  exact fr_3_0 (d := d) hd (run_10 (d := d))
theorem m_5 (hc : c < 7) (d dep : Nat) (x : Int) (hd : dep ≤ 30) : ActC g (d + 2) yAc_from [xr 60, xi 5, xi 0, xi x, xi (dep : Int)] c n v (mB 5) (mVl 5 x n v) := by
  exact fr_5_0 (d := d) hd (run_10 (d := d))
theorem m_2 (hc : c < 7) (d dep : Nat) (x : Int) (hd : dep ≤ 28) : ActC g (d + 4) yAc_from [xr 60, xi 2, xi 0, xi x, xi (dep : Int)] c n v (mB 2) (mVl 2 x n v) := by
  exact fr_2_0 (d := d + 2) (by omega) (run_30 (d := d + 2) (m_0 hc d (dep + 1) _ (by omega)))
theorem m_4 (hc : c < 7) (d dep : Nat) (x : Int) (hd : dep ≤ 28) : ActC g (d + 4) yAc_from [xr 60, xi 4, xi 0, xi x, xi (dep : Int)] c n v (mB 4) (mVl 4 x n v) := by
  exact fr_4_0 (d := d + 2) (by omega) (run_50 (d := d + 2) (m_1 hc d (dep + 1) _ (by omega)))
theorem m_6 (hc : c < 7) (d dep : Nat) (x : Int) (hd : dep ≤ 26) : ActC g (d + 6) yAc_from [xr 60, xi 6, xi 0, xi x, xi (dep : Int)] c n v (mB 6) (mVl 6 x n v) := by
  exact fr_6_0 (d := d + 4) (by omega) (run_71 (d := d + 4) (m_2 hc d (dep + 1) _ (by omega)))
theorem m_all (hc : c < 7) (l : Nat) (hl : l < 7) (d dep : Nat) (x : Int) (hd : dep ≤ 26) : ActC g (d + 6) yAc_from [xr 60, xi (l : Int), xi 0, xi x, xi (dep : Int)] c n v (mB l) (mVl l x n v) := by
  have e : l = 0 ∨ l = 1 ∨ l = 2 ∨ l = 3 ∨ l = 4 ∨ l = 5 ∨ l = 6 := by omega
  rcases e with rfl | rfl | rfl | rfl | rfl | rfl | rfl
  · exact m_0 hc (d + 4) dep x (by omega)
  · exact m_1 hc (d + 4) dep x (by omega)
  · exact m_2 hc (d + 2) dep x (by omega)
  · exact m_3 hc (d + 4) dep x (by omega)
  · exact m_4 hc (d + 2) dep x (by omega)
  · exact m_5 hc (d + 4) dep x (by omega)
  · exact m_6 hc d dep x hd
theorem l_0 (hc : c < 7) (d dep : Nat) (x : Int) (hd : dep ≤ 24) : ActC g (d + 9) yAc_from [xr 60, xi 0, xi 1, xi x, xi (dep : Int)] c n v (lBl c 0) (lVl c 0 x n v) := by
  exact fr_0_1 (d := d + 7) (by omega) (run_11 (d := d + 7) (own_c (d := d + 6) (m_all hc c hc d (dep + 1) x (by omega))))
theorem l_2 (hc : c < 7) (d dep : Nat) (x : Int) (hd : dep ≤ 24) : ActC g (d + 9) yAc_from [xr 60, xi 2, xi 1, xi x, xi (dep : Int)] c n v (lBl c 2) (lVl c 2 x n v) := by
  exact fr_2_1 (d := d + 7) (by omega) (run_11 (d := d + 7) (own_c (d := d + 6) (m_all hc c hc d (dep + 1) x (by omega))))
theorem l_1 (hc : c < 7) (d dep : Nat) (x : Int) (hd : dep ≤ 22) : ActC g (d + 11) yAc_from [xr 60, xi 1, xi 1, xi x, xi (dep : Int)] c n v (lBl c 1) (lVl c 1 x n v) := by
  exact fr_1_1 (d := d + 9) (by omega) (run_20 (d := d + 9) (l_0 hc d (dep + 1) _ (by omega)))
theorem l_3 (hc : c < 7) (d dep : Nat) (x : Int) (hd : dep ≤ 22) : ActC g (d + 11) yAc_from [xr 60, xi 3, xi 1, xi x, xi (dep : Int)] c n v (lBl c 3) (lVl c 3 x n v) := by
  exact fr_3_1 (d := d + 9) (by omega) (run_20 (d := d + 9) (l_0 hc d (dep + 1) _ (by omega)))
theorem l_5 (hc : c < 7) (d dep : Nat) (x : Int) (hd : dep ≤ 22) : ActC g (d + 11) yAc_from [xr 60, xi 5, xi 1, xi x, xi (dep : Int)] c n v (lBl c 5) (lVl c 5 x n v) := by
  exact fr_5_1 (d := d + 9) (by omega) (run_20 (d := d + 9) (l_0 hc d (dep + 1) _ (by omega)))
theorem l_4 (hc : c < 7) (d dep : Nat) (x : Int) (hd : dep ≤ 20) : ActC g (d + 13) yAc_from [xr 60, xi 4, xi 1, xi x, xi (dep : Int)] c n v (lBl c 4) (lVl c 4 x n v) := by
  exact fr_4_1 (d := d + 11) (by omega) (run_51 (d := d + 11) (l_1 hc d (dep + 1) _ (by omega)))
theorem l_6 (hc : c < 7) (d dep : Nat) (x : Int) (hd : dep ≤ 20) : ActC g (d + 11) yAc_from [xr 60, xi 6, xi 1, xi x, xi (dep : Int)] c n v (lBl c 6) (lVl c 6 x n v) := by
  exact fr_6_1 (d := d + 9) (by omega) (run_70 (d := d + 9) (l_2 hc d (dep + 1) _ (by omega)) (m_2 hc (d + 5) (dep + 1) _ (by omega)))
theorem l_all (hc : c < 7) (l : Nat) (hl : l < 7) (d dep : Nat) (x : Int) (hd : dep ≤ 20) : ActC g (d + 13) yAc_from [xr 60, xi (l : Int), xi 1, xi x, xi (dep : Int)] c n v (lBl c l) (lVl c l x n v) := by
  have e : l = 0 ∨ l = 1 ∨ l = 2 ∨ l = 3 ∨ l = 4 ∨ l = 5 ∨ l = 6 := by omega
  rcases e with rfl | rfl | rfl | rfl | rfl | rfl | rfl
  · exact l_0 hc (d + 4) dep x (by omega)
  · exact l_1 hc (d + 2) dep x (by omega)
  · exact l_2 hc (d + 4) dep x (by omega)
  · exact l_3 hc (d + 2) dep x (by omega)
  · exact l_4 hc d dep x (by omega)
  · exact l_5 hc (d + 2) dep x (by omega)
  · exact l_6 hc (d + 2) dep x (by omega)
theorem t_0 (hc : c < 7) (d dep : Nat) (x : Int) (hd : dep ≤ 18) : ActC g (d + 16) yAc_from [xr 60, xi 0, xi 2, xi x, xi (dep : Int)] c n v (tBl c 0) (tVl c 0 x n v) := by
  exact fr_0_2 (d := d + 14) (by omega) (run_12 (d := d + 14) (own_c (d := d + 13) (l_all hc c hc d (dep + 1) x (by omega))))
theorem t_1 (hc : c < 7) (d dep : Nat) (x : Int) (hd : dep ≤ 18) : ActC g (d + 16) yAc_from [xr 60, xi 1, xi 2, xi x, xi (dep : Int)] c n v (tBl c 1) (tVl c 1 x n v) := by
  exact fr_1_2 (d := d + 14) (by omega) (run_12 (d := d + 14) (own_c (d := d + 13) (l_all hc c hc d (dep + 1) x (by omega))))
theorem t_2 (hc : c < 7) (d dep : Nat) (x : Int) (hd : dep ≤ 18) : ActC g (d + 16) yAc_from [xr 60, xi 2, xi 2, xi x, xi (dep : Int)] c n v (tBl c 2) (tVl c 2 x n v) := by
  exact fr_2_2 (d := d + 14) (by omega) (run_12 (d := d + 14) (own_c (d := d + 13) (l_all hc c hc d (dep + 1) x (by omega))))
theorem t_4 (hc : c < 7) (d dep : Nat) (x : Int) (hd : dep ≤ 18) : ActC g (d + 16) yAc_from [xr 60, xi 4, xi 2, xi x, xi (dep : Int)] c n v (tBl c 4) (tVl c 4 x n v) := by
  exact fr_4_2 (d := d + 14) (by omega) (run_12 (d := d + 14) (own_c (d := d + 13) (l_all hc c hc d (dep + 1) x (by omega))))
theorem t_6 (hc : c < 7) (d dep : Nat) (x : Int) (hd : dep ≤ 18) : ActC g (d + 16) yAc_from [xr 60, xi 6, xi 2, xi x, xi (dep : Int)] c n v (tBl c 6) (tVl c 6 x n v) := by
  exact fr_6_2 (d := d + 14) (by omega) (run_12 (d := d + 14) (own_c (d := d + 13) (l_all hc c hc d (dep + 1) x (by omega))))
theorem t_3 (hc : c < 7) (d dep : Nat) (x : Int) (hd : dep ≤ 16) : ActC g (d + 18) yAc_from [xr 60, xi 3, xi 2, xi x, xi (dep : Int)] c n v (tBl c 3) (tVl c 3 x n v) := by
  exact fr_3_2 (d := d + 16) (by omega) (run_40 (d := d + 16) (t_1 hc d (dep + 1) _ (by omega)) (own_c (d := d + 15) (l_all hc c hc (d + 2) (dep + 1) 1 (by omega))))
theorem t_5 (hc : c < 7) (d dep : Nat) (x : Int) (hd : dep ≤ 16) : ActC g (d + 18) yAc_from [xr 60, xi 5, xi 2, xi x, xi (dep : Int)] c n v (tBl c 5) (tVl c 5 x n v) := by
  exact fr_5_2 (d := d + 16) (by omega) (run_60 (d := d + 16) (t_1 hc d (dep + 1) _ (by omega)))
theorem t_all (hc : c < 7) (l : Nat) (hl : l < 7) (d dep : Nat) (x : Int) (hd : dep ≤ 16) : ActC g (d + 18) yAc_from [xr 60, xi (l : Int), xi 2, xi x, xi (dep : Int)] c n v (tBl c l) (tVl c l x n v) := by
  have e : l = 0 ∨ l = 1 ∨ l = 2 ∨ l = 3 ∨ l = 4 ∨ l = 5 ∨ l = 6 := by omega
  rcases e with rfl | rfl | rfl | rfl | rfl | rfl | rfl
  · exact t_0 hc (d + 2) dep x (by omega)
  · exact t_1 hc (d + 2) dep x (by omega)
  · exact t_2 hc (d + 2) dep x (by omega)
  · exact t_3 hc d dep x (by omega)
  · exact t_4 hc (d + 2) dep x (by omega)
  · exact t_5 hc d dep x (by omega)
  · exact t_6 hc (d + 2) dep x (by omega)
theorem ac_all (hc : c < 7) (w : Nat) (hw : w < 3) (d : Nat) (x : Int) : ActC g (d + 18) yAc_from [xr 60, xi (c : Int), xi (w : Int), xi x, xi 0] c n v (acB w c c) (acV w c c x n v) := by
  have e : w = 0 ∨ w = 1 ∨ w = 2 := by omega
  rcases e with rfl | rfl | rfl
  · exact m_all hc c hc (d + 12) 0 x (by omega)
  · exact l_all hc c hc (d + 5) 0 x (by omega)
  · exact t_all hc c hc d 0 x (by omega)
end Q22
