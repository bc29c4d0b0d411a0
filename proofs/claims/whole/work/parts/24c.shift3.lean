-- shift: the class's parts
section Q28
variable {g : GC} {d : Nat} {h : HH} {al : AL} {K : KT}
theorem c_holdsS {tn : Nat} {i n : Int} (ht : tn < 6) (hb : (-2147483648 ≤ i ∧ i < 2147483648) ∧ (-2147483648 ≤ n ∧ n < 2147483648)) (h1 : 0 ≤ i ∧ 0 ≤ n ∧ i + n ≤ h (66 + 2 * tn) 2 → K (some (xi 1)) h al) (h2 : ¬ (0 ≤ i ∧ 0 ≤ n ∧ i + n ≤ h (66 + 2 * tn) 2) → K (some (xi 0)) h al) : Call g (d + 1) yTa_holds [xr (Int.ofNat (66 + 2 * tn)), xi i, xi n] h al K := by
  have e : tn = 0 ∨ tn = 1 ∨ tn = 2 ∨ tn = 3 ∨ tn = 4 ∨ tn = 5 := by omega
  rcases e with rfl | rfl | rfl | rfl | rfl | rfl
  · exact c_holds0 hb h1 h2
  · exact c_holds1 hb h1 h2
  · exact c_holds2 hb h1 h2
  · exact c_holds3 hb h1 h2
  · exact c_holds4 hb h1 h2
  · exact c_holds5 hb h1 h2
theorem c_shC {a b i j n : Nat} (hW : Wd h) (ha : a < 6) (hb : b < 6) (hi : i + n ≤ 60) (hj : j + n ≤ 60) (hK : K (some (xi (n : Int))) (cpyH h (67 + 2 * a) i (67 + 2 * b) j n) al) : XW g d mBy_shift K 87 [some (xr 0), some (xi (a : Int)), some (xi (i : Int)), some (xi (b : Int)), some (xi (j : Int)), some (xi (n : Int)), some (xr (Int.ofNat (66 + 2 * a))), some (xr (Int.ofNat (66 + 2 * b)))] [] h al := by
  obtain ⟨h0, rfl⟩ := id hW
  have e : a = 0 ∨ a = 1 ∨ a = 2 ∨ a = 3 ∨ a = 4 ∨ a = 5 := by omega
  have e2 : b = 0 ∨ b = 1 ∨ b = 2 ∨ b = 3 ∨ b = 4 ∨ b = 5 := by omega
  rcases e with rfl | rfl | rfl | rfl | rfl | rfl <;> rcases e2 with rfl | rfl | rfl | rfl | rfl | rfl <;>
    refine XW_t4 [] 60 okBy_shift ⟨⟨by omega, by omega, by omega, (show (i : Int) + (n : Int) ≤ (60 : Int) by omega), (show (j : Int) + (n : Int) ≤ (60 : Int) by omega)⟩, ?_⟩ <;> exact hK
end Q28
