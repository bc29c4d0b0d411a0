-- shift: the second loop
section Q27
variable {g : GC} {d : Nat} {h : HH} {al : AL} {K : KT}
set_option maxRecDepth 8000 in
theorem c_sh2 {b j n : Nat} {a i : Int} (hW : Wd h) (hb : b < 6) (hj : j + n ≤ 60) (hK : K (some (xi (n : Int))) (cpyH h 166 0 165 (60 * b + j) n) al) : ∀ r m : Nat, r + m = n → XW g d mMo_shift K 141 [some (xr 120), some (xi a), some (xi i), some (xi (b : Int)), some (xi (j : Int)), some (xi (n : Int)), some (xi (m : Int))] [] (cpyH h 166 0 165 (60 * b + j) m) al := by
  intro r
  induction r with
  | zero =>
    intro m hm
    have : m = n := by omega
    subst this
    refine XW_t4 [] 60 okMo_shift ?_
    refine ite_f (by omega) ?_
    exact hK
  | succ r ih =>
    intro m hm
    have key := ih (m + 1) (by omega)
    rw [← cpy_S (z := cpyH h 166 0 165 (60 * b + j) m 166 m) (by rw [cpy_if, if_neg (by omega), Nat.zero_add]), ← nS m (by omega)] at key
    obtain ⟨h1, e⟩ : Wd (cpyH h 166 0 165 (60 * b + j) m) := hW.of fun q k hk => by
      rw [cpy_if, if_neg]
      rintro ⟨rfl, -⟩
      exact hk (by show (-9 : Int) < 0; decide)
    rw [e] at key ⊢
    refine XW_t4 [141] 60 okMo_shift ?_
    refine ite_t (by omega) ?_
    refine ⟨m, rfl, by show m < 60; omega, _, rfl, ?_⟩
    refine ⟨60 * b + j + m, ix3 hb (by omega) (by omega), by show 60 * b + j + m < 360; omega, ?_⟩
    exact key
/-- where all is as it must be, the reference's part from pc 101 on -/
theorem c_sh {a i b j n : Nat} (hW : Wd h) (ha : a < 6) (hi : i + n ≤ 60) (hb : b < 6) (hj : j + n ≤ 60) (hK : K (some (xi (n : Int))) (cpyH (cpyH h 165 (60 * a + i) 166 0 n) 166 0 165 (60 * b + j) n) al) : XW g d mMo_shift K 104 [some (xr 120), some (xi (a : Int)), some (xi (i : Int)), some (xi (b : Int)), some (xi (j : Int)), some (xi (n : Int)), some (xi 0)] [] h al := by
  have w : ∀ q s t m : Nat, (q = 165 ∨ q = 166) → ∀ h2 : HH, Wd h2 → Wd (cpyH h2 s t q m n) := fun q s t m hq h2 hW2 => hW2.of fun q2 k hk => by
    rw [cpy_if, if_neg]
    rintro ⟨rfl, -⟩
    rcases hq with rfl | rfl <;> exact hk (by show (-9 : Int) < 0; decide)
  have z : ∀ (h2 : HH) (s t q p : Nat), cpyH h2 s t q p 0 = h2 := fun h2 s t q p => by
    funext q2 k
    rw [cpy_if, if_neg (by omega)]
  have two := c_sh2 (g := g) (d := d) (al := al) (K := K) (a := (a : Int)) (i := (i : Int)) (w 166 165 (60 * a + i) 0 (Or.inr rfl) h hW) hb hj hK n 0 (by omega)
  rw [z] at two
  have one := c_sh1 (g := g) (d := d) (al := al) (K := K) (j := (j : Int)) (b := (b : Int)) hW ha hi (by
    refine XW_t4 [141] 60 okMo_shift ?_
    exact two) n 0 (by omega)
  rw [z] at one
  exact one
end Q27
