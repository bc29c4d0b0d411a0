-- shift: the reference's two loops
theorem cpy_if {h : HH} {A B s t m a k : Nat} : cpyH h A s B t m a k = if a = B ∧ t ≤ k ∧ k < t + m then h A (s + (k - t)) else h a k := by
  unfold cpyH
  simp only [Bool.cond_eq_ite, Bool.and_eq_true, Nat.beq_eq, Nat.ble_eq, Nat.blt]
  rfl
theorem uH_if {h : HH} {A B a k : Nat} {z : Int} : uH h A B z a k = if a = A ∧ k = B then z else h a k := by
  unfold uH
  simp only [Bool.cond_eq_ite, Bool.and_eq_true, Nat.beq_eq]
theorem cpy_S {h : HH} {A B s t m : Nat} {z : Int} (hz : z = h A (s + m)) : uH (cpyH h A s B t m) B (t + m) z = cpyH h A s B t (m + 1) := by
  funext q k
  rw [uH_if, cpy_if, cpy_if]
  by_cases e1 : q = B ∧ k = t + m
  · obtain ⟨rfl, rfl⟩ := e1
    rw [if_pos ⟨rfl, rfl⟩, if_pos ⟨rfl, by omega, by omega⟩, hz]
    congr 1
    omega
  · rw [if_neg e1]
    by_cases e2 : q = B ∧ t ≤ k ∧ k < t + m
    · rw [if_pos e2, if_pos ⟨e2.1, e2.2.1, by omega⟩]
    · rw [if_neg e2, if_neg (by omega)]
theorem ix3 {a i m : Nat} (ha : a < 6) (hi : i ≤ 60) (hm : m ≤ 60) : wI (wI (wI (60 * (a : Int)) + (i : Int)) + (m : Int)) = ((60 * a + i + m : Nat) : Int) := by
  rw [wI_id (z := 60 * (a : Int)) (by omega), wI_id (z := 60 * (a : Int) + (i : Int)) (by omega), wI_id (by omega)]
  omega
section Q26
variable {g : GC} {d : Nat} {h : HH} {al : AL} {K : KT}
set_option maxRecDepth 8000 in
theorem c_sh1 {a i n : Nat} {j b : Int} (hW : Wd h) (ha : a < 6) (hi : i + n ≤ 60) (hK : XW g d mMo_shift K 138 [some (xr 120), some (xi (a : Int)), some (xi (i : Int)), some (xi b), some (xi j), some (xi (n : Int)), some (xi (n : Int))] [] (cpyH h 165 (60 * a + i) 166 0 n) al) : ∀ r m : Nat, r + m = n → XW g d mMo_shift K 104 [some (xr 120), some (xi (a : Int)), some (xi (i : Int)), some (xi b), some (xi j), some (xi (n : Int)), some (xi (m : Int))] [] (cpyH h 165 (60 * a + i) 166 0 m) al := by
  intro r
  induction r with
  | zero =>
    intro m hm
    have : m = n := by omega
    subst this
    refine XW_t4 [138] 60 okMo_shift ?_
    refine ite_f (by omega) ?_
    exact hK
  | succ r ih =>
    intro m hm
    have key := ih (m + 1) (by omega)
    rw [← cpy_S (z := cpyH h 165 (60 * a + i) 166 0 m 165 (60 * a + i + m)) (by rw [cpy_if, if_neg (by omega)]), ← nS m (by omega), Nat.zero_add] at key
    obtain ⟨h1, e⟩ : Wd (cpyH h 165 (60 * a + i) 166 0 m) := hW.of fun q k hk => by
      rw [cpy_if, if_neg]
      rintro ⟨rfl, -⟩
      exact hk (by show (-9 : Int) < 0; decide)
    rw [e] at key ⊢
    refine XW_t4 [104] 60 okMo_shift ?_
    refine ite_t (by omega) ?_
    refine ⟨60 * a + i + m, ix3 ha (by omega) (by omega), by show 60 * a + i + m < 360; omega, _, rfl, ?_⟩
    refine ⟨m, rfl, by show m < 60; omega, ?_⟩
    exact key
end Q26
