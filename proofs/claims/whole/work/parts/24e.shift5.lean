-- shift: both sides
section Q30
variable {g : GC} {d : Nat} {h h2 : HH} {al : AL} {K : KT}
theorem SP.mk {h : HH} (f : ∀ t : Nat, t < 6 → (h (66 + 2 * t) 1 = h 163 t ∧ -1 ≤ h 163 t ∧ h 163 t ≤ 4) ∧ (h (66 + 2 * t) 2 = h 164 t ∧ 0 ≤ h 164 t ∧ h 164 t ≤ 60 ∧ (h 163 t < 0 → h 164 t = 0)) ∧ ∀ i : Nat, i < 60 → h (67 + 2 * t) i = h 165 (60 * t + i)) : SP h := by
  intro t ht
  obtain ⟨h1, h2, h3⟩ := f t ht
  have e : ∀ a k, (66 ≤ a ∧ a ≤ 77) ∨ (163 ≤ a ∧ a ≤ 165) → rs tP h a k = h a k := fun a k q => rs_in (tP_in q)
  rw [e _ _ (by omega), e _ _ (by omega)]
  rw [e _ _ (by omega), e _ _ (by omega)]
  refine ⟨h1, h2, fun i hi => ?_⟩
  rw [e _ _ (by omega), e _ _ (by omega)]
  exact h3 i hi
theorem Sim.shift {a b i j n : Nat} (hS : Sim h al) (ha : a < 6) (hb : b < 6) (hi : i + n ≤ 60) (hj : j + n ≤ 60) : Sim (cpyH (cpyH (cpyH h (67 + 2 * a) i (67 + 2 * b) j n) 165 (60 * a + i) 166 0 n) 166 0 165 (60 * b + j) n) al := by
  have f : ∀ q k, ¬ (q = 67 + 2 * b ∨ q = 165 ∨ q = 166) → cpyH (cpyH (cpyH h (67 + 2 * a) i (67 + 2 * b) j n) 165 (60 * a + i) 166 0 n) 166 0 165 (60 * b + j) n q k = h q k := fun q k hq => by
    rw [cpy_if, if_neg (by omega), cpy_if, if_neg (by omega), cpy_if, if_neg (by omega)]
  have hP := hS.2.2.2.2.2.1
  have sp : SP (cpyH (cpyH (cpyH h (67 + 2 * a) i (67 + 2 * b) j n) 165 (60 * a + i) 166 0 n) 166 0 165 (60 * b + j) n) := SP.mk fun t ht => by
    obtain ⟨p1, p2, p3⟩ := hP.at ht
    rw [f (66 + 2 * t) 1 (by omega), f (66 + 2 * t) 2 (by omega), f 163 t (by omega), f 164 t (by omega)]
    refine ⟨p1, p2, fun k hk => ?_⟩
    have l : cpyH (cpyH (cpyH h (67 + 2 * a) i (67 + 2 * b) j n) 165 (60 * a + i) 166 0 n) 166 0 165 (60 * b + j) n (67 + 2 * t) k = if 67 + 2 * t = 67 + 2 * b ∧ j ≤ k ∧ k < j + n then h (67 + 2 * a) (i + (k - j)) else h (67 + 2 * t) k := by
      rw [cpy_if, if_neg (by omega), cpy_if, if_neg (by omega), cpy_if]
    have r : cpyH (cpyH (cpyH h (67 + 2 * a) i (67 + 2 * b) j n) 165 (60 * a + i) 166 0 n) 166 0 165 (60 * b + j) n 165 (60 * t + k) = if 60 * b + j ≤ 60 * t + k ∧ 60 * t + k < 60 * b + j + n then h 165 (60 * a + i + (60 * t + k - (60 * b + j))) else h 165 (60 * t + k) := by
      rw [cpy_if]
      by_cases e : 60 * b + j ≤ 60 * t + k ∧ 60 * t + k < 60 * b + j + n
      · rw [if_pos ⟨rfl, e⟩, if_pos e, Nat.zero_add, cpy_if, if_pos ⟨rfl, by omega, by omega⟩, cpy_if, if_neg (by omega), Nat.sub_zero]
      · rw [if_neg (fun q => e q.2), if_neg e, cpy_if, if_neg (by omega), cpy_if, if_neg (by omega)]
    rw [l, r]
    by_cases e : 60 * b + j ≤ 60 * t + k ∧ 60 * t + k < 60 * b + j + n
    · have et : t = b := by omega
      subst et
      rw [if_pos e, if_pos ⟨rfl, by omega, by omega⟩, (hP.at ha).2.2 _ (by omega)]
      congr 1
      omega
    · rw [if_neg e, if_neg (by omega)]
      exact p3 k hk
  have hW2 : Wd (cpyH (cpyH (cpyH h (67 + 2 * a) i (67 + 2 * b) j n) 165 (60 * a + i) 166 0 n) 166 0 165 (60 * b + j) n) := hS.1.of fun q k hk => f q k (by
    intro hq
    have e2 : b = 0 ∨ b = 1 ∨ b = 2 ∨ b = 3 ∨ b = 4 ∨ b = 5 := by omega
    rcases hq with rfl | rfl | rfl
    · rcases e2 with rfl | rfl | rfl | rfl | rfl | rfl <;> exact hk (by show (-9 : Int) < 0; decide)
    · exact hk (by show (-9 : Int) < 0; decide)
    · exact hk (by show (-9 : Int) < 0; decide))
  refine hS.mk2 hW2 (Or.inr fun a k hk => f a k ?_) (Or.inr fun a k hk => f a k ?_) (Or.inr ⟨fun a k hk => f a k ?_, fun _ _ _ => rfl⟩) (Or.inr fun a k hk => f a k ?_) (Or.inl sp) (Or.inr fun a k hk => f a k ?_) (fun a k hk => f a k ?_) (Or.inr ⟨fun a k hk => f a k ?_, fun _ _ => rfl⟩)
  · unfold pN at hk; omega
  · unfold pI at hk; omega
  · unfold pH at hk; omega
  · unfold pT at hk; omega
  · unfold pC at hk; omega
  · unfold pK at hk; omega
  · unfold pV at hk; omega
end Q30
