-- first contracts
theorem c_By_within {g : GC} {d : Nat} {n a b : Int} {h : HH} {al : AL} {K : Option XV → HH → AL → Prop} (hK : K (some (xi (if a ≤ n ∧ n ≤ b then 1 else 0))) h al) : Call g (d + 1) yBy_within [xi n, xi a, xi b] h al K := by
  refine cof ocBy_within rfl ?_
  refine XW_run 3 okBy_within ?_
  refine ite_i (fun h1 => ?_) (fun h1 => ?_)
  · rw [if_neg (by omega)] at hK
    refine XW_run 2 okBy_within ?_
    exact ⟨Or.inl rfl, hK⟩
  · refine XW_run 3 okBy_within ?_
    refine ite_i (fun h2 => ?_) (fun h2 => ?_)
    · rw [if_neg (by omega)] at hK
      refine XW_run 2 okBy_within ?_
      exact ⟨Or.inl rfl, hK⟩
    · rw [if_pos (by omega)] at hK
      refine XW_run 3 okBy_within ?_
      exact ⟨Or.inr rfl, hK⟩
