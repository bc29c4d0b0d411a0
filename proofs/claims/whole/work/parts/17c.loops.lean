-- small loops over a world
theorem nS (k : Nat) (hk : k < 1000000) : wI ((k : Int) + 1) = ((k + 1 : Nat) : Int) := by rw [wI_id (by omega)]; omega
section W1
variable {g : GC} {d : Nat} {h : HH} {al : AL} {K : KT}
theorem c_whose_n {n : Int} (hW : Wd h) (ht : ∀ p : Nat, p < 6 → h 12 p = n → (∀ q : Nat, q < p → h 12 q ≠ n) → K (some (xi p)) h al) (hf : (∀ p : Nat, p < 6 → h 12 p ≠ n) → K (some (xi (-5))) h al) : Call g (d + 1) yWo_whose [xr 10, xi n] h al K := by
  obtain ⟨h, rfl⟩ := hW
  have loop : ∀ m k : Nat, k + m = 6 → (∀ q : Nat, q < k → wr h 12 q ≠ n) → XW g d mWo_whose K 2 [some (xr 10), some (xi n), some (xi (k : Int))] [] (wr h) al := by
    intro m
    induction m with
    | zero =>
      intro k hk hq
      refine XW_to [2] 40 okWo_whose ?_
      refine ite_f (by omega) (hf fun p hp => hq p (by omega))
    | succ m ih =>
      intro k hk hq
      refine XW_to [2] 40 okWo_whose ?_
      refine ite_t (by omega) ?_
      refine ⟨⟨by omega, by show (k : Int) < 6; omega⟩, ?_⟩
      refine ite_i (fun e => ht k (by omega) e hq) (fun e => ?_)
      have := ih (k + 1) (by omega) fun q hq2 => by
        by_cases e2 : q = k
        · rw [e2]; exact e
        · exact hq q (by omega)
      rw [← nS k (by omega)] at this
      exact this
  exact cof ocWo_whose rfl (XW_to [2] 30 okWo_whose (loop 6 0 rfl fun q hq => absurd hq (by omega)))
theorem c_inLot_n {n : Int} (hW : Wd h) (hl : 0 ≤ h 10 5 ∧ h 10 5 ≤ 6) (ht : (∃ p : Nat, p < 6 ∧ (p : Int) < h 10 5 ∧ h 14 p = n) → K (some (xi 1)) h al) (hf : (∀ p : Nat, p < 6 → (p : Int) < h 10 5 → h 14 p ≠ n) → K (some (xi 0)) h al) : Call g (d + 1) yWo_inLot [xr 10, xi n] h al K := by
  obtain ⟨h, rfl⟩ := hW
  have loop : ∀ m k : Nat, k + m = 6 → (∀ q : Nat, q < k → (q : Int) < wr h 10 5 → wr h 14 q ≠ n) → XW g d mWo_inLot K 2 [some (xr 10), some (xi n), some (xi (k : Int))] [] (wr h) al := by
    intro m
    induction m with
    | zero =>
      intro k hk hq
      refine XW_to [2] 40 okWo_inLot ?_
      refine ite_f (show ¬ (k : Int) < wr h 10 5 by omega) ?_
      exact ⟨Or.inl rfl, hf fun p hp => hq p (by omega)⟩
    | succ m ih =>
      intro k hk hq
      refine XW_to [2] 40 okWo_inLot ?_
      refine ite_i (fun h1 => ?_) (fun h1 => ?_)
      · simp only [] at h1
        refine ite_t (by omega) ?_
        refine ⟨⟨by omega, by show (k : Int) < 6; omega⟩, ?_⟩
        refine ite_i (fun e => ⟨Or.inr rfl, ht ⟨k, by omega, h1, e⟩⟩) (fun e => ?_)
        have := ih (k + 1) (by omega) fun q hq2 hq3 => by
          by_cases e2 : q = k
          · rw [e2]; exact e
          · exact hq q (by omega) hq3
        rw [← nS k (by omega)] at this
        exact this
      · simp only [] at h1
        exact ⟨Or.inl rfl, hf fun p hp hp2 => hq p (by omega) hp2⟩
  exact cof ocWo_inLot rfl (XW_to [2] 30 okWo_inLot (loop 6 0 rfl fun q hq => absurd hq (by omega)))
theorem c_whose_a {n : Int} (hW : Wd h) (ht : ∀ p : Nat, p < 6 → h 22 p = n → (∀ q : Nat, q < p → h 22 q ≠ n) → K (some (xi p)) h al) (hf : (∀ p : Nat, p < 6 → h 22 p ≠ n) → K (some (xi (-5))) h al) : Call g (d + 1) yWo_whose [xr 20, xi n] h al K := by
  obtain ⟨h, rfl⟩ := hW
  have loop : ∀ m k : Nat, k + m = 6 → (∀ q : Nat, q < k → wr h 22 q ≠ n) → XW g d mWo_whose K 2 [some (xr 20), some (xi n), some (xi (k : Int))] [] (wr h) al := by
    intro m
    induction m with
    | zero =>
      intro k hk hq
      refine XW_to [2] 40 okWo_whose ?_
      refine ite_f (by omega) (hf fun p hp => hq p (by omega))
    | succ m ih =>
      intro k hk hq
      refine XW_to [2] 40 okWo_whose ?_
      refine ite_t (by omega) ?_
      refine ⟨⟨by omega, by show (k : Int) < 6; omega⟩, ?_⟩
      refine ite_i (fun e => ht k (by omega) e hq) (fun e => ?_)
      have := ih (k + 1) (by omega) fun q hq2 => by
        by_cases e2 : q = k
        · rw [e2]; exact e
        · exact hq q (by omega)
      rw [← nS k (by omega)] at this
      exact this
  exact cof ocWo_whose rfl (XW_to [2] 30 okWo_whose (loop 6 0 rfl fun q hq => absurd hq (by omega)))
theorem c_inLot_a {n : Int} (hW : Wd h) (hl : 0 ≤ h 20 5 ∧ h 20 5 ≤ 6) (ht : (∃ p : Nat, p < 6 ∧ (p : Int) < h 20 5 ∧ h 24 p = n) → K (some (xi 1)) h al) (hf : (∀ p : Nat, p < 6 → (p : Int) < h 20 5 → h 24 p ≠ n) → K (some (xi 0)) h al) : Call g (d + 1) yWo_inLot [xr 20, xi n] h al K := by
  obtain ⟨h, rfl⟩ := hW
  have loop : ∀ m k : Nat, k + m = 6 → (∀ q : Nat, q < k → (q : Int) < wr h 20 5 → wr h 24 q ≠ n) → XW g d mWo_inLot K 2 [some (xr 20), some (xi n), some (xi (k : Int))] [] (wr h) al := by
    intro m
    induction m with
    | zero =>
      intro k hk hq
      refine XW_to [2] 40 okWo_inLot ?_
      refine ite_f (show ¬ (k : Int) < wr h 20 5 by omega) ?_
      exact ⟨Or.inl rfl, hf fun p hp => hq p (by omega)⟩
    | succ m ih =>
      intro k hk hq
      refine XW_to [2] 40 okWo_inLot ?_
      refine ite_i (fun h1 => ?_) (fun h1 => ?_)
      · simp only [] at h1
        refine ite_t (by omega) ?_
        refine ⟨⟨by omega, by show (k : Int) < 6; omega⟩, ?_⟩
        refine ite_i (fun e => ⟨Or.inr rfl, ht ⟨k, by omega, h1, e⟩⟩) (fun e => ?_)
        have := ih (k + 1) (by omega) fun q hq2 hq3 => by
          by_cases e2 : q = k
          · rw [e2]; exact e
          · exact hq q (by omega) hq3
        rw [← nS k (by omega)] at this
        exact this
      · simp only [] at h1
        exact ⟨Or.inl rfl, hf fun p hp hp2 => hq p (by omega) hp2⟩
  exact cof ocWo_inLot rfl (XW_to [2] 30 okWo_inLot (loop 6 0 rfl fun q hq => absurd hq (by omega)))
end W1
