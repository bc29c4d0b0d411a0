-- the law's cases
def NxL (g : GC) (h : HH) (i : Nat) : Prop := ∀ (h2 : HH) (al2 : AL), Sim h2 al2 → al2 180 = true → (∀ k, k < ln g 180 → h2 180 k = h 180 k) → XW g 40 mLaw Qt 1265 [some (xr 180), some (xr 0), some (xr 120), some (xi (i : Int))] [] h2 al2
theorem ixW {i c : Nat} (h : i < 3072) (hc : c < 6) : wI ((i : Int) + (c : Int)) = ((i + c : Nat) : Int) := by unfold wI; omega
theorem cmpL_same (z : Int) : cmpL z z = 0 := by unfold cmpL; simp
section LW
variable {g : GC} {h : HH} {al : AL} {i : Nat}
theorem cs_holding (hS : Sim h al) (h180 : al 180 = true) (hi : i + 6 ≤ ln g 180) (hn : ln g 180 ≤ 3072) (h32 : ∀ k, k < ln g 180 → I32 (h 180 k)) (nx : NxL g h i) : XW g 40 mLaw Qt 188 [some (xr 180), some (xr 0), some (xr 120), some (xi (i : Int))] [] h al := by
  have e1 : wI ((i : Int) + 1) = ((i + 1 : Nat) : Int) := ixW (c := 1) (by omega) (by decide)
  have l1 : i + 1 < ln g 180 := by omega
  refine XW_t4 [194] 80 okLaw ?_
  refine ⟨i + 1, e1, l1, _, rfl, ?_⟩
  refine XW_callS okLaw rfl h180 ?_
  refine call_m (s_holding (d := 31) hS) fun v h1 al1 hk hsp => ?_
  obtain ⟨v2, h2, al2, hCtr, ⟨z, q1, q2⟩, hS2⟩ := hk
  subst q1 q2
  refine XW_t4 [203] 80 okLaw ?_
  refine ⟨i + 1, e1, l1, h 180 (i + 1), hsp.1 _ l1, ?_⟩
  refine XW_callS okLaw rfl hsp.2 ?_
  refine ⟨some (xi z), h2, al2, hCtr, fun hsp2 => ?_⟩
  refine XW_t4 [1265] 20 okLaw ?_
  refine ite_t rfl ?_
  exact nx h2 al2 hS2 hsp2.2 (fun k hk => by rw [hsp2.1 k hk, hsp.1 k hk])
theorem cs_of (hS : Sim h al) (h180 : al 180 = true) (hi : i + 6 ≤ ln g 180) (hn : ln g 180 ≤ 3072) (h32 : ∀ k, k < ln g 180 → I32 (h 180 k)) (nx : NxL g h i) : XW g 40 mLaw Qt 211 [some (xr 180), some (xr 0), some (xr 120), some (xi (i : Int))] [] h al := by
  have e1 : wI ((i : Int) + 1) = ((i + 1 : Nat) : Int) := ixW (c := 1) (by omega) (by decide)
  have l1 : i + 1 < ln g 180 := by omega
  have e2 : wI ((i : Int) + 2) = ((i + 2 : Nat) : Int) := ixW (c := 2) (by omega) (by decide)
  have l2 : i + 2 < ln g 180 := by omega
  refine XW_t4 [222] 80 okLaw ?_
  refine ⟨i + 1, e1, l1, _, rfl, ?_⟩
  refine ⟨i + 2, e2, l2, _, rfl, ?_⟩
  refine XW_callS okLaw rfl h180 ?_
  refine call_m (s_of (d := 36) hS) fun v h1 al1 hk hsp => ?_
  obtain ⟨v2, h2, al2, hCtr, ⟨z, q1, q2⟩, hS2⟩ := hk
  subst q1 q2
  refine XW_t4 [236] 80 okLaw ?_
  refine ⟨i + 1, e1, l1, h 180 (i + 1), hsp.1 _ l1, ?_⟩
  refine ⟨i + 2, e2, l2, h 180 (i + 2), hsp.1 _ l2, ?_⟩
  refine XW_callS okLaw rfl hsp.2 ?_
  refine ⟨some (xi z), h2, al2, hCtr, fun hsp2 => ?_⟩
  refine XW_t4 [1265] 20 okLaw ?_
  refine ite_t rfl ?_
  exact nx h2 al2 hS2 hsp2.2 (fun k hk => by rw [hsp2.1 k hk, hsp.1 k hk])
theorem cs_set (hS : Sim h al) (h180 : al 180 = true) (hi : i + 6 ≤ ln g 180) (hn : ln g 180 ≤ 3072) (h32 : ∀ k, k < ln g 180 → I32 (h 180 k)) (nx : NxL g h i) : XW g 40 mLaw Qt 244 [some (xr 180), some (xr 0), some (xr 120), some (xi (i : Int))] [] h al := by
  have e1 : wI ((i : Int) + 1) = ((i + 1 : Nat) : Int) := ixW (c := 1) (by omega) (by decide)
  have l1 : i + 1 < ln g 180 := by omega
  have e2 : wI ((i : Int) + 2) = ((i + 2 : Nat) : Int) := ixW (c := 2) (by omega) (by decide)
  have l2 : i + 2 < ln g 180 := by omega
  refine XW_t4 [255] 80 okLaw ?_
  refine ⟨i + 1, e1, l1, _, rfl, ?_⟩
  refine ⟨i + 2, e2, l2, _, rfl, ?_⟩
  refine XW_callS okLaw rfl h180 ?_
  refine call_m (s_set (d := 36) hS) fun v h1 al1 hk hsp => ?_
  obtain ⟨v2, h2, al2, hCtr, ⟨z, q1, q2⟩, hS2⟩ := hk
  subst q1 q2
  refine XW_t4 [269] 80 okLaw ?_
  refine ⟨i + 1, e1, l1, h 180 (i + 1), hsp.1 _ l1, ?_⟩
  refine ⟨i + 2, e2, l2, h 180 (i + 2), hsp.1 _ l2, ?_⟩
  refine XW_callS okLaw rfl hsp.2 ?_
  refine ⟨some (xi z), h2, al2, hCtr, fun hsp2 => ?_⟩
  refine XW_t4 [1265] 20 okLaw ?_
  refine ite_t rfl ?_
  exact nx h2 al2 hS2 hsp2.2 (fun k hk => by rw [hsp2.1 k hk, hsp.1 k hk])
theorem cs_feed (hS : Sim h al) (h180 : al 180 = true) (hi : i + 6 ≤ ln g 180) (hn : ln g 180 ≤ 3072) (h32 : ∀ k, k < ln g 180 → I32 (h 180 k)) (nx : NxL g h i) : XW g 40 mLaw Qt 277 [some (xr 180), some (xr 0), some (xr 120), some (xi (i : Int))] [] h al := by
  have e1 : wI ((i : Int) + 1) = ((i + 1 : Nat) : Int) := ixW (c := 1) (by omega) (by decide)
  have l1 : i + 1 < ln g 180 := by omega
  have e2 : wI ((i : Int) + 2) = ((i + 2 : Nat) : Int) := ixW (c := 2) (by omega) (by decide)
  have l2 : i + 2 < ln g 180 := by omega
  refine XW_t4 [288] 80 okLaw ?_
  refine ⟨i + 1, e1, l1, _, rfl, ?_⟩
  refine ⟨i + 2, e2, l2, _, rfl, ?_⟩
  refine XW_callS okLaw rfl h180 ?_
  refine call_m (s_feed (d := 36) hS) fun v h1 al1 hk hsp => ?_
  obtain ⟨v2, h2, al2, hCtr, ⟨z, q1, q2⟩, hS2⟩ := hk
  subst q1 q2
  refine XW_t4 [302] 80 okLaw ?_
  refine ⟨i + 1, e1, l1, h 180 (i + 1), hsp.1 _ l1, ?_⟩
  refine ⟨i + 2, e2, l2, h 180 (i + 2), hsp.1 _ l2, ?_⟩
  refine XW_callS okLaw rfl hsp.2 ?_
  refine ⟨some (xi z), h2, al2, hCtr, fun hsp2 => ?_⟩
  refine XW_t4 [1265] 20 okLaw ?_
  refine ite_t rfl ?_
  exact nx h2 al2 hS2 hsp2.2 (fun k hk => by rw [hsp2.1 k hk, hsp.1 k hk])
theorem cs_valley (hS : Sim h al) (h180 : al 180 = true) (hi : i + 6 ≤ ln g 180) (hn : ln g 180 ≤ 3072) (h32 : ∀ k, k < ln g 180 → I32 (h 180 k)) (nx : NxL g h i) : XW g 40 mLaw Qt 310 [some (xr 180), some (xr 0), some (xr 120), some (xi (i : Int))] [] h al := by
  refine XW_t4 [311] 80 okLaw ?_
  refine XW_callS okLaw rfl h180 ?_
  refine call_m (s_valley (d := 17) hS) fun v h1 al1 hk hsp => ?_
  obtain ⟨v2, h2, al2, hCtr, ⟨z, q1, q2⟩, hS2⟩ := hk
  subst q1 q2
  refine XW_t4 [315] 80 okLaw ?_
  refine XW_callS okLaw rfl hsp.2 ?_
  refine ⟨some (xi z), h2, al2, hCtr, fun hsp2 => ?_⟩
  refine XW_t4 [1265] 20 okLaw ?_
  refine ite_t rfl ?_
  exact nx h2 al2 hS2 hsp2.2 (fun k hk => by rw [hsp2.1 k hk, hsp.1 k hk])
theorem cs_told (hS : Sim h al) (h180 : al 180 = true) (hi : i + 6 ≤ ln g 180) (hn : ln g 180 ≤ 3072) (h32 : ∀ k, k < ln g 180 → I32 (h 180 k)) (nx : NxL g h i) : XW g 40 mLaw Qt 323 [some (xr 180), some (xr 0), some (xr 120), some (xi (i : Int))] [] h al := by
  have e1 : wI ((i : Int) + 1) = ((i + 1 : Nat) : Int) := ixW (c := 1) (by omega) (by decide)
  have l1 : i + 1 < ln g 180 := by omega
  have e2 : wI ((i : Int) + 2) = ((i + 2 : Nat) : Int) := ixW (c := 2) (by omega) (by decide)
  have l2 : i + 2 < ln g 180 := by omega
  have e3 : wI ((i : Int) + 3) = ((i + 3 : Nat) : Int) := ixW (c := 3) (by omega) (by decide)
  have l3 : i + 3 < ln g 180 := by omega
  have e4 : wI ((i : Int) + 4) = ((i + 4 : Nat) : Int) := ixW (c := 4) (by omega) (by decide)
  have l4 : i + 4 < ln g 180 := by omega
  have e5 : wI ((i : Int) + 5) = ((i + 5 : Nat) : Int) := ixW (c := 5) (by omega) (by decide)
  have l5 : i + 5 < ln g 180 := by omega
  refine XW_t4 [349] 80 okLaw ?_
  refine ⟨i + 1, e1, l1, _, rfl, ?_⟩
  refine ⟨i + 2, e2, l2, _, rfl, ?_⟩
  refine ⟨i + 3, e3, l3, _, rfl, ?_⟩
  refine ⟨i + 4, e4, l4, _, rfl, ?_⟩
  refine ⟨i + 5, e5, l5, _, rfl, ?_⟩
  refine XW_callS okLaw rfl h180 ?_
  refine call_m (s_told (d := 32) hS) fun v h1 al1 hk hsp => ?_
  obtain ⟨v2, h2, al2, hCtr, ⟨z, q1, q2⟩, hS2⟩ := hk
  subst q1 q2
  refine XW_t4 [378] 80 okLaw ?_
  refine ⟨i + 1, e1, l1, h 180 (i + 1), hsp.1 _ l1, ?_⟩
  refine ⟨i + 2, e2, l2, h 180 (i + 2), hsp.1 _ l2, ?_⟩
  refine ⟨i + 3, e3, l3, h 180 (i + 3), hsp.1 _ l3, ?_⟩
  refine ⟨i + 4, e4, l4, h 180 (i + 4), hsp.1 _ l4, ?_⟩
  refine ⟨i + 5, e5, l5, h 180 (i + 5), hsp.1 _ l5, ?_⟩
  refine XW_callS okLaw rfl hsp.2 ?_
  refine ⟨some (xi z), h2, al2, hCtr, fun hsp2 => ?_⟩
  refine XW_t4 [1265] 20 okLaw ?_
  refine ite_t rfl ?_
  exact nx h2 al2 hS2 hsp2.2 (fun k hk => by rw [hsp2.1 k hk, hsp.1 k hk])
theorem cs_holder (hS : Sim h al) (h180 : al 180 = true) (hi : i + 6 ≤ ln g 180) (hn : ln g 180 ≤ 3072) (h32 : ∀ k, k < ln g 180 → I32 (h 180 k)) (nx : NxL g h i) : XW g 40 mLaw Qt 386 [some (xr 180), some (xr 0), some (xr 120), some (xi (i : Int))] [] h al := by
  have e1 : wI ((i : Int) + 1) = ((i + 1 : Nat) : Int) := ixW (c := 1) (by omega) (by decide)
  have l1 : i + 1 < ln g 180 := by omega
  have e2 : wI ((i : Int) + 2) = ((i + 2 : Nat) : Int) := ixW (c := 2) (by omega) (by decide)
  have l2 : i + 2 < ln g 180 := by omega
  refine XW_t4 [397] 80 okLaw ?_
  refine ⟨i + 1, e1, l1, _, rfl, ?_⟩
  refine ⟨i + 2, e2, l2, _, rfl, ?_⟩
  refine XW_callS okLaw rfl h180 ?_
  refine call_m (s_holder (d := 31) hS) fun v h1 al1 hk hsp => ?_
  obtain ⟨v2, h2, al2, hCtr, ⟨z, q1, q2⟩, hS2⟩ := hk
  subst q1 q2
  refine XW_t4 [411] 80 okLaw ?_
  refine ⟨i + 1, e1, l1, h 180 (i + 1), hsp.1 _ l1, ?_⟩
  refine ⟨i + 2, e2, l2, h 180 (i + 2), hsp.1 _ l2, ?_⟩
  refine XW_callS okLaw rfl hsp.2 ?_
  refine ⟨some (xi z), h2, al2, hCtr, fun hsp2 => ?_⟩
  refine XW_t4 [1265] 20 okLaw ?_
  refine ite_t rfl ?_
  exact nx h2 al2 hS2 hsp2.2 (fun k hk => by rw [hsp2.1 k hk, hsp.1 k hk])
theorem cs_has (hS : Sim h al) (h180 : al 180 = true) (hi : i + 6 ≤ ln g 180) (hn : ln g 180 ≤ 3072) (h32 : ∀ k, k < ln g 180 → I32 (h 180 k)) (nx : NxL g h i) : XW g 40 mLaw Qt 419 [some (xr 180), some (xr 0), some (xr 120), some (xi (i : Int))] [] h al := by
  have e1 : wI ((i : Int) + 1) = ((i + 1 : Nat) : Int) := ixW (c := 1) (by omega) (by decide)
  have l1 : i + 1 < ln g 180 := by omega
  have e2 : wI ((i : Int) + 2) = ((i + 2 : Nat) : Int) := ixW (c := 2) (by omega) (by decide)
  have l2 : i + 2 < ln g 180 := by omega
  refine XW_t4 [430] 80 okLaw ?_
  refine ⟨i + 1, e1, l1, _, rfl, ?_⟩
  refine ⟨i + 2, e2, l2, _, rfl, ?_⟩
  refine XW_callS okLaw rfl h180 ?_
  refine call_m (s_has (d := 31) hS) fun v h1 al1 hk hsp => ?_
  obtain ⟨v2, h2, al2, hCtr, ⟨z, q1, q2⟩, hS2⟩ := hk
  subst q1 q2
  refine XW_t4 [444] 80 okLaw ?_
  refine ⟨i + 1, e1, l1, h 180 (i + 1), hsp.1 _ l1, ?_⟩
  refine ⟨i + 2, e2, l2, h 180 (i + 2), hsp.1 _ l2, ?_⟩
  refine XW_callS okLaw rfl hsp.2 ?_
  refine ⟨some (xi z), h2, al2, hCtr, fun hsp2 => ?_⟩
  refine XW_t4 [1265] 20 okLaw ?_
  refine ite_t rfl ?_
  exact nx h2 al2 hS2 hsp2.2 (fun k hk => by rw [hsp2.1 k hk, hsp.1 k hk])
theorem cs_row (hS : Sim h al) (h180 : al 180 = true) (hi : i + 6 ≤ ln g 180) (hn : ln g 180 ≤ 3072) (h32 : ∀ k, k < ln g 180 → I32 (h 180 k)) (nx : NxL g h i) : XW g 40 mLaw Qt 452 [some (xr 180), some (xr 0), some (xr 120), some (xi (i : Int))] [] h al := by
  have e1 : wI ((i : Int) + 1) = ((i + 1 : Nat) : Int) := ixW (c := 1) (by omega) (by decide)
  have l1 : i + 1 < ln g 180 := by omega
  have e2 : wI ((i : Int) + 2) = ((i + 2 : Nat) : Int) := ixW (c := 2) (by omega) (by decide)
  have l2 : i + 2 < ln g 180 := by omega
  have e3 : wI ((i : Int) + 3) = ((i + 3 : Nat) : Int) := ixW (c := 3) (by omega) (by decide)
  have l3 : i + 3 < ln g 180 := by omega
  refine XW_t4 [468] 80 okLaw ?_
  refine ⟨i + 1, e1, l1, _, rfl, ?_⟩
  refine ⟨i + 2, e2, l2, _, rfl, ?_⟩
  refine ⟨i + 3, e3, l3, _, rfl, ?_⟩
  refine XW_callS okLaw rfl h180 ?_
  refine call_m (s_row (d := 31) hS) fun v h1 al1 hk hsp => ?_
  obtain ⟨v2, h2, al2, hCtr, ⟨z, q1, q2⟩, hS2⟩ := hk
  subst q1 q2
  refine XW_t4 [487] 80 okLaw ?_
  refine ⟨i + 1, e1, l1, h 180 (i + 1), hsp.1 _ l1, ?_⟩
  refine ⟨i + 2, e2, l2, h 180 (i + 2), hsp.1 _ l2, ?_⟩
  refine ⟨i + 3, e3, l3, h 180 (i + 3), hsp.1 _ l3, ?_⟩
  refine XW_callS okLaw rfl hsp.2 ?_
  refine ⟨some (xi z), h2, al2, hCtr, fun hsp2 => ?_⟩
  refine XW_t4 [1265] 20 okLaw ?_
  refine ite_t rfl ?_
  exact nx h2 al2 hS2 hsp2.2 (fun k hk => by rw [hsp2.1 k hk, hsp.1 k hk])
theorem cs_mends (hS : Sim h al) (h180 : al 180 = true) (hi : i + 6 ≤ ln g 180) (hn : ln g 180 ≤ 3072) (h32 : ∀ k, k < ln g 180 → I32 (h 180 k)) (nx : NxL g h i) : XW g 40 mLaw Qt 495 [some (xr 180), some (xr 0), some (xr 120), some (xi (i : Int))] [] h al := by
  have e1 : wI ((i : Int) + 1) = ((i + 1 : Nat) : Int) := ixW (c := 1) (by omega) (by decide)
  have l1 : i + 1 < ln g 180 := by omega
  refine XW_t4 [501] 80 okLaw ?_
  refine ⟨i + 1, e1, l1, _, rfl, ?_⟩
  refine XW_callS okLaw rfl h180 ?_
  refine call_m (s_mends (d := 32) hS) fun v h1 al1 hk hsp => ?_
  obtain ⟨v2, h2, al2, hCtr, ⟨z, q1, q2⟩, hS2⟩ := hk
  subst q1 q2
  refine XW_t4 [510] 80 okLaw ?_
  refine ⟨i + 1, e1, l1, h 180 (i + 1), hsp.1 _ l1, ?_⟩
  refine XW_callS okLaw rfl hsp.2 ?_
  refine ⟨some (xi z), h2, al2, hCtr, fun hsp2 => ?_⟩
  refine XW_t4 [1265] 20 okLaw ?_
  refine ite_t rfl ?_
  exact nx h2 al2 hS2 hsp2.2 (fun k hk => by rw [hsp2.1 k hk, hsp.1 k hk])
theorem cs_would (hS : Sim h al) (h180 : al 180 = true) (hi : i + 6 ≤ ln g 180) (hn : ln g 180 ≤ 3072) (h32 : ∀ k, k < ln g 180 → I32 (h 180 k)) (nx : NxL g h i) : XW g 40 mLaw Qt 518 [some (xr 180), some (xr 0), some (xr 120), some (xi (i : Int))] [] h al := by
  have e1 : wI ((i : Int) + 1) = ((i + 1 : Nat) : Int) := ixW (c := 1) (by omega) (by decide)
  have l1 : i + 1 < ln g 180 := by omega
  have e2 : wI ((i : Int) + 2) = ((i + 2 : Nat) : Int) := ixW (c := 2) (by omega) (by decide)
  have l2 : i + 2 < ln g 180 := by omega
  have e3 : wI ((i : Int) + 3) = ((i + 3 : Nat) : Int) := ixW (c := 3) (by omega) (by decide)
  have l3 : i + 3 < ln g 180 := by omega
  refine XW_t4 [534] 80 okLaw ?_
  refine ⟨i + 1, e1, l1, _, rfl, ?_⟩
  refine ⟨i + 2, e2, l2, _, rfl, ?_⟩
  refine ⟨i + 3, e3, l3, _, rfl, ?_⟩
  refine XW_callS okLaw rfl h180 ?_
  refine call_m (s_would (d := 32) hS) fun v h1 al1 hk hsp => ?_
  obtain ⟨v2, h2, al2, hCtr, ⟨z, q1, q2⟩, hS2⟩ := hk
  subst q1 q2
  refine XW_t4 [553] 80 okLaw ?_
  refine ⟨i + 1, e1, l1, h 180 (i + 1), hsp.1 _ l1, ?_⟩
  refine ⟨i + 2, e2, l2, h 180 (i + 2), hsp.1 _ l2, ?_⟩
  refine ⟨i + 3, e3, l3, h 180 (i + 3), hsp.1 _ l3, ?_⟩
  refine XW_callS okLaw rfl hsp.2 ?_
  refine ⟨some (xi z), h2, al2, hCtr, fun hsp2 => ?_⟩
  refine XW_t4 [1265] 20 okLaw ?_
  refine ite_t rfl ?_
  exact nx h2 al2 hS2 hsp2.2 (fun k hk => by rw [hsp2.1 k hk, hsp.1 k hk])
theorem cs_worth (hS : Sim h al) (h180 : al 180 = true) (hi : i + 6 ≤ ln g 180) (hn : ln g 180 ≤ 3072) (h32 : ∀ k, k < ln g 180 → I32 (h 180 k)) (nx : NxL g h i) : XW g 40 mLaw Qt 561 [some (xr 180), some (xr 0), some (xr 120), some (xi (i : Int))] [] h al := by
  have e1 : wI ((i : Int) + 1) = ((i + 1 : Nat) : Int) := ixW (c := 1) (by omega) (by decide)
  have l1 : i + 1 < ln g 180 := by omega
  have e2 : wI ((i : Int) + 2) = ((i + 2 : Nat) : Int) := ixW (c := 2) (by omega) (by decide)
  have l2 : i + 2 < ln g 180 := by omega
  have e3 : wI ((i : Int) + 3) = ((i + 3 : Nat) : Int) := ixW (c := 3) (by omega) (by decide)
  have l3 : i + 3 < ln g 180 := by omega
  refine XW_t4 [577] 80 okLaw ?_
  refine ⟨i + 1, e1, l1, _, rfl, ?_⟩
  refine ⟨i + 2, e2, l2, _, rfl, ?_⟩
  refine ⟨i + 3, e3, l3, _, rfl, ?_⟩
  refine XW_callS okLaw rfl h180 ?_
  refine call_m (s_worth (d := 32) hS) fun v h1 al1 hk hsp => ?_
  obtain ⟨v2, h2, al2, hCtr, ⟨z, q1, q2⟩, hS2⟩ := hk
  subst q1 q2
  refine XW_t4 [596] 80 okLaw ?_
  refine ⟨i + 1, e1, l1, h 180 (i + 1), hsp.1 _ l1, ?_⟩
  refine ⟨i + 2, e2, l2, h 180 (i + 2), hsp.1 _ l2, ?_⟩
  refine ⟨i + 3, e3, l3, h 180 (i + 3), hsp.1 _ l3, ?_⟩
  refine XW_callS okLaw rfl hsp.2 ?_
  refine ⟨some (xi z), h2, al2, hCtr, fun hsp2 => ?_⟩
  refine XW_t4 [1265] 20 okLaw ?_
  refine ite_t rfl ?_
  exact nx h2 al2 hS2 hsp2.2 (fun k hk => by rw [hsp2.1 k hk, hsp.1 k hk])
theorem cs_go (hS : Sim h al) (h180 : al 180 = true) (hi : i + 6 ≤ ln g 180) (hn : ln g 180 ≤ 3072) (h32 : ∀ k, k < ln g 180 → I32 (h 180 k)) (nx : NxL g h i) : XW g 40 mLaw Qt 604 [some (xr 180), some (xr 0), some (xr 120), some (xi (i : Int))] [] h al := by
  have e1 : wI ((i : Int) + 1) = ((i + 1 : Nat) : Int) := ixW (c := 1) (by omega) (by decide)
  have l1 : i + 1 < ln g 180 := by omega
  have a1 : I32 (h 180 (i + 1)) := h32 _ l1
  refine XW_t4 [610] 80 okLaw ?_
  refine ⟨i + 1, e1, l1, _, rfl, ?_⟩
  refine XW_callS okLaw rfl h180 ?_
  refine call_m (s_go (d := 31) hS a1) fun v h1 al1 hk hsp => ?_
  obtain ⟨v2, h2, al2, hCtr, ⟨z, q1, q2⟩, hS2⟩ := hk
  subst q1 q2
  refine XW_t4 [619] 80 okLaw ?_
  refine ⟨i + 1, e1, l1, h 180 (i + 1), hsp.1 _ l1, ?_⟩
  refine XW_callS okLaw rfl hsp.2 ?_
  refine ⟨some (xi z), h2, al2, hCtr, fun hsp2 => ?_⟩
  refine XW_t4 [1265] 20 okLaw ?_
  refine ite_t rfl ?_
  exact nx h2 al2 hS2 hsp2.2 (fun k hk => by rw [hsp2.1 k hk, hsp.1 k hk])
theorem cs_lot (hS : Sim h al) (h180 : al 180 = true) (hi : i + 6 ≤ ln g 180) (hn : ln g 180 ≤ 3072) (h32 : ∀ k, k < ln g 180 → I32 (h 180 k)) (nx : NxL g h i) : XW g 40 mLaw Qt 627 [some (xr 180), some (xr 0), some (xr 120), some (xi (i : Int))] [] h al := by
  have e1 : wI ((i : Int) + 1) = ((i + 1 : Nat) : Int) := ixW (c := 1) (by omega) (by decide)
  have l1 : i + 1 < ln g 180 := by omega
  refine XW_t4 [633] 80 okLaw ?_
  refine ⟨i + 1, e1, l1, _, rfl, ?_⟩
  refine XW_callS okLaw rfl h180 ?_
  refine call_m (s_lot (d := 36) hS) fun v h1 al1 hk hsp => ?_
  obtain ⟨v2, h2, al2, hCtr, ⟨z, q1, q2⟩, hS2⟩ := hk
  subst q1 q2
  refine XW_t4 [642] 80 okLaw ?_
  refine ⟨i + 1, e1, l1, h 180 (i + 1), hsp.1 _ l1, ?_⟩
  refine XW_callS okLaw rfl hsp.2 ?_
  refine ⟨some (xi z), h2, al2, hCtr, fun hsp2 => ?_⟩
  refine XW_t4 [1265] 20 okLaw ?_
  refine ite_t rfl ?_
  exact nx h2 al2 hS2 hsp2.2 (fun k hk => by rw [hsp2.1 k hk, hsp.1 k hk])
theorem cs_expect (hS : Sim h al) (h180 : al 180 = true) (hi : i + 6 ≤ ln g 180) (hn : ln g 180 ≤ 3072) (h32 : ∀ k, k < ln g 180 → I32 (h 180 k)) (nx : NxL g h i) : XW g 40 mLaw Qt 650 [some (xr 180), some (xr 0), some (xr 120), some (xi (i : Int))] [] h al := by
  have e1 : wI ((i : Int) + 1) = ((i + 1 : Nat) : Int) := ixW (c := 1) (by omega) (by decide)
  have l1 : i + 1 < ln g 180 := by omega
  have e2 : wI ((i : Int) + 2) = ((i + 2 : Nat) : Int) := ixW (c := 2) (by omega) (by decide)
  have l2 : i + 2 < ln g 180 := by omega
  refine XW_t4 [661] 80 okLaw ?_
  refine ⟨i + 1, e1, l1, _, rfl, ?_⟩
  refine ⟨i + 2, e2, l2, _, rfl, ?_⟩
  refine XW_callS okLaw rfl h180 ?_
  refine call_m (s_expect (d := 31) hS) fun v h1 al1 hk hsp => ?_
  obtain ⟨v2, h2, al2, hCtr, ⟨z, q1, q2⟩, hS2⟩ := hk
  subst q1 q2
  refine XW_t4 [675] 80 okLaw ?_
  refine ⟨i + 1, e1, l1, h 180 (i + 1), hsp.1 _ l1, ?_⟩
  refine ⟨i + 2, e2, l2, h 180 (i + 2), hsp.1 _ l2, ?_⟩
  refine XW_callS okLaw rfl hsp.2 ?_
  refine ⟨some (xl z), h2, al2, hCtr, fun hsp2 => ?_⟩
  refine XW_t4 [1265] 20 okLaw ?_
  refine ite_t (cmpL_same z) ?_
  exact nx h2 al2 hS2 hsp2.2 (fun k hk => by rw [hsp2.1 k hk, hsp.1 k hk])
theorem cs_ever (hS : Sim h al) (h180 : al 180 = true) (hi : i + 6 ≤ ln g 180) (hn : ln g 180 ≤ 3072) (h32 : ∀ k, k < ln g 180 → I32 (h 180 k)) (nx : NxL g h i) : XW g 40 mLaw Qt 684 [some (xr 180), some (xr 0), some (xr 120), some (xi (i : Int))] [] h al := by
  refine XW_t4 [685] 80 okLaw ?_
  refine XW_callS okLaw rfl h180 ?_
  refine call_m (s_ever (d := 31) hS) fun v h1 al1 hk hsp => ?_
  obtain ⟨v2, h2, al2, hCtr, ⟨z, q1, q2⟩, hS2⟩ := hk
  subst q1 q2
  refine XW_t4 [689] 80 okLaw ?_
  refine XW_callS okLaw rfl hsp.2 ?_
  refine ⟨some (xi z), h2, al2, hCtr, fun hsp2 => ?_⟩
  refine XW_t4 [1265] 20 okLaw ?_
  refine ite_t rfl ?_
  exact nx h2 al2 hS2 hsp2.2 (fun k hk => by rw [hsp2.1 k hk, hsp.1 k hk])
theorem cs_rounds (hS : Sim h al) (h180 : al 180 = true) (hi : i + 6 ≤ ln g 180) (hn : ln g 180 ≤ 3072) (h32 : ∀ k, k < ln g 180 → I32 (h 180 k)) (nx : NxL g h i) : XW g 40 mLaw Qt 697 [some (xr 180), some (xr 0), some (xr 120), some (xi (i : Int))] [] h al := by
  have e1 : wI ((i : Int) + 1) = ((i + 1 : Nat) : Int) := ixW (c := 1) (by omega) (by decide)
  have l1 : i + 1 < ln g 180 := by omega
  refine XW_t4 [703] 80 okLaw ?_
  refine ⟨i + 1, e1, l1, _, rfl, ?_⟩
  refine XW_callS okLaw rfl h180 ?_
  refine call_m (s_rounds (d := 31) hS) fun v h1 al1 hk hsp => ?_
  obtain ⟨v2, h2, al2, hCtr, ⟨z, q1, q2⟩, hS2⟩ := hk
  subst q1 q2
  refine XW_t4 [712] 80 okLaw ?_
  refine ⟨i + 1, e1, l1, h 180 (i + 1), hsp.1 _ l1, ?_⟩
  refine XW_callS okLaw rfl hsp.2 ?_
  refine ⟨some (xi z), h2, al2, hCtr, fun hsp2 => ?_⟩
  refine XW_t4 [1265] 20 okLaw ?_
  refine ite_t rfl ?_
  exact nx h2 al2 hS2 hsp2.2 (fun k hk => by rw [hsp2.1 k hk, hsp.1 k hk])
theorem cs_pay (hS : Sim h al) (h180 : al 180 = true) (hi : i + 6 ≤ ln g 180) (hn : ln g 180 ≤ 3072) (h32 : ∀ k, k < ln g 180 → I32 (h 180 k)) (nx : NxL g h i) : XW g 40 mLaw Qt 720 [some (xr 180), some (xr 0), some (xr 120), some (xi (i : Int))] [] h al := by
  refine XW_t4 [721] 80 okLaw ?_
  refine XW_callS okLaw rfl h180 ?_
  refine call_m (s_pay (d := 31) hS) fun v h1 al1 hk hsp => ?_
  obtain ⟨v2, h2, al2, hCtr, ⟨z, q1, q2⟩, hS2⟩ := hk
  subst q1 q2
  refine XW_t4 [725] 80 okLaw ?_
  refine XW_callS okLaw rfl hsp.2 ?_
  refine ⟨some (xi z), h2, al2, hCtr, fun hsp2 => ?_⟩
  refine XW_t4 [1265] 20 okLaw ?_
  refine ite_t rfl ?_
  exact nx h2 al2 hS2 hsp2.2 (fun k hk => by rw [hsp2.1 k hk, hsp.1 k hk])
theorem cs_keep (hS : Sim h al) (h180 : al 180 = true) (hi : i + 6 ≤ ln g 180) (hn : ln g 180 ≤ 3072) (h32 : ∀ k, k < ln g 180 → I32 (h 180 k)) (nx : NxL g h i) : XW g 40 mLaw Qt 733 [some (xr 180), some (xr 0), some (xr 120), some (xi (i : Int))] [] h al := by
  refine XW_t4 [734] 80 okLaw ?_
  refine XW_callS okLaw rfl h180 ?_
  refine call_m (s_keep (d := 31) hS) fun v h1 al1 hk hsp => ?_
  obtain ⟨v2, h2, al2, hCtr, ⟨z, q1, q2⟩, hS2⟩ := hk
  subst q1 q2
  refine XW_t4 [738] 80 okLaw ?_
  refine XW_callS okLaw rfl hsp.2 ?_
  refine ⟨some (xi z), h2, al2, hCtr, fun hsp2 => ?_⟩
  refine XW_t4 [1265] 20 okLaw ?_
  refine ite_t rfl ?_
  exact nx h2 al2 hS2 hsp2.2 (fun k hk => by rw [hsp2.1 k hk, hsp.1 k hk])
theorem cs_swaps (hS : Sim h al) (h180 : al 180 = true) (hi : i + 6 ≤ ln g 180) (hn : ln g 180 ≤ 3072) (h32 : ∀ k, k < ln g 180 → I32 (h 180 k)) (nx : NxL g h i) : XW g 40 mLaw Qt 746 [some (xr 180), some (xr 0), some (xr 120), some (xi (i : Int))] [] h al := by
  refine XW_t4 [747] 80 okLaw ?_
  refine XW_callS okLaw rfl h180 ?_
  refine call_m (s_swaps (d := 31) hS) fun v h1 al1 hk hsp => ?_
  obtain ⟨v2, h2, al2, hCtr, ⟨z, q1, q2⟩, hS2⟩ := hk
  subst q1 q2
  refine XW_t4 [751] 80 okLaw ?_
  refine XW_callS okLaw rfl hsp.2 ?_
  refine ⟨some (xi z), h2, al2, hCtr, fun hsp2 => ?_⟩
  refine XW_t4 [1265] 20 okLaw ?_
  refine ite_t rfl ?_
  exact nx h2 al2 hS2 hsp2.2 (fun k hk => by rw [hsp2.1 k hk, hsp.1 k hk])
theorem cs_alike (hS : Sim h al) (h180 : al 180 = true) (hi : i + 6 ≤ ln g 180) (hn : ln g 180 ≤ 3072) (h32 : ∀ k, k < ln g 180 → I32 (h 180 k)) (nx : NxL g h i) : XW g 40 mLaw Qt 759 [some (xr 180), some (xr 0), some (xr 120), some (xi (i : Int))] [] h al := by
  have e1 : wI ((i : Int) + 1) = ((i + 1 : Nat) : Int) := ixW (c := 1) (by omega) (by decide)
  have l1 : i + 1 < ln g 180 := by omega
  refine XW_t4 [765] 80 okLaw ?_
  refine ⟨i + 1, e1, l1, _, rfl, ?_⟩
  refine XW_callS okLaw rfl h180 ?_
  refine call_m (s_alike (d := 31) hS) fun v h1 al1 hk hsp => ?_
  obtain ⟨v2, h2, al2, hCtr, ⟨z, q1, q2⟩, hS2⟩ := hk
  subst q1 q2
  refine XW_t4 [774] 80 okLaw ?_
  refine ⟨i + 1, e1, l1, h 180 (i + 1), hsp.1 _ l1, ?_⟩
  refine XW_callS okLaw rfl hsp.2 ?_
  refine ⟨some (xi z), h2, al2, hCtr, fun hsp2 => ?_⟩
  refine XW_t4 [1265] 20 okLaw ?_
  refine ite_t rfl ?_
  exact nx h2 al2 hS2 hsp2.2 (fun k hk => by rw [hsp2.1 k hk, hsp.1 k hk])
theorem cs_best (hS : Sim h al) (h180 : al 180 = true) (hi : i + 6 ≤ ln g 180) (hn : ln g 180 ≤ 3072) (h32 : ∀ k, k < ln g 180 → I32 (h 180 k)) (nx : NxL g h i) : XW g 40 mLaw Qt 782 [some (xr 180), some (xr 0), some (xr 120), some (xi (i : Int))] [] h al := by
  have e1 : wI ((i : Int) + 1) = ((i + 1 : Nat) : Int) := ixW (c := 1) (by omega) (by decide)
  have l1 : i + 1 < ln g 180 := by omega
  refine XW_t4 [788] 80 okLaw ?_
  refine ⟨i + 1, e1, l1, _, rfl, ?_⟩
  refine XW_callS okLaw rfl h180 ?_
  refine call_m (s_best (d := 30) hS) fun v h1 al1 hk hsp => ?_
  obtain ⟨v2, h2, al2, hCtr, ⟨z, q1, q2⟩, hS2⟩ := hk
  subst q1 q2
  refine XW_t4 [797] 80 okLaw ?_
  refine ⟨i + 1, e1, l1, h 180 (i + 1), hsp.1 _ l1, ?_⟩
  refine XW_callS okLaw rfl hsp.2 ?_
  refine ⟨some (xi z), h2, al2, hCtr, fun hsp2 => ?_⟩
  refine XW_t4 [1265] 20 okLaw ?_
  refine ite_t rfl ?_
  exact nx h2 al2 hS2 hsp2.2 (fun k hk => by rw [hsp2.1 k hk, hsp.1 k hk])
theorem cs_book (hS : Sim h al) (h180 : al 180 = true) (hi : i + 6 ≤ ln g 180) (hn : ln g 180 ≤ 3072) (h32 : ∀ k, k < ln g 180 → I32 (h 180 k)) (nx : NxL g h i) : XW g 40 mLaw Qt 805 [some (xr 180), some (xr 0), some (xr 120), some (xi (i : Int))] [] h al := by
  have e1 : wI ((i : Int) + 1) = ((i + 1 : Nat) : Int) := ixW (c := 1) (by omega) (by decide)
  have l1 : i + 1 < ln g 180 := by omega
  refine XW_t4 [811] 80 okLaw ?_
  refine ⟨i + 1, e1, l1, _, rfl, ?_⟩
  refine XW_callS okLaw rfl h180 ?_
  refine call_m (s_book (d := 36) hS) fun v h1 al1 hk hsp => ?_
  obtain ⟨v2, h2, al2, hCtr, ⟨z, q1, q2⟩, hS2⟩ := hk
  subst q1 q2
  refine XW_t4 [820] 80 okLaw ?_
  refine ⟨i + 1, e1, l1, h 180 (i + 1), hsp.1 _ l1, ?_⟩
  refine XW_callS okLaw rfl hsp.2 ?_
  refine ⟨some (xi z), h2, al2, hCtr, fun hsp2 => ?_⟩
  refine XW_t4 [1265] 20 okLaw ?_
  refine ite_t rfl ?_
  exact nx h2 al2 hS2 hsp2.2 (fun k hk => by rw [hsp2.1 k hk, hsp.1 k hk])
theorem cs_looked (hS : Sim h al) (h180 : al 180 = true) (hi : i + 6 ≤ ln g 180) (hn : ln g 180 ≤ 3072) (h32 : ∀ k, k < ln g 180 → I32 (h 180 k)) (nx : NxL g h i) : XW g 40 mLaw Qt 828 [some (xr 180), some (xr 0), some (xr 120), some (xi (i : Int))] [] h al := by
  have e1 : wI ((i : Int) + 1) = ((i + 1 : Nat) : Int) := ixW (c := 1) (by omega) (by decide)
  have l1 : i + 1 < ln g 180 := by omega
  have e2 : wI ((i : Int) + 2) = ((i + 2 : Nat) : Int) := ixW (c := 2) (by omega) (by decide)
  have l2 : i + 2 < ln g 180 := by omega
  refine XW_t4 [839] 80 okLaw ?_
  refine ⟨i + 1, e1, l1, _, rfl, ?_⟩
  refine ⟨i + 2, e2, l2, _, rfl, ?_⟩
  refine XW_callS okLaw rfl h180 ?_
  refine call_m (s_looked (d := 31) hS) fun v h1 al1 hk hsp => ?_
  obtain ⟨v2, h2, al2, hCtr, ⟨z, q1, q2⟩, hS2⟩ := hk
  subst q1 q2
  refine XW_t4 [853] 80 okLaw ?_
  refine ⟨i + 1, e1, l1, h 180 (i + 1), hsp.1 _ l1, ?_⟩
  refine ⟨i + 2, e2, l2, h 180 (i + 2), hsp.1 _ l2, ?_⟩
  refine XW_callS okLaw rfl hsp.2 ?_
  refine ⟨some (xi z), h2, al2, hCtr, fun hsp2 => ?_⟩
  refine XW_t4 [1265] 20 okLaw ?_
  refine ite_t rfl ?_
  exact nx h2 al2 hS2 hsp2.2 (fun k hk => by rw [hsp2.1 k hk, hsp.1 k hk])
theorem cs_judge (hS : Sim h al) (h180 : al 180 = true) (hi : i + 6 ≤ ln g 180) (hn : ln g 180 ≤ 3072) (h32 : ∀ k, k < ln g 180 → I32 (h 180 k)) (nx : NxL g h i) : XW g 40 mLaw Qt 861 [some (xr 180), some (xr 0), some (xr 120), some (xi (i : Int))] [] h al := by
  have e1 : wI ((i : Int) + 1) = ((i + 1 : Nat) : Int) := ixW (c := 1) (by omega) (by decide)
  have l1 : i + 1 < ln g 180 := by omega
  have e2 : wI ((i : Int) + 2) = ((i + 2 : Nat) : Int) := ixW (c := 2) (by omega) (by decide)
  have l2 : i + 2 < ln g 180 := by omega
  have a2 : I32 (h 180 (i + 2)) := h32 _ l2
  have e3 : wI ((i : Int) + 3) = ((i + 3 : Nat) : Int) := ixW (c := 3) (by omega) (by decide)
  have l3 : i + 3 < ln g 180 := by omega
  refine XW_t4 [877] 80 okLaw ?_
  refine ⟨i + 1, e1, l1, _, rfl, ?_⟩
  refine ⟨i + 2, e2, l2, _, rfl, ?_⟩
  refine ⟨i + 3, e3, l3, _, rfl, ?_⟩
  refine XW_callS okLaw rfl h180 ?_
  refine call_m (s_judge (d := 31) hS a2) fun v h1 al1 hk hsp => ?_
  obtain ⟨v2, h2, al2, hCtr, ⟨z, q1, q2⟩, hS2⟩ := hk
  subst q1 q2
  refine XW_t4 [896] 80 okLaw ?_
  refine ⟨i + 1, e1, l1, h 180 (i + 1), hsp.1 _ l1, ?_⟩
  refine ⟨i + 2, e2, l2, h 180 (i + 2), hsp.1 _ l2, ?_⟩
  refine ⟨i + 3, e3, l3, h 180 (i + 3), hsp.1 _ l3, ?_⟩
  refine XW_callS okLaw rfl hsp.2 ?_
  refine ⟨some (xi z), h2, al2, hCtr, fun hsp2 => ?_⟩
  refine XW_t4 [1265] 20 okLaw ?_
  refine ite_t rfl ?_
  exact nx h2 al2 hS2 hsp2.2 (fun k hk => by rw [hsp2.1 k hk, hsp.1 k hk])
theorem cs_image (hS : Sim h al) (h180 : al 180 = true) (hi : i + 6 ≤ ln g 180) (hn : ln g 180 ≤ 3072) (h32 : ∀ k, k < ln g 180 → I32 (h 180 k)) (nx : NxL g h i) : XW g 40 mLaw Qt 904 [some (xr 180), some (xr 0), some (xr 120), some (xi (i : Int))] [] h al := by
  refine XW_t4 [905] 80 okLaw ?_
  refine XW_callS okLaw rfl h180 ?_
  refine call_m (s_image (d := 31) hS) fun v h1 al1 hk hsp => ?_
  obtain ⟨v2, h2, al2, hCtr, ⟨z, q1, q2⟩, hS2⟩ := hk
  subst q1 q2
  refine XW_t4 [909] 80 okLaw ?_
  refine XW_callS okLaw rfl hsp.2 ?_
  refine ⟨some (xi z), h2, al2, hCtr, fun hsp2 => ?_⟩
  refine XW_t4 [1265] 20 okLaw ?_
  refine ite_t rfl ?_
  exact nx h2 al2 hS2 hsp2.2 (fun k hk => by rw [hsp2.1 k hk, hsp.1 k hk])
theorem cs_undo (hS : Sim h al) (h180 : al 180 = true) (hi : i + 6 ≤ ln g 180) (hn : ln g 180 ≤ 3072) (h32 : ∀ k, k < ln g 180 → I32 (h 180 k)) (nx : NxL g h i) : XW g 40 mLaw Qt 917 [some (xr 180), some (xr 0), some (xr 120), some (xi (i : Int))] [] h al := by
  refine XW_t4 [918] 80 okLaw ?_
  refine XW_callS okLaw rfl h180 ?_
  refine call_m (s_undo (d := 31) hS) fun v h1 al1 hk hsp => ?_
  obtain ⟨v2, h2, al2, hCtr, ⟨z, q1, q2⟩, hS2⟩ := hk
  subst q1 q2
  refine XW_t4 [922] 80 okLaw ?_
  refine XW_callS okLaw rfl hsp.2 ?_
  refine ⟨some (xi z), h2, al2, hCtr, fun hsp2 => ?_⟩
  refine XW_t4 [1265] 20 okLaw ?_
  refine ite_t rfl ?_
  exact nx h2 al2 hS2 hsp2.2 (fun k hk => by rw [hsp2.1 k hk, hsp.1 k hk])
theorem cs_act (hS : Sim h al) (h180 : al 180 = true) (hi : i + 6 ≤ ln g 180) (hn : ln g 180 ≤ 3072) (h32 : ∀ k, k < ln g 180 → I32 (h 180 k)) (nx : NxL g h i) : XW g 40 mLaw Qt 930 [some (xr 180), some (xr 0), some (xr 120), some (xi (i : Int))] [] h al := by
  have e1 : wI ((i : Int) + 1) = ((i + 1 : Nat) : Int) := ixW (c := 1) (by omega) (by decide)
  have l1 : i + 1 < ln g 180 := by omega
  have e2 : wI ((i : Int) + 2) = ((i + 2 : Nat) : Int) := ixW (c := 2) (by omega) (by decide)
  have l2 : i + 2 < ln g 180 := by omega
  have e3 : wI ((i : Int) + 3) = ((i + 3 : Nat) : Int) := ixW (c := 3) (by omega) (by decide)
  have l3 : i + 3 < ln g 180 := by omega
  refine XW_t4 [946] 80 okLaw ?_
  refine ⟨i + 1, e1, l1, _, rfl, ?_⟩
  refine ⟨i + 2, e2, l2, _, rfl, ?_⟩
  refine ⟨i + 3, e3, l3, _, rfl, ?_⟩
  refine XW_callS okLaw rfl h180 ?_
  refine call_m (s_act (d := 20) hS) fun v h1 al1 hk hsp => ?_
  obtain ⟨v2, h2, al2, hCtr, ⟨z, q1, q2⟩, hS2⟩ := hk
  subst q1 q2
  refine XW_t4 [965] 80 okLaw ?_
  refine ⟨i + 1, e1, l1, h 180 (i + 1), hsp.1 _ l1, ?_⟩
  refine ⟨i + 2, e2, l2, h 180 (i + 2), hsp.1 _ l2, ?_⟩
  refine ⟨i + 3, e3, l3, h 180 (i + 3), hsp.1 _ l3, ?_⟩
  refine XW_callS okLaw rfl hsp.2 ?_
  refine ⟨some (xi z), h2, al2, hCtr, fun hsp2 => ?_⟩
  refine XW_t4 [1265] 20 okLaw ?_
  refine ite_t rfl ?_
  exact nx h2 al2 hS2 hsp2.2 (fun k hk => by rw [hsp2.1 k hk, hsp.1 k hk])
theorem cs_trace (hS : Sim h al) (h180 : al 180 = true) (hi : i + 6 ≤ ln g 180) (hn : ln g 180 ≤ 3072) (h32 : ∀ k, k < ln g 180 → I32 (h 180 k)) (nx : NxL g h i) : XW g 40 mLaw Qt 973 [some (xr 180), some (xr 0), some (xr 120), some (xi (i : Int))] [] h al := by
  have e1 : wI ((i : Int) + 1) = ((i + 1 : Nat) : Int) := ixW (c := 1) (by omega) (by decide)
  have l1 : i + 1 < ln g 180 := by omega
  refine XW_t4 [979] 80 okLaw ?_
  refine ⟨i + 1, e1, l1, _, rfl, ?_⟩
  refine XW_callS okLaw rfl h180 ?_
  refine call_m (s_trace (d := 36) hS) fun v h1 al1 hk hsp => ?_
  obtain ⟨v2, h2, al2, hCtr, ⟨z, q1, q2⟩, hS2⟩ := hk
  subst q1 q2
  refine XW_t4 [988] 80 okLaw ?_
  refine ⟨i + 1, e1, l1, h 180 (i + 1), hsp.1 _ l1, ?_⟩
  refine XW_callS okLaw rfl hsp.2 ?_
  refine ⟨some (xi z), h2, al2, hCtr, fun hsp2 => ?_⟩
  refine XW_t4 [1265] 20 okLaw ?_
  refine ite_t rfl ?_
  exact nx h2 al2 hS2 hsp2.2 (fun k hk => by rw [hsp2.1 k hk, hsp.1 k hk])
theorem cs_taken (hS : Sim h al) (h180 : al 180 = true) (hi : i + 6 ≤ ln g 180) (hn : ln g 180 ≤ 3072) (h32 : ∀ k, k < ln g 180 → I32 (h 180 k)) (nx : NxL g h i) : XW g 40 mLaw Qt 996 [some (xr 180), some (xr 0), some (xr 120), some (xi (i : Int))] [] h al := by
  have e1 : wI ((i : Int) + 1) = ((i + 1 : Nat) : Int) := ixW (c := 1) (by omega) (by decide)
  have l1 : i + 1 < ln g 180 := by omega
  have e2 : wI ((i : Int) + 2) = ((i + 2 : Nat) : Int) := ixW (c := 2) (by omega) (by decide)
  have l2 : i + 2 < ln g 180 := by omega
  refine XW_t4 [1007] 80 okLaw ?_
  refine ⟨i + 1, e1, l1, _, rfl, ?_⟩
  refine ⟨i + 2, e2, l2, _, rfl, ?_⟩
  refine XW_callS okLaw rfl h180 ?_
  refine call_m (s_taken (d := 31) hS) fun v h1 al1 hk hsp => ?_
  obtain ⟨v2, h2, al2, hCtr, ⟨z, q1, q2⟩, hS2⟩ := hk
  subst q1 q2
  refine XW_t4 [1021] 80 okLaw ?_
  refine ⟨i + 1, e1, l1, h 180 (i + 1), hsp.1 _ l1, ?_⟩
  refine ⟨i + 2, e2, l2, h 180 (i + 2), hsp.1 _ l2, ?_⟩
  refine XW_callS okLaw rfl hsp.2 ?_
  refine ⟨some (xi z), h2, al2, hCtr, fun hsp2 => ?_⟩
  refine XW_t4 [1265] 20 okLaw ?_
  refine ite_t rfl ?_
  exact nx h2 al2 hS2 hsp2.2 (fun k hk => by rw [hsp2.1 k hk, hsp.1 k hk])
theorem cs_count (hS : Sim h al) (h180 : al 180 = true) (hi : i + 6 ≤ ln g 180) (hn : ln g 180 ≤ 3072) (h32 : ∀ k, k < ln g 180 → I32 (h 180 k)) (nx : NxL g h i) : XW g 40 mLaw Qt 1029 [some (xr 180), some (xr 0), some (xr 120), some (xi (i : Int))] [] h al := by
  have e1 : wI ((i : Int) + 1) = ((i + 1 : Nat) : Int) := ixW (c := 1) (by omega) (by decide)
  have l1 : i + 1 < ln g 180 := by omega
  refine XW_t4 [1035] 80 okLaw ?_
  refine ⟨i + 1, e1, l1, _, rfl, ?_⟩
  refine XW_callS okLaw rfl h180 ?_
  refine call_m (s_count (d := 36) hS) fun v h1 al1 hk hsp => ?_
  obtain ⟨v2, h2, al2, hCtr, ⟨z, q1, q2⟩, hS2⟩ := hk
  subst q1 q2
  refine XW_t4 [1044] 80 okLaw ?_
  refine ⟨i + 1, e1, l1, h 180 (i + 1), hsp.1 _ l1, ?_⟩
  refine XW_callS okLaw rfl hsp.2 ?_
  refine ⟨some (xi z), h2, al2, hCtr, fun hsp2 => ?_⟩
  refine XW_t4 [1265] 20 okLaw ?_
  refine ite_t rfl ?_
  exact nx h2 al2 hS2 hsp2.2 (fun k hk => by rw [hsp2.1 k hk, hsp.1 k hk])
theorem cs_tape (hS : Sim h al) (h180 : al 180 = true) (hi : i + 6 ≤ ln g 180) (hn : ln g 180 ≤ 3072) (h32 : ∀ k, k < ln g 180 → I32 (h 180 k)) (nx : NxL g h i) : XW g 40 mLaw Qt 1052 [some (xr 180), some (xr 0), some (xr 120), some (xi (i : Int))] [] h al := by
  have e1 : wI ((i : Int) + 1) = ((i + 1 : Nat) : Int) := ixW (c := 1) (by omega) (by decide)
  have l1 : i + 1 < ln g 180 := by omega
  have e2 : wI ((i : Int) + 2) = ((i + 2 : Nat) : Int) := ixW (c := 2) (by omega) (by decide)
  have l2 : i + 2 < ln g 180 := by omega
  have e3 : wI ((i : Int) + 3) = ((i + 3 : Nat) : Int) := ixW (c := 3) (by omega) (by decide)
  have l3 : i + 3 < ln g 180 := by omega
  refine XW_t4 [1068] 80 okLaw ?_
  refine ⟨i + 1, e1, l1, _, rfl, ?_⟩
  refine ⟨i + 2, e2, l2, _, rfl, ?_⟩
  refine ⟨i + 3, e3, l3, _, rfl, ?_⟩
  refine XW_callS okLaw rfl h180 ?_
  refine call_m (s_tape (d := 36) hS) fun v h1 al1 hk hsp => ?_
  obtain ⟨v2, h2, al2, hCtr, ⟨z, q1, q2⟩, hS2⟩ := hk
  subst q1 q2
  refine XW_t4 [1087] 80 okLaw ?_
  refine ⟨i + 1, e1, l1, h 180 (i + 1), hsp.1 _ l1, ?_⟩
  refine ⟨i + 2, e2, l2, h 180 (i + 2), hsp.1 _ l2, ?_⟩
  refine ⟨i + 3, e3, l3, h 180 (i + 3), hsp.1 _ l3, ?_⟩
  refine XW_callS okLaw rfl hsp.2 ?_
  refine ⟨some (xi z), h2, al2, hCtr, fun hsp2 => ?_⟩
  refine XW_t4 [1265] 20 okLaw ?_
  refine ite_t rfl ?_
  exact nx h2 al2 hS2 hsp2.2 (fun k hk => by rw [hsp2.1 k hk, hsp.1 k hk])
theorem cs_item (hS : Sim h al) (h180 : al 180 = true) (hi : i + 6 ≤ ln g 180) (hn : ln g 180 ≤ 3072) (h32 : ∀ k, k < ln g 180 → I32 (h 180 k)) (nx : NxL g h i) : XW g 40 mLaw Qt 1095 [some (xr 180), some (xr 0), some (xr 120), some (xi (i : Int))] [] h al := by
  have e1 : wI ((i : Int) + 1) = ((i + 1 : Nat) : Int) := ixW (c := 1) (by omega) (by decide)
  have l1 : i + 1 < ln g 180 := by omega
  have e2 : wI ((i : Int) + 2) = ((i + 2 : Nat) : Int) := ixW (c := 2) (by omega) (by decide)
  have l2 : i + 2 < ln g 180 := by omega
  have e3 : wI ((i : Int) + 3) = ((i + 3 : Nat) : Int) := ixW (c := 3) (by omega) (by decide)
  have l3 : i + 3 < ln g 180 := by omega
  have e4 : wI ((i : Int) + 4) = ((i + 4 : Nat) : Int) := ixW (c := 4) (by omega) (by decide)
  have l4 : i + 4 < ln g 180 := by omega
  refine XW_t4 [1126] 80 okLaw ?_
  refine ⟨i + 1, e1, l1, _, rfl, ?_⟩
  refine ⟨i + 2, e2, l2, _, rfl, ?_⟩
  refine ⟨i + 3, e3, l3, _, rfl, ?_⟩
  refine ⟨i + 4, e4, l4, _, rfl, ?_⟩
  refine XW_callS okLaw rfl h180 ?_
  refine call_m (s_item (d := 36) hS) fun v h1 al1 hk hsp => ?_
  obtain ⟨v2, h2, al2, hCtr, ⟨z, q1, q2⟩, hS2⟩ := hk
  subst q1 q2
  refine XW_t4 [1160] 80 okLaw ?_
  refine ⟨i + 1, e1, l1, h 180 (i + 1), hsp.1 _ l1, ?_⟩
  refine ⟨i + 2, e2, l2, h 180 (i + 2), hsp.1 _ l2, ?_⟩
  refine ⟨i + 3, e3, l3, h 180 (i + 3), hsp.1 _ l3, ?_⟩
  refine ⟨i + 4, e4, l4, h 180 (i + 4), hsp.1 _ l4, ?_⟩
  refine XW_callS okLaw rfl hsp.2 ?_
  refine ⟨some (xi z), h2, al2, hCtr, fun hsp2 => ?_⟩
  refine XW_t4 [1265] 20 okLaw ?_
  refine ite_t rfl ?_
  exact nx h2 al2 hS2 hsp2.2 (fun k hk => by rw [hsp2.1 k hk, hsp.1 k hk])
theorem cs_read (hS : Sim h al) (h180 : al 180 = true) (hi : i + 6 ≤ ln g 180) (hn : ln g 180 ≤ 3072) (h32 : ∀ k, k < ln g 180 → I32 (h 180 k)) (nx : NxL g h i) : XW g 40 mLaw Qt 1168 [some (xr 180), some (xr 0), some (xr 120), some (xi (i : Int))] [] h al := by
  have e1 : wI ((i : Int) + 1) = ((i + 1 : Nat) : Int) := ixW (c := 1) (by omega) (by decide)
  have l1 : i + 1 < ln g 180 := by omega
  have e2 : wI ((i : Int) + 2) = ((i + 2 : Nat) : Int) := ixW (c := 2) (by omega) (by decide)
  have l2 : i + 2 < ln g 180 := by omega
  refine XW_t4 [1179] 80 okLaw ?_
  refine ⟨i + 1, e1, l1, _, rfl, ?_⟩
  refine ⟨i + 2, e2, l2, _, rfl, ?_⟩
  refine XW_callS okLaw rfl h180 ?_
  refine call_m (s_read (d := 36) hS) fun v h1 al1 hk hsp => ?_
  obtain ⟨v2, h2, al2, hCtr, ⟨z, q1, q2⟩, hS2⟩ := hk
  subst q1 q2
  refine XW_t4 [1193] 80 okLaw ?_
  refine ⟨i + 1, e1, l1, h 180 (i + 1), hsp.1 _ l1, ?_⟩
  refine ⟨i + 2, e2, l2, h 180 (i + 2), hsp.1 _ l2, ?_⟩
  refine XW_callS okLaw rfl hsp.2 ?_
  refine ⟨some (xl z), h2, al2, hCtr, fun hsp2 => ?_⟩
  refine XW_t4 [1265] 20 okLaw ?_
  refine ite_t (cmpL_same z) ?_
  exact nx h2 al2 hS2 hsp2.2 (fun k hk => by rw [hsp2.1 k hk, hsp.1 k hk])
theorem cs_shift (hS : Sim h al) (h180 : al 180 = true) (hi : i + 6 ≤ ln g 180) (hn : ln g 180 ≤ 3072) (h32 : ∀ k, k < ln g 180 → I32 (h 180 k)) (nx : NxL g h i) : XW g 40 mLaw Qt 1202 [some (xr 180), some (xr 0), some (xr 120), some (xi (i : Int))] [] h al := by
  have e1 : wI ((i : Int) + 1) = ((i + 1 : Nat) : Int) := ixW (c := 1) (by omega) (by decide)
  have l1 : i + 1 < ln g 180 := by omega
  have e2 : wI ((i : Int) + 2) = ((i + 2 : Nat) : Int) := ixW (c := 2) (by omega) (by decide)
  have l2 : i + 2 < ln g 180 := by omega
  have a2 : I32 (h 180 (i + 2)) := h32 _ l2
  have e3 : wI ((i : Int) + 3) = ((i + 3 : Nat) : Int) := ixW (c := 3) (by omega) (by decide)
  have l3 : i + 3 < ln g 180 := by omega
  have e4 : wI ((i : Int) + 4) = ((i + 4 : Nat) : Int) := ixW (c := 4) (by omega) (by decide)
  have l4 : i + 4 < ln g 180 := by omega
  have a4 : I32 (h 180 (i + 4)) := h32 _ l4
  have e5 : wI ((i : Int) + 5) = ((i + 5 : Nat) : Int) := ixW (c := 5) (by omega) (by decide)
  have l5 : i + 5 < ln g 180 := by omega
  have a5 : I32 (h 180 (i + 5)) := h32 _ l5
  refine XW_t4 [1228] 80 okLaw ?_
  refine ⟨i + 1, e1, l1, _, rfl, ?_⟩
  refine ⟨i + 2, e2, l2, _, rfl, ?_⟩
  refine ⟨i + 3, e3, l3, _, rfl, ?_⟩
  refine ⟨i + 4, e4, l4, _, rfl, ?_⟩
  refine ⟨i + 5, e5, l5, _, rfl, ?_⟩
  refine XW_callS okLaw rfl h180 ?_
  refine call_m (s_shift (d := 31) hS a2 a4 a5) fun v h1 al1 hk hsp => ?_
  obtain ⟨v2, h2, al2, hCtr, ⟨z, q1, q2⟩, hS2⟩ := hk
  subst q1 q2
  refine XW_t4 [1257] 80 okLaw ?_
  refine ⟨i + 1, e1, l1, h 180 (i + 1), hsp.1 _ l1, ?_⟩
  refine ⟨i + 2, e2, l2, h 180 (i + 2), hsp.1 _ l2, ?_⟩
  refine ⟨i + 3, e3, l3, h 180 (i + 3), hsp.1 _ l3, ?_⟩
  refine ⟨i + 4, e4, l4, h 180 (i + 4), hsp.1 _ l4, ?_⟩
  refine ⟨i + 5, e5, l5, h 180 (i + 5), hsp.1 _ l5, ?_⟩
  refine XW_callS okLaw rfl hsp.2 ?_
  refine ⟨some (xi z), h2, al2, hCtr, fun hsp2 => ?_⟩
  refine XW_t4 [1265] 20 okLaw ?_
  refine ite_t rfl ?_
  exact nx h2 al2 hS2 hsp2.2 (fun k hk => by rw [hsp2.1 k hk, hsp.1 k hk])
end LW
