-- a world becomes another
theorem cpy_at {h : HH} {o1 o2 n k : Nat} (hk : k < n) : cpyH h o1 0 o2 0 n o2 k = h o1 k := by
  unfold cpyH
  rw [Nat.beq_refl, show Nat.ble 0 k = true from Nat.ble_eq.mpr (Nat.zero_le _), show Nat.blt k (0 + n) = true from Nat.ble_eq.mpr (by omega)]
  show h o1 (0 + (k - 0)) = h o1 k
  rw [Nat.zero_add, Nat.sub_zero]
theorem cpy_ne {h : HH} {o1 o2 n a k : Nat} (hk : a ≠ o2) : cpyH h o1 0 o2 0 n a k = h a k := by
  unfold cpyH
  rw [nbf hk]
  rfl
/-- dst is as src was -/
def BCf (dst src : Nat) (h h2 : HH) : Prop := (∀ a k, ¬ (dst + 1 ≤ a ∧ a ≤ dst + 5) → ¬ (a = dst ∧ 5 ≤ k ∧ k ≤ 10) → h2 a k = h a k) ∧
  (∀ k, k < 6 → h2 (dst + 1) k = h (src + 1) k ∧ h2 (dst + 2) k = h (src + 2) k ∧ h2 (dst + 3) k = h (src + 3) k ∧ h2 (dst + 4) k = h (src + 4) k) ∧ (∀ k, k < 12 → h2 (dst + 5) k = h (src + 5) k) ∧
  (h2 dst 5 = h src 5 ∧ h2 dst 6 = h src 6 ∧ h2 dst 7 = h src 7 ∧ h2 dst 8 = h src 8 ∧ h2 dst 9 = h src 9 ∧ h2 dst 10 = h src 10)
section BC
variable {g : GC} {d : Nat} {h : HH} {al : AL} {K : KT}
set_option maxRecDepth 20000 in
theorem c_become_an (hW : Wd h) (hK : ∀ h2 : HH, BCf 20 10 h h2 → Wd h2 → K none h2 al) : Call g (d + 1) yWo_become [xr 20, xr 10] h al K := by
  have e : ∀ (z5 z6 z7 z8 z9 z10 : Int) (h2 : HH), h2 = uH (uH (uH (uH (uH (uH (cpyH (cpyH (cpyH (cpyH (cpyH h 11 0 21 0 6) 12 0 22 0 6) 13 0 23 0 6) 14 0 24 0 6) 15 0 25 0 12) 20 5 z5) 20 6 z6) 20 7 z7) 20 8 z8) 20 9 z9) 20 10 z10 → z5 = h 10 5 → z6 = h 10 6 → z7 = h 10 7 → z8 = h 10 8 → z9 = h 10 9 → z10 = h 10 10 → K none h2 al := by
    intro z5 z6 z7 z8 z9 z10 h2 e e5 e6 e7 e8 e9 e10
    subst e
    have b : BCf 20 10 h (uH (uH (uH (uH (uH (uH (cpyH (cpyH (cpyH (cpyH (cpyH h 11 0 21 0 6) 12 0 22 0 6) 13 0 23 0 6) 14 0 24 0 6) 15 0 25 0 12) 20 5 z5) 20 6 z6) 20 7 z7) 20 8 z8) 20 9 z9) 20 10 z10) := by
      refine ⟨fun a k q1 q2 => ?_, fun k hk => ⟨?_, ?_, ?_, ?_⟩, fun k hk => ?_, ?_, ?_, ?_, ?_, ?_, ?_⟩
      · rw [uH_ne (by omega), uH_ne (by omega), uH_ne (by omega), uH_ne (by omega), uH_ne (by omega), uH_ne (by omega), cpy_ne (by omega), cpy_ne (by omega), cpy_ne (by omega), cpy_ne (by omega), cpy_ne (by omega)]
      · rw [uH_ne (by omega), uH_ne (by omega), uH_ne (by omega), uH_ne (by omega), uH_ne (by omega), uH_ne (by omega), cpy_ne (by omega), cpy_ne (by omega), cpy_ne (by omega), cpy_ne (by omega)]
        exact cpy_at hk
      · rw [uH_ne (by omega), uH_ne (by omega), uH_ne (by omega), uH_ne (by omega), uH_ne (by omega), uH_ne (by omega), cpy_ne (by omega), cpy_ne (by omega), cpy_ne (by omega)]
        exact (cpy_at hk).trans (cpy_ne (by omega))
      · rw [uH_ne (by omega), uH_ne (by omega), uH_ne (by omega), uH_ne (by omega), uH_ne (by omega), uH_ne (by omega), cpy_ne (by omega), cpy_ne (by omega)]
        exact (cpy_at hk).trans ((cpy_ne (by omega)).trans (cpy_ne (by omega)))
      · rw [uH_ne (by omega), uH_ne (by omega), uH_ne (by omega), uH_ne (by omega), uH_ne (by omega), uH_ne (by omega), cpy_ne (by omega)]
        exact (cpy_at hk).trans ((cpy_ne (by omega)).trans ((cpy_ne (by omega)).trans (cpy_ne (by omega))))
      · rw [uH_ne (by omega), uH_ne (by omega), uH_ne (by omega), uH_ne (by omega), uH_ne (by omega), uH_ne (by omega)]
        exact (cpy_at hk).trans ((cpy_ne (by omega)).trans ((cpy_ne (by omega)).trans ((cpy_ne (by omega)).trans (cpy_ne (by omega)))))
      · rw [uH_ne (by omega), uH_ne (by omega), uH_ne (by omega), uH_ne (by omega), uH_ne (by omega), uH_at]; exact e5
      · rw [uH_ne (by omega), uH_ne (by omega), uH_ne (by omega), uH_ne (by omega), uH_at]; exact e6
      · rw [uH_ne (by omega), uH_ne (by omega), uH_ne (by omega), uH_at]; exact e7
      · rw [uH_ne (by omega), uH_ne (by omega), uH_at]; exact e8
      · rw [uH_ne (by omega), uH_at]; exact e9
      · rw [uH_at]; exact e10
    refine hK _ b (hW.of fun a k hk => b.1 a k ?_ ?_)
    · rintro ⟨q1, q2⟩
      have : a = 21 ∨ a = 22 ∨ a = 23 ∨ a = 24 ∨ a = 25 := by omega
      rcases this with rfl | rfl | rfl | rfl | rfl <;> exact hk (by show (-9 : Int) < 0; decide)
    · rintro ⟨rfl, q1, q2⟩
      have : k = 5 ∨ k = 6 ∨ k = 7 ∨ k = 8 ∨ k = 9 ∨ k = 10 := by omega
      rcases this with rfl | rfl | rfl | rfl | rfl | rfl <;> exact hk (by decide)
  obtain ⟨h0, rfl⟩ := id hW
  refine cof ocWo_become rfl (XW_t4 [] 100 okWo_become ?_)
  refine ⟨⟨by decide, by decide, by decide, by show (0 : Int) + 6 ≤ 6; decide, by show (0 : Int) + 6 ≤ 6; decide⟩, ?_⟩
  refine ⟨⟨by decide, by decide, by decide, by show (0 : Int) + 6 ≤ 6; decide, by show (0 : Int) + 6 ≤ 6; decide⟩, ?_⟩
  refine ⟨⟨by decide, by decide, by decide, by show (0 : Int) + 6 ≤ 6; decide, by show (0 : Int) + 6 ≤ 6; decide⟩, ?_⟩
  refine ⟨⟨by decide, by decide, by decide, by show (0 : Int) + 6 ≤ 6; decide, by show (0 : Int) + 6 ≤ 6; decide⟩, ?_⟩
  refine ⟨⟨by decide, by decide, by decide, by show (0 : Int) + 12 ≤ 12; decide, by show (0 : Int) + 12 ≤ 12; decide⟩, ?_⟩
  exact e _ _ _ _ _ _ _ rfl rfl rfl rfl rfl rfl rfl
set_option maxRecDepth 20000 in
theorem c_become_in (hW : Wd h) (hK : ∀ h2 : HH, BCf 30 10 h h2 → Wd h2 → K none h2 al) : Call g (d + 1) yWo_become [xr 30, xr 10] h al K := by
  have e : ∀ (z5 z6 z7 z8 z9 z10 : Int) (h2 : HH), h2 = uH (uH (uH (uH (uH (uH (cpyH (cpyH (cpyH (cpyH (cpyH h 11 0 31 0 6) 12 0 32 0 6) 13 0 33 0 6) 14 0 34 0 6) 15 0 35 0 12) 30 5 z5) 30 6 z6) 30 7 z7) 30 8 z8) 30 9 z9) 30 10 z10 → z5 = h 10 5 → z6 = h 10 6 → z7 = h 10 7 → z8 = h 10 8 → z9 = h 10 9 → z10 = h 10 10 → K none h2 al := by
    intro z5 z6 z7 z8 z9 z10 h2 e e5 e6 e7 e8 e9 e10
    subst e
    have b : BCf 30 10 h (uH (uH (uH (uH (uH (uH (cpyH (cpyH (cpyH (cpyH (cpyH h 11 0 31 0 6) 12 0 32 0 6) 13 0 33 0 6) 14 0 34 0 6) 15 0 35 0 12) 30 5 z5) 30 6 z6) 30 7 z7) 30 8 z8) 30 9 z9) 30 10 z10) := by
      refine ⟨fun a k q1 q2 => ?_, fun k hk => ⟨?_, ?_, ?_, ?_⟩, fun k hk => ?_, ?_, ?_, ?_, ?_, ?_, ?_⟩
      · rw [uH_ne (by omega), uH_ne (by omega), uH_ne (by omega), uH_ne (by omega), uH_ne (by omega), uH_ne (by omega), cpy_ne (by omega), cpy_ne (by omega), cpy_ne (by omega), cpy_ne (by omega), cpy_ne (by omega)]
      · rw [uH_ne (by omega), uH_ne (by omega), uH_ne (by omega), uH_ne (by omega), uH_ne (by omega), uH_ne (by omega), cpy_ne (by omega), cpy_ne (by omega), cpy_ne (by omega), cpy_ne (by omega)]
        exact cpy_at hk
      · rw [uH_ne (by omega), uH_ne (by omega), uH_ne (by omega), uH_ne (by omega), uH_ne (by omega), uH_ne (by omega), cpy_ne (by omega), cpy_ne (by omega), cpy_ne (by omega)]
        exact (cpy_at hk).trans (cpy_ne (by omega))
      · rw [uH_ne (by omega), uH_ne (by omega), uH_ne (by omega), uH_ne (by omega), uH_ne (by omega), uH_ne (by omega), cpy_ne (by omega), cpy_ne (by omega)]
        exact (cpy_at hk).trans ((cpy_ne (by omega)).trans (cpy_ne (by omega)))
      · rw [uH_ne (by omega), uH_ne (by omega), uH_ne (by omega), uH_ne (by omega), uH_ne (by omega), uH_ne (by omega), cpy_ne (by omega)]
        exact (cpy_at hk).trans ((cpy_ne (by omega)).trans ((cpy_ne (by omega)).trans (cpy_ne (by omega))))
      · rw [uH_ne (by omega), uH_ne (by omega), uH_ne (by omega), uH_ne (by omega), uH_ne (by omega), uH_ne (by omega)]
        exact (cpy_at hk).trans ((cpy_ne (by omega)).trans ((cpy_ne (by omega)).trans ((cpy_ne (by omega)).trans (cpy_ne (by omega)))))
      · rw [uH_ne (by omega), uH_ne (by omega), uH_ne (by omega), uH_ne (by omega), uH_ne (by omega), uH_at]; exact e5
      · rw [uH_ne (by omega), uH_ne (by omega), uH_ne (by omega), uH_ne (by omega), uH_at]; exact e6
      · rw [uH_ne (by omega), uH_ne (by omega), uH_ne (by omega), uH_at]; exact e7
      · rw [uH_ne (by omega), uH_ne (by omega), uH_at]; exact e8
      · rw [uH_ne (by omega), uH_at]; exact e9
      · rw [uH_at]; exact e10
    refine hK _ b (hW.of fun a k hk => b.1 a k ?_ ?_)
    · rintro ⟨q1, q2⟩
      have : a = 31 ∨ a = 32 ∨ a = 33 ∨ a = 34 ∨ a = 35 := by omega
      rcases this with rfl | rfl | rfl | rfl | rfl <;> exact hk (by show (-9 : Int) < 0; decide)
    · rintro ⟨rfl, q1, q2⟩
      have : k = 5 ∨ k = 6 ∨ k = 7 ∨ k = 8 ∨ k = 9 ∨ k = 10 := by omega
      rcases this with rfl | rfl | rfl | rfl | rfl | rfl <;> exact hk (by decide)
  obtain ⟨h0, rfl⟩ := id hW
  refine cof ocWo_become rfl (XW_t4 [] 100 okWo_become ?_)
  refine ⟨⟨by decide, by decide, by decide, by show (0 : Int) + 6 ≤ 6; decide, by show (0 : Int) + 6 ≤ 6; decide⟩, ?_⟩
  refine ⟨⟨by decide, by decide, by decide, by show (0 : Int) + 6 ≤ 6; decide, by show (0 : Int) + 6 ≤ 6; decide⟩, ?_⟩
  refine ⟨⟨by decide, by decide, by decide, by show (0 : Int) + 6 ≤ 6; decide, by show (0 : Int) + 6 ≤ 6; decide⟩, ?_⟩
  refine ⟨⟨by decide, by decide, by decide, by show (0 : Int) + 6 ≤ 6; decide, by show (0 : Int) + 6 ≤ 6; decide⟩, ?_⟩
  refine ⟨⟨by decide, by decide, by decide, by show (0 : Int) + 12 ≤ 12; decide, by show (0 : Int) + 12 ≤ 12; decide⟩, ?_⟩
  exact e _ _ _ _ _ _ _ rfl rfl rfl rfl rfl rfl rfl
set_option maxRecDepth 20000 in
theorem c_become_ni (hW : Wd h) (hK : ∀ h2 : HH, BCf 10 30 h h2 → Wd h2 → K none h2 al) : Call g (d + 1) yWo_become [xr 10, xr 30] h al K := by
  have e : ∀ (z5 z6 z7 z8 z9 z10 : Int) (h2 : HH), h2 = uH (uH (uH (uH (uH (uH (cpyH (cpyH (cpyH (cpyH (cpyH h 31 0 11 0 6) 32 0 12 0 6) 33 0 13 0 6) 34 0 14 0 6) 35 0 15 0 12) 10 5 z5) 10 6 z6) 10 7 z7) 10 8 z8) 10 9 z9) 10 10 z10 → z5 = h 30 5 → z6 = h 30 6 → z7 = h 30 7 → z8 = h 30 8 → z9 = h 30 9 → z10 = h 30 10 → K none h2 al := by
    intro z5 z6 z7 z8 z9 z10 h2 e e5 e6 e7 e8 e9 e10
    subst e
    have b : BCf 10 30 h (uH (uH (uH (uH (uH (uH (cpyH (cpyH (cpyH (cpyH (cpyH h 31 0 11 0 6) 32 0 12 0 6) 33 0 13 0 6) 34 0 14 0 6) 35 0 15 0 12) 10 5 z5) 10 6 z6) 10 7 z7) 10 8 z8) 10 9 z9) 10 10 z10) := by
      refine ⟨fun a k q1 q2 => ?_, fun k hk => ⟨?_, ?_, ?_, ?_⟩, fun k hk => ?_, ?_, ?_, ?_, ?_, ?_, ?_⟩
      · rw [uH_ne (by omega), uH_ne (by omega), uH_ne (by omega), uH_ne (by omega), uH_ne (by omega), uH_ne (by omega), cpy_ne (by omega), cpy_ne (by omega), cpy_ne (by omega), cpy_ne (by omega), cpy_ne (by omega)]
      · rw [uH_ne (by omega), uH_ne (by omega), uH_ne (by omega), uH_ne (by omega), uH_ne (by omega), uH_ne (by omega), cpy_ne (by omega), cpy_ne (by omega), cpy_ne (by omega), cpy_ne (by omega)]
        exact cpy_at hk
      · rw [uH_ne (by omega), uH_ne (by omega), uH_ne (by omega), uH_ne (by omega), uH_ne (by omega), uH_ne (by omega), cpy_ne (by omega), cpy_ne (by omega), cpy_ne (by omega)]
        exact (cpy_at hk).trans (cpy_ne (by omega))
      · rw [uH_ne (by omega), uH_ne (by omega), uH_ne (by omega), uH_ne (by omega), uH_ne (by omega), uH_ne (by omega), cpy_ne (by omega), cpy_ne (by omega)]
        exact (cpy_at hk).trans ((cpy_ne (by omega)).trans (cpy_ne (by omega)))
      · rw [uH_ne (by omega), uH_ne (by omega), uH_ne (by omega), uH_ne (by omega), uH_ne (by omega), uH_ne (by omega), cpy_ne (by omega)]
        exact (cpy_at hk).trans ((cpy_ne (by omega)).trans ((cpy_ne (by omega)).trans (cpy_ne (by omega))))
      · rw [uH_ne (by omega), uH_ne (by omega), uH_ne (by omega), uH_ne (by omega), uH_ne (by omega), uH_ne (by omega)]
        exact (cpy_at hk).trans ((cpy_ne (by omega)).trans ((cpy_ne (by omega)).trans ((cpy_ne (by omega)).trans (cpy_ne (by omega)))))
      · rw [uH_ne (by omega), uH_ne (by omega), uH_ne (by omega), uH_ne (by omega), uH_ne (by omega), uH_at]; exact e5
      · rw [uH_ne (by omega), uH_ne (by omega), uH_ne (by omega), uH_ne (by omega), uH_at]; exact e6
      · rw [uH_ne (by omega), uH_ne (by omega), uH_ne (by omega), uH_at]; exact e7
      · rw [uH_ne (by omega), uH_ne (by omega), uH_at]; exact e8
      · rw [uH_ne (by omega), uH_at]; exact e9
      · rw [uH_at]; exact e10
    refine hK _ b (hW.of fun a k hk => b.1 a k ?_ ?_)
    · rintro ⟨q1, q2⟩
      have : a = 11 ∨ a = 12 ∨ a = 13 ∨ a = 14 ∨ a = 15 := by omega
      rcases this with rfl | rfl | rfl | rfl | rfl <;> exact hk (by show (-9 : Int) < 0; decide)
    · rintro ⟨rfl, q1, q2⟩
      have : k = 5 ∨ k = 6 ∨ k = 7 ∨ k = 8 ∨ k = 9 ∨ k = 10 := by omega
      rcases this with rfl | rfl | rfl | rfl | rfl | rfl <;> exact hk (by decide)
  obtain ⟨h0, rfl⟩ := id hW
  refine cof ocWo_become rfl (XW_t4 [] 100 okWo_become ?_)
  refine ⟨⟨by decide, by decide, by decide, by show (0 : Int) + 6 ≤ 6; decide, by show (0 : Int) + 6 ≤ 6; decide⟩, ?_⟩
  refine ⟨⟨by decide, by decide, by decide, by show (0 : Int) + 6 ≤ 6; decide, by show (0 : Int) + 6 ≤ 6; decide⟩, ?_⟩
  refine ⟨⟨by decide, by decide, by decide, by show (0 : Int) + 6 ≤ 6; decide, by show (0 : Int) + 6 ≤ 6; decide⟩, ?_⟩
  refine ⟨⟨by decide, by decide, by decide, by show (0 : Int) + 6 ≤ 6; decide, by show (0 : Int) + 6 ≤ 6; decide⟩, ?_⟩
  refine ⟨⟨by decide, by decide, by decide, by show (0 : Int) + 12 ≤ 12; decide, by show (0 : Int) + 12 ≤ 12; decide⟩, ?_⟩
  exact e _ _ _ _ _ _ _ rfl rfl rfl rfl rfl rfl rfl
end BC
/-- what years of the world itself change beside -/
def nwq (a k : Nat) : Prop := qp a k ∨ (11 ≤ a ∧ a ≤ 13) ∨ (a = 10 ∧ 7 ≤ k ∧ k ≤ 9) ∨ a = 121 ∨ a = 122 ∨ a = 125 ∨ a = 126 ∨ (a = 120 ∧ 3 ≤ k ∧ k ≤ 4)
theorem Sim.qn {h h2 : HH} {al al2 : AL} {V : Nat → List Cl} (hS : Sim h al) (hM : MVs h V (h 120 16)) (hf : ∀ a k, ¬ nwq a k → h2 a k = h a k) (ha : ∀ a, a < 230 → al2 a = al a) (hW2 : Wd h2) (hN2 : SN h2) (hC : CGs h2 al2 V (h 120 16)) : Sim h2 al2 := by
  obtain ⟨hW, hN, hI, hH, hT, hP, hC0, hK, hV⟩ := hS
  have f : ∀ a k, ¬ nwq a k → h2 a k = h a k := hf
  have f3 : ∀ k, k = 0 ∨ k = 1 ∨ k = 16 ∨ k = 17 → h2 120 k = h 120 k := fun k e => f 120 k (by unfold nwq qp; omega)
  refine ⟨hW2, hN2, ?_, ?_, ?_, ?_, ?_, ?_, ?_⟩
  · have e : ∀ h n m v, I0 (rs tI h) n m v = I0 h n m v := fun _ _ _ _ => rfl
    show I0 h2 _ _ _
    rw [← e, rs_of (h := h) fun a k q => f a k ?_, e, f3 0 (by decide), f3 1 (by decide), f3 16 (by decide)]
    · exact hI
    · unfold tI inR at q
      simp only [Bool.or_eq_true, Bool.and_eq_true, Nat.ble_eq, Nat.beq_eq] at q
      unfold nwq qp
      omega
  · show H0 (rs tH h2) al2 _
    rw [rs_of (h := h) fun a k q => f a k ?_, f3 1 (by decide)]
    · intro i hi
      refine ⟨(hH i hi).1, fun q => ?_⟩
      obtain ⟨b1, b2, b3⟩ := (hH i hi).2 q
      exact ⟨b1, b2, fun j hj => (ha _ (by omega)).trans (b3 j hj)⟩
    · unfold tH inR at q
      simp only [Bool.or_eq_true, Bool.and_eq_true, Nat.ble_eq, Nat.beq_eq] at q
      unfold nwq qp
      omega
  · have e : ∀ h, T0 (rs tT h) = T0 h := fun _ => rfl
    show T0 h2
    rw [← e, rs_of (h := h) fun a k q => f a k ?_, e]
    · exact hT
    · unfold tT at q
      simp only [Bool.or_eq_true, Bool.and_eq_true, Nat.ble_eq, Nat.beq_eq] at q
      unfold nwq qp
      omega
  · show P0 (rs tP h2)
    rw [rs_of (h := h) fun a k q => f a k ?_]
    · exact hP
    · unfold tP inR at q
      simp only [Bool.or_eq_true, Bool.and_eq_true, Nat.ble_eq, Nat.beq_eq] at q
      unfold nwq qp
      omega
  · have e : ∀ h, C0 (rs tC h) = C0 h := fun _ => rfl
    show C0 h2
    rw [← e, rs_of (h := h) fun a k q => f a k ?_, e]
    · exact hC0
    · unfold tC at q
      simp only [Bool.or_eq_true, Bool.and_eq_true, Nat.ble_eq, Nat.beq_eq] at q
      unfold nwq qp
      omega
  · have e : ∀ h, K0 (rs tK h) = K0 h := fun _ => rfl
    show K0 h2
    rw [← e, rs_of (h := h) fun a k q => f a k ?_, e]
    · exact hK
    · unfold tK inR at q
      simp only [Bool.or_eq_true, Bool.and_eq_true, Nat.ble_eq, Nat.beq_eq] at q
      unfold nwq qp
      omega
  · obtain ⟨v1, v2, -⟩ := hV
    refine ⟨?_, ?_, V, ?_, ?_⟩
    · rw [f 10 10 (by unfold nwq qp; omega), f3 17 (by decide), f3 16 (by decide)]
      exact v1
    · rw [f 1 7 (by unfold nwq qp; omega), f3 16 (by decide)]
      exact v2
    · rw [f3 16 (by decide)]
      exact hC.ot fun a k e => rs_in (tV_in (by omega))
    · rw [f3 16 (by decide)]
      exact hM.ot fun a k q1 q2 => (rs_in (tV_in (by omega))).trans (f a k (by unfold nwq qp; omega))
