-- the invariant put together from its parts
def pN (a k : Nat) : Prop := (11 ≤ a ∧ a ≤ 15) ∨ a = 121 ∨ a = 122 ∨ a = 125 ∨ a = 126 ∨ a = 128 ∨ a = 129 ∨ (a = 1 ∧ 5 ≤ k ∧ k ≤ 6) ∨ (a = 10 ∧ 5 ≤ k ∧ k ≤ 9) ∨ (a = 120 ∧ k ≤ 6)
def pI (a k : Nat) : Prop := (31 ≤ a ∧ a ≤ 35) ∨ (156 ≤ a ∧ a ≤ 161) ∨ (a = 0 ∧ k = 4) ∨ (a = 30 ∧ 5 ≤ k ∧ k ≤ 10) ∨ (a = 120 ∧ 54 ≤ k ∧ k ≤ 62) ∨ (a = 120 ∧ (k = 0 ∨ k = 1 ∨ k = 16))
def pH (a k : Nat) : Prop := (2 ≤ a ∧ a ≤ 3) ∨ (200 ≤ a ∧ a ≤ 223) ∨ a = 123 ∨ a = 124 ∨ a = 127 ∨ (a = 120 ∧ k = 1)
def pT (a k : Nat) : Prop := a = 41 ∨ a = 130 ∨ (a = 40 ∧ k = 1) ∨ (a = 120 ∧ k = 18)
def pP (a _k : Nat) : Prop := (66 ≤ a ∧ a ≤ 77) ∨ (163 ≤ a ∧ a ≤ 165)
def pC (a k : Nat) : Prop := a = 61 ∨ a = 162 ∨ (a = 60 ∧ k = 1) ∨ (a = 120 ∧ k = 69)
def pK (a _k : Nat) : Prop := (181 ≤ a ∧ a ≤ 182) ∨ a = 138
def pV (a k : Nat) : Prop := a = 5 ∨ (80 ≤ a ∧ a ≤ 115) ∨ (131 ≤ a ∧ a ≤ 136) ∨ (230 ≤ a ∧ a ≤ 565) ∨ (a = 10 ∧ k = 10) ∨ (a = 1 ∧ k = 7) ∨ (a = 120 ∧ (k = 16 ∨ k = 17))
theorem Sim.mk2 {h h2 : HH} {al al2 : AL} (hS : Sim h al) (hW2 : Wd h2) (h1 : SN h2 ∨ ∀ a k, pN a k → h2 a k = h a k) (h3 : SI h2 ∨ ∀ a k, pI a k → h2 a k = h a k) (h4 : SH h2 al2 ∨ ((∀ a k, pH a k → h2 a k = h a k) ∧ ∀ a, 200 ≤ a → a ≤ 223 → al2 a = al a)) (h5 : ST h2 ∨ ∀ a k, pT a k → h2 a k = h a k) (h6 : SP h2 ∨ ∀ a k, pP a k → h2 a k = h a k) (h7 : SC h2 ∨ ∀ a k, pC a k → h2 a k = h a k) (h8 : ∀ a k, pK a k → h2 a k = h a k) (h9 : SV h2 al2 ∨ ((∀ a k, pV a k → h2 a k = h a k) ∧ ∀ a, 230 ≤ a → al2 a = al a)) : Sim h2 al2 := by
  obtain ⟨hW, hN, hI, hH, hT, hP, hC0, hK, hV⟩ := hS
  refine ⟨hW2, ?_, ?_, ?_, ?_, ?_, ?_, ?_, ?_⟩
  · rcases h1 with q | f
    · exact q
    · have e : ∀ h, N0 (rs tN h) = N0 h := fun _ => rfl
      show N0 h2
      rw [← e, rs_of (h := h) fun a k q => f a k ?_, e]
      · exact hN
      · unfold tN inR at q
        simp only [Bool.or_eq_true, Bool.and_eq_true, Nat.ble_eq, Nat.beq_eq] at q
        unfold pN
        omega
  · rcases h3 with q | f
    · exact q
    · have e : ∀ h n m v, I0 (rs tI h) n m v = I0 h n m v := fun _ _ _ _ => rfl
      show I0 h2 _ _ _
      rw [← e, rs_of (h := h) fun a k q => f a k ?_, e, f 120 0 (by unfold pI; omega), f 120 1 (by unfold pI; omega), f 120 16 (by unfold pI; omega)]
      · exact hI
      · unfold tI inR at q
        simp only [Bool.or_eq_true, Bool.and_eq_true, Nat.ble_eq, Nat.beq_eq] at q
        unfold pI
        omega
  · rcases h4 with q | ⟨f, ha⟩
    · exact q
    · show H0 (rs tH h2) al2 _
      rw [rs_of (h := h) fun a k q => f a k ?_, f 120 1 (by unfold pH; omega)]
      · intro i hi
        refine ⟨(hH i hi).1, fun q => ?_⟩
        obtain ⟨b1, b2, b3⟩ := (hH i hi).2 q
        exact ⟨b1, b2, fun j hj => (ha _ (by omega) (by omega)).trans (b3 j hj)⟩
      · unfold tH inR at q
        simp only [Bool.or_eq_true, Bool.and_eq_true, Nat.ble_eq, Nat.beq_eq] at q
        unfold pH
        omega
  · rcases h5 with q | f
    · exact q
    · have e : ∀ h, T0 (rs tT h) = T0 h := fun _ => rfl
      show T0 h2
      rw [← e, rs_of (h := h) fun a k q => f a k ?_, e]
      · exact hT
      · unfold tT at q
        simp only [Bool.or_eq_true, Bool.and_eq_true, Nat.ble_eq, Nat.beq_eq] at q
        unfold pT
        omega
  · rcases h6 with q | f
    · exact q
    · show P0 (rs tP h2)
      rw [rs_of (h := h) fun a k q => f a k ?_]
      · exact hP
      · unfold tP inR at q
        simp only [Bool.or_eq_true, Bool.and_eq_true, Nat.ble_eq, Nat.beq_eq] at q
        unfold pP
        omega
  · rcases h7 with q | f
    · exact q
    · have e : ∀ h, C0 (rs tC h) = C0 h := fun _ => rfl
      show C0 h2
      rw [← e, rs_of (h := h) fun a k q => f a k ?_, e]
      · exact hC0
      · unfold tC at q
        simp only [Bool.or_eq_true, Bool.and_eq_true, Nat.ble_eq, Nat.beq_eq] at q
        unfold pC
        omega
  · have e : ∀ h, K0 (rs tK h) = K0 h := fun _ => rfl
    show K0 h2
    rw [← e, rs_of (h := h) fun a k q => h8 a k ?_, e]
    · exact hK
    · unfold tK inR at q
      simp only [Bool.or_eq_true, Bool.and_eq_true, Nat.ble_eq, Nat.beq_eq] at q
      unfold pK
      omega
  · rcases h9 with q | ⟨f, ha⟩
    · exact q
    · obtain ⟨V, v3, v4⟩ := hV.get
      obtain ⟨v1, v2, -⟩ := hV
      refine ⟨?_, ?_, V, ?_, ?_⟩
      · rw [f 10 10 (by unfold pV; omega), f 120 17 (by unfold pV; omega), f 120 16 (by unfold pV; omega)]
        exact v1
      · rw [f 1 7 (by unfold pV; omega), f 120 16 (by unfold pV; omega)]
        exact v2
      · rw [f 120 16 (by unfold pV; omega)]
        have hC2 : CGs h2 al2 V (h 120 16) := ⟨⟨v3.1.1, v3.1.2.1.fr (fun a k _ _ => f a k (by unfold pV; omega)) (fun k => f _ k (by unfold pV; omega)), fun i hi hi2 => (v3.1.2.2 i hi hi2).fr (fun a k _ _ => f a k (by unfold pV; omega)) (fun k => f _ k (by unfold pV; omega))⟩, fun p hp => (v3.2 p hp).fr (f _ _ (by unfold pV; omega)) (fun j hj => ha _ (by omega)) fun a k _ _ => f a k (by unfold pV; omega)⟩
        exact hC2.ot fun a k e => rs_in (tV_in (by omega))
      · rw [f 120 16 (by unfold pV; omega)]
        exact v4.ot fun a k q1 q2 => (rs_in (tV_in (by omega))).trans (f a k (by unfold pV; omega))
