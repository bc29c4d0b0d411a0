-- a valley more: what the invariant says then
def updC (V : Nat → List Cl) (v : Nat) (W : List Cl) : Nat → List Cl := fun f => if f = v then W else V f
def TFr (v : Nat) (h h2 : HH) : Prop := ∀ a k, ¬ (a = 40 ∧ 1 ≤ k) → ¬ (86 + 6 * v ≤ a ∧ a ≤ 86 + 6 * v + 4) → ¬ (a = 120 ∧ (k = 18 ∨ k = 19 ∨ k = 20 ∨ k = 29 ∨ k = 30 ∨ k = 31)) → a ≠ 137 → ¬ (a = 136 ∧ 100 * v ≤ k) → ¬ ((132 ≤ a ∧ a ≤ 135) ∧ 10 * v ≤ k) → ¬ (a = 131 ∧ k = v) → ¬ (a = 10 ∧ k = 10) → ¬ (a = 1 ∧ k = 7) → ¬ (a = 120 ∧ (k = 16 ∨ k = 17)) → h2 a k = h a k
section NV
variable {h h2 : HH} {al : AL} {V : Nat → List Cl} {v : Nat} {W : List Cl}
theorem CGs.nv (hC : CGs h al V (v : Int)) (hv : v < 5) (hf : TFr v h h2) : CGs h2 al V (v : Int) := by
  have u : ∀ a k, a = 5 ∨ (80 ≤ a ∧ a ≤ 115 ∧ ¬ (86 + 6 * v ≤ a ∧ a ≤ 86 + 6 * v + 4)) ∨ (230 ≤ a ∧ a ≤ 565) → h2 a k = h a k := fun a k e => hf a k (by omega) (by omega) (by omega) (by omega) (by omega) (by omega) (by omega) (by omega) (by omega) (by omega)
  exact ⟨⟨hC.1.1, hC.1.2.1.fr (fun a k _ _ => u a k (by omega)) (fun k => u _ k (by omega)), fun f hf1 hf2 => (hC.1.2.2 f hf1 hf2).fr (fun a k _ _ => u a k (by omega)) (fun k => u _ k (by omega))⟩, fun p hp => (hC.2 p hp).fr (u _ _ (by omega)) (fun _ _ => rfl) fun a k _ _ => u a k (by omega)⟩
theorem Vw_upd {z : Int} (hz : z < (v : Int)) : Vw (updC V v W) z = Vw V z := by
  unfold Vw updC
  by_cases q : 0 ≤ z ∧ z < 5
  · rw [if_pos q, if_pos q, if_neg (by omega)]
  · rw [if_neg q, if_neg q]
theorem gV_upd {p : Nat} (hv : v < 5) (hz : ∃ z : Int, -1 ≤ z ∧ z < (v : Int) ∧ h (230 + 8 * p) 8 = (vnm z : Int)) : gV h (updC V v W) (230 + 8 * p) = gV h V (230 + 8 * p) := by
  obtain ⟨z, z1, z2, z3⟩ := hz
  unfold gV
  rw [z3, vz_vnm (by omega), Vw_upd z2]
theorem GV.upd {p : Nat} (hv : v < 5) (hS : GV h al V (v : Int) p) : GV h al (updC V v W) ((v + 1 : Nat) : Int) p := by
  rcases hS with s | ⟨s1, s2, s3, s4, s5, s6, s7, s8⟩
  · exact Or.inl s
  · have e := gV_upd (V := V) (W := W) hv s5
    have e2 : tbG h (updC V v W) p = tbG h V p := by
      unfold tbG
      rw [e]
    refine Or.inr ⟨s1, s2, s3, s4, ?_, ?_, ?_, ?_⟩
    · obtain ⟨z, z1, z2, z3⟩ := s5
      exact ⟨z, z1, by omega, z3⟩
    · rw [e]
      exact s6
    · rw [e2]
      exact s7
    · rw [e2]
      exact s8
theorem CGs.add (hC : CGs h al V (v : Int)) (hv : v < 5) (hf : TFr v h h2) (hW : VCl h2 (86 + 6 * v) W) : CGs h2 al (updC V v W) ((v + 1 : Nat) : Int) := by
  obtain ⟨⟨c1, c2, c3⟩, c4⟩ := hC.nv hv hf
  refine ⟨⟨by omega, c2, fun f hf1 hf2 => ?_⟩, fun p hp => (c4 p hp).upd hv⟩
  unfold updC
  by_cases q : f = v
  · rw [if_pos q, q]
    exact hW
  · rw [if_neg q]
    exact c3 f hf1 (by omega)
theorem MVs.nv (hM : MVs h V (v : Int)) (hv : v < 5) (hf : TFr v h h2) : MVs h2 V (v : Int) := fun f hf1 hf2 => by
  obtain ⟨m1, m2, m3⟩ := hM f hf1 hf2
  have u : ∀ a k, ((132 ≤ a ∧ a ≤ 135) ∧ k < 10 * v) ∨ (a = 136 ∧ k < 100 * v) ∨ (a = 131 ∧ k < v) → h2 a k = h a k := fun a k e => hf a k (by omega) (by omega) (by omega) (by omega) (by omega) (by omega) (by omega) (by omega) (by omega) (by omega)
  have hl := m2.1
  refine ⟨(u _ _ (by omega)).trans m1, m2, fun j hj => ?_⟩
  obtain ⟨⟨b1, b2, b3⟩, b4⟩ := m3 j hj
  refine ⟨⟨(u _ _ (by omega)).trans b1, (u _ _ (by omega)).trans b2, fun q => ?_⟩, fun q => ?_⟩
  · obtain ⟨a, a1, a2, a3, a4⟩ := b3 q
    have b5 := b4 q
    rw [a3] at b5
    exact ⟨a, a1, (u _ _ (by omega)).trans a2, (u _ _ (by omega)).trans a3, fun i hi => (u _ _ (by omega)).trans (a4 i hi)⟩
  · rw [u _ _ (by omega)]
    exact b4 q
theorem MVs.add (hM : MVs h V (v : Int)) (hv : v < 5) (hf : TFr v h h2) (h131 : h2 131 v = (W.length : Int)) (hg : gdV W) (hs : sgl W ≤ 100) (hV : VL h2 v W) : MVs h2 (updC V v W) ((v + 1 : Nat) : Int) := fun f hf1 hf2 => by
  unfold updC
  by_cases q : f = v
  · rw [if_pos q, q]
    refine ⟨h131, hg, fun j hj => ⟨(hV j hj).1, fun q2 => ?_⟩⟩
    have := (hV j hj).2 q2
    omega
  · rw [if_neg q]
    exact hM.nv hv hf f hf1 (by omega)
theorem I0.up {n m a b : Int} (h1 : I0 h n m a) (hab : a ≤ b) : I0 h n m b := by
  rcases h1 with q | ⟨q1, q2, q3, q4, ⟨q5, q6, q7⟩, q8⟩
  · exact Or.inl q
  · exact Or.inr ⟨q1, q2, q3, q4, ⟨q5, q6, by omega⟩, q8⟩
theorem Sim.val0 (hS : Sim h al) (hW2 : Wd h2) (hv : v < 5) (e16 : h 120 16 = (v : Int)) (hf : TFr v h h2) (f401 : h2 40 1 = 0) (f18 : h2 120 18 = 0) (f1010 : h2 10 10 = h 10 10) (f17 : h2 1 7 = h 1 7) (f16 : h2 120 16 = h 120 16) (f117 : h2 120 17 = h 120 17) : Sim h2 al := by
  have u : ∀ a k, ¬ (a = 40 ∧ 1 ≤ k) → ¬ (80 ≤ a ∧ a ≤ 115) → ¬ (a = 120 ∧ 18 ≤ k ∧ k ≤ 31) → ¬ (131 ≤ a ∧ a ≤ 137) → h2 a k = h a k := fun a k q1 q2 q3 q4 => by
    by_cases e1 : a = 10 ∧ k = 10
    · rw [e1.1, e1.2, f1010]
    · by_cases e2 : a = 1 ∧ k = 7
      · rw [e2.1, e2.2, f17]
      · by_cases e3 : a = 120 ∧ k = 16
        · rw [e3.1, e3.2, f16]
        · by_cases e4 : a = 120 ∧ k = 17
          · rw [e4.1, e4.2, f117]
          · exact hf a k (by omega) (by omega) (by omega) (by omega) (by omega) (by omega) (by omega) (by omega) (by omega) (by omega)
  have hV := hS.2.2.2.2.2.2.2.2
  obtain ⟨V, v1, v2⟩ := hV.get
  obtain ⟨w1, w2, -⟩ := hV
  rw [e16] at v1 v2
  refine hS.mk2 hW2 (Or.inr fun a k hk => u a k ?_ ?_ ?_ ?_) (Or.inr fun a k hk => u a k ?_ ?_ ?_ ?_) (Or.inr ⟨fun a k hk => u a k ?_ ?_ ?_ ?_, fun _ _ _ => rfl⟩) (Or.inl ⟨⟨f401.trans f18.symm, by rw [f18]; decide, by rw [f18]; decide⟩, fun k _ hk => ?_⟩) (Or.inr fun a k hk => u a k ?_ ?_ ?_ ?_) (Or.inr fun a k hk => u a k ?_ ?_ ?_ ?_) (fun a k hk => u a k ?_ ?_ ?_ ?_) (Or.inl ⟨?_, ?_, V, ?_, ?_⟩)
  rotate_left 12
  · rw [f18] at hk
    exact absurd hk (by omega)
  rotate_left 12
  · rw [f1010, f117, f16]
    exact w1
  · rw [f17, f16]
    exact w2
  · rw [f16, e16]
    exact (v1.nv hv hf).ot fun a k e => rs_in (tV_in (by omega))
  · rw [f16, e16]
    exact (v2.nv hv hf).ot fun a k q1 q2 => rs_in (tV_in (by omega))
  all_goals first
    | (unfold pN at hk; omega)
    | (unfold pI at hk; omega)
    | (unfold pH at hk; omega)
    | (unfold pP at hk; omega)
    | (unfold pC at hk; omega)
    | (unfold pK at hk; omega)
theorem Sim.val1 (hS : Sim h al) (hW2 : Wd h2) (hv : v < 5) (e16 : h 120 16 = (v : Int)) (hf : TFr v h h2) (f401 : h2 40 1 = 0) (f18 : h2 120 18 = 0) (f1010 : h2 10 10 = (v : Int)) (f17 : h2 1 7 = ((v + 1 : Nat) : Int)) (f16 : h2 120 16 = ((v + 1 : Nat) : Int)) (f117 : h2 120 17 = (v : Int))
    (hC2 : VCl h2 (86 + 6 * v) W) (h131 : h2 131 v = (W.length : Int)) (hg : gdV W) (hs : sgl W ≤ 100) (hV2 : VL h2 v W) : Sim h2 al := by
  have u : ∀ a k, ¬ (a = 40 ∧ 1 ≤ k) → ¬ (80 ≤ a ∧ a ≤ 115) → ¬ (a = 120 ∧ 16 ≤ k ∧ k ≤ 31) → ¬ (131 ≤ a ∧ a ≤ 137) → ¬ (a = 10 ∧ k = 10) → ¬ (a = 1 ∧ k = 7) → h2 a k = h a k := fun a k q1 q2 q3 q4 q5 q6 => hf a k (by omega) (by omega) (by omega) (by omega) (by omega) (by omega) (by omega) (by omega) (by omega) (by omega)
  have hV := hS.2.2.2.2.2.2.2.2
  obtain ⟨V, v1, v2⟩ := hV.get
  obtain ⟨w1, w2, -⟩ := hV
  rw [e16] at v1 v2
  have hI : SI h2 := by
    have e : ∀ h n m v, I0 (rs tI h) n m v = I0 h n m v := fun _ _ _ _ => rfl
    have hI := hS.2.2.1
    show I0 h2 _ _ _
    rw [← e, rs_of (h := h) fun a k q => u a k ?_ ?_ ?_ ?_ ?_ ?_, e, u 120 0 (by omega) (by omega) (by omega) (by omega) (by omega) (by omega), u 120 1 (by omega) (by omega) (by omega) (by omega) (by omega) (by omega), f16]
    · refine I0.up (a := h 120 16) hI (by rw [e16]; omega)
    all_goals
      unfold tI inR at q
      simp only [Bool.or_eq_true, Bool.and_eq_true, Nat.ble_eq, Nat.beq_eq] at q
      omega
  refine hS.mk2 hW2 (Or.inr fun a k hk => u a k ?_ ?_ ?_ ?_ ?_ ?_) (Or.inl hI) (Or.inr ⟨fun a k hk => u a k ?_ ?_ ?_ ?_ ?_ ?_, fun _ _ _ => rfl⟩) (Or.inl ⟨⟨f401.trans f18.symm, by rw [f18]; decide, by rw [f18]; decide⟩, fun k _ hk => ?_⟩) (Or.inr fun a k hk => u a k ?_ ?_ ?_ ?_ ?_ ?_) (Or.inr fun a k hk => u a k ?_ ?_ ?_ ?_ ?_ ?_) (fun a k hk => u a k ?_ ?_ ?_ ?_ ?_ ?_) (Or.inl ⟨?_, ?_, updC V v W, ?_, ?_⟩)
  rotate_left 12
  · rw [f18] at hk
    exact absurd hk (by omega)
  rotate_left 18
  · rw [f1010, f117, f16]
    omega
  · rw [f17, f16]
    omega
  · rw [f16]
    exact (v1.add hv hf hC2).ot fun a k e => rs_in (tV_in (by omega))
  · rw [f16]
    exact (v2.add hv hf h131 hg hs hV2).ot fun a k q1 q2 => rs_in (tV_in (by omega))
  all_goals first
    | (unfold pN at hk; omega)
    | (unfold pH at hk; omega)
    | (unfold pP at hk; omega)
    | (unfold pC at hk; omega)
    | (unfold pK at hk; omega)
end NV
