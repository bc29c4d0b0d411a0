-- shift: the reference
section Q29
variable {g : GC} {d : Nat} {h : HH} {al : AL} {K : KT}
theorem c_shM {a b : Nat} {i j n : Int} (hW : Wd h) (hza : 0 ≤ h 164 a ∧ h 164 a ≤ 60) (hzb : 0 ≤ h 164 b ∧ h 164 b ≤ 60) (ha : a < 6) (hb : b < 6) (hn : I32 n) (h11 : (h 163 a < 0 ∨ h 163 b < 0) → K (some (xi (-11))) h al) (h12 : ¬ (h 163 a < 0 ∨ h 163 b < 0) → h 163 a ≠ h 163 b → K (some (xi (-12))) h al) (h13 : ¬ (h 163 a < 0 ∨ h 163 b < 0) → h 163 a = h 163 b → ¬ ((0 ≤ i ∧ 0 ≤ n ∧ i + n ≤ h 164 a) ∧ (0 ≤ j ∧ 0 ≤ n ∧ j + n ≤ h 164 b)) → K (some (xi (-13))) h al) (hg : ¬ (h 163 a < 0 ∨ h 163 b < 0) → h 163 a = h 163 b → ∀ i2 j2 n2 : Nat, i = (i2 : Int) → j = (j2 : Int) → n = (n2 : Int) → i2 + n2 ≤ 60 → j2 + n2 ≤ 60 → (0 ≤ i ∧ 0 ≤ n ∧ i + n ≤ h 164 a) ∧ (0 ≤ j ∧ 0 ≤ n ∧ j + n ≤ h 164 b) → K (some (xi n)) (cpyH (cpyH h 165 (60 * a + i2) 166 0 n2) 166 0 165 (60 * b + j2) n2) al) : Call g (d + 3) yMo_shift [xr 120, xi (a : Int), xi i, xi (b : Int), xi j, xi n] h al K := by
  obtain ⟨za0, za⟩ := hza
  obtain ⟨zb0, zb⟩ := hzb
  obtain ⟨n1, n2⟩ := hn
  have hW2 := hW
  obtain ⟨h0, rfl⟩ := id hW
  refine cof ocMo_shift rfl (XW_t4 [57, 81, 95, 104] 200 okMo_shift ?_)
  refine c_isTape (fun _ => ?_) (fun q => absurd (show 0 ≤ (a : Int) ∧ (a : Int) ≤ 5 by omega) q)
  refine c_isTape (fun _ => ?_) (fun q => absurd (show 0 ≤ (b : Int) ∧ (b : Int) ≤ 5 by omega) q)
  refine ⟨a, rfl, by show a < 6; omega, _, rfl, ?_⟩
  refine ite_i (fun q1 => h11 (Or.inl q1)) (fun q1 => ?_)
  refine ⟨b, rfl, by show b < 6; omega, _, rfl, ?_⟩
  refine ite_i (fun q2 => h11 (Or.inr q2)) (fun q2 => ?_)
  have q12 : ¬ (wr h0 163 a < 0 ∨ wr h0 163 b < 0) := fun q => q.elim q1 q2
  refine ⟨a, rfl, by show a < 6; omega, _, rfl, ?_⟩
  refine ⟨b, rfl, by show b < 6; omega, _, rfl, ?_⟩
  refine ite_i (fun q3 => ?_) (fun q3 => h12 q12 q3)
  have q3 : wr h0 163 a = wr h0 163 b := q3
  have no : ¬ ((0 ≤ i ∧ 0 ≤ n ∧ i + n ≤ wr h0 164 a) ∧ (0 ≤ j ∧ 0 ≤ n ∧ j + n ≤ wr h0 164 b)) → K (some (xi (-13))) (wr h0) al := h13 q12 q3
  show XW g (d + 2) mMo_shift _ 57 [some (xr 120), some (xi (a : Int)), some (xi i), some (xi (b : Int)), some (xi j), some (xi n), none] [] (wr h0) al
  refine XW_t4 [81, 95, 104] 200 okMo_shift ?_
  refine ite_i (fun q4 => no (fun q => absurd q.1.2.1 (by have q4 : n < 0 := q4; omega))) (fun q4 => ?_)
  have q4 : ¬ n < 0 := q4
  refine ite_i (fun q5 => no (fun q => absurd q.1.1 (by have q5 : i < 0 := q5; omega))) (fun q5 => ?_)
  have q5 : ¬ i < 0 := q5
  refine ite_i (fun q6 => no (fun q => absurd q.2.1 (by have q6 : j < 0 := q6; omega))) (fun q6 => ?_)
  have q6 : ¬ j < 0 := q6
  refine ⟨a, rfl, by show a < 6; omega, _, rfl, ?_⟩
  show XW g (d + 2) mMo_shift _ 81 [some (xr 120), some (xi (a : Int)), some (xi i), some (xi (b : Int)), some (xi j), some (xi n), none] [xi (wI (wr h0 164 a - n)), xi i] (wr h0) al
  rw [wI_id (z := wr h0 164 a - n) (by omega)]
  refine XW_t4 [95, 104] 200 okMo_shift ?_
  refine ite_i (fun q7 => no (fun q => absurd q.1.2.2 (by have q7 : wr h0 164 a - n < i := q7; omega))) (fun q7 => ?_)
  have q7 : ¬ wr h0 164 a - n < i := q7
  refine ⟨b, rfl, by show b < 6; omega, _, rfl, ?_⟩
  show XW g (d + 2) mMo_shift _ 95 [some (xr 120), some (xi (a : Int)), some (xi i), some (xi (b : Int)), some (xi j), some (xi n), none] [xi (wI (wr h0 164 b - n)), xi j] (wr h0) al
  rw [wI_id (z := wr h0 164 b - n) (by omega)]
  refine XW_t4 [104] 200 okMo_shift ?_
  refine ite_i (fun q8 => no (fun q => absurd q.2.2.2 (by have q8 : wr h0 164 b - n < j := q8; omega))) (fun q8 => ?_)
  have q8 : ¬ wr h0 164 b - n < j := q8
  obtain ⟨i2, rfl⟩ : ∃ m : Nat, i = (m : Int) := ⟨i.toNat, by omega⟩
  obtain ⟨j2, rfl⟩ : ∃ m : Nat, j = (m : Int) := ⟨j.toNat, by omega⟩
  obtain ⟨m2, rfl⟩ : ∃ m : Nat, n = (m : Int) := ⟨n.toNat, by omega⟩
  exact c_sh hW2 ha (by omega) hb (by omega) (hg q12 q3 i2 j2 m2 rfl rfl rfl (by omega) (by omega) ⟨by omega, by omega⟩)
end Q29
