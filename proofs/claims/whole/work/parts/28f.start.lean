-- the start: class and reference go together
def DNs (a k : Nat) : Bool := DNb a || inR 121 166 a || (Nat.beq a 120 && Nat.blt k 75)
theorem Wd.mk {h : HH} (hq : ∀ a k, ¬ (wl a).getD k (-9) < 0 → h a k = (wl a).getD k (-9)) : Wd h := by
  refine ⟨h, ?_⟩
  funext a k
  show h a k = wz ((wl a).getD k (-9)) (h a k)
  by_cases q : (wl a).getD k (-9) < 0
  · rw [wz_n q]
  · rw [hq a k q]
    generalize (wl a).getD k (-9) = n at q ⊢
    cases n with
    | ofNat n => rfl
    | negSucc n => exact absurd (Int.negSucc_lt_zero n) q
set_option maxRecDepth 100000 in
theorem wl_in {a k : Nat} (ha : a < 230) (hk : k < 80) (hn : ¬ (wl a).getD k (-9) < 0) : DNs a k = true ∧ inV a k = (wl a).getD k (-9) := by
  have c : ck 230 (fun a => ck 80 (fun k => decide (¬ (wl a).getD k (-9) < 0 → DNs a k = true ∧ inV a k = (wl a).getD k (-9)))) = true := by decide +kernel
  exact of_decide_eq_true (ck_of (ck_of c ha) hk) hn
theorem wl_len {a : Nat} (ha : a < 230) : (wl a).length ≤ 80 := by
  have c : ck 230 (fun a => decide ((wl a).length ≤ 80)) = true := by decide +kernel
  exact of_decide_eq_true (ck_of c ha)
set_option maxRecDepth 20000 in
theorem Sim.start {h : HH} {al : AL} (hI : ∀ a k, DNs a k = true → h a k = inV a k) (hA : ∀ a, 200 ≤ a → al a = false) (h181 : ∀ k : Nat, k < 7 → h 181 k = kaT.getD k 0) (h182 : ∀ k : Nat, k < 21 → h 182 k = boT.getD k 0) : Sim h al := by
  have e : ∀ a k (z : Int), DNs a k = true → inV a k = z → h a k = z := fun a k z q1 q2 => (hI a k q1).trans q2
  have w5 : ∀ k : Nat, k < 6 → h 12 k = -5 := fun k hk => by
    have : k = 0 ∨ k = 1 ∨ k = 2 ∨ k = 3 ∨ k = 4 ∨ k = 5 := by omega
    rcases this with rfl | rfl | rfl | rfl | rfl | rfl <;> exact e _ _ _ rfl rfl
  refine ⟨Wd.mk fun a k hn => ?_, ?_, Or.inl ⟨e _ _ _ rfl rfl, e _ _ _ rfl rfl⟩, ?_, ?_, ?_, ?_, ⟨h181, h182, fun k hk => ?_⟩, ?_⟩
  · by_cases q : a < 230
    · by_cases q2 : k < 80
      · obtain ⟨a1, a2⟩ := wl_in q q2 hn
        exact e a k _ a1 a2
      · refine absurd ?_ hn
        have := wl_len q
        rw [List.getD_eq_getElem?_getD, List.getElem?_eq_none (by omega)]
        decide
    · refine absurd ?_ hn
      rw [wlG (by omega)]
      show (-9 : Int) < 0
      decide
  · have n0 : h 120 0 = 0 := e _ _ _ rfl rfl
    have n1 : h 120 1 = 0 := e _ _ _ rfl rfl
    have e6 : h 1 6 = 0 := e _ _ _ rfl rfl
    have e5 : h 1 5 = 0 := e _ _ _ rfl rfl
    have f5 : h 120 5 = 0 := e _ _ _ rfl rfl
    have f6 : h 120 6 = 0 := e _ _ _ rfl rfl
    show N0 h
    unfold N0
    rw [n0, n1, e6, e5]
    refine ⟨⟨by decide, by decide, rfl⟩, ⟨by decide, by decide, rfl⟩, ?_⟩
    refine ⟨fun k _ => ⟨fun q => absurd q (by omega), fun _ => e 11 k 0 rfl rfl⟩, fun k hk => ⟨fun q => absurd q (by omega), fun _ => w5 k hk⟩, fun j _ q => absurd q (by omega), fun p _ _ _ q => absurd q (by omega), fun k _ => ⟨fun q => absurd q (by omega), fun _ => e 13 k 0 rfl rfl⟩, ⟨(e 10 5 0 rfl rfl).trans f5.symm, by rw [f5]; decide, by rw [f5]; decide⟩, fun k _ q => absurd q (by rw [f5]; omega), fun p q _ _ q2 => absurd q2 (by rw [f5]; omega), ⟨(e 10 6 0 rfl rfl).trans f6.symm, by rw [f6]; decide, by rw [f6]; decide⟩, fun k _ q => absurd q (by rw [f6]; omega), ⟨?_, ?_, ?_⟩, ⟨?_, ?_⟩, ?_, ?_, ?_⟩
    · rw [e 10 7 9 rfl rfl, e 120 3 9 rfl rfl]
    · rw [e 120 3 9 rfl rfl]; decide
    · rw [e 120 3 9 rfl rfl, e 120 2 9 rfl rfl]; decide
    · rw [e 10 8 9 rfl rfl, e 120 2 9 rfl rfl]
    · rw [e 120 2 9 rfl rfl]; decide
    · rw [e 10 9 0 rfl rfl, e 120 4 0 rfl rfl]
    · rw [e 120 4 0 rfl rfl]; decide
    · rw [e 120 4 0 rfl rfl]; decide
  · show H0 (rs tH h) al (h 120 1)
    rw [e 120 1 0 rfl rfl]
    intro i hi
    refine ⟨fun q => absurd q (by omega), fun _ => ⟨?_, ?_, fun j hj => hA _ (by omega)⟩⟩
    · rw [rs_in (rfl : tH 2 i = true)]
      exact e 2 i (-1) rfl rfl
    · rw [rs_in (rfl : tH 3 i = true)]
      exact e 3 i (-1) rfl rfl
  · have f18 : h 120 18 = 0 := e _ _ _ rfl rfl
    refine ⟨⟨(e 40 1 0 rfl rfl).trans f18.symm, by rw [f18]; decide, by rw [f18]; decide⟩, fun k _ q => absurd q (by rw [f18]; omega)⟩
  · refine SP.mk fun t ht => ?_
    have : t = 0 ∨ t = 1 ∨ t = 2 ∨ t = 3 ∨ t = 4 ∨ t = 5 := by omega
    have f163 : h 163 t = -1 := by rcases this with rfl | rfl | rfl | rfl | rfl | rfl <;> exact e _ _ _ rfl rfl
    have f164 : h 164 t = 0 := e 164 t 0 rfl rfl
    have f1 : h (66 + 2 * t) 1 = -1 := by rcases this with rfl | rfl | rfl | rfl | rfl | rfl <;> exact e _ _ _ rfl rfl
    have f2 : h (66 + 2 * t) 2 = 0 := by rcases this with rfl | rfl | rfl | rfl | rfl | rfl <;> exact e _ _ _ rfl rfl
    refine ⟨⟨by rw [f1, f163], by rw [f163]; decide, by rw [f163]; decide⟩, ⟨by rw [f2, f164], by rw [f164]; decide, by rw [f164]; decide, fun _ => f164⟩, fun i _ => ?_⟩
    rw [e 165 _ 0 rfl rfl]
    rcases this with rfl | rfl | rfl | rfl | rfl | rfl <;> exact e _ _ _ rfl rfl
  · have f69 : h 120 69 = 0 := e _ _ _ rfl rfl
    refine ⟨⟨(e 60 1 0 rfl rfl).trans f69.symm, by rw [f69]; decide, by rw [f69]; decide⟩, fun k _ q => absurd q (by rw [f69]; omega)⟩
  · have c : ck 20 (fun k => decide (DNs 138 k = true ∧ inV 138 k = leT.getD k 0)) = true := by decide +kernel
    obtain ⟨a1, a2⟩ := of_decide_eq_true (ck_of c hk)
    exact e 138 k _ a1 a2
  · have f16 : h 120 16 = 0 := e _ _ _ rfl rfl
    have f17 : h 120 17 = -1 := e _ _ _ rfl rfl
    refine ⟨⟨(e 10 10 (-1) rfl rfl).trans f17.symm, by rw [f17]; decide, by rw [f17, f16]; decide⟩, ⟨(e 1 7 0 rfl rfl).trans f16.symm, by rw [f16]; decide, by rw [f16]; decide⟩, fun _ => [], ?_, ?_⟩
    · rw [f16]
      refine ⟨⟨by decide, ⟨?_, ?_, ?_, ⟨Nat.zero_le _, fun c hc => by cases hc⟩, Nat.zero_le _, trivial⟩, fun f _ q => absurd q (by omega)⟩, fun p hp => Or.inl ⟨?_, fun j _ => hA _ (by omega)⟩⟩
      · rw [rs_in (rfl : tV 80 5 = true)]
        exact e _ _ _ rfl rfl
      · rw [rs_in (rfl : tV 80 7 = true)]
        exact e _ _ _ rfl rfl
      · rw [rs_in (rfl : tV 80 8 = true)]
        exact e _ _ _ rfl rfl
      · rw [rs_in (rfl : tV 5 p = true)]
        exact e 5 p (-1) rfl rfl
    · rw [f16]
      exact fun f _ q => absurd q (by omega)
