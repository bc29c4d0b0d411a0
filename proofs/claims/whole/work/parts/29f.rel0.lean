-- the law's start: the pictures of what stands
def ad0 (b t1 t2 : Nat) (K V : Nat → Nat) : Nat → Nat := fun a => cond (Nat.beq a 180) b (cond (Nat.beq a 181) t1 (cond (Nat.beq a 182) t2 (cond (Nat.ble a 190) (K (a - 183)) (V (a - 191)))))
def h0L (xs : Nat → Int32) : HH := fun a k => cond (Nat.beq a 180) (xs k).toInt (cond (Nat.beq a 181) (kaT.getD k 0) (cond (Nat.beq a 182) (boT.getD k 0) 0))
def al0L : AL := fun a => inR 180 198 a
theorem ad0_K {b t1 t2 : Nat} {K V : Nat → Nat} {i : Nat} (hi : i < 8) : ad0 b t1 t2 K V (183 + i) = K i := by
  have e : i = 0 ∨ i = 1 ∨ i = 2 ∨ i = 3 ∨ i = 4 ∨ i = 5 ∨ i = 6 ∨ i = 7 := by omega
  rcases e with rfl | rfl | rfl | rfl | rfl | rfl | rfl | rfl <;> rfl
theorem ad0_V {b t1 t2 : Nat} {K V : Nat → Nat} {i : Nat} (hi : i < 8) : ad0 b t1 t2 K V (191 + i) = V i := by
  have e : i = 0 ∨ i = 1 ∨ i = 2 ∨ i = 3 ∨ i = 4 ∨ i = 5 ∨ i = 6 ∨ i = 7 := by omega
  rcases e with rfl | rfl | rfl | rfl | rfl | rfl | rfl | rfl <;> rfl
theorem al0_in {a : Nat} (h : al0L a = true) : 180 ≤ a ∧ a ≤ 198 := by
  have h : inR 180 198 a = true := h
  unfold inR at h
  rw [Bool.and_eq_true] at h
  exact ⟨Nat.le_of_ble_eq_true h.1, Nat.le_of_ble_eq_true h.2⟩
theorem kd_hi {a : Nat} (h1 : 180 ≤ a) (h2 : a ≤ 198) : 80 ≤ kd a ∧ (183 ≤ a → 90 ≤ kd a) ∧ ∀ k, tyO a k = 0 := by
  have e : kd a = 80 ∨ kd a = 90 ∨ kd a = 99 := by
    have c2 : ck 199 (fun a => decide (180 ≤ a → (kd a = 80 ∨ kd a = 90 ∨ kd a = 99))) = true := by decide +kernel
    exact of_decide_eq_true (ck_of c2 (by omega)) h1
  have e2 : 183 ≤ a → 90 ≤ kd a := by
    have c2 : ck 199 (fun a => decide (183 ≤ a → 90 ≤ kd a)) = true := by decide +kernel
    exact of_decide_eq_true (ck_of c2 (by omega))
  refine ⟨by omega, e2, fun k => ?_⟩
  unfold tyO
  rcases e with e | e | e <;> rw [e] <;> rfl
theorem t_rg : (∀ k, k < 7 → -2147483648 ≤ kaT.getD k 0 ∧ kaT.getD k 0 < 2147483648) ∧ ∀ k, k < 21 → -2147483648 ≤ boT.getD k 0 ∧ boT.getD k 0 < 2147483648 := by
  constructor
  · intro k hk
    have c2 : ck 7 (fun k => decide (-2147483648 ≤ kaT.getD k 0 ∧ kaT.getD k 0 < 2147483648)) = true := by decide +kernel
    exact of_decide_eq_true (ck_of c2 hk)
  · intro k hk
    have c2 : ck 21 (fun k => decide (-2147483648 ≤ boT.getD k 0 ∧ boT.getD k 0 < 2147483648)) = true := by decide +kernel
    exact of_decide_eq_true (ck_of c2 hk)
/-- the pictures of what stands at the law's entry -/
theorem start_rel {p : Program} {s : State} {m : MethodId} {meth : Method} {c : Code} {b L : Nat} {xs : Nat → Int32} (hL : L ≤ 3072) (C0 : lw_At p s m meth c b L xs) : ∃ (g : GC) (ad : Nat → Nat), g.2.2.2.1 = s.heap.size ∧ g.2.2.2.2 = L ∧ ad 180 = b ∧ VMk g s ∧ SK ad s ∧ HR g ad (h0L xs) al0L s s.heap := by
  obtain ⟨hx, hb, hr, hml, hown, hts, hX, hbl, hlocks, hgv⟩ := C0
  have hp : ∀ w ∈ fl0, w.before #[Value.ref b] s = true := flat_of_before _ hgv
  obtain ⟨cC, cI, hKn⟩ := kn_all hts
  obtain ⟨cT, hTn⟩ := arr_all hts
  have hA0 : ∀ a : Nat, a < s.heap.size → ¬ (fun q : Nat => s.heap.size ≤ q) a := fun a ha => Nat.not_le.mpr ha
  obtain ⟨t1, e1, T1⟩ := va_Tof (tm := tKA) (ty := .int) (N := 7) (f := fun j => .int (Int32.ofInt (kaT.getD j 0))) (by decide) (hp _ (inF_of (by decide +kernel))) (va_eqt (hp (.eq (.length tKA) (.int (Int32.ofNat 7))) (inF_of (by decide +kernel)))) (fun j hj => va_eqt (hp _ (inF_of (ck_of f_ka hj)))) hA0
  obtain ⟨t2, e2, T2⟩ := va_Tof (tm := tBO) (ty := .int) (N := 21) (f := fun j => .int (Int32.ofInt (boT.getD j 0))) (by decide) (hp _ (inF_of (by decide +kernel))) (va_eqt (hp (.eq (.length tBO) (.int (Int32.ofNat 21))) (inF_of (by decide +kernel)))) (fun j hj => va_eqt (hp _ (inF_of (ck_of f_bo hj)))) hA0
  have q4 : ∀ i, i < 8 → inF (.exactly (tmS i) "java/lang/String") = true ∧ inF (.eq (.field (tmS i) "java/lang/String" "coder" "B") (.int 0)) = true ∧ inF (.arrayOf (tmV i) .byte) = true ∧ inF (.eq (.length (tmV i)) (.int (Int32.ofNat (sLen.getD i 0)))) = true := by
    intro i hi
    have h := ck_of f_s1 hi
    simp only [Bool.and_eq_true] at h
    exact h
  obtain ⟨aK, aV, hS, hSe⟩ := vk_Sof (N := 8) (tm := tmS) (len := sLen) (byt := sByt) (A := fun q : Nat => s.heap.size ≤ q) (args := #[Value.ref b]) (s := s)
    (fun i hi => Nat.lt_of_lt_of_le (sn_lt hi) (by decide)) (fun i hi => hp _ (inF_of (q4 i hi).1)) (fun i hi => hp _ (inF_of (q4 i hi).2.1)) (fun i hi => hp _ (inF_of (q4 i hi).2.2.1)) (fun i hi => hp _ (inF_of (q4 i hi).2.2.2))
    (fun i hi j hj => hp _ (inF_of (ck_of (ck_of f_s2 hi) hj)))
    (fun i j hi hj hij => by
      have h := ck_of (ck_of f_s3 hi) hj
      simp only [Bool.or_eq_true] at h
      rcases h with h | h | h
      · exact absurd (Nat.eq_of_beq_eq_true h) hij
      · exact Or.inl (hp _ (inF_of h))
      · exact Or.inr (hp _ (inF_of h))) hA0
  obtain ⟨oq, hoq⟩ : ∃ q : Option Nat, va_Z "jdk/internal/util/Preconditions" "SIOOBE_FORMATTER" "Ljava/util/function/BiFunction;" (rq q) (fun q : Nat => s.heap.size ≤ q) s s.heap := by
    rcases va_Zqof (args := #[Value.ref b]) (hts (.laysStatic "jdk/internal/util/Preconditions" "SIOOBE_FORMATTER" "Ljava/util/function/BiFunction;") (by decide +kernel)) (hts (.initialized "jdk/internal/util/Preconditions") (by decide +kernel)) (hp (.isRef (.static "jdk/internal/util/Preconditions" "SIOOBE_FORMATTER" "Ljava/util/function/BiFunction;")) (inF_of (by decide +kernel))) hA0 with h | ⟨t, h⟩
    · exact ⟨none, h⟩
    · exact ⟨some t, h⟩
  have z1 := va_Zof (args := #[Value.ref b]) (hts (.laysStatic "ByLot" "KIND_ABOVE" "[I") (by decide +kernel)) (hts (.initialized "ByLot") (by decide +kernel)) e1 hA0
  have z2 := va_Zof (args := #[Value.ref b]) (hts (.laysStatic "ByLot$Acts" "BODIES" "[I") (by decide +kernel)) (hts (.initialized "ByLot$Acts") (by decide +kernel)) e2 hA0
  have z4 := va_Zof (args := #[Value.ref b]) (hts (.laysStatic "java/lang/String" "COMPACT_STRINGS" "Z") (by decide +kernel)) (hts (.initialized "java/lang/String") (by decide +kernel)) (va_eqt (hp (.eq (.static "java/lang/String" "COMPACT_STRINGS" "Z") (.int 1)) (inF_of (by decide +kernel)))) hA0
  have l1 : t1 < s.heap.size := by
    obtain ⟨cell, h1, -⟩ := T1
    exact (Array.getElem?_eq_some_iff.mp h1).1
  have l2 : t2 < s.heap.size := by
    obtain ⟨cell, h1, -⟩ := T2
    exact (Array.getElem?_eq_some_iff.mp h1).1
  have lK : ∀ i, i < 8 → aK i < s.heap.size := fun i hi => by
    obtain ⟨cell, h1, -⟩ := (hS.1 i hi).1
    exact (Array.getElem?_eq_some_iff.mp h1).1
  have lV : ∀ i, i < 8 → aV i < s.heap.size := fun i hi => by
    obtain ⟨cell, h1, -⟩ := (hS.1 i hi).2.2.2
    exact (Array.getElem?_eq_some_iff.mp h1).1
  refine ⟨(cC, cI, cT, s.heap.size, L), ad0 b t1 t2 aK aV, rfl, rfl, rfl, ⟨⟨fun c q hq => ?_, fun k q hq => ?_⟩, fun w hw => ?_, ?_, ?_, ?_, ?_⟩, ?_, ?_, ?_, ?_, ?_, ?_, ?_, ?_⟩
  · have hc : c < 11 := (List.getElem?_eq_some_iff.mp hq).1
    cases (xcl_at c hc).symm.trans hq
    exact hKn c hc
  · have hk : k < 7 := (List.getElem?_eq_some_iff.mp hq).1
    cases (xtys_at (cC, cI, cT, s.heap.size, L) k hk).symm.trans hq
    exact hTn k hk
  · obtain ⟨w1, w2⟩ := List.mem_filter.mp hw
    have h := hts w w1
    cases w <;> first | (exfalso; revert w2; simp [isNest]; done) | exact va_Nw.of rfl h
  · exact va_AO.of (A := #[Value.ref b]) (hts _ (by decide +kernel))
  · exact va_AO.of (A := #[Value.ref b]) (hts _ (by decide +kernel))
  · exact va_AO.of (A := #[Value.ref b]) (hts _ (by decide +kernel))
  · exact va_AO.of (A := #[Value.ref b]) (hts _ (by decide +kernel))
  · intro q hq
    simp only [sKey, List.mem_cons, List.not_mem_nil, or_false] at hq
    rcases hq with rfl | rfl | rfl | rfl | rfl | rfl | rfl | rfl
    · exact vk_R.of (A := #[Value.ref b]) (hts _ (by decide +kernel)) (hSe 0 (by decide))
    · exact vk_R.of (A := #[Value.ref b]) (hts _ (by decide +kernel)) (hSe 1 (by decide))
    · exact vk_R.of (A := #[Value.ref b]) (hts _ (by decide +kernel)) (hSe 2 (by decide))
    · exact vk_R.of (A := #[Value.ref b]) (hts _ (by decide +kernel)) (hSe 3 (by decide))
    · exact vk_R.of (A := #[Value.ref b]) (hts _ (by decide +kernel)) (hSe 4 (by decide))
    · exact vk_R.of (A := #[Value.ref b]) (hts _ (by decide +kernel)) (hSe 5 (by decide))
    · exact vk_R.of (A := #[Value.ref b]) (hts _ (by decide +kernel)) (hSe 6 (by decide))
    · exact vk_R.of (A := #[Value.ref b]) (hts _ (by decide +kernel)) (hSe 7 (by decide))
  · intro a ha
    obtain ⟨a1, a2⟩ := al0_in ha
    obtain ⟨k1, k2, k3⟩ := kd_hi a1 a2
    refine ⟨by omega, fun q => absurd q (by omega), fun _ q => absurd q (by omega), fun q => ?_⟩
    have e : a = 180 ∨ a = 181 ∨ a = 182 := by
      by_cases h : 183 ≤ a
      · exact absurd (k2 h) (by omega)
      · omega
    rcases e with rfl | rfl | rfl
    · obtain ⟨scr, x1, x2, x3, x4, x5⟩ := hX
      refine ⟨scr, x1, x2, x3, Nat.le_of_eq x4.symm, ?_, fun j hj => ?_, hA0 _ hbl⟩
      · rw [x4]; rfl
      · show scr.slots[j]? = some (.int (Int32.ofInt (xs j).toInt))
        rw [Int32.ofInt_toInt]
        exact x5 j hj
    · exact T1
    · exact T2
  · intro a1 a2 h1 h2 h3
    obtain ⟨q1, q2⟩ := al0_in h1
    exact absurd h3 (by have := (kd_hi q1 q2).1; omega)
  · intro a1 h1 h3
    obtain ⟨q1, q2⟩ := al0_in h1
    exact absurd h3 (by have := (kd_hi q1 q2).1; omega)
  · intro a h1 h3
    obtain ⟨q1, q2⟩ := al0_in h1
    show ¬ s.heap.size ≤ ad0 b t1 t2 aK aV a
    refine Nat.not_le.mpr ?_
    by_cases p0 : a ≤ 182
    · have e : a = 180 ∨ a = 181 ∨ a = 182 := by omega
      rcases e with rfl | rfl | rfl
      · exact hbl
      · exact l1
      · exact l2
    · by_cases p1 : a ≤ 190
      · obtain ⟨i, rfl⟩ : ∃ i, a = 183 + i := ⟨a - 183, by omega⟩
        rw [ad0_K (by omega)]
        exact lK i (by omega)
      · obtain ⟨i, rfl⟩ : ∃ i, a = 191 + i := ⟨a - 191, by omega⟩
        rw [ad0_V (by omega)]
        exact lV i (by omega)
  · intro a k h1 h2
    obtain ⟨q1, q2⟩ := al0_in h1
    obtain ⟨k1, k2, k3⟩ := kd_hi q1 q2
    rw [k3 k]
    show -2147483648 ≤ h0L xs a k ∧ h0L xs a k < 2147483648
    by_cases p0 : a ≤ 182
    · have e : a = 180 ∨ a = 181 ∨ a = 182 := by omega
      rcases e with rfl | rfl | rfl
      · exact toI_rg _
      · exact t_rg.1 k h2
      · exact t_rg.2 k h2
    · have e : h0L xs a k = 0 := by
        unfold h0L
        rw [nbf (by omega), nbf (by omega), nbf (by omega)]
        rfl
      rw [e]
      decide
  · intro a h1 h2
    exact inR_t ⟨by omega, h2⟩
  · refine ⟨z1, z2, ⟨fun i hi => ?_, fun i j hi hj => ?_⟩, z4, oq, hoq⟩
    · show va_O _ (ad0 b t1 t2 aK aV (183 + i)) _ _ _ ∧ va_OF _ _ _ _ (ad0 b t1 t2 aK aV (183 + i)) _ _ _ ∧ va_OF _ _ _ (.ref (ad0 b t1 t2 aK aV (191 + i))) (ad0 b t1 t2 aK aV (183 + i)) _ _ _ ∧ va_T _ (ad0 b t1 t2 aK aV (191 + i)) _ _ _ _ _
      rw [ad0_K hi, ad0_V hi]
      exact hS.1 i hi
    · show ad0 b t1 t2 aK aV (183 + i) = ad0 b t1 t2 aK aV (183 + j) → i = j
      rw [ad0_K hi, ad0_K hj]
      exact hS.2 i j hi hj
