-- all that the invariant says, by name
def ALLf (h : HH) (al : AL) (V : Nat → List Cl) (nV vl : Int) (nH nP rd lots l yr : Nat) (lo S : Nat → Nat) (O P k v : Nat → Int) (st : Nat → Nat → Int) : Prop :=
  (Wd h ∧ NWf h nH nP rd lots l yr lo S O P ∧ BKf h) ∧ (CGs h al V nV ∧ MVs h V nV ∧ ∃ q0, MZ h (Vw V vl) q0) ∧ ((h 10 10 = vl ∧ h 120 17 = vl ∧ h 120 16 = nV) ∧ (-1 ≤ vl ∧ vl < nV) ∧ nV ≤ 5) ∧ (WH h 2 nP k v st ∧ WH h 3 nP (fun _ => 3) (fun _ => 9) (fun _ _ => -1)) ∧
  ∀ p, p < nP → (h 123 p = k p ∧ 0 ≤ k p ∧ k p ≤ 6) ∧ (h 124 p = v p ∧ 0 ≤ v p ∧ v p ≤ 9) ∧ ∀ l, l < 10 → h 127 (10 * p + l) = st p l ∧ -1 ≤ st p l ∧ st p l ≤ 2
theorem Sim.all {h : HH} {al : AL} (hS : Sim h al) : ∃ (V : Nat → List Cl) (nV vl : Int) (nH nP rd lots l yr : Nat) (lo S : Nat → Nat) (O P k v : Nat → Int) (st : Nat → Nat → Int), ALLf h al V nV vl nH nP rd lots l yr lo S O P k v st := by
  obtain ⟨hW, hN, hI, hH, hT, hP, hC0, hK, hV⟩ := hS
  obtain ⟨nH, nP, rd, lots, l, yr, lo, S, O, P, hNW, hB⟩ := hN.nw
  obtain ⟨w1, w2, w3, w4⟩ := hH.wh (nP := nP) hNW.1.2.1.2
  obtain ⟨V, v1, v2⟩ := hV.get
  obtain ⟨⟨b1, b2, b3⟩, ⟨b4, b5, b6⟩, -⟩ := hV
  refine ⟨V, h 120 16, h 120 17, nH, nP, rd, lots, l, yr, lo, S, O, P, fun p => h 123 p, fun p => h 124 p, fun p l => h 127 (10 * p + l), ⟨hW, hNW, hB⟩, ⟨v1, v2, v2.mz ⟨b2, b3⟩ b6⟩, ⟨⟨b1, rfl, rfl⟩, ⟨b2, b3⟩, b6⟩, ⟨w1, w2⟩, fun p hp => ?_⟩
  obtain ⟨x1, x2, x3⟩ := w4 p (by have := hNW.1.2.2.2; omega) hp
  exact ⟨⟨rfl, x1.1, x1.2⟩, ⟨rfl, x2.1, x2.2⟩, fun l hl => ⟨rfl, (x3 l hl).1, (x3 l hl).2⟩⟩
theorem CWd.qf {h h2 : HH} {al al2 : AL} {nH nP : Nat} {S : Nat → Nat} {O P : Nat → Int} (hC : CWd 10 h nH nP S O P) (hf : QF h al h2 al2) : CWd 10 h2 nH nP S O P := by
  obtain ⟨c1, c2, c3⟩ := hC
  refine ⟨fun j hj => (hf.1 _ _ (by unfold qp; omega)).trans (c1 j hj), fun p hp => ?_, fun p hp => (hf.1 _ _ (by unfold qp; omega)).trans (c3 p hp)⟩
  rw [hf.1 (10 + 2) p (by unfold qp; omega)]
  exact c2 p hp
theorem NWf.qf {h h2 : HH} {al al2 : AL} {nH nP rd lots l yr : Nat} {lo S : Nat → Nat} {O P : Nat → Int} (hN : NWf h nH nP rd lots l yr lo S O P) (hf : QF h al h2 al2) : NWf h2 nH nP rd lots l yr lo S O P := by
  obtain ⟨⟨⟨a1, a2⟩, ⟨a3, a4⟩, a5, a6⟩, ⟨c1, c4, c5⟩, ⟨m1, m2⟩, hg, ⟨⟨l1, l2, l3⟩, ⟨d1, d2, d3, d4⟩, y1, y2, y3⟩, o1, o2, o3, o4, o5⟩ := hN
  have f : ∀ a k, ¬ qp a k → h2 a k = h a k := hf.1
  refine ⟨⟨⟨(f _ _ (by unfold qp; omega)).trans a1, (f _ _ (by unfold qp; omega)).trans a2⟩, ⟨(f _ _ (by unfold qp; omega)).trans a3, (f _ _ (by unfold qp; omega)).trans a4⟩, a5, a6⟩, ⟨c1.qf hf, fun j h1 h2 => (f _ _ (by unfold qp; omega)).trans (c4 j h1 h2), fun j h1 h2 => (f _ _ (by unfold qp; omega)).trans (c5 j h1 h2)⟩, ⟨fun j hj => ⟨(f _ _ (by unfold qp; omega)).trans (m1 j hj).1, (f _ _ (by unfold qp; omega)).trans (m1 j hj).2⟩, fun j hj => ⟨(f _ _ (by unfold qp; omega)).trans (m2 j hj).1, (f _ _ (by unfold qp; omega)).trans (m2 j hj).2⟩⟩, hg, ⟨⟨(f _ _ (by unfold qp; omega)).trans l1, (f _ _ (by unfold qp; omega)).trans l2, l3⟩, ⟨(f _ _ (by unfold qp; omega)).trans d1, (f _ _ (by unfold qp; omega)).trans d2, d3, d4⟩, (f _ _ (by unfold qp; omega)).trans y1, (f _ _ (by unfold qp; omega)).trans y2, y3⟩, (f _ _ (by unfold qp; omega)).trans o1, (f _ _ (by unfold qp; omega)).trans o2, o3, fun q hq => ⟨(f _ _ (by unfold qp; omega)).trans (o4 q hq).1, (f _ _ (by unfold qp; omega)).trans (o4 q hq).2.1, (o4 q hq).2.2⟩, o5⟩
theorem WH.qf {h h2 : HH} {al al2 : AL} {who nP : Nat} {k v : Nat → Int} {st : Nat → Nat → Int} (hH : WH h who nP k v st) (hwho : who = 2 ∨ who = 3) (hf : QF h al h2 al2) : WH h2 who nP k v st := by
  intro p hp
  have e : h2 who p = h who p := hf.1 who p (by unfold qp; omega)
  rw [e]
  refine ⟨fun q => ?_, (hH p hp).2⟩
  obtain ⟨ho, a1, a2, a3⟩ := (hH p hp).1 q
  have hb := a1.b
  exact ⟨ho, a1, a2, a3.fr fun a k q1 q2 => hf.1 a k (by unfold qp; omega)⟩
theorem QF.mz {h h2 : HH} {al al2 : AL} {V : List Cl} {q0 : Nat} (hf : QF h al h2 al2) (hz : MZ h V q0) : MZ h2 V q0 := hz.fr fun a j q => hf.1 a j (by
  unfold tQ inR at q
  simp only [Bool.or_eq_true, Bool.and_eq_true, Nat.ble_eq, Nat.beq_eq] at q
  unfold qp
  omega)
section AL1
variable {g : GC} {d : Nat} {h h2 : HH} {al al2 : AL} {K : KT}
variable {V : Nat → List Cl} {nV vl : Int} {nH nP rd lots l yr : Nat} {lo S : Nat → Nat} {O P k v : Nat → Int} {st : Nat → Nat → Int}
theorem ALLf.qf (hA : ALLf h al V nV vl nH nP rd lots l yr lo S O P k v st) (hf : QF h al h2 al2) (hC : CGs h2 al2 V nV) : ALLf h2 al2 V nV vl nH nP rd lots l yr lo S O P k v st := by
  obtain ⟨⟨hW, hN, hB⟩, ⟨hG, hM, q0, hz⟩, ⟨⟨e1, e2, e3⟩, hv, h5⟩, ⟨w2, w3⟩, hr⟩ := hA
  have f : ∀ a k, ¬ qp a k → h2 a k = h a k := hf.1
  refine ⟨⟨hf.wd hW, hN.qf hf, ?_⟩, ⟨hC, hM.ot fun a k q1 q2 => f a k (by unfold qp; omega), q0, hf.mz hz⟩, ⟨⟨(f _ _ (by unfold qp; omega)).trans e1, (f _ _ (by unfold qp; omega)).trans e2, (f _ _ (by unfold qp; omega)).trans e3⟩, hv, h5⟩, ⟨w2.qf (Or.inl rfl) hf, w3.qf (Or.inr rfl) hf⟩, fun p hp => ?_⟩
  · unfold BKf
    rw [f 10 6 (by unfold qp; omega), f 120 6 (by unfold qp; omega)]
    refine ⟨hB.1, fun k hk hk2 => ?_⟩
    rw [f 15 k (by unfold qp; omega), f 129 k (by unfold qp; omega)]
    exact hB.2 k hk hk2
  · rw [f 123 p (by unfold qp; omega), f 124 p (by unfold qp; omega)]
    refine ⟨(hr p hp).1, (hr p hp).2.1, fun l hl => ?_⟩
    rw [f 127 _ (by unfold qp; omega)]
    exact (hr p hp).2.2 l hl
theorem ALLf.sim (hA : ALLf h al V nV vl nH nP rd lots l yr lo S O P k v st) (hS : Sim h al) (hf : QF h al h2 al2) (hC : CGs h2 al2 V nV) : Sim h2 al2 := by
  obtain ⟨-, ⟨-, hM, -⟩, ⟨⟨-, -, e3⟩, -⟩, -⟩ := hA
  subst e3
  exact hS.qf hM hf hC
theorem c_asIsA (hA : ALLf h al V nV vl nH nP rd lots l yr lo S O P k v st) (hK : ∀ h2 : HH, AF h h2 → ASK h2 (Vw V vl) (lastL (Vw V vl) 3 0) k v st nH nP rd lots l lo S O P → K none h2 al) : Call g (d + 3) yMo_asIs [xr 120] h al K := by
  obtain ⟨⟨hW, hN, hB⟩, ⟨hG, hM, q0, hz⟩, -, -, hr⟩ := hA
  refine c_asIs hW hN.mn hz (fun p _ hp => ?_) fun h2 hf hMC hA => hK h2 hf ?_
  · obtain ⟨r1, r2, r3⟩ := hr p hp
    refine ⟨by omega, by omega, fun l hl => ?_⟩
    have := r3 l hl
    omega
  · obtain ⟨⟨⟨b0, b1⟩, b2, b3⟩, bM, bW, bQ, b6⟩ := hA
    have f : ∀ p, p < nP → h2 123 p = k p ∧ h2 124 p = v p := fun p hp => ⟨(hf _ _ (by omega) (by omega)).trans (hr p hp).1.1, (hf _ _ (by omega) (by omega)).trans (hr p hp).2.1.1⟩
    refine ⟨⟨⟨b0, b1⟩, b2, fun p hp => ?_⟩, hMC _, bW, bQ, b6⟩
    · obtain ⟨x1, x2, x3⟩ := b3 p hp
      obtain ⟨r1, r2, r3⟩ := hr p hp
      exact ⟨⟨x1.1.trans r1.1, r1.2⟩, ⟨x2.1.trans r2.1, r2.2⟩, fun l hl => ⟨(x3 l hl).1.trans (r3 l hl).1, (r3 l hl).2⟩⟩
theorem c_holderA {n : Int} (hA : ALLf h al V nV vl nH nP rd lots l yr lo S O P k v st) (ht : ∀ p ho : Nat, n = (p : Int) → p < nP → p < 6 → HN ho → HF h ho (p : Int) (k p) (v p) (st p) → K (some (xr (Int.ofNat ho))) h al) (hf : ¬ (0 ≤ n ∧ n < (nP : Int)) → K (some (xr (-1))) h al) : Call g (d + 1) yLa_holderAt [xr 1, xi n] h al K := by
  obtain ⟨⟨hW, hN, hB⟩, -, -, ⟨w2, -⟩, -⟩ := hA
  have h6 := hN.1.2.2.2
  refine c_holderAt hW (fun q => ?_) (fun q => hf (by omega))
  by_cases q2 : n.toNat < nP
  · obtain ⟨ho, b1, b2, b3⟩ := (w2 n.toNat (by omega)).1 q2
    rw [b2]
    exact ht n.toNat ho (by omega) q2 (by omega) b1 b3
  · rw [(w2 n.toNat (by omega)).2 (by omega)]
    exact hf (by omega)
theorem c_hasHoldingA {n : Int} (hA : ALLf h al V nV vl nH nP rd lots l yr lo S O P k v st) (ht : ∀ j : Nat, n = (j : Int) → j < nH → j < 6 → K (some (xi 1)) h al) (hf : ¬ (0 ≤ n ∧ n < (nH : Int)) → K (some (xi 0)) h al) : Call g (d + 1) yLa_hasHolding [xr 1, xi n] h al K := by
  obtain ⟨⟨hW, hN, hB⟩, -⟩ := hA
  obtain ⟨⟨⟨a1, a2⟩, ⟨a3, a4⟩, a5, a6⟩, -⟩ := hN
  exact c_hasHolding (fun q => ht n.toNat (by omega) (by omega) (by omega)) (fun q => hf (by omega))
theorem c_isHolderA {n : Int} (hA : ALLf h al V nV vl nH nP rd lots l yr lo S O P k v st) (ht : ∀ p : Nat, n = (p : Int) → p < nP → p < 6 → K (some (xi 1)) h al) (hf : ¬ (0 ≤ n ∧ n < (nP : Int)) → K (some (xi 0)) h al) : Call g (d + 2) yMo_isHolder [xr 120, xi n] h al K := by
  obtain ⟨⟨hW, hN, hB⟩, -⟩ := hA
  obtain ⟨⟨⟨a1, a2⟩, ⟨a3, a4⟩, a5, a6⟩, -⟩ := hN
  exact c_isHolder (by omega) (fun q => ht n.toNat (by omega) (by omega) (by omega)) (fun q => hf (by omega))
theorem c_isHoldingA {n : Int} (hA : ALLf h al V nV vl nH nP rd lots l yr lo S O P k v st) (ht : ∀ p : Nat, n = (p : Int) → p < nH → p < 6 → K (some (xi 1)) h al) (hf : ¬ (0 ≤ n ∧ n < (nH : Int)) → K (some (xi 0)) h al) : Call g (d + 2) yMo_isHolding [xr 120, xi n] h al K := by
  obtain ⟨⟨hW, hN, hB⟩, -⟩ := hA
  obtain ⟨⟨⟨a1, a2⟩, ⟨a3, a4⟩, a5, a6⟩, -⟩ := hN
  exact c_isHolding (by omega) (fun q => ht n.toNat (by omega) (by omega) (by omega)) (fun q => hf (by omega))
end AL1
