-- the reference takes all as it is
def AF (h h2 : HH) : Prop := ∀ a k, ¬ (140 ≤ a ∧ a ≤ 147) → ¬ (a = 120 ∧ 34 ≤ k ∧ k ≤ 36) → h2 a k = h a k
theorem AF.qf {h h2 : HH} {al : AL} (a : AF h h2) : QF h al h2 al := ⟨fun q k e => by
  unfold qp at e
  exact a q k (by omega) (by omega), fun _ _ => rfl⟩
/-- asked: all as it is, and what was laid since -/
def ASK (h : HH) (V : List Cl) (pay : Int) (tk tv : Nat → Int) (st : Nat → Nat → Int) (nH nP rd lots l : Nat) (lo S : Nat → Nat) (O P : Nat → Int) : Prop := MB h V pay tk tv st nP ∧ MC h V (fun p => epr (tk p) (tv p) pay) 36 ∧ MWd h nH nP S O P ∧ YQ h nH nP rd lots lo ∧ h 120 36 = (l : Int)
/-- the world as the reference has it -/
def MNf (h : HH) (nH nP rd lots l : Nat) (lo S : Nat → Nat) (O P : Nat → Int) : Prop := (h 120 0 = (nH : Int) ∧ h 120 1 = (nP : Int) ∧ nP ≤ 6 ∧ nH ≤ 6) ∧ ((∀ j, j < nH → h 121 j = (S j : Int) ∧ h 122 j = ow O nP j) ∧ ∀ p, p < nP → h 125 p = O p ∧ h 126 p = P p) ∧ (h 120 3 = (l : Int) ∧ h 120 2 = (rd : Int)) ∧ h 120 5 = (lots : Int) ∧ ∀ q, q < lots → h 128 q = (lo q : Int)
theorem NWf.mn {h : HH} {nH nP rd lots l yr : Nat} {lo S : Nat → Nat} {O P : Nat → Int} (hN : NWf h nH nP rd lots l yr lo S O P) : MNf h nH nP rd lots l lo S O P := by
  obtain ⟨⟨⟨a1, a2⟩, ⟨a3, a4⟩, a5, a6⟩, -, ⟨m1, m2⟩, -, ⟨⟨l1, l2, l3⟩, ⟨d1, d2, d3, d4⟩, -⟩, o1, o2, o3, o4, o5⟩ := hN
  exact ⟨⟨a2, a4, a6, a5⟩, ⟨m1, m2⟩, ⟨l2, d2⟩, o2, fun q hq => (o4 q hq).2.1⟩
section AI
variable {g : GC} {d : Nat} {h : HH} {al : AL} {K : KT}
set_option maxRecDepth 8000 in
theorem c_asIs {V : List Cl} {q0 nH nP rd lots l : Nat} {lo S : Nat → Nat} {O P : Nat → Int} (hW : Wd h) (hN : MNf h nH nP rd lots l lo S O P) (hz : MZ h V q0) (hR : ∀ p : Nat, p < 6 → p < nP → (0 ≤ h 123 p ∧ h 123 p ≤ 6) ∧ (0 ≤ h 124 p ∧ h 124 p ≤ 9) ∧ ∀ l : Nat, l < 10 → -1 ≤ h 127 (10 * p + l) ∧ h 127 (10 * p + l) ≤ 2)
    (hK : ∀ h2 : HH, AF h h2 → (∀ e : Nat → Int, MC h2 V e 36) → ASK h2 V (lastL V 3 0) (fun p => h 123 p) (fun p => h 124 p) (fun p l => h 127 (10 * p + l)) nH nP rd lots l lo S O P → K none h2 al) : Call g (d + 3) yMo_asIs [xr 120] h al K := by
  obtain ⟨⟨a2, a4, a6, a5⟩, ⟨m1, m2⟩, ⟨l2, d2⟩, o2, o4⟩ := hN
  -- the rows of six
  have loopO : ∀ (m o k : Nat) (h2 : HH), o + m = 6 → k < 6 → AF h h2 → (∀ x, x < 6 * k + o → h2 146 x = 0 ∧ h2 147 x = 0) →
      (∀ h3 : HH, AF h h3 → (∀ a j, ¬ (146 ≤ a ∧ a ≤ 147) → h3 a j = h2 a j) → (∀ x, x < 6 * (k + 1) → h3 146 x = 0 ∧ h3 147 x = 0) → ∀ x2, XW g (d + 2) mMo_asIs K 27 [some (xr 120), some (xi ((k + 1 : Nat) : Int)), x2] [] h3 al) →
      XW g (d + 2) mMo_asIs K 107 [some (xr 120), some (xi (k : Int)), some (xi (o : Int))] [] h2 al := by
    intro m
    induction m with
    | zero =>
      intro o k h2 ho hk hf hz2 go
      have := go h2 hf (fun _ _ _ => rfl) (fun x hx => hz2 x (by omega)) (some (xi (o : Int)))
      rw [← nS k (by omega)] at this
      refine XW_t4 [27, 107] 60 okMo_asIs ?_
      refine ite_f (by omega) ?_
      exact this
    | succ m ih =>
      intro o k h2 ho hk hf hz2 go
      have hW2 : Wd h2 := hf.qf (al := al) |>.wd hW
      have e6 : ∀ _ : Unit, wI (wI (6 * (k : Int)) + (o : Int)) = ((6 * k + o : Nat) : Int) := fun _ => by
        rw [wI_id (z := 6 * (k : Int)) (by omega), wI_id (by omega)]
        omega
      have := ih (o + 1) k (uH (uH h2 146 (6 * k + o) 0) 147 (6 * k + o) 0) (by omega) hk (fun a j q1 q2 => by rw [uH_ne (by omega), uH_ne (by omega)]; exact hf a j q1 q2) (fun x hx => by
        by_cases e : x = 6 * k + o
        · rw [e, uH_at, uH_ne (by omega), uH_at]
          exact ⟨rfl, rfl⟩
        · rw [uH_ne (by omega), uH_ne (by omega), uH_ne (by omega), uH_ne (by omega)]
          exact hz2 x (by omega)) (fun h3 f1 f2 f3 x2 => go h3 f1 (fun a j q => (f2 a j q).trans (by rw [uH_ne (by omega), uH_ne (by omega)])) f3 x2)
      rw [← nS o (by omega)] at this
      obtain ⟨h3, rfl⟩ := hW2
      refine XW_t4 [107] 60 okMo_asIs ?_
      refine ite_t (by omega) ?_
      refine ⟨6 * k + o, e6 (), by show _ < 36; omega, Or.inl rfl, ?_⟩
      refine ⟨6 * k + o, e6 (), by show _ < 36; omega, Or.inl rfl, ?_⟩
      exact this
  have loopK : ∀ (m k : Nat) (h2 : HH) (x2 : Option XV), k + m = 6 → AF h h2 → h2 120 34 = lastL V 3 0 → h2 120 35 = h 120 2 → h2 120 36 = h 120 3 → (∀ x, x < 6 * k → h2 146 x = 0 ∧ h2 147 x = 0) → (∀ j, j < k → h2 140 j = h 123 j ∧ h2 141 j = h 124 j ∧ h2 142 j = h 121 j ∧ h2 143 j = h 122 j ∧ h2 144 j = h 125 j ∧ h2 145 j = h 126 j) →
      XW g (d + 2) mMo_asIs K 27 [some (xr 120), some (xi (k : Int)), x2] [] h2 al := by
    intro m
    induction m with
    | zero =>
      intro k h2 x2 hk hf f34 f35 f36 fz fr
      refine XW_t4 [27] 60 okMo_asIs ?_
      refine ite_f (by omega) ?_
      have hzz : MZ h2 V q0 := hz.fr fun a j q => hf a j (by rintro ⟨q1, q2⟩; unfold tQ inR at q; simp only [Bool.or_eq_true, Bool.and_eq_true, Nat.ble_eq, Nat.beq_eq] at q; omega) (by rintro ⟨rfl, q1, q2⟩; unfold tQ inR at q; simp only [Bool.or_eq_true, Bool.and_eq_true, Nat.ble_eq, Nat.beq_eq] at q; omega)
      have hMC : ∀ e : Nat → Int, MC h2 V e 36 := fun e p i hp hi => by
        obtain ⟨s1, s2⟩ := fz (6 * p + i) (by omega)
        exact ⟨Or.inl s1, fun _ => Or.inl s2⟩
      refine hK h2 hf hMC ⟨⟨⟨a6, q0, hzz⟩, f34, fun p hp => ?_⟩, hMC _, ⟨fun j hj => ?_, fun p hp => ?_⟩, ⟨(hf _ _ (by omega) (by omega)).trans a4, (hf _ _ (by omega) (by omega)).trans a2, (hf _ _ (by omega) (by omega)).trans o2, f35.trans d2, fun q hq => (hf _ _ (by omega) (by omega)).trans (o4 q hq)⟩, f36.trans l2⟩
      · obtain ⟨r1, r2, r3⟩ := hR p (by omega) hp
        obtain ⟨s1, s2, -⟩ := fr p (by omega)
        exact ⟨⟨s1, r1.1, r1.2⟩, ⟨s2, r2.1, r2.2⟩, fun l hl => ⟨hf _ _ (by omega) (by omega), (r3 l hl).1, (r3 l hl).2⟩⟩
      · obtain ⟨s1, s2, s3, s4, -⟩ := fr j (by omega)
        exact ⟨s3.trans (m1 j hj).1, s4.trans (m1 j hj).2⟩
      · obtain ⟨s1, s2, s3, s4, s5, s6⟩ := fr p (by omega)
        exact ⟨s5.trans (m2 p hp).1, s6.trans (m2 p hp).2⟩
    | succ m ih =>
      intro k h2 x2 hk hf f34 f35 f36 fz fr
      have hW2 : Wd h2 := hf.qf (al := al) |>.wd hW
      have key : ∀ z1 z2 z3 z4 z5 z6 : Int, z1 = h 123 k → z2 = h 124 k → z3 = h 121 k → z4 = h 122 k → z5 = h 125 k → z6 = h 126 k →
          XW g (d + 2) mMo_asIs K 107 [some (xr 120), some (xi (k : Int)), some (xi ((0 : Nat) : Int))] [] (uH (uH (uH (uH (uH (uH h2 140 k z1) 141 k z2) 142 k z3) 143 k z4) 144 k z5) 145 k z6) al := by
        intro z1 z2 z3 z4 z5 z6 e1 e2 e3 e4 e5 e6
        refine loopO 6 0 k _ rfl (by omega) (fun a j q1 q2 => by rw [uH_ne (by omega), uH_ne (by omega), uH_ne (by omega), uH_ne (by omega), uH_ne (by omega), uH_ne (by omega)]; exact hf a j q1 q2) (fun x hx => by
          rw [uH_ne (by omega), uH_ne (by omega), uH_ne (by omega), uH_ne (by omega), uH_ne (by omega), uH_ne (by omega), uH_ne (by omega), uH_ne (by omega), uH_ne (by omega), uH_ne (by omega), uH_ne (by omega), uH_ne (by omega)]
          exact fz x (by omega)) fun h3 g1 g2 g3 x2 => ?_
        have u : ∀ a j, ¬ (140 ≤ a ∧ a ≤ 147) → h3 a j = h2 a j := fun a j q => (g2 a j (by omega)).trans (by rw [uH_ne (by omega), uH_ne (by omega), uH_ne (by omega), uH_ne (by omega), uH_ne (by omega), uH_ne (by omega)])
        refine ih (k + 1) h3 x2 (by omega) g1 ((u _ _ (by omega)).trans f34) ((u _ _ (by omega)).trans f35) ((u _ _ (by omega)).trans f36) g3 (fun j hj => ?_)
        rw [g2 140 j (by omega), g2 141 j (by omega), g2 142 j (by omega), g2 143 j (by omega), g2 144 j (by omega), g2 145 j (by omega)]
        have w0 : ∀ x y : Int, uH (uH (uH (uH (uH (uH h2 140 k z1) 141 k z2) 142 k z3) 143 k z4) 144 k z5) 145 k z6 140 j = if j = k then z1 else h2 140 j := fun _ _ => by rw [uH_ne (by omega), uH_ne (by omega), uH_ne (by omega), uH_ne (by omega), uH_ne (by omega), uH_r]
        have w1 : uH (uH (uH (uH (uH (uH h2 140 k z1) 141 k z2) 142 k z3) 143 k z4) 144 k z5) 145 k z6 141 j = if j = k then z2 else h2 141 j := by rw [uH_ne (by omega), uH_ne (by omega), uH_ne (by omega), uH_ne (by omega), uH_r, uH_ne (by omega)]
        have w2 : uH (uH (uH (uH (uH (uH h2 140 k z1) 141 k z2) 142 k z3) 143 k z4) 144 k z5) 145 k z6 142 j = if j = k then z3 else h2 142 j := by rw [uH_ne (by omega), uH_ne (by omega), uH_ne (by omega), uH_r, uH_ne (by omega), uH_ne (by omega)]
        have w3 : uH (uH (uH (uH (uH (uH h2 140 k z1) 141 k z2) 142 k z3) 143 k z4) 144 k z5) 145 k z6 143 j = if j = k then z4 else h2 143 j := by rw [uH_ne (by omega), uH_ne (by omega), uH_r, uH_ne (by omega), uH_ne (by omega), uH_ne (by omega)]
        have w4 : uH (uH (uH (uH (uH (uH h2 140 k z1) 141 k z2) 142 k z3) 143 k z4) 144 k z5) 145 k z6 144 j = if j = k then z5 else h2 144 j := by rw [uH_ne (by omega), uH_r, uH_ne (by omega), uH_ne (by omega), uH_ne (by omega), uH_ne (by omega)]
        have w5 : uH (uH (uH (uH (uH (uH h2 140 k z1) 141 k z2) 142 k z3) 143 k z4) 144 k z5) 145 k z6 145 j = if j = k then z6 else h2 145 j := by rw [uH_r, uH_ne (by omega), uH_ne (by omega), uH_ne (by omega), uH_ne (by omega), uH_ne (by omega)]
        rw [w0 0 0, w1, w2, w3, w4, w5]
        by_cases e : j = k
        · rw [if_pos e, if_pos e, if_pos e, if_pos e, if_pos e, if_pos e, e]
          exact ⟨e1, e2, e3, e4, e5, e6⟩
        · rw [if_neg e, if_neg e, if_neg e, if_neg e, if_neg e, if_neg e]
          exact fr j (by omega)
      have u : ∀ a j, ¬ (140 ≤ a ∧ a ≤ 147) → ¬ (a = 120 ∧ 34 ≤ j ∧ j ≤ 36) → h2 a j = h a j := hf
      have k6 : k < 6 := by omega
      obtain ⟨h3, rfl⟩ := hW2
      refine XW_t4 [107] 100 okMo_asIs ?_
      refine ite_t (by omega) ?_
      refine ⟨k, rfl, by show k < 6; exact k6, _, rfl, ?_⟩
      refine ⟨k, rfl, by show k < 6; exact k6, ?_⟩
      refine ⟨k, rfl, by show k < 6; exact k6, _, rfl, ?_⟩
      refine ⟨k, rfl, by show k < 6; exact k6, ?_⟩
      refine ⟨k, rfl, by show k < 6; exact k6, _, rfl, ?_⟩
      refine ⟨k, rfl, by show k < 6; exact k6, ?_⟩
      refine ⟨k, rfl, by show k < 6; exact k6, _, rfl, ?_⟩
      refine ⟨k, rfl, by show k < 6; exact k6, ?_⟩
      refine ⟨k, rfl, by show k < 6; exact k6, _, rfl, ?_⟩
      refine ⟨k, rfl, by show k < 6; exact k6, ?_⟩
      refine ⟨k, rfl, by show k < 6; exact k6, _, rfl, ?_⟩
      refine ⟨k, rfl, by show k < 6; exact k6, ?_⟩
      exact key _ _ _ _ _ _ (u 123 k (by omega) (by omega)) (u 124 k (by omega) (by omega)) (u 121 k (by omega) (by omega)) (u 122 k (by omega) (by omega)) (u 125 k (by omega) (by omega)) (u 126 k (by omega) (by omega))
  obtain ⟨h0, rfl⟩ := id hW
  refine cof ocMo_asIs rfl (XW_t4 [27] 60 okMo_asIs ?_)
  refine c_last (w := 3) hW hz ?_
  exact loopK 6 0 (uH (uH (uH (wr h0) 120 34 (lastL V 3 0)) 120 35 (wr h0 120 2)) 120 36 (wr h0 120 3)) none rfl (fun a j q1 q2 => by rw [uH_ne (by omega), uH_ne (by omega), uH_ne (by omega)]) (by rw [uH_ne (by omega), uH_ne (by omega), uH_at]) (by rw [uH_ne (by omega), uH_at]) uH_at (fun x hx => absurd hx (by omega)) (fun j hj => absurd hj (by omega))
end AI
