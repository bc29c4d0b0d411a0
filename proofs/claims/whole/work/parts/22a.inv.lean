-- what the invariant gives
theorem MVs.ot {h h2 : HH} {V : Nat → List Cl} {nV : Int} (hM : MVs h V nV) (hq : ∀ a k, 131 ≤ a → a ≤ 136 → h2 a k = h a k) : MVs h2 V nV := fun f hf hf2 => by
  obtain ⟨m1, m2, m3⟩ := hM f hf hf2
  refine ⟨(hq 131 f (by decide) (by decide)).trans m1, m2, fun j hj => ?_⟩
  obtain ⟨⟨a1, a2, a3⟩, a4⟩ := m3 j hj
  unfold MCl
  rw [hq 132 _ (by decide) (by decide), hq 133 _ (by decide) (by decide), hq 134 _ (by decide) (by decide), hq 135 _ (by decide) (by decide)]
  refine ⟨⟨a1, a2, fun q => ?_⟩, a4⟩
  obtain ⟨a, b1, b2, b3, b4⟩ := a3 q
  exact ⟨a, b1, b2, b3, fun j2 hj2 => (hq 136 _ (by decide) (by decide)).trans (b4 j2 hj2)⟩
theorem MVs.mz {h : HH} {V : Nat → List Cl} {nV : Int} (hM : MVs h V nV) (hv : -1 ≤ h 120 17 ∧ h 120 17 < nV) (h5 : nV ≤ 5) : ∃ q0, MZ h (Vw V (h 120 17)) q0 := by
  unfold Vw
  by_cases q : 0 ≤ h 120 17 ∧ h 120 17 < 5
  · rw [if_pos q]
    obtain ⟨m1, m2, m3⟩ := hM (h 120 17).toNat (by omega) (by omega)
    exact ⟨10 * (h 120 17).toNat, Or.inr ⟨(h 120 17).toNat, by omega, by omega, rfl, m1⟩, m2, fun j hj => (m3 j hj).1⟩
  · rw [if_neg q]
    exact ⟨0, Or.inl ⟨by omega, rfl, rfl⟩, ⟨Nat.zero_le _, fun c hc => by cases hc⟩, fun j hj => absurd hj (Nat.not_lt_zero _)⟩
/-- the world as it is, in both -/
def NWf (h : HH) (nH nP rd lots l yr : Nat) (lo S : Nat → Nat) (O P : Nat → Int) : Prop :=
  ((h 1 6 = (nH : Int) ∧ h 120 0 = (nH : Int)) ∧ (h 1 5 = (nP : Int) ∧ h 120 1 = (nP : Int)) ∧ nH ≤ 6 ∧ nP ≤ 6) ∧
  (CWd 10 h nH nP S O P ∧ (∀ j, nH ≤ j → j < 6 → h 11 j = 0) ∧ ∀ p, nP ≤ p → p < 6 → h 13 p = 0) ∧
  ((∀ j, j < nH → h 121 j = (S j : Int) ∧ h 122 j = ow O nP j) ∧ ∀ p, p < nP → h 125 p = O p ∧ h 126 p = P p) ∧
  gdW nH nP l S O P ∧
  ((h 10 7 = (l : Int) ∧ h 120 3 = (l : Int) ∧ l ≤ rd) ∧ (h 10 8 = (rd : Int) ∧ h 120 2 = (rd : Int) ∧ 1 ≤ rd ∧ rd ≤ 9) ∧ (h 10 9 = (yr : Int) ∧ h 120 4 = (yr : Int) ∧ yr ≤ 999)) ∧
  (h 10 5 = (lots : Int) ∧ h 120 5 = (lots : Int) ∧ lots ≤ 6 ∧ (∀ q, q < lots → h 14 q = (lo q : Int) ∧ h 128 q = (lo q : Int) ∧ lo q < 6) ∧ ∀ p q, p < lots → q < lots → lo p = lo q → p = q)
def BKf (h : HH) : Prop := (h 10 6 = h 120 6 ∧ 0 ≤ h 120 6 ∧ h 120 6 ≤ 12) ∧ ∀ k : Nat, k < 12 → (k : Int) < h 120 6 → h 15 k = h 129 k ∧ 0 ≤ h 129 k ∧ h 129 k ≤ 2
theorem SN.nw {h : HH} (hN : SN h) : ∃ (nH nP rd lots l yr : Nat) (lo S : Nat → Nat) (O P : Nat → Int), NWf h nH nP rd lots l yr lo S O P ∧ BKf h := by
  obtain ⟨n1, n2, r1, r2, r3, r4, r5, r6, r7, r8, r9, r10, r11, r12, r13⟩ := hN
  refine ⟨(h 120 0).toNat, (h 120 1).toNat, (h 120 2).toNat, (h 120 5).toNat, (h 120 3).toNat, (h 120 4).toNat, fun q => (h 128 q).toNat, fun j => (h 121 j).toNat, fun p => h 125 p, fun p => h 126 p, ⟨⟨⟨by omega, by omega⟩, ⟨by omega, by omega⟩, by omega, by omega⟩, ⟨⟨fun j hj => ?_, fun p hp => ⟨fun q => ?_, fun q => ?_⟩, fun p hp => ?_⟩, fun j h1 h2 => ?_, fun p h1 h2 => ?_⟩, ⟨fun j hj => ⟨?_, ?_⟩, fun p hp => ⟨rfl, rfl⟩⟩, ⟨by omega, fun j hj => ?_, fun p hp => ?_, fun p q hp hq h0 e => ?_, fun p hp => ?_⟩, ⟨⟨by omega, by omega, by omega⟩, ⟨by omega, by omega, by omega, by omega⟩, by omega, by omega, by omega⟩, by omega, by omega, by omega, fun q hq => ?_, fun p q hp hq e => ?_⟩, r9, r10⟩
  · have := (r1 j (by omega)).1 (by omega)
    show h 11 j = (((h 121 j).toNat : Nat) : Int)
    omega
  · have := (r2 p hp).1 (by omega)
    show (h 125 p = -1 ∧ h 12 p = -5) ∨ (0 ≤ h 125 p ∧ h 12 p = h 125 p)
    omega
  · exact (r2 p hp).2 (by omega)
  · exact ((r5 p (by omega)).1 (by omega)).1
  · exact (r1 j h2).2 (by omega)
  · exact (r5 p h2).2 (by omega)
  · have := (r1 j (by omega)).1 (by omega)
    show h 121 j = (((h 121 j).toNat : Nat) : Int)
    omega
  · rcases r3 j (by omega) (by omega) with ⟨a1, a2⟩ | ⟨p, a1, a2, a3, a4⟩
    · rw [a1]
      exact (ow_n fun p hp e => a2 p (by omega) (by omega) e).symm
    · rw [a3]
      refine (ow_p ?_ (by omega) (by omega) a4).symm
      intro p q hp hq h0 e
      exact r4 p q (by omega) (by omega) (by omega) (by omega) e (by omega)
  · have := (r1 j (by omega)).1 (by omega)
    show (h 121 j).toNat < 10
    omega
  · have := (r2 p (by omega)).1 (by omega)
    show h 125 p = -1 ∨ (0 ≤ h 125 p ∧ h 125 p < (((h 120 0).toNat : Nat) : Int))
    omega
  · have h0 : 0 ≤ h 125 p := h0
    exact r4 p q (by omega) (by omega) (by omega) (by omega) e (by omega)
  · have := (r5 p (by omega)).1 (by omega)
    exact this.2
  · have := r7 q (by omega) (by omega)
    show h 14 q = (((h 128 q).toNat : Nat) : Int) ∧ h 128 q = (((h 128 q).toNat : Nat) : Int) ∧ (h 128 q).toNat < 6
    omega
  · have a := r7 q (by omega) (by omega)
    have b := r7 p (by omega) (by omega)
    have e : (h 128 p).toNat = (h 128 q).toNat := e
    exact r8 p q (by omega) (by omega) (by omega) (by omega) (by omega)
theorem SN.of {h : HH} {nH nP rd lots l yr : Nat} {lo S : Nat → Nat} {O P : Nat → Int} (hN : NWf h nH nP rd lots l yr lo S O P) (hB : BKf h) : SN h := by
  obtain ⟨⟨⟨a1, a2⟩, ⟨a3, a4⟩, a5, a6⟩, ⟨⟨c1, c2, c3⟩, c4, c5⟩, ⟨m1, m2⟩, ⟨g1, g2, g3, g4, g5⟩, ⟨⟨l1, l2, l3⟩, ⟨d1, d2, d3, d4⟩, y1, y2, y3⟩, o1, o2, o3, o4, o5⟩ := hN
  refine ⟨by omega, by omega, fun k hk => ⟨fun q => ?_, fun q => c4 k (by omega) hk⟩, fun k hk => ⟨fun q => ?_, fun q => (c2 k hk).2 (by omega)⟩, fun j hj q => ?_, fun p q hp hq hp2 hq2 e h0 => ?_, fun k hk => ⟨fun q => ?_, fun q => c5 k (by omega) hk⟩, by omega, fun k hk q => ?_, fun p q hp hq hp2 hq2 e => ?_, hB.1, hB.2, by omega, by omega, by omega⟩
  · have b1 : h 11 k = (S k : Int) := c1 k (by omega)
    have b2 := (m1 k (by omega)).1
    have b3 := g2 k (by omega)
    omega
  · have b1 : (O k = -1 ∧ h 12 k = -5) ∨ (0 ≤ O k ∧ h 12 k = O k) := (c2 k hk).1 (by omega)
    have b2 := (m2 k (by omega)).1
    have b3 := g3 k (by omega)
    omega
  · have b2 := (m1 j (by omega)).2
    rcases ow_c O (j : Int) nP with ⟨b3, b4⟩ | ⟨p, b3, b4, b5⟩
    · refine Or.inl ⟨b2.trans b3, fun p hp hp2 e => b4 p (by omega) ?_⟩
      rw [← (m2 p (by omega)).1]
      exact e
    · refine Or.inr ⟨p, by omega, by omega, b2.trans b4, ?_⟩
      rw [(m2 p b3).1]
      exact b5
  · have b1 := (m2 p (by omega)).1
    have b2 := (m2 q (by omega)).1
    have b3 := g3 p (by omega)
    exact g4 p q (by omega) (by omega) (by omega) (by omega)
  · have b1 : h 13 k = P k := c3 k (by omega)
    have b2 := (m2 k (by omega)).2
    have b3 := g5 k (by omega)
    unfold I32 at b3
    omega
  · have := o4 k (by omega)
    omega
  · have b1 := o4 p (by omega)
    have b2 := o4 q (by omega)
    exact o5 p q (by omega) (by omega) (by omega)
theorem rs_in {t : Nat → Nat → Bool} {h : HH} {a k : Nat} (e : t a k = true) : rs t h a k = h a k := by
  unfold rs
  rw [e]
  rfl
theorem tH_ho {a k : Nat} (h1 : 200 ≤ a) (h2 : a ≤ 223) : tH a k = true := by
  have e : inR 200 223 a = true := by
    unfold inR
    rw [Bool.and_eq_true]
    exact ⟨Nat.ble_eq.mpr h1, Nat.ble_eq.mpr h2⟩
  unfold tH
  rw [e]
  simp
/-- holders as they came -/
theorem SH.wh {h : HH} {al : AL} {nP : Nat} (hH : SH h al) (e1 : h 120 1 = (nP : Int)) : WH h 2 nP (fun p => h 123 p) (fun p => h 124 p) (fun p l => h 127 (10 * p + l)) ∧ WH h 3 nP (fun _ => 3) (fun _ => 9) (fun _ _ => -1) ∧ (∀ i : Nat, i < 6 → i < nP → h 2 i = (200 + 4 * i : Nat) ∧ h 3 i = (202 + 4 * i : Nat)) ∧ (∀ p : Nat, p < 6 → p < nP → (0 ≤ h 123 p ∧ h 123 p ≤ 6) ∧ (0 ≤ h 124 p ∧ h 124 p ≤ 9) ∧ ∀ l : Nat, l < 10 → -1 ≤ h 127 (10 * p + l) ∧ h 127 (10 * p + l) ≤ 2) := by
  have hx : ∀ i : Nat, i < 6 → i < nP → h 2 i = (200 + 4 * i : Nat) ∧ h 3 i = (202 + 4 * i : Nat) ∧ (0 ≤ h 123 i ∧ h 123 i ≤ 6) ∧ (0 ≤ h 124 i ∧ h 124 i ≤ 9) ∧
    h (200 + 4 * i) 0 = (i : Int) ∧ h (200 + 4 * i) 1 = h 123 i ∧ h (200 + 4 * i) 2 = h 124 i ∧ h (200 + 4 * i) 3 = (201 + 4 * i : Nat) ∧
    h (202 + 4 * i) 0 = (i : Int) ∧ h (202 + 4 * i) 1 = 3 ∧ h (202 + 4 * i) 2 = 9 ∧ h (202 + 4 * i) 3 = (203 + 4 * i : Nat) ∧ (∀ l : Nat, l < 10 → h (203 + 4 * i) l = -5) ∧
    ∀ l : Nat, l < 10 → (h 127 (10 * i + l) = -1 ∧ h (201 + 4 * i) l = -5) ∨ (0 ≤ h 127 (10 * i + l) ∧ h 127 (10 * i + l) ≤ 2 ∧ h (201 + 4 * i) l = h 127 (10 * i + l)) := by
    intro i hi hn
    have := (hH i hi).1 (by omega)
    have e : ∀ a k, 200 ≤ a → a ≤ 223 → rs tH h a k = h a k := fun a k q1 q2 => rs_in (tH_ho q1 q2)
    obtain ⟨b1, b2, b3, b4, b5, b6, b7, b8, b9, b10, b11, b12, b13, b14⟩ := this
    rw [e _ _ (by omega) (by omega)] at b5 b6 b7 b8 b9 b10 b11 b12
    refine ⟨b1, b2, b3, b4, b5, b6, b7, b8, b9, b10, b11, b12, fun l hl => ?_, fun l hl => ?_⟩
    · rw [← e _ _ (by omega) (by omega)]
      exact b13 l hl
    · rw [← e (201 + 4 * i) _ (by omega) (by omega)]
      exact b14 l hl
  refine ⟨fun p hp => ⟨fun q => ?_, fun q => ?_⟩, fun p hp => ⟨fun q => ?_, fun q => ?_⟩, fun i hi q => ⟨(hx i hi q).1, (hx i hi q).2.1⟩, fun i hi q => ?_⟩
  · obtain ⟨b1, b2, b3, b4, b5, b6, b7, b8, b9, b10, b11, b12, b13, b14⟩ := hx p hp q
    exact ⟨200 + 4 * p, ⟨2 * p, by omega, by omega⟩, b1, b5, b6, b7, b8.trans (by omega), b3, b4, fun l hl => by
      rw [show 200 + 4 * p + 1 = 201 + 4 * p by omega]
      exact b14 l hl⟩
  · exact ((hH p hp).2 (by omega)).1
  · obtain ⟨b1, b2, b3, b4, b5, b6, b7, b8, b9, b10, b11, b12, b13, b14⟩ := hx p hp q
    exact ⟨202 + 4 * p, ⟨2 * p + 1, by omega, by omega⟩, b2, b9, b10, b11, b12.trans (by omega), ⟨show (0 : Int) ≤ 3 by decide, show (3 : Int) ≤ 6 by decide⟩, ⟨show (0 : Int) ≤ 9 by decide, show (9 : Int) ≤ 9 by decide⟩, fun l hl => by
      rw [show 202 + 4 * p + 1 = 203 + 4 * p by omega]
      exact Or.inl ⟨rfl, b13 l hl⟩⟩
  · exact ((hH p hp).2 (by omega)).2.1
  · obtain ⟨b1, b2, b3, b4, b5, b6, b7, b8, b9, b10, b11, b12, b13, b14⟩ := hx i hi q
    refine ⟨b3, b4, fun l hl => ?_⟩
    rcases b14 l hl with b | b <;> omega
theorem tV_in {a k : Nat} (e : a = 5 ∨ (80 ≤ a ∧ a ≤ 115) ∨ (131 ≤ a ∧ a ≤ 136) ∨ (230 ≤ a ∧ a ≤ 565)) : tV a k = true := by
  unfold tV inR
  simp only [Bool.or_eq_true, Bool.and_eq_true, Nat.ble_eq, Nat.beq_eq]
  omega
theorem SV.get {h : HH} {al : AL} (hV : SV h al) : ∃ V : Nat → List Cl, CGs h al V (h 120 16) ∧ MVs h V (h 120 16) := by
  obtain ⟨-, -, V, v1, v2⟩ := hV
  exact ⟨V, v1.ot fun a k e => (rs_in (tV_in (by omega))).symm, v2.ot fun a k q1 q2 => (rs_in (tV_in (by omega))).symm⟩
/-- what asking both may change -/
def qp (a k : Nat) : Prop := a = 5 ∨ 230 ≤ a ∨ (85 ≤ a ∧ a ≤ 115 ∧ (a - 85) % 6 = 0) ∨ (21 ≤ a ∧ a ≤ 25) ∨ (a = 20 ∧ 5 ≤ k) ∨ (51 ≤ a ∧ a ≤ 53) ∨ (a = 50 ∧ 3 ≤ k) ∨ a = 78 ∨ (139 ≤ a ∧ a ≤ 155) ∨ (a = 120 ∧ ((34 ≤ k ∧ k ≤ 36) ∨ k = 50))
def QF (h : HH) (al : AL) (h2 : HH) (al2 : AL) : Prop := (∀ a k, ¬ qp a k → h2 a k = h a k) ∧ ∀ a, a < 230 → al2 a = al a
theorem QF.refl {h : HH} {al : AL} : QF h al h al := ⟨fun _ _ _ => rfl, fun _ _ => rfl⟩
theorem QF.trans {h h2 h3 : HH} {al al2 al3 : AL} (a : QF h al h2 al2) (b : QF h2 al2 h3 al3) : QF h al h3 al3 := ⟨fun q k e => (b.1 q k e).trans (a.1 q k e), fun q e => (b.2 q e).trans (a.2 q e)⟩
theorem tG_q {a k : Nat} (e : ¬ qp a k) : tG a = false := by
  cases e2 : tG a with
  | false => rfl
  | true =>
    unfold tG at e2
    simp only [Bool.or_eq_true, Bool.and_eq_true, Nat.ble_eq, Nat.beq_eq] at e2
    unfold qp at e
    omega
theorem CF.qf {h h2 : HH} {al al2 : AL} (a : CF h al h2 al2) : QF h al h2 al2 := ⟨fun q k e => a.1 q k (tG_q e), a.2⟩
theorem WF.qf {h h2 : HH} {al al2 : AL} {nH nP : Nat} (a : WF 20 nH nP h al h2 al2) : QF h al h2 al2 := ⟨fun q k e => by
  have := tG_q e
  unfold qp at e
  exact a.1 q k this (by omega) (by omega) (by omega) (by omega), a.2⟩
theorem MF.qf {h h2 : HH} {al : AL} (a : MF h h2) : QF h al h2 al := ⟨fun q k e => by
  unfold qp at e
  exact a q k (by omega) (by omega), fun _ _ => rfl⟩
theorem YF.qf {h h2 : HH} {al : AL} (a : YF h h2) : QF h al h2 al := ⟨fun q k e => by
  unfold qp at e
  exact a q k (by omega) (by omega) (by omega), fun _ _ => rfl⟩
theorem QF.up {h h2 : HH} {al al2 : AL} {a k : Nat} {z : Int} (hf : QF h al h2 al2) (e : qp a k) : QF h al (uH h2 a k z) al2 := ⟨fun q j e2 => by
  rw [uH_ne (fun e3 => by obtain ⟨rfl, rfl⟩ := e3; exact e2 e)]
  exact hf.1 q j e2, hf.2⟩
theorem QF.wd {h h2 : HH} {al al2 : AL} (hf : QF h al h2 al2) (hW : Wd h) : Wd h2 := hW.of fun a k hk => hf.1 a k fun e => by
  by_cases q : 230 ≤ a
  · exact hk (by rw [wlG q]; show (-9 : Int) < 0; decide)
  · have c : ck 230 (fun a => decide ((a = 5 ∨ (85 ≤ a ∧ a ≤ 115 ∧ (a - 85) % 6 = 0) ∨ (21 ≤ a ∧ a ≤ 25) ∨ (51 ≤ a ∧ a ≤ 53) ∨ a = 78 ∨ (139 ≤ a ∧ a ≤ 155)) → wl a = [])) = true := by decide +kernel
    have c2 := of_decide_eq_true (ck_of c (show a < 230 by omega))
    unfold qp at e
    by_cases q2 : a = 20 ∧ 5 ≤ k
    · obtain ⟨rfl, q3⟩ := q2
      refine hk ?_
      rw [show wl 20 = [21, 22, 23, 24, 25] from rfl, List.getD_eq_getElem?_getD, List.getElem?_eq_none (show 5 ≤ k from q3)]
      decide
    · by_cases q4 : a = 50 ∧ 3 ≤ k
      · obtain ⟨rfl, q5⟩ := q4
        refine hk ?_
        rw [show wl 50 = [51, 52, 53] from rfl, List.getD_eq_getElem?_getD, List.getElem?_eq_none (show 3 ≤ k from q5)]
        decide
      · by_cases q6 : a = 120
        · subst q6
          have : k = 34 ∨ k = 35 ∨ k = 36 ∨ k = 50 := by omega
          rcases this with rfl | rfl | rfl | rfl <;> exact hk (by decide)
        · exact hk (by rw [c2 (by omega)]; show (-9 : Int) < 0; decide)
theorem Sim.qf {h h2 : HH} {al al2 : AL} {V : Nat → List Cl} (hS : Sim h al) (hM : MVs h V (h 120 16)) (hf : QF h al h2 al2) (hC : CGs h2 al2 V (h 120 16)) : Sim h2 al2 := by
  obtain ⟨hW, hN, hI, hH, hT, hP, hC0, hK, hV⟩ := hS
  have f : ∀ a k, ¬ qp a k → h2 a k = h a k := hf.1
  have f3 : ∀ k, k = 0 ∨ k = 1 ∨ k = 16 ∨ k = 17 → h2 120 k = h 120 k := fun k e => f 120 k (by unfold qp; omega)
  refine ⟨hf.wd hW, ?_, ?_, ?_, ?_, ?_, ?_, ?_, ?_⟩
  · have e : ∀ h, N0 (rs tN h) = N0 h := fun _ => rfl
    show N0 h2
    rw [← e, rs_of (h := h) fun a k q => f a k ?_, e]
    · exact hN
    · unfold tN inR at q
      simp only [Bool.or_eq_true, Bool.and_eq_true, Nat.ble_eq, Nat.beq_eq] at q
      unfold qp
      omega
  · have e : ∀ h n m v, I0 (rs tI h) n m v = I0 h n m v := fun _ _ _ _ => rfl
    show I0 h2 _ _ _
    rw [← e, rs_of (h := h) fun a k q => f a k ?_, e, f3 0 (by decide), f3 1 (by decide), f3 16 (by decide)]
    · exact hI
    · unfold tI inR at q
      simp only [Bool.or_eq_true, Bool.and_eq_true, Nat.ble_eq, Nat.beq_eq] at q
      unfold qp
      omega
  · show H0 (rs tH h2) al2 _
    rw [rs_of (h := h) fun a k q => f a k ?_, f3 1 (by decide)]
    · intro i hi
      refine ⟨(hH i hi).1, fun q => ?_⟩
      obtain ⟨b1, b2, b3⟩ := (hH i hi).2 q
      exact ⟨b1, b2, fun j hj => (hf.2 _ (by omega)).trans (b3 j hj)⟩
    · unfold tH inR at q
      simp only [Bool.or_eq_true, Bool.and_eq_true, Nat.ble_eq, Nat.beq_eq] at q
      unfold qp
      omega
  · have e : ∀ h, T0 (rs tT h) = T0 h := fun _ => rfl
    show T0 h2
    rw [← e, rs_of (h := h) fun a k q => f a k ?_, e]
    · exact hT
    · unfold tT at q
      simp only [Bool.or_eq_true, Bool.and_eq_true, Nat.ble_eq, Nat.beq_eq] at q
      unfold qp
      omega
  · show P0 (rs tP h2)
    rw [rs_of (h := h) fun a k q => f a k ?_]
    · exact hP
    · unfold tP inR at q
      simp only [Bool.or_eq_true, Bool.and_eq_true, Nat.ble_eq, Nat.beq_eq] at q
      unfold qp
      omega
  · have e : ∀ h, C0 (rs tC h) = C0 h := fun _ => rfl
    show C0 h2
    rw [← e, rs_of (h := h) fun a k q => f a k ?_, e]
    · exact hC0
    · unfold tC at q
      simp only [Bool.or_eq_true, Bool.and_eq_true, Nat.ble_eq, Nat.beq_eq] at q
      unfold qp
      omega
  · have e : ∀ h, K0 (rs tK h) = K0 h := fun _ => rfl
    show K0 h2
    rw [← e, rs_of (h := h) fun a k q => f a k ?_, e]
    · exact hK
    · unfold tK inR at q
      simp only [Bool.or_eq_true, Bool.and_eq_true, Nat.ble_eq, Nat.beq_eq] at q
      unfold qp
      omega
  · obtain ⟨v1, v2, -⟩ := hV
    refine ⟨?_, ?_, V, ?_, ?_⟩
    · rw [f 10 10 (by unfold qp; omega), f3 17 (by decide), f3 16 (by decide)]
      exact v1
    · rw [f 1 7 (by unfold qp; omega), f3 16 (by decide)]
      exact v2
    · rw [f3 16 (by decide)]
      exact hC.ot fun a k e => rs_in (tV_in (by omega))
    · rw [f3 16 (by decide)]
      exact hM.ot fun a k q1 q2 => (rs_in (tV_in (by omega))).trans (f a k (by unfold qp; omega))
