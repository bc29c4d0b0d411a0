-- class and reference side by side: what their cells have in common
/-- what a part of the invariant may look at -/
def rs (t : Nat → Nat → Bool) (h : HH) : HH := fun a k => cond (t a k) (h a k) 0
theorem rs_up {t : Nat → Nat → Bool} {h : HH} {a k : Nat} {z : Int} (ht : t a k = false) : rs t (uH h a k z) = rs t h := by
  funext a' k'
  unfold rs
  by_cases e : a' = a ∧ k' = k
  · obtain ⟨rfl, rfl⟩ := e
    rw [ht]
    rfl
  · rw [uH_ne e]
theorem rs_of {t : Nat → Nat → Bool} {h h' : HH} (hq : ∀ a k, t a k = true → h' a k = h a k) : rs t h' = rs t h := by
  funext a k
  unfold rs
  cases e : t a k with
  | true => rw [hq a k e]
  | false => rfl
def inR (lo hi a : Nat) : Bool := Nat.ble lo a && Nat.ble a hi
/-- one world: of the class (w its object, wS .. its rows) and of the reference (rows st .., numbers), nH HOLDINGS, nP HOLDERS -/
def RW (wS wH wU wL wB st ow on pu lo bo : Nat) (cl cr cy cl2 cb lf rd yr lt bk nH nP : Int) (h : HH) : Prop :=
  (∀ k : Nat, k < 6 → ((k : Int) < nH → h wS k = h st k ∧ 0 ≤ h st k ∧ h st k ≤ 9) ∧ (nH ≤ (k : Int) → h wS k = 0)) ∧
  (∀ k : Nat, k < 6 → ((k : Int) < nP → (h on k = -1 ∧ h wH k = -5) ∨ (0 ≤ h on k ∧ h on k < nH ∧ h wH k = h on k)) ∧ (nP ≤ (k : Int) → h wH k = -5)) ∧
  (∀ j : Nat, j < 6 → (j : Int) < nH → (h ow j = -1 ∧ ∀ p : Nat, p < 6 → (p : Int) < nP → h on p ≠ (j : Int)) ∨ ∃ p : Nat, p < 6 ∧ (p : Int) < nP ∧ h ow j = (p : Int) ∧ h on p = (j : Int)) ∧
  (∀ p q : Nat, p < 6 → q < 6 → (p : Int) < nP → (q : Int) < nP → h on p = h on q → h on p ≠ -1 → p = q) ∧
  (∀ k : Nat, k < 6 → ((k : Int) < nP → h wU k = h pu k ∧ -2147483648 ≤ h pu k ∧ h pu k < 2147483648) ∧ (nP ≤ (k : Int) → h wU k = 0)) ∧
  (cl = lt ∧ 0 ≤ lt ∧ lt ≤ 6) ∧
  (∀ k : Nat, k < 6 → (k : Int) < lt → h wL k = h lo k ∧ 0 ≤ h lo k ∧ h lo k ≤ 5) ∧
  (∀ p q : Nat, p < 6 → q < 6 → (p : Int) < lt → (q : Int) < lt → h lo p = h lo q → p = q) ∧
  (cb = bk ∧ 0 ≤ bk ∧ bk ≤ 12) ∧
  (∀ k : Nat, k < 12 → (k : Int) < bk → h wB k = h bo k ∧ 0 ≤ h bo k ∧ h bo k ≤ 2) ∧
  (cl2 = lf ∧ 1 ≤ lf ∧ lf ≤ rd) ∧ (cr = rd ∧ rd ≤ 9) ∧ (cy = yr ∧ 0 ≤ yr ∧ yr ≤ 999)
-- the world as it is, and the counts
def tN (a k : Nat) : Bool := inR 11 15 a || Nat.beq a 121 || Nat.beq a 122 || Nat.beq a 125 || Nat.beq a 126 || Nat.beq a 128 || Nat.beq a 129 || (Nat.beq a 1 && inR 5 6 k) || (Nat.beq a 10 && inR 5 9 k) || (Nat.beq a 120 && inR 0 6 k)
def N0 (h : HH) : Prop := (0 ≤ h 120 0 ∧ h 120 0 ≤ 6 ∧ h 1 6 = h 120 0) ∧ (0 ≤ h 120 1 ∧ h 120 1 ≤ 6 ∧ h 1 5 = h 120 1) ∧ RW 11 12 13 14 15 121 122 125 126 128 129 (h 10 5) (h 10 8) (h 10 9) (h 10 7) (h 10 6) (h 120 3) (h 120 2) (h 120 4) (h 120 5) (h 120 6) (h 120 0) (h 120 1) h
def SN (h : HH) : Prop := N0 h
-- the image
def tI (a k : Nat) : Bool := inR 31 35 a || inR 156 161 a || (Nat.beq a 0 && Nat.beq k 4) || (Nat.beq a 30 && inR 5 10 k) || (Nat.beq a 120 && inR 54 62 k)
def I0 (h : HH) (nH nP nV : Int) : Prop := (h 0 4 = 0 ∧ h 120 54 = 0) ∨ (h 0 4 = 1 ∧ h 120 54 = 1 ∧ (0 ≤ h 120 56 ∧ h 120 56 ≤ nH) ∧ (0 ≤ h 120 57 ∧ h 120 57 ≤ nP) ∧ (h 30 10 = h 120 55 ∧ -1 ≤ h 120 55 ∧ h 120 55 < nV) ∧
  RW 31 32 33 34 35 156 157 158 159 160 161 (h 30 5) (h 30 8) (h 30 9) (h 30 7) (h 30 6) (h 120 59) (h 120 58) (h 120 60) (h 120 61) (h 120 62) (h 120 56) (h 120 57) h)
def SI (h : HH) : Prop := I0 h (h 120 0) (h 120 1) (h 120 16)
-- the holders
def tH (a k : Nat) : Bool := inR 2 3 a || inR 200 223 a || Nat.beq a 123 || Nat.beq a 124 || Nat.beq a 127
def H0 (h : HH) (al : AL) (nP : Int) : Prop := ∀ i : Nat, i < 6 →
  ((i : Int) < nP → h 2 i = (200 + 4 * i : Nat) ∧ h 3 i = (202 + 4 * i : Nat) ∧ (0 ≤ h 123 i ∧ h 123 i ≤ 6) ∧ (0 ≤ h 124 i ∧ h 124 i ≤ 9) ∧
    h (200 + 4 * i) 0 = (i : Int) ∧ h (200 + 4 * i) 1 = h 123 i ∧ h (200 + 4 * i) 2 = h 124 i ∧ h (200 + 4 * i) 3 = (201 + 4 * i : Nat) ∧
    h (202 + 4 * i) 0 = (i : Int) ∧ h (202 + 4 * i) 1 = 3 ∧ h (202 + 4 * i) 2 = 9 ∧ h (202 + 4 * i) 3 = (203 + 4 * i : Nat) ∧ (∀ l : Nat, l < 10 → h (203 + 4 * i) l = -5) ∧
    ∀ l : Nat, l < 10 → (h 127 (10 * i + l) = -1 ∧ h (201 + 4 * i) l = -5) ∨ (0 ≤ h 127 (10 * i + l) ∧ h 127 (10 * i + l) ≤ 2 ∧ h (201 + 4 * i) l = h 127 (10 * i + l))) ∧
  (nP ≤ (i : Int) → h 2 i = -1 ∧ h 3 i = -1 ∧ ∀ j : Nat, j < 4 → al (200 + 4 * i + j) = false)
def SH (h : HH) (al : AL) : Prop := H0 (rs tH h) al (h 120 1)
-- the text
def tT (a k : Nat) : Bool := Nat.beq a 41 || Nat.beq a 130 || (Nat.beq a 40 && Nat.beq k 1) || (Nat.beq a 120 && Nat.beq k 18)
def T0 (h : HH) : Prop := (h 40 1 = h 120 18 ∧ 0 ≤ h 120 18 ∧ h 120 18 ≤ 100) ∧ ∀ k : Nat, k < 100 → (k : Int) < h 120 18 → h 41 k = h 130 k % 256 ∧ -128 ≤ h 130 k ∧ h 130 k < 128
def ST (h : HH) : Prop := T0 h
-- the tapes
def tP (a k : Nat) : Bool := inR 66 77 a || inR 163 165 a
def P0 (h : HH) : Prop := ∀ t : Nat, t < 6 → (h (66 + 2 * t) 1 = h 163 t ∧ -1 ≤ h 163 t ∧ h 163 t ≤ 4) ∧ (h (66 + 2 * t) 2 = h 164 t ∧ 0 ≤ h 164 t ∧ h 164 t ≤ 60 ∧ (h 163 t < 0 → h 164 t = 0)) ∧ ∀ i : Nat, i < 60 → h (67 + 2 * t) i = h 165 (60 * t + i)
def SP (h : HH) : Prop := P0 (rs tP h)
-- acts
def tC (a k : Nat) : Bool := Nat.beq a 61 || Nat.beq a 162 || (Nat.beq a 60 && Nat.beq k 1) || (Nat.beq a 120 && Nat.beq k 69)
def C0 (h : HH) : Prop := (h 60 1 = h 120 69 ∧ 0 ≤ h 120 69 ∧ h 120 69 ≤ 1000) ∧ ∀ k : Nat, k < 20 → (k : Int) < h 120 69 → h 61 k = h 162 k
def SC (h : HH) : Prop := C0 h
-- rows that never change
def tK (a k : Nat) : Bool := inR 181 182 a || Nat.beq a 138
def kaT : List Int := [-1, 0, 0, 1, 1, 1, 2]
def boT : List Int := [10, 11, 12, 0, 20, 0, 30, 0, 0, 0, 0, 40, 50, 51, 0, 0, 0, 60, 71, 70, 0]
def leT : List Int := [102, 97, 108, 108, 98, 114, 105, 110, 103, 99, 111, 115, 116, 112, 97, 121, 107, 101, 101, 112]
def K0 (h : HH) : Prop := (∀ k : Nat, k < 7 → h 181 k = kaT.getD k 0) ∧ (∀ k : Nat, k < 21 → h 182 k = boT.getD k 0) ∧ ∀ k : Nat, k < 20 → h 138 k = leT.getD k 0
def SKo (h : HH) : Prop := K0 h
-- valleys and grounds
def tV (a k : Nat) : Bool := inR 80 115 a || inR 131 136 a || Nat.beq a 5 || inR 230 565 a
def VG0 (h : HH) (al : AL) (nV _ : Int) : Prop := VGx h al nV
def SV (h : HH) (al : AL) : Prop := (h 10 10 = h 120 17 ∧ -1 ≤ h 120 17 ∧ h 120 17 < h 120 16) ∧ (h 1 7 = h 120 16 ∧ 0 ≤ h 120 16 ∧ h 120 16 ≤ 5) ∧ VG0 (rs tV h) al (h 120 16) (h 120 17)
def Sim (h : HH) (al : AL) : Prop := Wd h ∧ SN h ∧ SI h ∧ SH h al ∧ ST h ∧ SP h ∧ SC h ∧ SKo h ∧ SV h al
/-- places that only the named part looks at may change -/
theorem uH_r {h : HH} {a k j : Nat} {z : Int} : uH h a k z a j = if j = k then z else h a j := by
  by_cases e : j = k
  · subst e; rw [uH_at, if_pos rfl]
  · rw [uH_ne (fun q => e q.2), if_neg e]
theorem SN.up {h : HH} {a k : Nat} {z : Int} (hN : SN h) (ht : tN a k = false) : SN (uH h a k z) := by
  have e : ∀ h, N0 (rs tN h) = N0 h := fun _ => rfl
  show N0 (uH h a k z)
  rw [← e, rs_up ht, e]
  exact hN
def at3 (a k : Nat) : Bool := Nat.beq a 120 && (Nat.beq k 0 || Nat.beq k 1 || Nat.beq k 16 || Nat.beq k 17)
theorem at3_ne {h : HH} {a k k2 : Nat} {z : Int} (ht : at3 a k = false) (hk : k2 = 0 ∨ k2 = 1 ∨ k2 = 16 ∨ k2 = 17) : uH h a k z 120 k2 = h 120 k2 := by
  refine uH_ne fun q => ?_
  obtain ⟨rfl, rfl⟩ := q
  rcases hk with rfl | rfl | rfl | rfl <;> cases ht
theorem SI.up {h : HH} {a k : Nat} {z : Int} (hI : SI h) (ht : tI a k = false) (h3 : at3 a k = false) : SI (uH h a k z) := by
  have e : ∀ h n m v, I0 (rs tI h) n m v = I0 h n m v := fun _ _ _ _ => rfl
  show I0 (uH h a k z) _ _ _
  rw [← e, rs_up ht, e, at3_ne h3 (by decide), at3_ne h3 (by decide), at3_ne h3 (by decide)]
  exact hI
theorem SH.up {h : HH} {al : AL} {a k : Nat} {z : Int} (hH : SH h al) (ht : tH a k = false) (h3 : at3 a k = false) : SH (uH h a k z) al := by
  show H0 (rs tH (uH h a k z)) al _
  rw [rs_up ht, at3_ne h3 (by decide)]
  exact hH
theorem ST.up {h : HH} {a k : Nat} {z : Int} (hN : ST h) (ht : tT a k = false) : ST (uH h a k z) := by
  have e : ∀ h, T0 (rs tT h) = T0 h := fun _ => rfl
  show T0 (uH h a k z)
  rw [← e, rs_up ht, e]
  exact hN
theorem SP.up {h : HH} {a k : Nat} {z : Int} (hN : SP h) (ht : tP a k = false) : SP (uH h a k z) := by
  show P0 (rs tP (uH h a k z))
  rw [rs_up ht]
  exact hN
theorem SC.up {h : HH} {a k : Nat} {z : Int} (hN : SC h) (ht : tC a k = false) : SC (uH h a k z) := by
  have e : ∀ h, C0 (rs tC h) = C0 h := fun _ => rfl
  show C0 (uH h a k z)
  rw [← e, rs_up ht, e]
  exact hN
theorem SKo.up {h : HH} {a k : Nat} {z : Int} (hN : SKo h) (ht : tK a k = false) : SKo (uH h a k z) := by
  have e : ∀ h, K0 (rs tK h) = K0 h := fun _ => rfl
  show K0 (uH h a k z)
  rw [← e, rs_up ht, e]
  exact hN
def tV2 (a k : Nat) : Bool := tV a k || at3 a k || (Nat.beq a 10 && Nat.beq k 10) || (Nat.beq a 1 && Nat.beq k 7)
theorem SV.up {h : HH} {al : AL} {a k : Nat} {z : Int} (hV : SV h al) (ht : tV2 a k = false) : SV (uH h a k z) al := by
  unfold tV2 at ht
  simp only [Bool.or_eq_false_iff] at ht
  obtain ⟨⟨⟨h1, h2⟩, h3⟩, h4⟩ := ht
  have e10 : uH h a k z 10 10 = h 10 10 := uH_ne fun q => by obtain ⟨rfl, rfl⟩ := q; cases h3
  have e17 : uH h a k z 1 7 = h 1 7 := uH_ne fun q => by obtain ⟨rfl, rfl⟩ := q; cases h4
  unfold SV
  rw [rs_up h1, at3_ne h2 (by decide), at3_ne h2 (by decide), e10, e17]
  exact hV
/-- all parts but the world as it is -/
def tX (a k : Nat) : Bool := tI a k || at3 a k || tH a k || tT a k || tP a k || tC a k || tK a k || tV2 a k || (!(wl a).isEmpty && decide (¬ (wl a).getD k (-9) < 0))
def SX (h : HH) (al : AL) : Prop := Wd h ∧ SI h ∧ SH h al ∧ ST h ∧ SP h ∧ SC h ∧ SKo h ∧ SV h al
theorem SX.up {h : HH} {al : AL} {a k : Nat} {z : Int} (hX : SX h al) (ht : tX a k = false) : SX (uH h a k z) al := by
  unfold tX at ht
  simp only [Bool.or_eq_false_iff] at ht
  obtain ⟨⟨⟨⟨⟨⟨⟨⟨t1, t2⟩, t3⟩, t4⟩, t5⟩, t6⟩, t7⟩, t8⟩, t9⟩ := ht
  have t9 : (wl a).getD k (-9) < 0 := by
    cases e : wl a with
    | nil => show (-9 : Int) < 0; decide
    | cons x l =>
      rw [e] at t9
      simp only [List.isEmpty_cons, Bool.not_false, Bool.true_and, decide_eq_false_iff_not, Decidable.not_not] at t9
      exact t9
  obtain ⟨a1, a2, a3, a4, a5, a6, a7, a8⟩ := hX
  exact ⟨a1.up t9, a2.up t1 t2, a3.up t3 t2, a4.up t4, a5.up t5, a6.up t6, a7.up t7, a8.up t8⟩
theorem Sim.x {h : HH} {al : AL} (hS : Sim h al) : SX h al := ⟨hS.1, hS.2.2⟩
theorem Sim.of {h : HH} {al : AL} (hN : SN h) (hX : SX h al) : Sim h al := ⟨hX.1, hN, hX.2⟩
/-- the two answers are the same number, and the cells go together again -/
def Ok2 (v : Option XV) : KT := fun v2 h2 al2 => (∃ z, v = some (xi z) ∧ v2 = some (xi z)) ∧ Sim h2 al2
theorem c_putI {g : GC} {d : Nat} {h : HH} {al : AL} {K : KT} {o : Nat} {i z : Int} (ho : kd o = 50) (hi : 0 ≤ i ∧ i < (ln g o : Int)) (hK : K none (uH h o i.toNat z) al) : Call g (d + 1) yBy_put [xr (Int.ofNat o), xi i, xi z] h al K :=
  c_put ho (by rw [putV_in hi]; exact hK)
theorem c_atI {g : GC} {d : Nat} {h : HH} {al : AL} {K : KT} {o : Nat} {i : Int} (ho : isA 0 o = true) (hi : 0 ≤ i ∧ i < (ln g o : Int)) (hK : K (some (xi (h o i.toNat))) h al) : Call g (d + 1) yBy_at [xr (Int.ofNat o), xi i] h al K :=
  c_at ho (by rw [atV_in hi]; exact hK)
