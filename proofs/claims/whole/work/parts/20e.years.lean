-- years, by themselves
def ow (O : Nat → Int) : Nat → Int → Int
  | 0, _ => -1
  | n + 1, j => if O n = j then (n : Int) else ow O n j
theorem ow_c (O : Nat → Int) (j : Int) : ∀ n, (ow O n j = -1 ∧ ∀ p, p < n → O p ≠ j) ∨ ∃ p, p < n ∧ ow O n j = (p : Int) ∧ O p = j := by
  intro n
  induction n with
  | zero => exact Or.inl ⟨rfl, fun p hp => absurd hp (by omega)⟩
  | succ n ih =>
    unfold ow
    by_cases q : O n = j
    · rw [if_pos q]
      exact Or.inr ⟨n, by omega, rfl, q⟩
    · rw [if_neg q]
      rcases ih with ⟨a1, a2⟩ | ⟨p, a1, a2, a3⟩
      · refine Or.inl ⟨a1, fun p hp => ?_⟩
        by_cases e : p = n
        · rw [e]; exact q
        · exact a2 p (by omega)
      · exact Or.inr ⟨p, by omega, a2, a3⟩
/-- each holding is had by one at most -/
def inj (O : Nat → Int) (nP : Nat) : Prop := ∀ p q, p < nP → q < nP → 0 ≤ O p → O p = O q → p = q
theorem ow_p {O : Nat → Int} {nP p : Nat} {j : Int} (hI : inj O nP) (hp : p < nP) (h0 : 0 ≤ j) (e : O p = j) : ow O nP j = (p : Int) := by
  rcases ow_c O j nP with ⟨_, a2⟩ | ⟨q, a1, a2, a3⟩
  · exact absurd e (a2 p hp)
  · rw [a2, hI p q hp a1 (by omega) (e.trans a3.symm)]
theorem ow_n {O : Nat → Int} {nP : Nat} {j : Int} (hn : ∀ p, p < nP → O p ≠ j) : ow O nP j = -1 := by
  rcases ow_c O j nP with ⟨a1, _⟩ | ⟨q, a1, _, a3⟩
  · exact a1
  · exact absurd a3 (hn q a1)
def I32 (z : Int) : Prop := -2147483648 ≤ z ∧ z < 2147483648
theorem I32_w (z : Int) : I32 (wI z) := by unfold I32 wI; omega
theorem wI_0 {z : Int} (h : I32 z) : wI (z + 0) = z := by rw [Int.add_zero]; exact wI_id h
section YS
variable (V : List Cl) (k v : Nat → Int) (st : Nat → Nat → Int) (nP : Nat)
def mY (l : Nat) (S : Nat → Nat) (O P : Nat → Int) (p : Nat) : Nat := stS (k p) (v p) (st p) (lastL V 3 0) (tbl V (O p) (p : Int)) l (S (O p).toNat) (P p)
def gY (l : Nat) (S : Nat → Nat) (O P : Nat → Int) (p : Nat) : Int := gnS (tbl V (O p) (p : Int)) l (S (O p).toNat) (mY V k v st l S O P p)
def sY (l : Nat) (S : Nat → Nat) (O P : Nat → Int) (j : Nat) : Nat := if ow O nP j < 0 then bhS (tbl V (j : Int) 99) l (S j) 0 else bhS (tbl V (j : Int) (ow O nP j)) l (S j) (mY V k v st l S O P (ow O nP j).toNat)
def pY (l : Nat) (S : Nat → Nat) (O P : Nat → Int) (p : Nat) : Int := if O p < 0 then P p else wI (P p + gY V k v st l S O P p)
def gnY (l : Nat) (S : Nat → Nat) (O P : Nat → Int) (G : Int) : Nat → Int
  | 0 => G
  | n + 1 => wI (gnY l S O P G n + if ow O nP n < 0 then 0 else gY V k v st l S O P (ow O nP n).toNat)
def pE (pay : Int) (S : Nat → Nat) (O P : Nat → Int) (p : Nat) : Int := if O p < 0 then P p else wI (P p + wI (pay * (S (O p).toNat : Int)))
def lotB (lots nH : Nat) (lo : Nat → Nat) : Bool := decide (lots = nH) && ck lots (fun q => decide (lo q < nH))
def oE (lots : Nat) (lo : Nat → Nat) (p : Nat) : Int := if p < lots then (lo p : Int) else -1
/-- left, states, who has what, purses, gains so far -/
abbrev YZ : Type := Nat × (Nat → Nat) × (Nat → Int) × (Nat → Int) × Int
variable (nH rd lots : Nat) (lo : Nat → Nat)
def yN (Z : YZ) : YZ :=
  if 2 ≤ Z.1 then (Z.1 - 1, sY V k v st nP Z.1 Z.2.1 Z.2.2.1 Z.2.2.2.1, Z.2.2.1, pY V k v st Z.1 Z.2.1 Z.2.2.1 Z.2.2.2.1, gnY V k v st nP Z.1 Z.2.1 Z.2.2.1 Z.2.2.2.1 Z.2.2.2.2 nH)
  else (rd, sY V k v st nP Z.1 Z.2.1 Z.2.2.1 Z.2.2.2.1, if lotB lots nH lo = true then oE lots lo else Z.2.2.1, pE (lastL V 3 0) (sY V k v st nP Z.1 Z.2.1 Z.2.2.1 Z.2.2.2.1) Z.2.2.1 (pY V k v st Z.1 Z.2.1 Z.2.2.1 Z.2.2.2.1), gnY V k v st nP Z.1 Z.2.1 Z.2.2.1 Z.2.2.2.1 Z.2.2.2.2 nH)
def yNs (Z : YZ) : Nat → YZ
  | 0 => Z
  | n + 1 => yN V k v st nP nH rd lots lo (yNs Z n)
end YS
def gdW (nH nP : Nat) (l : Nat) (S : Nat → Nat) (O P : Nat → Int) : Prop := (1 ≤ l ∧ l ≤ 9) ∧ (∀ j, j < nH → S j < 10) ∧ (∀ p, p < nP → O p = -1 ∨ (0 ≤ O p ∧ O p < (nH : Int))) ∧ inj O nP ∧ ∀ p, p < nP → I32 (P p)
def gdZ (nH nP : Nat) (Z : YZ) : Prop := gdW nH nP Z.1 Z.2.1 Z.2.2.1 Z.2.2.2.1 ∧ I32 Z.2.2.2.2
theorem sY_ok {V : List Cl} {k v : Nat → Int} {st : Nat → Nat → Int} {nH nP l : Nat} {S : Nat → Nat} {O P : Nat → Int} (hg : gdW nH nP l S O P) (hv : ∀ p, p < nP → v p ≤ 9) {j : Nat} (hj : j < nH) : sY V k v st nP l S O P j < 10 := by
  have hs := hg.2.1 j hj
  unfold sY
  split
  · exact bhS_le hs
  · rename_i q
    rcases ow_c O (j : Int) nP with ⟨a1, _⟩ | ⟨p, a1, a2, a3⟩
    · omega
    · rw [a2]
      show bhS _ _ _ (mY V k v st l S O P p) < 10
      refine bhS_le ?_
      unfold mY
      rw [a3]
      exact stS_le hs (hv p a1)
theorem pY_ok {V : List Cl} {k v : Nat → Int} {st : Nat → Nat → Int} {l p : Nat} {S : Nat → Nat} {O P : Nat → Int} (h : I32 (P p)) : I32 (pY V k v st l S O P p) := by
  unfold pY
  split
  · exact h
  · exact I32_w _
theorem pE_ok {pay : Int} {p : Nat} {S : Nat → Nat} {O P : Nat → Int} (h : I32 (P p)) : I32 (pE pay S O P p) := by
  unfold pE
  split
  · exact h
  · exact I32_w _
theorem gnY_ok {V : List Cl} {k v : Nat → Int} {st : Nat → Nat → Int} {nP l : Nat} {S : Nat → Nat} {O P : Nat → Int} {G : Int} (h : I32 G) (n : Nat) : I32 (gnY V k v st nP l S O P G n) := by
  cases n with
  | zero => exact h
  | succ n => exact I32_w _
theorem oE_inj {lots nP : Nat} {lo : Nat → Nat} (hd : ∀ p q, p < lots → q < lots → lo p = lo q → p = q) : inj (oE lots lo) nP := by
  intro p q _ _ h0 e
  unfold oE at h0 e
  by_cases q1 : p < lots
  · rw [if_pos q1] at e
    by_cases q2 : q < lots
    · rw [if_pos q2] at e
      exact hd p q q1 q2 (by omega)
    · rw [if_neg q2] at e
      omega
  · rw [if_neg q1] at h0
    omega
theorem lotB_lt {lots nH : Nat} {lo : Nat → Nat} (h : lotB lots nH lo = true) : lots = nH ∧ ∀ q, q < lots → lo q < nH := by
  unfold lotB at h
  rw [Bool.and_eq_true] at h
  exact ⟨of_decide_eq_true h.1, fun q hq => of_decide_eq_true (ck_of h.2 hq)⟩
theorem ck_i {n : Nat} {p : Nat → Bool} (h : ∀ k, k < n → p k = true) : ck n p = true := by
  induction n with
  | zero => rfl
  | succ n ih =>
    show (ck n p && p n) = true
    rw [ih fun k hk => h k (by omega), h n (by omega)]
    rfl
theorem lotB_i {lots nH : Nat} {lo : Nat → Nat} (h : lots = nH) (h2 : ∀ q, q < lots → lo q < nH) : lotB lots nH lo = true := by
  unfold lotB
  rw [decide_eq_true h, ck_i fun q hq => decide_eq_true (h2 q hq)]
  rfl
theorem yN_ok {V : List Cl} {k v : Nat → Int} {st : Nat → Nat → Int} {nH nP rd lots : Nat} {lo : Nat → Nat} {Z : YZ} (hZ : gdZ nH nP Z) (hv : ∀ p, p < nP → v p ≤ 9) (hr : 1 ≤ rd ∧ rd ≤ 9) (hd : ∀ p q, p < lots → q < lots → lo p = lo q → p = q) : gdZ nH nP (yN V k v st nP nH rd lots lo Z) := by
  obtain ⟨hw, hG⟩ := hZ
  obtain ⟨h1, h2, h3, h4, h5⟩ := id hw
  unfold yN
  split
  · exact ⟨⟨⟨show 1 ≤ Z.1 - 1 by omega, show Z.1 - 1 ≤ 9 by omega⟩, fun j hj => sY_ok hw hv hj, h3, h4, fun p hp => pY_ok (h5 p hp)⟩, gnY_ok hG nH⟩
  · refine ⟨⟨hr, fun j hj => sY_ok hw hv hj, ?_, ?_, fun p hp => pE_ok (pY_ok (h5 p hp))⟩, gnY_ok hG nH⟩
    · show ∀ p, p < nP → (if lotB lots nH lo = true then oE lots lo else Z.2.2.1) p = -1 ∨ _
      intro p hp
      by_cases q : lotB lots nH lo = true
      · simp only [if_pos q]
        have := lotB_lt q
        unfold oE
        by_cases q2 : p < lots
        · rw [if_pos q2]
          have := this.2 p q2
          omega
        · rw [if_neg q2]
          exact Or.inl rfl
      · simp only [if_neg q]
        exact h3 p hp
    · show inj (if lotB lots nH lo = true then oE lots lo else Z.2.2.1) nP
      by_cases q : lotB lots nH lo = true
      · rw [if_pos q]
        exact oE_inj hd
      · rw [if_neg q]
        exact h4
theorem yNs_ok {V : List Cl} {k v : Nat → Int} {st : Nat → Nat → Int} {nH nP rd lots : Nat} {lo : Nat → Nat} {Z : YZ} (hZ : gdZ nH nP Z) (hv : ∀ p, p < nP → v p ≤ 9) (hr : 1 ≤ rd ∧ rd ≤ 9) (hd : ∀ p q, p < lots → q < lots → lo p = lo q → p = q) (n : Nat) : gdZ nH nP (yNs V k v st nP nH rd lots lo Z n) := by
  induction n with
  | zero => exact hZ
  | succ n ih => exact yN_ok ih hv hr hd
-- as many as there are places
theorem pig (n : Nat) : ∀ f : Nat → Nat, (∀ q, q < n → f q < n) → (∀ p q, p < n → q < n → f p = f q → p = q) → ∀ h, h < n → ∃ q, q < n ∧ f q = h := by
  induction n with
  | zero => intro f _ _ h hh; exact absurd hh (by omega)
  | succ n ih =>
    intro f hm hi h hh
    by_cases hx : ∃ q, q < n ∧ f q = n
    · obtain ⟨q0, hq0, e0⟩ := hx
      have hfn : f n < n := by
        have h1 := hm n (by omega)
        have h2 : f n ≠ n := fun e => by have := hi n q0 (by omega) (by omega) (e.trans e0.symm); omega
        omega
      have := ih (fun p => if p = q0 then f n else f p) (fun q hq => by
        show (if q = q0 then f n else f q) < n
        split
        · exact hfn
        · rename_i e
          have h1 := hm q (by omega)
          have h2 : f q ≠ n := fun e2 => e (hi q q0 (by omega) (by omega) (e2.trans e0.symm))
          omega) (fun p q hp hq e => by
        have e : (if p = q0 then f n else f p) = (if q = q0 then f n else f q) := e
        by_cases a : p = q0
        · by_cases b : q = q0
          · rw [a, b]
          · rw [if_pos a, if_neg b] at e
            have := hi n q (by omega) (by omega) e
            omega
        · by_cases b : q = q0
          · rw [if_neg a, if_pos b] at e
            have := hi p n (by omega) (by omega) e
            omega
          · rw [if_neg a, if_neg b] at e
            exact hi p q (by omega) (by omega) e)
      by_cases eh : h = n
      · exact ⟨q0, by omega, e0.trans eh.symm⟩
      · obtain ⟨q, hq, e⟩ := this h (by omega)
        have e : (if q = q0 then f n else f q) = h := e
        by_cases a : q = q0
        · rw [if_pos a] at e
          exact ⟨n, by omega, e⟩
        · rw [if_neg a] at e
          exact ⟨q, by omega, e⟩
    · have hlt : ∀ q, q < n → f q < n := fun q hq => by
        have h1 := hm q (by omega)
        have h2 : f q ≠ n := fun e => hx ⟨q, hq, e⟩
        omega
      have := ih f hlt fun p q hp hq => hi p q (by omega) (by omega)
      by_cases eh : h = n
      · by_cases efn : f n = n
        · exact ⟨n, by omega, efn.trans eh.symm⟩
        · have h1 := hm n (by omega)
          obtain ⟨q, hq, e⟩ := this (f n) (by omega)
          have := hi q n (by omega) (by omega) e
          omega
      · obtain ⟨q, hq, e⟩ := this h (by omega)
        exact ⟨q, by omega, e⟩
theorem pig2 {n : Nat} {f : Nat → Nat} (hs : ∀ h, h < n → ∃ q, q < n ∧ f q = h) : ∀ q, q < n → f q < n := by
  have hs2 : ∀ h, ∃ q, h < n → q < n ∧ f q = h := fun h => by
    by_cases e : h < n
    · obtain ⟨q, hq⟩ := hs h e
      exact ⟨q, fun _ => hq⟩
    · exact ⟨0, fun q => absurd q e⟩
  obtain ⟨g2, hg⟩ := Classical.skolem.mp hs2
  intro q hq
  obtain ⟨h, hh, e⟩ := pig n g2 (fun h hh => (hg h hh).1) (fun a b ha hb e => by
    rw [← (hg a ha).2, ← (hg b hb).2, e]) q hq
  rw [← e, (hg h hh).2]
  exact hh
