-- best: the reference
section BS2
variable {g : GC} {d : Nat} {al : AL} {K : KT}
variable {VL : List Cl} {nP rd : Nat} {S : Nat → Nat} {P k v : Nat → Int} {st : Nat → Nat → Int}
abbrev wtB (VL : List Cl) (rd : Nat) (S : Nat → Nat) (P k v : Nat → Int) (st : Nat → Nat → Int) : Nat → Nat → Int := fun p i => wtS (k p) (v p) (st p) (lastL VL 3 0) (tbl VL (i : Int) (p : Int)) rd (S i) (P p)
def FXB (VL : List Cl) (nP : Nat) (P k v : Nat → Int) (st : Nat → Nat → Int) (h h2 : HH) : Prop := MQF h h2 ∧ MB h2 VL (lastL VL 3 0) k v st nP ∧ MC h2 VL (fun p => epr (k p) (v p) (lastL VL 3 0)) 36 ∧ ∀ p, p < nP → h2 145 p = P p
theorem FXB.up {h h2 : HH} {a j : Nat} {z : Int} (hf : FXB VL nP P k v st h h2) (ha : a = 154 ∨ a = 155) : FXB VL nP P k v st h (uH h2 a j z) := by
  obtain ⟨f1, ⟨⟨f2, q0, f3⟩, f4, f5⟩, f6, f7⟩ := hf
  have u : ∀ a2 j2, a2 ≠ a → uH h2 a j z a2 j2 = h2 a2 j2 := fun a2 j2 e => uH_ne fun q => e q.1
  refine ⟨f1.up (by omega), ⟨⟨f2, q0, f3.fr fun a2 j2 q => u a2 j2 ?_⟩, (u _ _ (by omega)).trans f4, fun p hp => ?_⟩, f6.up (by omega), fun p hp => (u _ _ (by omega)).trans (f7 p hp)⟩
  · unfold tQ inR at q
    simp only [Bool.or_eq_true, Bool.and_eq_true, Nat.ble_eq, Nat.beq_eq] at q
    omega
  · obtain ⟨b1, b2, b3⟩ := f5 p hp
    rw [u 140 p (by omega), u 141 p (by omega)]
    refine ⟨b1, b2, fun l hl => ?_⟩
    rw [u 127 _ (by omega)]
    exact b3 l hl
theorem FXB.mf {h h2 h3 : HH} (hf : FXB VL nP P k v st h h2) (hm : MF h2 h3) (hM : MC h3 VL (fun p => epr (k p) (v p) (lastL VL 3 0)) 36) : FXB VL nP P k v st h h3 := ⟨hf.1.trans hm.mq, hm.mb hf.2.1, hM, fun p hp => (hm 145 p (by decide) (by decide)).trans (hf.2.2.2 p hp)⟩
theorem c_worthNow {h : HH} {p i : Nat} {pi ii : Int} (hW : Wd h) (hB : MB h VL (lastL VL 3 0) k v st nP) (hM : MC h VL (fun p => epr (k p) (v p) (lastL VL 3 0)) 36) (hp : p < nP) (hi : i < 6) (ep : pi = (p : Int)) (ei : ii = (i : Int)) (h2 : h 120 2 = (rd : Int)) (hr : 1 ≤ rd ∧ rd ≤ 9) (hS : h 121 i = (S i : Int) ∧ S i < 10) (hpu : h 145 p = P p) (hP : I32 (P p))
    (hK : ∀ h2 : HH, MF h h2 → MC h2 VL (fun p => epr (k p) (v p) (lastL VL 3 0)) 36 → K (some (xi (wtB VL rd S P k v st p i))) h2 al) : Call g (d + 7) yMo_worthNow [xr 120, xi pi, xi ii] h al K := by
  subst ep
  subst ei
  obtain ⟨h0, rfl⟩ := id hW
  refine cof ocMo_worthNow rfl (XW_t4 [] 40 okMo_worthNow ?_)
  refine ⟨i, rfl, by show i < 6; exact hi, _, hS.1, ?_⟩
  exact c_Mworth (p := p) (i := i) (l := rd) (s := S i) hW hB hM hp hi hr hS.2 rfl rfl h2 rfl hpu hP fun h4 hm4 hM4 => hK h4 hm4 hM4
theorem eDv {B c j : Nat} (hc : c < 50000) : wI (((c / B ^ j : Nat) : Int).tdiv (B : Int)) = ((c / B ^ (j + 1) : Nat) : Int) := by
  show wI ((c / B ^ j / B : Nat) : Int) = _
  rw [Nat.div_div_eq_div_mul, ← Nat.pow_succ]
  have := Nat.div_le_self c (B ^ (j + 1))
  generalize c / B ^ (j + 1) = x at this ⊢
  exact wI_id (by omega)
def RSB (h : HH) (L : Nat) (s : SB) : Prop := s.1 = true → ∀ i, i < L → h 155 i = (s.2.2 i : Int)
abbrev flB (s : SB) : Int := if s.1 = true then 1 else 0
/-- the base, and what is asked of it -/
def BSB (h : HH) (B nP rd : Nat) (S : Nat → Nat) (P : Nat → Int) : Prop := Wd h ∧ h 120 0 = (B : Int) ∧ h 120 2 = (rd : Int) ∧ (1 ≤ rd ∧ rd ≤ 9) ∧ (∀ j, j < B → h 121 j = (S j : Int) ∧ S j < 10) ∧ ∀ p, p < nP → I32 (P p)
theorem BSB.at {h h2 : HH} {B : Nat} (hb : BSB h B nP rd S P) (hf : FXB VL nP P k v st h h2) : BSB h2 B nP rd S P := by
  obtain ⟨b1, b2, b3, b4, b5, b6⟩ := hb
  obtain ⟨f1, -⟩ := hf
  exact ⟨(f1.qf (al := fun _ => true)).wd b1, (f1 _ _ (by omega) (by omega)).trans b2, (f1 _ _ (by omega) (by omega)).trans b3, b4, fun j hj => ⟨(f1 _ _ (by omega) (by omega)).trans (b5 j hj).1, (b5 j hj).2⟩, b6⟩
set_option maxRecDepth 8000 in
/-- the digits of a code -/
theorem l_bestD {h : HH} {B L c : Nat} {q : Int} {cs : Int} {x11 : Option XV} {s : SB} (hb : BSB h B nP rd S P) (hB6 : B ≤ 6) (hL : L ≤ 6) (hLB : L ≤ B) (hc : c < 50000)
    (go : ∀ (h4 : HH) (fl us r : Int), FXB VL nP P k v st h h4 → RSB h4 L s → (∀ i, i < L → h4 154 i = (dgB B L c i : Int)) → fl = (if dsB B L c then 1 else 0) → XW g (d + 8) mMo_best K 162 [some (xr 120), some (xi q), some (xi (L : Int)), some (xi cs), some (xi (flB s)), some (xi s.2.1), some (xi (c : Int)), some (xi r), some (xi us), some (xi fl), some (xi (-1)), x11] [] h4 al) :
    ∀ (m j u : Nat) (h3 : HH) (fl : Int), j + m = L → FXB VL nP P k v st h h3 → RSB h3 L s → (∀ i, L ≤ i + j → i < L → h3 154 i = (dgB B L c i : Int)) → u < 1024 → (∀ b, b < 10 → (u.testBit b = true ↔ ∃ i, L ≤ i + j ∧ i < L ∧ dgB B L c i = b)) → ((fl = 1 ∧ ∀ b, b < L → ∀ a, L ≤ a + j → a < b → dgB B L c a ≠ dgB B L c b) ∨ (fl = 0 ∧ ¬ ∀ b, b < L → ∀ a, L ≤ a + j → a < b → dgB B L c a ≠ dgB B L c b)) →
      XW g (d + 8) mMo_best K 87 [some (xr 120), some (xi q), some (xi (L : Int)), some (xi cs), some (xi (flB s)), some (xi s.2.1), some (xi (c : Int)), some (xi ((c / B ^ j : Nat) : Int)), some (xi (u : Int)), some (xi fl), some (xi ((L : Int) - 1 - (j : Int))), x11] [] h3 al := by
  intro m
  induction m with
  | zero =>
    intro j u h3 fl hj hf hs h154 hu hbit hfl
    have ej : j = L := by omega
    subst ej
    have t := go h3 fl (u : Int) ((c / B ^ j : Nat) : Int) hf hs (fun i hi => h154 i (by omega) hi) (by
      rcases hfl with ⟨e, q2⟩ | ⟨e, q2⟩
      · rw [e, if_pos fun b hb a ha => q2 b hb a (by omega) ha]
      · rw [e, if_neg fun q3 => q2 fun b hb a _ ha => q3 b hb a ha])
    obtain ⟨h3', rfl⟩ := (hb.at hf).1
    refine XW_t4 [87, 162] 40 okMo_best ?_
    refine ite_t (show (j : Int) - 1 - (j : Int) < 0 by omega) ?_
    rw [show (j : Int) - 1 - (j : Int) = -1 by omega]
    exact t
  | succ m ih =>
    intro j u h3 fl hj hf hs h154 hu hbit hfl
    obtain ⟨i, hi⟩ : ∃ i, i = L - 1 - j := ⟨_, rfl⟩
    have ei : (L : Int) - 1 - (j : Int) = (i : Int) := by omega
    have hiL : i < L := by omega
    have hi6 : i < 6 := by omega
    have hB0 : 0 < B := by omega
    have edg : dgB B L c i = c / B ^ j % B := by
      unfold dgB
      rw [show L - 1 - i = j by omega]
    have hdl : dgB B L c i < B := dgB_lt hB0
    obtain ⟨hW3, e0, -⟩ := hb.at hf
    obtain ⟨h4, eh4⟩ : ∃ h4, h4 = uH h3 154 i (dgB B L c i : Int) := ⟨_, rfl⟩
    have hf4 : FXB VL nP P k v st h h4 := by rw [eh4]; exact hf.up (Or.inl rfl)
    have hs4 : RSB h4 L s := fun e i2 hi2 => by rw [eh4, uH_ne (fun q => absurd q.1 (by decide))]; exact hs e i2 hi2
    have e154 : h4 154 i = (dgB B L c i : Int) := by rw [eh4, uH_at]
    have eb := bit_n (a := u) (s := dgB B L c i) hu (by omega)
    have h2n : (2 : Nat) ^ dgB B L c i < 1024 := Nat.lt_of_lt_of_le (Nat.pow_lt_pow_right (by decide) (show dgB B L c i < 6 by omega)) (by decide)
    have hor := Nat.or_lt_two_pow (n := 10) hu h2n
    have nx := fun fl2 hfl2 => ih (j + 1) (u ||| 2 ^ dgB B L c i) h4 fl2 (by omega) hf4 hs4 (fun i2 q1 q2 => by
      by_cases e : i2 = i
      · rw [e]; exact e154
      · rw [eh4, uH_ne (fun q => e q.2)]
        exact h154 i2 (by omega) q2) hor (fun b hb => by
      rw [Nat.testBit_or, two_bit, Bool.or_eq_true, decide_eq_true_iff, hbit b hb]
      constructor
      · rintro (⟨i2, q1, q2, q3⟩ | e)
        · exact ⟨i2, by omega, q2, q3⟩
        · exact ⟨i, by omega, hiL, e⟩
      · rintro ⟨i2, q1, q2, q3⟩
        by_cases e : i2 = i
        · subst e
          exact Or.inr q3
        · exact Or.inl ⟨i2, by omega, q2, q3⟩) hfl2
    -- behind the digit: is it new?
    have key : ∀ fl2 : Int, ((fl2 = 1 ∧ ∀ b, b < L → ∀ a, L ≤ a + (j + 1) → a < b → dgB B L c a ≠ dgB B L c b) ∨ (fl2 = 0 ∧ ¬ ∀ b, b < L → ∀ a, L ≤ a + (j + 1) → a < b → dgB B L c a ≠ dgB B L c b)) →
        XW g (d + 8) mMo_best K 140 [some (xr 120), some (xi q), some (xi (L : Int)), some (xi cs), some (xi (flB s)), some (xi s.2.1), some (xi (c : Int)), some (xi ((c / B ^ (j + 1) : Nat) : Int)), some (xi (u : Int)), some (xi fl), some (xi (i : Int)), x11] [xi fl2] h4 al := by
      intro fl2 hfl2
      have t := nx fl2 hfl2
      rw [← oI_n hu h2n, ← shl_n (show dgB B L c i < 10 by omega)] at t
      have ew : wI ((i : Int) + -1) = (L : Int) - 1 - ((j + 1 : Nat) : Int) := by rw [wI_id (by omega)]; omega
      rw [← ew] at t
      have hW4 := (hb.at hf4).1
      clear eh4 ew
      obtain ⟨h4', rfl⟩ := hW4
      refine XW_t4 [87, 140] 60 okMo_best ?_
      refine ⟨i, rfl, by show i < 6; exact hi6, _, e154, ?_⟩
      exact t
    have pair : ∀ fl2 : Int, (∀ a, L ≤ a + j → a < L → dgB B L c i ≠ dgB B L c a) → fl = 1 → fl2 = 1 → (fl2 = 1 ∧ ∀ b, b < L → ∀ a, L ≤ a + (j + 1) → a < b → dgB B L c a ≠ dgB B L c b) := fun fl2 q1 q2 q3 => ⟨q3, fun b hb a ha hab => by
      rcases hfl with ⟨-, q4⟩ | ⟨e, -⟩
      · by_cases e : a = i
        · subst e
          exact q1 b (by omega) hb
        · exact q4 b hb a (by omega) hab
      · omega⟩
    rw [ei]
    have cont : XW g (d + 8) mMo_best K 106 [some (xr 120), some (xi q), some (xi (L : Int)), some (xi cs), some (xi (flB s)), some (xi s.2.1), some (xi (c : Int)), some (xi ((c / B ^ j : Nat) : Int)), some (xi (u : Int)), some (xi fl), some (xi (i : Int)), x11] [] h4 al := by
      obtain ⟨hW4, e04, -⟩ := hb.at hf4
      have ed := eDv (B := B) (j := j) hc
      rw [← e04] at ed
      clear eh4
      have k115 : XW g (d + 8) mMo_best K 115 [some (xr 120), some (xi q), some (xi (L : Int)), some (xi cs), some (xi (flB s)), some (xi s.2.1), some (xi (c : Int)), some (xi ((c / B ^ (j + 1) : Nat) : Int)), some (xi (u : Int)), some (xi fl), some (xi (i : Int)), x11] [] h4 al := by
        clear ed
        obtain ⟨h4', rfl⟩ := id hW4
        refine XW_t4 [140] 60 okMo_best ?_
        refine ite_i (fun q0 => ?_) (fun q0 => ?_)
        · have q0 : fl = 0 := q0
          refine key 0 (Or.inr ⟨rfl, fun q1 => ?_⟩)
          rcases hfl with ⟨e, -⟩ | ⟨-, q2⟩
          · omega
          · exact q2 fun b hb a ha hab => q1 b hb a (by omega) hab
        · have q0 : ¬ fl = 0 := q0
          have q1 : fl = 1 := by
            rcases hfl with ⟨e, -⟩ | ⟨e, -⟩
            · exact e
            · exact absurd e q0
          refine ⟨i, rfl, by show i < 6; exact hi6, _, e154, ?_⟩
          by_cases hbt : u.testBit (dgB B L c i) = true
          · refine ite_f (show ¬ aI (shrI (u : Int) (dgB B L c i : Int)) 1 = 0 by rw [eb, if_pos hbt]; decide) ?_
            obtain ⟨a, a1, a2, a3⟩ := (hbit _ (by omega)).mp hbt
            exact key 0 (Or.inr ⟨rfl, fun q2 => q2 a a2 i (by omega) (by omega) a3.symm⟩)
          · refine ite_t (show aI (shrI (u : Int) (dgB B L c i : Int)) 1 = 0 by rw [eb, if_neg hbt]) ?_
            exact key 1 (Or.inl (pair 1 (fun a a1 a2 e => hbt ((hbit _ (by omega)).mpr ⟨a, a1, a2, e.symm⟩)) q1 rfl))
      obtain ⟨h4', rfl⟩ := id hW4
      refine XW_t4 [115] 40 okMo_best ?_
      refine ⟨by rw [e04]; omega, ?_⟩
      rw [ed]
      exact k115
    have k105 : XW g (d + 8) mMo_best K 105 [some (xr 120), some (xi q), some (xi (L : Int)), some (xi cs), some (xi (flB s)), some (xi s.2.1), some (xi (c : Int)), some (xi ((c / B ^ j : Nat) : Int)), some (xi (u : Int)), some (xi fl), some (xi (i : Int)), x11] [xi (dgB B L c i : Int), xi (i : Int), xr 154] h3 al := by
      refine XW_t4 [106] 40 okMo_best ?_
      refine ⟨i, rfl, by show i < 6; exact hi6, ?_⟩
      rw [eh4] at cont
      exact cont
    have etm : ((c / B ^ j : Nat) : Int).tmod (B : Int) = (dgB B L c i : Int) := by rw [edg]; rfl
    clear eh4
    rw [← etm, ← e0] at k105
    obtain ⟨h3', rfl⟩ := id hW3
    refine XW_t4 [87, 105, 162] 40 okMo_best ?_
    exact ⟨by rw [e0]; omega, k105⟩
end BS2
