-- a clause's E, on the class's side and on the reference's
theorem c_atE {g : GC} {d : Nat} {h : HH} {al : AL} {K : KT} {o j : Nat} {i z : Int} (ho : isA 0 o = true) (hj : i = (j : Int)) (hl : j < ln g o) (hz : h o j = z) (hK : K (some (xi z)) h al) : Call g (d + 1) yBy_at [xr (Int.ofNat o), xi i] h al K := by
  subst hj
  subst hz
  exact c_atI ho ⟨by omega, by omega⟩ hK
theorem c_putE {g : GC} {d : Nat} {h : HH} {al : AL} {K : KT} {o j : Nat} {i z : Int} (ho : kd o = 50) (hj : i = (j : Int)) (hl : j < ln g o) (hK : K none (uH h o j z) al) : Call g (d + 1) yBy_put [xr (Int.ofNat o), xi i, xi z] h al K := by
  subst hj
  exact c_putI ho ⟨by omega, by omega⟩ hK
theorem nP {m : Nat} (h : 1 ≤ m) (h2 : m < 1000000) : wI ((m : Int) - 1) = ((m - 1 : Nat) : Int) := by rw [wI_id (by omega)]; omega
theorem nP2 {m : Nat} (h : 1 ≤ m) (h2 : m < 1000000) : wI ((m : Int) + -1) = ((m - 1 : Nat) : Int) := by rw [wI_id (by omega)]; omega
theorem uH_rowU {h : HH} {q k : Nat} {W : Nat → Int} {z : Int} : uH (rowU h q W) q k z = rowU h q (fun j => if j = k then z else W j) := by
  rw [uH_row, row_row]
  congr 1
  funext j
  rw [rowU_at]
theorem rowU_self {h : HH} {q : Nat} : rowU h q (h q) = h := (rowU_of fun a _ k => rfl).symm
theorem isA50 {o : Nat} (h : kd o = 50) : isA 0 o = true := by unfold isA; rw [h]; rfl
/-- the names of valleys -/
def VN (vn : Nat) : Prop := vn = 80 ∨ vn = 86 ∨ vn = 92 ∨ vn = 98 ∨ vn = 104 ∨ vn = 110
theorem VN.k {vn : Nat} (h : VN vn) : kd vn = 7 ∧ kd (vn + 1) = 50 ∧ kd (vn + 2) = 50 ∧ kd (vn + 3) = 50 ∧ kd (vn + 4) = 50 ∧ kd (vn + 5) = 50 := by
  rcases h with rfl | rfl | rfl | rfl | rfl | rfl <;> exact ⟨rfl, rfl, rfl, rfl, rfl, rfl⟩
theorem VN.l {vn : Nat} (h : VN vn) (g : GC) : ln g (vn + 1) = 10 ∧ ln g (vn + 2) = 10 ∧ ln g (vn + 3) = 10 ∧ ln g (vn + 4) = 100 ∧ ln g (vn + 5) = 11 := by
  rcases h with rfl | rfl | rfl | rfl | rfl | rfl <;> exact ⟨rfl, rfl, rfl, rfl, rfl⟩
/-- a valley's rows are its own -/
def VF (h : HH) (vn : Nat) : Prop := h vn 0 = ((vn + 1 : Nat) : Int) ∧ h vn 1 = ((vn + 2 : Nat) : Int) ∧ h vn 2 = ((vn + 3 : Nat) : Int) ∧ h vn 3 = ((vn + 4 : Nat) : Int) ∧ h vn 4 = ((vn + 5 : Nat) : Int)
theorem Wd.vf {h : HH} (hW : Wd h) {vn : Nat} (hv : VN vn) : VF h vn := by
  obtain ⟨h, rfl⟩ := hW
  rcases hv with rfl | rfl | rfl | rfl | rfl | rfl <;> exact ⟨rfl, rfl, rfl, rfl, rfl⟩
section EV
variable {g : GC} {d : Nat} {h : HH} {al : AL} {K : KT}
theorem c_Vholds {o : Nat} {x n : Int} (ho : o ≤ 2) (hK : K (some (xi (if relB o x n = true then 1 else 0))) h al) : Call g (d + 1) yVa_holds [xi x, xi (o : Int), xi n] h al K := by
  refine cof ocVa_holds rfl (XW_to [] 30 okVa_holds ?_)
  refine ite_i (fun q => ?_) (fun q => ?_)
  · have e : o = 0 := by omega
    subst e
    refine ite_i (fun h1 => ⟨Or.inr rfl, ?_⟩) (fun h1 => ⟨Or.inl rfl, ?_⟩)
    · rw [if_pos (show relB 0 x n = true from decide_eq_true h1)] at hK; exact hK
    · rw [if_neg (show ¬ relB 0 x n = true from fun q => h1 (of_decide_eq_true q))] at hK; exact hK
  · refine ite_i (fun q2 => ?_) (fun q2 => ?_)
    · have e : o = 1 := by omega
      subst e
      refine ite_i (fun h1 => ⟨Or.inr rfl, ?_⟩) (fun h1 => ⟨Or.inl rfl, ?_⟩)
      · rw [if_pos (show relB 1 x n = true from decide_eq_true h1)] at hK; exact hK
      · rw [if_neg (show ¬ relB 1 x n = true from fun q => h1 (of_decide_eq_true q))] at hK; exact hK
    · have e : o = 2 := by omega
      subst e
      refine ite_i (fun h1 => ⟨Or.inr rfl, ?_⟩) (fun h1 => ⟨Or.inl rfl, ?_⟩)
      · rw [if_pos (show relB 2 x n = true from decide_eq_true h1)] at hK; exact hK
      · rw [if_neg (show ¬ relB 2 x n = true from fun q => h1 (of_decide_eq_true q))] at hK; exact hK
theorem tdv {a b : Nat} : Int.tdiv (a : Int) (b : Int) = ((a / b : Nat) : Int) := rfl
theorem tmd {a b : Nat} : Int.tmod (a : Int) (b : Int) = ((a % b : Nat) : Int) := rfl
theorem c_statesOfTest {l o n : Nat} {lf i p : Int} (hl : l ≤ 3) (ho : o ≤ 2) (hn : n ≤ 99) (hK : ∀ m : Nat, m < 1024 → (∀ s : Nat, s < 10 → m.testBit s = relB o (ltr l s lf i p) n) → K (some (xi m)) h al) : Call g (d + 2) yVa_statesOfTest [xi ((300 * l + 100 * o + n : Nat) : Int), xi lf, xi i, xi p] h al K := by
  have e1 : wI (Int.tdiv ((300 * l + 100 * o + n : Nat) : Int) 300) = (l : Int) := by
    rw [show (300 : Int) = ((300 : Nat) : Int) from rfl, tdv, wI_id (by omega)]; omega
  have e2 : Int.tmod (wI (Int.tdiv ((300 * l + 100 * o + n : Nat) : Int) 100)) 3 = (o : Int) := by
    rw [show (100 : Int) = ((100 : Nat) : Int) from rfl, tdv, wI_id (by omega), show (3 : Int) = ((3 : Nat) : Int) from rfl, tmd]; omega
  have e3 : Int.tmod ((300 * l + 100 * o + n : Nat) : Int) 100 = (n : Int) := by
    rw [show (100 : Int) = ((100 : Nat) : Int) from rfl, tmd]; omega
  generalize ((300 * l + 100 * o + n : Nat) : Int) = z at e1 e2 e3
  have loop : ∀ k s m : Nat, s + k = 10 → m < 1024 → (∀ t : Nat, t < 10 → m.testBit t = (decide (t < s) && relB o (t : Int) n)) → l = 0 → XW g (d + 1) mVa_statesOfTest K 75 [some (xi z), some (xi lf), some (xi i), some (xi p), some (xi (l : Int)), some (xi (o : Int)), some (xi (n : Int)), some (xi (m : Int)), some (xi (s : Int))] [] h al := by
    intro k
    induction k with
    | zero =>
      intro s m hs hm hb e
      refine XW_to [75] 40 okVa_statesOfTest ?_
      refine ite_f (by omega) ?_
      refine hK m hm fun t ht => ?_
      rw [hb t ht, decide_eq_true (show t < s by omega), Bool.true_and, e]
      rfl
    | succ k ih =>
      intro s m hs hm hb e
      refine XW_to [75] 40 okVa_statesOfTest ?_
      refine ite_t (by omega) ?_
      refine c_Vholds ho ?_
      by_cases hr : relB o (s : Int) n = true
      · rw [if_pos hr]
        have em : oI (m : Int) (shlI 1 (s : Int)) = ((m ||| 2 ^ s : Nat) : Int) := by
          rw [shl_n (by omega), oI_n hm (Nat.pow_lt_pow_right (by omega) (show s < 10 by omega))]
        have hm2 : m ||| 2 ^ s < 1024 := Nat.or_lt_two_pow (n := 10) hm (Nat.pow_lt_pow_right (by omega) (by omega))
        have := ih (s + 1) (m ||| 2 ^ s) (by omega) hm2 (fun t ht => by
          rw [Nat.testBit_or, hb t ht, two_bit]
          by_cases et : s = t
          · subst et
            rw [decide_eq_true (show s < s + 1 by omega), hr]
            simp
          · rw [decide_eq_false et, Bool.or_false]
            congr 1
            exact decide_eq_decide.mpr (by omega)) e
        rw [← em, ← nS s (by omega)] at this
        exact this
      · rw [if_neg hr]
        have := ih (s + 1) m (by omega) hm (fun t ht => by
          rw [hb t ht]
          by_cases et : t = s
          · subst et
            rw [Bool.eq_false_iff.mpr hr]
            simp
          · congr 1
            exact decide_eq_decide.mpr (by omega)) e
        rw [← nS s (by omega)] at this
        exact this
  refine cof ocVa_statesOfTest rfl ?_
  refine XW_to [21] 40 okVa_statesOfTest ?_
  refine ⟨by decide, by decide, by decide, by decide, ?_⟩
  have go : XW g (d + 1) mVa_statesOfTest K 21 [some (xi z), some (xi lf), some (xi i), some (xi p), some (xi (l : Int)), some (xi (o : Int)), some (xi (n : Int)), none, none] [] h al := by
    refine XW_to [75, 49] 40 okVa_statesOfTest ?_
    refine ite_i (fun q => ?_) (fun q => ?_)
    · have e : l = 0 := by omega
      have := loop 10 0 0 rfl (by omega) (fun t ht => by simp) e
      exact this
    · have fin : ∀ x : Int, x = ltr l 0 lf i p → (∀ s, ltr l s lf i p = x) → XW g (d + 1) mVa_statesOfTest K 49 [some (xi z), some (xi lf), some (xi i), some (xi p), some (xi (l : Int)), some (xi (o : Int)), some (xi (n : Int)), some (xi x), none] [] h al := by
        intro x _ hx
        refine XW_to [] 40 okVa_statesOfTest ?_
        refine c_Vholds ho ?_
        by_cases hr : relB o x n = true
        · rw [if_pos hr]
          refine hK 1023 (by decide) fun s hs => ?_
          rw [hx, hr]
          exact of_decide_eq_true (ck_of (show ck 10 (fun s => decide (Nat.testBit 1023 s = true)) = true by decide) hs)
        · rw [if_neg hr]
          refine hK 0 (by decide) fun s hs => ?_
          rw [hx, Bool.eq_false_iff.mpr hr]
          exact Nat.zero_testBit s
      have e : l = 1 ∨ l = 2 ∨ l = 3 := by omega
      rcases e with rfl | rfl | rfl
      · exact fin lf rfl fun _ => rfl
      · exact fin i rfl fun _ => rfl
      · exact fin p rfl fun _ => rfl
  rw [← e1, ← e2, ← e3] at go
  exact go
theorem VF.row {h : HH} {vn : Nat} {W : Nat → Int} (hf : VF h vn) : VF (rowU h (vn + 5) W) vn := by
  unfold VF at hf ⊢
  rw [rowU_ne (by omega), rowU_ne (by omega), rowU_ne (by omega), rowU_ne (by omega), rowU_ne (by omega)]
  exact hf
def BT (W : Nat → Int) (m : Nat) (f : Nat → Nat → Bool) : Prop := ∀ j : Nat, j < m → ∃ a : Nat, a < 1024 ∧ W j = (a : Int) ∧ ∀ s : Nat, s < 10 → a.testBit s = f s j
theorem BT.up {W : Nat → Int} {m m2 k a : Nat} {f : Nat → Nat → Bool} {b : Nat → Bool} (hB : BT W m f) (ha : a < 1024) (hb : ∀ s : Nat, s < 10 → a.testBit s = b s) (hm : ∀ j, j < m2 → j = k ∨ j < m) : BT (fun j => if j = k then (a : Int) else W j) m2 (fun s => upB (f s) k (b s)) := by
  intro j hj
  by_cases e : j = k
  · refine ⟨a, ha, if_pos e, fun s hs => ?_⟩
    show _ = if j = k then _ else _
    rw [if_pos e]
    exact hb s hs
  · obtain ⟨a2, h1, h2, h3⟩ := hB j ((hm j hj).resolve_left e)
    refine ⟨a2, h1, (if_neg e).trans h2, fun s hs => ?_⟩
    show _ = if j = k then _ else _
    rw [if_neg e]
    exact h3 s hs
theorem c_statesIn {vn c e0 : Nat} {R : List Sg} {lf i p : Int} (hv : VN vn) (hf : VF h vn) (he : h (vn + 3) c = ((e0 + R.length : Nat) : Int)) (h0 : 0 < c → h (vn + 3) (c - 1) = (e0 : Int)) (h00 : c = 0 → e0 = 0) (hc : c < 10) (hl : e0 + R.length ≤ 100)
    (hR : ∀ j, j < R.length → h (vn + 4) (e0 + j) = cS (R.getD j z4)) (hw : wfS R 0)
    (hK : ∀ (m : Nat) (W : Nat → Int), m < 1024 → (∀ s : Nat, s < 10 → m.testBit s = evS s lf i p R 0 (fun _ => false)) → K (some (xi m)) (rowU h (vn + 5) W) al) : Call g (d + 3) yVa_statesIn [xr (Int.ofNat vn), xi (c : Int), xi lf, xi i, xi p] h al K := by
  obtain ⟨k0, k1, k2, k3, k4, k5⟩ := hv.k
  obtain ⟨l1, l2, l3, l4, l5⟩ := hv.l g
  have loop : ∀ (R2 : List Sg) (k m : Nat) (W : Nat → Int) (f : Nat → Nat → Bool) (x8 x9 x10 : Option XV), k + R2.length = e0 + R.length → (∀ j, j < R2.length → h (vn + 4) (k + j) = cS (R2.getD j z4)) → wfS R2 m → BT W m f → (∀ s : Nat, s < 10 → evS s lf i p R2 m (f s) = evS s lf i p R 0 (fun _ => false)) →
      XW g (d + 2) mVa_statesIn K 33 [some (xr (Int.ofNat vn)), some (xi (c : Int)), some (xi lf), some (xi i), some (xi p), some (xi (m : Int)), some (xi ((e0 + R.length : Nat) : Int)), some (xi (k : Int)), x8, x9, x10] [] (rowU h (vn + 5) W) al := by
    intro R2
    induction R2 with
    | nil =>
      intro k m W f x8 x9 x10 hk _ hw hB hE
      have hm : m = 1 := hw
      obtain ⟨a, a1, a2, a3⟩ := hB 0 (by omega)
      have hf2 := hf.row (W := W)
      rw [List.length_nil] at hk
      refine XW_t3 [33] 40 okVa_statesIn ?_
      refine ite_f (by omega) ?_
      refine cond_i (by rw [k0]; rfl) ⟨_, hf2.2.2.2.2, ?_⟩
      refine c_atE (j := 0) (isA50 k5) rfl (by omega) (z := (a : Int)) (by rw [rowU_at]; exact a2) ?_
      refine hK a W a1 fun s hs => ?_
      rw [← hE s hs, a3 s hs]
      rfl
    | cons t ts ih =>
      intro k m W f x8 x9 x10 hk hs hw hB hE
      have hf2 := hf.row (W := W)
      have hlen : k + (ts.length + 1) = e0 + R.length := by rw [← hk, List.length_cons]
      have ht : h (vn + 4) k = cS t := hs 0 (by rw [List.length_cons]; omega)
      have hs2 : ∀ j, j < ts.length → h (vn + 4) (k + 1 + j) = cS (ts.getD j z4) := by
        intro j hj
        have := hs (j + 1) (by rw [List.length_cons]; omega)
        rw [show k + 1 + j = k + (j + 1) by omega, this]
        rfl
      obtain ⟨tg, l, o, n⟩ := t
      obtain ⟨⟨g1, g2, g3, g4⟩, hw2⟩ := hw
      simp only [] at g1 g2 g3 g4
      refine XW_t3 [33] 60 okVa_statesIn ?_
      refine ite_t (by omega) ?_
      refine cond_i (by rw [k0]; rfl) ⟨_, hf2.2.2.2.1, ?_⟩
      refine c_atE (j := k) (isA50 k4) rfl (by omega) (z := cS (tg, l, o, n)) (by rw [rowU_ne (by omega)]; exact ht) ?_
      have e : tg = 0 ∨ tg = 1 ∨ tg = 2 ∨ tg = 3 := by omega
      rcases e with rfl | rfl | rfl | rfl
      · have hw3 : m < 11 ∧ wfS ts (m + 1) := hw2
        refine cond_i (by rw [k0]; rfl) ⟨_, hf2.2.2.2.2, ?_⟩
        refine c_statesOfTest g2 g3 g4 fun b hb1 hb2 => ?_
        refine c_putE (j := m) k5 rfl (by omega) ?_
        rw [uH_rowU]
        have := ih (k + 1) (m + 1) _ (fun s => upB (f s) m (relB o (ltr l (s : Int) lf i p) n)) (some (xi ((300 * l + 100 * o + n : Nat) : Int))) x9 x10 (by omega) hs2 hw3.2 (hB.up hb1 hb2 (fun j hj => by omega)) hE
        rw [← nS k (by omega), ← nS m (by omega)] at this
        exact this
      · have hw3 : (1 ≤ m ∧ m ≤ 11) ∧ wfS ts m := hw2
        obtain ⟨a, a1, a2, a3⟩ := hB (m - 1) (by omega)
        refine cond_i (by rw [k0]; rfl) ⟨_, hf2.2.2.2.2, ?_⟩
        refine cond_i (by rw [k0]; rfl) ⟨_, hf2.2.2.2.2, ?_⟩
        refine c_atE (j := m - 1) (isA50 k5) (nP hw3.1.1 (by omega)) (by omega) (z := (a : Int)) (by rw [rowU_at]; exact a2) ?_
        refine c_putE (j := m - 1) k5 (nP hw3.1.1 (by omega)) (by omega) ?_
        rw [uH_rowU, notI_n a1]
        have := ih (k + 1) m _ (fun s => upB (f s) (m - 1) (!f s (m - 1))) (some (xi (-1))) x9 x10 (by omega) hs2 hw3.2 (hB.up (a := 1023 - a) (by omega) (fun s hs => by rw [not_bit a1 hs, a3 s hs]) (fun j hj => by omega)) hE
        rw [← nS k (by omega)] at this
        exact this
      · have hw3 : (2 ≤ m ∧ m ≤ 11) ∧ wfS ts (m - 1) := hw2
        obtain ⟨a, a1, a2, a3⟩ := hB (m - 2) (by omega)
        obtain ⟨b, b1, b2, b3⟩ := hB (m - 1) (by omega)
        have e1 : wI ((m : Int) + -1) = ((m - 1 : Nat) : Int) := nP2 (by omega) (by omega)
        have e2 : wI (wI ((m : Int) + -1) - 1) = ((m - 2 : Nat) : Int) := by rw [e1, nP (by omega) (by omega)]; congr 1
        refine cond_i (by rw [k0]; rfl) ⟨_, hf2.2.2.2.2, ?_⟩
        refine c_atE (j := m - 2) (isA50 k5) e2 (by omega) (z := (a : Int)) (by rw [rowU_at]; exact a2) ?_
        refine cond_i (by rw [k0]; rfl) ⟨_, hf2.2.2.2.2, ?_⟩
        refine c_atE (j := m - 1) (isA50 k5) e1 (by omega) (z := (b : Int)) (by rw [rowU_at]; exact b2) ?_
        refine cond_i (by rw [k0]; rfl) ⟨_, hf2.2.2.2.2, ?_⟩
        refine c_putE (j := m - 2) k5 e2 (by omega) ?_
        rw [uH_rowU, aI_n a1 b1]
        have := ih (k + 1) (m - 1) _ (fun s => upB (f s) (m - 2) (f s (m - 2) && f s (m - 1))) (some (xi (-2))) (some (xi (a : Int))) (some (xi (b : Int))) (by omega) hs2 hw3.2 (hB.up (a := a &&& b) (Nat.and_lt_two_pow (n := 10) a b1) (fun s hs => by rw [Nat.testBit_and, a3 s hs, b3 s hs]) (fun j hj => by omega)) hE
        rw [← nS k (by omega), ← e1] at this
        exact this
      · have hw3 : (2 ≤ m ∧ m ≤ 11) ∧ wfS ts (m - 1) := hw2
        obtain ⟨a, a1, a2, a3⟩ := hB (m - 2) (by omega)
        obtain ⟨b, b1, b2, b3⟩ := hB (m - 1) (by omega)
        have e1 : wI ((m : Int) + -1) = ((m - 1 : Nat) : Int) := nP2 (by omega) (by omega)
        have e2 : wI (wI ((m : Int) + -1) - 1) = ((m - 2 : Nat) : Int) := by rw [e1, nP (by omega) (by omega)]; congr 1
        refine cond_i (by rw [k0]; rfl) ⟨_, hf2.2.2.2.2, ?_⟩
        refine c_atE (j := m - 2) (isA50 k5) e2 (by omega) (z := (a : Int)) (by rw [rowU_at]; exact a2) ?_
        refine cond_i (by rw [k0]; rfl) ⟨_, hf2.2.2.2.2, ?_⟩
        refine c_atE (j := m - 1) (isA50 k5) e1 (by omega) (z := (b : Int)) (by rw [rowU_at]; exact b2) ?_
        refine cond_i (by rw [k0]; rfl) ⟨_, hf2.2.2.2.2, ?_⟩
        refine c_putE (j := m - 2) k5 e2 (by omega) ?_
        rw [uH_rowU, oI_n a1 b1]
        have := ih (k + 1) (m - 1) _ (fun s => upB (f s) (m - 2) (f s (m - 2) || f s (m - 1))) (some (xi (-3))) (some (xi (a : Int))) (some (xi (b : Int))) (by omega) hs2 hw3.2 (hB.up (a := a ||| b) (Nat.or_lt_two_pow (n := 10) a1 b1) (fun s hs => by rw [Nat.testBit_or, a3 s hs, b3 s hs]) (fun j hj => by omega)) hE
        rw [← nS k (by omega), ← e1] at this
        exact this
  refine cof ocVa_statesIn rfl ?_
  refine XW_t3 [33] 60 okVa_statesIn ?_
  refine cond_i (by rw [k0]; rfl) ⟨_, hf.2.2.1, ?_⟩
  refine c_atE (j := c) (isA50 k3) rfl (by omega) he ?_
  have st := loop R e0 0 (h (vn + 5)) (fun _ _ => false) none none none rfl hR hw (fun j hj => absurd hj (by omega)) (fun _ _ => rfl)
  rw [rowU_self] at st
  refine ite_i (fun q => ?_) (fun q => ?_)
  · refine cond_i (by rw [k0]; rfl) ⟨_, hf.2.2.1, ?_⟩
    refine c_atE (j := c - 1) (isA50 k3) (nP (by omega) (by omega)) (by omega) (h0 (by omega)) ?_
    exact st
  · have e := h00 (by omega)
    subst e
    exact st
end EV
