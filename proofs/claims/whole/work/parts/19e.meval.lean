-- a clause's E on the reference's side; sums over clauses
def b2i (b : Bool) : Int := if b = true then 1 else 0
def BM (W : Nat → Int) (m : Nat) (f : Nat → Bool) : Prop := ∀ j : Nat, j < m → W j = b2i (f j)
theorem BM.up {W : Nat → Int} {m m2 k : Nat} {f : Nat → Bool} {b : Bool} {z : Int} (hB : BM W m f) (hz : z = b2i b) (hm : ∀ j, j < m2 → j = k ∨ j < m) : BM (fun j => if j = k then z else W j) m2 (upB f k b) := by
  intro j hj
  by_cases e : j = k
  · show (if j = k then z else W j) = b2i (if j = k then b else f j)
    rw [if_pos e, if_pos e, hz]
  · show (if j = k then z else W j) = b2i (if j = k then b else f j)
    rw [if_neg e, if_neg e]
    exact hB j ((hm j hj).resolve_left e)
section MH
variable {g : GC} {d : Nat} {h : HH} {al : AL} {K : KT}
theorem c_Mholds {c a : Nat} {R : List Sg} {s lf i p : Int} (hW : Wd h) (hc : c < 50) (ha : h 134 c = (a : Int)) (hb : h 135 c = ((a + R.length : Nat) : Int)) (hl : a + R.length ≤ 500)
    (hR : ∀ j, j < R.length → h 136 (a + j) = mS (R.getD j z4)) (hw : wfS R 0)
    (hK : ∀ W : Nat → Int, K (some (xi (b2i (evS s lf i p R 0 (fun _ => false))))) (rowU h 139 W) al) : Call g (d + 1) yMo_holds [xr 120, xi (c : Int), xi s, xi lf, xi i, xi p] h al K := by
  obtain ⟨h, rfl⟩ := hW
  have loop : ∀ (R2 : List Sg) (k m : Nat) (W : Nat → Int) (f : Nat → Bool) (x8 x9 x10 : Option XV), k + R2.length = a + R.length → (∀ j, j < R2.length → wr h 136 (k + j) = mS (R2.getD j z4)) → wfS R2 m → BM W m f → evS s lf i p R2 m f = evS s lf i p R 0 (fun _ => false) →
      XW g d mMo_holds K 11 [some (xr 120), some (xi (c : Int)), some (xi s), some (xi lf), some (xi i), some (xi p), some (xi (m : Int)), some (xi (k : Int)), x8, x9, x10] [] (rowU (wr h) 139 W) al := by
    intro R2
    induction R2 with
    | nil =>
      intro k m W f x8 x9 x10 hk _ hw hB hE
      have hm : m = 1 := hw
      rw [List.length_nil] at hk
      refine XW_to [11] 40 okMo_holds ?_
      refine ⟨⟨by omega, by show (c : Int) < 50; omega⟩, ?_⟩
      refine ite_f (show ¬ (k : Int) < wr h 135 c by omega) ?_
      refine ⟨⟨by decide, by show (0 : Int) < 100; decide⟩, ?_⟩
      have h0 : W 0 = b2i (evS s lf i p R 0 (fun _ => false)) := by rw [← hE]; exact hB 0 (by omega)
      refine ⟨?_, ?_⟩
      · show W 0 = 0 ∨ W 0 = 1
        rw [h0]
        unfold b2i
        split
        · exact Or.inr rfl
        · exact Or.inl rfl
      · show K (some (xi (W 0))) _ al
        rw [h0]
        exact hK W
    | cons t ts ih =>
      intro k m W f x8 x9 x10 hk hs hw hB hE
      have hlen : k + (ts.length + 1) = a + R.length := by rw [← hk, List.length_cons]
      have ht : wr h 136 k = mS t := hs 0 (by rw [List.length_cons]; omega)
      have hs2 : ∀ j, j < ts.length → wr h 136 (k + 1 + j) = mS (ts.getD j z4) := by
        intro j hj
        have := hs (j + 1) (by rw [List.length_cons]; omega)
        rw [show k + 1 + j = k + (j + 1) by omega, this]
        rfl
      obtain ⟨tg, l, o, n⟩ := t
      obtain ⟨⟨g1, g2, g3, g4⟩, hw2⟩ := hw
      simp only [] at g1 g2 g3 g4
      have hk9 : k < 1000000 := by omega
      have e0 : ∀ _ : Unit, wI ((k : Int) + 1) = ((k + 1 : Nat) : Int) := fun _ => nS k hk9
      refine XW_to [11, 190, 270] 60 okMo_holds ?_
      refine ⟨⟨by omega, by show (c : Int) < 50; omega⟩, ?_⟩
      refine ite_t (show (k : Int) < wr h 135 c by omega) ?_
      refine ⟨⟨by omega, by show (k : Int) < 500; omega⟩, ?_⟩
      have el : ((ln g 139 : Nat) : Int) = 100 := rfl
      have e : tg = 0 ∨ tg = 1 ∨ tg = 2 ∨ tg = 3 := by omega
      rcases e with rfl | rfl | rfl | rfl
      · have hw3 : m < 11 ∧ wfS ts (m + 1) := hw2
        have ht : wr h 136 k = ((1000 * l + 100 * o + n : Nat) : Int) := ht
        have leaf : ∀ (b : Int) (x9 x10 : Option XV), b = b2i (relB o (ltr l s lf i p) n) → XW g d mMo_holds K 270 [some (xr 120), some (xi (c : Int)), some (xi s), some (xi lf), some (xi i), some (xi p), some (xi (m : Int)), some (xi (k : Int)), some (xi (wr h 136 k)), x9, x10] [xi b, xi (m : Int), xr 139] (rowU (wr h) 139 W) al := by
          intro b x9 x10 hb
          refine XW_to [11] 40 okMo_holds ?_
          refine ⟨⟨by omega, by show (m : Int) < 100; omega⟩, ?_, ?_⟩
          · rw [hb]
            unfold b2i
            split
            · exact Or.inr rfl
            · exact Or.inl rfl
          · have := ih (k + 1) (m + 1) _ _ (some (xi (wr h 136 k))) x9 x10 (by omega) hs2 hw3.2 (hB.up (b := relB o (ltr l s lf i p) n) hb (fun j hj => by omega)) hE
            rw [← uH_rowU, ← nS k (by omega), ← nS m (by omega)] at this
            exact this
        have eo : Int.tmod (wI (Int.tdiv (wr h 136 k) 100)) 10 = (o : Int) := by
          rw [ht, show (100 : Int) = ((100 : Nat) : Int) from rfl, tdv, wI_id (by omega), show (10 : Int) = ((10 : Nat) : Int) from rfl, tmd]; omega
        have en : Int.tmod (wr h 136 k) 100 = (n : Int) := by
          rw [ht, show (100 : Int) = ((100 : Nat) : Int) from rfl, tmd]; omega
        have fin : ∀ x : Int, x = ltr l s lf i p → XW g d mMo_holds K 190 [some (xr 120), some (xi (c : Int)), some (xi s), some (xi lf), some (xi i), some (xi p), some (xi (m : Int)), some (xi (k : Int)), some (xi (wr h 136 k)), x9, x10] [xi x] (rowU (wr h) 139 W) al := by
          intro x hx
          refine XW_to [270] 60 okMo_holds ?_
          refine ⟨by decide, by decide, ?_⟩
          refine ite_i (fun q => ?_) (fun q => ?_)
          · have q2 : Int.tmod (wI (Int.tdiv (wr h 136 k) 100)) 10 = 0 := q
            have q3 : o = 0 := by omega
            subst q3
            refine ⟨by decide, ?_⟩
            refine ite_i (fun q4 => ?_) (fun q4 => ?_)
            · have q4 : x < Int.tmod (wr h 136 k) 100 := q4
              refine leaf 1 _ _ ?_
              rw [en, hx] at q4
              exact (if_pos (decide_eq_true q4)).symm
            · have q4 : ¬ x < Int.tmod (wr h 136 k) 100 := q4
              refine leaf 0 _ _ ?_
              rw [en, hx] at q4
              exact (if_neg (fun q5 => q4 (of_decide_eq_true q5))).symm
          · have q2 : ¬ Int.tmod (wI (Int.tdiv (wr h 136 k) 100)) 10 = 0 := q
            refine ite_i (fun q5 => ?_) (fun q5 => ?_)
            · have q6 : Int.tmod (wI (Int.tdiv (wr h 136 k) 100)) 10 = 1 := q5
              have q3 : o = 1 := by omega
              subst q3
              refine ⟨by decide, ?_⟩
              refine ite_i (fun q4 => ?_) (fun q4 => ?_)
              · have q4 : x = Int.tmod (wr h 136 k) 100 := q4
                refine leaf 1 _ _ ?_
                rw [en, hx] at q4
                exact (if_pos (decide_eq_true q4)).symm
              · have q4 : ¬ x = Int.tmod (wr h 136 k) 100 := q4
                refine leaf 0 _ _ ?_
                rw [en, hx] at q4
                exact (if_neg (fun q5 => q4 (of_decide_eq_true q5))).symm
            · have q6 : ¬ Int.tmod (wI (Int.tdiv (wr h 136 k) 100)) 10 = 1 := q5
              have q3 : o = 2 := by omega
              subst q3
              refine ⟨by decide, ?_⟩
              refine ite_i (fun q4 => ?_) (fun q4 => ?_)
              · have q4 : Int.tmod (wr h 136 k) 100 < x := q4
                refine leaf 1 _ _ ?_
                rw [en, hx] at q4
                exact (if_pos (decide_eq_true q4)).symm
              · have q4 : ¬ Int.tmod (wr h 136 k) 100 < x := q4
                refine leaf 0 _ _ ?_
                rw [en, hx] at q4
                exact (if_neg (fun q5 => q4 (of_decide_eq_true q5))).symm
        refine ite_f (show ¬ wr h 136 k = -33 by omega) ?_
        refine ite_f (show ¬ wr h 136 k < 0 by omega) ?_
        refine ite_i (fun q => ?_) (fun q => ?_)
        · have q2 : wr h 136 k < 1000 := q
          have q3 : l = 0 := by omega
          subst q3
          exact fin s rfl
        · have q2 : ¬ wr h 136 k < 1000 := q
          refine ite_i (fun q => ?_) (fun q => ?_)
          · have q4 : wr h 136 k < 2000 := q
            have q3 : l = 1 := by omega
            subst q3
            exact fin lf rfl
          · have q4 : ¬ wr h 136 k < 2000 := q
            refine ite_i (fun q => ?_) (fun q => ?_)
            · have q5 : wr h 136 k < 3000 := q
              have q3 : l = 2 := by omega
              subst q3
              exact fin i rfl
            · have q5 : ¬ wr h 136 k < 3000 := q
              have q3 : l = 3 := by omega
              subst q3
              exact fin p rfl
      · have hw3 : (1 ≤ m ∧ m ≤ 11) ∧ wfS ts m := hw2
        have hm9 : m < 1000000 := by omega
        have e1 : ∀ _ : Unit, wI ((m : Int) - 1) = ((m - 1 : Nat) : Int) := fun _ => nP hw3.1.1 hm9
        have hv : W (m - 1) = b2i (f (m - 1)) := hB (m - 1) (by omega)
        have key : ∀ b : Int, b = b2i (!f (m - 1)) → XW g d mMo_holds K 11 [some (xr 120), some (xi (c : Int)), some (xi s), some (xi lf), some (xi i), some (xi p), some (xi (m : Int)), some (xi (wI ((k : Int) + 1))), some (xi (wr h 136 k)), x9, x10] [] (uH (rowU (wr h) 139 W) 139 (wI ((m : Int) - 1)).toNat b) al := by
          intro b hb
          have := ih (k + 1) m _ _ (some (xi (wr h 136 k))) x9 x10 (by omega) hs2 hw3.2 (hB.up (b := !f (m - 1)) (k := m - 1) hb (fun j hj => by omega)) hE
          rw [← uH_rowU, ← e0 ()] at this
          rw [e1 ()]
          exact this
        refine ite_t (show wr h 136 k = -33 from ht) ?_
        refine ⟨⟨by rw [e1 ()]; omega, by rw [e1 (), el]; omega⟩, ?_⟩
        refine ite_i (fun q => ?_) (fun q => ?_)
        · have q2 : W (wI ((m : Int) - 1)).toNat = 0 := q
          rw [e1 ()] at q2
          have q3 : W (m - 1) = 0 := q2
          refine ⟨⟨by rw [e1 ()]; omega, by rw [e1 (), el]; omega⟩, Or.inr rfl, key 1 ?_⟩
          rw [hv] at q3
          cases e : f (m - 1) with
          | true => rw [e] at q3; cases q3
          | false => rfl
        · have q2 : ¬ W (wI ((m : Int) - 1)).toNat = 0 := q
          rw [e1 ()] at q2
          have q3 : ¬ W (m - 1) = 0 := q2
          refine ⟨⟨by rw [e1 ()]; omega, by rw [e1 (), el]; omega⟩, Or.inl rfl, key 0 ?_⟩
          rw [hv] at q3
          cases e : f (m - 1) with
          | true => rfl
          | false => rw [e] at q3; exact absurd rfl q3
      · have hw3 : (2 ≤ m ∧ m ≤ 11) ∧ wfS ts (m - 1) := hw2
        have hm9 : m < 1000000 := by omega
        have hm8 : 1 ≤ m := by omega
        have hm7 : 1 ≤ m - 1 ∧ m - 1 < 1000000 := by omega
        have e1 : ∀ _ : Unit, wI ((m : Int) + -1) = ((m - 1 : Nat) : Int) := fun _ => nP2 hm8 hm9
        have e2 : ∀ _ : Unit, wI (wI ((m : Int) + -1) - 1) = ((m - 2 : Nat) : Int) := fun _ => by rw [e1 (), nP hm7.1 hm7.2]; congr 1
        have hv1 : W (m - 1) = b2i (f (m - 1)) := hB (m - 1) (by omega)
        have hv2 : W (m - 2) = b2i (f (m - 2)) := hB (m - 2) (by omega)
        have key : ∀ b : Int, b = b2i (f (m - 2) && f (m - 1)) → XW g d mMo_holds K 11 [some (xr 120), some (xi (c : Int)), some (xi s), some (xi lf), some (xi i), some (xi p), some (xi (wI ((m : Int) + -1))), some (xi (wI ((k : Int) + 1))), some (xi (wr h 136 k)), x9, x10] [] (uH (rowU (wr h) 139 W) 139 (wI (wI ((m : Int) + -1) - 1)).toNat b) al := by
          intro b hb
          have := ih (k + 1) (m - 1) _ _ (some (xi (wr h 136 k))) x9 x10 (by omega) hs2 hw3.2 (hB.up (b := f (m - 2) && f (m - 1)) (k := m - 2) hb (fun j hj => by omega)) hE
          rw [← uH_rowU, ← e0 (), ← e1 ()] at this
          rw [e2 ()]
          exact this
        refine ite_f (show ¬ wr h 136 k = -33 from by rw [ht]; show ¬ (-38 : Int) = -33; decide) (ite_t (show wr h 136 k < 0 from by rw [ht]; show (-38 : Int) < 0; decide) ?_)
        refine ite_t (show wr h 136 k = -38 from ht) ?_
        refine ⟨⟨by rw [e2 ()]; omega, by rw [e2 (), el]; omega⟩, ?_⟩
        refine ite_i (fun q => ?_) (fun q => ?_)
        · have q2 : W (wI (wI ((m : Int) + -1) - 1)).toNat = 0 := q
          rw [e2 ()] at q2
          have q3 : W (m - 2) = 0 := q2
          refine ⟨⟨by rw [e2 ()]; omega, by rw [e2 (), el]; omega⟩, Or.inl rfl, key 0 ?_⟩
          rw [hv2] at q3
          cases e : f (m - 2) with
          | true => rw [e] at q3; cases q3
          | false => rfl
        · have q2 : ¬ W (wI (wI ((m : Int) + -1) - 1)).toNat = 0 := q
          rw [e2 ()] at q2
          have q3 : ¬ W (m - 2) = 0 := q2
          have q4 : f (m - 2) = true := by
            rw [hv2] at q3
            cases e : f (m - 2) with
            | true => rfl
            | false => rw [e] at q3; exact absurd rfl q3
          refine ⟨⟨by rw [e1 ()]; omega, by rw [e1 (), el]; omega⟩, ?_⟩
          refine ite_i (fun q => ?_) (fun q => ?_)
          · have q5 : W (wI ((m : Int) + -1)).toNat = 0 := q
            rw [e1 ()] at q5
            have q6 : W (m - 1) = 0 := q5
            refine ⟨⟨by rw [e2 ()]; omega, by rw [e2 (), el]; omega⟩, Or.inl rfl, key 0 ?_⟩
            rw [hv1] at q6
            cases e : f (m - 1) with
            | true => rw [e] at q6; cases q6
            | false => rw [q4]; rfl
          · have q5 : ¬ W (wI ((m : Int) + -1)).toNat = 0 := q
            rw [e1 ()] at q5
            have q6 : ¬ W (m - 1) = 0 := q5
            refine ⟨⟨by rw [e2 ()]; omega, by rw [e2 (), el]; omega⟩, Or.inr rfl, key 1 ?_⟩
            rw [hv1] at q6
            cases e : f (m - 1) with
            | true => rw [q4]; rfl
            | false => rw [e] at q6; exact absurd rfl q6
      · have hw3 : (2 ≤ m ∧ m ≤ 11) ∧ wfS ts (m - 1) := hw2
        have hm9 : m < 1000000 := by omega
        have hm8 : 1 ≤ m := by omega
        have hm7 : 1 ≤ m - 1 ∧ m - 1 < 1000000 := by omega
        have e1 : ∀ _ : Unit, wI ((m : Int) + -1) = ((m - 1 : Nat) : Int) := fun _ => nP2 hm8 hm9
        have e2 : ∀ _ : Unit, wI (wI ((m : Int) + -1) - 1) = ((m - 2 : Nat) : Int) := fun _ => by rw [e1 (), nP hm7.1 hm7.2]; congr 1
        have hv1 : W (m - 1) = b2i (f (m - 1)) := hB (m - 1) (by omega)
        have hv2 : W (m - 2) = b2i (f (m - 2)) := hB (m - 2) (by omega)
        have key : ∀ b : Int, b = b2i (f (m - 2) || f (m - 1)) → XW g d mMo_holds K 11 [some (xr 120), some (xi (c : Int)), some (xi s), some (xi lf), some (xi i), some (xi p), some (xi (wI ((m : Int) + -1))), some (xi (wI ((k : Int) + 1))), some (xi (wr h 136 k)), x9, x10] [] (uH (rowU (wr h) 139 W) 139 (wI (wI ((m : Int) + -1) - 1)).toNat b) al := by
          intro b hb
          have := ih (k + 1) (m - 1) _ _ (some (xi (wr h 136 k))) x9 x10 (by omega) hs2 hw3.2 (hB.up (b := f (m - 2) || f (m - 1)) (k := m - 2) hb (fun j hj => by omega)) hE
          rw [← uH_rowU, ← e0 (), ← e1 ()] at this
          rw [e2 ()]
          exact this
        refine ite_f (show ¬ wr h 136 k = -33 from by rw [ht]; show ¬ (-124 : Int) = -33; decide) (ite_t (show wr h 136 k < 0 from by rw [ht]; show (-124 : Int) < 0; decide) ?_)
        refine ite_f (show ¬ wr h 136 k = -38 from by rw [ht]; show ¬ (-124 : Int) = -38; decide) ?_
        refine ⟨⟨by rw [e2 ()]; omega, by rw [e2 (), el]; omega⟩, ?_⟩
        refine ite_i (fun q => ?_) (fun q => ?_)
        · have q2 : W (wI (wI ((m : Int) + -1) - 1)).toNat = 0 := q
          rw [e2 ()] at q2
          have q3 : W (m - 2) = 0 := q2
          have q4 : f (m - 2) = false := by
            rw [hv2] at q3
            cases e : f (m - 2) with
            | true => rw [e] at q3; cases q3
            | false => rfl
          refine ⟨⟨by rw [e1 ()]; omega, by rw [e1 (), el]; omega⟩, ?_⟩
          refine ite_i (fun q => ?_) (fun q => ?_)
          · have q5 : W (wI ((m : Int) + -1)).toNat = 0 := q
            rw [e1 ()] at q5
            have q6 : W (m - 1) = 0 := q5
            refine ⟨⟨by rw [e2 ()]; omega, by rw [e2 (), el]; omega⟩, Or.inl rfl, key 0 ?_⟩
            rw [hv1] at q6
            cases e : f (m - 1) with
            | true => rw [e] at q6; cases q6
            | false => rw [q4]; rfl
          · have q5 : ¬ W (wI ((m : Int) + -1)).toNat = 0 := q
            rw [e1 ()] at q5
            have q6 : ¬ W (m - 1) = 0 := q5
            refine ⟨⟨by rw [e2 ()]; omega, by rw [e2 (), el]; omega⟩, Or.inr rfl, key 1 ?_⟩
            rw [hv1] at q6
            cases e : f (m - 1) with
            | true => rw [q4]; rfl
            | false => rw [e] at q6; exact absurd rfl q6
        · have q2 : ¬ W (wI (wI ((m : Int) + -1) - 1)).toNat = 0 := q
          rw [e2 ()] at q2
          have q3 : ¬ W (m - 2) = 0 := q2
          refine ⟨⟨by rw [e2 ()]; omega, by rw [e2 (), el]; omega⟩, Or.inr rfl, key 1 ?_⟩
          rw [hv2] at q3
          cases e : f (m - 2) with
          | true => rfl
          | false => rw [e] at q3; exact absurd rfl q3
  refine cof ocMo_holds rfl ?_
  refine XW_to [11] 60 okMo_holds ?_
  refine ⟨⟨by omega, by show (c : Int) < 50; omega⟩, ?_⟩
  have st := loop R a 0 (wr h 139) (fun _ => false) none none none rfl hR hw (fun j hj => absurd hj (by omega)) rfl
  rw [rowU_self, ← ha] at st
  exact st
end MH
