-- tapes on both sides
def Ok2L (v : Option XV) : KT := fun v2 h2 al2 => (∃ z, v = some (xl z) ∧ v2 = some (xl z)) ∧ Sim h2 al2
def P1 (h : HH) (t : Nat) : Prop := (h (66 + 2 * t) 1 = h 163 t ∧ -1 ≤ h 163 t ∧ h 163 t ≤ 4) ∧ (h (66 + 2 * t) 2 = h 164 t ∧ 0 ≤ h 164 t ∧ h 164 t ≤ 60 ∧ (h 163 t < 0 → h 164 t = 0)) ∧ ∀ i : Nat, i < 60 → h (67 + 2 * t) i = h 165 (60 * t + i)
theorem P0_of {h : HH} (h0 : P1 h 0) (h1 : P1 h 1) (h2 : P1 h 2) (h3 : P1 h 3) (h4 : P1 h 4) (h5 : P1 h 5) : P0 h := by
  intro t ht
  match t, ht with
  | 0, _ => exact h0
  | 1, _ => exact h1
  | 2, _ => exact h2
  | 3, _ => exact h3
  | 4, _ => exact h4
  | 5, _ => exact h5
section TQ
variable {g : GC} {d : Nat} {h : HH} {al : AL}
/-- the reference empties the items of a tape -/
theorem l_Motape {K : KT} {t : Nat} {s n : Int} (ht : t < 6) (hK : ∀ f : Nat → Int, (∀ i, i < 60 → f (60 * t + i) = 0) → (∀ j, (j < 60 * t ∨ 60 * t + 60 ≤ j) → f j = wr h 165 j) → K (some (xi 1)) (rowU (wr h) 165 f) al) : XW g d mMo_tape K 69 [some (xr 120), some (xi t), some (xi s), some (xi n), some (xi 0)] [] (wr h) al := by
  have loop : ∀ m k : Nat, k + m = 60 → ∀ f : Nat → Int, (∀ i, i < k → f (60 * t + i) = 0) → (∀ j, (j < 60 * t ∨ 60 * t + k ≤ j) → f j = wr h 165 j) → XW g d mMo_tape K 69 [some (xr 120), some (xi t), some (xi s), some (xi n), some (xi (k : Int))] [] (rowU (wr h) 165 f) al := by
    intro m
    induction m with
    | zero =>
      intro k hk f f1 f2
      refine XW_to [69] 40 okMo_tape ?_
      exact ite_f (by omega) (hK f (fun i hi => f1 i (by omega)) (fun j hj => f2 j (by omega)))
    | succ m ih =>
      intro k hk f f1 f2
      refine XW_to [69] 40 okMo_tape ?_
      refine ite_t (by omega) ?_
      have e1 : wI (60 * (t : Int)) = 60 * (t : Int) := wI_id (by omega)
      have e2 : wI (60 * (t : Int) + (k : Int)) = ((60 * t + k : Nat) : Int) := by rw [wI_id (by omega)]; omega
      have el : ((ln g 165 : Nat) : Int) = 360 := rfl
      have e3 : wI (wI (60 * (t : Int)) + (k : Int)) = ((60 * t + k : Nat) : Int) := by rw [e1, e2]
      refine ⟨⟨by rw [e3]; omega, by rw [e3, el]; omega⟩, ?_⟩
      have := ih (k + 1) (by omega) (fun j => if j = 60 * t + k then 0 else f j) (fun i hi => by
        by_cases e : i = k
        · rw [if_pos (by omega)]
        · rw [if_neg (by omega)]; exact f1 i (by omega)) (fun j hj => by
        rw [if_neg (by omega)]; exact f2 j (by omega))
      have e : uH (rowU (wr h) 165 f) 165 (wI (wI (60 * (t : Int)) + (k : Int))).toNat 0 = rowU (wr h) 165 (fun j => if j = 60 * t + k then 0 else f j) := by
        rw [e3, uH_row, row_row]
        congr 1
      rw [← e, ← nS k (by omega)] at this
      exact this
  have := loop 60 0 rfl (fun j => wr h 165 j) (fun i hi => absurd hi (by omega)) (fun j _ => rfl)
  rw [show rowU (wr h) 165 (fun j => wr h 165 j) = wr h from (rowU_of fun a _ k => rfl).symm] at this
  exact this
theorem s_tapeY0 {s n : Int} (hS : Sim h al) (hs : -1 ≤ s ∧ s ≤ 4) (hn : 0 ≤ n ∧ n ≤ 60) (hsn : s < 0 → n = 0) (n0 : Int) (hn0 : 0 ≤ s → n0 = n) : Call g (d + 3) yTa_become [xr 66, xi s, xi n] h al (fun v h1 al1 => v = none ∧ XW g (d + 3) mMo_tape (Ok2 (some (xi 1))) 44 [some (xr 120), some (xi 0), some (xi s), some (xi n0), none] [] h1 al1) := by
  obtain ⟨hW, hN, hI, hH, hT, hP, hC, hK, hV⟩ := id hS
  refine c_become0 hW hn fun f hf => ?_
  have hW3 : Wd (rowU (uH (uH h 66 1 s) 66 2 n) 67 f) := (((hW.up (by decide)).up (by decide)).row rfl)
  have eh : rowU (uH (uH h 66 1 s) 66 2 n) 67 f = wr (rowU (uH (uH h 66 1 s) 66 2 n) 67 f) := hW3.eq.symm
  refine ⟨rfl, ?_⟩
  rw [eh]
  refine XW_to [69] 40 okMo_tape ?_
  refine ⟨⟨by decide, by show (0 : Int) < 6; decide⟩, ?_⟩
  have key : ∀ z : Int, z = n → XW g (d + 3) mMo_tape (Ok2 (some (xi 1))) 69 [some (xr 120), some (xi ((0 : Nat) : Int)), some (xi s), some (xi n0), some (xi 0)] [] (uH (uH (wr (rowU (uH (uH h 66 1 s) 66 2 n) 67 f)) 163 ((0 : Nat) : Int).toNat s) 164 ((0 : Nat) : Int).toNat z) al := by
    intro z hz
    subst hz
    rw [← eh]
    have hW5 : Wd (uH (uH (rowU (uH (uH h 66 1 s) 66 2 z) 67 f) 163 ((0 : Nat) : Int).toNat s) 164 ((0 : Nat) : Int).toNat z) := (((((hW.up (by decide)).up (by decide)).row rfl).upA rfl).upA rfl)
    have e5 := hW5.eq.symm
    rw [e5]
    refine l_Motape (by decide) fun f2 g1 g2 => ?_
    rw [← e5] at g2 ⊢
    refine ⟨⟨1, rfl, rfl⟩, ⟨((((((hW.up (by decide)).up (by decide)).row rfl).upA rfl).upA rfl).row rfl), ((((((hN.up rfl).up rfl).row (fun _ => rfl)).up rfl).up rfl).row (fun _ => rfl)), ((((((hI.up rfl rfl).up rfl rfl).row (fun _ => rfl) (by decide)).up rfl rfl).up rfl rfl).row (fun _ => rfl) (by decide)), ((((((hH.up rfl rfl).up rfl rfl).row (fun _ => rfl) (by decide)).up rfl rfl).up rfl rfl).row (fun _ => rfl) (by decide)), ((((((hT.up rfl).up rfl).row (fun _ => rfl)).up rfl).up rfl).row (fun _ => rfl)), ?_, ((((((hC.up rfl).up rfl).row (fun _ => rfl)).up rfl).up rfl).row (fun _ => rfl)), ((((((hK.up rfl).up rfl).row (fun _ => rfl)).up rfl).up rfl).row (fun _ => rfl)), ((((((hV.up rfl).up rfl).row (fun _ => rfl) (by decide) (by decide) (by decide)).up rfl).up rfl).row (fun _ => rfl) (by decide) (by decide) (by decide))⟩⟩
    refine P0_of ?_ ?_ ?_ ?_ ?_ ?_
    · exact ⟨⟨rfl, hs.1, hs.2⟩, ⟨rfl, hn.1, hn.2, hsn⟩, fun i hi => (hf i hi).trans (g1 i hi).symm⟩
    · exact ⟨(hP 1 (by decide)).1, (hP 1 (by decide)).2.1, fun i hi => ((hP 1 (by decide)).2.2 i hi).trans (g2 (60 * 1 + i) (by omega)).symm⟩
    · exact ⟨(hP 2 (by decide)).1, (hP 2 (by decide)).2.1, fun i hi => ((hP 2 (by decide)).2.2 i hi).trans (g2 (60 * 2 + i) (by omega)).symm⟩
    · exact ⟨(hP 3 (by decide)).1, (hP 3 (by decide)).2.1, fun i hi => ((hP 3 (by decide)).2.2 i hi).trans (g2 (60 * 3 + i) (by omega)).symm⟩
    · exact ⟨(hP 4 (by decide)).1, (hP 4 (by decide)).2.1, fun i hi => ((hP 4 (by decide)).2.2 i hi).trans (g2 (60 * 4 + i) (by omega)).symm⟩
    · exact ⟨(hP 5 (by decide)).1, (hP 5 (by decide)).2.1, fun i hi => ((hP 5 (by decide)).2.2 i hi).trans (g2 (60 * 5 + i) (by omega)).symm⟩
  refine ite_i (fun q => ?_) (fun q => ?_)
  · refine ⟨⟨by decide, by show (0 : Int) < 6; decide⟩, ?_⟩
    exact key 0 (hsn q).symm
  · refine ⟨⟨by decide, by show (0 : Int) < 6; decide⟩, ?_⟩
    exact key n0 (hn0 (by omega))
theorem s_tapeY1 {s n : Int} (hS : Sim h al) (hs : -1 ≤ s ∧ s ≤ 4) (hn : 0 ≤ n ∧ n ≤ 60) (hsn : s < 0 → n = 0) (n0 : Int) (hn0 : 0 ≤ s → n0 = n) : Call g (d + 3) yTa_become [xr 68, xi s, xi n] h al (fun v h1 al1 => v = none ∧ XW g (d + 3) mMo_tape (Ok2 (some (xi 1))) 44 [some (xr 120), some (xi 1), some (xi s), some (xi n0), none] [] h1 al1) := by
  obtain ⟨hW, hN, hI, hH, hT, hP, hC, hK, hV⟩ := id hS
  refine c_become1 hW hn fun f hf => ?_
  have hW3 : Wd (rowU (uH (uH h 68 1 s) 68 2 n) 69 f) := (((hW.up (by decide)).up (by decide)).row rfl)
  have eh : rowU (uH (uH h 68 1 s) 68 2 n) 69 f = wr (rowU (uH (uH h 68 1 s) 68 2 n) 69 f) := hW3.eq.symm
  refine ⟨rfl, ?_⟩
  rw [eh]
  refine XW_to [69] 40 okMo_tape ?_
  refine ⟨⟨by decide, by show (1 : Int) < 6; decide⟩, ?_⟩
  have key : ∀ z : Int, z = n → XW g (d + 3) mMo_tape (Ok2 (some (xi 1))) 69 [some (xr 120), some (xi ((1 : Nat) : Int)), some (xi s), some (xi n0), some (xi 0)] [] (uH (uH (wr (rowU (uH (uH h 68 1 s) 68 2 n) 69 f)) 163 ((1 : Nat) : Int).toNat s) 164 ((1 : Nat) : Int).toNat z) al := by
    intro z hz
    subst hz
    rw [← eh]
    have hW5 : Wd (uH (uH (rowU (uH (uH h 68 1 s) 68 2 z) 69 f) 163 ((1 : Nat) : Int).toNat s) 164 ((1 : Nat) : Int).toNat z) := (((((hW.up (by decide)).up (by decide)).row rfl).upA rfl).upA rfl)
    have e5 := hW5.eq.symm
    rw [e5]
    refine l_Motape (by decide) fun f2 g1 g2 => ?_
    rw [← e5] at g2 ⊢
    refine ⟨⟨1, rfl, rfl⟩, ⟨((((((hW.up (by decide)).up (by decide)).row rfl).upA rfl).upA rfl).row rfl), ((((((hN.up rfl).up rfl).row (fun _ => rfl)).up rfl).up rfl).row (fun _ => rfl)), ((((((hI.up rfl rfl).up rfl rfl).row (fun _ => rfl) (by decide)).up rfl rfl).up rfl rfl).row (fun _ => rfl) (by decide)), ((((((hH.up rfl rfl).up rfl rfl).row (fun _ => rfl) (by decide)).up rfl rfl).up rfl rfl).row (fun _ => rfl) (by decide)), ((((((hT.up rfl).up rfl).row (fun _ => rfl)).up rfl).up rfl).row (fun _ => rfl)), ?_, ((((((hC.up rfl).up rfl).row (fun _ => rfl)).up rfl).up rfl).row (fun _ => rfl)), ((((((hK.up rfl).up rfl).row (fun _ => rfl)).up rfl).up rfl).row (fun _ => rfl)), ((((((hV.up rfl).up rfl).row (fun _ => rfl) (by decide) (by decide) (by decide)).up rfl).up rfl).row (fun _ => rfl) (by decide) (by decide) (by decide))⟩⟩
    refine P0_of ?_ ?_ ?_ ?_ ?_ ?_
    · exact ⟨(hP 0 (by decide)).1, (hP 0 (by decide)).2.1, fun i hi => ((hP 0 (by decide)).2.2 i hi).trans (g2 (60 * 0 + i) (by omega)).symm⟩
    · exact ⟨⟨rfl, hs.1, hs.2⟩, ⟨rfl, hn.1, hn.2, hsn⟩, fun i hi => (hf i hi).trans (g1 i hi).symm⟩
    · exact ⟨(hP 2 (by decide)).1, (hP 2 (by decide)).2.1, fun i hi => ((hP 2 (by decide)).2.2 i hi).trans (g2 (60 * 2 + i) (by omega)).symm⟩
    · exact ⟨(hP 3 (by decide)).1, (hP 3 (by decide)).2.1, fun i hi => ((hP 3 (by decide)).2.2 i hi).trans (g2 (60 * 3 + i) (by omega)).symm⟩
    · exact ⟨(hP 4 (by decide)).1, (hP 4 (by decide)).2.1, fun i hi => ((hP 4 (by decide)).2.2 i hi).trans (g2 (60 * 4 + i) (by omega)).symm⟩
    · exact ⟨(hP 5 (by decide)).1, (hP 5 (by decide)).2.1, fun i hi => ((hP 5 (by decide)).2.2 i hi).trans (g2 (60 * 5 + i) (by omega)).symm⟩
  refine ite_i (fun q => ?_) (fun q => ?_)
  · refine ⟨⟨by decide, by show (1 : Int) < 6; decide⟩, ?_⟩
    exact key 0 (hsn q).symm
  · refine ⟨⟨by decide, by show (1 : Int) < 6; decide⟩, ?_⟩
    exact key n0 (hn0 (by omega))
theorem s_tapeY2 {s n : Int} (hS : Sim h al) (hs : -1 ≤ s ∧ s ≤ 4) (hn : 0 ≤ n ∧ n ≤ 60) (hsn : s < 0 → n = 0) (n0 : Int) (hn0 : 0 ≤ s → n0 = n) : Call g (d + 3) yTa_become [xr 70, xi s, xi n] h al (fun v h1 al1 => v = none ∧ XW g (d + 3) mMo_tape (Ok2 (some (xi 1))) 44 [some (xr 120), some (xi 2), some (xi s), some (xi n0), none] [] h1 al1) := by
  obtain ⟨hW, hN, hI, hH, hT, hP, hC, hK, hV⟩ := id hS
  refine c_become2 hW hn fun f hf => ?_
  have hW3 : Wd (rowU (uH (uH h 70 1 s) 70 2 n) 71 f) := (((hW.up (by decide)).up (by decide)).row rfl)
  have eh : rowU (uH (uH h 70 1 s) 70 2 n) 71 f = wr (rowU (uH (uH h 70 1 s) 70 2 n) 71 f) := hW3.eq.symm
  refine ⟨rfl, ?_⟩
  rw [eh]
  refine XW_to [69] 40 okMo_tape ?_
  refine ⟨⟨by decide, by show (2 : Int) < 6; decide⟩, ?_⟩
  have key : ∀ z : Int, z = n → XW g (d + 3) mMo_tape (Ok2 (some (xi 1))) 69 [some (xr 120), some (xi ((2 : Nat) : Int)), some (xi s), some (xi n0), some (xi 0)] [] (uH (uH (wr (rowU (uH (uH h 70 1 s) 70 2 n) 71 f)) 163 ((2 : Nat) : Int).toNat s) 164 ((2 : Nat) : Int).toNat z) al := by
    intro z hz
    subst hz
    rw [← eh]
    have hW5 : Wd (uH (uH (rowU (uH (uH h 70 1 s) 70 2 z) 71 f) 163 ((2 : Nat) : Int).toNat s) 164 ((2 : Nat) : Int).toNat z) := (((((hW.up (by decide)).up (by decide)).row rfl).upA rfl).upA rfl)
    have e5 := hW5.eq.symm
    rw [e5]
    refine l_Motape (by decide) fun f2 g1 g2 => ?_
    rw [← e5] at g2 ⊢
    refine ⟨⟨1, rfl, rfl⟩, ⟨((((((hW.up (by decide)).up (by decide)).row rfl).upA rfl).upA rfl).row rfl), ((((((hN.up rfl).up rfl).row (fun _ => rfl)).up rfl).up rfl).row (fun _ => rfl)), ((((((hI.up rfl rfl).up rfl rfl).row (fun _ => rfl) (by decide)).up rfl rfl).up rfl rfl).row (fun _ => rfl) (by decide)), ((((((hH.up rfl rfl).up rfl rfl).row (fun _ => rfl) (by decide)).up rfl rfl).up rfl rfl).row (fun _ => rfl) (by decide)), ((((((hT.up rfl).up rfl).row (fun _ => rfl)).up rfl).up rfl).row (fun _ => rfl)), ?_, ((((((hC.up rfl).up rfl).row (fun _ => rfl)).up rfl).up rfl).row (fun _ => rfl)), ((((((hK.up rfl).up rfl).row (fun _ => rfl)).up rfl).up rfl).row (fun _ => rfl)), ((((((hV.up rfl).up rfl).row (fun _ => rfl) (by decide) (by decide) (by decide)).up rfl).up rfl).row (fun _ => rfl) (by decide) (by decide) (by decide))⟩⟩
    refine P0_of ?_ ?_ ?_ ?_ ?_ ?_
    · exact ⟨(hP 0 (by decide)).1, (hP 0 (by decide)).2.1, fun i hi => ((hP 0 (by decide)).2.2 i hi).trans (g2 (60 * 0 + i) (by omega)).symm⟩
    · exact ⟨(hP 1 (by decide)).1, (hP 1 (by decide)).2.1, fun i hi => ((hP 1 (by decide)).2.2 i hi).trans (g2 (60 * 1 + i) (by omega)).symm⟩
    · exact ⟨⟨rfl, hs.1, hs.2⟩, ⟨rfl, hn.1, hn.2, hsn⟩, fun i hi => (hf i hi).trans (g1 i hi).symm⟩
    · exact ⟨(hP 3 (by decide)).1, (hP 3 (by decide)).2.1, fun i hi => ((hP 3 (by decide)).2.2 i hi).trans (g2 (60 * 3 + i) (by omega)).symm⟩
    · exact ⟨(hP 4 (by decide)).1, (hP 4 (by decide)).2.1, fun i hi => ((hP 4 (by decide)).2.2 i hi).trans (g2 (60 * 4 + i) (by omega)).symm⟩
    · exact ⟨(hP 5 (by decide)).1, (hP 5 (by decide)).2.1, fun i hi => ((hP 5 (by decide)).2.2 i hi).trans (g2 (60 * 5 + i) (by omega)).symm⟩
  refine ite_i (fun q => ?_) (fun q => ?_)
  · refine ⟨⟨by decide, by show (2 : Int) < 6; decide⟩, ?_⟩
    exact key 0 (hsn q).symm
  · refine ⟨⟨by decide, by show (2 : Int) < 6; decide⟩, ?_⟩
    exact key n0 (hn0 (by omega))
theorem s_tapeY3 {s n : Int} (hS : Sim h al) (hs : -1 ≤ s ∧ s ≤ 4) (hn : 0 ≤ n ∧ n ≤ 60) (hsn : s < 0 → n = 0) (n0 : Int) (hn0 : 0 ≤ s → n0 = n) : Call g (d + 3) yTa_become [xr 72, xi s, xi n] h al (fun v h1 al1 => v = none ∧ XW g (d + 3) mMo_tape (Ok2 (some (xi 1))) 44 [some (xr 120), some (xi 3), some (xi s), some (xi n0), none] [] h1 al1) := by
  obtain ⟨hW, hN, hI, hH, hT, hP, hC, hK, hV⟩ := id hS
  refine c_become3 hW hn fun f hf => ?_
  have hW3 : Wd (rowU (uH (uH h 72 1 s) 72 2 n) 73 f) := (((hW.up (by decide)).up (by decide)).row rfl)
  have eh : rowU (uH (uH h 72 1 s) 72 2 n) 73 f = wr (rowU (uH (uH h 72 1 s) 72 2 n) 73 f) := hW3.eq.symm
  refine ⟨rfl, ?_⟩
  rw [eh]
  refine XW_to [69] 40 okMo_tape ?_
  refine ⟨⟨by decide, by show (3 : Int) < 6; decide⟩, ?_⟩
  have key : ∀ z : Int, z = n → XW g (d + 3) mMo_tape (Ok2 (some (xi 1))) 69 [some (xr 120), some (xi ((3 : Nat) : Int)), some (xi s), some (xi n0), some (xi 0)] [] (uH (uH (wr (rowU (uH (uH h 72 1 s) 72 2 n) 73 f)) 163 ((3 : Nat) : Int).toNat s) 164 ((3 : Nat) : Int).toNat z) al := by
    intro z hz
    subst hz
    rw [← eh]
    have hW5 : Wd (uH (uH (rowU (uH (uH h 72 1 s) 72 2 z) 73 f) 163 ((3 : Nat) : Int).toNat s) 164 ((3 : Nat) : Int).toNat z) := (((((hW.up (by decide)).up (by decide)).row rfl).upA rfl).upA rfl)
    have e5 := hW5.eq.symm
    rw [e5]
    refine l_Motape (by decide) fun f2 g1 g2 => ?_
    rw [← e5] at g2 ⊢
    refine ⟨⟨1, rfl, rfl⟩, ⟨((((((hW.up (by decide)).up (by decide)).row rfl).upA rfl).upA rfl).row rfl), ((((((hN.up rfl).up rfl).row (fun _ => rfl)).up rfl).up rfl).row (fun _ => rfl)), ((((((hI.up rfl rfl).up rfl rfl).row (fun _ => rfl) (by decide)).up rfl rfl).up rfl rfl).row (fun _ => rfl) (by decide)), ((((((hH.up rfl rfl).up rfl rfl).row (fun _ => rfl) (by decide)).up rfl rfl).up rfl rfl).row (fun _ => rfl) (by decide)), ((((((hT.up rfl).up rfl).row (fun _ => rfl)).up rfl).up rfl).row (fun _ => rfl)), ?_, ((((((hC.up rfl).up rfl).row (fun _ => rfl)).up rfl).up rfl).row (fun _ => rfl)), ((((((hK.up rfl).up rfl).row (fun _ => rfl)).up rfl).up rfl).row (fun _ => rfl)), ((((((hV.up rfl).up rfl).row (fun _ => rfl) (by decide) (by decide) (by decide)).up rfl).up rfl).row (fun _ => rfl) (by decide) (by decide) (by decide))⟩⟩
    refine P0_of ?_ ?_ ?_ ?_ ?_ ?_
    · exact ⟨(hP 0 (by decide)).1, (hP 0 (by decide)).2.1, fun i hi => ((hP 0 (by decide)).2.2 i hi).trans (g2 (60 * 0 + i) (by omega)).symm⟩
    · exact ⟨(hP 1 (by decide)).1, (hP 1 (by decide)).2.1, fun i hi => ((hP 1 (by decide)).2.2 i hi).trans (g2 (60 * 1 + i) (by omega)).symm⟩
    · exact ⟨(hP 2 (by decide)).1, (hP 2 (by decide)).2.1, fun i hi => ((hP 2 (by decide)).2.2 i hi).trans (g2 (60 * 2 + i) (by omega)).symm⟩
    · exact ⟨⟨rfl, hs.1, hs.2⟩, ⟨rfl, hn.1, hn.2, hsn⟩, fun i hi => (hf i hi).trans (g1 i hi).symm⟩
    · exact ⟨(hP 4 (by decide)).1, (hP 4 (by decide)).2.1, fun i hi => ((hP 4 (by decide)).2.2 i hi).trans (g2 (60 * 4 + i) (by omega)).symm⟩
    · exact ⟨(hP 5 (by decide)).1, (hP 5 (by decide)).2.1, fun i hi => ((hP 5 (by decide)).2.2 i hi).trans (g2 (60 * 5 + i) (by omega)).symm⟩
  refine ite_i (fun q => ?_) (fun q => ?_)
  · refine ⟨⟨by decide, by show (3 : Int) < 6; decide⟩, ?_⟩
    exact key 0 (hsn q).symm
  · refine ⟨⟨by decide, by show (3 : Int) < 6; decide⟩, ?_⟩
    exact key n0 (hn0 (by omega))
theorem s_tapeY4 {s n : Int} (hS : Sim h al) (hs : -1 ≤ s ∧ s ≤ 4) (hn : 0 ≤ n ∧ n ≤ 60) (hsn : s < 0 → n = 0) (n0 : Int) (hn0 : 0 ≤ s → n0 = n) : Call g (d + 3) yTa_become [xr 74, xi s, xi n] h al (fun v h1 al1 => v = none ∧ XW g (d + 3) mMo_tape (Ok2 (some (xi 1))) 44 [some (xr 120), some (xi 4), some (xi s), some (xi n0), none] [] h1 al1) := by
  obtain ⟨hW, hN, hI, hH, hT, hP, hC, hK, hV⟩ := id hS
  refine c_become4 hW hn fun f hf => ?_
  have hW3 : Wd (rowU (uH (uH h 74 1 s) 74 2 n) 75 f) := (((hW.up (by decide)).up (by decide)).row rfl)
  have eh : rowU (uH (uH h 74 1 s) 74 2 n) 75 f = wr (rowU (uH (uH h 74 1 s) 74 2 n) 75 f) := hW3.eq.symm
  refine ⟨rfl, ?_⟩
  rw [eh]
  refine XW_to [69] 40 okMo_tape ?_
  refine ⟨⟨by decide, by show (4 : Int) < 6; decide⟩, ?_⟩
  have key : ∀ z : Int, z = n → XW g (d + 3) mMo_tape (Ok2 (some (xi 1))) 69 [some (xr 120), some (xi ((4 : Nat) : Int)), some (xi s), some (xi n0), some (xi 0)] [] (uH (uH (wr (rowU (uH (uH h 74 1 s) 74 2 n) 75 f)) 163 ((4 : Nat) : Int).toNat s) 164 ((4 : Nat) : Int).toNat z) al := by
    intro z hz
    subst hz
    rw [← eh]
    have hW5 : Wd (uH (uH (rowU (uH (uH h 74 1 s) 74 2 z) 75 f) 163 ((4 : Nat) : Int).toNat s) 164 ((4 : Nat) : Int).toNat z) := (((((hW.up (by decide)).up (by decide)).row rfl).upA rfl).upA rfl)
    have e5 := hW5.eq.symm
    rw [e5]
    refine l_Motape (by decide) fun f2 g1 g2 => ?_
    rw [← e5] at g2 ⊢
    refine ⟨⟨1, rfl, rfl⟩, ⟨((((((hW.up (by decide)).up (by decide)).row rfl).upA rfl).upA rfl).row rfl), ((((((hN.up rfl).up rfl).row (fun _ => rfl)).up rfl).up rfl).row (fun _ => rfl)), ((((((hI.up rfl rfl).up rfl rfl).row (fun _ => rfl) (by decide)).up rfl rfl).up rfl rfl).row (fun _ => rfl) (by decide)), ((((((hH.up rfl rfl).up rfl rfl).row (fun _ => rfl) (by decide)).up rfl rfl).up rfl rfl).row (fun _ => rfl) (by decide)), ((((((hT.up rfl).up rfl).row (fun _ => rfl)).up rfl).up rfl).row (fun _ => rfl)), ?_, ((((((hC.up rfl).up rfl).row (fun _ => rfl)).up rfl).up rfl).row (fun _ => rfl)), ((((((hK.up rfl).up rfl).row (fun _ => rfl)).up rfl).up rfl).row (fun _ => rfl)), ((((((hV.up rfl).up rfl).row (fun _ => rfl) (by decide) (by decide) (by decide)).up rfl).up rfl).row (fun _ => rfl) (by decide) (by decide) (by decide))⟩⟩
    refine P0_of ?_ ?_ ?_ ?_ ?_ ?_
    · exact ⟨(hP 0 (by decide)).1, (hP 0 (by decide)).2.1, fun i hi => ((hP 0 (by decide)).2.2 i hi).trans (g2 (60 * 0 + i) (by omega)).symm⟩
    · exact ⟨(hP 1 (by decide)).1, (hP 1 (by decide)).2.1, fun i hi => ((hP 1 (by decide)).2.2 i hi).trans (g2 (60 * 1 + i) (by omega)).symm⟩
    · exact ⟨(hP 2 (by decide)).1, (hP 2 (by decide)).2.1, fun i hi => ((hP 2 (by decide)).2.2 i hi).trans (g2 (60 * 2 + i) (by omega)).symm⟩
    · exact ⟨(hP 3 (by decide)).1, (hP 3 (by decide)).2.1, fun i hi => ((hP 3 (by decide)).2.2 i hi).trans (g2 (60 * 3 + i) (by omega)).symm⟩
    · exact ⟨⟨rfl, hs.1, hs.2⟩, ⟨rfl, hn.1, hn.2, hsn⟩, fun i hi => (hf i hi).trans (g1 i hi).symm⟩
    · exact ⟨(hP 5 (by decide)).1, (hP 5 (by decide)).2.1, fun i hi => ((hP 5 (by decide)).2.2 i hi).trans (g2 (60 * 5 + i) (by omega)).symm⟩
  refine ite_i (fun q => ?_) (fun q => ?_)
  · refine ⟨⟨by decide, by show (4 : Int) < 6; decide⟩, ?_⟩
    exact key 0 (hsn q).symm
  · refine ⟨⟨by decide, by show (4 : Int) < 6; decide⟩, ?_⟩
    exact key n0 (hn0 (by omega))
theorem s_tapeY5 {s n : Int} (hS : Sim h al) (hs : -1 ≤ s ∧ s ≤ 4) (hn : 0 ≤ n ∧ n ≤ 60) (hsn : s < 0 → n = 0) (n0 : Int) (hn0 : 0 ≤ s → n0 = n) : Call g (d + 3) yTa_become [xr 76, xi s, xi n] h al (fun v h1 al1 => v = none ∧ XW g (d + 3) mMo_tape (Ok2 (some (xi 1))) 44 [some (xr 120), some (xi 5), some (xi s), some (xi n0), none] [] h1 al1) := by
  obtain ⟨hW, hN, hI, hH, hT, hP, hC, hK, hV⟩ := id hS
  refine c_become5 hW hn fun f hf => ?_
  have hW3 : Wd (rowU (uH (uH h 76 1 s) 76 2 n) 77 f) := (((hW.up (by decide)).up (by decide)).row rfl)
  have eh : rowU (uH (uH h 76 1 s) 76 2 n) 77 f = wr (rowU (uH (uH h 76 1 s) 76 2 n) 77 f) := hW3.eq.symm
  refine ⟨rfl, ?_⟩
  rw [eh]
  refine XW_to [69] 40 okMo_tape ?_
  refine ⟨⟨by decide, by show (5 : Int) < 6; decide⟩, ?_⟩
  have key : ∀ z : Int, z = n → XW g (d + 3) mMo_tape (Ok2 (some (xi 1))) 69 [some (xr 120), some (xi ((5 : Nat) : Int)), some (xi s), some (xi n0), some (xi 0)] [] (uH (uH (wr (rowU (uH (uH h 76 1 s) 76 2 n) 77 f)) 163 ((5 : Nat) : Int).toNat s) 164 ((5 : Nat) : Int).toNat z) al := by
    intro z hz
    subst hz
    rw [← eh]
    have hW5 : Wd (uH (uH (rowU (uH (uH h 76 1 s) 76 2 z) 77 f) 163 ((5 : Nat) : Int).toNat s) 164 ((5 : Nat) : Int).toNat z) := (((((hW.up (by decide)).up (by decide)).row rfl).upA rfl).upA rfl)
    have e5 := hW5.eq.symm
    rw [e5]
    refine l_Motape (by decide) fun f2 g1 g2 => ?_
    rw [← e5] at g2 ⊢
    refine ⟨⟨1, rfl, rfl⟩, ⟨((((((hW.up (by decide)).up (by decide)).row rfl).upA rfl).upA rfl).row rfl), ((((((hN.up rfl).up rfl).row (fun _ => rfl)).up rfl).up rfl).row (fun _ => rfl)), ((((((hI.up rfl rfl).up rfl rfl).row (fun _ => rfl) (by decide)).up rfl rfl).up rfl rfl).row (fun _ => rfl) (by decide)), ((((((hH.up rfl rfl).up rfl rfl).row (fun _ => rfl) (by decide)).up rfl rfl).up rfl rfl).row (fun _ => rfl) (by decide)), ((((((hT.up rfl).up rfl).row (fun _ => rfl)).up rfl).up rfl).row (fun _ => rfl)), ?_, ((((((hC.up rfl).up rfl).row (fun _ => rfl)).up rfl).up rfl).row (fun _ => rfl)), ((((((hK.up rfl).up rfl).row (fun _ => rfl)).up rfl).up rfl).row (fun _ => rfl)), ((((((hV.up rfl).up rfl).row (fun _ => rfl) (by decide) (by decide) (by decide)).up rfl).up rfl).row (fun _ => rfl) (by decide) (by decide) (by decide))⟩⟩
    refine P0_of ?_ ?_ ?_ ?_ ?_ ?_
    · exact ⟨(hP 0 (by decide)).1, (hP 0 (by decide)).2.1, fun i hi => ((hP 0 (by decide)).2.2 i hi).trans (g2 (60 * 0 + i) (by omega)).symm⟩
    · exact ⟨(hP 1 (by decide)).1, (hP 1 (by decide)).2.1, fun i hi => ((hP 1 (by decide)).2.2 i hi).trans (g2 (60 * 1 + i) (by omega)).symm⟩
    · exact ⟨(hP 2 (by decide)).1, (hP 2 (by decide)).2.1, fun i hi => ((hP 2 (by decide)).2.2 i hi).trans (g2 (60 * 2 + i) (by omega)).symm⟩
    · exact ⟨(hP 3 (by decide)).1, (hP 3 (by decide)).2.1, fun i hi => ((hP 3 (by decide)).2.2 i hi).trans (g2 (60 * 3 + i) (by omega)).symm⟩
    · exact ⟨(hP 4 (by decide)).1, (hP 4 (by decide)).2.1, fun i hi => ((hP 4 (by decide)).2.2 i hi).trans (g2 (60 * 4 + i) (by omega)).symm⟩
    · exact ⟨⟨rfl, hs.1, hs.2⟩, ⟨rfl, hn.1, hn.2, hsn⟩, fun i hi => (hf i hi).trans (g1 i hi).symm⟩
  refine ite_i (fun q => ?_) (fun q => ?_)
  · refine ⟨⟨by decide, by show (5 : Int) < 6; decide⟩, ?_⟩
    exact key 0 (hsn q).symm
  · refine ⟨⟨by decide, by show (5 : Int) < 6; decide⟩, ?_⟩
    exact key n0 (hn0 (by omega))
end TQ
