-- taken
section Q19
variable {g : GC} {d : Nat} {h : HH} {al : AL} {K : KT}
variable {V : Nat → List Cl} {nV vl : Int} {nH nP rd lots l yr : Nat} {lo S : Nat → Nat} {O P k v : Nat → Int} {st : Nat → Nat → Int}
theorem c_tkM {w kk z : Int} {p : Int} {pn : Nat} (hS : Sim h al) (hA : ALLf h al V nV vl nH nP rd lots l yr lo S O P k v st) (ep : p = (pn : Int)) (hp : pn < nP) (hw : 0 ≤ w ∧ w ≤ 6) (hk : k pn = kk) (hz : z = if w = 0 ∨ kk = w ∨ (w = 1 ∧ 3 ≤ kk ∧ kk ≤ 5) ∨ (w = 2 ∧ kk = 6) then kk else -12) : Call g (d + 9) yMo_taken [xr 120, xi p, xi w] h al (Ok2 (some (xi z))) := by
  obtain ⟨⟨hW, hN, hB⟩, -, -, -, hr⟩ := id hA
  have n6 := hN.1.2.2
  obtain ⟨h0, rfl⟩ := id hW
  refine cof ocMo_taken rfl (XW_t4 [] 100 okMo_taken ?_)
  refine c_in (fun _ => ?_) (fun q => absurd hw q)
  refine c_isHolderA hA (fun pn2 _ _ _ => ?_) (fun q => absurd q (by omega))
  refine ⟨pn, ep, by show pn < 6; omega, _, (hr pn hp).1.1.trans hk, ?_⟩
  have yes : (w = 0 ∨ kk = w ∨ (w = 1 ∧ 3 ≤ kk ∧ kk ≤ 5) ∨ (w = 2 ∧ kk = 6)) → Ok2 (some (xi z)) (some (xi kk)) (wr h0) al := fun q => by
    rw [if_pos q] at hz
    exact ⟨⟨_, rfl, by rw [hz]⟩, hS⟩
  have no : ¬ (w = 0 ∨ kk = w ∨ (w = 1 ∧ 3 ≤ kk ∧ kk ≤ 5) ∨ (w = 2 ∧ kk = 6)) → Ok2 (some (xi z)) (some (xi (-12))) (wr h0) al := fun q => by
    rw [if_neg q] at hz
    exact ⟨⟨_, rfl, by rw [hz]⟩, hS⟩
  refine ite_i (fun q1 => ?_) (fun q1 => ?_)
  · have q1 : w = 0 := q1
    exact yes (Or.inl q1)
  · have q1 : ¬ w = 0 := q1
    refine ite_i (fun q2 => ?_) (fun q2 => ?_)
    · have q2 : kk = w := q2
      exact yes (Or.inr (Or.inl q2))
    · have q2 : ¬ kk = w := q2
      refine ite_i (fun q3 => ?_) (fun q3 => ?_)
      · have q3 : w = 1 := q3
        refine c_in (fun q4 => yes (Or.inr (Or.inr (Or.inl ⟨q3, q4⟩)))) (fun q4 => ?_)
        refine ite_f (show ¬ w = 2 by omega) ?_
        exact no (by omega)
      · have q3 : ¬ w = 1 := q3
        refine ite_i (fun q4 => ?_) (fun q4 => ?_)
        · have q4 : w = 2 := q4
          refine ite_i (fun q5 => ?_) (fun q5 => ?_)
          · have q5 : kk = 6 := q5
            exact yes (Or.inr (Or.inr (Or.inr ⟨q4, q5⟩)))
          · have q5 : ¬ kk = 6 := q5
            exact no (by omega)
        · have q4 : ¬ w = 2 := q4
          exact no (by omega)
theorem s_taken {p w : Int} (hS : Sim h al) : Call g (d + 9) yBy_taken [xr 0, xi p, xi w] h al (fun v h1 al1 => Call g (d + 9) yMo_taken [xr 120, xi p, xi w] h1 al1 (Ok2 v)) := by
  obtain ⟨V, nV, vl, nH, nP, rd, lots, l, yr, lo, S, O, P, k, v, st, hA⟩ := hS.all
  obtain ⟨⟨hW, hN, hB⟩, -, -, -, hr⟩ := id hA
  have hka : ∀ j : Nat, j < 7 → h 181 j = kaT.getD j 0 := hS.2.2.2.2.2.2.2.1.1
  obtain ⟨h0, rfl⟩ := id hW
  refine cof ocBy_taken rfl (XW_t4 [] 200 okBy_taken ?_)
  refine c_within (fun hw => ?_) (fun hw => ?_)
  · refine c_holderA hA (fun pn ho ep hp hp6 hh hF => ?_) (fun hno => ?_)
    · obtain ⟨k0, -⟩ := hh.k
      have hk := (hr pn hp).1.2
      have hF1 := hF.2.1
      have mod : ∀ z kk : Int, k pn = kk → (z = if w = 0 ∨ kk = w ∨ (w = 1 ∧ 3 ≤ kk ∧ kk ≤ 5) ∨ (w = 2 ∧ kk = 6) then kk else -12) → Call g (d + 9) yMo_taken [xr 120, xi p, xi w] (wr h0) al (Ok2 (some (xi z))) := fun z kk e1 e2 => c_tkM hS hA ep hp hw e1 e2
      have hc : k pn = 0 ∨ k pn = 1 ∨ k pn = 2 ∨ k pn = 3 ∨ k pn = 4 ∨ k pn = 5 ∨ k pn = 6 := by omega
      rcases hc with e | e | e | e | e | e | e
      · rw [e] at hF1
        refine cond_i (by rw [k0]; rfl) ⟨_, hF1, ?_⟩
        refine ite_i (fun q1 => ?_) (fun q1 => ?_)
        · have q1 : (0 : Int) = w := q1
          refine cond_i (by rw [k0]; rfl) ⟨_, hF1, ?_⟩
          exact mod _ _ e (by rw [if_pos (by omega)])
        · have q1 : ¬ (0 : Int) = w := q1
          refine c_atE (o := 181) (j := 0) rfl rfl (by show 0 < 7; decide) (hka 0 (by decide)) ?_
          exact mod _ _ e (by rw [if_neg (by omega)])
      · rw [e] at hF1
        refine cond_i (by rw [k0]; rfl) ⟨_, hF1, ?_⟩
        refine ite_i (fun q1 => ?_) (fun q1 => ?_)
        · have q1 : (1 : Int) = w := q1
          refine cond_i (by rw [k0]; rfl) ⟨_, hF1, ?_⟩
          exact mod _ _ e (by rw [if_pos (by omega)])
        · have q1 : ¬ (1 : Int) = w := q1
          refine c_atE (o := 181) (j := 1) rfl rfl (by show 1 < 7; decide) (hka 1 (by decide)) ?_
          refine ite_i (fun q2 => ?_) (fun q2 => ?_)
          · have q2 : (0 : Int) = w := q2
            refine cond_i (by rw [k0]; rfl) ⟨_, hF1, ?_⟩
            exact mod _ _ e (by rw [if_pos (by omega)])
          · have q2 : ¬ (0 : Int) = w := q2
            refine c_atE (o := 181) (j := 0) rfl rfl (by show 0 < 7; decide) (hka 0 (by decide)) ?_
            exact mod _ _ e (by rw [if_neg (by omega)])
      · rw [e] at hF1
        refine cond_i (by rw [k0]; rfl) ⟨_, hF1, ?_⟩
        refine ite_i (fun q1 => ?_) (fun q1 => ?_)
        · have q1 : (2 : Int) = w := q1
          refine cond_i (by rw [k0]; rfl) ⟨_, hF1, ?_⟩
          exact mod _ _ e (by rw [if_pos (by omega)])
        · have q1 : ¬ (2 : Int) = w := q1
          refine c_atE (o := 181) (j := 2) rfl rfl (by show 2 < 7; decide) (hka 2 (by decide)) ?_
          refine ite_i (fun q2 => ?_) (fun q2 => ?_)
          · have q2 : (0 : Int) = w := q2
            refine cond_i (by rw [k0]; rfl) ⟨_, hF1, ?_⟩
            exact mod _ _ e (by rw [if_pos (by omega)])
          · have q2 : ¬ (0 : Int) = w := q2
            refine c_atE (o := 181) (j := 0) rfl rfl (by show 0 < 7; decide) (hka 0 (by decide)) ?_
            exact mod _ _ e (by rw [if_neg (by omega)])
      · rw [e] at hF1
        refine cond_i (by rw [k0]; rfl) ⟨_, hF1, ?_⟩
        refine ite_i (fun q1 => ?_) (fun q1 => ?_)
        · have q1 : (3 : Int) = w := q1
          refine cond_i (by rw [k0]; rfl) ⟨_, hF1, ?_⟩
          exact mod _ _ e (by rw [if_pos (by omega)])
        · have q1 : ¬ (3 : Int) = w := q1
          refine c_atE (o := 181) (j := 3) rfl rfl (by show 3 < 7; decide) (hka 3 (by decide)) ?_
          refine ite_i (fun q2 => ?_) (fun q2 => ?_)
          · have q2 : (1 : Int) = w := q2
            refine cond_i (by rw [k0]; rfl) ⟨_, hF1, ?_⟩
            exact mod _ _ e (by rw [if_pos (by omega)])
          · have q2 : ¬ (1 : Int) = w := q2
            refine c_atE (o := 181) (j := 1) rfl rfl (by show 1 < 7; decide) (hka 1 (by decide)) ?_
            refine ite_i (fun q3 => ?_) (fun q3 => ?_)
            · have q3 : (0 : Int) = w := q3
              refine cond_i (by rw [k0]; rfl) ⟨_, hF1, ?_⟩
              exact mod _ _ e (by rw [if_pos (by omega)])
            · have q3 : ¬ (0 : Int) = w := q3
              refine c_atE (o := 181) (j := 0) rfl rfl (by show 0 < 7; decide) (hka 0 (by decide)) ?_
              exact mod _ _ e (by rw [if_neg (by omega)])
      · rw [e] at hF1
        refine cond_i (by rw [k0]; rfl) ⟨_, hF1, ?_⟩
        refine ite_i (fun q1 => ?_) (fun q1 => ?_)
        · have q1 : (4 : Int) = w := q1
          refine cond_i (by rw [k0]; rfl) ⟨_, hF1, ?_⟩
          exact mod _ _ e (by rw [if_pos (by omega)])
        · have q1 : ¬ (4 : Int) = w := q1
          refine c_atE (o := 181) (j := 4) rfl rfl (by show 4 < 7; decide) (hka 4 (by decide)) ?_
          refine ite_i (fun q2 => ?_) (fun q2 => ?_)
          · have q2 : (1 : Int) = w := q2
            refine cond_i (by rw [k0]; rfl) ⟨_, hF1, ?_⟩
            exact mod _ _ e (by rw [if_pos (by omega)])
          · have q2 : ¬ (1 : Int) = w := q2
            refine c_atE (o := 181) (j := 1) rfl rfl (by show 1 < 7; decide) (hka 1 (by decide)) ?_
            refine ite_i (fun q3 => ?_) (fun q3 => ?_)
            · have q3 : (0 : Int) = w := q3
              refine cond_i (by rw [k0]; rfl) ⟨_, hF1, ?_⟩
              exact mod _ _ e (by rw [if_pos (by omega)])
            · have q3 : ¬ (0 : Int) = w := q3
              refine c_atE (o := 181) (j := 0) rfl rfl (by show 0 < 7; decide) (hka 0 (by decide)) ?_
              exact mod _ _ e (by rw [if_neg (by omega)])
      · rw [e] at hF1
        refine cond_i (by rw [k0]; rfl) ⟨_, hF1, ?_⟩
        refine ite_i (fun q1 => ?_) (fun q1 => ?_)
        · have q1 : (5 : Int) = w := q1
          refine cond_i (by rw [k0]; rfl) ⟨_, hF1, ?_⟩
          exact mod _ _ e (by rw [if_pos (by omega)])
        · have q1 : ¬ (5 : Int) = w := q1
          refine c_atE (o := 181) (j := 5) rfl rfl (by show 5 < 7; decide) (hka 5 (by decide)) ?_
          refine ite_i (fun q2 => ?_) (fun q2 => ?_)
          · have q2 : (1 : Int) = w := q2
            refine cond_i (by rw [k0]; rfl) ⟨_, hF1, ?_⟩
            exact mod _ _ e (by rw [if_pos (by omega)])
          · have q2 : ¬ (1 : Int) = w := q2
            refine c_atE (o := 181) (j := 1) rfl rfl (by show 1 < 7; decide) (hka 1 (by decide)) ?_
            refine ite_i (fun q3 => ?_) (fun q3 => ?_)
            · have q3 : (0 : Int) = w := q3
              refine cond_i (by rw [k0]; rfl) ⟨_, hF1, ?_⟩
              exact mod _ _ e (by rw [if_pos (by omega)])
            · have q3 : ¬ (0 : Int) = w := q3
              refine c_atE (o := 181) (j := 0) rfl rfl (by show 0 < 7; decide) (hka 0 (by decide)) ?_
              exact mod _ _ e (by rw [if_neg (by omega)])
      · rw [e] at hF1
        refine cond_i (by rw [k0]; rfl) ⟨_, hF1, ?_⟩
        refine ite_i (fun q1 => ?_) (fun q1 => ?_)
        · have q1 : (6 : Int) = w := q1
          refine cond_i (by rw [k0]; rfl) ⟨_, hF1, ?_⟩
          exact mod _ _ e (by rw [if_pos (by omega)])
        · have q1 : ¬ (6 : Int) = w := q1
          refine c_atE (o := 181) (j := 6) rfl rfl (by show 6 < 7; decide) (hka 6 (by decide)) ?_
          refine ite_i (fun q2 => ?_) (fun q2 => ?_)
          · have q2 : (2 : Int) = w := q2
            refine cond_i (by rw [k0]; rfl) ⟨_, hF1, ?_⟩
            exact mod _ _ e (by rw [if_pos (by omega)])
          · have q2 : ¬ (2 : Int) = w := q2
            refine c_atE (o := 181) (j := 2) rfl rfl (by show 2 < 7; decide) (hka 2 (by decide)) ?_
            refine ite_i (fun q3 => ?_) (fun q3 => ?_)
            · have q3 : (0 : Int) = w := q3
              refine cond_i (by rw [k0]; rfl) ⟨_, hF1, ?_⟩
              exact mod _ _ e (by rw [if_pos (by omega)])
            · have q3 : ¬ (0 : Int) = w := q3
              refine c_atE (o := 181) (j := 0) rfl rfl (by show 0 < 7; decide) (hka 0 (by decide)) ?_
              exact mod _ _ e (by rw [if_neg (by omega)])
    · refine cof ocMo_taken rfl (XW_t4 [] 100 okMo_taken ?_)
      refine c_in (fun _ => ?_) (fun q => absurd hw q)
      exact c_isHolderA hA (fun _ _ _ _ => absurd hno (by omega)) (fun _ => ⟨⟨_, rfl, rfl⟩, hS⟩)
  · refine cof ocMo_taken rfl (XW_t4 [] 100 okMo_taken ?_)
    exact c_in (fun q => absurd q hw) (fun _ => ⟨⟨_, rfl, rfl⟩, hS⟩)
end Q19
