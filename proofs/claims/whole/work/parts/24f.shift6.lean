-- shift
section Q31
variable {g : GC} {d : Nat} {h : HH} {al : AL}
theorem s_shift {a i b j n : Int} (hS : Sim h al) (hi : I32 i) (hj : I32 j) (hn : I32 n) : Call g (d + 9) yBy_shift [xr 0, xi a, xi i, xi b, xi j, xi n] h al (fun v h1 al1 => Call g (d + 9) yMo_shift [xr 120, xi a, xi i, xi b, xi j, xi n] h1 al1 (Ok2 v)) := by
  have hW := hS.1
  have hP := hS.2.2.2.2.2.1
  have none2 : ¬ ((0 ≤ a ∧ a < 6) ∧ (0 ≤ b ∧ b < 6)) → Call g (d + 9) yMo_shift [xr 120, xi a, xi i, xi b, xi j, xi n] h al (Ok2 (some (xi (-1)))) := by
    intro hno
    obtain ⟨h0, rfl⟩ := id hW
    refine cof ocMo_shift rfl (XW_t4 [57] 60 okMo_shift ?_)
    refine c_isTape (fun q => ?_) (fun _ => ⟨⟨_, rfl, rfl⟩, hS⟩)
    exact c_isTape (fun q2 => absurd ⟨⟨q.1, by omega⟩, ⟨q2.1, by omega⟩⟩ hno) (fun _ => ⟨⟨_, rfl, rfl⟩, hS⟩)
  have hW2 := hW
  obtain ⟨h0, rfl⟩ := id hW
  refine cof ocBy_shift rfl (XW_t4 [61, 87] 160 okBy_shift ?_)
  refine c_tapeAtS hW (fun ta ha ea => ?_) (fun hno => ?_)
  · refine c_tapeAtS hW (fun tb hb eb => ?_) (fun hno => ?_)
    · subst ea eb
      obtain ⟨⟨p1, p2, p3⟩, ⟨p4, p5, p6, p7⟩, p8⟩ := hP.at ha
      obtain ⟨⟨r1, r2, r3⟩, ⟨r4, r5, r6, r7⟩, r8⟩ := hP.at hb
      have ka := kd_tape ha
      have kb := kd_tape hb
      have m11 : (wr h0 163 ta < 0 ∨ wr h0 163 tb < 0) → Call g (d + 9) yMo_shift [xr 120, xi (ta : Int), xi i, xi (tb : Int), xi j, xi n] (wr h0) al (Ok2 (some (xi (-11)))) := fun q => c_shM hW2 ⟨p5, p6⟩ ⟨r5, r6⟩ ha hb hn (fun _ => ⟨⟨_, rfl, rfl⟩, hS⟩) (fun q2 => absurd q q2) (fun q2 => absurd q q2) (fun q2 => absurd q q2)
      refine cond_i (by rw [ka]; rfl) ?_
      refine ite_i (fun q => m11 (Or.inl (by have q : wr h0 (66 + 2 * ta) 1 < 0 := q; omega))) (fun q => ?_)
      have q : ¬ wr h0 (66 + 2 * ta) 1 < 0 := q
      refine cond_i (by rw [kb]; rfl) ?_
      refine ite_i (fun q1 => m11 (Or.inr (by have q1 : wr h0 (66 + 2 * tb) 1 < 0 := q1; omega))) (fun q1 => ?_)
      have q1 : ¬ wr h0 (66 + 2 * tb) 1 < 0 := q1
      have q12 : ¬ (wr h0 163 ta < 0 ∨ wr h0 163 tb < 0) := by omega
      refine cond_i (by rw [ka]; rfl) ?_
      refine cond_i (by rw [kb]; rfl) ?_
      refine ite_i (fun q3 => ?_) (fun q3 => ?_)
      · have q3 : wr h0 (66 + 2 * ta) 1 = wr h0 (66 + 2 * tb) 1 := q3
        have q33 : wr h0 163 ta = wr h0 163 tb := by omega
        have m13 : ¬ ((0 ≤ i ∧ 0 ≤ n ∧ i + n ≤ wr h0 164 ta) ∧ (0 ≤ j ∧ 0 ≤ n ∧ j + n ≤ wr h0 164 tb)) → Call g (d + 9) yMo_shift [xr 120, xi (ta : Int), xi i, xi (tb : Int), xi j, xi n] (wr h0) al (Ok2 (some (xi (-13)))) := fun q => c_shM hW2 ⟨p5, p6⟩ ⟨r5, r6⟩ ha hb hn (fun q2 => absurd q2 q12) (fun _ q2 => absurd q33 q2) (fun _ _ _ => ⟨⟨_, rfl, rfl⟩, hS⟩) (fun _ _ _ _ _ _ _ _ _ _ q2 => absurd q2 q)
        show XW g (d + 8) mBy_shift _ 61 [some (xr 0), some (xi (ta : Int)), some (xi i), some (xi (tb : Int)), some (xi j), some (xi n), some (xr (Int.ofNat (66 + 2 * ta))), some (xr (Int.ofNat (66 + 2 * tb)))] [] (wr h0) al
        refine XW_t4 [87] 60 okBy_shift ?_
        refine cond_i (by have e : ta = 0 ∨ ta = 1 ∨ ta = 2 ∨ ta = 3 ∨ ta = 4 ∨ ta = 5 := by omega
                          rcases e with e | e | e | e | e | e <;> rw [e] <;> rfl) ?_
        refine c_holdsS (h := wr h0) ha ⟨hi, hn⟩ (fun q4 => ?_) (fun q4 => ?_)
        rotate_left
        · exact m13 (fun q5 => q4 (by rw [p4]; exact q5.1))
        refine cond_i (by have e : tb = 0 ∨ tb = 1 ∨ tb = 2 ∨ tb = 3 ∨ tb = 4 ∨ tb = 5 := by omega
                          rcases e with e | e | e | e | e | e <;> rw [e] <;> rfl) ?_
        refine c_holdsS (h := wr h0) hb ⟨hj, hn⟩ (fun q5 => ?_) (fun q5 => ?_)
        rotate_left
        · exact m13 (fun q6 => q5 (by rw [r4]; exact q6.2))
        rw [p4] at q4
        rw [r4] at q5
        obtain ⟨i2, rfl⟩ : ∃ m : Nat, i = (m : Int) := ⟨i.toNat, by omega⟩
        obtain ⟨j2, rfl⟩ : ∃ m : Nat, j = (m : Int) := ⟨j.toNat, by omega⟩
        obtain ⟨n2, rfl⟩ : ∃ m : Nat, n = (m : Int) := ⟨n.toNat, by omega⟩
        refine c_shC hW2 ha hb (i := i2) (j := j2) (n := n2) (by omega) (by omega) ?_
        have sim := hS.shift ha hb (i := i2) (j := j2) (n := n2) (by omega) (by omega)
        have f : ∀ q k, ¬ (q = 67 + 2 * tb) → cpyH (wr h0) (67 + 2 * ta) i2 (67 + 2 * tb) j2 n2 q k = wr h0 q k := fun q k hq => by rw [cpy_if, if_neg (by omega)]
        have hW3 : Wd (cpyH (wr h0) (67 + 2 * ta) i2 (67 + 2 * tb) j2 n2) := hW2.of fun q k hk => f q k (by
          rintro rfl
          have e2 : tb = 0 ∨ tb = 1 ∨ tb = 2 ∨ tb = 3 ∨ tb = 4 ∨ tb = 5 := by omega
          rcases e2 with rfl | rfl | rfl | rfl | rfl | rfl <;> exact hk (by show (-9 : Int) < 0; decide))
        refine c_shM hW3 (by rw [f 164 ta (by omega)]; exact ⟨p5, p6⟩) (by rw [f 164 tb (by omega)]; exact ⟨r5, r6⟩) ha hb hn ?_ ?_ ?_ ?_
        · rw [f 163 ta (by omega), f 163 tb (by omega)]
          exact fun q2 => absurd q2 q12
        · rw [f 163 ta (by omega), f 163 tb (by omega)]
          exact fun _ q2 => absurd q33 q2
        · rw [f 163 ta (by omega), f 163 tb (by omega), f 164 ta (by omega), f 164 tb (by omega)]
          exact fun _ _ q2 => absurd ⟨q4, q5⟩ q2
        · intro _ _ i3 j3 n3 ei ej en _ _ _
          have ei : i2 = i3 := by omega
          have ej : j2 = j3 := by omega
          have en : n2 = n3 := by omega
          subst ei ej en
          exact ⟨⟨_, rfl, rfl⟩, sim⟩
      · have q3 : ¬ wr h0 (66 + 2 * ta) 1 = wr h0 (66 + 2 * tb) 1 := q3
        exact c_shM hW2 ⟨p5, p6⟩ ⟨r5, r6⟩ ha hb hn (fun q2 => absurd q2 q12) (fun _ _ => ⟨⟨_, rfl, rfl⟩, hS⟩) (fun _ q2 => absurd q2 (by omega)) (fun _ q2 => absurd q2 (by omega))
    · exact none2 (fun q => hno q.2)
  · exact c_tapeAtS hW (fun tb hb eb => none2 (fun q => hno q.1)) (fun _ => none2 (fun q => hno q.1))
end Q31
