-- has
section Q12
variable {g : GC} {d : Nat} {h : HH} {al : AL}
theorem s_has {p w : Int} (hS : Sim h al) : Call g (d + 9) yBy_has [xr 0, xi p, xi w] h al (fun v h1 al1 => Call g (d + 9) yMo_has [xr 120, xi p, xi w] h1 al1 (Ok2 v)) := by
  obtain ⟨V, nV, vl, nH, nP, rd, lots, l, yr, lo, S, O, P, k, v, st, hA⟩ := hS.all
  obtain ⟨⟨hW, hN, hB⟩, -, -, -, hr⟩ := id hA
  obtain ⟨-, ⟨⟨c1, c2, c3⟩, -⟩, ⟨m1, m2⟩, ⟨g1, g2, g3, g4, g5⟩, -⟩ := id hN
  obtain ⟨h0, rfl⟩ := id hW
  refine cof ocBy_has rfl (XW_t4 [] 80 okBy_has ?_)
  refine c_holderA hA (fun pn ho ep hp hp6 hh hF => ?_) (fun hno => ?_)
  · obtain ⟨k0, -⟩ := hh.k
    have eM : ∀ z : Int, XW g (d + 8) mMo_has (Ok2 (some (xi z))) 11 [some (xr 120), some (xi p), some (xi w)] [] (wr h0) al → Call g (d + 9) yMo_has [xr 120, xi p, xi w] (wr h0) al (Ok2 (some (xi z))) := fun z t => by
      refine cof ocMo_has rfl (XW_t4 [11] 80 okMo_has ?_)
      exact c_isHolderA hA (fun _ _ _ _ => t) (fun q => absurd q (by omega))
    refine ite_i (fun q => ?_) (fun q => ?_)
    · have q : w = 0 := q
      subst q
      refine cond_i (by rw [k0]; rfl) ⟨_, hF.2.1, ?_⟩
      refine eM _ (XW_t4 [] 60 okMo_has ?_)
      refine ⟨pn, ep, by show pn < 6; exact hp6, _, (hr pn hp).1.1, ?_⟩
      exact ⟨⟨_, rfl, rfl⟩, hS⟩
    · have q0 : ¬ w = 0 := q
      refine ite_i (fun q => ?_) (fun q => ?_)
      · have q : w = 1 := q
        subst q
        refine cond_i (by rw [k0]; rfl) ⟨_, hF.2.2.1, ?_⟩
        refine eM _ (XW_t4 [] 60 okMo_has ?_)
        refine ⟨pn, ep, by show pn < 6; exact hp6, _, (hr pn hp).2.1.1, ?_⟩
        exact ⟨⟨_, rfl, rfl⟩, hS⟩
      · have q1 : ¬ w = 1 := q
        refine ite_i (fun q => ?_) (fun q => ?_)
        · have q : w = 2 := q
          subst q
          rcases (c2 pn hp6).1 hp with ⟨o1, o2⟩ | ⟨o1, o2⟩
          · refine c_atE rfl ep (by show pn < 6; exact hp6) o2 ?_
            refine eM _ (XW_t4 [] 60 okMo_has ?_)
            refine ⟨pn, ep, by show pn < 6; exact hp6, _, (m2 pn hp).1, ?_⟩
            refine ite_t (show O pn < 0 by omega) ?_
            exact ⟨⟨_, rfl, rfl⟩, hS⟩
          · refine c_atE rfl ep (by show pn < 6; exact hp6) o2 ?_
            refine eM _ (XW_t4 [] 60 okMo_has ?_)
            refine ⟨pn, ep, by show pn < 6; exact hp6, _, (m2 pn hp).1, ?_⟩
            refine ite_f (show ¬ O pn < 0 by omega) ?_
            refine ⟨pn, ep, by show pn < 6; exact hp6, _, (m2 pn hp).1, ?_⟩
            exact ⟨⟨_, rfl, rfl⟩, hS⟩
        · have q2 : ¬ w = 2 := q
          refine ite_i (fun q => ?_) (fun q => ?_)
          · have q : w = 3 := q
            subst q
            refine c_atE rfl ep (by show pn < 6; exact hp6) (c3 pn hp) ?_
            refine eM _ (XW_t4 [] 60 okMo_has ?_)
            refine ⟨pn, ep, by show pn < 6; exact hp6, _, (m2 pn hp).2, ?_⟩
            exact ⟨⟨_, rfl, rfl⟩, hS⟩
          · have q3 : ¬ w = 3 := q
            refine eM _ (XW_t4 [] 60 okMo_has ?_)
            refine ite_f q0 (ite_f (show ¬ w = 0 + 1 by omega) (ite_f (show ¬ w = 0 + 1 + 1 by omega) (ite_f (show ¬ w = 0 + 1 + 1 + 1 by omega) ?_)))
            exact ⟨⟨_, rfl, rfl⟩, hS⟩
  · refine cof ocMo_has rfl (XW_t4 [] 80 okMo_has ?_)
    exact c_isHolderA hA (fun _ _ _ _ => absurd hno (by omega)) (fun _ => ⟨⟨_, rfl, rfl⟩, hS⟩)
end Q12
