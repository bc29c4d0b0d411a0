-- act, both sides
section Q25
variable {g : GC} {d : Nat} {h h2 : HH} {al : AL} {K : KT} {pn c wn nN : Nat} {v x : Int}
set_option maxRecDepth 8000 in
theorem c_actM (hA : AcR h pn c v) (hn : pn < nN) (n6 : nN ≤ 6) (hm : h 120 1 = (nN : Int)) (hc : c < 7) (hw : wn < 3) (hK : ∀ h3 : HH, LGr 162 120 69 (uH h 120 69 0) h3 0 (acB wn c c) → K (some (xi (acV wn c c x (pn : Int) v))) h3 al) : Call g (d + 10) yMo_act [xr 120, xi (pn : Int), xi (wn : Int), xi x] h al K := by
  have f : XQ h (uH h 120 69 0) := fun a k hk => by rw [uH_ne (by omega)]
  have hB : AcR (uH h 120 69 0) pn c v := ⟨f.wd hA.1, (f _ _ (by omega)).trans hA.2.1, (f _ _ (by omega)).trans hA.2.2⟩
  have hm2 : uH h 120 69 0 120 1 = (nN : Int) := (f _ _ (by omega)).trans hm
  have hL := acL hc hw
  have hp : pn < 6 := by omega
  have e2 : wn = 0 ∨ wn = 1 ∨ wn = 2 := by omega
  rcases e2 with rfl | rfl | rfl
  · have t := fun K2 => r_m (g := g) (v := v) hp hc (d + 5) x _ al K2 0 hB uH_at (show 0 + (mB c).length ≤ 20 by have : (mB c).length ≤ 20 := hL; omega)
    refine cof ocMo_act rfl (XW_t4 [] 60 okMo_act ?_)
    refine c_isHolder (by rw [hm2]; omega) (fun _ => ?_) (fun q => absurd (show 0 ≤ (pn : Int) ∧ (pn : Int) < uH h 120 69 0 120 1 by rw [hm2]; omega) q)
    refine c_in (fun _ => ?_) (fun q => absurd (by decide) q)
    refine t _ fun h3 q => ?_
    exact hK _ q
  · have t := fun K2 => r_l (g := g) (v := v) hp hc (d + 2) x _ al K2 0 hB uH_at (show 0 + (lBl c c).length ≤ 20 by have : (lBl c c).length ≤ 20 := hL; omega)
    refine cof ocMo_act rfl (XW_t4 [] 60 okMo_act ?_)
    refine c_isHolder (by rw [hm2]; omega) (fun _ => ?_) (fun q => absurd (show 0 ≤ (pn : Int) ∧ (pn : Int) < uH h 120 69 0 120 1 by rw [hm2]; omega) q)
    refine c_in (fun _ => ?_) (fun q => absurd (by decide) q)
    refine t _ fun h3 q => ?_
    exact hK _ q
  · have t := fun K2 => r_t (g := g) (v := v) hp hc d x _ al K2 0 hB uH_at (show 0 + (tBl c c).length ≤ 20 by have : (tBl c c).length ≤ 20 := hL; omega)
    refine cof ocMo_act rfl (XW_t4 [] 60 okMo_act ?_)
    refine c_isHolder (by rw [hm2]; omega) (fun _ => ?_) (fun q => absurd (show 0 ≤ (pn : Int) ∧ (pn : Int) < uH h 120 69 0 120 1 by rw [hm2]; omega) q)
    refine c_in (fun _ => ?_) (fun q => absurd (by decide) q)
    refine t _ fun h3 q => ?_
    exact hK _ q
set_option maxRecDepth 8000 in
theorem s_act {p w x : Int} (hS : Sim h al) : Call g (d + 20) yBy_act [xr 0, xi p, xi w, xi x] h al (fun v h1 al1 => Call g (d + 20) yMo_act [xr 120, xi p, xi w, xi x] h1 al1 (Ok2 v)) := by
  obtain ⟨V, nV, vl, nH, nP, rd, lots, l, yr, lo, S, O, P, k, v, st, hA⟩ := hS.all
  obtain ⟨⟨hW, hN, hB⟩, -, -, -, hr⟩ := id hA
  have hka : ∀ j : Nat, j < 7 → h 181 j = kaT.getD j 0 := hS.2.2.2.2.2.2.2.1.1
  have hbo : ∀ j : Nat, j < 21 → h 182 j = boT.getD j 0 := hS.2.2.2.2.2.2.2.1.2.1
  have n6 := hN.1.2.2.2
  have hm : h 120 1 = (nP : Int) := hN.1.2.1.2
  -- what the reference does where nothing runs
  have none2 : ¬ ((0 ≤ p ∧ p < (nP : Int)) ∧ (0 ≤ w ∧ w ≤ 2)) → Call g (d + 20) yMo_act [xr 120, xi p, xi w, xi x] (uH h 60 1 0) al (Ok2 (some (xi 0))) := by
    intro hno
    have f : XQ h (uH (uH h 60 1 0) 120 69 0) := fun a k hk => by rw [uH_ne (by omega), uH_ne (by omega)]
    have hm2 : uH (uH h 60 1 0) 120 69 0 120 1 = (nP : Int) := (f _ _ (by omega)).trans hm
    have sim := hS.act f ⟨by rw [uH_ne (by omega), uH_at, uH_at]; decide, fun k _ q => absurd q (by rw [uH_at]; omega)⟩
    obtain ⟨h0, e0⟩ := hW
    refine cof ocMo_act rfl (XW_t4 [] 60 okMo_act ?_)
    refine c_isHolder (by rw [hm2]; omega) (fun q => ?_) (fun _ => ?_)
    · rw [hm2] at q
      refine c_in (fun q2 => absurd ⟨q, q2⟩ hno) (fun _ => ?_)
      exact ⟨⟨_, rfl, rfl⟩, sim⟩
    · exact ⟨⟨_, rfl, rfl⟩, sim⟩
  have f0 : XQ h (uH h 60 1 0) := fun a k hk => by rw [uH_ne (by omega)]
  have hW0 := f0.wd hW
  obtain ⟨h0, rfl⟩ := id hW
  refine cof ocBy_act rfl (XW_t4 [] 200 okBy_act ?_)
  refine c_holderA hA (fun pn ho ep hp hp6 hh hF => ?_) (fun hno => ?_)
  · refine c_within (fun hw => ?_) (fun hw => ?_)
    · obtain ⟨c, ec⟩ : ∃ c : Nat, k pn = (c : Int) := ⟨(k pn).toNat, by have := (hr pn hp).1.2; omega⟩
      obtain ⟨wn, rfl⟩ : ∃ wn : Nat, w = (wn : Int) := ⟨w.toNat, by omega⟩
      subst ep
      have hc : c < 7 := by have := (hr pn hp).1.2; omega
      have hn : nP ≤ 6 := by omega
      have hw3 : wn < 3 := by omega
      obtain ⟨i, hi, eh⟩ := id hh
      refine c_begin (d := d) (h := uH (wr h0) 60 1 0) hW0 hh ((f0 _ _ (by omega)).trans hF.1) ((f0 _ _ (by omega)).trans (hF.2.1.trans ec)) ((f0 _ _ (by omega)).trans hF.2.2.1) uH_at (fun j hj => (f0 _ _ (by omega)).trans (hka j hj)) (fun j hj => (f0 _ _ (by omega)).trans (hbo j hj)) hc hw3 fun h3 q => ?_
      have f1 : XQ (wr h0) h3 := fun a k hk => by rw [q.1 a k (by omega) (by omega), uH_ne (by omega), uH_ne (by omega), uH_ne (by omega), uH_ne (by omega)]
      have f1m : ∀ a k, a = 162 ∨ a = 120 → h3 a k = wr h0 a k := fun a k hk => by rw [q.1 a k (by omega) (by omega), uH_ne (by omega), uH_ne (by omega), uH_ne (by omega), uH_ne (by omega)]
      refine c_actM (d := d + 10) ⟨f1.wd hW, (f1 _ _ (by omega)).trans ((hr pn hp).1.1.trans ec), (f1 _ _ (by omega)).trans (hr pn hp).2.1.1⟩ hp hn ((f1m _ _ (by omega)).trans hm) hc hw3 fun h4 q2 => ?_
      have f2 : XQ (wr h0) h4 := fun a k hk => by rw [q2.1 a k (by omega) (by omega), uH_ne (by omega), f1 a k hk]
      have hL := acL hc hw3
      have e1 : h4 60 1 = h3 60 1 := by rw [q2.1 60 1 (by omega) (by omega), uH_ne (by omega)]
      refine ⟨⟨_, rfl, rfl⟩, hS.act f2 ⟨⟨by rw [e1, q.2.1, q2.2.1], by rw [q2.2.1]; omega, by rw [q2.2.1]; omega⟩, fun k hk1 hk2 => ?_⟩⟩
      rw [q2.2.1] at hk2
      have hk3 : k < (acB wn c c).length := by omega
      have a1 := q.2.2.1 k hk3
      have a2 := q2.2.2.1 k hk3
      rw [Nat.zero_add] at a1 a2
      rw [q2.1 61 k (by omega) (by omega), uH_ne (by omega), a1, a2]
    · exact none2 (fun q => hw q.2)
  · exact none2 (fun q => hno q.1)
end Q25
