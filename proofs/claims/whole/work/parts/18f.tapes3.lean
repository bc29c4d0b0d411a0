-- tape, item, read on both sides
section TR
variable {g : GC} {d : Nat} {h : HH} {al : AL}
theorem ixA {t k : Nat} (ht : t < 6) (hk : k < 60) : wI (wI (60 * (t : Int)) + (k : Int)) = ((60 * t + k : Nat) : Int) := by
  rw [wI_id (z := 60 * (t : Int)) (by omega), wI_id (by omega)]; omega
theorem c_Moread {K : KT} {t k : Nat} (ht : t < 6) (hs : 0 ≤ wr h 163 t) (hk : (k : Int) < wr h 164 t) (hn : wr h 164 t ≤ 60) (hK : K (some (xl (wr h 165 (60 * t + k)))) (wr h) al) : Call g (d + 3) yMo_read [xr 120, xi t, xi k] (wr h) al K := by
  have ew : wI (wr h 164 t - 1) = wr h 164 t - 1 := wI_id (by omega)
  have e3 := ixA (t := t) (k := k) ht (by omega)
  have el : ((ln g 165 : Nat) : Int) = 360 := rfl
  refine cof ocMo_read rfl (XW_to [] 60 okMo_read ?_)
  refine c_isTape (fun _ => ?_) (fun z => absurd (show 0 ≤ (t : Int) ∧ (t : Int) ≤ 5 by omega) z)
  refine ⟨⟨by omega, by show (t : Int) < 6; omega⟩, ?_⟩
  refine ite_f (show ¬ wr h 163 t < 0 by omega) ?_
  refine ⟨⟨by omega, by show (t : Int) < 6; omega⟩, ?_⟩
  refine c_in (fun _ => ?_) (fun z => absurd (show 0 ≤ (k : Int) ∧ (k : Int) ≤ wI (wr h 164 t - 1) by rw [ew]; omega) z)
  refine ⟨⟨by rw [e3]; omega, by rw [e3, el]; omega⟩, ?_⟩
  show K (some (xl (wr h 165 (wI (wI (60 * (t : Int)) + (k : Int))).toNat))) (wr h) al
  rw [e3]
  exact hK
set_option maxRecDepth 8000 in
theorem c_Moitem {K : KT} {t k : Nat} {v : Int} (ht : t < 6) (hs : 0 ≤ wr h 163 t ∧ wr h 163 t ≤ 4) (hk : (k : Int) < wr h 164 t) (hn : wr h 164 t ≤ 60) (hK : K (some (xi 1)) (uH (wr h) 165 (60 * t + k) (narV (wr h 163 t) v)) al) : Call g (d + 4) yMo_item [xr 120, xi t, xi k, xl v] (wr h) al K := by
  have ew : wI (wr h 164 t - 1) = wr h 164 t - 1 := wI_id (by omega)
  have e3 := ixA (t := t) (k := k) ht (by omega)
  have el : ((ln g 165 : Nat) : Int) = 360 := rfl
  refine cof ocMo_item rfl (XW_to [] 60 okMo_item ?_)
  refine c_isTape (fun _ => ?_) (fun z => absurd (show 0 ≤ (t : Int) ∧ (t : Int) ≤ 5 by omega) z)
  refine ⟨⟨by omega, by show (t : Int) < 6; omega⟩, ?_⟩
  refine ite_f (show ¬ wr h 163 t < 0 by omega) ?_
  refine ⟨⟨by omega, by show (t : Int) < 6; omega⟩, ?_⟩
  refine c_in (fun _ => ?_) (fun z => absurd (show 0 ≤ (k : Int) ∧ (k : Int) ≤ wI (wr h 164 t - 1) by rw [ew]; omega) z)
  have el3 : ((ln g 163 : Nat) : Int) = 6 := rfl
  refine ⟨⟨by omega, by rw [el3]; omega⟩, ?_⟩
  refine c_Monarrow hs ?_
  refine ⟨⟨by rw [e3]; omega, by rw [e3, el]; omega⟩, ?_⟩
  show K (some (xi 1)) (uH (wr h) 165 (wI (wI (60 * (t : Int)) + (k : Int))).toNat (narV (wr h 163 t) v)) al
  rw [e3]
  exact hK
theorem s_tapeZ0 {s n : Int} (hS : Sim h al) : XW g (d + 3) mBy_tape (fun v h1 al1 => Call g (d + 4) yMo_tape [xr 120, xi 0, xi s, xi n] h1 al1 (Ok2 v)) 7 [some (xr 0), some (xi 0), some (xi s), some (xi n), some (xr 66)] [] h al := by
  refine XW_to [] 60 okBy_tape ?_
  refine ite_i (fun e => ?_) (fun e => ?_)
  · subst e
    refine Call_m (fun v h1 al1 q => ?_) (s_tapeY0 hS ⟨by decide, by decide⟩ ⟨by decide, by decide⟩ (fun _ => rfl) n (fun q => absurd q (by decide)))
    obtain ⟨rfl, q⟩ := q
    refine cof ocMo_tape rfl (XW_to [44] 60 okMo_tape ?_)
    refine c_isTape (fun _ => ?_) (fun z => absurd (show 0 ≤ (0 : Int) ∧ (0 : Int) ≤ 5 by decide) z)
    refine c_in (fun _ => ?_) (fun z => absurd (show -1 ≤ (-1 : Int) ∧ (-1 : Int) ≤ 4 by decide) z)
    exact q
  · refine c_within (fun h2 => ?_) (fun h2 => ?_)
    · refine ite_i (fun h3 => ?_) (fun h3 => ?_)
      · refine cof ocMo_tape rfl (XW_to [44] 60 okMo_tape ?_)
        refine c_isTape (fun _ => ?_) (fun z => absurd (show 0 ≤ (0 : Int) ∧ (0 : Int) ≤ 5 by decide) z)
        refine c_in (fun _ => ?_) (fun z => absurd (show -1 ≤ s ∧ s ≤ 4 by omega) z)
        refine ite_f (show ¬ s < 0 by omega) (ite_t h3 ?_)
        exact ⟨⟨-2, rfl, rfl⟩, hS⟩
      · refine ite_i (fun h4 => ?_) (fun h4 => ?_)
        · refine cof ocMo_tape rfl (XW_to [44] 60 okMo_tape ?_)
          refine c_isTape (fun _ => ?_) (fun z => absurd (show 0 ≤ (0 : Int) ∧ (0 : Int) ≤ 5 by decide) z)
          refine c_in (fun _ => ?_) (fun z => absurd (show -1 ≤ s ∧ s ≤ 4 by omega) z)
          refine ite_f (show ¬ s < 0 by omega) (ite_f h3 (ite_f (show ¬ s < 0 by omega) (ite_t h4 ?_)))
          exact ⟨⟨-14, rfl, rfl⟩, hS⟩
        · refine Call_m (fun v h1 al1 q => ?_) (s_tapeY0 hS (s := s) (n := n) ⟨by omega, by omega⟩ ⟨by omega, by omega⟩ (fun z => absurd z (by omega)) n (fun _ => rfl))
          obtain ⟨rfl, q⟩ := q
          refine cof ocMo_tape rfl (XW_to [44] 60 okMo_tape ?_)
          refine c_isTape (fun _ => ?_) (fun z => absurd (show 0 ≤ (0 : Int) ∧ (0 : Int) ≤ 5 by decide) z)
          refine c_in (fun _ => ?_) (fun z => absurd (show -1 ≤ s ∧ s ≤ 4 by omega) z)
          refine ite_f (show ¬ s < 0 by omega) (ite_f h3 (ite_f (show ¬ s < 0 by omega) (ite_f h4 ?_)))
          exact q
    · refine cof ocMo_tape rfl (XW_to [44] 60 okMo_tape ?_)
      refine c_isTape (fun _ => ?_) (fun z => absurd (show 0 ≤ (0 : Int) ∧ (0 : Int) ≤ 5 by decide) z)
      refine c_in (fun h3 => absurd (show 0 ≤ s ∧ s ≤ 4 by omega) h2) (fun _ => ?_)
      exact ⟨⟨-2, rfl, rfl⟩, hS⟩
theorem s_itemZ0 {i v : Int} (hS : Sim h al) : XW g (d + 3) mBy_item (fun v1 h1 al1 => Call g (d + 4) yMo_item [xr 120, xi 0, xi i, xl v] h1 al1 (Ok2 v1)) 7 [some (xr 0), some (xi 0), some (xi i), some (xl v), none, some (xr 66)] [] h al := by
  obtain ⟨hW, hN, hI, hH, hT, hP, hC, hK, hV⟩ := id hS
  obtain ⟨⟨p1, p2, p3⟩, ⟨p4, p5, p6, p7⟩, p8⟩ := hP 0 (by decide)
  have p1 : h 66 1 = h 163 0 := p1
  have p2 : -1 ≤ h 163 0 := p2
  have p3 : h 163 0 ≤ 4 := p3
  have p4 : h 66 2 = h 164 0 := p4
  have p5 : 0 ≤ h 164 0 := p5
  have p6 : h 164 0 ≤ 60 := p6
  refine XW_to [] 60 okBy_item ?_
  refine ite_i (fun e => ?_) (fun e => ?_)
  · have e2 : h 66 1 < 0 := e
    refine cof ocMo_item rfl (XW_to [] 60 okMo_item ?_)
    obtain ⟨h, rfl⟩ := hW
    refine c_isTape (fun _ => ?_) (fun z => absurd (show 0 ≤ (0 : Int) ∧ (0 : Int) ≤ 5 by decide) z)
    refine ⟨⟨by decide, by show (0 : Int) < 6; decide⟩, ?_⟩
    refine ite_t (show wr h 163 0 < 0 by omega) ?_
    exact ⟨⟨-11, rfl, rfl⟩, hS⟩
  · have e2 : ¬ h 66 1 < 0 := e
    have ew : wI (h 164 0 - 1) = h 164 0 - 1 := wI_id (by omega)
    refine c_write0 hW (by omega) (by omega) (fun h1 => ?_) (fun h1 => ?_)
    · obtain ⟨k, hk, ek⟩ : ∃ k : Nat, k < 60 ∧ i = (k : Int) := ⟨i.toNat, by omega, by omega⟩
      subst ek
      have hW2 : Wd (uH h 67 ((k : Int)).toNat (narV (h 66 1) v)) := hW.upA rfl
      have eh := hW2.eq.symm
      rw [eh]
      refine c_Moitem (t := 0) (k := k) (by decide) (show 0 ≤ wr _ 163 0 ∧ wr _ 163 0 ≤ 4 from by rw [← eh]; show 0 ≤ h 163 0 ∧ h 163 0 ≤ 4; omega) (show (k : Int) < wr _ 164 0 from by rw [← eh]; show (k : Int) < h 164 0; omega) (show wr _ 164 0 ≤ 60 from by rw [← eh]; exact p6) ?_
      rw [← eh]
      refine ⟨⟨1, rfl, rfl⟩, ((hW.upA rfl).upA rfl), ((hN.up rfl).up rfl), ((hI.up rfl rfl).up rfl rfl), ((hH.up rfl rfl).up rfl rfl), ((hT.up rfl).up rfl), ?_, ((hC.up rfl).up rfl), ((hK.up rfl).up rfl), ((hV.up rfl).up rfl)⟩
      refine P0_of ?_ ?_ ?_ ?_ ?_ ?_
      · refine ⟨⟨p1, p2, p3⟩, ⟨p4, p5, p6, p7⟩, fun j hj => ?_⟩
        show uH h 67 ((k : Int)).toNat (narV (h 66 1) v) 67 j = uH (uH h 67 ((k : Int)).toNat (narV (h 66 1) v)) 165 (60 * 0 + k) (narV (h 163 0) v) 165 (60 * 0 + j)
        rw [uH_r, uH_r, p1]
        by_cases ej : j = k
        · rw [if_pos (by omega), if_pos (by omega)]
        · rw [if_neg (by omega), if_neg (by omega)]; exact p8 j hj
      · refine ⟨(hP 1 (by decide)).1, (hP 1 (by decide)).2.1, fun j hj => ?_⟩
        show h 69 j = uH (uH h 67 ((k : Int)).toNat (narV (h 66 1) v)) 165 (60 * 0 + k) (narV (h 163 0) v) 165 (60 * 1 + j)
        rw [uH_r, if_neg (by omega)]; exact (hP 1 (by decide)).2.2 j hj
      · refine ⟨(hP 2 (by decide)).1, (hP 2 (by decide)).2.1, fun j hj => ?_⟩
        show h 71 j = uH (uH h 67 ((k : Int)).toNat (narV (h 66 1) v)) 165 (60 * 0 + k) (narV (h 163 0) v) 165 (60 * 2 + j)
        rw [uH_r, if_neg (by omega)]; exact (hP 2 (by decide)).2.2 j hj
      · refine ⟨(hP 3 (by decide)).1, (hP 3 (by decide)).2.1, fun j hj => ?_⟩
        show h 73 j = uH (uH h 67 ((k : Int)).toNat (narV (h 66 1) v)) 165 (60 * 0 + k) (narV (h 163 0) v) 165 (60 * 3 + j)
        rw [uH_r, if_neg (by omega)]; exact (hP 3 (by decide)).2.2 j hj
      · refine ⟨(hP 4 (by decide)).1, (hP 4 (by decide)).2.1, fun j hj => ?_⟩
        show h 75 j = uH (uH h 67 ((k : Int)).toNat (narV (h 66 1) v)) 165 (60 * 0 + k) (narV (h 163 0) v) 165 (60 * 4 + j)
        rw [uH_r, if_neg (by omega)]; exact (hP 4 (by decide)).2.2 j hj
      · refine ⟨(hP 5 (by decide)).1, (hP 5 (by decide)).2.1, fun j hj => ?_⟩
        show h 77 j = uH (uH h 67 ((k : Int)).toNat (narV (h 66 1) v)) 165 (60 * 0 + k) (narV (h 163 0) v) 165 (60 * 5 + j)
        rw [uH_r, if_neg (by omega)]; exact (hP 5 (by decide)).2.2 j hj
    · refine cof ocMo_item rfl (XW_to [] 60 okMo_item ?_)
      obtain ⟨h, rfl⟩ := hW
      refine c_isTape (fun _ => ?_) (fun z => absurd (show 0 ≤ (0 : Int) ∧ (0 : Int) ≤ 5 by decide) z)
      refine ⟨⟨by decide, by show (0 : Int) < 6; decide⟩, ?_⟩
      refine ite_f (show ¬ wr h 163 0 < 0 by omega) ?_
      refine ⟨⟨by decide, by show (0 : Int) < 6; decide⟩, ?_⟩
      refine c_in (fun z => ?_) (fun _ => ⟨⟨-13, rfl, rfl⟩, hS⟩)
      have z2 : 0 ≤ i ∧ i ≤ wI (wr h 164 0 - 1) := z
      rw [ew] at z2
      exact absurd (show 0 ≤ i ∧ i < wr h 66 2 by omega) h1
theorem s_readZ0 {i : Int} (hS : Sim h al) : XW g (d + 3) mBy_read (fun v1 h1 al1 => Call g (d + 4) yMo_read [xr 120, xi 0, xi i] h1 al1 (Ok2L v1)) 6 [some (xr 0), some (xi 0), some (xi i), some (xr 66)] [] h al := by
  obtain ⟨hW, hN, hI, hH, hT, hP, hC, hK, hV⟩ := id hS
  obtain ⟨⟨p1, p2, p3⟩, ⟨p4, p5, p6, p7⟩, p8⟩ := hP 0 (by decide)
  have p1 : h 66 1 = h 163 0 := p1
  have p4 : h 66 2 = h 164 0 := p4
  have p5 : 0 ≤ h 164 0 := p5
  have p6 : h 164 0 ≤ 60 := p6
  have hW0 := hW
  obtain ⟨h, rfl⟩ := hW
  have ew : wI (wr h 164 0 - 1) = wr h 164 0 - 1 := wI_id (by omega)
  refine XW_to [] 60 okBy_read ?_
  refine ite_i (fun e => ?_) (fun e => ?_)
  · have e2 : wr h 66 1 < 0 := e
    refine cof ocMo_read rfl (XW_to [] 60 okMo_read ?_)
    refine c_isTape (fun _ => ?_) (fun z => absurd (show 0 ≤ (0 : Int) ∧ (0 : Int) ≤ 5 by decide) z)
    refine ⟨⟨by decide, by show (0 : Int) < 6; decide⟩, ?_⟩
    refine ite_t (show wr h 163 0 < 0 by omega) ?_
    exact ⟨⟨_, rfl, rfl⟩, hS⟩
  · have e2 : ¬ wr h 66 1 < 0 := e
    refine c_within (fun h1 => ?_) (fun h1 => ?_)
    · have h2 : 0 ≤ i ∧ i ≤ wI (wr h 66 2 - 1) := h1
      rw [p4, ew] at h2
      obtain ⟨k, hk, ek⟩ : ∃ k : Nat, k < 60 ∧ i = (k : Int) := ⟨i.toNat, by omega, by omega⟩
      subst ek
      refine c_itemAt0 hW0 (by omega) ?_
      refine c_Moread (t := 0) (k := k) (by decide) (show 0 ≤ wr h 163 0 by omega) (show (k : Int) < wr h 164 0 by omega) (show wr h 164 0 ≤ 60 by omega) ?_
      refine ⟨⟨wr h 67 k, rfl, congrArg (fun z => some (xl z)) (show wr h 165 (60 * 0 + k) = wr h 67 k from ?_)⟩, hS⟩
      exact (p8 k hk).symm
    · refine cof ocMo_read rfl (XW_to [] 60 okMo_read ?_)
      refine c_isTape (fun _ => ?_) (fun z => absurd (show 0 ≤ (0 : Int) ∧ (0 : Int) ≤ 5 by decide) z)
      refine ⟨⟨by decide, by show (0 : Int) < 6; decide⟩, ?_⟩
      refine ite_f (show ¬ wr h 163 0 < 0 by omega) ?_
      refine ⟨⟨by decide, by show (0 : Int) < 6; decide⟩, ?_⟩
      refine c_in (fun z => ?_) (fun _ => ⟨⟨_, rfl, rfl⟩, hS⟩)
      have z2 : 0 ≤ i ∧ i ≤ wI (wr h 164 0 - 1) := z
      rw [← p4] at z2
      exact absurd z2 h1
theorem s_tapeZ1 {s n : Int} (hS : Sim h al) : XW g (d + 3) mBy_tape (fun v h1 al1 => Call g (d + 4) yMo_tape [xr 120, xi 1, xi s, xi n] h1 al1 (Ok2 v)) 7 [some (xr 0), some (xi 1), some (xi s), some (xi n), some (xr 68)] [] h al := by
  refine XW_to [] 60 okBy_tape ?_
  refine ite_i (fun e => ?_) (fun e => ?_)
  · subst e
    refine Call_m (fun v h1 al1 q => ?_) (s_tapeY1 hS ⟨by decide, by decide⟩ ⟨by decide, by decide⟩ (fun _ => rfl) n (fun q => absurd q (by decide)))
    obtain ⟨rfl, q⟩ := q
    refine cof ocMo_tape rfl (XW_to [44] 60 okMo_tape ?_)
    refine c_isTape (fun _ => ?_) (fun z => absurd (show 0 ≤ (1 : Int) ∧ (1 : Int) ≤ 5 by decide) z)
    refine c_in (fun _ => ?_) (fun z => absurd (show -1 ≤ (-1 : Int) ∧ (-1 : Int) ≤ 4 by decide) z)
    exact q
  · refine c_within (fun h2 => ?_) (fun h2 => ?_)
    · refine ite_i (fun h3 => ?_) (fun h3 => ?_)
      · refine cof ocMo_tape rfl (XW_to [44] 60 okMo_tape ?_)
        refine c_isTape (fun _ => ?_) (fun z => absurd (show 0 ≤ (1 : Int) ∧ (1 : Int) ≤ 5 by decide) z)
        refine c_in (fun _ => ?_) (fun z => absurd (show -1 ≤ s ∧ s ≤ 4 by omega) z)
        refine ite_f (show ¬ s < 0 by omega) (ite_t h3 ?_)
        exact ⟨⟨-2, rfl, rfl⟩, hS⟩
      · refine ite_i (fun h4 => ?_) (fun h4 => ?_)
        · refine cof ocMo_tape rfl (XW_to [44] 60 okMo_tape ?_)
          refine c_isTape (fun _ => ?_) (fun z => absurd (show 0 ≤ (1 : Int) ∧ (1 : Int) ≤ 5 by decide) z)
          refine c_in (fun _ => ?_) (fun z => absurd (show -1 ≤ s ∧ s ≤ 4 by omega) z)
          refine ite_f (show ¬ s < 0 by omega) (ite_f h3 (ite_f (show ¬ s < 0 by omega) (ite_t h4 ?_)))
          exact ⟨⟨-14, rfl, rfl⟩, hS⟩
        · refine Call_m (fun v h1 al1 q => ?_) (s_tapeY1 hS (s := s) (n := n) ⟨by omega, by omega⟩ ⟨by omega, by omega⟩ (fun z => absurd z (by omega)) n (fun _ => rfl))
          obtain ⟨rfl, q⟩ := q
          refine cof ocMo_tape rfl (XW_to [44] 60 okMo_tape ?_)
          refine c_isTape (fun _ => ?_) (fun z => absurd (show 0 ≤ (1 : Int) ∧ (1 : Int) ≤ 5 by decide) z)
          refine c_in (fun _ => ?_) (fun z => absurd (show -1 ≤ s ∧ s ≤ 4 by omega) z)
          refine ite_f (show ¬ s < 0 by omega) (ite_f h3 (ite_f (show ¬ s < 0 by omega) (ite_f h4 ?_)))
          exact q
    · refine cof ocMo_tape rfl (XW_to [44] 60 okMo_tape ?_)
      refine c_isTape (fun _ => ?_) (fun z => absurd (show 0 ≤ (1 : Int) ∧ (1 : Int) ≤ 5 by decide) z)
      refine c_in (fun h3 => absurd (show 0 ≤ s ∧ s ≤ 4 by omega) h2) (fun _ => ?_)
      exact ⟨⟨-2, rfl, rfl⟩, hS⟩
theorem s_itemZ1 {i v : Int} (hS : Sim h al) : XW g (d + 3) mBy_item (fun v1 h1 al1 => Call g (d + 4) yMo_item [xr 120, xi 1, xi i, xl v] h1 al1 (Ok2 v1)) 7 [some (xr 0), some (xi 1), some (xi i), some (xl v), none, some (xr 68)] [] h al := by
  obtain ⟨hW, hN, hI, hH, hT, hP, hC, hK, hV⟩ := id hS
  obtain ⟨⟨p1, p2, p3⟩, ⟨p4, p5, p6, p7⟩, p8⟩ := hP 1 (by decide)
  have p1 : h 68 1 = h 163 1 := p1
  have p2 : -1 ≤ h 163 1 := p2
  have p3 : h 163 1 ≤ 4 := p3
  have p4 : h 68 2 = h 164 1 := p4
  have p5 : 0 ≤ h 164 1 := p5
  have p6 : h 164 1 ≤ 60 := p6
  refine XW_to [] 60 okBy_item ?_
  refine ite_i (fun e => ?_) (fun e => ?_)
  · have e2 : h 68 1 < 0 := e
    refine cof ocMo_item rfl (XW_to [] 60 okMo_item ?_)
    obtain ⟨h, rfl⟩ := hW
    refine c_isTape (fun _ => ?_) (fun z => absurd (show 0 ≤ (1 : Int) ∧ (1 : Int) ≤ 5 by decide) z)
    refine ⟨⟨by decide, by show (1 : Int) < 6; decide⟩, ?_⟩
    refine ite_t (show wr h 163 1 < 0 by omega) ?_
    exact ⟨⟨-11, rfl, rfl⟩, hS⟩
  · have e2 : ¬ h 68 1 < 0 := e
    have ew : wI (h 164 1 - 1) = h 164 1 - 1 := wI_id (by omega)
    refine c_write1 hW (by omega) (by omega) (fun h1 => ?_) (fun h1 => ?_)
    · obtain ⟨k, hk, ek⟩ : ∃ k : Nat, k < 60 ∧ i = (k : Int) := ⟨i.toNat, by omega, by omega⟩
      subst ek
      have hW2 : Wd (uH h 69 ((k : Int)).toNat (narV (h 68 1) v)) := hW.upA rfl
      have eh := hW2.eq.symm
      rw [eh]
      refine c_Moitem (t := 1) (k := k) (by decide) (show 0 ≤ wr _ 163 1 ∧ wr _ 163 1 ≤ 4 from by rw [← eh]; show 0 ≤ h 163 1 ∧ h 163 1 ≤ 4; omega) (show (k : Int) < wr _ 164 1 from by rw [← eh]; show (k : Int) < h 164 1; omega) (show wr _ 164 1 ≤ 60 from by rw [← eh]; exact p6) ?_
      rw [← eh]
      refine ⟨⟨1, rfl, rfl⟩, ((hW.upA rfl).upA rfl), ((hN.up rfl).up rfl), ((hI.up rfl rfl).up rfl rfl), ((hH.up rfl rfl).up rfl rfl), ((hT.up rfl).up rfl), ?_, ((hC.up rfl).up rfl), ((hK.up rfl).up rfl), ((hV.up rfl).up rfl)⟩
      refine P0_of ?_ ?_ ?_ ?_ ?_ ?_
      · refine ⟨(hP 0 (by decide)).1, (hP 0 (by decide)).2.1, fun j hj => ?_⟩
        show h 67 j = uH (uH h 69 ((k : Int)).toNat (narV (h 68 1) v)) 165 (60 * 1 + k) (narV (h 163 1) v) 165 (60 * 0 + j)
        rw [uH_r, if_neg (by omega)]; exact (hP 0 (by decide)).2.2 j hj
      · refine ⟨⟨p1, p2, p3⟩, ⟨p4, p5, p6, p7⟩, fun j hj => ?_⟩
        show uH h 69 ((k : Int)).toNat (narV (h 68 1) v) 69 j = uH (uH h 69 ((k : Int)).toNat (narV (h 68 1) v)) 165 (60 * 1 + k) (narV (h 163 1) v) 165 (60 * 1 + j)
        rw [uH_r, uH_r, p1]
        by_cases ej : j = k
        · rw [if_pos (by omega), if_pos (by omega)]
        · rw [if_neg (by omega), if_neg (by omega)]; exact p8 j hj
      · refine ⟨(hP 2 (by decide)).1, (hP 2 (by decide)).2.1, fun j hj => ?_⟩
        show h 71 j = uH (uH h 69 ((k : Int)).toNat (narV (h 68 1) v)) 165 (60 * 1 + k) (narV (h 163 1) v) 165 (60 * 2 + j)
        rw [uH_r, if_neg (by omega)]; exact (hP 2 (by decide)).2.2 j hj
      · refine ⟨(hP 3 (by decide)).1, (hP 3 (by decide)).2.1, fun j hj => ?_⟩
        show h 73 j = uH (uH h 69 ((k : Int)).toNat (narV (h 68 1) v)) 165 (60 * 1 + k) (narV (h 163 1) v) 165 (60 * 3 + j)
        rw [uH_r, if_neg (by omega)]; exact (hP 3 (by decide)).2.2 j hj
      · refine ⟨(hP 4 (by decide)).1, (hP 4 (by decide)).2.1, fun j hj => ?_⟩
        show h 75 j = uH (uH h 69 ((k : Int)).toNat (narV (h 68 1) v)) 165 (60 * 1 + k) (narV (h 163 1) v) 165 (60 * 4 + j)
        rw [uH_r, if_neg (by omega)]; exact (hP 4 (by decide)).2.2 j hj
      · refine ⟨(hP 5 (by decide)).1, (hP 5 (by decide)).2.1, fun j hj => ?_⟩
        show h 77 j = uH (uH h 69 ((k : Int)).toNat (narV (h 68 1) v)) 165 (60 * 1 + k) (narV (h 163 1) v) 165 (60 * 5 + j)
        rw [uH_r, if_neg (by omega)]; exact (hP 5 (by decide)).2.2 j hj
    · refine cof ocMo_item rfl (XW_to [] 60 okMo_item ?_)
      obtain ⟨h, rfl⟩ := hW
      refine c_isTape (fun _ => ?_) (fun z => absurd (show 0 ≤ (1 : Int) ∧ (1 : Int) ≤ 5 by decide) z)
      refine ⟨⟨by decide, by show (1 : Int) < 6; decide⟩, ?_⟩
      refine ite_f (show ¬ wr h 163 1 < 0 by omega) ?_
      refine ⟨⟨by decide, by show (1 : Int) < 6; decide⟩, ?_⟩
      refine c_in (fun z => ?_) (fun _ => ⟨⟨-13, rfl, rfl⟩, hS⟩)
      have z2 : 0 ≤ i ∧ i ≤ wI (wr h 164 1 - 1) := z
      rw [ew] at z2
      exact absurd (show 0 ≤ i ∧ i < wr h 68 2 by omega) h1
theorem s_readZ1 {i : Int} (hS : Sim h al) : XW g (d + 3) mBy_read (fun v1 h1 al1 => Call g (d + 4) yMo_read [xr 120, xi 1, xi i] h1 al1 (Ok2L v1)) 6 [some (xr 0), some (xi 1), some (xi i), some (xr 68)] [] h al := by
  obtain ⟨hW, hN, hI, hH, hT, hP, hC, hK, hV⟩ := id hS
  obtain ⟨⟨p1, p2, p3⟩, ⟨p4, p5, p6, p7⟩, p8⟩ := hP 1 (by decide)
  have p1 : h 68 1 = h 163 1 := p1
  have p4 : h 68 2 = h 164 1 := p4
  have p5 : 0 ≤ h 164 1 := p5
  have p6 : h 164 1 ≤ 60 := p6
  have hW0 := hW
  obtain ⟨h, rfl⟩ := hW
  have ew : wI (wr h 164 1 - 1) = wr h 164 1 - 1 := wI_id (by omega)
  refine XW_to [] 60 okBy_read ?_
  refine ite_i (fun e => ?_) (fun e => ?_)
  · have e2 : wr h 68 1 < 0 := e
    refine cof ocMo_read rfl (XW_to [] 60 okMo_read ?_)
    refine c_isTape (fun _ => ?_) (fun z => absurd (show 0 ≤ (1 : Int) ∧ (1 : Int) ≤ 5 by decide) z)
    refine ⟨⟨by decide, by show (1 : Int) < 6; decide⟩, ?_⟩
    refine ite_t (show wr h 163 1 < 0 by omega) ?_
    exact ⟨⟨_, rfl, rfl⟩, hS⟩
  · have e2 : ¬ wr h 68 1 < 0 := e
    refine c_within (fun h1 => ?_) (fun h1 => ?_)
    · have h2 : 0 ≤ i ∧ i ≤ wI (wr h 68 2 - 1) := h1
      rw [p4, ew] at h2
      obtain ⟨k, hk, ek⟩ : ∃ k : Nat, k < 60 ∧ i = (k : Int) := ⟨i.toNat, by omega, by omega⟩
      subst ek
      refine c_itemAt1 hW0 (by omega) ?_
      refine c_Moread (t := 1) (k := k) (by decide) (show 0 ≤ wr h 163 1 by omega) (show (k : Int) < wr h 164 1 by omega) (show wr h 164 1 ≤ 60 by omega) ?_
      refine ⟨⟨wr h 69 k, rfl, congrArg (fun z => some (xl z)) (show wr h 165 (60 * 1 + k) = wr h 69 k from ?_)⟩, hS⟩
      exact (p8 k hk).symm
    · refine cof ocMo_read rfl (XW_to [] 60 okMo_read ?_)
      refine c_isTape (fun _ => ?_) (fun z => absurd (show 0 ≤ (1 : Int) ∧ (1 : Int) ≤ 5 by decide) z)
      refine ⟨⟨by decide, by show (1 : Int) < 6; decide⟩, ?_⟩
      refine ite_f (show ¬ wr h 163 1 < 0 by omega) ?_
      refine ⟨⟨by decide, by show (1 : Int) < 6; decide⟩, ?_⟩
      refine c_in (fun z => ?_) (fun _ => ⟨⟨_, rfl, rfl⟩, hS⟩)
      have z2 : 0 ≤ i ∧ i ≤ wI (wr h 164 1 - 1) := z
      rw [← p4] at z2
      exact absurd z2 h1
theorem s_tapeZ2 {s n : Int} (hS : Sim h al) : XW g (d + 3) mBy_tape (fun v h1 al1 => Call g (d + 4) yMo_tape [xr 120, xi 2, xi s, xi n] h1 al1 (Ok2 v)) 7 [some (xr 0), some (xi 2), some (xi s), some (xi n), some (xr 70)] [] h al := by
  refine XW_to [] 60 okBy_tape ?_
  refine ite_i (fun e => ?_) (fun e => ?_)
  · subst e
    refine Call_m (fun v h1 al1 q => ?_) (s_tapeY2 hS ⟨by decide, by decide⟩ ⟨by decide, by decide⟩ (fun _ => rfl) n (fun q => absurd q (by decide)))
    obtain ⟨rfl, q⟩ := q
    refine cof ocMo_tape rfl (XW_to [44] 60 okMo_tape ?_)
    refine c_isTape (fun _ => ?_) (fun z => absurd (show 0 ≤ (2 : Int) ∧ (2 : Int) ≤ 5 by decide) z)
    refine c_in (fun _ => ?_) (fun z => absurd (show -1 ≤ (-1 : Int) ∧ (-1 : Int) ≤ 4 by decide) z)
    exact q
  · refine c_within (fun h2 => ?_) (fun h2 => ?_)
    · refine ite_i (fun h3 => ?_) (fun h3 => ?_)
      · refine cof ocMo_tape rfl (XW_to [44] 60 okMo_tape ?_)
        refine c_isTape (fun _ => ?_) (fun z => absurd (show 0 ≤ (2 : Int) ∧ (2 : Int) ≤ 5 by decide) z)
        refine c_in (fun _ => ?_) (fun z => absurd (show -1 ≤ s ∧ s ≤ 4 by omega) z)
        refine ite_f (show ¬ s < 0 by omega) (ite_t h3 ?_)
        exact ⟨⟨-2, rfl, rfl⟩, hS⟩
      · refine ite_i (fun h4 => ?_) (fun h4 => ?_)
        · refine cof ocMo_tape rfl (XW_to [44] 60 okMo_tape ?_)
          refine c_isTape (fun _ => ?_) (fun z => absurd (show 0 ≤ (2 : Int) ∧ (2 : Int) ≤ 5 by decide) z)
          refine c_in (fun _ => ?_) (fun z => absurd (show -1 ≤ s ∧ s ≤ 4 by omega) z)
          refine ite_f (show ¬ s < 0 by omega) (ite_f h3 (ite_f (show ¬ s < 0 by omega) (ite_t h4 ?_)))
          exact ⟨⟨-14, rfl, rfl⟩, hS⟩
        · refine Call_m (fun v h1 al1 q => ?_) (s_tapeY2 hS (s := s) (n := n) ⟨by omega, by omega⟩ ⟨by omega, by omega⟩ (fun z => absurd z (by omega)) n (fun _ => rfl))
          obtain ⟨rfl, q⟩ := q
          refine cof ocMo_tape rfl (XW_to [44] 60 okMo_tape ?_)
          refine c_isTape (fun _ => ?_) (fun z => absurd (show 0 ≤ (2 : Int) ∧ (2 : Int) ≤ 5 by decide) z)
          refine c_in (fun _ => ?_) (fun z => absurd (show -1 ≤ s ∧ s ≤ 4 by omega) z)
          refine ite_f (show ¬ s < 0 by omega) (ite_f h3 (ite_f (show ¬ s < 0 by omega) (ite_f h4 ?_)))
          exact q
    · refine cof ocMo_tape rfl (XW_to [44] 60 okMo_tape ?_)
      refine c_isTape (fun _ => ?_) (fun z => absurd (show 0 ≤ (2 : Int) ∧ (2 : Int) ≤ 5 by decide) z)
      refine c_in (fun h3 => absurd (show 0 ≤ s ∧ s ≤ 4 by omega) h2) (fun _ => ?_)
      exact ⟨⟨-2, rfl, rfl⟩, hS⟩
theorem s_itemZ2 {i v : Int} (hS : Sim h al) : XW g (d + 3) mBy_item (fun v1 h1 al1 => Call g (d + 4) yMo_item [xr 120, xi 2, xi i, xl v] h1 al1 (Ok2 v1)) 7 [some (xr 0), some (xi 2), some (xi i), some (xl v), none, some (xr 70)] [] h al := by
  obtain ⟨hW, hN, hI, hH, hT, hP, hC, hK, hV⟩ := id hS
  obtain ⟨⟨p1, p2, p3⟩, ⟨p4, p5, p6, p7⟩, p8⟩ := hP 2 (by decide)
  have p1 : h 70 1 = h 163 2 := p1
  have p2 : -1 ≤ h 163 2 := p2
  have p3 : h 163 2 ≤ 4 := p3
  have p4 : h 70 2 = h 164 2 := p4
  have p5 : 0 ≤ h 164 2 := p5
  have p6 : h 164 2 ≤ 60 := p6
  refine XW_to [] 60 okBy_item ?_
  refine ite_i (fun e => ?_) (fun e => ?_)
  · have e2 : h 70 1 < 0 := e
    refine cof ocMo_item rfl (XW_to [] 60 okMo_item ?_)
    obtain ⟨h, rfl⟩ := hW
    refine c_isTape (fun _ => ?_) (fun z => absurd (show 0 ≤ (2 : Int) ∧ (2 : Int) ≤ 5 by decide) z)
    refine ⟨⟨by decide, by show (2 : Int) < 6; decide⟩, ?_⟩
    refine ite_t (show wr h 163 2 < 0 by omega) ?_
    exact ⟨⟨-11, rfl, rfl⟩, hS⟩
  · have e2 : ¬ h 70 1 < 0 := e
    have ew : wI (h 164 2 - 1) = h 164 2 - 1 := wI_id (by omega)
    refine c_write2 hW (by omega) (by omega) (fun h1 => ?_) (fun h1 => ?_)
    · obtain ⟨k, hk, ek⟩ : ∃ k : Nat, k < 60 ∧ i = (k : Int) := ⟨i.toNat, by omega, by omega⟩
      subst ek
      have hW2 : Wd (uH h 71 ((k : Int)).toNat (narV (h 70 1) v)) := hW.upA rfl
      have eh := hW2.eq.symm
      rw [eh]
      refine c_Moitem (t := 2) (k := k) (by decide) (show 0 ≤ wr _ 163 2 ∧ wr _ 163 2 ≤ 4 from by rw [← eh]; show 0 ≤ h 163 2 ∧ h 163 2 ≤ 4; omega) (show (k : Int) < wr _ 164 2 from by rw [← eh]; show (k : Int) < h 164 2; omega) (show wr _ 164 2 ≤ 60 from by rw [← eh]; exact p6) ?_
      rw [← eh]
      refine ⟨⟨1, rfl, rfl⟩, ((hW.upA rfl).upA rfl), ((hN.up rfl).up rfl), ((hI.up rfl rfl).up rfl rfl), ((hH.up rfl rfl).up rfl rfl), ((hT.up rfl).up rfl), ?_, ((hC.up rfl).up rfl), ((hK.up rfl).up rfl), ((hV.up rfl).up rfl)⟩
      refine P0_of ?_ ?_ ?_ ?_ ?_ ?_
      · refine ⟨(hP 0 (by decide)).1, (hP 0 (by decide)).2.1, fun j hj => ?_⟩
        show h 67 j = uH (uH h 71 ((k : Int)).toNat (narV (h 70 1) v)) 165 (60 * 2 + k) (narV (h 163 2) v) 165 (60 * 0 + j)
        rw [uH_r, if_neg (by omega)]; exact (hP 0 (by decide)).2.2 j hj
      · refine ⟨(hP 1 (by decide)).1, (hP 1 (by decide)).2.1, fun j hj => ?_⟩
        show h 69 j = uH (uH h 71 ((k : Int)).toNat (narV (h 70 1) v)) 165 (60 * 2 + k) (narV (h 163 2) v) 165 (60 * 1 + j)
        rw [uH_r, if_neg (by omega)]; exact (hP 1 (by decide)).2.2 j hj
      · refine ⟨⟨p1, p2, p3⟩, ⟨p4, p5, p6, p7⟩, fun j hj => ?_⟩
        show uH h 71 ((k : Int)).toNat (narV (h 70 1) v) 71 j = uH (uH h 71 ((k : Int)).toNat (narV (h 70 1) v)) 165 (60 * 2 + k) (narV (h 163 2) v) 165 (60 * 2 + j)
        rw [uH_r, uH_r, p1]
        by_cases ej : j = k
        · rw [if_pos (by omega), if_pos (by omega)]
        · rw [if_neg (by omega), if_neg (by omega)]; exact p8 j hj
      · refine ⟨(hP 3 (by decide)).1, (hP 3 (by decide)).2.1, fun j hj => ?_⟩
        show h 73 j = uH (uH h 71 ((k : Int)).toNat (narV (h 70 1) v)) 165 (60 * 2 + k) (narV (h 163 2) v) 165 (60 * 3 + j)
        rw [uH_r, if_neg (by omega)]; exact (hP 3 (by decide)).2.2 j hj
      · refine ⟨(hP 4 (by decide)).1, (hP 4 (by decide)).2.1, fun j hj => ?_⟩
        show h 75 j = uH (uH h 71 ((k : Int)).toNat (narV (h 70 1) v)) 165 (60 * 2 + k) (narV (h 163 2) v) 165 (60 * 4 + j)
        rw [uH_r, if_neg (by omega)]; exact (hP 4 (by decide)).2.2 j hj
      · refine ⟨(hP 5 (by decide)).1, (hP 5 (by decide)).2.1, fun j hj => ?_⟩
        show h 77 j = uH (uH h 71 ((k : Int)).toNat (narV (h 70 1) v)) 165 (60 * 2 + k) (narV (h 163 2) v) 165 (60 * 5 + j)
        rw [uH_r, if_neg (by omega)]; exact (hP 5 (by decide)).2.2 j hj
    · refine cof ocMo_item rfl (XW_to [] 60 okMo_item ?_)
      obtain ⟨h, rfl⟩ := hW
      refine c_isTape (fun _ => ?_) (fun z => absurd (show 0 ≤ (2 : Int) ∧ (2 : Int) ≤ 5 by decide) z)
      refine ⟨⟨by decide, by show (2 : Int) < 6; decide⟩, ?_⟩
      refine ite_f (show ¬ wr h 163 2 < 0 by omega) ?_
      refine ⟨⟨by decide, by show (2 : Int) < 6; decide⟩, ?_⟩
      refine c_in (fun z => ?_) (fun _ => ⟨⟨-13, rfl, rfl⟩, hS⟩)
      have z2 : 0 ≤ i ∧ i ≤ wI (wr h 164 2 - 1) := z
      rw [ew] at z2
      exact absurd (show 0 ≤ i ∧ i < wr h 70 2 by omega) h1
theorem s_readZ2 {i : Int} (hS : Sim h al) : XW g (d + 3) mBy_read (fun v1 h1 al1 => Call g (d + 4) yMo_read [xr 120, xi 2, xi i] h1 al1 (Ok2L v1)) 6 [some (xr 0), some (xi 2), some (xi i), some (xr 70)] [] h al := by
  obtain ⟨hW, hN, hI, hH, hT, hP, hC, hK, hV⟩ := id hS
  obtain ⟨⟨p1, p2, p3⟩, ⟨p4, p5, p6, p7⟩, p8⟩ := hP 2 (by decide)
  have p1 : h 70 1 = h 163 2 := p1
  have p4 : h 70 2 = h 164 2 := p4
  have p5 : 0 ≤ h 164 2 := p5
  have p6 : h 164 2 ≤ 60 := p6
  have hW0 := hW
  obtain ⟨h, rfl⟩ := hW
  have ew : wI (wr h 164 2 - 1) = wr h 164 2 - 1 := wI_id (by omega)
  refine XW_to [] 60 okBy_read ?_
  refine ite_i (fun e => ?_) (fun e => ?_)
  · have e2 : wr h 70 1 < 0 := e
    refine cof ocMo_read rfl (XW_to [] 60 okMo_read ?_)
    refine c_isTape (fun _ => ?_) (fun z => absurd (show 0 ≤ (2 : Int) ∧ (2 : Int) ≤ 5 by decide) z)
    refine ⟨⟨by decide, by show (2 : Int) < 6; decide⟩, ?_⟩
    refine ite_t (show wr h 163 2 < 0 by omega) ?_
    exact ⟨⟨_, rfl, rfl⟩, hS⟩
  · have e2 : ¬ wr h 70 1 < 0 := e
    refine c_within (fun h1 => ?_) (fun h1 => ?_)
    · have h2 : 0 ≤ i ∧ i ≤ wI (wr h 70 2 - 1) := h1
      rw [p4, ew] at h2
      obtain ⟨k, hk, ek⟩ : ∃ k : Nat, k < 60 ∧ i = (k : Int) := ⟨i.toNat, by omega, by omega⟩
      subst ek
      refine c_itemAt2 hW0 (by omega) ?_
      refine c_Moread (t := 2) (k := k) (by decide) (show 0 ≤ wr h 163 2 by omega) (show (k : Int) < wr h 164 2 by omega) (show wr h 164 2 ≤ 60 by omega) ?_
      refine ⟨⟨wr h 71 k, rfl, congrArg (fun z => some (xl z)) (show wr h 165 (60 * 2 + k) = wr h 71 k from ?_)⟩, hS⟩
      exact (p8 k hk).symm
    · refine cof ocMo_read rfl (XW_to [] 60 okMo_read ?_)
      refine c_isTape (fun _ => ?_) (fun z => absurd (show 0 ≤ (2 : Int) ∧ (2 : Int) ≤ 5 by decide) z)
      refine ⟨⟨by decide, by show (2 : Int) < 6; decide⟩, ?_⟩
      refine ite_f (show ¬ wr h 163 2 < 0 by omega) ?_
      refine ⟨⟨by decide, by show (2 : Int) < 6; decide⟩, ?_⟩
      refine c_in (fun z => ?_) (fun _ => ⟨⟨_, rfl, rfl⟩, hS⟩)
      have z2 : 0 ≤ i ∧ i ≤ wI (wr h 164 2 - 1) := z
      rw [← p4] at z2
      exact absurd z2 h1
theorem s_tapeZ3 {s n : Int} (hS : Sim h al) : XW g (d + 3) mBy_tape (fun v h1 al1 => Call g (d + 4) yMo_tape [xr 120, xi 3, xi s, xi n] h1 al1 (Ok2 v)) 7 [some (xr 0), some (xi 3), some (xi s), some (xi n), some (xr 72)] [] h al := by
  refine XW_to [] 60 okBy_tape ?_
  refine ite_i (fun e => ?_) (fun e => ?_)
  · subst e
    refine Call_m (fun v h1 al1 q => ?_) (s_tapeY3 hS ⟨by decide, by decide⟩ ⟨by decide, by decide⟩ (fun _ => rfl) n (fun q => absurd q (by decide)))
    obtain ⟨rfl, q⟩ := q
    refine cof ocMo_tape rfl (XW_to [44] 60 okMo_tape ?_)
    refine c_isTape (fun _ => ?_) (fun z => absurd (show 0 ≤ (3 : Int) ∧ (3 : Int) ≤ 5 by decide) z)
    refine c_in (fun _ => ?_) (fun z => absurd (show -1 ≤ (-1 : Int) ∧ (-1 : Int) ≤ 4 by decide) z)
    exact q
  · refine c_within (fun h2 => ?_) (fun h2 => ?_)
    · refine ite_i (fun h3 => ?_) (fun h3 => ?_)
      · refine cof ocMo_tape rfl (XW_to [44] 60 okMo_tape ?_)
        refine c_isTape (fun _ => ?_) (fun z => absurd (show 0 ≤ (3 : Int) ∧ (3 : Int) ≤ 5 by decide) z)
        refine c_in (fun _ => ?_) (fun z => absurd (show -1 ≤ s ∧ s ≤ 4 by omega) z)
        refine ite_f (show ¬ s < 0 by omega) (ite_t h3 ?_)
        exact ⟨⟨-2, rfl, rfl⟩, hS⟩
      · refine ite_i (fun h4 => ?_) (fun h4 => ?_)
        · refine cof ocMo_tape rfl (XW_to [44] 60 okMo_tape ?_)
          refine c_isTape (fun _ => ?_) (fun z => absurd (show 0 ≤ (3 : Int) ∧ (3 : Int) ≤ 5 by decide) z)
          refine c_in (fun _ => ?_) (fun z => absurd (show -1 ≤ s ∧ s ≤ 4 by omega) z)
          refine ite_f (show ¬ s < 0 by omega) (ite_f h3 (ite_f (show ¬ s < 0 by omega) (ite_t h4 ?_)))
          exact ⟨⟨-14, rfl, rfl⟩, hS⟩
        · refine Call_m (fun v h1 al1 q => ?_) (s_tapeY3 hS (s := s) (n := n) ⟨by omega, by omega⟩ ⟨by omega, by omega⟩ (fun z => absurd z (by omega)) n (fun _ => rfl))
          obtain ⟨rfl, q⟩ := q
          refine cof ocMo_tape rfl (XW_to [44] 60 okMo_tape ?_)
          refine c_isTape (fun _ => ?_) (fun z => absurd (show 0 ≤ (3 : Int) ∧ (3 : Int) ≤ 5 by decide) z)
          refine c_in (fun _ => ?_) (fun z => absurd (show -1 ≤ s ∧ s ≤ 4 by omega) z)
          refine ite_f (show ¬ s < 0 by omega) (ite_f h3 (ite_f (show ¬ s < 0 by omega) (ite_f h4 ?_)))
          exact q
    · refine cof ocMo_tape rfl (XW_to [44] 60 okMo_tape ?_)
      refine c_isTape (fun _ => ?_) (fun z => absurd (show 0 ≤ (3 : Int) ∧ (3 : Int) ≤ 5 by decide) z)
      refine c_in (fun h3 => absurd (show 0 ≤ s ∧ s ≤ 4 by omega) h2) (fun _ => ?_)
      exact ⟨⟨-2, rfl, rfl⟩, hS⟩
theorem s_itemZ3 {i v : Int} (hS : Sim h al) : XW g (d + 3) mBy_item (fun v1 h1 al1 => Call g (d + 4) yMo_item [xr 120, xi 3, xi i, xl v] h1 al1 (Ok2 v1)) 7 [some (xr 0), some (xi 3), some (xi i), some (xl v), none, some (xr 72)] [] h al := by
  obtain ⟨hW, hN, hI, hH, hT, hP, hC, hK, hV⟩ := id hS
  obtain ⟨⟨p1, p2, p3⟩, ⟨p4, p5, p6, p7⟩, p8⟩ := hP 3 (by decide)
  have p1 : h 72 1 = h 163 3 := p1
  have p2 : -1 ≤ h 163 3 := p2
  have p3 : h 163 3 ≤ 4 := p3
  have p4 : h 72 2 = h 164 3 := p4
  have p5 : 0 ≤ h 164 3 := p5
  have p6 : h 164 3 ≤ 60 := p6
  refine XW_to [] 60 okBy_item ?_
  refine ite_i (fun e => ?_) (fun e => ?_)
  · have e2 : h 72 1 < 0 := e
    refine cof ocMo_item rfl (XW_to [] 60 okMo_item ?_)
    obtain ⟨h, rfl⟩ := hW
    refine c_isTape (fun _ => ?_) (fun z => absurd (show 0 ≤ (3 : Int) ∧ (3 : Int) ≤ 5 by decide) z)
    refine ⟨⟨by decide, by show (3 : Int) < 6; decide⟩, ?_⟩
    refine ite_t (show wr h 163 3 < 0 by omega) ?_
    exact ⟨⟨-11, rfl, rfl⟩, hS⟩
  · have e2 : ¬ h 72 1 < 0 := e
    have ew : wI (h 164 3 - 1) = h 164 3 - 1 := wI_id (by omega)
    refine c_write3 hW (by omega) (by omega) (fun h1 => ?_) (fun h1 => ?_)
    · obtain ⟨k, hk, ek⟩ : ∃ k : Nat, k < 60 ∧ i = (k : Int) := ⟨i.toNat, by omega, by omega⟩
      subst ek
      have hW2 : Wd (uH h 73 ((k : Int)).toNat (narV (h 72 1) v)) := hW.upA rfl
      have eh := hW2.eq.symm
      rw [eh]
      refine c_Moitem (t := 3) (k := k) (by decide) (show 0 ≤ wr _ 163 3 ∧ wr _ 163 3 ≤ 4 from by rw [← eh]; show 0 ≤ h 163 3 ∧ h 163 3 ≤ 4; omega) (show (k : Int) < wr _ 164 3 from by rw [← eh]; show (k : Int) < h 164 3; omega) (show wr _ 164 3 ≤ 60 from by rw [← eh]; exact p6) ?_
      rw [← eh]
      refine ⟨⟨1, rfl, rfl⟩, ((hW.upA rfl).upA rfl), ((hN.up rfl).up rfl), ((hI.up rfl rfl).up rfl rfl), ((hH.up rfl rfl).up rfl rfl), ((hT.up rfl).up rfl), ?_, ((hC.up rfl).up rfl), ((hK.up rfl).up rfl), ((hV.up rfl).up rfl)⟩
      refine P0_of ?_ ?_ ?_ ?_ ?_ ?_
      · refine ⟨(hP 0 (by decide)).1, (hP 0 (by decide)).2.1, fun j hj => ?_⟩
        show h 67 j = uH (uH h 73 ((k : Int)).toNat (narV (h 72 1) v)) 165 (60 * 3 + k) (narV (h 163 3) v) 165 (60 * 0 + j)
        rw [uH_r, if_neg (by omega)]; exact (hP 0 (by decide)).2.2 j hj
      · refine ⟨(hP 1 (by decide)).1, (hP 1 (by decide)).2.1, fun j hj => ?_⟩
        show h 69 j = uH (uH h 73 ((k : Int)).toNat (narV (h 72 1) v)) 165 (60 * 3 + k) (narV (h 163 3) v) 165 (60 * 1 + j)
        rw [uH_r, if_neg (by omega)]; exact (hP 1 (by decide)).2.2 j hj
      · refine ⟨(hP 2 (by decide)).1, (hP 2 (by decide)).2.1, fun j hj => ?_⟩
        show h 71 j = uH (uH h 73 ((k : Int)).toNat (narV (h 72 1) v)) 165 (60 * 3 + k) (narV (h 163 3) v) 165 (60 * 2 + j)
        rw [uH_r, if_neg (by omega)]; exact (hP 2 (by decide)).2.2 j hj
      · refine ⟨⟨p1, p2, p3⟩, ⟨p4, p5, p6, p7⟩, fun j hj => ?_⟩
        show uH h 73 ((k : Int)).toNat (narV (h 72 1) v) 73 j = uH (uH h 73 ((k : Int)).toNat (narV (h 72 1) v)) 165 (60 * 3 + k) (narV (h 163 3) v) 165 (60 * 3 + j)
        rw [uH_r, uH_r, p1]
        by_cases ej : j = k
        · rw [if_pos (by omega), if_pos (by omega)]
        · rw [if_neg (by omega), if_neg (by omega)]; exact p8 j hj
      · refine ⟨(hP 4 (by decide)).1, (hP 4 (by decide)).2.1, fun j hj => ?_⟩
        show h 75 j = uH (uH h 73 ((k : Int)).toNat (narV (h 72 1) v)) 165 (60 * 3 + k) (narV (h 163 3) v) 165 (60 * 4 + j)
        rw [uH_r, if_neg (by omega)]; exact (hP 4 (by decide)).2.2 j hj
      · refine ⟨(hP 5 (by decide)).1, (hP 5 (by decide)).2.1, fun j hj => ?_⟩
        show h 77 j = uH (uH h 73 ((k : Int)).toNat (narV (h 72 1) v)) 165 (60 * 3 + k) (narV (h 163 3) v) 165 (60 * 5 + j)
        rw [uH_r, if_neg (by omega)]; exact (hP 5 (by decide)).2.2 j hj
    · refine cof ocMo_item rfl (XW_to [] 60 okMo_item ?_)
      obtain ⟨h, rfl⟩ := hW
      refine c_isTape (fun _ => ?_) (fun z => absurd (show 0 ≤ (3 : Int) ∧ (3 : Int) ≤ 5 by decide) z)
      refine ⟨⟨by decide, by show (3 : Int) < 6; decide⟩, ?_⟩
      refine ite_f (show ¬ wr h 163 3 < 0 by omega) ?_
      refine ⟨⟨by decide, by show (3 : Int) < 6; decide⟩, ?_⟩
      refine c_in (fun z => ?_) (fun _ => ⟨⟨-13, rfl, rfl⟩, hS⟩)
      have z2 : 0 ≤ i ∧ i ≤ wI (wr h 164 3 - 1) := z
      rw [ew] at z2
      exact absurd (show 0 ≤ i ∧ i < wr h 72 2 by omega) h1
theorem s_readZ3 {i : Int} (hS : Sim h al) : XW g (d + 3) mBy_read (fun v1 h1 al1 => Call g (d + 4) yMo_read [xr 120, xi 3, xi i] h1 al1 (Ok2L v1)) 6 [some (xr 0), some (xi 3), some (xi i), some (xr 72)] [] h al := by
  obtain ⟨hW, hN, hI, hH, hT, hP, hC, hK, hV⟩ := id hS
  obtain ⟨⟨p1, p2, p3⟩, ⟨p4, p5, p6, p7⟩, p8⟩ := hP 3 (by decide)
  have p1 : h 72 1 = h 163 3 := p1
  have p4 : h 72 2 = h 164 3 := p4
  have p5 : 0 ≤ h 164 3 := p5
  have p6 : h 164 3 ≤ 60 := p6
  have hW0 := hW
  obtain ⟨h, rfl⟩ := hW
  have ew : wI (wr h 164 3 - 1) = wr h 164 3 - 1 := wI_id (by omega)
  refine XW_to [] 60 okBy_read ?_
  refine ite_i (fun e => ?_) (fun e => ?_)
  · have e2 : wr h 72 1 < 0 := e
    refine cof ocMo_read rfl (XW_to [] 60 okMo_read ?_)
    refine c_isTape (fun _ => ?_) (fun z => absurd (show 0 ≤ (3 : Int) ∧ (3 : Int) ≤ 5 by decide) z)
    refine ⟨⟨by decide, by show (3 : Int) < 6; decide⟩, ?_⟩
    refine ite_t (show wr h 163 3 < 0 by omega) ?_
    exact ⟨⟨_, rfl, rfl⟩, hS⟩
  · have e2 : ¬ wr h 72 1 < 0 := e
    refine c_within (fun h1 => ?_) (fun h1 => ?_)
    · have h2 : 0 ≤ i ∧ i ≤ wI (wr h 72 2 - 1) := h1
      rw [p4, ew] at h2
      obtain ⟨k, hk, ek⟩ : ∃ k : Nat, k < 60 ∧ i = (k : Int) := ⟨i.toNat, by omega, by omega⟩
      subst ek
      refine c_itemAt3 hW0 (by omega) ?_
      refine c_Moread (t := 3) (k := k) (by decide) (show 0 ≤ wr h 163 3 by omega) (show (k : Int) < wr h 164 3 by omega) (show wr h 164 3 ≤ 60 by omega) ?_
      refine ⟨⟨wr h 73 k, rfl, congrArg (fun z => some (xl z)) (show wr h 165 (60 * 3 + k) = wr h 73 k from ?_)⟩, hS⟩
      exact (p8 k hk).symm
    · refine cof ocMo_read rfl (XW_to [] 60 okMo_read ?_)
      refine c_isTape (fun _ => ?_) (fun z => absurd (show 0 ≤ (3 : Int) ∧ (3 : Int) ≤ 5 by decide) z)
      refine ⟨⟨by decide, by show (3 : Int) < 6; decide⟩, ?_⟩
      refine ite_f (show ¬ wr h 163 3 < 0 by omega) ?_
      refine ⟨⟨by decide, by show (3 : Int) < 6; decide⟩, ?_⟩
      refine c_in (fun z => ?_) (fun _ => ⟨⟨_, rfl, rfl⟩, hS⟩)
      have z2 : 0 ≤ i ∧ i ≤ wI (wr h 164 3 - 1) := z
      rw [← p4] at z2
      exact absurd z2 h1
theorem s_tapeZ4 {s n : Int} (hS : Sim h al) : XW g (d + 3) mBy_tape (fun v h1 al1 => Call g (d + 4) yMo_tape [xr 120, xi 4, xi s, xi n] h1 al1 (Ok2 v)) 7 [some (xr 0), some (xi 4), some (xi s), some (xi n), some (xr 74)] [] h al := by
  refine XW_to [] 60 okBy_tape ?_
  refine ite_i (fun e => ?_) (fun e => ?_)
  · subst e
    refine Call_m (fun v h1 al1 q => ?_) (s_tapeY4 hS ⟨by decide, by decide⟩ ⟨by decide, by decide⟩ (fun _ => rfl) n (fun q => absurd q (by decide)))
    obtain ⟨rfl, q⟩ := q
    refine cof ocMo_tape rfl (XW_to [44] 60 okMo_tape ?_)
    refine c_isTape (fun _ => ?_) (fun z => absurd (show 0 ≤ (4 : Int) ∧ (4 : Int) ≤ 5 by decide) z)
    refine c_in (fun _ => ?_) (fun z => absurd (show -1 ≤ (-1 : Int) ∧ (-1 : Int) ≤ 4 by decide) z)
    exact q
  · refine c_within (fun h2 => ?_) (fun h2 => ?_)
    · refine ite_i (fun h3 => ?_) (fun h3 => ?_)
      · refine cof ocMo_tape rfl (XW_to [44] 60 okMo_tape ?_)
        refine c_isTape (fun _ => ?_) (fun z => absurd (show 0 ≤ (4 : Int) ∧ (4 : Int) ≤ 5 by decide) z)
        refine c_in (fun _ => ?_) (fun z => absurd (show -1 ≤ s ∧ s ≤ 4 by omega) z)
        refine ite_f (show ¬ s < 0 by omega) (ite_t h3 ?_)
        exact ⟨⟨-2, rfl, rfl⟩, hS⟩
      · refine ite_i (fun h4 => ?_) (fun h4 => ?_)
        · refine cof ocMo_tape rfl (XW_to [44] 60 okMo_tape ?_)
          refine c_isTape (fun _ => ?_) (fun z => absurd (show 0 ≤ (4 : Int) ∧ (4 : Int) ≤ 5 by decide) z)
          refine c_in (fun _ => ?_) (fun z => absurd (show -1 ≤ s ∧ s ≤ 4 by omega) z)
          refine ite_f (show ¬ s < 0 by omega) (ite_f h3 (ite_f (show ¬ s < 0 by omega) (ite_t h4 ?_)))
          exact ⟨⟨-14, rfl, rfl⟩, hS⟩
        · refine Call_m (fun v h1 al1 q => ?_) (s_tapeY4 hS (s := s) (n := n) ⟨by omega, by omega⟩ ⟨by omega, by omega⟩ (fun z => absurd z (by omega)) n (fun _ => rfl))
          obtain ⟨rfl, q⟩ := q
          refine cof ocMo_tape rfl (XW_to [44] 60 okMo_tape ?_)
          refine c_isTape (fun _ => ?_) (fun z => absurd (show 0 ≤ (4 : Int) ∧ (4 : Int) ≤ 5 by decide) z)
          refine c_in (fun _ => ?_) (fun z => absurd (show -1 ≤ s ∧ s ≤ 4 by omega) z)
          refine ite_f (show ¬ s < 0 by omega) (ite_f h3 (ite_f (show ¬ s < 0 by omega) (ite_f h4 ?_)))
          exact q
    · refine cof ocMo_tape rfl (XW_to [44] 60 okMo_tape ?_)
      refine c_isTape (fun _ => ?_) (fun z => absurd (show 0 ≤ (4 : Int) ∧ (4 : Int) ≤ 5 by decide) z)
      refine c_in (fun h3 => absurd (show 0 ≤ s ∧ s ≤ 4 by omega) h2) (fun _ => ?_)
      exact ⟨⟨-2, rfl, rfl⟩, hS⟩
theorem s_itemZ4 {i v : Int} (hS : Sim h al) : XW g (d + 3) mBy_item (fun v1 h1 al1 => Call g (d + 4) yMo_item [xr 120, xi 4, xi i, xl v] h1 al1 (Ok2 v1)) 7 [some (xr 0), some (xi 4), some (xi i), some (xl v), none, some (xr 74)] [] h al := by
  obtain ⟨hW, hN, hI, hH, hT, hP, hC, hK, hV⟩ := id hS
  obtain ⟨⟨p1, p2, p3⟩, ⟨p4, p5, p6, p7⟩, p8⟩ := hP 4 (by decide)
  have p1 : h 74 1 = h 163 4 := p1
  have p2 : -1 ≤ h 163 4 := p2
  have p3 : h 163 4 ≤ 4 := p3
  have p4 : h 74 2 = h 164 4 := p4
  have p5 : 0 ≤ h 164 4 := p5
  have p6 : h 164 4 ≤ 60 := p6
  refine XW_to [] 60 okBy_item ?_
  refine ite_i (fun e => ?_) (fun e => ?_)
  · have e2 : h 74 1 < 0 := e
    refine cof ocMo_item rfl (XW_to [] 60 okMo_item ?_)
    obtain ⟨h, rfl⟩ := hW
    refine c_isTape (fun _ => ?_) (fun z => absurd (show 0 ≤ (4 : Int) ∧ (4 : Int) ≤ 5 by decide) z)
    refine ⟨⟨by decide, by show (4 : Int) < 6; decide⟩, ?_⟩
    refine ite_t (show wr h 163 4 < 0 by omega) ?_
    exact ⟨⟨-11, rfl, rfl⟩, hS⟩
  · have e2 : ¬ h 74 1 < 0 := e
    have ew : wI (h 164 4 - 1) = h 164 4 - 1 := wI_id (by omega)
    refine c_write4 hW (by omega) (by omega) (fun h1 => ?_) (fun h1 => ?_)
    · obtain ⟨k, hk, ek⟩ : ∃ k : Nat, k < 60 ∧ i = (k : Int) := ⟨i.toNat, by omega, by omega⟩
      subst ek
      have hW2 : Wd (uH h 75 ((k : Int)).toNat (narV (h 74 1) v)) := hW.upA rfl
      have eh := hW2.eq.symm
      rw [eh]
      refine c_Moitem (t := 4) (k := k) (by decide) (show 0 ≤ wr _ 163 4 ∧ wr _ 163 4 ≤ 4 from by rw [← eh]; show 0 ≤ h 163 4 ∧ h 163 4 ≤ 4; omega) (show (k : Int) < wr _ 164 4 from by rw [← eh]; show (k : Int) < h 164 4; omega) (show wr _ 164 4 ≤ 60 from by rw [← eh]; exact p6) ?_
      rw [← eh]
      refine ⟨⟨1, rfl, rfl⟩, ((hW.upA rfl).upA rfl), ((hN.up rfl).up rfl), ((hI.up rfl rfl).up rfl rfl), ((hH.up rfl rfl).up rfl rfl), ((hT.up rfl).up rfl), ?_, ((hC.up rfl).up rfl), ((hK.up rfl).up rfl), ((hV.up rfl).up rfl)⟩
      refine P0_of ?_ ?_ ?_ ?_ ?_ ?_
      · refine ⟨(hP 0 (by decide)).1, (hP 0 (by decide)).2.1, fun j hj => ?_⟩
        show h 67 j = uH (uH h 75 ((k : Int)).toNat (narV (h 74 1) v)) 165 (60 * 4 + k) (narV (h 163 4) v) 165 (60 * 0 + j)
        rw [uH_r, if_neg (by omega)]; exact (hP 0 (by decide)).2.2 j hj
      · refine ⟨(hP 1 (by decide)).1, (hP 1 (by decide)).2.1, fun j hj => ?_⟩
        show h 69 j = uH (uH h 75 ((k : Int)).toNat (narV (h 74 1) v)) 165 (60 * 4 + k) (narV (h 163 4) v) 165 (60 * 1 + j)
        rw [uH_r, if_neg (by omega)]; exact (hP 1 (by decide)).2.2 j hj
      · refine ⟨(hP 2 (by decide)).1, (hP 2 (by decide)).2.1, fun j hj => ?_⟩
        show h 71 j = uH (uH h 75 ((k : Int)).toNat (narV (h 74 1) v)) 165 (60 * 4 + k) (narV (h 163 4) v) 165 (60 * 2 + j)
        rw [uH_r, if_neg (by omega)]; exact (hP 2 (by decide)).2.2 j hj
      · refine ⟨(hP 3 (by decide)).1, (hP 3 (by decide)).2.1, fun j hj => ?_⟩
        show h 73 j = uH (uH h 75 ((k : Int)).toNat (narV (h 74 1) v)) 165 (60 * 4 + k) (narV (h 163 4) v) 165 (60 * 3 + j)
        rw [uH_r, if_neg (by omega)]; exact (hP 3 (by decide)).2.2 j hj
      · refine ⟨⟨p1, p2, p3⟩, ⟨p4, p5, p6, p7⟩, fun j hj => ?_⟩
        show uH h 75 ((k : Int)).toNat (narV (h 74 1) v) 75 j = uH (uH h 75 ((k : Int)).toNat (narV (h 74 1) v)) 165 (60 * 4 + k) (narV (h 163 4) v) 165 (60 * 4 + j)
        rw [uH_r, uH_r, p1]
        by_cases ej : j = k
        · rw [if_pos (by omega), if_pos (by omega)]
        · rw [if_neg (by omega), if_neg (by omega)]; exact p8 j hj
      · refine ⟨(hP 5 (by decide)).1, (hP 5 (by decide)).2.1, fun j hj => ?_⟩
        show h 77 j = uH (uH h 75 ((k : Int)).toNat (narV (h 74 1) v)) 165 (60 * 4 + k) (narV (h 163 4) v) 165 (60 * 5 + j)
        rw [uH_r, if_neg (by omega)]; exact (hP 5 (by decide)).2.2 j hj
    · refine cof ocMo_item rfl (XW_to [] 60 okMo_item ?_)
      obtain ⟨h, rfl⟩ := hW
      refine c_isTape (fun _ => ?_) (fun z => absurd (show 0 ≤ (4 : Int) ∧ (4 : Int) ≤ 5 by decide) z)
      refine ⟨⟨by decide, by show (4 : Int) < 6; decide⟩, ?_⟩
      refine ite_f (show ¬ wr h 163 4 < 0 by omega) ?_
      refine ⟨⟨by decide, by show (4 : Int) < 6; decide⟩, ?_⟩
      refine c_in (fun z => ?_) (fun _ => ⟨⟨-13, rfl, rfl⟩, hS⟩)
      have z2 : 0 ≤ i ∧ i ≤ wI (wr h 164 4 - 1) := z
      rw [ew] at z2
      exact absurd (show 0 ≤ i ∧ i < wr h 74 2 by omega) h1
theorem s_readZ4 {i : Int} (hS : Sim h al) : XW g (d + 3) mBy_read (fun v1 h1 al1 => Call g (d + 4) yMo_read [xr 120, xi 4, xi i] h1 al1 (Ok2L v1)) 6 [some (xr 0), some (xi 4), some (xi i), some (xr 74)] [] h al := by
  obtain ⟨hW, hN, hI, hH, hT, hP, hC, hK, hV⟩ := id hS
  obtain ⟨⟨p1, p2, p3⟩, ⟨p4, p5, p6, p7⟩, p8⟩ := hP 4 (by decide)
  have p1 : h 74 1 = h 163 4 := p1
  have p4 : h 74 2 = h 164 4 := p4
  have p5 : 0 ≤ h 164 4 := p5
  have p6 : h 164 4 ≤ 60 := p6
  have hW0 := hW
  obtain ⟨h, rfl⟩ := hW
  have ew : wI (wr h 164 4 - 1) = wr h 164 4 - 1 := wI_id (by omega)
  refine XW_to [] 60 okBy_read ?_
  refine ite_i (fun e => ?_) (fun e => ?_)
  · have e2 : wr h 74 1 < 0 := e
    refine cof ocMo_read rfl (XW_to [] 60 okMo_read ?_)
    refine c_isTape (fun _ => ?_) (fun z => absurd (show 0 ≤ (4 : Int) ∧ (4 : Int) ≤ 5 by decide) z)
    refine ⟨⟨by decide, by show (4 : Int) < 6; decide⟩, ?_⟩
    refine ite_t (show wr h 163 4 < 0 by omega) ?_
    exact ⟨⟨_, rfl, rfl⟩, hS⟩
  · have e2 : ¬ wr h 74 1 < 0 := e
    refine c_within (fun h1 => ?_) (fun h1 => ?_)
    · have h2 : 0 ≤ i ∧ i ≤ wI (wr h 74 2 - 1) := h1
      rw [p4, ew] at h2
      obtain ⟨k, hk, ek⟩ : ∃ k : Nat, k < 60 ∧ i = (k : Int) := ⟨i.toNat, by omega, by omega⟩
      subst ek
      refine c_itemAt4 hW0 (by omega) ?_
      refine c_Moread (t := 4) (k := k) (by decide) (show 0 ≤ wr h 163 4 by omega) (show (k : Int) < wr h 164 4 by omega) (show wr h 164 4 ≤ 60 by omega) ?_
      refine ⟨⟨wr h 75 k, rfl, congrArg (fun z => some (xl z)) (show wr h 165 (60 * 4 + k) = wr h 75 k from ?_)⟩, hS⟩
      exact (p8 k hk).symm
    · refine cof ocMo_read rfl (XW_to [] 60 okMo_read ?_)
      refine c_isTape (fun _ => ?_) (fun z => absurd (show 0 ≤ (4 : Int) ∧ (4 : Int) ≤ 5 by decide) z)
      refine ⟨⟨by decide, by show (4 : Int) < 6; decide⟩, ?_⟩
      refine ite_f (show ¬ wr h 163 4 < 0 by omega) ?_
      refine ⟨⟨by decide, by show (4 : Int) < 6; decide⟩, ?_⟩
      refine c_in (fun z => ?_) (fun _ => ⟨⟨_, rfl, rfl⟩, hS⟩)
      have z2 : 0 ≤ i ∧ i ≤ wI (wr h 164 4 - 1) := z
      rw [← p4] at z2
      exact absurd z2 h1
theorem s_tapeZ5 {s n : Int} (hS : Sim h al) : XW g (d + 3) mBy_tape (fun v h1 al1 => Call g (d + 4) yMo_tape [xr 120, xi 5, xi s, xi n] h1 al1 (Ok2 v)) 7 [some (xr 0), some (xi 5), some (xi s), some (xi n), some (xr 76)] [] h al := by
  refine XW_to [] 60 okBy_tape ?_
  refine ite_i (fun e => ?_) (fun e => ?_)
  · subst e
    refine Call_m (fun v h1 al1 q => ?_) (s_tapeY5 hS ⟨by decide, by decide⟩ ⟨by decide, by decide⟩ (fun _ => rfl) n (fun q => absurd q (by decide)))
    obtain ⟨rfl, q⟩ := q
    refine cof ocMo_tape rfl (XW_to [44] 60 okMo_tape ?_)
    refine c_isTape (fun _ => ?_) (fun z => absurd (show 0 ≤ (5 : Int) ∧ (5 : Int) ≤ 5 by decide) z)
    refine c_in (fun _ => ?_) (fun z => absurd (show -1 ≤ (-1 : Int) ∧ (-1 : Int) ≤ 4 by decide) z)
    exact q
  · refine c_within (fun h2 => ?_) (fun h2 => ?_)
    · refine ite_i (fun h3 => ?_) (fun h3 => ?_)
      · refine cof ocMo_tape rfl (XW_to [44] 60 okMo_tape ?_)
        refine c_isTape (fun _ => ?_) (fun z => absurd (show 0 ≤ (5 : Int) ∧ (5 : Int) ≤ 5 by decide) z)
        refine c_in (fun _ => ?_) (fun z => absurd (show -1 ≤ s ∧ s ≤ 4 by omega) z)
        refine ite_f (show ¬ s < 0 by omega) (ite_t h3 ?_)
        exact ⟨⟨-2, rfl, rfl⟩, hS⟩
      · refine ite_i (fun h4 => ?_) (fun h4 => ?_)
        · refine cof ocMo_tape rfl (XW_to [44] 60 okMo_tape ?_)
          refine c_isTape (fun _ => ?_) (fun z => absurd (show 0 ≤ (5 : Int) ∧ (5 : Int) ≤ 5 by decide) z)
          refine c_in (fun _ => ?_) (fun z => absurd (show -1 ≤ s ∧ s ≤ 4 by omega) z)
          refine ite_f (show ¬ s < 0 by omega) (ite_f h3 (ite_f (show ¬ s < 0 by omega) (ite_t h4 ?_)))
          exact ⟨⟨-14, rfl, rfl⟩, hS⟩
        · refine Call_m (fun v h1 al1 q => ?_) (s_tapeY5 hS (s := s) (n := n) ⟨by omega, by omega⟩ ⟨by omega, by omega⟩ (fun z => absurd z (by omega)) n (fun _ => rfl))
          obtain ⟨rfl, q⟩ := q
          refine cof ocMo_tape rfl (XW_to [44] 60 okMo_tape ?_)
          refine c_isTape (fun _ => ?_) (fun z => absurd (show 0 ≤ (5 : Int) ∧ (5 : Int) ≤ 5 by decide) z)
          refine c_in (fun _ => ?_) (fun z => absurd (show -1 ≤ s ∧ s ≤ 4 by omega) z)
          refine ite_f (show ¬ s < 0 by omega) (ite_f h3 (ite_f (show ¬ s < 0 by omega) (ite_f h4 ?_)))
          exact q
    · refine cof ocMo_tape rfl (XW_to [44] 60 okMo_tape ?_)
      refine c_isTape (fun _ => ?_) (fun z => absurd (show 0 ≤ (5 : Int) ∧ (5 : Int) ≤ 5 by decide) z)
      refine c_in (fun h3 => absurd (show 0 ≤ s ∧ s ≤ 4 by omega) h2) (fun _ => ?_)
      exact ⟨⟨-2, rfl, rfl⟩, hS⟩
theorem s_itemZ5 {i v : Int} (hS : Sim h al) : XW g (d + 3) mBy_item (fun v1 h1 al1 => Call g (d + 4) yMo_item [xr 120, xi 5, xi i, xl v] h1 al1 (Ok2 v1)) 7 [some (xr 0), some (xi 5), some (xi i), some (xl v), none, some (xr 76)] [] h al := by
  obtain ⟨hW, hN, hI, hH, hT, hP, hC, hK, hV⟩ := id hS
  obtain ⟨⟨p1, p2, p3⟩, ⟨p4, p5, p6, p7⟩, p8⟩ := hP 5 (by decide)
  have p1 : h 76 1 = h 163 5 := p1
  have p2 : -1 ≤ h 163 5 := p2
  have p3 : h 163 5 ≤ 4 := p3
  have p4 : h 76 2 = h 164 5 := p4
  have p5 : 0 ≤ h 164 5 := p5
  have p6 : h 164 5 ≤ 60 := p6
  refine XW_to [] 60 okBy_item ?_
  refine ite_i (fun e => ?_) (fun e => ?_)
  · have e2 : h 76 1 < 0 := e
    refine cof ocMo_item rfl (XW_to [] 60 okMo_item ?_)
    obtain ⟨h, rfl⟩ := hW
    refine c_isTape (fun _ => ?_) (fun z => absurd (show 0 ≤ (5 : Int) ∧ (5 : Int) ≤ 5 by decide) z)
    refine ⟨⟨by decide, by show (5 : Int) < 6; decide⟩, ?_⟩
    refine ite_t (show wr h 163 5 < 0 by omega) ?_
    exact ⟨⟨-11, rfl, rfl⟩, hS⟩
  · have e2 : ¬ h 76 1 < 0 := e
    have ew : wI (h 164 5 - 1) = h 164 5 - 1 := wI_id (by omega)
    refine c_write5 hW (by omega) (by omega) (fun h1 => ?_) (fun h1 => ?_)
    · obtain ⟨k, hk, ek⟩ : ∃ k : Nat, k < 60 ∧ i = (k : Int) := ⟨i.toNat, by omega, by omega⟩
      subst ek
      have hW2 : Wd (uH h 77 ((k : Int)).toNat (narV (h 76 1) v)) := hW.upA rfl
      have eh := hW2.eq.symm
      rw [eh]
      refine c_Moitem (t := 5) (k := k) (by decide) (show 0 ≤ wr _ 163 5 ∧ wr _ 163 5 ≤ 4 from by rw [← eh]; show 0 ≤ h 163 5 ∧ h 163 5 ≤ 4; omega) (show (k : Int) < wr _ 164 5 from by rw [← eh]; show (k : Int) < h 164 5; omega) (show wr _ 164 5 ≤ 60 from by rw [← eh]; exact p6) ?_
      rw [← eh]
      refine ⟨⟨1, rfl, rfl⟩, ((hW.upA rfl).upA rfl), ((hN.up rfl).up rfl), ((hI.up rfl rfl).up rfl rfl), ((hH.up rfl rfl).up rfl rfl), ((hT.up rfl).up rfl), ?_, ((hC.up rfl).up rfl), ((hK.up rfl).up rfl), ((hV.up rfl).up rfl)⟩
      refine P0_of ?_ ?_ ?_ ?_ ?_ ?_
      · refine ⟨(hP 0 (by decide)).1, (hP 0 (by decide)).2.1, fun j hj => ?_⟩
        show h 67 j = uH (uH h 77 ((k : Int)).toNat (narV (h 76 1) v)) 165 (60 * 5 + k) (narV (h 163 5) v) 165 (60 * 0 + j)
        rw [uH_r, if_neg (by omega)]; exact (hP 0 (by decide)).2.2 j hj
      · refine ⟨(hP 1 (by decide)).1, (hP 1 (by decide)).2.1, fun j hj => ?_⟩
        show h 69 j = uH (uH h 77 ((k : Int)).toNat (narV (h 76 1) v)) 165 (60 * 5 + k) (narV (h 163 5) v) 165 (60 * 1 + j)
        rw [uH_r, if_neg (by omega)]; exact (hP 1 (by decide)).2.2 j hj
      · refine ⟨(hP 2 (by decide)).1, (hP 2 (by decide)).2.1, fun j hj => ?_⟩
        show h 71 j = uH (uH h 77 ((k : Int)).toNat (narV (h 76 1) v)) 165 (60 * 5 + k) (narV (h 163 5) v) 165 (60 * 2 + j)
        rw [uH_r, if_neg (by omega)]; exact (hP 2 (by decide)).2.2 j hj
      · refine ⟨(hP 3 (by decide)).1, (hP 3 (by decide)).2.1, fun j hj => ?_⟩
        show h 73 j = uH (uH h 77 ((k : Int)).toNat (narV (h 76 1) v)) 165 (60 * 5 + k) (narV (h 163 5) v) 165 (60 * 3 + j)
        rw [uH_r, if_neg (by omega)]; exact (hP 3 (by decide)).2.2 j hj
      · refine ⟨(hP 4 (by decide)).1, (hP 4 (by decide)).2.1, fun j hj => ?_⟩
        show h 75 j = uH (uH h 77 ((k : Int)).toNat (narV (h 76 1) v)) 165 (60 * 5 + k) (narV (h 163 5) v) 165 (60 * 4 + j)
        rw [uH_r, if_neg (by omega)]; exact (hP 4 (by decide)).2.2 j hj
      · refine ⟨⟨p1, p2, p3⟩, ⟨p4, p5, p6, p7⟩, fun j hj => ?_⟩
        show uH h 77 ((k : Int)).toNat (narV (h 76 1) v) 77 j = uH (uH h 77 ((k : Int)).toNat (narV (h 76 1) v)) 165 (60 * 5 + k) (narV (h 163 5) v) 165 (60 * 5 + j)
        rw [uH_r, uH_r, p1]
        by_cases ej : j = k
        · rw [if_pos (by omega), if_pos (by omega)]
        · rw [if_neg (by omega), if_neg (by omega)]; exact p8 j hj
    · refine cof ocMo_item rfl (XW_to [] 60 okMo_item ?_)
      obtain ⟨h, rfl⟩ := hW
      refine c_isTape (fun _ => ?_) (fun z => absurd (show 0 ≤ (5 : Int) ∧ (5 : Int) ≤ 5 by decide) z)
      refine ⟨⟨by decide, by show (5 : Int) < 6; decide⟩, ?_⟩
      refine ite_f (show ¬ wr h 163 5 < 0 by omega) ?_
      refine ⟨⟨by decide, by show (5 : Int) < 6; decide⟩, ?_⟩
      refine c_in (fun z => ?_) (fun _ => ⟨⟨-13, rfl, rfl⟩, hS⟩)
      have z2 : 0 ≤ i ∧ i ≤ wI (wr h 164 5 - 1) := z
      rw [ew] at z2
      exact absurd (show 0 ≤ i ∧ i < wr h 76 2 by omega) h1
theorem s_readZ5 {i : Int} (hS : Sim h al) : XW g (d + 3) mBy_read (fun v1 h1 al1 => Call g (d + 4) yMo_read [xr 120, xi 5, xi i] h1 al1 (Ok2L v1)) 6 [some (xr 0), some (xi 5), some (xi i), some (xr 76)] [] h al := by
  obtain ⟨hW, hN, hI, hH, hT, hP, hC, hK, hV⟩ := id hS
  obtain ⟨⟨p1, p2, p3⟩, ⟨p4, p5, p6, p7⟩, p8⟩ := hP 5 (by decide)
  have p1 : h 76 1 = h 163 5 := p1
  have p4 : h 76 2 = h 164 5 := p4
  have p5 : 0 ≤ h 164 5 := p5
  have p6 : h 164 5 ≤ 60 := p6
  have hW0 := hW
  obtain ⟨h, rfl⟩ := hW
  have ew : wI (wr h 164 5 - 1) = wr h 164 5 - 1 := wI_id (by omega)
  refine XW_to [] 60 okBy_read ?_
  refine ite_i (fun e => ?_) (fun e => ?_)
  · have e2 : wr h 76 1 < 0 := e
    refine cof ocMo_read rfl (XW_to [] 60 okMo_read ?_)
    refine c_isTape (fun _ => ?_) (fun z => absurd (show 0 ≤ (5 : Int) ∧ (5 : Int) ≤ 5 by decide) z)
    refine ⟨⟨by decide, by show (5 : Int) < 6; decide⟩, ?_⟩
    refine ite_t (show wr h 163 5 < 0 by omega) ?_
    exact ⟨⟨_, rfl, rfl⟩, hS⟩
  · have e2 : ¬ wr h 76 1 < 0 := e
    refine c_within (fun h1 => ?_) (fun h1 => ?_)
    · have h2 : 0 ≤ i ∧ i ≤ wI (wr h 76 2 - 1) := h1
      rw [p4, ew] at h2
      obtain ⟨k, hk, ek⟩ : ∃ k : Nat, k < 60 ∧ i = (k : Int) := ⟨i.toNat, by omega, by omega⟩
      subst ek
      refine c_itemAt5 hW0 (by omega) ?_
      refine c_Moread (t := 5) (k := k) (by decide) (show 0 ≤ wr h 163 5 by omega) (show (k : Int) < wr h 164 5 by omega) (show wr h 164 5 ≤ 60 by omega) ?_
      refine ⟨⟨wr h 77 k, rfl, congrArg (fun z => some (xl z)) (show wr h 165 (60 * 5 + k) = wr h 77 k from ?_)⟩, hS⟩
      exact (p8 k hk).symm
    · refine cof ocMo_read rfl (XW_to [] 60 okMo_read ?_)
      refine c_isTape (fun _ => ?_) (fun z => absurd (show 0 ≤ (5 : Int) ∧ (5 : Int) ≤ 5 by decide) z)
      refine ⟨⟨by decide, by show (5 : Int) < 6; decide⟩, ?_⟩
      refine ite_f (show ¬ wr h 163 5 < 0 by omega) ?_
      refine ⟨⟨by decide, by show (5 : Int) < 6; decide⟩, ?_⟩
      refine c_in (fun z => ?_) (fun _ => ⟨⟨_, rfl, rfl⟩, hS⟩)
      have z2 : 0 ≤ i ∧ i ≤ wI (wr h 164 5 - 1) := z
      rw [← p4] at z2
      exact absurd z2 h1
theorem s_tape {t s n : Int} (hS : Sim h al) : Call g (d + 4) yBy_tape [xr 0, xi t, xi s, xi n] h al (fun r h1 al1 => Call g (d + 4) yMo_tape [xr 120, xi t, xi s, xi n] h1 al1 (Ok2 r)) := by
  refine cof ocBy_tape rfl (XW_to [7] 60 okBy_tape ?_)
  refine c_tapeAt hS.1 (fun e => by subst e; exact s_tapeZ0 hS) (fun e => by subst e; exact s_tapeZ1 hS) (fun e => by subst e; exact s_tapeZ2 hS) (fun e => by subst e; exact s_tapeZ3 hS) (fun e => by subst e; exact s_tapeZ4 hS) (fun e => by subst e; exact s_tapeZ5 hS) (fun e => ?_)
  refine XW_to [] 40 okBy_tape ?_
  refine cof ocMo_tape rfl (XW_to [] 60 okMo_tape ?_)
  exact c_isTape (fun z => absurd (show 0 ≤ t ∧ t < 6 by omega) e) (fun _ => ⟨⟨_, rfl, rfl⟩, hS⟩)
theorem s_item {t i v : Int} (hS : Sim h al) : Call g (d + 4) yBy_item [xr 0, xi t, xi i, xl v] h al (fun r h1 al1 => Call g (d + 4) yMo_item [xr 120, xi t, xi i, xl v] h1 al1 (Ok2 r)) := by
  refine cof ocBy_item rfl (XW_to [7] 60 okBy_item ?_)
  refine c_tapeAt hS.1 (fun e => by subst e; exact s_itemZ0 hS) (fun e => by subst e; exact s_itemZ1 hS) (fun e => by subst e; exact s_itemZ2 hS) (fun e => by subst e; exact s_itemZ3 hS) (fun e => by subst e; exact s_itemZ4 hS) (fun e => by subst e; exact s_itemZ5 hS) (fun e => ?_)
  refine XW_to [] 40 okBy_item ?_
  refine cof ocMo_item rfl (XW_to [] 60 okMo_item ?_)
  exact c_isTape (fun z => absurd (show 0 ≤ t ∧ t < 6 by omega) e) (fun _ => ⟨⟨_, rfl, rfl⟩, hS⟩)
theorem s_read {t i : Int} (hS : Sim h al) : Call g (d + 4) yBy_read [xr 0, xi t, xi i] h al (fun r h1 al1 => Call g (d + 4) yMo_read [xr 120, xi t, xi i] h1 al1 (Ok2L r)) := by
  refine cof ocBy_read rfl (XW_to [6] 60 okBy_read ?_)
  refine c_tapeAt hS.1 (fun e => by subst e; exact s_readZ0 hS) (fun e => by subst e; exact s_readZ1 hS) (fun e => by subst e; exact s_readZ2 hS) (fun e => by subst e; exact s_readZ3 hS) (fun e => by subst e; exact s_readZ4 hS) (fun e => by subst e; exact s_readZ5 hS) (fun e => ?_)
  refine XW_to [] 40 okBy_read ?_
  refine cof ocMo_read rfl (XW_to [] 60 okMo_read ?_)
  exact c_isTape (fun z => absurd (show 0 ≤ t ∧ t < 6 by omega) e) (fun _ => ⟨⟨_, rfl, rfl⟩, hS⟩)
end TR
