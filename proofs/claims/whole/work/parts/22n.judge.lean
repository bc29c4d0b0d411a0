-- judge
theorem tP_in {a k : Nat} (e : (66 ≤ a ∧ a ≤ 77) ∨ (163 ≤ a ∧ a ≤ 165)) : tP a k = true := by
  unfold tP inR
  simp only [Bool.or_eq_true, Bool.and_eq_true, Nat.ble_eq]
  omega
theorem SP.at {h : HH} (hP : SP h) {t : Nat} (ht : t < 6) : (h (66 + 2 * t) 1 = h 163 t ∧ -1 ≤ h 163 t ∧ h 163 t ≤ 4) ∧ (h (66 + 2 * t) 2 = h 164 t ∧ 0 ≤ h 164 t ∧ h 164 t ≤ 60 ∧ (h 163 t < 0 → h 164 t = 0)) ∧ ∀ i : Nat, i < 60 → h (67 + 2 * t) i = h 165 (60 * t + i) := by
  obtain ⟨h1, h2, h3⟩ := hP t ht
  have e : ∀ a k, (66 ≤ a ∧ a ≤ 77) ∨ (163 ≤ a ∧ a ≤ 165) → rs tP h a k = h a k := fun a k q => rs_in (tP_in q)
  rw [e _ _ (by omega), e _ _ (by omega)] at h1 h2
  rw [e 163 _ (by omega)] at h2
  refine ⟨h1, h2, fun i hi => ?_⟩
  have := h3 i hi
  rw [e _ _ (by omega), e _ _ (by omega)] at this
  exact this
theorem kd_tape {t : Nat} (ht : t < 6) : kd (66 + 2 * t) = 5 := by
  have c : ck 6 (fun t => decide (kd (66 + 2 * t) = 5)) = true := by decide +kernel
  exact of_decide_eq_true (ck_of c ht)
section Q11
variable {g : GC} {d : Nat} {h : HH} {al : AL} {K : KT}
theorem c_tapeAtS {t : Int} (hW : Wd h) (ht : ∀ tn : Nat, tn < 6 → t = (tn : Int) → K (some (xr (Int.ofNat (66 + 2 * tn)))) h al) (hn : ¬ (0 ≤ t ∧ t < 6) → K (some (xr (-1))) h al) : Call g (d + 1) yBy_tapeAt [xr 0, xi t] h al K :=
  c_tapeAt hW (fun e => ht 0 (by decide) e) (fun e => ht 1 (by decide) e) (fun e => ht 2 (by decide) e) (fun e => ht 3 (by decide) e) (fun e => ht 4 (by decide) e) (fun e => ht 5 (by decide) e) hn
theorem c_itemAtS {tn : Nat} {i : Int} (htn : tn < 6) (hW : Wd h) (hi : 0 ≤ i ∧ i < 60) (hK : K (some (xl (h (67 + 2 * tn) i.toNat))) h al) : Call g (d + 1) yTa_itemAt [xr (Int.ofNat (66 + 2 * tn)), xi i] h al K := by
  have : tn = 0 ∨ tn = 1 ∨ tn = 2 ∨ tn = 3 ∨ tn = 4 ∨ tn = 5 := by omega
  rcases this with rfl | rfl | rfl | rfl | rfl | rfl
  · exact c_itemAt0 hW hi hK
  · exact c_itemAt1 hW hi hK
  · exact c_itemAt2 hW hi hK
  · exact c_itemAt3 hW hi hK
  · exact c_itemAt4 hW hi hK
  · exact c_itemAt5 hW hi hK
theorem cmpL_lt {x y : Int} : cmpL x y < 0 ↔ x < y := by
  unfold cmpL
  split
  · omega
  · split <;> omega
theorem cmpL_eq {x y : Int} : cmpL x y = 0 ↔ x = y := by
  unfold cmpL
  split
  · omega
  · split <;> omega
/-- where a judge stops -/
def jdS (sz i : Int) (it : Nat → Int) (S : Nat → Nat) : Nat → Nat → Int
  | 0, _ => -5
  | m + 1, j => if ¬ (0 ≤ i ∧ i + (j : Int) < sz) then 100 + (j : Int) else if it (i.toNat + j) = (S j : Int) then jdS sz i it S m (j + 1) else (j : Int)
set_option maxRecDepth 8000 in
theorem s_judge {t i n : Int} (hS : Sim h al) (hi32 : I32 i) : Call g (d + 9) yBy_judge [xr 0, xi t, xi i, xi n] h al (fun v h1 al1 => Call g (d + 9) yMo_judge [xr 120, xi t, xi i, xi n] h1 al1 (Ok2 v)) := by
  obtain ⟨V, nV, vl, nH, nP, rd, lots, l, yr, lo, S, O, P, k, v, st, hA⟩ := hS.all
  obtain ⟨hPB, hlo, hg⟩ := hA.pb
  obtain ⟨b1, b2, b3, b4, b5, b6, b7⟩ := id hPB
  have hyr := hA.1.2.1.2.2.2.2.1.2.2.2.2
  obtain ⟨⟨hW, hN, hB⟩, -⟩ := id hA
  have hSP := hS.2.2.2.2.2.1
  obtain ⟨h0, rfl⟩ := id hW
  refine cof ocBy_judge rfl (XW_t4 [72] 160 okBy_judge ?_)
  refine c_tapeAtS hW (fun tn ht6 et => ?_) (fun hno => ?_)
  · obtain ⟨⟨p1, p2, p3⟩, ⟨p4, p5, p6, p7⟩, p8⟩ := hSP.at ht6
    have k5 := kd_tape ht6
    refine c_within (fun hn => ?_) (fun hn => ?_)
    · obtain ⟨nn, rfl⟩ := Int.eq_ofNat_of_zero_le (show 0 ≤ n by omega)
      refine cond_i (by rw [k5]; rfl) ?_
      refine ite_i (fun q => ?_) (fun q => ?_)
      · have q : 0 < wr h0 (66 + 2 * tn) 1 := q
        refine cof ocMo_judge rfl (XW_t4 [] 80 okMo_judge ?_)
        refine c_isTape (fun _ => ?_) (fun q => absurd q (by omega))
        refine c_in (fun _ => ?_) (fun q => absurd hn q)
        refine ⟨tn, et, by show tn < 6; exact ht6, _, rfl, ?_⟩
        refine ite_t (show 0 < wr h0 163 tn by omega) ?_
        exact ⟨⟨_, rfl, rfl⟩, hS⟩
      · have q : ¬ 0 < wr h0 (66 + 2 * tn) 1 := q
        refine c_become_an hW fun h2 hb hW2 => ?_
        obtain ⟨hA2, hc2, hP2, -, hcw2, f7, f9⟩ := hA.ahead hb
        obtain ⟨h2', rfl⟩ := id hW2
        refine c_pass_a (who := 2) (n := nn) hW2 hA2.2.1.1 (Or.inl rfl) hP2 hPB hcw2 hg f7 f9 (by omega) (by omega) fun h3 al3 hf3 hC3 _ _ hcw3 => ?_
        have hA3 := hA2.qf hf3.qf hC3
        have hc3 := hc2.trans hf3.cq
        have hS3 := hA.sim hS hc3.qf hC3
        have hW3 := hA3.1.1
        have hZ := yNs_ok (V := Vw V vl) (k := k) (v := v) (st := st) (Z := (l, S, O, P, 0)) ⟨hg, by show I32 0; unfold I32; omega⟩ b7 b3 b5 nn
        obtain ⟨Sn, hSn⟩ : ∃ Sn : Nat → Nat, Sn = (yNs (Vw V vl) k v st nP nH rd lots lo (l, S, O, P, 0) nn).2.1 := ⟨_, rfl⟩
        rw [← hSn] at hcw3
        have tq : ∀ a, 66 ≤ a → a ≤ 77 → tG a = false := fun a q1 q2 => by
          have c : ck 78 (fun a => decide (66 ≤ a → tG a = false)) = true := by decide +kernel
          exact of_decide_eq_true (ck_of c (by omega)) q1
        have fT : ∀ a j, (66 ≤ a ∧ a ≤ 77) ∨ (163 ≤ a ∧ a ≤ 165) → h3 a j = wr h0 a j := fun a j e => by
          rcases e with e | e
          · exact hc3.1 a j (tq a e.1 e.2) (by omega)
          · have : a = 163 ∨ a = 164 ∨ a = 165 := by omega
            rcases this with rfl | rfl | rfl <;> exact hc3.1 _ _ rfl (by omega)
        obtain ⟨sz, hsz⟩ : ∃ sz : Int, sz = wr h0 164 tn := ⟨_, rfl⟩
        obtain ⟨it, hit⟩ : ∃ it : Nat → Int, ∀ x, it x = wr h0 165 (60 * tn + x) := ⟨_, fun _ => rfl⟩
        -- the reference
        have mod : Call g (d + 9) yMo_judge [xr 120, xi t, xi i, xi (nn : Int)] h3 al3 (Ok2 (some (xi (jdS sz i it Sn nH 0)))) := by
          obtain ⟨h3', rfl⟩ := id hW3
          refine cof ocMo_judge rfl (XW_t4 [48] 100 okMo_judge ?_)
          refine c_isTape (fun _ => ?_) (fun q => absurd q (by omega))
          refine c_in (fun _ => ?_) (fun q => absurd hn q)
          refine ⟨tn, et, by show tn < 6; exact ht6, _, fT 163 tn (by omega), ?_⟩
          refine ite_f (show ¬ 0 < wr h0 163 tn by omega) ?_
          refine c_asIsA hA3 fun h4 hf4 hQ4 => ?_
          have hW4 := hf4.mq.qf (al := al3) |>.wd hW3
          obtain ⟨h4', rfl⟩ := id hW4
          refine c_goYQ (n := nn) hW4 hQ4 b4 b5 hlo b1 b3 hg (by omega) fun h5 hf5 hw5 _ _ => ?_
          rw [← hSn] at hw5
          have hm5 := hf4.mq.trans hf5.mq
          have hW5 := hm5.qf (al := al3) |>.wd hW3
          have e0 : h5 120 0 = (nH : Int) := (hm5 _ _ (by omega) (by omega)).trans hA3.1.2.1.1.1.2
          have fM : ∀ a j, 163 ≤ a ∧ a ≤ 165 → h5 a j = wr h0 a j := fun a j e => (hm5 a j (by omega) (by omega)).trans (fT a j (by omega))
          have done := hA3.done hS3 hm5
          have loop : ∀ (m j : Nat), j + m = nH → jdS sz i it Sn nH 0 = jdS sz i it Sn m j → XW g (d + 8) mMo_judge (Ok2 (some (xi (jdS sz i it Sn nH 0)))) 48 [some (xr 120), some (xi t), some (xi i), some (xi (nn : Int)), some (xi (j : Int))] [] h5 al3 := by
            intro m
            induction m with
            | zero =>
              intro j hj hjd
              obtain ⟨h5', rfl⟩ := id hW5
              refine XW_t4 [48] 60 okMo_judge ?_
              refine ite_f (show ¬ (j : Int) < wr h5' 120 0 by rw [e0]; omega) ?_
              exact ⟨⟨_, rfl, by rw [hjd]; rfl⟩, done⟩
            | succ m ih =>
              intro j hj hjd
              have hjd2 : Unit → jdS sz i it Sn nH 0 = if ¬ (0 ≤ i ∧ i + (j : Int) < sz) then 100 + (j : Int) else if it (i.toNat + j) = (Sn j : Int) then jdS sz i it Sn m (j + 1) else (j : Int) := fun _ => hjd
              clear hjd
              have e100 : Unit → wI (100 + (j : Int)) = 100 + (j : Int) := fun _ => wI_id (by omega)
              obtain ⟨h5', rfl⟩ := id hW5
              have out : ¬ (0 ≤ i ∧ i + (j : Int) < sz) → Ok2 (some (xi (jdS sz i it Sn nH 0))) (some (xi (wI (100 + (j : Int))))) (wr h5') al3 := fun q => by
                have hjd3 := hjd2 ()
                rw [if_pos q] at hjd3
                exact ⟨⟨_, rfl, by rw [e100 (), hjd3]⟩, done⟩
              refine XW_t4 [48] 120 okMo_judge ?_
              refine ite_t (show (j : Int) < wr h5' 120 0 by rw [e0]; omega) ?_
              refine ⟨tn, et, by show tn < 6; exact ht6, _, fM 163 tn (by omega), ?_⟩
              refine ite_i (fun q1 => ?_) (fun q1 => ?_)
              · have q1 : wr h0 163 tn < 0 := q1
                exact out (fun q2 => by have := p7 q1; omega)
              · refine ite_i (fun q2 => ?_) (fun q2 => ?_)
                · have q2 : i < 0 := q2
                  exact out (fun q3 => by omega)
                · have q2 : ¬ i < 0 := q2
                  refine ⟨tn, et, by show tn < 6; exact ht6, _, (fM 164 tn (by omega)).trans hsz.symm, ?_⟩
                  have ew : Unit → wI (wI (sz - (j : Int)) - 1) = sz - (j : Int) - 1 := fun _ => by rw [wI_id (z := sz - (j : Int)) (by omega), wI_id (by omega)]
                  refine ite_i (fun q3 => ?_) (fun q3 => ?_)
                  · have q3 : wI (wI (sz - (j : Int)) - 1) < i := q3
                    rw [ew ()] at q3
                    exact out (fun q4 => by omega)
                  · have q3 : ¬ wI (wI (sz - (j : Int)) - 1) < i := q3
                    rw [ew ()] at q3
                    have hpl : 0 ≤ i ∧ i + (j : Int) < sz := by omega
                    have hjd3 := fun u : Unit => (hjd2 u).trans (if_neg (fun q4 => q4 hpl))
                    refine ⟨60 * tn + (i.toNat + j), by rw [wI_id (z := 60 * t) (by omega), wI_id (z := 60 * t + i) (by omega), wI_id (by omega)]; omega, by show _ < 360; omega, _, (fM 165 _ (by omega)).trans (hit _).symm, ?_⟩
                    refine ⟨j, rfl, by show j < 6; omega, _, (hw5.1 j (by omega)).1, ?_⟩
                    refine ite_i (fun q4 => ?_) (fun q4 => ?_)
                    · have q4 : cmpL (it (i.toNat + j)) (Sn j : Int) = 0 := q4
                      rw [cmpL_eq] at q4
                      have tt := ih (j + 1) (by omega) ((hjd3 ()).trans (if_pos q4))
                      rw [← nS j (by omega)] at tt
                      exact tt
                    · have q4 : ¬ cmpL (it (i.toNat + j)) (Sn j : Int) = 0 := q4
                      rw [cmpL_eq] at q4
                      exact ⟨⟨_, rfl, by rw [(hjd3 ()).trans (if_neg q4)]⟩, done⟩
          have tt := loop nH 0 (by omega) rfl
          obtain ⟨h5', rfl⟩ := id hW5
          exact tt
        have e6 : h3 1 6 = (nH : Int) := hA3.1.2.1.1.1.1
        have loop : ∀ (m j : Nat) (x6 : Option XV) , (x6 = none ∨ ∃ z, x6 = some (xl z)) → j + m = nH → jdS sz i it Sn nH 0 = jdS sz i it Sn m j → XW g (d + 8) mBy_judge (fun v h1 al1 => Call g (d + 9) yMo_judge [xr 120, xi t, xi i, xi (nn : Int)] h1 al1 (Ok2 v)) 72 [some (xr 0), some (xi t), some (xi i), some (xi (nn : Int)), some (xr (Int.ofNat (66 + 2 * tn))), some (xi (j : Int)), x6, none] [] h3 al3 := by
          intro m
          induction m with
          | zero =>
            intro j x6 hx6 hj hjd
            have md := mod
            rw [hjd] at md
            obtain ⟨h3', rfl⟩ := id hW3
            refine XW_t4 [72] 60 okBy_judge ?_
            refine ite_f (show ¬ (j : Int) < wr h3' 1 6 by rw [e6]; omega) ?_
            exact md
          | succ m ih =>
            intro j x6 hx6 hj hjd
            have hjd2 : Unit → jdS sz i it Sn nH 0 = if ¬ (0 ≤ i ∧ i + (j : Int) < sz) then 100 + (j : Int) else if it (i.toNat + j) = (Sn j : Int) then jdS sz i it Sn m (j + 1) else (j : Int) := fun _ => hjd
            clear hjd
            have e100 : Unit → wI (100 + (j : Int)) = 100 + (j : Int) := fun _ => wI_id (by omega)
            unfold I32 at hi32
            have epl : Unit → wL (i + (j : Int)) = i + (j : Int) := fun _ => by unfold wL; omega
            have hsz3 : h3 (66 + 2 * tn) 2 = sz := by rw [fT _ _ (by omega), p4, hsz]
            have go : ∀ x6, (x6 = none ∨ ∃ z, x6 = some (xl z)) → XW g (d + 8) mBy_judge (fun v h1 al1 => Call g (d + 9) yMo_judge [xr 120, xi t, xi i, xi (nn : Int)] h1 al1 (Ok2 v)) 92 [some (xr 0), some (xi t), some (xi i), some (xi (nn : Int)), some (xr (Int.ofNat (66 + 2 * tn))), some (xi (j : Int)), some (xl (i + (j : Int))), none] [] h3 al3 := by
              intro x6 hx6
              have out : ¬ (0 ≤ i ∧ i + (j : Int) < sz) → Call g (d + 9) yMo_judge [xr 120, xi t, xi i, xi (nn : Int)] h3 al3 (Ok2 (some (xi (wI (100 + (j : Int)))))) := fun q => by
                have md := mod
                rw [(hjd2 ()).trans (if_pos q)] at md
                rw [e100 ()]
                exact md
              have fin : (0 ≤ i ∧ i + (j : Int) < sz) → XW g (d + 8) mBy_judge (fun v h1 al1 => Call g (d + 9) yMo_judge [xr 120, xi t, xi i, xi (nn : Int)] h1 al1 (Ok2 v)) 114 [some (xr 0), some (xi t), some (xi i), some (xi (nn : Int)), some (xr (Int.ofNat (66 + 2 * tn))), some (xi (j : Int)), some (xl (i + (j : Int))), none] [] h3 al3 := fun q => by
                have hjd3 := fun u : Unit => (hjd2 u).trans (if_neg (fun q2 => q2 q))
                have ewi : Unit → wI (i + (j : Int)) = i + (j : Int) := fun _ => wI_id (by omega)
                have e21 : h3 21 j = (Sn j : Int) := hcw3.1 j (by omega)
                have ein : h3 (67 + 2 * tn) (i.toNat + j) = it (i.toNat + j) := by rw [fT _ _ (by omega), p8 _ (by omega), hit]
                obtain ⟨h3', rfl⟩ := id hW3
                refine XW_t4 [72] 120 okBy_judge ?_
                refine cond_i (rcv_c k5 rfl rfl) ?_
                refine c_itemAtS ht6 hW3 (by rw [ewi ()]; omega) ?_
                rw [ewi (), show (i + (j : Int)).toNat = i.toNat + j by omega, ein]
                refine c_atE rfl rfl (by show j < 6; omega) e21 ?_
                refine ite_i (fun q4 => ?_) (fun q4 => ?_)
                · have q4 : cmpL (it (i.toNat + j)) (Sn j : Int) = 0 := q4
                  rw [cmpL_eq] at q4
                  have tt := ih (j + 1) (some (xl (i + (j : Int)))) (Or.inr ⟨_, rfl⟩) (by omega) ((hjd3 ()).trans (if_pos q4))
                  rw [← nS j (by omega)] at tt
                  exact tt
                · have q4 : ¬ cmpL (it (i.toNat + j)) (Sn j : Int) = 0 := q4
                  rw [cmpL_eq] at q4
                  have md := mod
                  rw [(hjd3 ()).trans (if_neg q4)] at md
                  exact md
              obtain ⟨h3', rfl⟩ := id hW3
              refine XW_t4 [114] 120 okBy_judge ?_
              refine ite_i (fun q1 => ?_) (fun q1 => ?_)
              · have q1 : i < 0 := q1
                exact out (fun q2 => by omega)
              · have q1 : ¬ i < 0 := q1
                refine cond_i (by rw [k5]; rfl) ?_
                refine ite_i (fun q2 => ?_) (fun q2 => ?_)
                · have q2 : cmpL (i + (j : Int)) (wr h3' (66 + 2 * tn) 2) < 0 := q2
                  rw [cmpL_lt, hsz3] at q2
                  exact fin ⟨by omega, q2⟩
                · have q2 : ¬ cmpL (i + (j : Int)) (wr h3' (66 + 2 * tn) 2) < 0 := q2
                  rw [cmpL_lt, hsz3] at q2
                  exact out (fun q3 => q2 q3.2)
            rw [← epl ()] at go
            have gg := go none (Or.inl rfl)
            obtain ⟨h3', rfl⟩ := id hW3
            rcases hx6 with rfl | ⟨z, rfl⟩
            · refine XW_t4 [92] 60 okBy_judge ?_
              refine ite_t (show (j : Int) < wr h3' 1 6 by rw [e6]; omega) ?_
              exact gg
            · refine XW_t4 [92] 60 okBy_judge ?_
              refine ite_t (show (j : Int) < wr h3' 1 6 by rw [e6]; omega) ?_
              exact gg
        have tt := loop nH 0 none (Or.inl rfl) (by omega) rfl
        obtain ⟨h3', rfl⟩ := id hW3
        exact tt
    · refine cof ocMo_judge rfl (XW_t4 [] 80 okMo_judge ?_)
      refine c_isTape (fun _ => ?_) (fun q => absurd q (by omega))
      exact c_in (fun q => absurd q hn) (fun _ => ⟨⟨_, rfl, rfl⟩, hS⟩)
  · refine cof ocMo_judge rfl (XW_t4 [] 80 okMo_judge ?_)
    exact c_isTape (fun q => absurd q (by omega)) (fun _ => ⟨⟨_, rfl, rfl⟩, hS⟩)
end Q11
