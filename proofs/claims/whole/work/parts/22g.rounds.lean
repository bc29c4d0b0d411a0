-- rounds, alike, go
def rbS (G : Nat → Int) : Nat → Nat × Int
  | 0 => (0, 0)
  | r + 1 => if (rbS G r).1 = 0 ∨ (rbS G r).2 < G (r + 1) then (r + 1, G (r + 1)) else rbS G r
def hiF (P : Nat → Int) : Nat → Int
  | 0 => P 0
  | n + 1 => if hiF P n < P (n + 1) then P (n + 1) else hiF P n
def loF (P : Nat → Int) : Nat → Int
  | 0 => P 0
  | n + 1 => if P (n + 1) < loF P n then P (n + 1) else loF P n
section Q3
variable {g : GC} {d : Nat} {h : HH} {al : AL}
theorem s_rounds {w : Int} (hS : Sim h al) : Call g (d + 9) yBy_rounds [xr 0, xi w] h al (fun v h1 al1 => Call g (d + 9) yMo_rounds [xr 120, xi w] h1 al1 (Ok2 v)) := by
  obtain ⟨V, nV, vl, nH, nP, rd, lots, l, yr, lo, S, O, P, k, v, st, hA⟩ := hS.all
  obtain ⟨hPB, hlo, hg⟩ := hA.pb
  obtain ⟨b1, b2, b3, b4, b5, b6, b7⟩ := id hPB
  have hyr := hA.1.2.1.2.2.2.2.1.2.2.2.2
  obtain ⟨⟨hW, hN, hB⟩, -⟩ := id hA
  obtain ⟨G, hG⟩ : ∃ G : Nat → Int, ∀ r, G r = (yNs (Vw V vl) k v st nP nH r lots lo (r, S, O, P, 0) 36).2.2.2.2 := ⟨_, fun _ => rfl⟩
  -- the reference
  have mod : ∀ (h2 : HH) (al2 : AL), ALLf h2 al2 V nV vl nH nP rd lots l yr lo S O P k v st → Sim h2 al2 → (0 ≤ w ∧ w ≤ 1) → Call g (d + 9) yMo_rounds [xr 120, xi w] h2 al2 (Ok2 (some (xi (if w = 0 then ((rbS G 9).1 : Int) else (rbS G 9).2)))) := by
    intro h2 al2 hA2 hS2 hw
    have loop : ∀ (m r : Nat) (h3 : HH), r + m = 9 → MQF h2 h3 → XW g (d + 8) mMo_rounds (Ok2 (some (xi (if w = 0 then ((rbS G 9).1 : Int) else (rbS G 9).2)))) 20 [some (xr 120), some (xi w), some (xi ((rbS G r).1 : Int)), some (xi (rbS G r).2), some (xi ((r + 1 : Nat) : Int))] [] h3 al2 := by
      intro m
      induction m with
      | zero =>
        intro r h3 hr hm
        refine XW_t4 [20] 60 okMo_rounds ?_
        refine ite_f (by omega) ?_
        rw [show r = 9 by omega]
        refine ite_i (fun q => ?_) (fun q => ?_)
        · have q : w = 0 := q
          rw [if_pos q]
          exact ⟨⟨_, rfl, rfl⟩, hA2.done hS2 hm⟩
        · have q : ¬ w = 0 := q
          rw [if_neg q]
          exact ⟨⟨_, rfl, rfl⟩, hA2.done hS2 hm⟩
      | succ m ih =>
        intro r h3 hr hm
        have hA3 := hA2.mq hm
        have hW3 := hA3.1.1
        obtain ⟨h3', rfl⟩ := id hW3
        refine XW_t4 [20, 49] 80 okMo_rounds ?_
        refine ite_t (by omega) ?_
        refine c_asIsA hA3 fun h4 hf4 hQ4 => ?_
        have hm4 := hm.trans hf4.mq
        have hm5 : MQF h2 (uH (uH h4 120 35 ((r + 1 : Nat) : Int)) 120 36 ((r + 1 : Nat) : Int)) := (hm4.up (Or.inr ⟨rfl, by omega⟩)).up (Or.inr ⟨rfl, by omega⟩)
        have hf5 : YF (uH h4 120 35 ((r + 1 : Nat) : Int)) (uH (uH h4 120 35 ((r + 1 : Nat) : Int)) 120 36 ((r + 1 : Nat) : Int)) := YF.refl.up (Or.inr ⟨rfl, Or.inl rfl⟩)
        have hQ5 : ASK (uH (uH h4 120 35 ((r + 1 : Nat) : Int)) 120 36 ((r + 1 : Nat) : Int)) (Vw V vl) (lastL (Vw V vl) 3 0) k v st nH nP (r + 1) lots (r + 1) lo S O P := by
          obtain ⟨⟨⟨c0, q0, cz⟩, cp, c1⟩, cM, ⟨c3, c4⟩, c5, c6⟩ := hQ4
          have u : ∀ a j, ¬ (a = 120 ∧ (j = 35 ∨ j = 36)) → (uH (uH h4 120 35 ((r + 1 : Nat) : Int)) 120 36 ((r + 1 : Nat) : Int)) a j = h4 a j := fun a j e => by rw [uH_ne (by omega), uH_ne (by omega)]
          refine ⟨⟨⟨c0, q0, cz.fr fun a j q => u a j ?_⟩, (u _ _ (by omega)).trans cp, fun x hx => ?_⟩, cM.ot fun a j e1 e2 => u a j (by omega), ⟨fun j hj => ?_, fun j hj => ?_⟩, ⟨(u _ _ (by omega)).trans c5.1, (u _ _ (by omega)).trans c5.2.1, (u _ _ (by omega)).trans c5.2.2.1, ?_, fun q hq => (u _ _ (by omega)).trans (c5.2.2.2.2 q hq)⟩, uH_at⟩
          · rintro ⟨rfl, q2⟩
            rcases q2 with rfl | rfl <;> cases q
          · rw [u 140 _ (by omega), u 141 _ (by omega)]
            refine ⟨(c1 x hx).1, (c1 x hx).2.1, fun ll hll => ?_⟩
            rw [u 127 _ (by omega)]
            exact (c1 x hx).2.2 ll hll
          · rw [u 142 _ (by omega), u 143 _ (by omega)]
            exact c3 j hj
          · rw [u 144 _ (by omega), u 145 _ (by omega)]
            exact c4 j hj
          · rw [uH_ne (by omega), uH_at]
        have hW4 := hm4.qf (al := al2) |>.wd hA2.1.1
        have hW5 := hm5.qf (al := al2) |>.wd hA2.1.1
        have key : Call g (d + 8) yMo_goYears [xr 120, xi 36] (uH (uH h4 120 35 ((r + 1 : Nat) : Int)) 120 36 ((r + 1 : Nat) : Int)) al2 fun x h6 al6 => XW g (d + 8) mMo_rounds (Ok2 (some (xi (if w = 0 then ((rbS G 9).1 : Int) else (rbS G 9).2)))) 49 [some (xr 120), some (xi w), some (xi ((rbS G r).1 : Int)), some (xi (rbS G r).2), some (xi ((r + 1 : Nat) : Int))] (x.toList ++ []) h6 al6 := by
          refine c_goYQ (n := 36) (rd := r + 1) (l := r + 1) hW5 hQ5 b4 b5 hlo b1 (by omega) ⟨by omega, hg.2⟩ (by decide) fun h6 hf6 _ _ f50 => ?_
          have hm6 := hm5.trans hf6.mq
          have hW6 := hm6.qf (al := al2) |>.wd hA2.1.1
          have nx := ih (r + 1) h6 (by omega) hm6
          rw [← hG (r + 1)] at f50
          have erb : rbS G (r + 1) = if (rbS G r).1 = 0 ∨ (rbS G r).2 < G (r + 1) then (r + 1, G (r + 1)) else rbS G r := rfl
          rw [erb, show (r + 1 + 1 : Nat) = r + 1 + 1 from rfl, ← nS (r + 1) (by omega)] at nx
          rw [← f50] at nx
          obtain ⟨h7, rfl⟩ := id hW6
          refine XW_t4 [20] 60 okMo_rounds ?_
          refine ite_i (fun q => ?_) (fun q => ?_)
          · have q : 0 < ((rbS G r).1 : Int) := q
            refine ite_i (fun q2 => ?_) (fun q2 => ?_)
            · have q2 : (rbS G r).2 < wr h7 120 50 := q2
              rw [if_pos (Or.inr q2)] at nx
              exact nx
            · have q2 : ¬ (rbS G r).2 < wr h7 120 50 := q2
              have hno : ¬ ((rbS G r).1 = 0 ∨ (rbS G r).2 < wr h7 120 50) := by omega
              rw [if_neg hno] at nx
              exact nx
          · have q : ¬ 0 < ((rbS G r).1 : Int) := q
            rw [if_pos (Or.inl (by omega))] at nx
            exact nx
        obtain ⟨h4', rfl⟩ := id hW4
        exact key
    have hW2 := hA2.1.1
    obtain ⟨h2', rfl⟩ := id hW2
    refine cof ocMo_rounds rfl (XW_t4 [20] 80 okMo_rounds ?_)
    refine c_in (fun _ => ?_) (fun q => absurd hw q)
    exact loop 9 0 (wr h2') rfl MQF.refl
  -- the class
  have loop : ∀ (m r : Nat) (h3 : HH) (al3 : AL) (x5 : Option XV), r + m = 9 → (0 ≤ w ∧ w ≤ 1) → CQF h al h3 al3 → ALLf h3 al3 V nV vl nH nP rd lots l yr lo S O P k v st → XW g (d + 8) mBy_rounds (fun v h1 al1 => Call g (d + 9) yMo_rounds [xr 120, xi w] h1 al1 (Ok2 v)) 19 [some (xr 0), some (xi w), some (xi ((rbS G r).1 : Int)), some (xi (rbS G r).2), some (xi ((r + 1 : Nat) : Int)), x5] [] h3 al3 := by
    intro m
    induction m with
    | zero =>
      intro r h3 al3 x5 hr hw hc hA3
      have hS3 := hA.sim hS hc.qf hA3.2.1.1
      have md := mod h3 al3 hA3 hS3 hw
      refine XW_t4 [19] 60 okBy_rounds ?_
      refine ite_t (by omega) ?_
      rw [show r = 9 by omega]
      refine ite_i (fun q => ?_) (fun q => ?_)
      · have q : w = 0 := q
        rw [if_pos q] at md
        exact md
      · have q : ¬ w = 0 := q
        rw [if_neg q] at md
        exact md
    | succ m ih =>
      intro r h3 al3 x5 hr hw hc hA3
      have hW3 := hA3.1.1
      obtain ⟨h3', rfl⟩ := id hW3
      refine XW_t4 [19, 75] 100 okBy_rounds ?_
      refine ite_f (by omega) ?_
      refine c_become_an hW3 fun h4 hb4 hW4 => ?_
      obtain ⟨hA4, hc4, hP4, -, hcw4, f74, f94⟩ := hA3.ahead hb4
      have hc5 : CQF h al (uH (uH h4 20 8 ((r + 1 : Nat) : Int)) 20 7 ((r + 1 : Nat) : Int)) al3 := (hc.trans hc4).trans ⟨fun a j e e2 => by rw [uH_ne (by omega), uH_ne (by omega)], fun _ _ => rfl⟩
      have u : ∀ a j, ¬ (a = 20 ∧ (j = 7 ∨ j = 8)) → (uH (uH h4 20 8 ((r + 1 : Nat) : Int)) 20 7 ((r + 1 : Nat) : Int)) a j = h4 a j := fun a j e => by rw [uH_ne (by omega), uH_ne (by omega)]
      have hC5 : CGs (uH (uH h4 20 8 ((r + 1 : Nat) : Int)) 20 7 ((r + 1 : Nat) : Int)) al3 V nV := hA4.2.1.1.ot fun a j e => u a j (by omega)
      have hA5 := hA.qf hc5.qf hC5
      have hW5 := hA5.1.1
      have hP5 : PQ 20 (uH (uH h4 20 8 ((r + 1 : Nat) : Int)) 20 7 ((r + 1 : Nat) : Int)) 2 nH nP (r + 1) lots lo vl k v st := by
        obtain ⟨p1, p2, p3, p4, p5, p6, p7⟩ := hP4
        exact ⟨(u _ _ (by omega)).trans p1, (u _ _ (by omega)).trans p2, (u _ _ (by omega)).trans p3, by rw [uH_ne (by omega), uH_at], (u _ _ (by omega)).trans p5, fun q hq => (u _ _ (by omega)).trans (p6 q hq), hA5.2.2.2.1.1⟩
      have hcw5 : CWd 20 (uH (uH h4 20 8 ((r + 1 : Nat) : Int)) 20 7 ((r + 1 : Nat) : Int)) nH nP S O P := by
        obtain ⟨c1, c2, c3⟩ := hcw4
        exact ⟨fun j hj => (u _ _ (by omega)).trans (c1 j hj), fun p hp => by rw [u _ _ (by omega)]; exact c2 p hp, fun p hp => (u _ _ (by omega)).trans (c3 p hp)⟩
      have f95 := (u 20 9 (by omega)).trans f94
      have hPB5 : PB nH nP (r + 1) lots lo vl nV v := ⟨b1, b2, by omega, b4, b5, b6, b7⟩
      have key : Call g (d + 8) yLa_pass [xr 1, xr 20, xr 2, xi 36] (uH (uH h4 20 8 ((r + 1 : Nat) : Int)) 20 7 ((r + 1 : Nat) : Int)) al3 fun x h6 al6 => XW g (d + 8) mBy_rounds (fun v h1 al1 => Call g (d + 9) yMo_rounds [xr 120, xi w] h1 al1 (Ok2 v)) 75 [some (xr 0), some (xi w), some (xi ((rbS G r).1 : Int)), some (xi (rbS G r).2), some (xi ((r + 1 : Nat) : Int)), x5] (x.toList ++ []) h6 al6 := by
        refine c_pass_a (who := 2) (n := 36) (l := r + 1) hW5 hC5 (Or.inl rfl) hP5 hPB5 hcw5 ⟨by omega, hg.2⟩ uH_at f95 (by omega) (by decide) fun h6 al6 hf6 hC6 _ _ _ => ?_
        have hA6 := hA5.qf hf6.qf hC6
        have hc6 := hc5.trans hf6.cq
        rw [← hG (r + 1)]
        have nx := fun x5 => ih (r + 1) h6 al6 x5 (by omega) hw hc6 hA6
        have erb : rbS G (r + 1) = if (rbS G r).1 = 0 ∨ (rbS G r).2 < G (r + 1) then (r + 1, G (r + 1)) else rbS G r := rfl
        rw [erb, show (r + 1 + 1 : Nat) = r + 1 + 1 from rfl, ← nS (r + 1) (by omega)] at nx
        refine XW_t4 [19] 60 okBy_rounds ?_
        refine ite_i (fun q => ?_) (fun q => ?_)
        · have q : ((rbS G r).1 : Int) = 0 := q
          rw [if_pos (Or.inl (by omega))] at nx
          exact nx _
        · have q : ¬ ((rbS G r).1 : Int) = 0 := q
          refine ite_i (fun q2 => ?_) (fun q2 => ?_)
          · have q2 : (rbS G r).2 < G (r + 1) := q2
            rw [if_pos (Or.inr q2)] at nx
            exact nx _
          · have q2 : ¬ (rbS G r).2 < G (r + 1) := q2
            have hno : ¬ ((rbS G r).1 = 0 ∨ (rbS G r).2 < G (r + 1)) := by omega
            rw [if_neg hno] at nx
            exact nx _
      obtain ⟨h4', rfl⟩ := id hW4
      exact key
  obtain ⟨h0, rfl⟩ := id hW
  refine cof ocBy_rounds rfl (XW_t4 [19] 80 okBy_rounds ?_)
  refine c_within (fun hw => ?_) (fun hw => ?_)
  · exact loop 9 0 (wr h0) al none rfl hw CQF.refl hA
  · refine cof ocMo_rounds rfl (XW_t4 [] 80 okMo_rounds ?_)
    exact c_in (fun q => absurd q hw) (fun _ => ⟨⟨_, rfl, rfl⟩, hS⟩)
theorem s_alike {n : Int} (hS : Sim h al) : Call g (d + 9) yBy_alike [xr 0, xi n] h al (fun v h1 al1 => Call g (d + 9) yMo_alike [xr 120, xi n] h1 al1 (Ok2 v)) := by
  obtain ⟨V, nV, vl, nH, nP, rd, lots, l, yr, lo, S, O, P, k, v, st, hA⟩ := hS.all
  obtain ⟨hPB, hlo, hg⟩ := hA.pb
  obtain ⟨b1, b2, b3, b4, b5, b6, b7⟩ := id hPB
  have hyr := hA.1.2.1.2.2.2.2.1.2.2.2.2
  obtain ⟨⟨hW, hN, hB⟩, -⟩ := id hA
  have e5 := hN.1.2.1.1
  have e51 := hN.1.2.1.2
  obtain ⟨h0, rfl⟩ := id hW
  refine cof ocBy_alike rfl (XW_t4 [80] 120 okBy_alike ?_)
  refine c_within (fun hn => ?_) (fun hn => ?_)
  · refine ite_i (fun q => ?_) (fun q => ?_)
    · have q : wr h0 1 5 < 1 := q
      refine cof ocMo_alike rfl (XW_t4 [] 80 okMo_alike ?_)
      refine c_in (fun _ => ?_) (fun q => absurd hn q)
      refine ite_t (show wr h0 120 1 = 0 by omega) ?_
      exact ⟨⟨_, rfl, rfl⟩, hS⟩
    · have q : ¬ wr h0 1 5 < 1 := q
      obtain ⟨nn, rfl⟩ := Int.eq_ofNat_of_zero_le (show 0 ≤ n by omega)
      refine c_become_an hW fun h2 hb hW2 => ?_
      obtain ⟨hA2, hc2, hP2, -, hcw2, f7, f9⟩ := hA.ahead hb
      obtain ⟨h2', rfl⟩ := id hW2
      refine c_pass_a (who := 2) (n := nn) hW2 hA2.2.1.1 (Or.inl rfl) hP2 hPB hcw2 hg f7 f9 (by omega) (by omega) fun h3 al3 hf3 hC3 _ _ hcw3 => ?_
      have hA3 := hA2.qf hf3.qf hC3
      have hc3 := hc2.trans hf3.cq
      have hS3 := hA.sim hS hc3.qf hC3
      have hW3 := hA3.1.1
      obtain ⟨Q, hQ⟩ : ∃ Q : Nat → Int, Q = (yNs (Vw V vl) k v st nP nH rd lots lo (l, S, O, P, 0) nn).2.2.2.1 := ⟨_, rfl⟩
      rw [← hQ] at hcw3
      have fQ : ∀ p, p < nP → h3 23 p = Q p := fun p hp => hcw3.2.2 p hp
      have e53 : h3 1 5 = (nP : Int) := hA3.1.2.1.1.2.1.1
      have hn1 : 1 ≤ nP := by omega
      -- the reference
      have mod : Call g (d + 9) yMo_alike [xr 120, xi (nn : Int)] h3 al3 (Ok2 (some (xi (wI (hiF Q (nP - 1) - loF Q (nP - 1)))))) := by
        obtain ⟨h3', rfl⟩ := id hW3
        have e3 : wr h3' 120 1 = (nP : Int) := hA3.1.2.1.1.2.1.2
        refine cof ocMo_alike rfl (XW_t4 [49] 80 okMo_alike ?_)
        refine c_in (fun _ => ?_) (fun q => absurd hn q)
        refine ite_f (show ¬ wr h3' 120 1 = 0 by omega) ?_
        refine c_asIsA hA3 fun h4 hf4 hQ4 => ?_
        have hW4 := hf4.mq.qf (al := al3) |>.wd hW3
        obtain ⟨h4', rfl⟩ := id hW4
        refine c_goYQ (n := nn) hW4 hQ4 b4 b5 hlo b1 b3 hg (by omega) fun h5 hf5 hw5 _ _ => ?_
        rw [← hQ] at hw5
        have hm5 := hf4.mq.trans hf5.mq
        have hW5 := hm5.qf (al := al3) |>.wd hW3
        have f145 : ∀ p, p < nP → h5 145 p = Q p := fun p hp => (hw5.2 p hp).2
        have e15 : h5 120 1 = (nP : Int) := (hm5 _ _ (by omega) (by omega)).trans e3
        obtain ⟨h5', rfl⟩ := id hW5
        have loop : ∀ (m j : Nat), j + 1 + m = nP → XW g (d + 8) mMo_alike (Ok2 (some (xi (wI (hiF Q (nP - 1) - loF Q (nP - 1)))))) 49 [some (xr 120), some (xi (nn : Int)), some (xi (loF Q j)), some (xi (hiF Q j)), some (xi ((j + 1 : Nat) : Int))] [] (wr h5') al3 := by
          intro m
          induction m with
          | zero =>
            intro j hj
            refine XW_t4 [49] 60 okMo_alike ?_
            refine ite_f (show ¬ ((j + 1 : Nat) : Int) < wr h5' 120 1 by rw [e15]; omega) ?_
            rw [show j = nP - 1 by omega]
            exact ⟨⟨_, rfl, rfl⟩, hA3.done hS3 hm5⟩
          | succ m ih =>
            intro j hj
            have nx := ih (j + 1) (by omega)
            rw [← nS (j + 1) (by omega)] at nx
            have el : loF Q (j + 1) = if loF Q j < Q (j + 1) then loF Q j else Q (j + 1) := by
              have e0 : loF Q (j + 1) = if Q (j + 1) < loF Q j then Q (j + 1) else loF Q j := rfl
              rw [e0]
              split <;> split <;> omega
            have eh : hiF Q (j + 1) = if hiF Q j < Q (j + 1) then Q (j + 1) else hiF Q j := rfl
            have f1 := f145 (j + 1) (by omega)
            refine XW_t4 [49] 60 okMo_alike ?_
            refine ite_t (show ((j + 1 : Nat) : Int) < wr h5' 120 1 by rw [e15]; omega) ?_
            refine ⟨j + 1, rfl, by show j + 1 < 6; omega, _, f1, ?_⟩
            refine c_Momin ?_
            rw [← el]
            refine ⟨j + 1, rfl, by show j + 1 < 6; omega, _, f1, ?_⟩
            refine ite_i (fun q => ?_) (fun q => ?_)
            · have q : hiF Q j < Q (j + 1) := q
              rw [if_pos q] at eh
              rw [eh] at nx
              refine ⟨j + 1, rfl, by show j + 1 < 6; omega, _, f1, ?_⟩
              exact nx
            · have q : ¬ hiF Q j < Q (j + 1) := q
              rw [if_neg q] at eh
              rw [eh] at nx
              exact nx
        refine ⟨0, rfl, by show 0 < 6; omega, _, f145 0 (by omega), ?_⟩
        refine ⟨0, rfl, by show 0 < 6; omega, _, f145 0 (by omega), ?_⟩
        exact loop (nP - 1) 0 (by omega)
      obtain ⟨h3', rfl⟩ := id hW3
      have loop : ∀ (m j : Nat), j + 1 + m = nP → XW g (d + 8) mBy_alike (fun v h1 al1 => Call g (d + 9) yMo_alike [xr 120, xi (nn : Int)] h1 al1 (Ok2 v)) 80 [some (xr 0), some (xi (nn : Int)), some (xi (hiF Q j)), some (xi (loF Q j)), some (xi ((j + 1 : Nat) : Int))] [] (wr h3') al3 := by
        intro m
        induction m with
        | zero =>
          intro j hj
          refine XW_t4 [80] 60 okBy_alike ?_
          refine ite_f (show ¬ ((j + 1 : Nat) : Int) < wr h3' 1 5 by rw [e53]; omega) ?_
          rw [show j = nP - 1 by omega]
          exact mod
        | succ m ih =>
          intro j hj
          have nx := ih (j + 1) (by omega)
          rw [← nS (j + 1) (by omega)] at nx
          have el : loF Q (j + 1) = if Q (j + 1) < loF Q j then Q (j + 1) else loF Q j := rfl
          have eh : hiF Q (j + 1) = if hiF Q j < Q (j + 1) then Q (j + 1) else hiF Q j := rfl
          have f1 := fQ (j + 1) (by omega)
          refine XW_t4 [80] 60 okBy_alike ?_
          refine ite_t (show ((j + 1 : Nat) : Int) < wr h3' 1 5 by rw [e53]; omega) ?_
          refine c_atE rfl rfl (by show j + 1 < 6; omega) f1 ?_
          refine c_max ?_
          rw [← eh]
          refine c_atE rfl rfl (by show j + 1 < 6; omega) f1 ?_
          refine c_min ?_
          rw [← el]
          exact nx
      refine ⟨0, rfl, by show 0 < 6; omega, _, fQ 0 (by omega), ?_⟩
      refine ⟨0, rfl, by show 0 < 6; omega, _, fQ 0 (by omega), ?_⟩
      exact loop (nP - 1) 0 (by omega)
  · refine cof ocMo_alike rfl (XW_t4 [] 80 okMo_alike ?_)
    exact c_in (fun q => absurd q hn) (fun _ => ⟨⟨_, rfl, rfl⟩, hS⟩)
end Q3
