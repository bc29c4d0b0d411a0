-- go
theorem yNs_l {V : List Cl} {k v : Nat → Int} {st : Nat → Nat → Int} {nP nH rd lots : Nat} {lo : Nat → Nat} {Z : YZ} (h : Z.1 ≤ rd) (n : Nat) : (yNs V k v st nP nH rd lots lo Z n).1 ≤ rd := by
  induction n with
  | zero => exact h
  | succ n ih =>
    unfold yNs yN
    split
    · show (yNs V k v st nP nH rd lots lo Z n).1 - 1 ≤ rd
      omega
    · exact Nat.le_refl _
section Q4
variable {g : GC} {d : Nat} {h : HH} {al : AL}
set_option maxRecDepth 8000 in
theorem s_go {n : Int} (hS : Sim h al) (hn32 : I32 n) : Call g (d + 9) yBy_go [xr 0, xi n] h al (fun v h1 al1 => Call g (d + 9) yMo_go [xr 120, xi n] h1 al1 (Ok2 v)) := by
  obtain ⟨V, nV, vl, nH, nP, rd, lots, l, yr, lo, S, O, P, k, v, st, hA⟩ := hS.all
  obtain ⟨hPB, hlo, hg⟩ := hA.pb
  obtain ⟨b1, b2, b3, b4, b5, b6, b7⟩ := id hPB
  obtain ⟨⟨hW, hN, hB⟩, ⟨hG, hM, q0, hz⟩, ⟨⟨e1, e2, e3⟩, hv, h5⟩, ⟨w2, w3⟩, hr⟩ := id hA
  obtain ⟨⟨⟨a1, a2⟩, ⟨a3, a4⟩, a5, a6⟩, ⟨c1, c4, c5⟩, ⟨m1, m2⟩, -, ⟨⟨l1, l2, l3⟩, ⟨d1, d2, d3, d4⟩, y1, y2, y3⟩, o1, o2, o3, o4, o5⟩ := id hN
  obtain ⟨h0, rfl⟩ := id hW
  refine cof ocBy_go rfl (XW_t4 [] 80 okBy_go ?_)
  refine c_within (fun hn => ?_) (fun hn => ?_)
  · obtain ⟨nn, rfl⟩ := Int.eq_ofNat_of_zero_le (show 0 ≤ n by omega)
    have ey : ∀ _ : Unit, wI ((yr : Int) + (nn : Int)) = ((yr + nn : Nat) : Int) := fun _ => by rw [wI_id (by omega)]; omega
    refine ite_i (fun q => ?_) (fun q => ?_)
    · have q : (999 : Int) < wI (wr h0 10 9 + (nn : Int)) := q
      rw [y1, ey ()] at q
      refine cof ocMo_go rfl (XW_t4 [20] 80 okMo_go ?_)
      refine c_in (fun _ => ?_) (fun q => absurd hn q)
      show XW g (d + 8) mMo_go (Ok2 (some (xi (-3)))) 20 [some (xr 120), some (xi (nn : Int)), none] [xi (wI (wr h0 120 4 + (nn : Int)))] (wr h0) al
      rw [y2, ey ()]
      refine XW_t4 [] 80 okMo_go ?_
      refine ite_t (by omega) ?_
      exact ⟨⟨_, rfl, rfl⟩, hS⟩
    · have q : ¬ (999 : Int) < wI (wr h0 10 9 + (nn : Int)) := q
      rw [y1, ey ()] at q
      refine c_pass_n (who := 2) (n := nn) (lots := lots) (lo := lo) (rd := rd) hW hG (Or.inl rfl) ⟨a3, a1, o1, d1, e1, fun q hq => (o4 q hq).1, w2⟩ hPB c1 hg l1 y1 (by omega) (by omega) fun h2 al2 hf2 hC2 f9 f7 hcw2 => ?_
      have hZ : gdZ nH nP (yNs (Vw V vl) k v st nP nH rd lots lo (l, S, O, P, 0) nn) := yNs_ok ⟨hg, by show I32 0; unfold I32; omega⟩ b7 b3 b5 nn
      have hZl : (yNs (Vw V vl) k v st nP nH rd lots lo (l, S, O, P, 0) nn).1 ≤ rd := yNs_l l3 nn
      have hW2 := hf2.wd (by decide) hW
      have u : ∀ a j, 78 ≤ a → ¬ qp a j → h2 a j = wr h0 a j := fun a j e1 e2 => hf2.1 a j (tG_q e2) (by omega) (by omega) (by omega) (by omega)
      have u0 : ∀ a j, tG a = false → ¬ (10 ≤ a ∧ a ≤ 13) → h2 a j = wr h0 a j := fun a j e1 e2 => hf2.1 a j e1 (by omega) (by omega) (by omega) (by omega)
      -- the reference
      have hMN : MNf h2 nH nP rd lots l lo S O P := ⟨⟨(u0 _ _ rfl (by omega)).trans a2, (u0 _ _ rfl (by omega)).trans a4, a6, a5⟩, ⟨fun j hj => ⟨(u0 _ _ rfl (by omega)).trans (m1 j hj).1, (u0 _ _ rfl (by omega)).trans (m1 j hj).2⟩, fun p hp => ⟨(u0 _ _ rfl (by omega)).trans (m2 p hp).1, (u0 _ _ rfl (by omega)).trans (m2 p hp).2⟩⟩, ⟨(u0 _ _ rfl (by omega)).trans l2, (u0 _ _ rfl (by omega)).trans d2⟩, (u0 _ _ rfl (by omega)).trans o2, fun q hq => (u0 _ _ rfl (by omega)).trans (o4 q hq).2.1⟩
      have hz2 : MZ h2 (Vw V vl) q0 := hz.fr fun a j q => by
        unfold tQ inR at q
        simp only [Bool.or_eq_true, Bool.and_eq_true, Nat.ble_eq, Nat.beq_eq] at q
        exact u a j (by omega) (by unfold qp; omega)
      have hr2 : ∀ p : Nat, p < 6 → p < nP → (h2 123 p = k p ∧ h2 124 p = v p) ∧ ((0 ≤ h2 123 p ∧ h2 123 p ≤ 6) ∧ (0 ≤ h2 124 p ∧ h2 124 p ≤ 9) ∧ ∀ l : Nat, l < 10 → h2 127 (10 * p + l) = st p l ∧ -1 ≤ h2 127 (10 * p + l) ∧ h2 127 (10 * p + l) ≤ 2) := fun p _ hp => by
        obtain ⟨r1, r2, r3⟩ := hr p hp
        rw [u0 123 p rfl (by omega), u0 124 p rfl (by omega)]
        refine ⟨⟨r1.1, r2.1⟩, by omega, by omega, fun ll hll => ?_⟩
        rw [u0 127 _ rfl (by omega)]
        have := r3 ll hll
        omega
      have hgd2 : (yNs (Vw V vl) k v st nP nH rd lots lo (l, S, O, P, 0) nn) = (yNs (Vw V vl) k v st nP nH rd lots lo (l, S, O, P, 0) nn) := rfl
      clear hgd2
      obtain ⟨h2', rfl⟩ := id hW2
      have e4 : wr h2' 120 4 = (yr : Int) := (u0 _ _ rfl (by omega)).trans y2
      refine cof ocMo_go rfl (XW_t4 [20] 80 okMo_go ?_)
      refine c_in (fun _ => ?_) (fun q => absurd hn q)
      show XW g (d + 8) mMo_go (Ok2 (some (xi (wr h2' 10 9)))) 20 [some (xr 120), some (xi (nn : Int)), none] [xi (wI (wr h2' 120 4 + (nn : Int)))] (wr h2') al2
      rw [e4, ey (), f9]
      refine XW_t4 [58] 120 okMo_go ?_
      refine ite_f (by omega) ?_
      refine c_asIs hW2 hMN hz2 (fun p h6 hp => ⟨(hr2 p h6 hp).2.1, (hr2 p h6 hp).2.2.1, fun ll hll => ((hr2 p h6 hp).2.2.2 ll hll).2⟩) fun h3 hf3 hMC3 hQ3 => ?_
      have hW3 := hf3.mq.qf (al := al2) |>.wd hW2
      obtain ⟨h3', rfl⟩ := id hW3
      have hQ3' : ASK (wr h3') (Vw V vl) (lastL (Vw V vl) 3 0) k v st nH nP rd lots l lo S O P := by
        obtain ⟨⟨⟨x0, x1⟩, x2, x3⟩, xM, xW, xQ, x6⟩ := hQ3
        refine ⟨⟨⟨x0, x1⟩, x2, fun p hp => ?_⟩, hMC3 _, xW, xQ, x6⟩
        obtain ⟨z1, z2, z3⟩ := x3 p hp
        obtain ⟨⟨r1, r2⟩, r3, r4, r5⟩ := hr2 p (by omega) hp
        exact ⟨⟨z1.1.trans r1, by rw [← r1]; exact r3⟩, ⟨z2.1.trans r2, by rw [← r2]; exact r4⟩, fun ll hll => by
          have t1 : wr h3' 127 (10 * p + ll) = wr h2' 127 (10 * p + ll) := (z3 ll hll).1
          have t2 := r5 ll hll
          exact ⟨t1.trans t2.1, by omega, by omega⟩⟩
      refine c_goYQ (n := nn) hW3 hQ3' b4 b5 hlo b1 b3 hg (by omega) fun h4 hf4 hw4 f36 _ => ?_
      have hm4 := hf3.mq.trans hf4.mq
      have hW4 := hm4.qf (al := al2) |>.wd hW2
      generalize yNs (Vw V vl) k v st nP nH rd lots lo (l, S, O, P, 0) nn = Z at hZ hZl hcw2 f7 hw4 f36
      -- all is taken over
      have copy : ∀ (m j : Nat) (h6 : HH), j + m = 6 → (∀ a i, ¬ (a = 121 ∨ a = 122 ∨ a = 125 ∨ a = 126) → ¬ (a = 120 ∧ 3 ≤ i ∧ i ≤ 4) → h6 a i = h4 a i) → h6 120 4 = ((yr + nn : Nat) : Int) → h6 120 3 = (Z.1 : Int) → (∀ i, i < j → h6 121 i = h4 142 i ∧ h6 122 i = h4 143 i ∧ h6 125 i = h4 144 i ∧ h6 126 i = h4 145 i) →
          XW g (d + 8) mMo_go (Ok2 (some (xi ((yr + nn : Nat) : Int)))) 58 [some (xr 120), some (xi (nn : Int)), some (xi (j : Int))] [] h6 al2 := by
        intro m
        induction m with
        | zero =>
          intro j h6 hj fa g4 g3 gr
          have hW6 : Wd h6 := hW4.of fun a i hk => fa a i (by
            rintro (rfl | rfl | rfl | rfl) <;> exact hk (by show (-9 : Int) < 0; decide)) (by
            rintro ⟨rfl, q1, q2⟩
            have : i = 3 ∨ i = 4 := by omega
            rcases this with rfl | rfl <;> exact hk (by decide))
          -- from the beginning to the end
          have fall : ∀ a i, ¬ nwq a i → h6 a i = wr h0 a i := fun a i e => by
            unfold nwq qp at e
            rw [fa a i (by omega) (by omega), hm4 a i (by omega) (by omega)]
            exact hf2.1 a i (tG_q (k := i) (by unfold qp; omega)) (by omega) (by omega) (by omega) (by omega)
          have fc : ∀ a i, a < 80 → a ≠ 5 → h6 a i = wr h2' a i := fun a i e e2 => (fa a i (by omega) (by omega)).trans (hm4 a i (by omega) (by omega))
          have hC6 : CGs h6 al2 V nV := hC2.ot fun a i e => (fa a i (by omega) (by omega)).trans (hm4 a i (by omega) (by omega))
          have hNW : NWf h6 nH nP rd lots Z.1 (yr + nn) lo Z.2.1 Z.2.2.1 Z.2.2.2.1 := by
            obtain ⟨x1, x2, x3⟩ := hcw2
            refine ⟨⟨⟨(fall _ _ (by unfold nwq qp; omega)).trans a1, (fall _ _ (by unfold nwq qp; omega)).trans a2⟩, ⟨(fall _ _ (by unfold nwq qp; omega)).trans a3, (fall _ _ (by unfold nwq qp; omega)).trans a4⟩, a5, a6⟩, ⟨⟨fun j hj => ?_, fun p hp => ?_, fun p hp => ?_⟩, fun j e1 e2 => ?_, fun j e1 e2 => ?_⟩, ⟨fun j hj => ?_, fun p hp => ?_⟩, hZ.1, ⟨⟨?_, g3, hZl⟩, ⟨?_, (fall _ _ (by unfold nwq qp; omega)).trans d2, d3, d4⟩, ?_, g4, ?_⟩, ?_, (fall _ _ (by unfold nwq qp; omega)).trans o2, o3, fun q hq => ⟨?_, (fall _ _ (by unfold nwq qp; omega)).trans (o4 q hq).2.1, (o4 q hq).2.2⟩, o5⟩
            · rw [fc _ _ (by omega) (by omega)]; exact x1 j hj
            · rw [fc _ _ (by omega) (by omega)]; exact x2 p hp
            · rw [fc _ _ (by omega) (by omega)]; exact x3 p hp
            · rw [fc _ _ (by omega) (by omega), hf2.1 11 j rfl (by omega) (by omega) (by omega) (by omega)]; exact c4 j e1 e2
            · rw [fc _ _ (by omega) (by omega), hf2.1 13 j rfl (by omega) (by omega) (by omega) (by omega)]; exact c5 j e1 e2
            · obtain ⟨s1, s2, -⟩ := gr j (by omega)
              exact ⟨s1.trans (hw4.1 j hj).1, s2.trans (hw4.1 j hj).2⟩
            · obtain ⟨-, -, s3, s4⟩ := gr p (by omega)
              exact ⟨s3.trans (hw4.2 p hp).1, s4.trans (hw4.2 p hp).2⟩
            · rw [fc _ _ (by omega) (by omega)]; exact f7
            · rw [fc _ _ (by omega) (by omega), hf2.1 10 8 rfl (by omega) (by omega) (by omega) (by omega)]; exact d1
            · rw [fc _ _ (by omega) (by omega)]; exact f9
            · omega
            · rw [fc _ _ (by omega) (by omega), hf2.1 10 5 rfl (by omega) (by omega) (by omega) (by omega)]; exact o1
            · rw [fc _ _ (by omega) (by omega), hf2.1 14 q rfl (by omega) (by omega) (by omega) (by omega)]; exact (o4 q hq).1
          have hBK : BKf h6 := by
            unfold BKf
            rw [fall 10 6 (by unfold nwq qp; omega), fall 120 6 (by unfold nwq qp; omega)]
            refine ⟨hB.1, fun i h1 h2 => ?_⟩
            rw [fall 15 i (by unfold nwq qp; omega), fall 129 i (by unfold nwq qp; omega)]
            exact hB.2 i h1 h2
          have done : Sim h6 al2 := by
            subst e3
            exact hS.qn hM fall hf2.2 hW6 (SN.of hNW hBK) hC6
          obtain ⟨h6', rfl⟩ := id hW6
          refine XW_t4 [58] 60 okMo_go ?_
          refine ite_f (by omega) ?_
          exact ⟨⟨_, rfl, by rw [← g4]⟩, done⟩
        | succ m ih =>
          intro j h6 hj fa g4 g3 gr
          have hW6 : Wd h6 := hW4.of fun a i hk => fa a i (by
            rintro (rfl | rfl | rfl | rfl) <;> exact hk (by show (-9 : Int) < 0; decide)) (by
            rintro ⟨rfl, q1, q2⟩
            have : i = 3 ∨ i = 4 := by omega
            rcases this with rfl | rfl <;> exact hk (by decide))
          have f6 : ∀ a i, 142 ≤ a → h6 a i = h4 a i := fun a i e => fa a i (by omega) (by omega)
          have next : ∀ z1 z2 z3 z4, z1 = h4 142 j → z2 = h4 143 j → z3 = h4 144 j → z4 = h4 145 j → XW g (d + 8) mMo_go (Ok2 (some (xi ((yr + nn : Nat) : Int)))) 58 [some (xr 120), some (xi (nn : Int)), some (xi (wI ((j : Int) + 1)))] [] (uH (uH (uH (uH h6 121 j z1) 122 j z2) 125 j z3) 126 j z4) al2 := fun z1 z2 z3 z4 e1 e2 e3 e4 => by
            rw [nS j (by omega)]
            refine ih (j + 1) _ (by omega) (fun a i q1 q2 => by rw [uH_ne (by omega), uH_ne (by omega), uH_ne (by omega), uH_ne (by omega)]; exact fa a i q1 q2) (by rw [uH_ne (by omega), uH_ne (by omega), uH_ne (by omega), uH_ne (by omega)]; exact g4) (by rw [uH_ne (by omega), uH_ne (by omega), uH_ne (by omega), uH_ne (by omega)]; exact g3) (fun i hi => ?_)
            have w1 : uH (uH (uH (uH h6 121 j z1) 122 j z2) 125 j z3) 126 j z4 121 i = if i = j then z1 else h6 121 i := by rw [uH_ne (by omega), uH_ne (by omega), uH_ne (by omega), uH_r]
            have w2 : uH (uH (uH (uH h6 121 j z1) 122 j z2) 125 j z3) 126 j z4 122 i = if i = j then z2 else h6 122 i := by rw [uH_ne (by omega), uH_ne (by omega), uH_r, uH_ne (by omega)]
            have w3 : uH (uH (uH (uH h6 121 j z1) 122 j z2) 125 j z3) 126 j z4 125 i = if i = j then z3 else h6 125 i := by rw [uH_ne (by omega), uH_r, uH_ne (by omega), uH_ne (by omega)]
            have w4 : uH (uH (uH (uH h6 121 j z1) 122 j z2) 125 j z3) 126 j z4 126 i = if i = j then z4 else h6 126 i := by rw [uH_r, uH_ne (by omega), uH_ne (by omega), uH_ne (by omega)]
            rw [w1, w2, w3, w4]
            by_cases e : i = j
            · rw [if_pos e, if_pos e, if_pos e, if_pos e, e]
              exact ⟨e1, e2, e3, e4⟩
            · rw [if_neg e, if_neg e, if_neg e, if_neg e]
              exact gr i (by omega)
          have j6 : j < 6 := by omega
          obtain ⟨h6', rfl⟩ := id hW6
          refine XW_t4 [58] 80 okMo_go ?_
          refine ite_t (by omega) ?_
          refine ⟨j, rfl, by show j < 6; exact j6, _, rfl, ?_⟩
          refine ⟨j, rfl, by show j < 6; exact j6, ?_⟩
          refine ⟨j, rfl, by show j < 6; exact j6, _, rfl, ?_⟩
          refine ⟨j, rfl, by show j < 6; exact j6, ?_⟩
          refine ⟨j, rfl, by show j < 6; exact j6, _, rfl, ?_⟩
          refine ⟨j, rfl, by show j < 6; exact j6, ?_⟩
          refine ⟨j, rfl, by show j < 6; exact j6, _, rfl, ?_⟩
          refine ⟨j, rfl, by show j < 6; exact j6, ?_⟩
          exact next _ _ _ _ (f6 142 j (by omega)) (f6 143 j (by omega)) (f6 144 j (by omega)) (f6 145 j (by omega))
      have g4 : h4 120 4 = (yr : Int) := (hm4 _ _ (by omega) (by omega)).trans e4
      have t := copy 6 0 (uH (uH h4 120 4 (wI (h4 120 4 + (nn : Int)))) 120 3 (h4 120 36)) rfl (fun a i q1 q2 => by rw [uH_ne (by omega), uH_ne (by omega)]) (by rw [uH_ne (by omega), uH_at, g4, ey ()]) (by rw [uH_at]; exact f36) (fun i hi => absurd hi (by omega))
      obtain ⟨h4', rfl⟩ := id hW4
      exact t
  · refine cof ocMo_go rfl (XW_t4 [] 80 okMo_go ?_)
    exact c_in (fun q => absurd q hn) (fun _ => ⟨⟨_, rfl, rfl⟩, hS⟩)
end Q4
