-- best: both sides
section BS4
variable {g : GC} {d : Nat} {h h2 : HH} {al : AL} {K : KT}
variable {V : Nat → List Cl} {nV vl : Int} {nH nP rd lots l yr : Nat} {lo S : Nat → Nat} {O P k v : Nat → Int} {st : Nat → Nat → Int}
theorem ALLf.dr (hA : ALLf h al V nV vl nH nP rd lots l yr lo S O P k v st) (hf : ∀ a j, ¬ (a = 50 ∧ 3 ≤ j) → a ≠ 51 → a ≠ 52 → a ≠ 53 → h2 a j = h a j) : ALLf h2 al V nV vl nH nP rd lots l yr lo S O P k v st ∧ CQF h al h2 al := by
  have hq : CQF h al h2 al := ⟨fun a j _ e => hf a j (by omega) (by omega) (by omega) (by omega), fun _ _ => rfl⟩
  exact ⟨hA.qf hq.qf (hA.2.1.1.ot fun a j e => hf a j (by omega) (by omega) (by omega) (by omega)), hq⟩
set_option maxRecDepth 8000 in
theorem s_best {q : Int} (hS : Sim h al) : Call g (d + 10) yBy_best [xr 0, xi q] h al (fun v h1 al1 => Call g (d + 10) yMo_best [xr 120, xi q] h1 al1 (Ok2 v)) := by
  obtain ⟨V, nV, vl, nH, nP, rd, lots, l, yr, lo, S, O, P, k, v, st, hA⟩ := hS.all
  obtain ⟨hPB, hlo, hg⟩ := hA.pb
  obtain ⟨b1, b2, b3, b4, b5, b6, b7⟩ := id hPB
  obtain ⟨⟨hW, hN, hB⟩, -⟩ := id hA
  obtain ⟨L, eL⟩ : ∃ L, L = min nP nH := ⟨_, rfl⟩
  have hL6 : L ≤ 6 := by omega
  have hLP : L ≤ nP := by omega
  have hLB : L ≤ nH := by omega
  obtain ⟨wt, ewt⟩ : ∃ wt, wt = wtB (Vw V vl) rd S P k v st := ⟨_, rfl⟩
  obtain ⟨s, es⟩ : ∃ s, s = GB wt nH L (nH ^ L) := ⟨_, rfl⟩
  have hany : s.1 = true := by rw [es]; exact GB_done hLB
  -- the reference
  have mod : ∀ (h2 : HH) (al2 : AL) (z : Int), ALLf h2 al2 V nV vl nH nP rd lots l yr lo S O P k v st → Sim h2 al2 → (q = -1 ∨ (0 ≤ q ∧ q < (nP : Int))) → z = (if q = -1 then s.2.1 else if q < (L : Int) then (s.2.2 q.toNat : Int) else -5) → Call g (d + 10) yMo_best [xr 120, xi q] h2 al2 (Ok2 (some (xi z))) := by
    intro h2 al2 z hA2 hS2 hq hz
    obtain ⟨⟨hW2, hN2, -⟩, -⟩ := id hA2
    obtain ⟨-, -, ⟨m1, m2⟩, ⟨g1, g2, g3, g4, g5⟩, ⟨-, ⟨-, d2, -⟩, -⟩, -⟩ := id hN2
    have eP := hN2.1.2.1.2
    have eH := hN2.1.1.2
    have fin : ∀ (h4 h5 : HH) (x6 x7 x8 x9 x10 x11 : Option XV) (cs : Int), MQF h2 h5 → RSB h5 L s → XW g (d + 9) mMo_best (Ok2 (some (xi z))) 263 [some (xr 120), some (xi q), some (xi (L : Int)), some (xi cs), some (xi (flB s)), some (xi s.2.1), x6, x7, x8, x9, x10, x11] [] h5 al2 := by
      intro h4 h5 x6 x7 x8 x9 x10 x11 cs hm5 hs5
      have done := hA2.done hS2 hm5
      have hW5 := (hm5.qf (al := al2)).wd hW2
      have e155 := hs5 hany
      obtain ⟨h5', rfl⟩ := id hW5
      refine XW_t4 [263] 40 okMo_best ?_
      refine ite_i (fun q1 => ?_) (fun q1 => ?_)
      · have q1 : q = -1 := q1
        rw [if_pos q1] at hz
        exact ⟨⟨z, rfl, by rw [hz]⟩, done⟩
      · have q1 : ¬ q = -1 := q1
        rw [if_neg q1] at hz
        refine ite_i (fun q2 => ?_) (fun q2 => ?_)
        · have q2 : q < (L : Int) := q2
          rw [if_pos q2] at hz
          refine ⟨q.toNat, by omega, by show q.toNat < 6; omega, _, e155 q.toNat (by omega), ?_⟩
          exact ⟨⟨z, rfl, by rw [hz]⟩, done⟩
        · have q2 : ¬ q < (L : Int) := q2
          rw [if_neg q2] at hz
          exact ⟨⟨z, rfl, by rw [hz]⟩, done⟩
    have go : ∀ h4 : HH, AF h2 h4 → ASK h4 (Vw V vl) (lastL (Vw V vl) 3 0) k v st nH nP rd lots l lo S O P → ∀ li : Int, li = (L : Int) → XW g (d + 9) mMo_best (Ok2 (some (xi z))) 38 [some (xr 120), some (xi q), some (xi li), some (xi 1), some (xi 0), none, none, none, none, none, none, none] [] h4 al2 := by
      intro h4 hf4 hQ4 li eli
      subst eli
      have hm4 := hf4.mq
      have hA4 := hA2.mq hm4
      obtain ⟨⟨hW4, hN4, -⟩, -⟩ := id hA4
      obtain ⟨-, -, ⟨m14, m24⟩, -, ⟨-, ⟨-, d24, -⟩, -⟩, -⟩ := id hN4
      have hbs : BSB h4 nH nP rd S P := ⟨hW4, hN4.1.1.2, d24, b3, fun j hj => ⟨(m14 j hj).1, g2 j hj⟩, g5⟩
      have t := l_bestN (VL := Vw V vl) (k := k) (v := v) (st := st) (g := g) (d := d + 1) (al := al2) (K := Ok2 (some (xi z))) (q := q) hbs b1 hL6 hLP hLB ⟨MQF.refl, hQ4.1, hQ4.2.1, fun p hp => (hQ4.2.2.1.2 p hp).2⟩ (fun h5 x6 x7 x8 x9 x10 x11 hf5 hs5 cs => by
        rw [← ewt, ← es] at hs5 ⊢
        exact fin h4 h5 x6 x7 x8 x9 x10 x11 cs (hm4.trans hf5.1) hs5) L 0 (by omega)
      rw [Nat.pow_zero] at t
      exact t
    have go2 : ∀ h4 : HH, AF h2 h4 → ASK h4 (Vw V vl) (lastL (Vw V vl) 3 0) k v st nH nP rd lots l lo S O P → XW g (d + 9) mMo_best (Ok2 (some (xi z))) 20 [some (xr 120), some (xi q), none, none, none, none, none, none, none, none, none, none] [] h4 al2 := by
      intro h4 hf4 hQ4
      have t := go h4 hf4 hQ4
      have e0 : h4 120 0 = (nH : Int) := (hf4 _ _ (by omega) (by omega)).trans eH
      have e1 : h4 120 1 = (nP : Int) := (hf4 _ _ (by omega) (by omega)).trans eP
      have hW4 := hf4.mq.qf (al := al2) |>.wd hW2
      obtain ⟨h4', rfl⟩ := id hW4
      refine XW_t4 [38] 40 okMo_best ?_
      refine c_Momin ?_
      exact t _ (by rw [e0, e1, eL]; split <;> omega)
    obtain ⟨h2', rfl⟩ := id hW2
    refine cof ocMo_best rfl (XW_t4 [16, 20] 40 okMo_best ?_)
    refine ite_i (fun q1 => ?_) (fun q1 => ?_)
    · refine XW_t4 [20] 40 okMo_best ?_
      exact c_asIsA hA2 fun h4 hf4 hQ4 => go2 h4 hf4 hQ4
    · have q1 : ¬ q = -1 := q1
      refine c_isHolderA hA2 (fun pn e1 e2 _ => ?_) (fun hno => absurd hq (by omega))
      refine XW_t4 [20] 40 okMo_best ?_
      exact c_asIsA hA2 fun h4 hf4 hQ4 => go2 h4 hf4 hQ4
  -- the class, behind the search
  have after : ∀ (h4 : HH) (al4 : AL) (x2 x3 x4 : Option XV), (q = -1 ∨ (0 ≤ q ∧ q < (nP : Int))) → CQF h al h4 al4 → ALLf h4 al4 V nV vl nH nP rd lots l yr lo S O P k v st → (∀ i j, i < nP → j < nH → h4 51 (6 * i + j) = wt i j) →
      XW g (d + 9) mBy_best (fun v h1 al1 => Call g (d + 10) yMo_best [xr 120, xi q] h1 al1 (Ok2 v)) 110 [some (xr 0), some (xi q), x2, x3, x4] [] h4 al4 := by
    intro h4 al4 x2 x3 x4 hq hc4 hA4 h51
    obtain ⟨⟨hW4, hN4, -⟩, -⟩ := id hA4
    have e5 : h4 1 5 = (nP : Int) := hN4.1.2.1.1
    have e6 : h4 1 6 = (nH : Int) := hN4.1.1.1
    have k131 : ∀ h5 : HH, (∀ a j, ¬ (a = 50 ∧ 3 ≤ j) → a ≠ 52 → a ≠ 53 → h5 a j = h4 a j) → h5 50 3 = (L : Int) → DS h5 L s → XW g (d + 9) mBy_best (fun v h1 al1 => Call g (d + 10) yMo_best [xr 120, xi q] h1 al1 (Ok2 v)) 131 [some (xr 0), some (xi q), x2, x3, x4] [] h5 al4 := by
      intro h5 hf5 e3 hs5
      obtain ⟨hA5, hq5⟩ := hA4.dr fun a j e1 _ e2 e3 => hf5 a j e1 e2 e3
      have hS5 := hA.sim hS (hc4.trans hq5).qf hA5.2.1.1
      obtain ⟨s1, s2, s3⟩ := hs5
      have hW5 := hA5.1.1
      have md := fun z => mod h5 al4 z hA5 hS5 hq
      obtain ⟨h5', rfl⟩ := id hW5
      refine XW_t4 [110] 60 okBy_best ?_
      refine ite_i (fun q1 => ?_) (fun q1 => ?_)
      · have q1 : q = -1 := q1
        exact md _ (by rw [if_pos q1]; exact s2)
      · have q1 : ¬ q = -1 := q1
        refine ite_i (fun q2 => ?_) (fun q2 => ?_)
        · have q2 : q < wr h5' 50 3 := q2
          rw [e3] at q2
          refine c_atE (o := 53) (j := q.toNat) rfl (by omega) (by show q.toNat < 6; omega) (s3 hany q.toNat (by omega)) ?_
          exact md _ (by rw [if_neg q1, if_pos q2])
        · have q2 : ¬ q < wr h5' 50 3 := q2
          rw [e3] at q2
          exact md _ (by rw [if_neg q1, if_neg q2])
    obtain ⟨h4', rfl⟩ := id hW4
    refine XW_t4 [131] 60 okBy_best ?_
    exact c_find (wt := wt) (B := nH) (nP := nP) (L := L) b1 b2 eL e5 e6 hW4 h51 fun h5 hf5 e3 hs5 => k131 h5 hf5 e3 (by rw [es]; exact hs5)
  -- one holder's row
  have rowH : ∀ (j ho : Nat), j < nP → HN ho → (∀ (h4 : HH) (al4 : AL) (n4 : Int), CQF h al h4 al4 → ALLf h4 al4 V nV vl nH nP rd lots l yr lo S O P k v st → (∀ i n, i < j + 1 → n < nH → h4 51 (6 * i + n) = wt i n) → XW g (d + 9) mBy_best (fun v h1 al1 => Call g (d + 10) yMo_best [xr 120, xi q] h1 al1 (Ok2 v)) 104 [some (xr 0), some (xi q), some (xi (j : Int)), some (xr (Int.ofNat ho)), some (xi n4)] [] h4 al4) →
      ∀ (r n : Nat) (h3 : HH) (al3 : AL), n + r = nH → CQF h al h3 al3 → ALLf h3 al3 V nV vl nH nP rd lots l yr lo S O P k v st → (∀ i n2, (i < j ∨ (i = j ∧ n2 < n)) → n2 < nH → h3 51 (6 * i + n2) = wt i n2) → HF h3 ho (j : Int) (k j) (v j) (st j) →
      XW g (d + 9) mBy_best (fun v h1 al1 => Call g (d + 10) yMo_best [xr 120, xi q] h1 al1 (Ok2 v)) 44 [some (xr 0), some (xi q), some (xi (j : Int)), some (xr (Int.ofNat ho)), some (xi (n : Int))] [] h3 al3 := by
    intro j ho hj hh go r
    induction r with
    | zero =>
      intro n h3 al3 hn hc3 hA3 h51 hF
      have en : n = nH := by omega
      subst en
      have t := go h3 al3 (n : Int) hc3 hA3 (fun i n2 q1 q2 => h51 i n2 (by omega) q2)
      have e6 : h3 1 6 = (n : Int) := hA3.1.2.1.1.1.1
      have hW3 := hA3.1.1
      obtain ⟨h3', rfl⟩ := id hW3
      refine XW_t4 [44, 104] 60 okBy_best ?_
      refine ite_f (show ¬ (n : Int) < wr h3' 1 6 by rw [e6]; omega) ?_
      exact t
    | succ r ih =>
      intro n h3 al3 hn hc3 hA3 h51 hF
      have hn6 : n < 6 := by omega
      have hj6 : j < 6 := by omega
      have e6 : h3 1 6 = (nH : Int) := hA3.1.2.1.1.1.1
      have e8 : h3 10 8 = (rd : Int) := hA3.1.2.1.2.2.2.2.1.2.1.1
      have hW3 := hA3.1.1
      have nx := fun h4 al4 a b c e => ih (n + 1) h4 al4 (by omega) a b c e
      obtain ⟨h3', rfl⟩ := id hW3
      refine XW_t4 [44, 104] 80 okBy_best ?_
      refine ite_t (show (n : Int) < wr h3' 1 6 by rw [e6]; omega) ?_
      refine c_worthA (ln := rd) (j := n) hA3 hh hF hj rfl (by omega) e8 b3 fun h4 al4 hc4 hA4 => ?_
      have hc34 := hc3.trans hc4.cq
      have hF4 := hF.cf hh hc4
      have h514 : ∀ x, h4 51 x = wr h3' 51 x := fun x => hc4.1 51 x (by decide)
      have hW4 := hA4.1.1
      obtain ⟨hA5, hq5⟩ := hA4.dr (h2 := uH h4 51 (6 * j + n) (wt j n)) fun a x _ e1 _ _ => uH_ne fun e => e1 e.1
      have hb := hh.b
      have t := nx (uH h4 51 (6 * j + n) (wt j n)) al4 (hc34.trans hq5) hA5 (fun i n2 q1 q2 => by
        by_cases e : i = j ∧ n2 = n
        · rw [e.1, e.2, uH_at]
        · rw [uH_ne (fun q => e (by omega)), h514]
          exact h51 i n2 (by omega) q2) (hF4.fr fun a x q1 q2 => uH_ne fun e => by omega)
      rw [← nS n (by omega), ewt] at t
      obtain ⟨h4', rfl⟩ := id hW4
      exact c_putE (o := 51) (j := 6 * j + n) rfl (eix6 hj6 hn6) (by show 6 * j + n < 36; omega) t
  -- all holders
  have rows : (q = -1 ∨ (0 ≤ q ∧ q < (nP : Int))) → ∀ (r j : Nat) (h3 : HH) (al3 : AL) (x3 x4 : Option XV), j + r = nP → CQF h al h3 al3 → ALLf h3 al3 V nV vl nH nP rd lots l yr lo S O P k v st → (∀ i n, i < j → n < nH → h3 51 (6 * i + n) = wt i n) →
      XW g (d + 9) mBy_best (fun v h1 al1 => Call g (d + 10) yMo_best [xr 120, xi q] h1 al1 (Ok2 v)) 21 [some (xr 0), some (xi q), some (xi (j : Int)), x3, x4] [] h3 al3 := by
    intro hq r
    induction r with
    | zero =>
      intro j h3 al3 x3 x4 hj hc3 hA3 h51
      have ej : j = nP := by omega
      subst ej
      have t := after h3 al3 (some (xi (j : Int))) x3 x4 hq hc3 hA3 h51
      have e5 : h3 1 5 = (j : Int) := hA3.1.2.1.1.2.1.1
      have hW3 := hA3.1.1
      obtain ⟨h3', rfl⟩ := id hW3
      refine XW_t4 [21, 110] 60 okBy_best ?_
      refine ite_f (show ¬ (j : Int) < wr h3' 1 5 by rw [e5]; omega) ?_
      exact t
    | succ r ih =>
      intro j h3 al3 x3 x4 hj hc3 hA3 h51
      have e5 : h3 1 5 = (nP : Int) := hA3.1.2.1.1.2.1.1
      have hW3 := hA3.1.1
      have rw1 := fun (ho : Nat) (hh : HN ho) => rowH j ho (by omega) hh (fun h4 al4 n4 hc4 hA4 h514 => by
        have t := ih (j + 1) h4 al4 (some (xr (Int.ofNat ho))) (some (xi n4)) (by omega) hc4 hA4 h514
        rw [← nS j (by omega)] at t
        have hW4 := hA4.1.1
        obtain ⟨h4', rfl⟩ := id hW4
        refine XW_t4 [21] 60 okBy_best ?_
        exact t) nH 0 h3 al3 (by omega) hc3 hA3 (fun i n2 q1 q2 => h51 i n2 (by omega) q2)
      obtain ⟨h3', rfl⟩ := id hW3
      refine XW_t4 [21, 44] 80 okBy_best ?_
      refine ite_t (show (j : Int) < wr h3' 1 5 by rw [e5]; omega) ?_
      refine c_holderA hA3 (fun pn ho epn hpn hpn6 hh hF => ?_) (fun hno => absurd hno (by omega))
      have epp : pn = j := by omega
      subst epp
      exact rw1 ho hh hF
  have t := fun hq => rows hq nP 0 h al none none (by omega) CQF.refl hA (fun i n q1 => absurd q1 (Nat.not_lt_zero _))
  have bad : ¬ q = -1 → ¬ (0 ≤ q ∧ q < (nP : Int)) → Call g (d + 10) yMo_best [xr 120, xi q] h al (Ok2 (some (xi (-100001)))) := fun q1 q2 => by
    obtain ⟨h0, rfl⟩ := id hW
    refine cof ocMo_best rfl (XW_t4 [16, 20] 40 okMo_best ?_)
    refine ite_f q1 ?_
    exact c_isHolderA hA (fun pn e1 e2 _ => absurd q2 (by omega)) (fun hno => ⟨⟨_, rfl, rfl⟩, hS⟩)
  obtain ⟨h0, rfl⟩ := id hW
  refine cof ocBy_best rfl (XW_t4 [21] 60 okBy_best ?_)
  refine ite_i (fun q1 => ?_) (fun q1 => ?_)
  · exact t (Or.inl q1)
  · have q1 : ¬ q = -1 := q1
    refine c_holderA hA (fun pn ho epn hpn hpn6 hh hF => ?_) (fun hno => ?_)
    · exact t (Or.inr (by omega))
    · exact bad q1 hno
end BS4
