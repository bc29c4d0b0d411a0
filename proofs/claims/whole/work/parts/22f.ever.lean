-- what is told; years ahead
theorem mY_st {V : List Cl} {v : Nat → Int} {st st2 : Nat → Nat → Int} : mY V (fun _ => 3) v st = mY V (fun _ => 3) v st2 := by
  funext l S O P p
  unfold mY stS
  rw [if_pos (Or.inr (Or.inl rfl)), if_pos (Or.inr (Or.inl rfl))]
theorem gY_st {V : List Cl} {v : Nat → Int} {st st2 : Nat → Nat → Int} : gY V (fun _ => 3) v st = gY V (fun _ => 3) v st2 := by
  funext l S O P p
  unfold gY
  rw [mY_st (st2 := st2)]
theorem gnY_st {V : List Cl} {v : Nat → Int} {st st2 : Nat → Nat → Int} {nP l : Nat} {S : Nat → Nat} {O P : Nat → Int} {G : Int} (n : Nat) : gnY V (fun _ => 3) v st nP l S O P G n = gnY V (fun _ => 3) v st2 nP l S O P G n := by
  induction n with
  | zero => rfl
  | succ n ih =>
    unfold gnY
    rw [ih, gY_st (st2 := st2)]
theorem sY_st {V : List Cl} {v : Nat → Int} {st st2 : Nat → Nat → Int} {nP : Nat} : sY V (fun _ => 3) v st nP = sY V (fun _ => 3) v st2 nP := by
  funext l S O P j
  unfold sY
  rw [mY_st (st2 := st2)]
theorem pY_st {V : List Cl} {v : Nat → Int} {st st2 : Nat → Nat → Int} : pY V (fun _ => 3) v st = pY V (fun _ => 3) v st2 := by
  funext l S O P p
  unfold pY
  rw [gY_st (st2 := st2)]
theorem yNs_st {V : List Cl} {v : Nat → Int} {st st2 : Nat → Nat → Int} {nP nH rd lots : Nat} {lo : Nat → Nat} {Z : YZ} (n : Nat) : yNs V (fun _ => 3) v st nP nH rd lots lo Z n = yNs V (fun _ => 3) v st2 nP nH rd lots lo Z n := by
  induction n with
  | zero => rfl
  | succ n ih =>
    unfold yNs
    rw [ih]
    unfold yN
    rw [sY_st (st2 := st2), pY_st (st2 := st2), gnY_st (st2 := st2)]
section Y1
variable {g : GC} {d : Nat} {h h2 : HH} {al al2 : AL} {K : KT}
variable {V : Nat → List Cl} {nV vl : Int} {nH nP rd lots l yr : Nat} {lo S : Nat → Nat} {O P k v : Nat → Int} {st : Nat → Nat → Int}
theorem ALLf.pb (hA : ALLf h al V nV vl nH nP rd lots l yr lo S O P k v st) : PB nH nP rd lots lo vl nV v ∧ (∀ q, q < lots → lo q < 6) ∧ gdW nH nP l S O P := by
  obtain ⟨⟨hW, hN, hB⟩, -, ⟨-, hv, h5⟩, -, hr⟩ := hA
  obtain ⟨⟨⟨a1, a2⟩, ⟨a3, a4⟩, a5, a6⟩, -, -, hg, ⟨⟨l1, l2, l3⟩, ⟨d1, d2, d3, d4⟩, y1, y2, y3⟩, o1, o2, o3, o4, o5⟩ := hN
  exact ⟨⟨a5, a6, ⟨d3, d4⟩, o3, o5, hv, fun p hp => (hr p hp).2.1.2.2⟩, fun q hq => (o4 q hq).2.2, hg⟩
theorem ALLf.ahead (hA : ALLf h al V nV vl nH nP rd lots l yr lo S O P k v st) (hb : BCf 20 10 h h2) : ALLf h2 al V nV vl nH nP rd lots l yr lo S O P k v st ∧ CQF h al h2 al ∧ PQ 20 h2 2 nH nP rd lots lo vl k v st ∧ PQ 20 h2 3 nH nP rd lots lo vl (fun _ => 3) (fun _ => 9) (fun _ _ => -1) ∧ CWd 20 h2 nH nP S O P ∧ h2 20 7 = (l : Int) ∧ h2 20 9 = (yr : Int) := by
  obtain ⟨b1, b2, b3, b5, b6, b7, b8, b9, b10⟩ := hb
  have hc : CQF h al h2 al := ⟨fun a k e e2 => b1 a k (by omega) (by omega), fun _ _ => rfl⟩
  have hG : CGs h2 al V nV := hA.2.1.1.ot fun a k e => b1 a k (by omega) (by omega)
  have hA2 := hA.qf hc.qf hG
  obtain ⟨⟨hW, hN, hB⟩, -, ⟨⟨e1, -, -⟩, -, -⟩, ⟨w2, w3⟩, -⟩ := id hA2
  obtain ⟨⟨⟨a1, a2⟩, ⟨a3, a4⟩, a5, a6⟩, ⟨⟨c1, c2, c3⟩, c4, c5⟩, -, -, ⟨⟨l1, l2, l3⟩, ⟨d1, d2, d3, d4⟩, y1, y2, y3⟩, o1, o2, o3, o4, o5⟩ := id hN
  have f : ∀ a k, ¬ (21 ≤ a ∧ a ≤ 25) → ¬ (a = 20 ∧ 5 ≤ k ∧ k ≤ 10) → h2 a k = h a k := fun a k q1 q2 => b1 a k (by omega) (by omega)
  have g5 : h2 20 5 = (lots : Int) := by rw [b5, ← f 10 5 (by omega) (by omega)]; exact o1
  have g8 : h2 20 8 = (rd : Int) := by rw [b8, ← f 10 8 (by omega) (by omega)]; exact d1
  have g10 : h2 20 10 = vl := by rw [b10, ← f 10 10 (by omega) (by omega)]; exact e1
  have glo : ∀ q, q < lots → h2 (20 + 4) q = (lo q : Int) := fun q hq => by
    rw [(b2 q (by omega)).2.2.2, ← f (10 + 4) q (by omega) (by omega)]
    exact (o4 q hq).1
  refine ⟨hA2, hc, ⟨a3, a1, g5, g8, g10, glo, w2⟩, ⟨a3, a1, g5, g8, g10, glo, w3⟩, ⟨fun j hj => ?_, fun p hp => ?_, fun p hp => ?_⟩, ?_, ?_⟩
  · rw [(b2 j (by omega)).1, ← f (10 + 1) j (by omega) (by omega)]
    exact c1 j hj
  · rw [(b2 p (by omega)).2.1, ← f (10 + 2) p (by omega) (by omega)]
    exact c2 p hp
  · rw [(b2 p (by omega)).2.2.1, ← f (10 + 3) p (by omega) (by omega)]
    exact c3 p hp
  · rw [b7, ← f 10 7 (by omega) (by omega)]
    exact l1
  · rw [b9, ← f 10 9 (by omega) (by omega)]
    exact y1
theorem c_fresh (hW : Wd h) (hK : ∀ h2 : HH, (∀ a k, a ≠ 147 → h2 a k = h a k) → (∀ x, x < 36 → h2 147 x = 0) → K none h2 al) : Call g (d + 1) yMo_fresh [xr 120] h al K := by
  have loop : ∀ (m k : Nat) (h2 : HH), k + m = 36 → (∀ a k, a ≠ 147 → h2 a k = h a k) → (∀ x, x < k → h2 147 x = 0) → XW g d mMo_fresh K 2 [some (xr 120), some (xi (k : Int))] [] h2 al := by
    intro m
    induction m with
    | zero =>
      intro k h2 hk fa fz
      refine XW_t4 [2] 40 okMo_fresh ?_
      refine ite_f (by omega) ?_
      exact hK h2 fa fun x hx => fz x (by omega)
    | succ m ih =>
      intro k h2 hk fa fz
      have hW2 : Wd h2 := YF.wd (fun a k _ e2 _ => fa a k (by omega)) hW
      have := ih (k + 1) (uH h2 147 k 0) (by omega) (fun a j e => by rw [uH_ne (by omega)]; exact fa a j e) (fun x hx => by
        rw [uH_r]
        by_cases e : x = k
        · rw [if_pos e]
        · rw [if_neg e]; exact fz x (by omega))
      rw [← nS k (by omega)] at this
      obtain ⟨h3, rfl⟩ := hW2
      refine XW_t4 [2] 40 okMo_fresh ?_
      refine ite_t (by omega) ?_
      refine ⟨k, rfl, by show k < 36; omega, Or.inl rfl, ?_⟩
      exact this
  refine cof ocMo_fresh rfl (XW_t4 [2] 40 okMo_fresh ?_)
  exact loop 36 0 h rfl (fun _ _ _ => rfl) (fun x hx => absurd hx (by omega))
theorem c_makeAll {VL : List Cl} {pay kk vv : Int} (hW : Wd h) (hQ : ASK h VL pay k v st nH nP rd lots l lo S O P) (hk : 0 ≤ kk ∧ kk ≤ 6) (hv : 0 ≤ vv ∧ vv ≤ 9) (hK : ∀ h2 : HH, (∀ a k, a ≠ 140 → a ≠ 141 → a ≠ 147 → h2 a k = h a k) → ASK h2 VL pay (fun _ => kk) (fun _ => vv) st nH nP rd lots l lo S O P → K none h2 al) : Call g (d + 2) yMo_makeAll [xr 120, xi kk, xi vv] h al K := by
  obtain ⟨⟨⟨b0, q0, bz⟩, bp, b1⟩, bM, ⟨b3, b4⟩, b5, b6⟩ := hQ
  have loop : ∀ (m p : Nat) (h2 : HH), p + m = nP → (∀ a k, a ≠ 140 → a ≠ 141 → h2 a k = h a k) → (∀ x, x < p → h2 140 x = kk ∧ h2 141 x = vv) → XW g (d + 1) mMo_makeAll K 2 [some (xr 120), some (xi kk), some (xi vv), some (xi (p : Int))] [] h2 al := by
    intro m
    induction m with
    | zero =>
      intro p h2 hp fa fz
      have hW2 : Wd h2 := hW.of fun a k hk => by
        by_cases q : a = 140 ∨ a = 141
        · rcases q with rfl | rfl <;> exact absurd (by show (-9 : Int) < 0; decide) hk
        · exact fa a k (by omega) (by omega)
      have e1 : h2 120 1 = (nP : Int) := (fa _ _ (by decide) (by decide)).trans b5.1
      obtain ⟨h3, rfl⟩ := id hW2
      refine XW_t4 [2] 40 okMo_makeAll ?_
      refine ite_f (show ¬ (p : Int) < wr h3 120 1 by rw [e1]; omega) ?_
      refine c_fresh hW2 fun h4 fa4 fz4 => ?_
      have fr : ∀ a k, a ≠ 140 → a ≠ 141 → a ≠ 147 → h4 a k = h a k := fun a k e2 e3 e4 => (fa4 a k e4).trans (fa a k e2 e3)
      refine hK h4 fr ⟨⟨⟨b0, q0, bz.fr fun a j q => fr a j ?_ ?_ ?_⟩, (fr _ _ (by decide) (by decide) (by decide)).trans bp, fun x hx => ?_⟩, fun x i hx hi => ?_, ⟨fun j hj => ?_, fun j hj => ?_⟩, ⟨(fr _ _ (by decide) (by decide) (by decide)).trans b5.1, (fr _ _ (by decide) (by decide) (by decide)).trans b5.2.1, (fr _ _ (by decide) (by decide) (by decide)).trans b5.2.2.1, (fr _ _ (by decide) (by decide) (by decide)).trans b5.2.2.2.1, fun q hq => (fr _ _ (by decide) (by decide) (by decide)).trans (b5.2.2.2.2 q hq)⟩, (fr _ _ (by decide) (by decide) (by decide)).trans b6⟩
      · rintro rfl; cases q
      · rintro rfl; cases q
      · rintro rfl; cases q
      · obtain ⟨s1, s2⟩ := fz x (by omega)
        exact ⟨⟨(fa4 140 x (by decide)).trans s1, hk⟩, ⟨(fa4 141 x (by decide)).trans s2, hv⟩, fun ll hll => by
          rw [fr 127 _ (by decide) (by decide) (by decide)]
          exact (b1 x hx).2.2 ll hll⟩
      · obtain ⟨m1, m2⟩ := bM x i hx hi
        refine ⟨?_, fun _ => Or.inl (fz4 _ (by omega))⟩
        rw [fr 146 _ (by decide) (by decide) (by decide)]
        rcases m1 with m | ⟨m3, m4⟩
        · exact Or.inl m
        · exact Or.inr ⟨m3, fun w l s e1 e2 e3 e4 => (fr _ _ (by omega) (by omega) (by omega)).trans (m4 w l s e1 e2 e3 e4)⟩
      · rw [fr 142 _ (by decide) (by decide) (by decide), fr 143 _ (by decide) (by decide) (by decide)]
        exact b3 j hj
      · rw [fr 144 _ (by decide) (by decide) (by decide), fr 145 _ (by decide) (by decide) (by decide)]
        exact b4 j hj
    | succ m ih =>
      intro p h2 hp fa fz
      have hW2 : Wd h2 := hW.of fun a k hk => by
        by_cases q : a = 140 ∨ a = 141
        · rcases q with rfl | rfl <;> exact absurd (by show (-9 : Int) < 0; decide) hk
        · exact fa a k (by omega) (by omega)
      have e1 : h2 120 1 = (nP : Int) := (fa _ _ (by decide) (by decide)).trans b5.1
      have := ih (p + 1) (uH (uH h2 140 p kk) 141 p vv) (by omega) (fun a j e2 e3 => by rw [uH_ne (by omega), uH_ne (by omega)]; exact fa a j e2 e3) (fun x hx => by
        by_cases e : x = p
        · rw [e, uH_at, uH_ne (by omega), uH_at]
          exact ⟨rfl, rfl⟩
        · rw [uH_ne (by omega), uH_ne (by omega), uH_ne (by omega), uH_ne (by omega)]
          exact fz x (by omega))
      rw [← nS p (by omega)] at this
      obtain ⟨h3, rfl⟩ := id hW2
      refine XW_t4 [2] 40 okMo_makeAll ?_
      refine ite_t (show (p : Int) < wr h3 120 1 by rw [e1]; omega) ?_
      refine ⟨p, rfl, by show p < 6; omega, ?_⟩
      refine ⟨p, rfl, by show p < 6; omega, ?_⟩
      exact this
  refine cof ocMo_makeAll rfl (XW_t4 [2] 40 okMo_makeAll ?_)
  exact loop nP 0 h (by omega) (fun _ _ _ _ => rfl) (fun x hx => absurd hx (by omega))
theorem c_goYQ {VL : List Cl} {kk vv : Nat → Int} {n : Nat} (hW : Wd h) (hQ : ASK h VL (lastL VL 3 0) kk vv st nH nP rd lots l lo S O P) (hL : lots ≤ 6) (hd : ∀ p q, p < lots → q < lots → lo p = lo q → p = q) (hlo : ∀ q, q < lots → lo q < 6) (hnH : nH ≤ 6) (hr : 1 ≤ rd ∧ rd ≤ 9) (hg : gdW nH nP l S O P) (hn : n ≤ 100)
    (hK : ∀ h2 : HH, YF h h2 → MWd h2 nH nP (yNs VL kk vv st nP nH rd lots lo (l, S, O, P, 0) n).2.1 (yNs VL kk vv st nP nH rd lots lo (l, S, O, P, 0) n).2.2.1 (yNs VL kk vv st nP nH rd lots lo (l, S, O, P, 0) n).2.2.2.1 → h2 120 36 = ((yNs VL kk vv st nP nH rd lots lo (l, S, O, P, 0) n).1 : Int) → h2 120 50 = (yNs VL kk vv st nP nH rd lots lo (l, S, O, P, 0) n).2.2.2.2 → K none h2 al) : Call g (d + 7) yMo_goYears [xr 120, xi (n : Int)] h al K :=
  c_goYears hW hQ.1 hQ.2.1 rfl hQ.2.2.2.1 hL hd hlo hnH hr hQ.2.2.1 hQ.2.2.2.2 hg hn fun h2 hf _ a1 a2 a3 => hK h2 hf a1 a2 a3
end Y1
section Q2
variable {g : GC} {d : Nat} {h : HH} {al : AL}
theorem s_told {s ln i p w : Int} (hS : Sim h al) : Call g (d + 8) yBy_told [xr 0, xi s, xi ln, xi i, xi p, xi w] h al (fun v h1 al1 => Call g (d + 8) yMo_told [xr 120, xi s, xi ln, xi i, xi p, xi w] h1 al1 (Ok2 v)) := by
  obtain ⟨V, nV, vl, nH, nP, rd, lots, l, yr, lo, S, O, P, k, v, st, hA⟩ := hS.all
  obtain ⟨⟨hW, hN, hB⟩, ⟨hG, hM, q0, hz⟩, ⟨⟨e1, e2, e3⟩, hv, h5⟩, -⟩ := id hA
  have hvc := hG.1.2.at hv h5
  obtain ⟨v0, -⟩ := (vnm_VN vl).k
  obtain ⟨h0, rfl⟩ := id hW
  have bad : ¬ ((0 ≤ i ∧ i ≤ 5) ∧ (0 ≤ p ∧ p ≤ 5) ∧ (0 ≤ w ∧ w ≤ 4)) → Call g (d + 8) yMo_told [xr 120, xi s, xi ln, xi i, xi p, xi w] (wr h0) al (Ok2 (some (xi (-1)))) := fun hb => by
    refine cof ocMo_told rfl (XW_t4 [] 80 okMo_told ?_)
    refine c_in (fun a1 => ?_) (fun _ => ⟨⟨_, rfl, rfl⟩, hS⟩)
    refine c_in (fun a2 => ?_) (fun _ => ⟨⟨_, rfl, rfl⟩, hS⟩)
    refine c_in (fun a3 => absurd ⟨a1, a2, a3⟩ hb) (fun _ => ⟨⟨_, rfl, rfl⟩, hS⟩)
  refine cof ocBy_told rfl (XW_t4 [] 80 okBy_told ?_)
  refine c_within (fun a1 => ?_) (fun q => bad fun b => q b.1)
  refine c_within (fun a2 => ?_) (fun q => bad fun b => q b.2.1)
  refine c_within (fun a3 => ?_) (fun q => bad fun b => q b.2.2)
  have bad2 : ¬ ((0 ≤ s ∧ s ≤ 9) ∧ (1 ≤ ln ∧ ln ≤ 18)) → Call g (d + 8) yMo_told [xr 120, xi s, xi ln, xi i, xi p, xi w] (wr h0) al (Ok2 (some (xi (-2)))) := fun hb => by
    refine cof ocMo_told rfl (XW_t4 [] 80 okMo_told ?_)
    refine c_in (fun _ => ?_) (fun q => absurd a1 q)
    refine c_in (fun _ => ?_) (fun q => absurd a2 q)
    refine c_in (fun _ => ?_) (fun q => absurd a3 q)
    refine c_in (fun a4 => ?_) (fun _ => ⟨⟨_, rfl, rfl⟩, hS⟩)
    refine c_in (fun a5 => absurd ⟨a4, a5⟩ hb) (fun _ => ⟨⟨_, rfl, rfl⟩, hS⟩)
  refine c_within (fun a4 => ?_) (fun q => bad2 fun b => q b.1)
  refine c_within (fun a5 => ?_) (fun q => bad2 fun b => q b.2)
  obtain ⟨sn, rfl⟩ := Int.eq_ofNat_of_zero_le a4.1
  obtain ⟨lnn, rfl⟩ := Int.eq_ofNat_of_zero_le (show 0 ≤ ln by omega)
  obtain ⟨i, rfl⟩ := Int.eq_ofNat_of_zero_le a1.1
  obtain ⟨pn, rfl⟩ := Int.eq_ofNat_of_zero_le a2.1
  obtain ⟨wn, rfl⟩ := Int.eq_ofNat_of_zero_le a3.1
  refine ite_i (fun q => ?_) (fun q => ?_)
  · have q : (2 : Int) < (wn : Int) := q
    have fin : Call g (d + 8) yMo_told [xr 120, xi (sn : Int), xi (lnn : Int), xi (i : Int), xi (pn : Int), xi (wn : Int)] (wr h0) al (Ok2 (some (xi (lastL (Vw V vl) wn 0)))) := by
      refine cof ocMo_told rfl (XW_t4 [] 80 okMo_told ?_)
      refine c_in (fun _ => ?_) (fun q => absurd a1 q)
      refine c_in (fun _ => ?_) (fun q => absurd a2 q)
      refine c_in (fun _ => ?_) (fun q => absurd a3 q)
      refine c_in (fun _ => ?_) (fun q => absurd a4 q)
      refine c_in (fun _ => ?_) (fun q => absurd a5 q)
      refine ite_f (by omega) ?_
      refine c_last hW hz ?_
      exact ⟨⟨_, rfl, rfl⟩, hS⟩
    refine c_valleyOf_n hW ?_
    rw [e1]
    refine ite_i (fun q2 => ?_) (fun q2 => ?_)
    · have q2 : (wn : Int) = 3 := q2
      refine cond_i (by rw [v0]; rfl) ⟨_, hvc.2.1, ?_⟩
      rw [show wn = 3 by omega] at fin ⊢
      exact fin
    · have q2 : ¬ (wn : Int) = 3 := q2
      refine cond_i (by rw [v0]; rfl) ⟨_, hvc.2.2.1, ?_⟩
      rw [show wn = 4 by omega] at fin ⊢
      exact fin
  · have q : ¬ (2 : Int) < (wn : Int) := q
    refine c_ground_n hW hG (by rw [e1]; exact hv) (i := i) (by omega) (Or.inl ⟨rfl, by omega⟩) fun h2 al2 hc hC2 g5 eT h9 hGA => ?_
    have hg : GN (230 + 8 * (7 * i + pn)) := ⟨7 * i + pn, by omega, rfl⟩
    obtain ⟨g0, -⟩ := hg.k
    have hA2 := hA.qf hc.qf hC2
    have hS2 := hA.sim hS hc.qf hC2
    obtain ⟨⟨hW2, -, -⟩, ⟨-, -, q2, hz2⟩, -⟩ := id hA2
    rw [hnm_n (by omega), e1] at hGA
    refine cond_i (rcv_c g0 rfl rfl) ?_
    refine c_number hg hGA.1 hGA.2.1 (by omega) (by omega) (by omega) ?_
    obtain ⟨h3, rfl⟩ := id hW2
    refine cof ocMo_told rfl (XW_t4 [] 80 okMo_told ?_)
    refine c_in (fun _ => ?_) (fun q => absurd a1 q)
    refine c_in (fun _ => ?_) (fun q => absurd a2 q)
    refine c_in (fun _ => ?_) (fun q => absurd a3 q)
    refine c_in (fun _ => ?_) (fun q => absurd a4 q)
    refine c_in (fun _ => ?_) (fun q => absurd a5 q)
    refine ite_t (by omega) ?_
    refine c_sumOf hW2 hz2 (by omega) fun W => ?_
    refine ⟨⟨_, rfl, rfl⟩, hA2.done hS2 fun a j q1 q2 => rowU_ne (by omega)⟩
theorem s_ever (hS : Sim h al) : Call g (d + 9) yBy_ever [xr 0] h al (fun v h1 al1 => Call g (d + 9) yMo_ever [xr 120] h1 al1 (Ok2 v)) := by
  obtain ⟨V, nV, vl, nH, nP, rd, lots, l, yr, lo, S, O, P, k, v, st, hA⟩ := hS.all
  obtain ⟨hPB, hlo, hg⟩ := hA.pb
  obtain ⟨b1, b2, b3, b4, b5, b6, b7⟩ := id hPB
  have hyr := hA.1.2.1.2.2.2.2.1.2.2.2.2
  have hPB3 : PB nH nP rd lots lo vl nV (fun _ => 9) := ⟨b1, b2, b3, b4, b5, b6, fun _ _ => show (9 : Int) ≤ 9 from by decide⟩
  obtain ⟨⟨hW, hN, hB⟩, -⟩ := id hA
  obtain ⟨h0, rfl⟩ := id hW
  refine cof ocBy_ever rfl (XW_t4 [] 80 okBy_ever ?_)
  refine c_become_an hW fun h2 hb hW2 => ?_
  obtain ⟨hA2, hc2, -, hP2, hcw2, f7, f9⟩ := hA.ahead hb
  obtain ⟨h2', rfl⟩ := id hW2
  refine c_pass_a (who := 3) (n := 18) hW2 hA2.2.1.1 (Or.inr rfl) hP2 hPB3 hcw2 hg f7 f9 (by omega) (by decide) fun h3 al3 hf3 hC3 _ _ _ => ?_
  have hA3 := hA2.qf hf3.qf hC3
  have hc3 := hc2.trans hf3.cq
  have hW3 := hA3.1.1
  obtain ⟨h3', rfl⟩ := id hW3
  refine c_become_an hW3 fun h4 hb4 hW4 => ?_
  obtain ⟨hA4, hc4, hP4, -, hcw4, f74, f94⟩ := hA3.ahead hb4
  obtain ⟨h4', rfl⟩ := id hW4
  refine c_pass_a (who := 2) (n := 18) hW4 hA4.2.1.1 (Or.inl rfl) hP4 hPB hcw4 hg f74 f94 (by omega) (by decide) fun h5 al5 hf5 hC5 _ _ _ => ?_
  have hA5 := hA4.qf hf5.qf hC5
  have hS5 := hA.sim hS (((hc3.trans hc4).trans hf5.cq).qf) hC5
  have hW5 := hA5.1.1
  obtain ⟨h5', rfl⟩ := id hW5
  refine cof ocMo_ever rfl (XW_t4 [] 80 okMo_ever ?_)
  refine c_asIsA hA5 fun h6 hf6 hQ6 => ?_
  have hW6 := hf6.mq.qf (al := al5) |>.wd hW5
  obtain ⟨h6', rfl⟩ := id hW6
  refine c_goYQ (n := 18) hW6 hQ6 b4 b5 hlo b1 b3 hg (by decide) fun h7 hf7 _ _ f50 => ?_
  have hm7 := hf6.mq.trans hf7.mq
  have hA7 := hA5.mq hm7
  have hW7 := hA7.1.1
  obtain ⟨h7', rfl⟩ := id hW7
  refine c_asIsA hA7 fun h8 hf8 hQ8 => ?_
  have hW8 := hf8.mq.qf (al := al5) |>.wd hW7
  obtain ⟨h8', rfl⟩ := id hW8
  refine c_makeAll hW8 hQ8 (by decide) (by decide) fun h9 hf9 hQ9 => ?_
  have hm9 : MQF (wr h8') h9 := fun a k q1 q2 => hf9 a k (by omega) (by omega) (by omega)
  have hW9 := hm9.qf (al := al5) |>.wd hW8
  obtain ⟨h9', rfl⟩ := id hW9
  refine c_goYQ (n := 18) hW9 hQ9 b4 b5 hlo b1 b3 hg (by decide) fun h10 hf10 _ _ g50 => ?_
  have hm10 := ((hm7.trans hf8.mq).trans hm9).trans hf10.mq
  have hW10 := hm10.qf (al := al5) |>.wd hW5
  obtain ⟨h10', rfl⟩ := id hW10
  refine ⟨⟨_, rfl, ?_⟩, hA5.done hS5 hm10⟩
  show some (xi (wI (wr h10' 120 50 - wr h7' 120 50))) = _
  rw [f50, g50, yNs_st (st2 := fun _ _ => -1)]
end Q2
