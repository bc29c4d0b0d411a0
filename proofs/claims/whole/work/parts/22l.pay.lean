-- pay, looked
section Q9
variable {g : GC} {d : Nat} {h : HH} {al : AL} {K : KT}
theorem c_firstE {gn y s : Nat} {T : TB} {e yi si : Int} (hg : GN gn) (hgf : GF h gn) (hT : GT h gn T) (hd : gdT T) (hP : GPl h gn T) (ey : yi = (y : Int)) (hy : 1 ≤ y ∧ y ≤ 18) (es : si = (s : Int)) (hs : s < 10)
    (hK : ∀ h2 : HH, SP2 h h2 gn → GPl h2 gn T → K (some (xi ((bsf T e y s).1 : Int))) h2 al) : Call g (d + 4) yGr_first [xr (Int.ofNat gn), xi e, xi yi, xi si] h al K := by
  subst ey
  subst es
  exact c_first hg hgf hT hd hP hy hs hK
theorem cCQF_up {h h2 : HH} {al al2 : AL} {a k : Nat} {z : Int} (hc : CQF h al h2 al2) (e : (21 ≤ a ∧ a ≤ 25) ∨ (a = 20 ∧ 5 ≤ k) ∨ (51 ≤ a ∧ a ≤ 53) ∨ (a = 50 ∧ 3 ≤ k) ∨ a = 78) : CQF h al (uH h2 a k z) al2 := ⟨fun q j e1 e2 => by
  rw [uH_ne (fun e3 => by obtain ⟨rfl, rfl⟩ := e3; exact e2 e)]
  exact hc.1 q j e1 e2, hc.2⟩
theorem stS_rk {k v : Int} {st : Nat → Int} {pay : Int} {T : TB} {l s : Nat} {pu : Int} (hr : rk k) : stS k v st pay T l s pu = (bsf T (epr k v pay) (yrs k v l) s).1 := by
  unfold stS
  rw [if_pos hr]
theorem c_makeAll2 {VL : List Cl} {pay kk vv : Int} {k v : Nat → Int} {st : Nat → Nat → Int} {e0 : Nat → Int} {nP : Nat} (hW : Wd h) (hB : MB h VL pay k v st nP) (bM : MC h VL e0 36) (h1 : h 120 1 = (nP : Int)) (hk : 0 ≤ kk ∧ kk ≤ 6) (hv : 0 ≤ vv ∧ vv ≤ 9) (hK : ∀ h2 : HH, (∀ a k, a ≠ 140 → a ≠ 141 → a ≠ 147 → h2 a k = h a k) → MB h2 VL pay (fun _ => kk) (fun _ => vv) st nP → (∀ e : Nat → Int, MC h2 VL e 36) → K none h2 al) : Call g (d + 2) yMo_makeAll [xr 120, xi kk, xi vv] h al K := by
  obtain ⟨⟨b0, q0, bz⟩, bp, b1⟩ := hB
  have loop : ∀ (m p : Nat) (h2 : HH), p + m = nP → (∀ a k, a ≠ 140 → a ≠ 141 → h2 a k = h a k) → (∀ x, x < p → h2 140 x = kk ∧ h2 141 x = vv) → XW g (d + 1) mMo_makeAll K 2 [some (xr 120), some (xi kk), some (xi vv), some (xi (p : Int))] [] h2 al := by
    intro m
    induction m with
    | zero =>
      intro p h2 hp fa fz
      have hW2 : Wd h2 := hW.of fun a k hk => by
        by_cases q : a = 140 ∨ a = 141
        · rcases q with rfl | rfl <;> exact absurd (by show (-9 : Int) < 0; decide) hk
        · exact fa a k (by omega) (by omega)
      have e1 : h2 120 1 = (nP : Int) := (fa _ _ (by decide) (by decide)).trans h1
      obtain ⟨h3, rfl⟩ := id hW2
      refine XW_t4 [2] 40 okMo_makeAll ?_
      refine ite_f (show ¬ (p : Int) < wr h3 120 1 by rw [e1]; omega) ?_
      refine c_fresh hW2 fun h4 fa4 fz4 => ?_
      have fr : ∀ a k, a ≠ 140 → a ≠ 141 → a ≠ 147 → h4 a k = h a k := fun a k e2 e3 e4 => (fa4 a k e4).trans (fa a k e2 e3)
      refine hK h4 fr ⟨⟨b0, q0, bz.fr fun a j q => fr a j ?_ ?_ ?_⟩, (fr _ _ (by decide) (by decide) (by decide)).trans bp, fun x hx => ?_⟩ (fun e x i hx hi => ?_)
      · rintro rfl; cases q
      · rintro rfl; cases q
      · rintro rfl; cases q
      · obtain ⟨s1, s2⟩ := fz x (by omega)
        exact ⟨⟨(fa4 140 x (by decide)).trans s1, hk⟩, ⟨(fa4 141 x (by decide)).trans s2, hv⟩, fun ll hll => by
          rw [fr 127 _ (by decide) (by decide) (by decide)]
          exact (b1 x hx).2.2 ll hll⟩
      · obtain ⟨m1, m2⟩ := bM x i hx hi
        refine ⟨?_, fun _ => Or.inl (fz4 _ (by omega))⟩
        rw [fr 146 _ (by decide) (by decide) (by decide)]
        rcases m1 with m | ⟨m3, m4⟩
        · exact Or.inl m
        · exact Or.inr ⟨m3, fun w l s e1 e2 e3 e4 => (fr _ _ (by omega) (by omega) (by omega)).trans (m4 w l s e1 e2 e3 e4)⟩
    | succ m ih =>
      intro p h2 hp fa fz
      have hW2 : Wd h2 := hW.of fun a k hk => by
        by_cases q : a = 140 ∨ a = 141
        · rcases q with rfl | rfl <;> exact absurd (by show (-9 : Int) < 0; decide) hk
        · exact fa a k (by omega) (by omega)
      have e1 : h2 120 1 = (nP : Int) := (fa _ _ (by decide) (by decide)).trans h1
      have := ih (p + 1) (uH (uH h2 140 p kk) 141 p vv) (by omega) (fun a j e2 e3 => by rw [uH_ne (by omega), uH_ne (by omega)]; exact fa a j e2 e3) (fun x hx => by
        by_cases e : x = p
        · rw [e, uH_at, uH_ne (by omega), uH_at]
          exact ⟨rfl, rfl⟩
        · rw [uH_ne (by omega), uH_ne (by omega), uH_ne (by omega), uH_ne (by omega)]
          exact fz x (by omega))
      rw [← nS p (by omega)] at this
      obtain ⟨h3, rfl⟩ := id hW2
      refine XW_t4 [2] 40 okMo_makeAll ?_
      refine ite_t (show (p : Int) < wr h3 120 1 by rw [e1]; omega) ?_
      refine ⟨p, rfl, by show p < 6; omega, ?_⟩
      refine ⟨p, rfl, by show p < 6; omega, ?_⟩
      exact this
  refine cof ocMo_makeAll rfl (XW_t4 [2] 40 okMo_makeAll ?_)
  exact loop nP 0 h (by omega) (fun _ _ _ _ => rfl) (fun x hx => absurd hx (by omega))
set_option maxRecDepth 8000 in
theorem s_pay (hS : Sim h al) : Call g (d + 9) yBy_pay [xr 0] h al (fun v h1 al1 => Call g (d + 9) yMo_pay [xr 120] h1 al1 (Ok2 v)) := by
  obtain ⟨V, nV, vl, nH, nP, rd, lots, l, yr, lo, S, O, P, k, v, st, hA⟩ := hS.all
  obtain ⟨hPB, hlo, hg⟩ := hA.pb
  obtain ⟨b1, b2, b3, b4, b5, b6, b7⟩ := id hPB
  obtain ⟨⟨hW, hN, hB⟩, -, ⟨-, hv, h5v⟩, -, hr⟩ := id hA
  obtain ⟨gl, gS, gO, gI, gP⟩ := id hg
  obtain ⟨Wn, hWn⟩ : ∃ Wn : Nat → Nat, ∀ p, Wn p = if O p < 0 then 0 else (bsf (tbl (Vw V vl) (O p) (p : Int)) (epr 3 9 (lastL (Vw V vl) 3 0)) (yrs 3 9 l) (S (O p).toNat)).1 := ⟨_, fun _ => rfl⟩
  obtain ⟨F, hF⟩ : ∃ F : Nat → Nat → Nat, ∀ n p, F n p = (bsf (tbl (Vw V vl) (O p) (p : Int)) (n : Int) l (S (O p).toNat)).1 := ⟨_, fun _ _ => rfl⟩
  obtain ⟨ok, hok⟩ : ∃ ok : Nat → Nat → Bool, ∀ n p, ok n p = (decide (Wn p = 0) || decide (Wn p ≤ F n p)) := ⟨_, fun _ _ => rfl⟩
  -- the first price by which all is mended
  obtain ⟨R, hR⟩ : ∃ R : Int, (∃ n : Nat, n < 100 ∧ R = (n : Int) ∧ ck nP (ok n) = true ∧ ∀ m, m < n → ck nP (ok m) = false) ∨ (R = -5 ∧ ∀ m, m < 100 → ck nP (ok m) = false) := by
    have : ∀ j, j ≤ 100 → (∃ n : Nat, n < j ∧ ck nP (ok n) = true ∧ ∀ m, m < n → ck nP (ok m) = false) ∨ (∀ m, m < j → ck nP (ok m) = false) := by
      intro j
      induction j with
      | zero => exact fun _ => Or.inr fun m hm => absurd hm (by omega)
      | succ j ih =>
        intro hj
        rcases ih (by omega) with ⟨n, n1, n2, n3⟩ | hn
        · exact Or.inl ⟨n, by omega, n2, n3⟩
        · cases e : ck nP (ok j) with
          | true => exact Or.inl ⟨j, by omega, e, hn⟩
          | false =>
            refine Or.inr fun m hm => ?_
            by_cases e2 : m = j
            · rw [e2]; exact e
            · exact hn m (by omega)
    rcases this 100 (Nat.le_refl _) with ⟨n, n1, n2, n3⟩ | hn
    · exact ⟨n, Or.inl ⟨n, n1, rfl, n2, n3⟩⟩
    · exact ⟨-5, Or.inr ⟨rfl, hn⟩⟩
  have hstop : ∀ n, n < 100 → (∀ m, m < n → ck nP (ok m) = false) → ck nP (ok n) = true → R = (n : Int) := fun n hn h1 h2 => by
    rcases hR with ⟨m, m1, m2, m3, m4⟩ | ⟨m1, m2⟩
    · by_cases c1 : m < n
      · have := h1 m c1
        rw [m3] at this
        cases this
      · by_cases c2 : n < m
        · have := m4 n c2
          rw [h2] at this
          cases this
        · omega
    · have := m2 n hn
      rw [h2] at this
      cases this
  have hnone : (∀ m, m < 100 → ck nP (ok m) = false) → R = -5 := fun h1 => by
    rcases hR with ⟨m, m1, m2, m3, m4⟩ | ⟨m1, m2⟩
    · have := h1 m m1
      rw [m3] at this
      cases this
    · exact m1
  have ckS : ∀ n (f : Nat → Bool), ck (n + 1) f = (ck n f && f n) := fun _ _ => rfl
  have ckF : ∀ (f : Nat → Bool) (m n : Nat), ck n f = false → n ≤ m → ck m f = false := fun f m => by
    induction m with
    | zero => intro n h1 h2; rw [show n = 0 by omega] at h1; exact h1
    | succ m ih =>
      intro n h1 h2
      rw [ckS]
      by_cases e : n = m + 1
      · rw [e, ckS] at h1
        exact h1
      · rw [ih n h1 (by omega)]
        rfl
  -- the reference
  have mod : ∀ (h2 : HH) (al2 : AL), ALLf h2 al2 V nV vl nH nP rd lots l yr lo S O P k v st → Sim h2 al2 → Call g (d + 9) yMo_pay [xr 120] h2 al2 (Ok2 (some (xi R))) := by
    intro h2 al2 hA2 hS2
    obtain ⟨⟨hW2, hN2, -⟩, -⟩ := id hA2
    obtain ⟨-, -, ⟨m1, m2⟩, -, ⟨⟨-, l2, -⟩, -⟩, -⟩ := id hN2
    have frame : ∀ h3 : HH, MQF h2 h3 → Wd h3 ∧ h3 120 1 = (nP : Int) ∧ h3 120 3 = (l : Int) ∧ (∀ j, j < nH → h3 121 j = (S j : Int)) ∧ ∀ p, p < nP → h3 125 p = O p ∧ h3 126 p = P p := fun h3 hm =>
      ⟨hm.qf (al := al2) |>.wd hW2, (hm _ _ (by omega) (by omega)).trans hN2.1.2.1.2, (hm _ _ (by omega) (by omega)).trans l2, fun j hj => (hm _ _ (by omega) (by omega)).trans (m1 j hj).1, fun p hp => ⟨(hm _ _ (by omega) (by omega)).trans (m2 p hp).1, (hm _ _ (by omega) (by omega)).trans (m2 p hp).2⟩⟩
    -- all at one price
    have loopC : ∀ (m p n : Nat) (h3 : HH) (a : Bool), p + m = nP → n < 100 → a = ck p (ok n) → MQF h2 h3 → MB h3 (Vw V vl) (n : Int) (fun _ => 4) (fun _ => 0) st nP → MC h3 (Vw V vl) (fun p => epr 4 0 (n : Int)) 36 → (∀ p, p < nP → h3 153 p = (Wn p : Int)) →
        (∀ (h4 : HH) (x3 : Option XV), MQF h2 h4 → MB h4 (Vw V vl) (n : Int) (fun _ => 4) (fun _ => 0) st nP → MC h4 (Vw V vl) (fun p => epr 4 0 (n : Int)) 36 → (∀ p, p < nP → h4 153 p = (Wn p : Int)) → XW g (d + 8) mMo_pay (Ok2 (some (xi R))) 179 [some (xr 120), some (xi (n : Int)), some (xi (b2i (ck nP (ok n)))), x3] [] h4 al2) →
        XW g (d + 8) mMo_pay (Ok2 (some (xi R))) 105 [some (xr 120), some (xi (n : Int)), some (xi (b2i a)), some (xi (p : Int))] [] h3 al2 := by
      intro m
      induction m with
      | zero =>
        intro p n h3 a hp hn ha hm hB3 hM3 hwn go
        obtain ⟨hW3, f1, f3, fS, fO⟩ := frame h3 hm
        have t := go h3 (some (xi (p : Int))) hm hB3 hM3 hwn
        have ep : p = nP := by omega
        rw [ep] at ha
        rw [← ha] at t
        obtain ⟨h3', rfl⟩ := id hW3
        refine XW_t4 [105, 179] 60 okMo_pay ?_
        refine ite_f (show ¬ (p : Int) < wr h3' 120 1 by rw [f1]; omega) ?_
        exact t
      | succ m ih =>
        intro p n h3 a hp hn ha hm hB3 hM3 hwn go
        obtain ⟨hW3, f1, f3, fS, fO⟩ := frame h3 hm
        have hp6 : p < 6 := by omega
        have nx := fun (h4 : HH) (a4 : Bool) (e4 : a4 = ck (p + 1) (ok n)) hm4 hB4 hM4 hw4 => ih (p + 1) n h4 a4 (by omega) hn e4 hm4 hB4 hM4 hw4 go
        rw [← nS p (by omega)] at nx
        have eO := (fO p (by omega)).1
        obtain ⟨h3', rfl⟩ := id hW3
        cases a with
        | false =>
          have t := nx (wr h3') false (by rw [ckS, ← ha]; rfl) hm hB3 hM3 hwn
          refine XW_t4 [105, 179] 120 okMo_pay ?_
          refine ite_t (show (p : Int) < wr h3' 120 1 by rw [f1]; omega) ?_
          exact t
        | true =>
          refine XW_t4 [105, 179] 120 okMo_pay ?_
          refine ite_t (show (p : Int) < wr h3' 120 1 by rw [f1]; omega) ?_
          refine ⟨p, rfl, by show p < 6; exact hp6, _, eO, ?_⟩
          refine ite_i (fun q => ?_) (fun q => ?_)
          · have q : O p < 0 := q
            have e : ok n p = true := by
              rw [hok, hWn, if_pos q]
              rfl
            have t := nx (wr h3') true (by rw [ckS, ← ha, e]; rfl) hm hB3 hM3 hwn
            exact t
          · have q : ¬ O p < 0 := q
            have hOp := gO p (by omega)
            refine ⟨p, rfl, by show p < 6; exact hp6, _, eO, ?_⟩
            refine ⟨p, rfl, by show p < 6; exact hp6, _, eO, ?_⟩
            refine ⟨(O p).toNat, by omega, by show (O p).toNat < 6; omega, _, fS (O p).toNat (by omega), ?_⟩
            refine ⟨p, rfl, by show p < 6; exact hp6, _, (fO p (by omega)).2, ?_⟩
            refine c_mendsOf (p := p) (i := (O p).toNat) (l := l) (s := S (O p).toNat) (tk := fun _ => 4) (tv := fun _ => 0) (pay := (n : Int)) hW3 hB3 hM3 (by omega) (by omega) gl (gS _ (by omega)) rfl (by omega) f3 rfl fun h4 hm4 hr4 hM4 => ?_
            have hmm4 := hm.trans hm4.mq
            have hB4 := hm4.mb hB3
            have hw4 : ∀ p, p < nP → h4 153 p = (Wn p : Int) := fun p hp => (hm4 _ _ (by decide) (by decide)).trans (hwn p hp)
            have eF : stS 4 0 (st p) (n : Int) (tbl (Vw V vl) (((O p).toNat : Nat) : Int) (p : Int)) l (S (O p).toNat) (P p) = F n p := by
              rw [stS_rk (Or.inr (Or.inr (Or.inl rfl))), hF, show (((O p).toNat : Nat) : Int) = O p by omega]
              rfl
            have t := nx h4
            obtain ⟨hW4, -⟩ := frame h4 hmm4
            obtain ⟨h4', rfl⟩ := id hW4
            refine ⟨p, rfl, by show p < 6; exact hp6, _, hw4 p (by omega), ?_⟩
            refine ite_i (fun q2 => ?_) (fun q2 => ?_)
            · have q2 : ((stS 4 0 (st p) (n : Int) (tbl (Vw V vl) (((O p).toNat : Nat) : Int) (p : Int)) l (S (O p).toNat) (P p) : Nat) : Int) < (Wn p : Int) := q2
              rw [eF] at q2
              have e : ok n p = false := by rw [hok, decide_eq_false (by omega), decide_eq_false (by omega)]; rfl
              exact t false (by rw [ckS, ← ha, e]; rfl) hmm4 hB4 hM4 hw4
            · have q2 : ¬ ((stS 4 0 (st p) (n : Int) (tbl (Vw V vl) (((O p).toNat : Nat) : Int) (p : Int)) l (S (O p).toNat) (P p) : Nat) : Int) < (Wn p : Int) := q2
              rw [eF] at q2
              have e : ok n p = true := by rw [hok, decide_eq_true (show Wn p ≤ F n p by omega), Bool.or_true]
              exact t true (by rw [ckS, ← ha, e]; rfl) hmm4 hB4 hM4 hw4
    -- price by price
    have loopN : ∀ (m n : Nat) (h3 : HH) (x2 x3 : Option XV) (py : Int) (e0 : Nat → Int), n + m = 100 → (∀ j, j < n → ck nP (ok j) = false) → MQF h2 h3 → MB h3 (Vw V vl) py (fun _ => 4) (fun _ => 0) st nP → MC h3 (Vw V vl) e0 36 → (∀ p, p < nP → h3 153 p = (Wn p : Int)) →
        XW g (d + 8) mMo_pay (Ok2 (some (xi R))) 86 [some (xr 120), some (xi (n : Int)), x2, x3] [] h3 al2 := by
      intro m
      induction m with
      | zero =>
        intro n h3 x2 x3 py e0 hn hno hm hB3 hM3 hwn
        refine XW_t4 [86] 60 okMo_pay ?_
        refine ite_f (by omega) ?_
        exact ⟨⟨_, rfl, by rw [hnone fun j hj => hno j (by omega)]⟩, hA2.done hS2 hm⟩
      | succ m ih =>
        intro n h3 x2 x3 py e0 hn hno hm hB3 hM3 hwn
        have hm4 : MQF h2 (uH h3 120 34 (n : Int)) := hm.up (Or.inr ⟨rfl, by omega⟩)
        obtain ⟨hW4, -⟩ := frame _ hm4
        have f4 : ∀ a j, ¬ (a = 120 ∧ j = 34) → (uH h3 120 34 (n : Int)) a j = h3 a j := fun a j e => uH_ne e
        have f34 : (uH h3 120 34 (n : Int)) 120 34 = (n : Int) := uH_at
        have key : ∀ h4 : HH, h4 = uH h3 120 34 (n : Int) → Call g (d + 8) yMo_fresh [xr 120] h4 al2 fun x h5 al5 => XW g (d + 8) mMo_pay (Ok2 (some (xi R))) 101 [some (xr 120), some (xi (n : Int)), x2, x3] (x.toList ++ []) h5 al5 := by
          intro h4 eh4
          rw [← eh4] at hm4 hW4 f4 f34
          refine c_fresh hW4 fun h5 fa fz => ?_
          have hm5 : MQF h2 h5 := hm4.trans fun a j q1 q2 => fa a j (by omega)
          obtain ⟨⟨c0, q0, cz⟩, cp, c1⟩ := hB3
          have g5 : ∀ a j, a ≠ 147 → ¬ (a = 120 ∧ j = 34) → h5 a j = h3 a j := fun a j e1 e2 => (fa a j e1).trans (f4 a j e2)
          have hB5 : MB h5 (Vw V vl) (n : Int) (fun _ => 4) (fun _ => 0) st nP := ⟨⟨c0, q0, cz.fr fun a j q => g5 a j (by rintro rfl; cases q) (by rintro ⟨rfl, rfl⟩; cases q)⟩, (fa _ _ (by decide)).trans f34, fun x hx => by
            rw [g5 140 x (by decide) (by omega), g5 141 x (by decide) (by omega)]
            refine ⟨(c1 x hx).1, (c1 x hx).2.1, fun ll hll => ?_⟩
            rw [g5 127 _ (by decide) (by omega)]
            exact (c1 x hx).2.2 ll hll⟩
          have hM5 : MC h5 (Vw V vl) (fun p => epr 4 0 (n : Int)) 36 := fun x i hx hi => by
            refine ⟨?_, fun _ => Or.inl (fz _ (by omega))⟩
            rw [g5 146 _ (by decide) (by omega)]
            rcases (hM3 x i hx hi).1 with mm | ⟨m3, m4⟩
            · exact Or.inl mm
            · exact Or.inr ⟨m3, fun w ll s e1 e2 e3 e4 => (g5 _ _ (by omega) (by omega)).trans (m4 w ll s e1 e2 e3 e4)⟩
          have hw5 : ∀ p, p < nP → h5 153 p = (Wn p : Int) := fun p hp => (g5 _ _ (by decide) (by omega)).trans (hwn p hp)
          have t := loopC nP 0 n h5 true (by omega) (by omega) rfl hm5 hB5 hM5 hw5 (fun h6 x3 y1 y2 y3 y4 => by
            cases e : ck nP (ok n) with
            | true =>
              refine XW_t4 [86] 60 okMo_pay ?_
              exact ⟨⟨_, rfl, by rw [hstop n (by omega) hno e]⟩, hA2.done hS2 y1⟩
            | false =>
              have t2 := fun (x2 x3 : Option XV) => ih (n + 1) h6 x2 x3 (n : Int) _ (by omega) (fun j hj => by
                by_cases e2 : j = n
                · rw [e2]; exact e
                · exact hno j (by omega)) y1 y2 y3 y4
              rw [← nS n (by omega)] at t2
              refine XW_t4 [86] 60 okMo_pay ?_
              exact t2 _ _)
          refine XW_t4 [105] 60 okMo_pay ?_
          exact t
        obtain ⟨hW3, -⟩ := frame h3 hm
        refine XW_t4 [86, 101] 60 okMo_pay ?_
        refine ite_t (by omega) ?_
        exact key _ rfl
    -- what the LONG ones mend
    have loopM : ∀ (m p : Nat) (h3 : HH) (x2 x3 : Option XV), p + m = nP → MQF h2 h3 → MB h3 (Vw V vl) (lastL (Vw V vl) 3 0) (fun _ => 3) (fun _ => 9) st nP → MC h3 (Vw V vl) (fun p => epr 3 9 (lastL (Vw V vl) 3 0)) 36 → (∀ q, q < p → h3 153 q = (Wn q : Int)) →
        XW g (d + 8) mMo_pay (Ok2 (some (xi R))) 13 [some (xr 120), some (xi (p : Int)), x2, x3] [] h3 al2 := by
      intro m
      induction m with
      | zero =>
        intro p h3 x2 x3 hp hm hB3 hM3 hwn
        obtain ⟨hW3, f1, f3, fS, fO⟩ := frame h3 hm
        have key : Call g (d + 8) yMo_makeAll [xr 120, xi 4, xi 0] h3 al2 fun x h5 al5 => XW g (d + 8) mMo_pay (Ok2 (some (xi R))) 84 [some (xr 120), some (xi (p : Int)), x2, x3] (x.toList ++ []) h5 al5 := by
          refine c_makeAll2 hW3 hB3 hM3 f1 (by decide) (by decide) fun h5 fa hB5 hM5 => ?_
          have hm5 : MQF h2 h5 := hm.trans fun a j q1 q2 => fa a j (by omega) (by omega) (by omega)
          have t := loopN 100 0 h5 x2 x3 _ (fun _ => 0) rfl (fun j hj => absurd hj (by omega)) hm5 hB5 (hM5 _) (fun q hq => (fa _ _ (by decide) (by decide) (by decide)).trans (hwn q (by omega)))
          refine XW_t4 [86] 60 okMo_pay ?_
          exact t
        obtain ⟨h3', rfl⟩ := id hW3
        refine XW_t4 [13, 84] 60 okMo_pay ?_
        refine ite_f (show ¬ (p : Int) < wr h3' 120 1 by rw [f1]; omega) ?_
        exact key
      | succ m ih =>
        intro p h3 x2 x3 hp hm hB3 hM3 hwn
        obtain ⟨hW3, f1, f3, fS, fO⟩ := frame h3 hm
        have hp6 : p < 6 := by omega
        have eO := (fO p (by omega)).1
        have nx := fun (h4 : HH) (z : Int) hm4 hB4 hM4 (hz : z = (Wn p : Int)) (hw4 : ∀ q, q < p → h4 153 q = (Wn q : Int)) => ih (p + 1) (uH h4 153 p z) x2 x3 (by omega) ((show MQF h2 h4 from hm4).up (by omega)) (YF.mb (YF.refl.up (by omega)) hB4) ((show MC h4 (Vw V vl) (fun p => epr 3 9 (lastL (Vw V vl) 3 0)) 36 from hM4).up (by omega)) (fun q hq => by
          rw [uH_r]
          by_cases e : q = p
          · rw [if_pos e, e, hz]
          · rw [if_neg e]
            exact hw4 q (by omega))
        rw [← nS p (by omega)] at nx
        obtain ⟨h3', rfl⟩ := id hW3
        refine XW_t4 [13] 120 okMo_pay ?_
        refine ite_t (show (p : Int) < wr h3' 120 1 by rw [f1]; omega) ?_
        refine ⟨p, rfl, by show p < 6; exact hp6, _, eO, ?_⟩
        refine ite_i (fun q => ?_) (fun q => ?_)
        · have q : O p < 0 := q
          refine ⟨p, rfl, by show p < 6; exact hp6, ?_⟩
          exact nx (wr h3') 0 hm hB3 hM3 (by rw [hWn, if_pos q]; rfl) hwn
        · have q : ¬ O p < 0 := q
          have hOp := gO p (by omega)
          refine ⟨p, rfl, by show p < 6; exact hp6, _, eO, ?_⟩
          refine ⟨p, rfl, by show p < 6; exact hp6, _, eO, ?_⟩
          refine ⟨(O p).toNat, by omega, by show (O p).toNat < 6; omega, _, fS (O p).toNat (by omega), ?_⟩
          refine ⟨p, rfl, by show p < 6; exact hp6, _, (fO p (by omega)).2, ?_⟩
          refine c_mendsOf (p := p) (i := (O p).toNat) (l := l) (s := S (O p).toNat) (tk := fun _ => 3) (tv := fun _ => 9) (pay := lastL (Vw V vl) 3 0) hW3 hB3 hM3 (by omega) (by omega) gl (gS _ (by omega)) rfl (by omega) f3 rfl fun h4 hm4 hr4 hM4 => ?_
          have hmm4 := hm.trans hm4.mq
          have hB4 := hm4.mb hB3
          have t := nx h4 (stS 3 9 (st p) (lastL (Vw V vl) 3 0) (tbl (Vw V vl) (((O p).toNat : Nat) : Int) (p : Int)) l (S (O p).toNat) (P p) : Int) hmm4 hB4 hM4 (by
            rw [stS_rk (Or.inr (Or.inl rfl)), hWn, if_neg q, show (((O p).toNat : Nat) : Int) = O p by omega]) (fun q hq => (hm4 _ _ (by decide) (by decide)).trans (hwn q hq))
          obtain ⟨hW4, -⟩ := frame h4 hmm4
          obtain ⟨h4', rfl⟩ := id hW4
          refine ⟨p, rfl, by show p < 6; exact hp6, ?_⟩
          exact t
    obtain ⟨h2', rfl⟩ := id hW2
    refine cof ocMo_pay rfl (XW_t4 [11, 13] 60 okMo_pay ?_)
    refine c_asIsA hA2 fun h4 hf4 hQ4 => ?_
    obtain ⟨hW4, f1, -⟩ := frame h4 hf4.mq
    have key : Call g (d + 8) yMo_makeAll [xr 120, xi 3, xi 9] h4 al2 fun x h5 al5 => XW g (d + 8) mMo_pay (Ok2 (some (xi R))) 11 [some (xr 120), none, none, none] (x.toList ++ []) h5 al5 := by
      refine c_makeAll2 hW4 hQ4.1 hQ4.2.1 f1 (by decide) (by decide) fun h5 fa hB5 hM5 => ?_
      have hm5 : MQF (wr h2') h5 := hf4.mq.trans fun a j q1 q2 => fa a j (by omega) (by omega) (by omega)
      have t := loopM nP 0 h5 none none (by omega) hm5 hB5 (hM5 _) (fun q hq => absurd hq (by omega))
      refine XW_t4 [13] 60 okMo_pay ?_
      exact t
    obtain ⟨h4', rfl⟩ := id hW4
    exact key
  -- the class
  have cframe : ∀ (h3 : HH) (al3 : AL), CQF h al h3 al3 → ALLf h3 al3 V nV vl nH nP rd lots l yr lo S O P k v st → Wd h3 ∧ h3 1 5 = (nP : Int) ∧ h3 10 7 = (l : Int) ∧ CWd 10 h3 nH nP S O P ∧ CGs h3 al3 V nV ∧ h3 10 10 = vl ∧ WH h3 3 nP (fun _ => 3) (fun _ => 9) (fun _ _ => -1) := fun h3 al3 _ hA3 =>
    ⟨hA3.1.1, hA3.1.2.1.1.2.1.1, hA3.1.2.1.2.2.2.2.1.1.1, hA3.1.2.1.2.1.1, hA3.2.1.1, hA3.2.2.1.1.1, hA3.2.2.2.1.2⟩
  have hokc : ∀ (n : Nat) (h3 : HH) (al3 : AL) (K : KT), n < 100 → CQF h al h3 al3 → ALLf h3 al3 V nV vl nH nP rd lots l yr lo S O P k v st → (∀ p, p < nP → h3 78 p = (Wn p : Int)) → (∀ (h4 : HH) (al4 : AL), CQF h al h4 al4 → ALLf h4 al4 V nV vl nH nP rd lots l yr lo S O P k v st → (∀ p, p < nP → h4 78 p = (Wn p : Int)) → K (some (xi (b2i (ck nP (ok n))))) h4 al4) → Call g (d + 8) yBy_allMendFor [xr 0, xi (n : Int)] h3 al3 K := by
    intro n h3 al3 K hn hc3 hA3 hw3 hK
    have loop : ∀ (m p : Nat) (h4 : HH) (al4 : AL) (x3 x4 x5 : Option XV), p + m = nP → ck p (ok n) = true → CQF h al h4 al4 → ALLf h4 al4 V nV vl nH nP rd lots l yr lo S O P k v st → (∀ p, p < nP → h4 78 p = (Wn p : Int)) → XW g (d + 7) mBy_allMendFor K 2 [some (xr 0), some (xi (n : Int)), some (xi (p : Int)), x3, x4, x5] [] h4 al4 := by
      intro m
      induction m with
      | zero =>
        intro p h4 al4 x3 x4 x5 hp hck hc4 hA4 hw4
        obtain ⟨hW4, f1, -⟩ := cframe h4 al4 hc4 hA4
        have t := hK h4 al4 hc4 hA4 hw4
        rw [show p = nP by omega] at hck
        rw [hck] at t
        obtain ⟨h4', rfl⟩ := id hW4
        refine XW_t4 [2] 60 okBy_allMendFor ?_
        refine ite_f (show ¬ (p : Int) < wr h4' 1 5 by rw [f1]; omega) ?_
        exact ⟨Or.inr rfl, t⟩
      | succ m ih =>
        intro p h4 al4 x3 x4 x5 hp hck hc4 hA4 hw4
        obtain ⟨hW4, f1, f7, ⟨c1, c2, c3⟩, hG4, f10, hH4⟩ := cframe h4 al4 hc4 hA4
        have hp6 : p < 6 := by omega
        have nx := fun (h5 : HH) (al5 : AL) (x3 x4 x5 : Option XV) (e : ok n p = true) hc5 hA5 hw5 => ih (p + 1) h5 al5 x3 x4 x5 (by omega) (by rw [ckS, hck, e]; rfl) hc5 hA5 hw5
        rw [← nS p (by omega)] at nx
        obtain ⟨h4', rfl⟩ := id hW4
        refine XW_t4 [2] 120 okBy_allMendFor ?_
        refine ite_t (show (p : Int) < wr h4' 1 5 by rw [f1]; omega) ?_
        refine c_atE rfl rfl (by show p < 6; exact hp6) (hw4 p (by omega)) ?_
        refine ite_i (fun q => ?_) (fun q => ?_)
        · have q : (Wn p : Int) < 1 := q
          exact nx _ _ _ _ _ (by rw [hok, decide_eq_true (show Wn p = 0 by omega)]; rfl) hc4 hA4 hw4
        · have q : ¬ (Wn p : Int) < 1 := q
          have hOn : ¬ O p < 0 := fun q2 => by
            have := hWn p
            rw [if_pos q2] at this
            omega
          have hOp := gO p (by omega)
          have o2 : h4' = h4' := rfl
          have eh : wr h4' 12 p = O p := by
            rcases (c2 p hp6).1 (by omega) with ⟨o1, _⟩ | ⟨_, o2⟩
            · omega
            · exact o2
          refine c_atE rfl rfl (by show p < 6; exact hp6) eh ?_
          have callG : ∀ oi : Int, oi = (((O p).toNat : Nat) : Int) → ∀ K2 : KT, (∀ (h5 : HH) (al5 : AL), CF (wr h4') al4 h5 al5 → CGs h5 al5 V nV → h5 5 (7 * (O p).toNat + p) = ((230 + 8 * (7 * (O p).toNat + p) : Nat) : Int) → tbG h5 V (7 * (O p).toNat + p) = tbl (Vw V (wr h4' 10 10)) (((O p).toNat : Nat) : Int) (hnm p) → h5 (230 + 8 * (7 * (O p).toNat + p)) 9 = lastL (Vw V (wr h4' 10 10)) 3 0 → GA h5 (230 + 8 * (7 * (O p).toNat + p)) (tbl (Vw V (wr h4' 10 10)) (((O p).toNat : Nat) : Int) (hnm p)) → K2 (some (xr (Int.ofNat (230 + 8 * (7 * (O p).toNat + p))))) h5 al5) → Call g (d + 7) yLa_ground [xr 1, xr 10, xi oi, xi (p : Int)] (wr h4') al4 K2 := fun oi e K2 hk => by
            subst e
            exact c_ground_n hW4 hG4 (by rw [f10]; exact hv) (by omega) (Or.inl ⟨rfl, hp6⟩) hk
          refine callG (O p) (by omega) _ fun h5 al5 hc5 hC5 g5 eT h9 hGA => ?_
          rw [hnm_n hp6, f10] at hGA eT
          have hgn : GN (230 + 8 * (7 * (O p).toNat + p)) := ⟨7 * (O p).toNat + p, by omega, rfl⟩
          obtain ⟨g0, -⟩ := hgn.k
          have hcc5 := hc4.trans hc5.cq
          have hA5 := hA4.qf hc5.qf hC5
          have hw5 : ∀ p, p < nP → h5 78 p = (Wn p : Int) := fun p hp => (hc5.1 78 p rfl).trans (hw4 p hp)
          obtain ⟨hW5, f15, f75, ⟨c15, -⟩, -⟩ := cframe h5 al5 hcc5 hA5
          obtain ⟨h5', rfl⟩ := id hW5
          refine c_atE (j := (O p).toNat) rfl (by omega) (by show (O p).toNat < 6; omega) (c15 _ (by omega)) ?_
          refine cond_i (rcv_c g0 rfl rfl) ?_
          refine c_firstE (y := l) (s := S (O p).toNat) hgn hGA.1 hGA.2.1 hGA.2.2.1 hGA.2.2.2 f75 (by omega) rfl (gS _ (by omega)) fun h6 hS6 hP6 => ?_
          have hsp := hC5.sp (by omega) g5 hS6 (by rw [eT]; exact hP6)
          have hcc6 := hcc5.trans hsp.1.cq
          have hA6 := hA5.qf hsp.1.qf hsp.2
          have hw6 : ∀ p, p < nP → h6 78 p = (Wn p : Int) := fun p hp => (hsp.1.1 78 p rfl).trans (hw5 p hp)
          have eF : (bsf (tbl (Vw V vl) (((O p).toNat : Nat) : Int) (p : Int)) (n : Int) l (S (O p).toNat)).1 = F n p := by
            rw [hF, show (((O p).toNat : Nat) : Int) = O p by omega]
          have hW6 := hA6.1.1
          obtain ⟨h6', rfl⟩ := id hW6
          refine ite_i (fun q2 => ?_) (fun q2 => ?_)
          · have q2 : (((bsf (tbl (Vw V vl) (((O p).toNat : Nat) : Int) (p : Int)) (n : Int) l (S (O p).toNat)).1 : Nat) : Int) < (Wn p : Int) := q2
            rw [eF] at q2
            have e : ok n p = false := by rw [hok, decide_eq_false (by omega), decide_eq_false (by omega)]; rfl
            have t := hK _ _ hcc6 hA6 hw6
            rw [ckF (ok n) nP (p + 1) (by rw [ckS, hck, e]; rfl) (by omega)] at t
            exact ⟨Or.inl rfl, t⟩
          · have q2 : ¬ (((bsf (tbl (Vw V vl) (((O p).toNat : Nat) : Int) (p : Int)) (n : Int) l (S (O p).toNat)).1 : Nat) : Int) < (Wn p : Int) := q2
            rw [eF] at q2
            exact nx _ _ _ _ _ (by rw [hok, decide_eq_true (show Wn p ≤ F n p by omega), Bool.or_true]) hcc6 hA6 hw6
    refine cof ocBy_allMendFor rfl (XW_t4 [2] 60 okBy_allMendFor ?_)
    exact loop nP 0 h3 al3 none none none (by omega) rfl hc3 hA3 hw3
  have loopN : ∀ (m n : Nat) (h3 : HH) (al3 : AL) (x2 x3 : Option XV), n + m = 100 → (∀ j, j < n → ck nP (ok j) = false) → CQF h al h3 al3 → ALLf h3 al3 V nV vl nH nP rd lots l yr lo S O P k v st → (∀ p, p < nP → h3 78 p = (Wn p : Int)) →
      XW g (d + 8) mBy_pay (fun v h1 al1 => Call g (d + 9) yMo_pay [xr 120] h1 al1 (Ok2 v)) 87 [some (xr 0), some (xi (n : Int)), x2, x3] [] h3 al3 := by
    intro m
    induction m with
    | zero =>
      intro n h3 al3 x2 x3 hn hno hc3 hA3 hw3
      have md := mod h3 al3 hA3 (hA.sim hS hc3.qf hA3.2.1.1)
      rw [hnone fun j hj => hno j (by omega)] at md
      refine XW_t4 [87] 60 okBy_pay ?_
      refine ite_t (by omega) ?_
      exact md
    | succ m ih =>
      intro n h3 al3 x2 x3 hn hno hc3 hA3 hw3
      refine XW_t4 [87] 60 okBy_pay ?_
      refine ite_f (by omega) ?_
      refine hokc n h3 al3 _ (by omega) hc3 hA3 hw3 fun h4 al4 hc4 hA4 hw4 => ?_
      cases e : ck nP (ok n) with
      | true =>
        have md := mod h4 al4 hA4 (hA.sim hS hc4.qf hA4.2.1.1)
        rw [hstop n (by omega) hno e] at md
        exact md
      | false =>
        have t := ih (n + 1) h4 al4 x2 x3 (by omega) (fun j hj => by
          by_cases e2 : j = n
          · rw [e2]; exact e
          · exact hno j (by omega)) hc4 hA4 hw4
        rw [← nS n (by omega)] at t
        exact t
  have loopW : ∀ (m p : Nat) (h3 : HH) (al3 : AL) (x2 x3 : Option XV), p + m = nP → CQF h al h3 al3 → ALLf h3 al3 V nV vl nH nP rd lots l yr lo S O P k v st → (∀ q, q < p → h3 78 q = (Wn q : Int)) →
      XW g (d + 8) mBy_pay (fun v h1 al1 => Call g (d + 9) yMo_pay [xr 120] h1 al1 (Ok2 v)) 2 [some (xr 0), some (xi (p : Int)), x2, x3] [] h3 al3 := by
    intro m
    induction m with
    | zero =>
      intro p h3 al3 x2 x3 hp hc3 hA3 hw3
      obtain ⟨hW3, f1, -⟩ := cframe h3 al3 hc3 hA3
      have t := loopN 100 0 h3 al3 x2 x3 rfl (fun j hj => absurd hj (by omega)) hc3 hA3 (fun q hq => hw3 q (by omega))
      obtain ⟨h3', rfl⟩ := id hW3
      refine XW_t4 [2, 87] 60 okBy_pay ?_
      refine ite_f (show ¬ (p : Int) < wr h3' 1 5 by rw [f1]; omega) ?_
      exact t
    | succ m ih =>
      intro p h3 al3 x2 x3 hp hc3 hA3 hw3
      obtain ⟨hW3, f1, f7, ⟨c1, c2, c3⟩, hG3, f10, hH3⟩ := cframe h3 al3 hc3 hA3
      have hp6 : p < 6 := by omega
      obtain ⟨ho, hh, ew, hF3⟩ := (hH3 p hp6).1 (by omega)
      have hbh := hh.b
      have nx := fun (h4 : HH) (al4 : AL) (z : Int) (x2 x3 : Option XV) (hz : z = (Wn p : Int)) (hc4 : CQF h al h4 al4) (hA4 : ALLf h4 al4 V nV vl nH nP rd lots l yr lo S O P k v st) (hw4 : ∀ q, q < p → h4 78 q = (Wn q : Int)) => ih (p + 1) (uH h4 78 p z) al4 x2 x3 (by omega) (cCQF_up hc4 (by omega)) (hA.qf (cCQF_up hc4 (by omega)).qf (hA4.2.1.1.up (by omega))) (fun q hq => by
        rw [uH_r]
        by_cases e : q = p
        · rw [if_pos e, e, hz]
        · rw [if_neg e]
          exact hw4 q (by omega))
      rw [← nS p (by omega)] at nx
      have go : XW g (d + 8) mBy_pay (fun v h1 al1 => Call g (d + 9) yMo_pay [xr 120] h1 al1 (Ok2 v)) 28 [some (xr 0), some (xi (p : Int)), x2, x3] [xr (Int.ofNat ho)] h3 al3 := by
        obtain ⟨h3', rfl⟩ := id hW3
        rcases (c2 p hp6).1 (by omega) with ⟨o1, o2⟩ | ⟨o1, o2⟩
        · refine XW_t4 [2] 120 okBy_pay ?_
          refine ⟨p, rfl, by show p < 6; exact hp6, _, o2, ?_⟩
          refine ⟨p, rfl, by show p < 6; exact hp6, ?_⟩
          exact nx (wr h3') al3 0 _ _ (by rw [hWn, if_pos (by omega)]; rfl) hc3 hA3 hw3
        · have hOp := gO p (by omega)
          refine XW_t4 [2] 120 okBy_pay ?_
          refine ⟨p, rfl, by show p < 6; exact hp6, _, o2, ?_⟩
          refine ite_f (show ¬ O p = -5 by omega) ?_
          refine c_stepsA (ln := l) (j := (O p).toNat) hA3 hh hF3 (by omega) (by omega) (by omega) f7 gl fun h4 al4 hc4 hA4 => ?_
          have t := fun x2 x3 => nx h4 al4 (stS 3 9 (fun _ => -1) (lastL (Vw V vl) 3 0) (tbl (Vw V vl) (((O p).toNat : Nat) : Int) (p : Int)) l (S (O p).toNat) (P p) : Int) x2 x3 (by
            rw [stS_rk (Or.inr (Or.inl rfl)), hWn, if_neg (by omega), show (((O p).toNat : Nat) : Int) = O p by omega]) (hc3.trans hc4.cq) hA4 (fun q hq => (hc4.1 78 q rfl).trans (hw3 q hq))
          have hW4 := hA4.1.1
          obtain ⟨h4', rfl⟩ := id hW4
          refine ⟨p, rfl, by show p < 6; exact hp6, ?_⟩
          exact t _ _
      obtain ⟨h3', rfl⟩ := id hW3
      refine XW_t4 [28] 120 okBy_pay ?_
      refine ite_t (show (p : Int) < wr h3' 1 5 by rw [f1]; omega) ?_
      refine ite_t (by omega) ?_
      refine ⟨⟨by omega, by show (p : Int) < 6; omega⟩, ?_⟩
      show XW g (d + 8) mBy_pay (fun v h1 al1 => Call g (d + 9) yMo_pay [xr 120] h1 al1 (Ok2 v)) 28 [some (xr 0), some (xi (p : Int)), x2, x3] [xr (wr h3' 3 p)] (wr h3') al3
      rw [ew]
      exact go
  have t := loopW nP 0 h al none none (by omega) CQF.refl hA (fun q hq => absurd hq (by omega))
  obtain ⟨h0, rfl⟩ := id hW
  refine cof ocBy_pay rfl (XW_t4 [2] 60 okBy_pay ?_)
  exact t
end Q9
