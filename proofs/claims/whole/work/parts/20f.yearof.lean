-- a year of one holding, by the class
/-- a world of the class tells S, O, P -/
def CWd (w : Nat) (h : HH) (nH nP : Nat) (S : Nat → Nat) (O P : Nat → Int) : Prop :=
  (∀ j, j < nH → h (w + 1) j = (S j : Int)) ∧
  (∀ p, p < 6 → (p < nP → (O p = -1 ∧ h (w + 2) p = -5) ∨ (0 ≤ O p ∧ h (w + 2) p = O p)) ∧ (nP ≤ p → h (w + 2) p = -5)) ∧
  ∀ p, p < nP → h (w + 3) p = P p
/-- a row of holders -/
def WH (h : HH) (who nP : Nat) (k v : Nat → Int) (st : Nat → Nat → Int) : Prop := ∀ p, p < 6 → (p < nP → ∃ ho : Nat, HN ho ∧ h who p = (ho : Int) ∧ HF h ho (p : Int) (k p) (v p) (fun l => st p l)) ∧ (nP ≤ p → h who p = -1)
/-- what years of a world may change -/
def WF (w nH nP : Nat) (h : HH) (al : AL) (h2 : HH) (al2 : AL) : Prop := (∀ a k, tG a = false → ¬ (a = w + 1 ∧ k < nH) → ¬ (a = w + 2 ∧ k < nP) → ¬ (a = w + 3 ∧ k < nP) → ¬ (a = w ∧ (k = 7 ∨ k = 9)) → h2 a k = h a k) ∧ ∀ a, a < 230 → al2 a = al a
theorem WF.refl {w nH nP : Nat} {h : HH} {al : AL} : WF w nH nP h al h al := ⟨fun _ _ _ _ _ _ _ => rfl, fun _ _ => rfl⟩
theorem WF.trans {w nH nP : Nat} {h h2 h3 : HH} {al al2 al3 : AL} (a : WF w nH nP h al h2 al2) (b : WF w nH nP h2 al2 h3 al3) : WF w nH nP h al h3 al3 := ⟨fun q k e1 e2 e3 e4 e5 => (b.1 q k e1 e2 e3 e4 e5).trans (a.1 q k e1 e2 e3 e4 e5), fun q e => (b.2 q e).trans (a.2 q e)⟩
theorem CF.wf {w nH nP : Nat} {h h2 : HH} {al al2 : AL} (a : CF h al h2 al2) : WF w nH nP h al h2 al2 := ⟨fun q k e1 _ _ _ _ => a.1 q k e1, a.2⟩
theorem WF.up {w a k nH nP : Nat} {h h2 : HH} {al al2 : AL} {z : Int} (hf : WF w nH nP h al h2 al2) (ha : (a = w + 1 ∧ k < nH) ∨ (a = w + 2 ∧ k < nP) ∨ (a = w + 3 ∧ k < nP) ∨ (a = w ∧ (k = 7 ∨ k = 9))) : WF w nH nP h al (uH h2 a k z) al2 := by
  refine ⟨fun q j e1 e2 e3 e4 e5 => ?_, hf.2⟩
  rw [uH_ne (fun e => by
    obtain ⟨rfl, rfl⟩ := e
    rcases ha with r | r | r | r
    · exact e2 r
    · exact e3 r
    · exact e4 r
    · exact e5 r)]
  exact hf.1 q j e1 e2 e3 e4 e5
theorem WF.wd {w nH nP : Nat} {h h2 : HH} {al al2 : AL} (hc : WF w nH nP h al h2 al2) (hw : w = 10 ∨ w = 20) (hW : Wd h) : Wd h2 := hW.of fun a k hk => by
  refine hc.1 a k ?_ ?_ ?_ ?_ ?_
  · cases e : tG a with
    | false => rfl
    | true => exact absurd (by rw [tG_wl e]; show (-9 : Int) < 0; decide) hk
  · rintro ⟨rfl, _⟩; rcases hw with rfl | rfl <;> exact hk (by show (-9 : Int) < 0; decide)
  · rintro ⟨rfl, _⟩; rcases hw with rfl | rfl <;> exact hk (by show (-9 : Int) < 0; decide)
  · rintro ⟨rfl, _⟩; rcases hw with rfl | rfl <;> exact hk (by show (-9 : Int) < 0; decide)
  · rintro ⟨rfl, q⟩
    rcases hw with rfl | rfl <;> rcases q with rfl | rfl <;> exact hk (by decide)
/-- grounds stay when others change -/
theorem CGs.ot {h h2 : HH} {al : AL} {V : Nat → List Cl} {nV : Int} (hC : CGs h al V nV) (hq : ∀ a k, a = 5 ∨ (80 ≤ a ∧ a ≤ 115) ∨ (230 ≤ a ∧ a ≤ 565) → h2 a k = h a k) : CGs h2 al V nV :=
  ⟨⟨hC.1.1, hC.1.2.1.fr (fun a k _ _ => hq a k (by omega)) (fun k => hq _ k (by omega)), fun f hf hf2 => (hC.1.2.2 f hf hf2).fr (fun a k _ _ => hq a k (by omega)) (fun k => hq _ k (by omega))⟩, fun p hp => (hC.2 p hp).fr (hq _ _ (by omega)) (fun _ _ => rfl) fun a k _ _ => hq a k (by omega)⟩
theorem CGs.up {h : HH} {al : AL} {V : Nat → List Cl} {nV z : Int} {a k : Nat} (hC : CGs h al V nV) (ha : a < 80 ∧ a ≠ 5) : CGs (uH h a k z) al V nV := hC.ot fun q j e => uH_ne (by omega)
theorem HF.wf {h h2 : HH} {al al2 : AL} {w ho nH nP : Nat} {n k v : Int} {st : Nat → Int} (hF : HF h ho n k v st) (hh : HN ho) (hw : w = 10 ∨ w = 20) (hc : WF w nH nP h al h2 al2) : HF h2 ho n k v st := by
  have hb := hh.b
  refine hF.fr fun a k q1 q2 => hc.1 a k ?_ (by omega) (by omega) (by omega) (by omega)
  have c : ck 224 (fun a => decide (200 ≤ a → tG a = false)) = true := by decide +kernel
  exact of_decide_eq_true (ck_of c (by omega)) (by omega)
theorem WH.wf {h h2 : HH} {al al2 : AL} {w who nP nH nP2 : Nat} {k v : Nat → Int} {st : Nat → Nat → Int} (hH : WH h who nP k v st) (hwho : who = 2 ∨ who = 3) (hw : w = 10 ∨ w = 20) (hc : WF w nH nP2 h al h2 al2) : WH h2 who nP k v st := by
  intro p hp
  have e : h2 who p = h who p := hc.1 who p (by rcases hwho with rfl | rfl <;> rfl) (by omega) (by omega) (by omega) (by omega)
  rw [e]
  refine ⟨fun q => ?_, (hH p hp).2⟩
  obtain ⟨ho, a1, a2, a3⟩ := (hH p hp).1 q
  exact ⟨ho, a1, a2, a3.wf a1 hw hc⟩
theorem CWd.cf {w : Nat} {h h2 : HH} {al al2 : AL} {nH nP : Nat} {S : Nat → Nat} {O P : Nat → Int} (hC : CWd w h nH nP S O P) (hw : w = 10 ∨ w = 20) (hc : CF h al h2 al2) : CWd w h2 nH nP S O P := by
  obtain ⟨c1, c2, c3⟩ := hC
  refine ⟨fun j hj => (hc.1 _ _ (by rcases hw with rfl | rfl <;> rfl)).trans (c1 j hj), fun p hp => ?_, fun p hp => (hc.1 _ _ (by rcases hw with rfl | rfl <;> rfl)).trans (c3 p hp)⟩
  rw [hc.1 (w + 2) p (by rcases hw with rfl | rfl <;> rfl)]
  exact c2 p hp
section YE
variable {g : GC} {d : Nat} {h : HH} {al : AL} {K : KT}
theorem c_stepsInE {ho gn l s : Nat} {n k v pu pay li si : Int} {st : Nat → Int} {T : TB} (hg : GN gn) (hh : HN ho) (hG : GA h gn T) (h9 : h gn 9 = pay) (hF : HF h ho n k v st) (hli : li = (l : Int)) (hl : 1 ≤ l ∧ l ≤ 9) (hsi : si = (s : Int)) (hs : s < 10) (hK : ∀ h2 : HH, SP2 h h2 gn → GPl h2 gn T → K (some (xi (stS k v st pay T l s pu : Int))) h2 al) :
    Call g (d + 5) yHo_stepsIn [xr (Int.ofNat ho), xr (Int.ofNat gn), xi si, xi li, xi pu] h al K := by
  subst hli
  subst hsi
  exact c_stepsIn hg hh hG h9 hF hl hs hK
theorem c_gainE {gn l s m : Nat} {li si mi : Int} {T : TB} (hg : GN gn) (hgf : GF h gn) (hT : GT h gn T) (hli : li = (l : Int)) (hl : 1 ≤ l ∧ l ≤ 18) (hsi : si = (s : Int)) (hmi : mi = (m : Int)) (hs : s + m < 10) (hK : K (some (xi (gnS T l s m))) h al) : Call g (d + 2) yGr_gain [xr (Int.ofNat gn), xi li, xi si, xi mi] h al K := by
  subst hli
  subst hsi
  subst hmi
  exact c_gain hg hgf hT hl hs hK
theorem c_behindE {gn l s m : Nat} {li si mi : Int} {T : TB} (hg : GN gn) (hgf : GF h gn) (hT : GT h gn T) (hd : gdT T) (hli : li = (l : Int)) (hl : 1 ≤ l ∧ l ≤ 18) (hsi : si = (s : Int)) (hmi : mi = (m : Int)) (hs : s + m < 10) (hK : K (some (xi (bhS T l s m : Int))) h al) : Call g (d + 2) yGr_behind [xr (Int.ofNat gn), xi li, xi si, xi mi] h al K := by
  subst hli
  subst hsi
  subst hmi
  exact c_behind hg hgf hT hd hl hs hK
set_option maxRecDepth 8000 in
theorem c_yearOf_n {V : Nat → List Cl} {nV : Int} {who j nH nP l : Nat} {k v : Nat → Int} {st : Nat → Nat → Int} {S : Nat → Nat} {O P : Nat → Int} (hW : Wd h) (hC : CGs h al V nV) (hv : -1 ≤ h 10 10 ∧ h 10 10 < nV) (hwho : who = 2 ∨ who = 3) (hWH : WH h who nP k v st) (hcw : CWd 10 h nH nP S O P) (hnP : nP ≤ 6) (hnH : nH ≤ 6) (hj : j < nH) (hlf : h 10 7 = (l : Int)) (hl : 1 ≤ l ∧ l ≤ 9) (hs : S j < 10) (hI : inj O nP)
    (hK : ∀ (h2 : HH) (al2 : AL), WF 10 nH nP h al h2 al2 → (h2 10 7 = h 10 7 ∧ h2 10 9 = h 10 9) → CGs h2 al2 V nV → CWd 10 h2 nH nP (fun q => if q = j then sY (Vw V (h 10 10)) k v st nP l S O P j else S q) O (fun p => if O p = (j : Int) then pY (Vw V (h 10 10)) k v st l S O P p else P p) → K (some (xi (if ow O nP j < 0 then 0 else gY (Vw V (h 10 10)) k v st l S O P (ow O nP j).toNat))) h2 al2) :
    Call g (d + 6) yLa_yearOf [xr 1, xr 10, xr (Int.ofNat who), xi (j : Int)] h al K := by
  have hj6 : j < 6 := by omega
  obtain ⟨c1, c2, c3⟩ := id hcw
  refine cof ocLa_yearOf rfl (XW_t4 [33] 60 okLa_yearOf ?_)
  refine c_whose_n hW (fun p hp e _ => ?_) (fun hno => ?_)
  · have hpn : p < nP := by
      by_cases q : p < nP
      · exact q
      · have := (c2 p hp).2 (by omega)
        rw [show h (10 + 2) p = (j : Int) from e] at this
        omega
    have eO : O p = (j : Int) := by
      rcases (c2 p hp).1 hpn with ⟨_, a2⟩ | ⟨_, a2⟩
      · rw [show h (10 + 2) p = (j : Int) from e] at a2
        omega
      · exact a2.symm.trans e
    have eow : ow O nP j = (p : Int) := ow_p hI hpn (by omega) eO
    have eoj : (O p).toNat = j := by rw [eO]; rfl
    obtain ⟨ho, hh, ewho, hF⟩ := (hWH p hp).1 hpn
    obtain ⟨k0, k1⟩ := hh.k
    have emY : mY (Vw V (h 10 10)) k v st l S O P p = stS (k p) (v p) (st p) (lastL (Vw V (h 10 10)) 3 0) (tbl (Vw V (h 10 10)) (j : Int) (p : Int)) l (S j) (P p) := by
      unfold mY
      rw [eoj, eO]
    refine c_ground_n hW hC hv hj6 (Or.inl ⟨rfl, hp⟩) fun h2 al2 hc hC2 h5 eT h9 hG => ?_
    have hg : GN (230 + 8 * (7 * j + p)) := ⟨7 * j + p, by omega, rfl⟩
    obtain ⟨g0, -⟩ := hg.k
    rw [hnm_n hp] at hG eT
    have hF2 := hF.cf hh hc
    have hcw2 := hcw.cf (by decide) hc
    have ew2 : h2 who p = (ho : Int) := (hc.1 who p (by rcases hwho with rfl | rfl <;> rfl)).trans ewho
    have e7 : h2 10 7 = (l : Int) := (hc.1 10 7 rfl).trans hlf
    have hW2 := hc.wd hW
    obtain ⟨h3, rfl⟩ := id hW2
    refine cond_i (by rcases hwho with rfl | rfl <;> rfl) ?_
    refine ite_t (by rcases hwho with rfl | rfl <;> (show (p : Int) < 6; omega)) ?_
    refine cond_i (by rcases hwho with rfl | rfl <;> rfl) ⟨⟨by omega, by rcases hwho with rfl | rfl <;> (show (p : Int) < 6; omega)⟩, ?_⟩
    show XW g (d + 5) mLa_yearOf K 33 [some (xr 1), some (xr 10), some (xr (Int.ofNat who)), some (xi (j : Int)), some (xi (p : Int)), some (xr (Int.ofNat (230 + 8 * (7 * j + p)))), none, none, none, none] [xr (wr h3 who p)] (wr h3) al2
    rw [ew2]
    refine XW_t4 [] 80 okLa_yearOf ?_
    refine c_atE rfl rfl (by show j < 6; exact hj6) (hcw2.1 j hj) ?_
    refine c_atE rfl rfl (by show p < 6; exact hp) (hcw2.2.2 p hpn) ?_
    refine cond_i (rcv_c k0 rfl rfl) ?_
    refine c_stepsInE (l := l) (s := S j) hg hh hG h9 hF2 e7 hl rfl hs fun h4 hS4 hP4 => ?_
    have hsp := hC2.sp (by omega) h5 hS4 (by rw [eT]; exact hP4)
    have hc4 := hc.trans hsp.1
    have hgf4 := hS4.gf hG.1
    have hgt4 := hS4.gt hG.2.1
    have hcw4 := hcw.cf (by decide) hc4
    have e74 : h4 10 7 = (l : Int) := (hc4.1 10 7 rfl).trans hlf
    have hsm : S j + stS (k p) (v p) (st p) (lastL (Vw V (h 10 10)) 3 0) (tbl (Vw V (h 10 10)) (j : Int) (p : Int)) l (S j) (P p) < 10 := stS_le hs hF.2.2.2.2.2.1.2
    have hC4 := hsp.2
    clear hsp
    obtain ⟨h5', rfl⟩ := hc4.wd hW
    refine cond_i (rcv_c g0 rfl rfl) ?_
    refine c_gainE (l := l) (s := S j) hg hgf4 hgt4 e74 ⟨hl.1, by omega⟩ rfl rfl hsm ?_
    refine c_atE rfl rfl (by show p < 6; exact hp) (hcw4.2.2 p hpn) ?_
    refine c_putE rfl rfl (by show p < 6; exact hp) ?_
    refine cond_i (rcv_c g0 rfl rfl) ?_
    refine c_behindE (l := l) (s := S j) (T := tbl (Vw V (h 10 10)) (j : Int) (p : Int)) hg (hgf4.fr fun q => uH_ne (o := 13) (by omega)) (hgt4.fr fun a q q1 q2 => uH_ne (o := 13) (by omega)) hG.2.2.1 e74 ⟨hl.1, by omega⟩ rfl rfl hsm ?_
    refine c_putE rfl rfl (by show j < 6; exact hj6) ?_
    have fin := hK _ al2 ((hc4.wf.up (a := 10 + 3) (k := p) (z := wI (P p + gnS (tbl (Vw V (h 10 10)) (j : Int) (p : Int)) l (S j) (stS (k p) (v p) (st p) (lastL (Vw V (h 10 10)) 3 0) (tbl (Vw V (h 10 10)) (j : Int) (p : Int)) l (S j) (P p)))) (by omega)).up (a := 10 + 1) (k := j) (z := (bhS (tbl (Vw V (h 10 10)) (j : Int) (p : Int)) l (S j) (stS (k p) (v p) (st p) (lastL (Vw V (h 10 10)) 3 0) (tbl (Vw V (h 10 10)) (j : Int) (p : Int)) l (S j) (P p)) : Int)) (by omega)) ⟨?_, ?_⟩ ((hC4.up (by decide)).up (by decide)) ⟨fun q hq => ?_, fun q hq => ?_, fun q hq => ?_⟩
    · rw [eow, if_neg (by omega)] at fin
      have egY : gY (Vw V (h 10 10)) k v st l S O P (p : Int).toNat = gnS (tbl (Vw V (h 10 10)) (j : Int) (p : Int)) l (S j) (stS (k p) (v p) (st p) (lastL (Vw V (h 10 10)) 3 0) (tbl (Vw V (h 10 10)) (j : Int) (p : Int)) l (S j) (P p)) := by
        show gY _ k v st l S O P p = _
        unfold gY
        rw [emY, eoj, eO]
      rw [egY] at fin
      exact fin
    · rw [uH_ne (by omega), uH_ne (by omega)]
      exact hc4.1 10 7 rfl
    · rw [uH_ne (by omega), uH_ne (by omega)]
      exact hc4.1 10 9 rfl
    · show _ = ((if q = j then _ else _ : Nat) : Int)
      rw [uH_r]
      by_cases e : q = j
      · subst e
        rw [if_pos rfl, if_pos rfl]
        unfold sY
        rw [eow, if_neg (by omega)]
        show _ = ((bhS _ l (S q) (mY (Vw V (h 10 10)) k v st l S O P p) : Nat) : Int)
        rw [emY]
      · rw [if_neg e, if_neg e, uH_ne (by omega)]
        exact hcw4.1 q hq
    · rw [uH_ne (by omega), uH_ne (by omega)]
      exact hcw4.2.1 q hq
    · show _ = (if O q = (j : Int) then _ else _)
      rw [uH_ne (by omega), uH_r]
      by_cases e : q = p
      · subst e
        rw [if_pos rfl, if_pos eO]
        unfold pY
        rw [if_neg (by omega)]
        unfold gY
        rw [emY, eoj, eO]
      · rw [if_neg e, if_neg (fun e2 => e (hI q p hq hpn (by omega) (e2.trans eO.symm)))]
        exact hcw4.2.2 q hq
  · have hno2 : ∀ p, p < nP → O p ≠ (j : Int) := fun p hp e => by
      rcases (c2 p (by omega)).1 hp with ⟨a1, a2⟩ | ⟨a1, a2⟩
      · omega
      · exact hno p (by omega) (a2.trans e)
    have eow := ow_n hno2
    refine c_ground_n hW hC hv hj6 (Or.inr ⟨rfl, rfl⟩) fun h2 al2 hc hC2 h5 eT h9 hG => ?_
    have hg : GN (230 + 8 * (7 * j + 6)) := ⟨7 * j + 6, by omega, rfl⟩
    obtain ⟨g0, -⟩ := hg.k
    have hcw2 := hcw.cf (by decide) hc
    have e7 : h2 10 7 = (l : Int) := (hc.1 10 7 rfl).trans hlf
    have hW2 := hc.wd hW
    obtain ⟨h3, rfl⟩ := id hW2
    refine c_atE rfl rfl (by show j < 6; exact hj6) (hcw2.1 j hj) ?_
    refine cond_i (rcv_c g0 rfl rfl) ?_
    refine c_behindE (l := l) (s := S j) (m := 0) hg hG.1 hG.2.1 hG.2.2.1 e7 ⟨hl.1, by omega⟩ rfl rfl hs ?_
    refine c_putE rfl rfl (by show j < 6; exact hj6) ?_
    have fin := hK _ al2 (hc.wf.up (a := 10 + 1) (k := j) (z := (bhS (tbl (Vw V (h 10 10)) (j : Int) (hnm 6)) l (S j) 0 : Int)) (by omega)) ⟨?_, ?_⟩ (hC2.up (by decide)) ⟨fun q hq => ?_, fun q hq => ?_, fun q hq => ?_⟩
    · rw [eow, if_pos (by decide)] at fin
      exact fin
    · rw [uH_ne (by omega)]
      exact hc.1 10 7 rfl
    · rw [uH_ne (by omega)]
      exact hc.1 10 9 rfl
    · show _ = ((if q = j then _ else _ : Nat) : Int)
      rw [uH_r]
      by_cases e : q = j
      · subst e
        rw [if_pos rfl, if_pos rfl]
        unfold sY
        rw [eow, if_pos (by decide)]
        rfl
      · rw [if_neg e, if_neg e]
        exact hcw2.1 q hq
    · rw [uH_ne (by omega)]
      exact hcw2.2.1 q hq
    · show _ = (if O q = (j : Int) then _ else _)
      rw [uH_ne (by omega), if_neg (hno2 q hq)]
      exact hcw2.2.2 q hq
set_option maxRecDepth 8000 in
theorem c_yearOf_a {V : Nat → List Cl} {nV : Int} {who j nH nP l : Nat} {k v : Nat → Int} {st : Nat → Nat → Int} {S : Nat → Nat} {O P : Nat → Int} (hW : Wd h) (hC : CGs h al V nV) (hv : -1 ≤ h 20 10 ∧ h 20 10 < nV) (hwho : who = 2 ∨ who = 3) (hWH : WH h who nP k v st) (hcw : CWd 20 h nH nP S O P) (hnP : nP ≤ 6) (hnH : nH ≤ 6) (hj : j < nH) (hlf : h 20 7 = (l : Int)) (hl : 1 ≤ l ∧ l ≤ 9) (hs : S j < 10) (hI : inj O nP)
    (hK : ∀ (h2 : HH) (al2 : AL), WF 20 nH nP h al h2 al2 → (h2 20 7 = h 20 7 ∧ h2 20 9 = h 20 9) → CGs h2 al2 V nV → CWd 20 h2 nH nP (fun q => if q = j then sY (Vw V (h 20 10)) k v st nP l S O P j else S q) O (fun p => if O p = (j : Int) then pY (Vw V (h 20 10)) k v st l S O P p else P p) → K (some (xi (if ow O nP j < 0 then 0 else gY (Vw V (h 20 10)) k v st l S O P (ow O nP j).toNat))) h2 al2) :
    Call g (d + 6) yLa_yearOf [xr 1, xr 20, xr (Int.ofNat who), xi (j : Int)] h al K := by
  have hj6 : j < 6 := by omega
  obtain ⟨c1, c2, c3⟩ := id hcw
  refine cof ocLa_yearOf rfl (XW_t4 [33] 60 okLa_yearOf ?_)
  refine c_whose_a hW (fun p hp e _ => ?_) (fun hno => ?_)
  · have hpn : p < nP := by
      by_cases q : p < nP
      · exact q
      · have := (c2 p hp).2 (by omega)
        rw [show h (20 + 2) p = (j : Int) from e] at this
        omega
    have eO : O p = (j : Int) := by
      rcases (c2 p hp).1 hpn with ⟨_, a2⟩ | ⟨_, a2⟩
      · rw [show h (20 + 2) p = (j : Int) from e] at a2
        omega
      · exact a2.symm.trans e
    have eow : ow O nP j = (p : Int) := ow_p hI hpn (by omega) eO
    have eoj : (O p).toNat = j := by rw [eO]; rfl
    obtain ⟨ho, hh, ewho, hF⟩ := (hWH p hp).1 hpn
    obtain ⟨k0, k1⟩ := hh.k
    have emY : mY (Vw V (h 20 10)) k v st l S O P p = stS (k p) (v p) (st p) (lastL (Vw V (h 20 10)) 3 0) (tbl (Vw V (h 20 10)) (j : Int) (p : Int)) l (S j) (P p) := by
      unfold mY
      rw [eoj, eO]
    refine c_ground_a hW hC hv hj6 (Or.inl ⟨rfl, hp⟩) fun h2 al2 hc hC2 h5 eT h9 hG => ?_
    have hg : GN (230 + 8 * (7 * j + p)) := ⟨7 * j + p, by omega, rfl⟩
    obtain ⟨g0, -⟩ := hg.k
    rw [hnm_n hp] at hG eT
    have hF2 := hF.cf hh hc
    have hcw2 := hcw.cf (by decide) hc
    have ew2 : h2 who p = (ho : Int) := (hc.1 who p (by rcases hwho with rfl | rfl <;> rfl)).trans ewho
    have e7 : h2 20 7 = (l : Int) := (hc.1 20 7 rfl).trans hlf
    have hW2 := hc.wd hW
    obtain ⟨h3, rfl⟩ := id hW2
    refine cond_i (by rcases hwho with rfl | rfl <;> rfl) ?_
    refine ite_t (by rcases hwho with rfl | rfl <;> (show (p : Int) < 6; omega)) ?_
    refine cond_i (by rcases hwho with rfl | rfl <;> rfl) ⟨⟨by omega, by rcases hwho with rfl | rfl <;> (show (p : Int) < 6; omega)⟩, ?_⟩
    show XW g (d + 5) mLa_yearOf K 33 [some (xr 1), some (xr 20), some (xr (Int.ofNat who)), some (xi (j : Int)), some (xi (p : Int)), some (xr (Int.ofNat (230 + 8 * (7 * j + p)))), none, none, none, none] [xr (wr h3 who p)] (wr h3) al2
    rw [ew2]
    refine XW_t4 [] 80 okLa_yearOf ?_
    refine c_atE rfl rfl (by show j < 6; exact hj6) (hcw2.1 j hj) ?_
    refine c_atE rfl rfl (by show p < 6; exact hp) (hcw2.2.2 p hpn) ?_
    refine cond_i (rcv_c k0 rfl rfl) ?_
    refine c_stepsInE (l := l) (s := S j) hg hh hG h9 hF2 e7 hl rfl hs fun h4 hS4 hP4 => ?_
    have hsp := hC2.sp (by omega) h5 hS4 (by rw [eT]; exact hP4)
    have hc4 := hc.trans hsp.1
    have hgf4 := hS4.gf hG.1
    have hgt4 := hS4.gt hG.2.1
    have hcw4 := hcw.cf (by decide) hc4
    have e74 : h4 20 7 = (l : Int) := (hc4.1 20 7 rfl).trans hlf
    have hsm : S j + stS (k p) (v p) (st p) (lastL (Vw V (h 20 10)) 3 0) (tbl (Vw V (h 20 10)) (j : Int) (p : Int)) l (S j) (P p) < 10 := stS_le hs hF.2.2.2.2.2.1.2
    have hC4 := hsp.2
    clear hsp
    obtain ⟨h5', rfl⟩ := hc4.wd hW
    refine cond_i (rcv_c g0 rfl rfl) ?_
    refine c_gainE (l := l) (s := S j) hg hgf4 hgt4 e74 ⟨hl.1, by omega⟩ rfl rfl hsm ?_
    refine c_atE rfl rfl (by show p < 6; exact hp) (hcw4.2.2 p hpn) ?_
    refine c_putE rfl rfl (by show p < 6; exact hp) ?_
    refine cond_i (rcv_c g0 rfl rfl) ?_
    refine c_behindE (l := l) (s := S j) (T := tbl (Vw V (h 20 10)) (j : Int) (p : Int)) hg (hgf4.fr fun q => uH_ne (o := 23) (by omega)) (hgt4.fr fun a q q1 q2 => uH_ne (o := 23) (by omega)) hG.2.2.1 e74 ⟨hl.1, by omega⟩ rfl rfl hsm ?_
    refine c_putE rfl rfl (by show j < 6; exact hj6) ?_
    have fin := hK _ al2 ((hc4.wf.up (a := 20 + 3) (k := p) (z := wI (P p + gnS (tbl (Vw V (h 20 10)) (j : Int) (p : Int)) l (S j) (stS (k p) (v p) (st p) (lastL (Vw V (h 20 10)) 3 0) (tbl (Vw V (h 20 10)) (j : Int) (p : Int)) l (S j) (P p)))) (by omega)).up (a := 20 + 1) (k := j) (z := (bhS (tbl (Vw V (h 20 10)) (j : Int) (p : Int)) l (S j) (stS (k p) (v p) (st p) (lastL (Vw V (h 20 10)) 3 0) (tbl (Vw V (h 20 10)) (j : Int) (p : Int)) l (S j) (P p)) : Int)) (by omega)) ⟨?_, ?_⟩ ((hC4.up (by decide)).up (by decide)) ⟨fun q hq => ?_, fun q hq => ?_, fun q hq => ?_⟩
    · rw [eow, if_neg (by omega)] at fin
      have egY : gY (Vw V (h 20 10)) k v st l S O P (p : Int).toNat = gnS (tbl (Vw V (h 20 10)) (j : Int) (p : Int)) l (S j) (stS (k p) (v p) (st p) (lastL (Vw V (h 20 10)) 3 0) (tbl (Vw V (h 20 10)) (j : Int) (p : Int)) l (S j) (P p)) := by
        show gY _ k v st l S O P p = _
        unfold gY
        rw [emY, eoj, eO]
      rw [egY] at fin
      exact fin
    · rw [uH_ne (by omega), uH_ne (by omega)]
      exact hc4.1 20 7 rfl
    · rw [uH_ne (by omega), uH_ne (by omega)]
      exact hc4.1 20 9 rfl
    · show _ = ((if q = j then _ else _ : Nat) : Int)
      rw [uH_r]
      by_cases e : q = j
      · subst e
        rw [if_pos rfl, if_pos rfl]
        unfold sY
        rw [eow, if_neg (by omega)]
        show _ = ((bhS _ l (S q) (mY (Vw V (h 20 10)) k v st l S O P p) : Nat) : Int)
        rw [emY]
      · rw [if_neg e, if_neg e, uH_ne (by omega)]
        exact hcw4.1 q hq
    · rw [uH_ne (by omega), uH_ne (by omega)]
      exact hcw4.2.1 q hq
    · show _ = (if O q = (j : Int) then _ else _)
      rw [uH_ne (by omega), uH_r]
      by_cases e : q = p
      · subst e
        rw [if_pos rfl, if_pos eO]
        unfold pY
        rw [if_neg (by omega)]
        unfold gY
        rw [emY, eoj, eO]
      · rw [if_neg e, if_neg (fun e2 => e (hI q p hq hpn (by omega) (e2.trans eO.symm)))]
        exact hcw4.2.2 q hq
  · have hno2 : ∀ p, p < nP → O p ≠ (j : Int) := fun p hp e => by
      rcases (c2 p (by omega)).1 hp with ⟨a1, a2⟩ | ⟨a1, a2⟩
      · omega
      · exact hno p (by omega) (a2.trans e)
    have eow := ow_n hno2
    refine c_ground_a hW hC hv hj6 (Or.inr ⟨rfl, rfl⟩) fun h2 al2 hc hC2 h5 eT h9 hG => ?_
    have hg : GN (230 + 8 * (7 * j + 6)) := ⟨7 * j + 6, by omega, rfl⟩
    obtain ⟨g0, -⟩ := hg.k
    have hcw2 := hcw.cf (by decide) hc
    have e7 : h2 20 7 = (l : Int) := (hc.1 20 7 rfl).trans hlf
    have hW2 := hc.wd hW
    obtain ⟨h3, rfl⟩ := id hW2
    refine c_atE rfl rfl (by show j < 6; exact hj6) (hcw2.1 j hj) ?_
    refine cond_i (rcv_c g0 rfl rfl) ?_
    refine c_behindE (l := l) (s := S j) (m := 0) hg hG.1 hG.2.1 hG.2.2.1 e7 ⟨hl.1, by omega⟩ rfl rfl hs ?_
    refine c_putE rfl rfl (by show j < 6; exact hj6) ?_
    have fin := hK _ al2 (hc.wf.up (a := 20 + 1) (k := j) (z := (bhS (tbl (Vw V (h 20 10)) (j : Int) (hnm 6)) l (S j) 0 : Int)) (by omega)) ⟨?_, ?_⟩ (hC2.up (by decide)) ⟨fun q hq => ?_, fun q hq => ?_, fun q hq => ?_⟩
    · rw [eow, if_pos (by decide)] at fin
      exact fin
    · rw [uH_ne (by omega)]
      exact hc.1 20 7 rfl
    · rw [uH_ne (by omega)]
      exact hc.1 20 9 rfl
    · show _ = ((if q = j then _ else _ : Nat) : Int)
      rw [uH_r]
      by_cases e : q = j
      · subst e
        rw [if_pos rfl, if_pos rfl]
        unfold sY
        rw [eow, if_pos (by decide)]
        rfl
      · rw [if_neg e, if_neg e]
        exact hcw2.1 q hq
    · rw [uH_ne (by omega)]
      exact hcw2.2.1 q hq
    · show _ = (if O q = (j : Int) then _ else _)
      rw [uH_ne (by omega), if_neg (hno2 q hq)]
      exact hcw2.2.2 q hq
end YE
