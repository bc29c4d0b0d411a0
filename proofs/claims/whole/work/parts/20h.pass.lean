-- years of the class
theorem yr_eq {V : List Cl} {k v : Nat → Int} {st : Nat → Nat → Int} {nP l j : Nat} {S S2 : Nat → Nat} {O P P2 : Nat → Int} (hS : S2 j = S j) (hP : ∀ p, p < nP → O p = (j : Int) → P2 p = P p) :
    sY V k v st nP l S2 O P2 j = sY V k v st nP l S O P j ∧ (if ow O nP j < 0 then 0 else gY V k v st l S2 O P2 (ow O nP j).toNat) = (if ow O nP j < 0 then 0 else gY V k v st l S O P (ow O nP j).toNat) ∧ ∀ p, p < nP → O p = (j : Int) → pY V k v st l S2 O P2 p = pY V k v st l S O P p := by
  have em : ∀ p, p < nP → O p = (j : Int) → mY V k v st l S2 O P2 p = mY V k v st l S O P p := fun p hp e => by
    unfold mY
    rw [e, hP p hp e, show ((j : Int)).toNat = j from rfl, hS]
  have eg : ∀ p, p < nP → O p = (j : Int) → gY V k v st l S2 O P2 p = gY V k v st l S O P p := fun p hp e => by
    unfold gY
    rw [em p hp e, e, show ((j : Int)).toNat = j from rfl, hS]
  rcases ow_c O (j : Int) nP with ⟨a1, _⟩ | ⟨p, a1, a2, a3⟩
  · refine ⟨?_, ?_, fun p hp e => ?_⟩
    · unfold sY
      rw [if_pos (by omega), if_pos (by omega), hS]
    · rw [if_pos (by omega), if_pos (by omega)]
    · unfold pY
      rw [eg p hp e, hP p hp e]
  · refine ⟨?_, ?_, fun p hp e => ?_⟩
    · unfold sY
      rw [if_neg (by omega), if_neg (by omega), a2, show ((p : Int)).toNat = p from rfl, em p a1 a3, hS]
    · rw [if_neg (by omega), if_neg (by omega), a2]
      exact eg p a1 a3
    · unfold pY
      rw [eg p hp e, hP p hp e]
theorem CWd.cg {w : Nat} {h : HH} {nH nP : Nat} {S S2 : Nat → Nat} {O P P2 : Nat → Int} (hC : CWd w h nH nP S O P) (hS : ∀ j, j < nH → S j = S2 j) (hP : ∀ p, p < nP → P p = P2 p) : CWd w h nH nP S2 O P2 :=
  ⟨fun j hj => by rw [← hS j hj]; exact hC.1 j hj, hC.2.1, fun p hp => by rw [← hP p hp]; exact hC.2.2 p hp⟩
/-- what years of a world leave as it is -/
def PQ (w : Nat) (h : HH) (who nH nP rd lots : Nat) (lo : Nat → Nat) (vl : Int) (k v : Nat → Int) (st : Nat → Nat → Int) : Prop := h 1 5 = (nP : Int) ∧ h 1 6 = (nH : Int) ∧ h w 5 = (lots : Int) ∧ h w 8 = (rd : Int) ∧ h w 10 = vl ∧ (∀ q, q < lots → h (w + 4) q = (lo q : Int)) ∧ WH h who nP k v st
theorem PQ.wf {w who nH nP rd lots : Nat} {h h2 : HH} {al al2 : AL} {lo : Nat → Nat} {vl : Int} {k v : Nat → Int} {st : Nat → Nat → Int} (hQ : PQ w h who nH nP rd lots lo vl k v st) (hw : w = 10 ∨ w = 20) (hwho : who = 2 ∨ who = 3) (hc : WF w nH nP h al h2 al2) : PQ w h2 who nH nP rd lots lo vl k v st := by
  obtain ⟨q1, q2, q3, q4, q5, q6, q7⟩ := hQ
  have t : tG w = false ∧ tG (w + 4) = false := by rcases hw with rfl | rfl <;> exact ⟨rfl, rfl⟩
  refine ⟨(hc.1 1 5 rfl (by omega) (by omega) (by omega) (by omega)).trans q1, (hc.1 1 6 rfl (by omega) (by omega) (by omega) (by omega)).trans q2, (hc.1 w 5 t.1 (by omega) (by omega) (by omega) (by omega)).trans q3, (hc.1 w 8 t.1 (by omega) (by omega) (by omega) (by omega)).trans q4, (hc.1 w 10 t.1 (by omega) (by omega) (by omega) (by omega)).trans q5, fun q hq => (hc.1 (w + 4) q t.2 (by omega) (by omega) (by omega) (by omega)).trans (q6 q hq), q7.wf hwho hw hc⟩
/-- the bounds of what is counted -/
def PB (nH nP rd lots : Nat) (lo : Nat → Nat) (vl nV : Int) (v : Nat → Int) : Prop := nH ≤ 6 ∧ nP ≤ 6 ∧ (1 ≤ rd ∧ rd ≤ 9) ∧ lots ≤ 6 ∧ (∀ p q, p < lots → q < lots → lo p = lo q → p = q) ∧ (-1 ≤ vl ∧ vl < nV) ∧ ∀ p, p < nP → v p ≤ 9
section PA
variable {g : GC} {d : Nat} {h : HH} {al : AL} {K : KT}
set_option maxRecDepth 8000 in
theorem c_pass_n {V : Nat → List Cl} {nV vl : Int} {who nH nP rd lots l n yr : Nat} {lo : Nat → Nat} {k v : Nat → Int} {st : Nat → Nat → Int} {S : Nat → Nat} {O P : Nat → Int} (hW : Wd h) (hC : CGs h al V nV) (hwho : who = 2 ∨ who = 3) (hQ : PQ 10 h who nH nP rd lots lo vl k v st) (hB : PB nH nP rd lots lo vl nV v) (hcw : CWd 10 h nH nP S O P) (hg : gdW nH nP l S O P) (hl7 : h 10 7 = (l : Int)) (h9 : h 10 9 = (yr : Int)) (hyr : yr ≤ 10000) (hn : n ≤ 36)
    (hK : ∀ (h2 : HH) (al2 : AL), WF 10 nH nP h al h2 al2 → CGs h2 al2 V nV → h2 10 9 = ((yr + n : Nat) : Int) → h2 10 7 = ((yNs (Vw V vl) k v st nP nH rd lots lo (l, S, O, P, 0) n).1 : Int) → CWd 10 h2 nH nP (yNs (Vw V vl) k v st nP nH rd lots lo (l, S, O, P, 0) n).2.1 (yNs (Vw V vl) k v st nP nH rd lots lo (l, S, O, P, 0) n).2.2.1 (yNs (Vw V vl) k v st nP nH rd lots lo (l, S, O, P, 0) n).2.2.2.1 → K (some (xi (yNs (Vw V vl) k v st nP nH rd lots lo (l, S, O, P, 0) n).2.2.2.2)) h2 al2) :
    Call g (d + 7) yLa_pass [xr 1, xr 10, xr (Int.ofNat who), xi (n : Int)] h al K := by
  obtain ⟨b1, b2, b3, b4, b5, b6, b7⟩ := id hB
  -- the holdings of one year
  have loopB : ∀ (m j y : Nat) (Z : YZ) (h2 : HH) (al2 : AL), j + m = nH → gdZ nH nP Z → WF 10 nH nP h al h2 al2 → CGs h2 al2 V nV → h2 10 9 = ((yr + y : Nat) : Int) → h2 10 7 = (Z.1 : Int) →
      CWd 10 h2 nH nP (fun q => if q < j then sY (Vw V vl) k v st nP Z.1 Z.2.1 Z.2.2.1 Z.2.2.2.1 q else Z.2.1 q) Z.2.2.1 (fun p => if 0 ≤ Z.2.2.1 p ∧ Z.2.2.1 p < (j : Int) then pY (Vw V vl) k v st Z.1 Z.2.1 Z.2.2.1 Z.2.2.2.1 p else Z.2.2.2.1 p) →
      (∀ (h3 : HH) (al3 : AL) (x6 : Option XV), WF 10 nH nP h al h3 al3 → CGs h3 al3 V nV → h3 10 9 = ((yr + y : Nat) : Int) → h3 10 7 = (Z.1 : Int) → CWd 10 h3 nH nP (sY (Vw V vl) k v st nP Z.1 Z.2.1 Z.2.2.1 Z.2.2.2.1) Z.2.2.1 (pY (Vw V vl) k v st Z.1 Z.2.1 Z.2.2.1 Z.2.2.2.1) → XW g (d + 6) mLa_pass K 50 [some (xr 1), some (xr 10), some (xr (Int.ofNat who)), some (xi (n : Int)), some (xi (gnY (Vw V vl) k v st nP Z.1 Z.2.1 Z.2.2.1 Z.2.2.2.1 Z.2.2.2.2 nH)), some (xi (y : Int)), x6] [] h3 al3) →
      XW g (d + 6) mLa_pass K 15 [some (xr 1), some (xr 10), some (xr (Int.ofNat who)), some (xi (n : Int)), some (xi (gnY (Vw V vl) k v st nP Z.1 Z.2.1 Z.2.2.1 Z.2.2.2.1 Z.2.2.2.2 j)), some (xi (y : Int)), some (xi (j : Int))] [] h2 al2 := by
    intro m
    induction m with
    | zero =>
      intro j y Z h2 al2 hj hZ hf hC2 f9 f7 hc2 go
      have hQ2 := hQ.wf (by decide) hwho hf
      have hW2 := hf.wd (by decide) hW
      have e : j = nH := by omega
      subst e
      have key := go h2 al2 (some (xi (j : Int))) hf hC2 f9 f7 (hc2.cg (fun q hq => if_pos hq) (fun p hp => by
        rcases hZ.1.2.2.1 p hp with q | q
        · show (if 0 ≤ Z.2.2.1 p ∧ Z.2.2.1 p < (j : Int) then _ else _) = _
          rw [if_neg (by omega)]
          unfold pY
          rw [if_pos (by omega)]
        · show (if 0 ≤ Z.2.2.1 p ∧ Z.2.2.1 p < (j : Int) then _ else _) = _
          rw [if_pos q]))
      obtain ⟨h3, rfl⟩ := id hW2
      refine XW_t4 [15, 50] 60 okLa_pass ?_
      refine ite_f (show ¬ (j : Int) < wr h3 1 6 by rw [hQ2.2.1]; omega) ?_
      exact key
    | succ m ih =>
      intro j y Z h2 al2 hj hZ hf hC2 f9 f7 hc2 go
      have hQ2 := hQ.wf (by decide) hwho hf
      have hW2 := hf.wd (by decide) hW
      obtain ⟨h3, rfl⟩ := id hW2
      refine XW_t4 [15, 50] 60 okLa_pass ?_
      refine ite_t (show (j : Int) < wr h3 1 6 by rw [hQ2.2.1]; omega) ?_
      refine ite_t (by omega) ?_
      have hsj : (if j < j then sY (Vw V vl) k v st nP Z.1 Z.2.1 Z.2.2.1 Z.2.2.2.1 j else Z.2.1 j) = Z.2.1 j := if_neg (by omega)
      refine c_yearOf_n (l := Z.1) hW2 hC2 (by rw [hQ2.2.2.2.2.1]; exact b6) hwho hQ2.2.2.2.2.2.2 hc2 b2 b1 (by omega) f7 hZ.1.1 (by rw [hsj]; exact hZ.1.2.1 j (by omega)) hZ.1.2.2.2.1 fun h4 al4 hf4 f74 hC4 hc4 => ?_
      obtain ⟨y1, y2, y3⟩ := yr_eq (V := Vw V vl) (k := k) (v := v) (st := st) (nP := nP) (l := Z.1) (j := j) (S := Z.2.1) (S2 := fun q => if q < j then sY (Vw V vl) k v st nP Z.1 Z.2.1 Z.2.2.1 Z.2.2.2.1 q else Z.2.1 q) (O := Z.2.2.1) (P := Z.2.2.2.1) (P2 := fun p => if 0 ≤ Z.2.2.1 p ∧ Z.2.2.1 p < (j : Int) then pY (Vw V vl) k v st Z.1 Z.2.1 Z.2.2.1 Z.2.2.2.1 p else Z.2.2.2.1 p) hsj (fun p hp e => if_neg (by omega))
      rw [show wr h3 10 10 = vl from hQ2.2.2.2.2.1] at hc4 ⊢
      rw [y1] at hc4
      rw [y2]
      have := ih (j + 1) y Z h4 al4 (by omega) hZ (hf.trans hf4) hC4 (f74.2.trans f9) (f74.1.trans f7) (hc4.cg (fun q hq => by
        show (if q = j then _ else if q < j then _ else _) = (if q < j + 1 then _ else _)
        by_cases e : q = j
        · rw [if_pos e, if_pos (by omega), e]
        · rw [if_neg e]
          by_cases e2 : q < j
          · rw [if_pos e2, if_pos (by omega)]
          · rw [if_neg e2, if_neg (by omega)]) (fun p hp => by
        show (if Z.2.2.1 p = (j : Int) then _ else if 0 ≤ Z.2.2.1 p ∧ Z.2.2.1 p < (j : Int) then _ else _) = (if 0 ≤ Z.2.2.1 p ∧ Z.2.2.1 p < ((j + 1 : Nat) : Int) then _ else _)
        by_cases e : Z.2.2.1 p = (j : Int)
        · rw [if_pos e, if_pos (by omega), y3 p hp e]
        · rw [if_neg e]
          by_cases e2 : 0 ≤ Z.2.2.1 p ∧ Z.2.2.1 p < (j : Int)
          · rw [if_pos e2, if_pos (by omega)]
          · rw [if_neg e2, if_neg (by omega)])) go
      rw [← nS j (by omega)] at this
      exact this
  -- year by year
  have loopA : ∀ (m y : Nat) (h2 : HH) (al2 : AL) (x6 : Option XV), y + m = n → WF 10 nH nP h al h2 al2 → CGs h2 al2 V nV → h2 10 9 = ((yr + y : Nat) : Int) → h2 10 7 = ((yNs (Vw V vl) k v st nP nH rd lots lo (l, S, O, P, 0) y).1 : Int) → CWd 10 h2 nH nP (yNs (Vw V vl) k v st nP nH rd lots lo (l, S, O, P, 0) y).2.1 (yNs (Vw V vl) k v st nP nH rd lots lo (l, S, O, P, 0) y).2.2.1 (yNs (Vw V vl) k v st nP nH rd lots lo (l, S, O, P, 0) y).2.2.2.1 →
      XW g (d + 6) mLa_pass K 6 [some (xr 1), some (xr 10), some (xr (Int.ofNat who)), some (xi (n : Int)), some (xi (yNs (Vw V vl) k v st nP nH rd lots lo (l, S, O, P, 0) y).2.2.2.2), some (xi (y : Int)), x6] [] h2 al2 := by
    intro m
    induction m with
    | zero =>
      intro y h2 al2 x6 hy hf hC2 f9 f7 hc2
      refine XW_t4 [6] 60 okLa_pass ?_
      refine ite_f (by omega) ?_
      rw [show y = n by omega] at f9 f7 hc2 ⊢
      exact hK h2 al2 hf hC2 f9 f7 hc2
    | succ m ih =>
      intro y h2 al2 x6 hy hf hC2 f9 f7 hc2
      have hZ : gdZ nH nP (yNs (Vw V vl) k v st nP nH rd lots lo (l, S, O, P, 0) y) := yNs_ok ⟨hg, by show I32 0; unfold I32; omega⟩ b7 b3 b5 y
      have hnext := ih (y + 1)
      rw [show yNs (Vw V vl) k v st nP nH rd lots lo (l, S, O, P, 0) (y + 1) = yN (Vw V vl) k v st nP nH rd lots lo (yNs (Vw V vl) k v st nP nH rd lots lo (l, S, O, P, 0) y) from rfl] at hnext
      generalize yNs (Vw V vl) k v st nP nH rd lots lo (l, S, O, P, 0) y = Z at hZ hnext f7 hc2 ⊢
      refine XW_t4 [6, 15] 60 okLa_pass ?_
      refine ite_t (by omega) ?_
      refine loopB nH 0 y Z h2 al2 (by omega) hZ hf hC2 f9 f7 (hc2.cg (fun q hq => (if_neg (by omega)).symm) (fun p hp => (if_neg (by omega)).symm)) fun h3 al3 x6 hf3 hC3 f93 f73 hc3 => ?_
      have hQ3 := hQ.wf (by decide) hwho hf3
      have hW3 := hf3.wd (by decide) hW
      have hll := hZ.1.1
      have e9 : ∀ _ : Unit, wI (((yr + y : Nat) : Int) + 1) = ((yr + (y + 1) : Nat) : Int) := fun _ => nS (yr + y) (by omega)
      have e7 : ∀ _ : Unit, wI ((Z.1 : Int) - 1) = ((Z.1 - 1 : Nat) : Int) := fun _ => by rw [wI_id (by omega)]; omega
      have hf5 : WF 10 nH nP h al (uH (uH h3 10 9 ((yr + (y + 1) : Nat) : Int)) 10 7 ((Z.1 - 1 : Nat) : Int)) al3 := (hf3.up (by omega)).up (by omega)
      have hC5 : CGs (uH (uH h3 10 9 ((yr + (y + 1) : Nat) : Int)) 10 7 ((Z.1 - 1 : Nat) : Int)) al3 V nV := (hC3.up (by omega)).up (by omega)
      have hc5 : CWd 10 (uH (uH h3 10 9 ((yr + (y + 1) : Nat) : Int)) 10 7 ((Z.1 - 1 : Nat) : Int)) nH nP (sY (Vw V vl) k v st nP Z.1 Z.2.1 Z.2.2.1 Z.2.2.2.1) Z.2.2.1 (pY (Vw V vl) k v st Z.1 Z.2.1 Z.2.2.1 Z.2.2.2.1) := by
        obtain ⟨a1, a2, a3⟩ := hc3
        refine ⟨fun j hj => ?_, fun p hp => ?_, fun p hp => ?_⟩
        · rw [uH_ne (by omega), uH_ne (by omega)]; exact a1 j hj
        · rw [uH_ne (by omega), uH_ne (by omega)]; exact a2 p hp
        · rw [uH_ne (by omega), uH_ne (by omega)]; exact a3 p hp
      have hQ5 := hQ.wf (by decide) hwho hf5
      have hW5 := hf5.wd (by decide) hW
      have f95 : (uH (uH h3 10 9 ((yr + (y + 1) : Nat) : Int)) 10 7 ((Z.1 - 1 : Nat) : Int)) 10 9 = ((yr + (y + 1) : Nat) : Int) := by rw [uH_ne (by omega), uH_at]
      have f75 : (uH (uH h3 10 9 ((yr + (y + 1) : Nat) : Int)) 10 7 ((Z.1 - 1 : Nat) : Int)) 10 7 = ((Z.1 - 1 : Nat) : Int) := uH_at
      have key : XW g (d + 6) mLa_pass K 70 [some (xr 1), some (xr 10), some (xr (Int.ofNat who)), some (xi (n : Int)), some (xi (gnY (Vw V vl) k v st nP Z.1 Z.2.1 Z.2.2.1 Z.2.2.2.1 Z.2.2.2.2 nH)), some (xi (y : Int)), x6] [] (uH (uH h3 10 9 ((yr + (y + 1) : Nat) : Int)) 10 7 ((Z.1 - 1 : Nat) : Int)) al3 := by
        generalize uH (uH h3 10 9 ((yr + (y + 1) : Nat) : Int)) 10 7 ((Z.1 - 1 : Nat) : Int) = h5 at hf5 hC5 hc5 hQ5 hW5 f95 f75 ⊢
        have hend : ∀ h6 : HH, WF 10 nH nP h5 al3 h6 al3 → h6 10 7 = (rd : Int) → h6 10 9 = h5 10 9 → (∀ a q, 30 ≤ a ∨ a = 5 → h6 a q = h5 a q) → CWd 10 h6 nH nP (sY (Vw V vl) k v st nP Z.1 Z.2.1 Z.2.2.1 Z.2.2.2.1) (if lotB lots nH lo = true then oE lots lo else Z.2.2.1) (pE (lastL (Vw V vl) 3 0) (sY (Vw V vl) k v st nP Z.1 Z.2.1 Z.2.2.1 Z.2.2.2.1) Z.2.2.1 (pY (Vw V vl) k v st Z.1 Z.2.1 Z.2.2.1 Z.2.2.2.1)) → ¬ 2 ≤ Z.1 → XW g (d + 6) mLa_pass K 83 [some (xr 1), some (xr 10), some (xr (Int.ofNat who)), some (xi (n : Int)), some (xi (gnY (Vw V vl) k v st nP Z.1 Z.2.1 Z.2.2.1 Z.2.2.2.1 Z.2.2.2.2 nH)), some (xi (y : Int)), x6] [] h6 al3 := by
          intro h6 hf6 g7 g9 fo hc6 hz
          have := hnext h6 al3 x6 (by omega) (hf5.trans hf6) (hC5.ot fun a q e => fo a q (by omega)) (g9.trans f95) (by unfold yN; rw [if_neg hz]; exact g7) (by unfold yN; rw [if_neg hz]; exact hc6)
          unfold yN at this
          rw [if_neg hz, ← nS y (by omega)] at this
          refine XW_t4 [6] 60 okLa_pass ?_
          exact this
        have f10 : h5 10 10 = vl := hQ5.2.2.2.2.1
        by_cases q : 2 ≤ Z.1
        · have := hnext h5 al3 x6 (by omega) hf5 hC5 f95 (by unfold yN; rw [if_pos q]; exact f75) (by unfold yN; rw [if_pos q]; exact hc5)
          unfold yN at this
          rw [if_pos q, ← nS y (by omega)] at this
          obtain ⟨h7, rfl⟩ := id hW5
          refine XW_t4 [6] 60 okLa_pass ?_
          refine ite_f (show ¬ wr h7 10 7 < 1 by rw [f75]; omega) ?_
          exact this
        · obtain ⟨h7, rfl⟩ := id hW5
          refine XW_t4 [83] 60 okLa_pass ?_
          refine ite_t (show wr h7 10 7 < 1 by rw [f75]; omega) ?_
          refine c_endRound_n (rd := rd) (lots := lots) (lo := lo) hW5 hC5.1.2 hC5.1.1 (by rw [f10]; exact b6) hc5 hZ.1.2.2.1 hQ5.1 b2 hQ5.2.1 b1 hQ5.2.2.1 b4 hQ5.2.2.2.2.2.1 b5 hQ5.2.2.2.1 fun h6 hf6 g7 g9 fo hc6 => ?_
          rw [f10] at hc6
          exact hend h6 hf6 g7 g9 fo hc6 q
      rw [← e9 (), ← e7 (), ← f93, ← f73] at key
      obtain ⟨h7, rfl⟩ := id hW3
      refine XW_t4 [70] 60 okLa_pass ?_
      exact key
  refine cof ocLa_pass rfl (XW_t4 [6] 60 okLa_pass ?_)
  exact loopA n 0 h al none (by omega) WF.refl hC h9 hl7 hcw
set_option maxRecDepth 8000 in
theorem c_pass_a {V : Nat → List Cl} {nV vl : Int} {who nH nP rd lots l n yr : Nat} {lo : Nat → Nat} {k v : Nat → Int} {st : Nat → Nat → Int} {S : Nat → Nat} {O P : Nat → Int} (hW : Wd h) (hC : CGs h al V nV) (hwho : who = 2 ∨ who = 3) (hQ : PQ 20 h who nH nP rd lots lo vl k v st) (hB : PB nH nP rd lots lo vl nV v) (hcw : CWd 20 h nH nP S O P) (hg : gdW nH nP l S O P) (hl7 : h 20 7 = (l : Int)) (h9 : h 20 9 = (yr : Int)) (hyr : yr ≤ 10000) (hn : n ≤ 36)
    (hK : ∀ (h2 : HH) (al2 : AL), WF 20 nH nP h al h2 al2 → CGs h2 al2 V nV → h2 20 9 = ((yr + n : Nat) : Int) → h2 20 7 = ((yNs (Vw V vl) k v st nP nH rd lots lo (l, S, O, P, 0) n).1 : Int) → CWd 20 h2 nH nP (yNs (Vw V vl) k v st nP nH rd lots lo (l, S, O, P, 0) n).2.1 (yNs (Vw V vl) k v st nP nH rd lots lo (l, S, O, P, 0) n).2.2.1 (yNs (Vw V vl) k v st nP nH rd lots lo (l, S, O, P, 0) n).2.2.2.1 → K (some (xi (yNs (Vw V vl) k v st nP nH rd lots lo (l, S, O, P, 0) n).2.2.2.2)) h2 al2) :
    Call g (d + 7) yLa_pass [xr 1, xr 20, xr (Int.ofNat who), xi (n : Int)] h al K := by
  obtain ⟨b1, b2, b3, b4, b5, b6, b7⟩ := id hB
  -- the holdings of one year
  have loopB : ∀ (m j y : Nat) (Z : YZ) (h2 : HH) (al2 : AL), j + m = nH → gdZ nH nP Z → WF 20 nH nP h al h2 al2 → CGs h2 al2 V nV → h2 20 9 = ((yr + y : Nat) : Int) → h2 20 7 = (Z.1 : Int) →
      CWd 20 h2 nH nP (fun q => if q < j then sY (Vw V vl) k v st nP Z.1 Z.2.1 Z.2.2.1 Z.2.2.2.1 q else Z.2.1 q) Z.2.2.1 (fun p => if 0 ≤ Z.2.2.1 p ∧ Z.2.2.1 p < (j : Int) then pY (Vw V vl) k v st Z.1 Z.2.1 Z.2.2.1 Z.2.2.2.1 p else Z.2.2.2.1 p) →
      (∀ (h3 : HH) (al3 : AL) (x6 : Option XV), WF 20 nH nP h al h3 al3 → CGs h3 al3 V nV → h3 20 9 = ((yr + y : Nat) : Int) → h3 20 7 = (Z.1 : Int) → CWd 20 h3 nH nP (sY (Vw V vl) k v st nP Z.1 Z.2.1 Z.2.2.1 Z.2.2.2.1) Z.2.2.1 (pY (Vw V vl) k v st Z.1 Z.2.1 Z.2.2.1 Z.2.2.2.1) → XW g (d + 6) mLa_pass K 50 [some (xr 1), some (xr 20), some (xr (Int.ofNat who)), some (xi (n : Int)), some (xi (gnY (Vw V vl) k v st nP Z.1 Z.2.1 Z.2.2.1 Z.2.2.2.1 Z.2.2.2.2 nH)), some (xi (y : Int)), x6] [] h3 al3) →
      XW g (d + 6) mLa_pass K 15 [some (xr 1), some (xr 20), some (xr (Int.ofNat who)), some (xi (n : Int)), some (xi (gnY (Vw V vl) k v st nP Z.1 Z.2.1 Z.2.2.1 Z.2.2.2.1 Z.2.2.2.2 j)), some (xi (y : Int)), some (xi (j : Int))] [] h2 al2 := by
    intro m
    induction m with
    | zero =>
      intro j y Z h2 al2 hj hZ hf hC2 f9 f7 hc2 go
      have hQ2 := hQ.wf (by decide) hwho hf
      have hW2 := hf.wd (by decide) hW
      have e : j = nH := by omega
      subst e
      have key := go h2 al2 (some (xi (j : Int))) hf hC2 f9 f7 (hc2.cg (fun q hq => if_pos hq) (fun p hp => by
        rcases hZ.1.2.2.1 p hp with q | q
        · show (if 0 ≤ Z.2.2.1 p ∧ Z.2.2.1 p < (j : Int) then _ else _) = _
          rw [if_neg (by omega)]
          unfold pY
          rw [if_pos (by omega)]
        · show (if 0 ≤ Z.2.2.1 p ∧ Z.2.2.1 p < (j : Int) then _ else _) = _
          rw [if_pos q]))
      obtain ⟨h3, rfl⟩ := id hW2
      refine XW_t4 [15, 50] 60 okLa_pass ?_
      refine ite_f (show ¬ (j : Int) < wr h3 1 6 by rw [hQ2.2.1]; omega) ?_
      exact key
    | succ m ih =>
      intro j y Z h2 al2 hj hZ hf hC2 f9 f7 hc2 go
      have hQ2 := hQ.wf (by decide) hwho hf
      have hW2 := hf.wd (by decide) hW
      obtain ⟨h3, rfl⟩ := id hW2
      refine XW_t4 [15, 50] 60 okLa_pass ?_
      refine ite_t (show (j : Int) < wr h3 1 6 by rw [hQ2.2.1]; omega) ?_
      refine ite_t (by omega) ?_
      have hsj : (if j < j then sY (Vw V vl) k v st nP Z.1 Z.2.1 Z.2.2.1 Z.2.2.2.1 j else Z.2.1 j) = Z.2.1 j := if_neg (by omega)
      refine c_yearOf_a (l := Z.1) hW2 hC2 (by rw [hQ2.2.2.2.2.1]; exact b6) hwho hQ2.2.2.2.2.2.2 hc2 b2 b1 (by omega) f7 hZ.1.1 (by rw [hsj]; exact hZ.1.2.1 j (by omega)) hZ.1.2.2.2.1 fun h4 al4 hf4 f74 hC4 hc4 => ?_
      obtain ⟨y1, y2, y3⟩ := yr_eq (V := Vw V vl) (k := k) (v := v) (st := st) (nP := nP) (l := Z.1) (j := j) (S := Z.2.1) (S2 := fun q => if q < j then sY (Vw V vl) k v st nP Z.1 Z.2.1 Z.2.2.1 Z.2.2.2.1 q else Z.2.1 q) (O := Z.2.2.1) (P := Z.2.2.2.1) (P2 := fun p => if 0 ≤ Z.2.2.1 p ∧ Z.2.2.1 p < (j : Int) then pY (Vw V vl) k v st Z.1 Z.2.1 Z.2.2.1 Z.2.2.2.1 p else Z.2.2.2.1 p) hsj (fun p hp e => if_neg (by omega))
      rw [show wr h3 20 10 = vl from hQ2.2.2.2.2.1] at hc4 ⊢
      rw [y1] at hc4
      rw [y2]
      have := ih (j + 1) y Z h4 al4 (by omega) hZ (hf.trans hf4) hC4 (f74.2.trans f9) (f74.1.trans f7) (hc4.cg (fun q hq => by
        show (if q = j then _ else if q < j then _ else _) = (if q < j + 1 then _ else _)
        by_cases e : q = j
        · rw [if_pos e, if_pos (by omega), e]
        · rw [if_neg e]
          by_cases e2 : q < j
          · rw [if_pos e2, if_pos (by omega)]
          · rw [if_neg e2, if_neg (by omega)]) (fun p hp => by
        show (if Z.2.2.1 p = (j : Int) then _ else if 0 ≤ Z.2.2.1 p ∧ Z.2.2.1 p < (j : Int) then _ else _) = (if 0 ≤ Z.2.2.1 p ∧ Z.2.2.1 p < ((j + 1 : Nat) : Int) then _ else _)
        by_cases e : Z.2.2.1 p = (j : Int)
        · rw [if_pos e, if_pos (by omega), y3 p hp e]
        · rw [if_neg e]
          by_cases e2 : 0 ≤ Z.2.2.1 p ∧ Z.2.2.1 p < (j : Int)
          · rw [if_pos e2, if_pos (by omega)]
          · rw [if_neg e2, if_neg (by omega)])) go
      rw [← nS j (by omega)] at this
      exact this
  -- year by year
  have loopA : ∀ (m y : Nat) (h2 : HH) (al2 : AL) (x6 : Option XV), y + m = n → WF 20 nH nP h al h2 al2 → CGs h2 al2 V nV → h2 20 9 = ((yr + y : Nat) : Int) → h2 20 7 = ((yNs (Vw V vl) k v st nP nH rd lots lo (l, S, O, P, 0) y).1 : Int) → CWd 20 h2 nH nP (yNs (Vw V vl) k v st nP nH rd lots lo (l, S, O, P, 0) y).2.1 (yNs (Vw V vl) k v st nP nH rd lots lo (l, S, O, P, 0) y).2.2.1 (yNs (Vw V vl) k v st nP nH rd lots lo (l, S, O, P, 0) y).2.2.2.1 →
      XW g (d + 6) mLa_pass K 6 [some (xr 1), some (xr 20), some (xr (Int.ofNat who)), some (xi (n : Int)), some (xi (yNs (Vw V vl) k v st nP nH rd lots lo (l, S, O, P, 0) y).2.2.2.2), some (xi (y : Int)), x6] [] h2 al2 := by
    intro m
    induction m with
    | zero =>
      intro y h2 al2 x6 hy hf hC2 f9 f7 hc2
      refine XW_t4 [6] 60 okLa_pass ?_
      refine ite_f (by omega) ?_
      rw [show y = n by omega] at f9 f7 hc2 ⊢
      exact hK h2 al2 hf hC2 f9 f7 hc2
    | succ m ih =>
      intro y h2 al2 x6 hy hf hC2 f9 f7 hc2
      have hZ : gdZ nH nP (yNs (Vw V vl) k v st nP nH rd lots lo (l, S, O, P, 0) y) := yNs_ok ⟨hg, by show I32 0; unfold I32; omega⟩ b7 b3 b5 y
      have hnext := ih (y + 1)
      rw [show yNs (Vw V vl) k v st nP nH rd lots lo (l, S, O, P, 0) (y + 1) = yN (Vw V vl) k v st nP nH rd lots lo (yNs (Vw V vl) k v st nP nH rd lots lo (l, S, O, P, 0) y) from rfl] at hnext
      generalize yNs (Vw V vl) k v st nP nH rd lots lo (l, S, O, P, 0) y = Z at hZ hnext f7 hc2 ⊢
      refine XW_t4 [6, 15] 60 okLa_pass ?_
      refine ite_t (by omega) ?_
      refine loopB nH 0 y Z h2 al2 (by omega) hZ hf hC2 f9 f7 (hc2.cg (fun q hq => (if_neg (by omega)).symm) (fun p hp => (if_neg (by omega)).symm)) fun h3 al3 x6 hf3 hC3 f93 f73 hc3 => ?_
      have hQ3 := hQ.wf (by decide) hwho hf3
      have hW3 := hf3.wd (by decide) hW
      have hll := hZ.1.1
      have e9 : ∀ _ : Unit, wI (((yr + y : Nat) : Int) + 1) = ((yr + (y + 1) : Nat) : Int) := fun _ => nS (yr + y) (by omega)
      have e7 : ∀ _ : Unit, wI ((Z.1 : Int) - 1) = ((Z.1 - 1 : Nat) : Int) := fun _ => by rw [wI_id (by omega)]; omega
      have hf5 : WF 20 nH nP h al (uH (uH h3 20 9 ((yr + (y + 1) : Nat) : Int)) 20 7 ((Z.1 - 1 : Nat) : Int)) al3 := (hf3.up (by omega)).up (by omega)
      have hC5 : CGs (uH (uH h3 20 9 ((yr + (y + 1) : Nat) : Int)) 20 7 ((Z.1 - 1 : Nat) : Int)) al3 V nV := (hC3.up (by omega)).up (by omega)
      have hc5 : CWd 20 (uH (uH h3 20 9 ((yr + (y + 1) : Nat) : Int)) 20 7 ((Z.1 - 1 : Nat) : Int)) nH nP (sY (Vw V vl) k v st nP Z.1 Z.2.1 Z.2.2.1 Z.2.2.2.1) Z.2.2.1 (pY (Vw V vl) k v st Z.1 Z.2.1 Z.2.2.1 Z.2.2.2.1) := by
        obtain ⟨a1, a2, a3⟩ := hc3
        refine ⟨fun j hj => ?_, fun p hp => ?_, fun p hp => ?_⟩
        · rw [uH_ne (by omega), uH_ne (by omega)]; exact a1 j hj
        · rw [uH_ne (by omega), uH_ne (by omega)]; exact a2 p hp
        · rw [uH_ne (by omega), uH_ne (by omega)]; exact a3 p hp
      have hQ5 := hQ.wf (by decide) hwho hf5
      have hW5 := hf5.wd (by decide) hW
      have f95 : (uH (uH h3 20 9 ((yr + (y + 1) : Nat) : Int)) 20 7 ((Z.1 - 1 : Nat) : Int)) 20 9 = ((yr + (y + 1) : Nat) : Int) := by rw [uH_ne (by omega), uH_at]
      have f75 : (uH (uH h3 20 9 ((yr + (y + 1) : Nat) : Int)) 20 7 ((Z.1 - 1 : Nat) : Int)) 20 7 = ((Z.1 - 1 : Nat) : Int) := uH_at
      have key : XW g (d + 6) mLa_pass K 70 [some (xr 1), some (xr 20), some (xr (Int.ofNat who)), some (xi (n : Int)), some (xi (gnY (Vw V vl) k v st nP Z.1 Z.2.1 Z.2.2.1 Z.2.2.2.1 Z.2.2.2.2 nH)), some (xi (y : Int)), x6] [] (uH (uH h3 20 9 ((yr + (y + 1) : Nat) : Int)) 20 7 ((Z.1 - 1 : Nat) : Int)) al3 := by
        generalize uH (uH h3 20 9 ((yr + (y + 1) : Nat) : Int)) 20 7 ((Z.1 - 1 : Nat) : Int) = h5 at hf5 hC5 hc5 hQ5 hW5 f95 f75 ⊢
        have hend : ∀ h6 : HH, WF 20 nH nP h5 al3 h6 al3 → h6 20 7 = (rd : Int) → h6 20 9 = h5 20 9 → (∀ a q, 30 ≤ a ∨ a = 5 → h6 a q = h5 a q) → CWd 20 h6 nH nP (sY (Vw V vl) k v st nP Z.1 Z.2.1 Z.2.2.1 Z.2.2.2.1) (if lotB lots nH lo = true then oE lots lo else Z.2.2.1) (pE (lastL (Vw V vl) 3 0) (sY (Vw V vl) k v st nP Z.1 Z.2.1 Z.2.2.1 Z.2.2.2.1) Z.2.2.1 (pY (Vw V vl) k v st Z.1 Z.2.1 Z.2.2.1 Z.2.2.2.1)) → ¬ 2 ≤ Z.1 → XW g (d + 6) mLa_pass K 83 [some (xr 1), some (xr 20), some (xr (Int.ofNat who)), some (xi (n : Int)), some (xi (gnY (Vw V vl) k v st nP Z.1 Z.2.1 Z.2.2.1 Z.2.2.2.1 Z.2.2.2.2 nH)), some (xi (y : Int)), x6] [] h6 al3 := by
          intro h6 hf6 g7 g9 fo hc6 hz
          have := hnext h6 al3 x6 (by omega) (hf5.trans hf6) (hC5.ot fun a q e => fo a q (by omega)) (g9.trans f95) (by unfold yN; rw [if_neg hz]; exact g7) (by unfold yN; rw [if_neg hz]; exact hc6)
          unfold yN at this
          rw [if_neg hz, ← nS y (by omega)] at this
          refine XW_t4 [6] 60 okLa_pass ?_
          exact this
        have f10 : h5 20 10 = vl := hQ5.2.2.2.2.1
        by_cases q : 2 ≤ Z.1
        · have := hnext h5 al3 x6 (by omega) hf5 hC5 f95 (by unfold yN; rw [if_pos q]; exact f75) (by unfold yN; rw [if_pos q]; exact hc5)
          unfold yN at this
          rw [if_pos q, ← nS y (by omega)] at this
          obtain ⟨h7, rfl⟩ := id hW5
          refine XW_t4 [6] 60 okLa_pass ?_
          refine ite_f (show ¬ wr h7 20 7 < 1 by rw [f75]; omega) ?_
          exact this
        · obtain ⟨h7, rfl⟩ := id hW5
          refine XW_t4 [83] 60 okLa_pass ?_
          refine ite_t (show wr h7 20 7 < 1 by rw [f75]; omega) ?_
          refine c_endRound_a (rd := rd) (lots := lots) (lo := lo) hW5 hC5.1.2 hC5.1.1 (by rw [f10]; exact b6) hc5 hZ.1.2.2.1 hQ5.1 b2 hQ5.2.1 b1 hQ5.2.2.1 b4 hQ5.2.2.2.2.2.1 b5 hQ5.2.2.2.1 fun h6 hf6 g7 g9 fo hc6 => ?_
          rw [f10] at hc6
          exact hend h6 hf6 g7 g9 fo hc6 q
      rw [← e9 (), ← e7 (), ← f93, ← f73] at key
      obtain ⟨h7, rfl⟩ := id hW3
      refine XW_t4 [70] 60 okLa_pass ?_
      exact key
  refine cof ocLa_pass rfl (XW_t4 [6] 60 okLa_pass ?_)
  exact loopA n 0 h al none (by omega) WF.refl hC h9 hl7 hcw
end PA
