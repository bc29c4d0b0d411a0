-- a ground found, or made, and the valley that holds set on it
theorem wr4 {h : HH} {n : Nat} (hn : n < 5) : wr h 4 n = ((86 + 6 * n : Nat) : Int) := by
  have : n = 0 ∨ n = 1 ∨ n = 2 ∨ n = 3 ∨ n = 4 := by omega
  rcases this with rfl | rfl | rfl | rfl | rfl <;> rfl
section GD
variable {g : GC} {d : Nat} {h : HH} {al : AL} {K : KT}
theorem c_valleyOf_n (hW : Wd h) (hK : K (some (xr (Int.ofNat (vnm (h 10 10))))) h al) : Call g (d + 1) yLa_valleyOf [xr 1, xr 10] h al K := by
  obtain ⟨h, rfl⟩ := hW
  refine cof ocLa_valleyOf rfl (XW_to [] 40 okLa_valleyOf ?_)
  unfold vnm at hK
  refine ite_i (fun q => ?_) (fun q => ?_)
  · have q : wr h 10 10 < 0 := q
    rw [if_neg (by omega)] at hK
    exact hK
  · have q : ¬ wr h 10 10 < 0 := q
    refine ite_i (fun q2 => ?_) (fun q2 => ?_)
    · have q2 : wr h 10 10 < 5 := q2
      rw [if_pos (by omega)] at hK
      refine ⟨⟨by show 0 ≤ wr h 10 10; omega, q2⟩, ?_⟩
      show K (some (xr (wr h 4 (wr h 10 10).toNat))) (wr h) al
      rw [wr4 (by omega)]
      exact hK
    · have q2 : ¬ wr h 10 10 < 5 := q2
      rw [if_neg (by omega)] at hK
      exact hK
set_option maxRecDepth 8000 in
theorem c_ground_n {V : Nat → List Cl} {nV o : Int} {i p : Nat} (hW : Wd h) (hC : CGs h al V nV) (hv : -1 ≤ h 10 10 ∧ h 10 10 < nV) (hi : i < 6) (hp : (o = (p : Int) ∧ p < 6) ∨ (o = -5 ∧ p = 6))
    (hK : ∀ (h2 : HH) (al2 : AL), CF h al h2 al2 → CGs h2 al2 V nV → h2 5 (7 * i + p) = ((230 + 8 * (7 * i + p) : Nat) : Int) → tbG h2 V (7 * i + p) = tbl (Vw V (h 10 10)) (i : Int) (hnm p) → h2 (230 + 8 * (7 * i + p)) 9 = lastL (Vw V (h 10 10)) 3 0 → GA h2 (230 + 8 * (7 * i + p)) (tbl (Vw V (h 10 10)) (i : Int) (hnm p)) → K (some (xr (Int.ofNat (230 + 8 * (7 * i + p))))) h2 al2) :
    Call g (d + 5) yLa_ground [xr 1, xr 10, xi (i : Int), xi o] h al K := by
  have h6 : p ≤ 6 := by omega
  have hpl : 7 * i + p < 42 := by omega
  have hg : GN (230 + 8 * (7 * i + p)) := ⟨7 * i + p, hpl, rfl⟩
  obtain ⟨k0, k1, k2, k3, k4, k5, k6⟩ := hg.k
  have e7 : (7 * i + p) / 7 = i ∧ (7 * i + p) % 7 = p := by omega
  have h5 := hC.1.1
  have hvv : VN (vnm (h 10 10)) := vnm_VN _
  have hvb := hvv.b
  -- behind the making
  have fin : ∀ (h3 : HH) (al3 : AL) (x4 x5 x6 : Option XV), CF h al h3 al3 → (∀ q, q < 42 → q ≠ 7 * i + p → GV h3 al3 V nV q) → h3 5 (7 * i + p) = ((230 + 8 * (7 * i + p) : Nat) : Int) → (GS h3 V nV (7 * i + p) ∨ (GF h3 (230 + 8 * (7 * i + p)) ∧ h3 (230 + 8 * (7 * i + p)) 0 = (i : Int) ∧ h3 (230 + 8 * (7 * i + p)) 1 = hnm p ∧ h3 (230 + 8 * (7 * i + p)) 8 = -1)) →
      XW g (d + 4) mLa_ground K 88 [some (xr 1), some (xr 10), some (xi (i : Int)), some (xi o), x4, x5, x6, some (xr (Int.ofNat (230 + 8 * (7 * i + p))))] [] h3 al3 := by
    intro h3 al3 x4 x5 x6 hc hoth hn5 hS
    have hW3 : Wd h3 := hc.wd hW
    have hCV3 := hC.1.2.cf hc
    have ev : h3 10 10 = h 10 10 := hc.1 _ _ rfl
    have hvc := hCV3.at hv h5
    have hgf : GF h3 (230 + 8 * (7 * i + p)) ∧ h3 (230 + 8 * (7 * i + p)) 0 = (i : Int) ∧ h3 (230 + 8 * (7 * i + p)) 1 = hnm p := by
      rcases hS with s | s
      · refine ⟨s.1, ?_, ?_⟩
        · rw [s.2.1, e7.1]
        · rw [s.2.2.1, e7.2]
      · exact ⟨s.1, s.2.1, s.2.2.1⟩
    refine XW_t4 [] 40 okLa_ground ?_
    refine c_valleyOf_n hW3 ?_
    rw [ev]
    refine cond_i (rcv_c k0 rfl rfl) ?_
    refine c_stand (V := Vw V (h 10 10)) hg hvv hgf.1 (hW3.vf hvv) hvc hgf.2.1 hgf.2.2 (fun e8 => ?_) (fun e8 h4 hI hT => ?_)
    · have hS2 : GS h3 V nV (7 * i + p) := by
        rcases hS with s | s
        · exact s
        · rw [s.2.2.2] at e8
          omega
      have eT : tbG h3 V (7 * i + p) = tbl (Vw V (h 10 10)) (i : Int) (hnm p) := by
        unfold tbG gV
        rw [e8, vz_vnm (by omega), e7.1, e7.2]
      obtain ⟨s1, s2, s3, s4, s5, s6, s7⟩ := id hS2
      rw [eT] at s6 s7
      refine hK h3 al3 hc ⟨⟨h5, hCV3⟩, fun q hq => ?_⟩ hn5 eT ?_ ⟨s1, s6, tbl_ok hvc.2.2.2.1, s7⟩
      · by_cases e : q = 7 * i + p
        · rw [e]; exact Or.inr ⟨hn5, hS2⟩
        · exact hoth q hq e
      · rw [s5]
        unfold gV
        rw [e8, vz_vnm (by omega)]
    · have hc4 : CF h3 al3 h4 al3 := ⟨fun a k e => by
        have := tG_g e
        exact hI.1 a k (by omega) (by omega) (by omega) (by omega) (tG_v hvv e), fun _ _ => rfl⟩
      have f5 : ∀ q, h4 5 q = h3 5 q := fun q => hI.1 5 q (by omega) (by omega) (by omega) (by omega) (by omega)
      have hgf4 : GF h4 (230 + 8 * (7 * i + p)) := by
        obtain ⟨a1, a2, a3, a4, a5, a6⟩ := hgf.1
        exact ⟨(hI.2.1 2 (by decide) (by decide) (by decide)).trans a1, (hI.2.1 3 (by decide) (by decide) (by decide)).trans a2, (hI.2.1 4 (by decide) (by decide) (by decide)).trans a3, (hI.2.1 5 (by decide) (by decide) (by decide)).trans a4, (hI.2.1 6 (by decide) (by decide) (by decide)).trans a5, (hI.2.1 7 (by decide) (by decide) (by decide)).trans a6⟩
      have g0 := (hI.2.1 0 (by decide) (by decide) (by decide)).trans hgf.2.1
      have g1 := (hI.2.1 1 (by decide) (by decide) (by decide)).trans hgf.2.2
      obtain ⟨-, -, i8, i9, i11⟩ := id hI
      have eT : tbG h4 V (7 * i + p) = tbl (Vw V (h 10 10)) (i : Int) (hnm p) := by
        unfold tbG gV
        rw [i8, vz_vnm (by omega), e7.1, e7.2]
      have hP : GPl h4 (230 + 8 * (7 * i + p)) (tbl (Vw V (h 10 10)) (i : Int) (hnm p)) := ⟨by rw [i11]; decide, fun l s _ q => by rw [i11] at q; omega⟩
      refine hK h4 al3 (hc.trans hc4) ⟨⟨h5, hCV3.cf hc4⟩, fun q hq => ?_⟩ ((f5 _).trans hn5) eT i9 ⟨hgf4, hT, tbl_ok hvc.2.2.2.1, hP⟩
      by_cases e : q = 7 * i + p
      · rw [e]
        refine Or.inr ⟨(f5 _).trans hn5, hgf4, ?_, ?_, ⟨h 10 10, hv.1, hv.2, i8⟩, ?_, ?_, ?_⟩
        · rw [g0, e7.1]
        · rw [g1, e7.2]
        · rw [i9]
          unfold gV
          rw [i8, vz_vnm (by omega)]
        · rw [eT]; exact hT
        · rw [eT]; exact hP
      · exact (hoth q hq e).fr (f5 q) (fun _ _ => rfl) fun a k q1 q2 => hI.1 a k (by omega) (by omega) (by omega) (by omega) (by omega)
  -- the place
  have ej : ∀ _ : Unit, wI (wI ((i : Int) * 7) + (p : Int)) = ((7 * i + p : Nat) : Int) := fun _ => by
    rw [wI_id (z := (i : Int) * 7) (by omega), wI_id (by omega)]; omega
  have mid : ∀ x4 : Int, (x4 = 1 ∧ p = 6 ∨ x4 = 0 ∧ o = (p : Int) ∧ p < 6) → XW g (d + 4) mLa_ground K 52 [some (xr 1), some (xr 10), some (xi (i : Int)), some (xi o), some (xi (i : Int)), some (xi x4), some (xi (wI (wI ((i : Int) * 7) + (p : Int)))), some (xr (h 5 (7 * i + p)))] [] h al := by
    intro x4 hx4
    rw [ej ()]
    rcases hC.2 _ hpl with ⟨s1, s2⟩ | ⟨s1, s2⟩
    · rw [s1]
      refine XW_t4 [74] 40 okLa_ground ?_
      refine ⟨230 + 8 * (7 * i + p), k0, s2 0 (by decide), ?_⟩
      have go : XW g (d + 4) mLa_ground K 74 [some (xr 1), some (xr 10), some (xi (i : Int)), some (xi o), some (xi (i : Int)), some (xi x4), some (xi ((7 * i + p : Nat) : Int)), some (xr (-1))] [xi (hnm p), xi (i : Int), xr (Int.ofNat (230 + 8 * (7 * i + p))), xr (Int.ofNat (230 + 8 * (7 * i + p)))] (clr h (230 + 8 * (7 * i + p))) (upA al (230 + 8 * (7 * i + p))) := by
        obtain ⟨h0, rfl⟩ := id hW
        refine XW_t4 [88] 40 okLa_ground ?_
        refine cond_i (rcv_c k0 rfl rfl) ?_
        refine c_Grinit hg (by rw [clr_at]; unfold tyO; rw [k0]; rfl) (fun j j1 j2 => (upA_ne (by omega)).trans (s2 j j2)) fun h2 al2 fr fa gf f0 f1 f8 f11 => ?_
        have f14 : h2 1 4 = 5 := (fr 1 4 (by omega)).trans (clr_ne (by omega))
        have hW2 : Wd h2 := hW.of fun a k hk => by
          by_cases q : 230 ≤ a
          · exact absurd (by rw [wlG q]; show (-9 : Int) < 0; decide) hk
          · exact (fr a k (by omega)).trans (clr_ne (by omega))
        obtain ⟨h3, rfl⟩ := hW2
        refine cond_i (by rw [k0]; rfl) ?_
        refine ⟨⟨by omega, by show ((7 * i + p : Nat) : Int) < 42; omega⟩, ?_⟩
        have e : uH (wr h3) 5 (((7 * i + p : Nat) : Int)).toNat ((230 + 8 * (7 * i + p) : Nat) : Int) = uH (wr h3) 5 (7 * i + p) ((230 + 8 * (7 * i + p) : Nat) : Int) := rfl
        have fr2 : ∀ a k, (a < 230 + 8 * (7 * i + p) ∨ 230 + 8 * (7 * i + p) + 6 < a) → ¬ (a = 5 ∧ k = 7 * i + p) → uH (wr h3) 5 (7 * i + p) ((230 + 8 * (7 * i + p) : Nat) : Int) a k = wr h0 a k := fun a k q1 q2 => by
          rw [uH_ne q2, fr a k q1, clr_ne (by omega)]
        have fa2 : ∀ a, (a < 230 + 8 * (7 * i + p) ∨ 230 + 8 * (7 * i + p) + 6 < a) → al2 a = al a := fun a q => by
          rw [fa a (by omega), upA_ne (by omega)]
        have u : ∀ k, uH (wr h3) 5 (7 * i + p) ((230 + 8 * (7 * i + p) : Nat) : Int) (230 + 8 * (7 * i + p)) k = wr h3 (230 + 8 * (7 * i + p)) k := fun k => uH_ne (by omega)
        refine fin _ al2 _ _ _ ⟨fun a k q => ?_, fun a q => fa2 a (by omega)⟩ (fun q hq hne => ?_) ?_ (Or.inr ⟨?_, ?_, ?_, ?_⟩)
        · have := tG_g q
          exact fr2 a k (by omega) (by omega)
        · exact (hC.2 q hq).fr (fr2 5 q (by omega) (by omega)) (fun j hj => fa2 _ (by omega)) fun a k q1 q2 => fr2 a k (by omega) (by omega)
        · exact uH_at
        · exact gf.fr u
        · exact (u 0).trans f0
        · exact (u 1).trans f1
        · exact (u 8).trans f8
      rcases hx4 with ⟨rfl, q⟩ | ⟨rfl, q, q2⟩
      · have e : hnm p = 99 := by unfold hnm; rw [if_pos q]
        rw [e] at go
        exact go
      · have e : hnm p = o := by unfold hnm; rw [if_neg (by omega), q]
        rw [e] at go
        exact go
    · rw [s1]
      refine XW_t4 [88] 40 okLa_ground ?_
      exact fin h al _ _ _ CF.refl (fun q hq _ => hC.2 q hq) s1 (Or.inl s2)
  obtain ⟨h0, rfl⟩ := id hW
  refine cof ocLa_ground rfl (XW_t4 [52] 60 okLa_ground ?_)
  refine c_floorMod hi ?_
  rcases hp with ⟨q, q2⟩ | ⟨q, q2⟩
  · refine c_within (fun _ => ?_) (fun q3 => absurd (by omega) q3)
    have := mid 0 (Or.inr ⟨rfl, q, q2⟩)
    rw [← q] at this ej
    refine ⟨⟨by show 0 ≤ wI (wI ((i : Int) * 7) + o); rw [ej ()]; omega, by show wI (wI ((i : Int) * 7) + o) < 42; rw [ej ()]; omega⟩, ?_⟩
    show XW g (d + 4) mLa_ground K 52 [some (xr 1), some (xr 10), some (xi (i : Int)), some (xi o), some (xi (i : Int)), some (xi 0), some (xi (wI (wI ((i : Int) * 7) + o))), some (xr (wr h0 5 (wI (wI ((i : Int) * 7) + o)).toNat))] [] (wr h0) al
    rw [show (wI (wI ((i : Int) * 7) + o)).toNat = 7 * i + p by rw [ej ()]; rfl]
    exact this
  · refine c_within (fun q3 => absurd q3 (by omega)) (fun _ => ?_)
    have := mid 1 (Or.inl ⟨rfl, q2⟩)
    have q4 : (p : Int) = 6 := by omega
    rw [q4] at this ej
    refine ⟨⟨by show 0 ≤ wI (wI ((i : Int) * 7) + 6); rw [ej ()]; omega, by show wI (wI ((i : Int) * 7) + 6) < 42; rw [ej ()]; omega⟩, ?_⟩
    show XW g (d + 4) mLa_ground K 52 [some (xr 1), some (xr 10), some (xi (i : Int)), some (xi o), some (xi (i : Int)), some (xi 1), some (xi (wI (wI ((i : Int) * 7) + 6))), some (xr (wr h0 5 (wI (wI ((i : Int) * 7) + 6)).toNat))] [] (wr h0) al
    rw [show (wI (wI ((i : Int) * 7) + 6)).toNat = 7 * i + p by rw [ej ()]; rfl]
    exact this
theorem c_valleyOf_a (hW : Wd h) (hK : K (some (xr (Int.ofNat (vnm (h 20 10))))) h al) : Call g (d + 1) yLa_valleyOf [xr 1, xr 20] h al K := by
  obtain ⟨h, rfl⟩ := hW
  refine cof ocLa_valleyOf rfl (XW_to [] 40 okLa_valleyOf ?_)
  unfold vnm at hK
  refine ite_i (fun q => ?_) (fun q => ?_)
  · have q : wr h 20 10 < 0 := q
    rw [if_neg (by omega)] at hK
    exact hK
  · have q : ¬ wr h 20 10 < 0 := q
    refine ite_i (fun q2 => ?_) (fun q2 => ?_)
    · have q2 : wr h 20 10 < 5 := q2
      rw [if_pos (by omega)] at hK
      refine ⟨⟨by show 0 ≤ wr h 20 10; omega, q2⟩, ?_⟩
      show K (some (xr (wr h 4 (wr h 20 10).toNat))) (wr h) al
      rw [wr4 (by omega)]
      exact hK
    · have q2 : ¬ wr h 20 10 < 5 := q2
      rw [if_neg (by omega)] at hK
      exact hK
set_option maxRecDepth 8000 in
theorem c_ground_a {V : Nat → List Cl} {nV o : Int} {i p : Nat} (hW : Wd h) (hC : CGs h al V nV) (hv : -1 ≤ h 20 10 ∧ h 20 10 < nV) (hi : i < 6) (hp : (o = (p : Int) ∧ p < 6) ∨ (o = -5 ∧ p = 6))
    (hK : ∀ (h2 : HH) (al2 : AL), CF h al h2 al2 → CGs h2 al2 V nV → h2 5 (7 * i + p) = ((230 + 8 * (7 * i + p) : Nat) : Int) → tbG h2 V (7 * i + p) = tbl (Vw V (h 20 10)) (i : Int) (hnm p) → h2 (230 + 8 * (7 * i + p)) 9 = lastL (Vw V (h 20 10)) 3 0 → GA h2 (230 + 8 * (7 * i + p)) (tbl (Vw V (h 20 10)) (i : Int) (hnm p)) → K (some (xr (Int.ofNat (230 + 8 * (7 * i + p))))) h2 al2) :
    Call g (d + 5) yLa_ground [xr 1, xr 20, xi (i : Int), xi o] h al K := by
  have h6 : p ≤ 6 := by omega
  have hpl : 7 * i + p < 42 := by omega
  have hg : GN (230 + 8 * (7 * i + p)) := ⟨7 * i + p, hpl, rfl⟩
  obtain ⟨k0, k1, k2, k3, k4, k5, k6⟩ := hg.k
  have e7 : (7 * i + p) / 7 = i ∧ (7 * i + p) % 7 = p := by omega
  have h5 := hC.1.1
  have hvv : VN (vnm (h 20 10)) := vnm_VN _
  have hvb := hvv.b
  -- behind the making
  have fin : ∀ (h3 : HH) (al3 : AL) (x4 x5 x6 : Option XV), CF h al h3 al3 → (∀ q, q < 42 → q ≠ 7 * i + p → GV h3 al3 V nV q) → h3 5 (7 * i + p) = ((230 + 8 * (7 * i + p) : Nat) : Int) → (GS h3 V nV (7 * i + p) ∨ (GF h3 (230 + 8 * (7 * i + p)) ∧ h3 (230 + 8 * (7 * i + p)) 0 = (i : Int) ∧ h3 (230 + 8 * (7 * i + p)) 1 = hnm p ∧ h3 (230 + 8 * (7 * i + p)) 8 = -1)) →
      XW g (d + 4) mLa_ground K 88 [some (xr 1), some (xr 20), some (xi (i : Int)), some (xi o), x4, x5, x6, some (xr (Int.ofNat (230 + 8 * (7 * i + p))))] [] h3 al3 := by
    intro h3 al3 x4 x5 x6 hc hoth hn5 hS
    have hW3 : Wd h3 := hc.wd hW
    have hCV3 := hC.1.2.cf hc
    have ev : h3 20 10 = h 20 10 := hc.1 _ _ rfl
    have hvc := hCV3.at hv h5
    have hgf : GF h3 (230 + 8 * (7 * i + p)) ∧ h3 (230 + 8 * (7 * i + p)) 0 = (i : Int) ∧ h3 (230 + 8 * (7 * i + p)) 1 = hnm p := by
      rcases hS with s | s
      · refine ⟨s.1, ?_, ?_⟩
        · rw [s.2.1, e7.1]
        · rw [s.2.2.1, e7.2]
      · exact ⟨s.1, s.2.1, s.2.2.1⟩
    refine XW_t4 [] 40 okLa_ground ?_
    refine c_valleyOf_a hW3 ?_
    rw [ev]
    refine cond_i (rcv_c k0 rfl rfl) ?_
    refine c_stand (V := Vw V (h 20 10)) hg hvv hgf.1 (hW3.vf hvv) hvc hgf.2.1 hgf.2.2 (fun e8 => ?_) (fun e8 h4 hI hT => ?_)
    · have hS2 : GS h3 V nV (7 * i + p) := by
        rcases hS with s | s
        · exact s
        · rw [s.2.2.2] at e8
          omega
      have eT : tbG h3 V (7 * i + p) = tbl (Vw V (h 20 10)) (i : Int) (hnm p) := by
        unfold tbG gV
        rw [e8, vz_vnm (by omega), e7.1, e7.2]
      obtain ⟨s1, s2, s3, s4, s5, s6, s7⟩ := id hS2
      rw [eT] at s6 s7
      refine hK h3 al3 hc ⟨⟨h5, hCV3⟩, fun q hq => ?_⟩ hn5 eT ?_ ⟨s1, s6, tbl_ok hvc.2.2.2.1, s7⟩
      · by_cases e : q = 7 * i + p
        · rw [e]; exact Or.inr ⟨hn5, hS2⟩
        · exact hoth q hq e
      · rw [s5]
        unfold gV
        rw [e8, vz_vnm (by omega)]
    · have hc4 : CF h3 al3 h4 al3 := ⟨fun a k e => by
        have := tG_g e
        exact hI.1 a k (by omega) (by omega) (by omega) (by omega) (tG_v hvv e), fun _ _ => rfl⟩
      have f5 : ∀ q, h4 5 q = h3 5 q := fun q => hI.1 5 q (by omega) (by omega) (by omega) (by omega) (by omega)
      have hgf4 : GF h4 (230 + 8 * (7 * i + p)) := by
        obtain ⟨a1, a2, a3, a4, a5, a6⟩ := hgf.1
        exact ⟨(hI.2.1 2 (by decide) (by decide) (by decide)).trans a1, (hI.2.1 3 (by decide) (by decide) (by decide)).trans a2, (hI.2.1 4 (by decide) (by decide) (by decide)).trans a3, (hI.2.1 5 (by decide) (by decide) (by decide)).trans a4, (hI.2.1 6 (by decide) (by decide) (by decide)).trans a5, (hI.2.1 7 (by decide) (by decide) (by decide)).trans a6⟩
      have g0 := (hI.2.1 0 (by decide) (by decide) (by decide)).trans hgf.2.1
      have g1 := (hI.2.1 1 (by decide) (by decide) (by decide)).trans hgf.2.2
      obtain ⟨-, -, i8, i9, i11⟩ := id hI
      have eT : tbG h4 V (7 * i + p) = tbl (Vw V (h 20 10)) (i : Int) (hnm p) := by
        unfold tbG gV
        rw [i8, vz_vnm (by omega), e7.1, e7.2]
      have hP : GPl h4 (230 + 8 * (7 * i + p)) (tbl (Vw V (h 20 10)) (i : Int) (hnm p)) := ⟨by rw [i11]; decide, fun l s _ q => by rw [i11] at q; omega⟩
      refine hK h4 al3 (hc.trans hc4) ⟨⟨h5, hCV3.cf hc4⟩, fun q hq => ?_⟩ ((f5 _).trans hn5) eT i9 ⟨hgf4, hT, tbl_ok hvc.2.2.2.1, hP⟩
      by_cases e : q = 7 * i + p
      · rw [e]
        refine Or.inr ⟨(f5 _).trans hn5, hgf4, ?_, ?_, ⟨h 20 10, hv.1, hv.2, i8⟩, ?_, ?_, ?_⟩
        · rw [g0, e7.1]
        · rw [g1, e7.2]
        · rw [i9]
          unfold gV
          rw [i8, vz_vnm (by omega)]
        · rw [eT]; exact hT
        · rw [eT]; exact hP
      · exact (hoth q hq e).fr (f5 q) (fun _ _ => rfl) fun a k q1 q2 => hI.1 a k (by omega) (by omega) (by omega) (by omega) (by omega)
  -- the place
  have ej : ∀ _ : Unit, wI (wI ((i : Int) * 7) + (p : Int)) = ((7 * i + p : Nat) : Int) := fun _ => by
    rw [wI_id (z := (i : Int) * 7) (by omega), wI_id (by omega)]; omega
  have mid : ∀ x4 : Int, (x4 = 1 ∧ p = 6 ∨ x4 = 0 ∧ o = (p : Int) ∧ p < 6) → XW g (d + 4) mLa_ground K 52 [some (xr 1), some (xr 20), some (xi (i : Int)), some (xi o), some (xi (i : Int)), some (xi x4), some (xi (wI (wI ((i : Int) * 7) + (p : Int)))), some (xr (h 5 (7 * i + p)))] [] h al := by
    intro x4 hx4
    rw [ej ()]
    rcases hC.2 _ hpl with ⟨s1, s2⟩ | ⟨s1, s2⟩
    · rw [s1]
      refine XW_t4 [74] 40 okLa_ground ?_
      refine ⟨230 + 8 * (7 * i + p), k0, s2 0 (by decide), ?_⟩
      have go : XW g (d + 4) mLa_ground K 74 [some (xr 1), some (xr 20), some (xi (i : Int)), some (xi o), some (xi (i : Int)), some (xi x4), some (xi ((7 * i + p : Nat) : Int)), some (xr (-1))] [xi (hnm p), xi (i : Int), xr (Int.ofNat (230 + 8 * (7 * i + p))), xr (Int.ofNat (230 + 8 * (7 * i + p)))] (clr h (230 + 8 * (7 * i + p))) (upA al (230 + 8 * (7 * i + p))) := by
        obtain ⟨h0, rfl⟩ := id hW
        refine XW_t4 [88] 40 okLa_ground ?_
        refine cond_i (rcv_c k0 rfl rfl) ?_
        refine c_Grinit hg (by rw [clr_at]; unfold tyO; rw [k0]; rfl) (fun j j1 j2 => (upA_ne (by omega)).trans (s2 j j2)) fun h2 al2 fr fa gf f0 f1 f8 f11 => ?_
        have f14 : h2 1 4 = 5 := (fr 1 4 (by omega)).trans (clr_ne (by omega))
        have hW2 : Wd h2 := hW.of fun a k hk => by
          by_cases q : 230 ≤ a
          · exact absurd (by rw [wlG q]; show (-9 : Int) < 0; decide) hk
          · exact (fr a k (by omega)).trans (clr_ne (by omega))
        obtain ⟨h3, rfl⟩ := hW2
        refine cond_i (by rw [k0]; rfl) ?_
        refine ⟨⟨by omega, by show ((7 * i + p : Nat) : Int) < 42; omega⟩, ?_⟩
        have e : uH (wr h3) 5 (((7 * i + p : Nat) : Int)).toNat ((230 + 8 * (7 * i + p) : Nat) : Int) = uH (wr h3) 5 (7 * i + p) ((230 + 8 * (7 * i + p) : Nat) : Int) := rfl
        have fr2 : ∀ a k, (a < 230 + 8 * (7 * i + p) ∨ 230 + 8 * (7 * i + p) + 6 < a) → ¬ (a = 5 ∧ k = 7 * i + p) → uH (wr h3) 5 (7 * i + p) ((230 + 8 * (7 * i + p) : Nat) : Int) a k = wr h0 a k := fun a k q1 q2 => by
          rw [uH_ne q2, fr a k q1, clr_ne (by omega)]
        have fa2 : ∀ a, (a < 230 + 8 * (7 * i + p) ∨ 230 + 8 * (7 * i + p) + 6 < a) → al2 a = al a := fun a q => by
          rw [fa a (by omega), upA_ne (by omega)]
        have u : ∀ k, uH (wr h3) 5 (7 * i + p) ((230 + 8 * (7 * i + p) : Nat) : Int) (230 + 8 * (7 * i + p)) k = wr h3 (230 + 8 * (7 * i + p)) k := fun k => uH_ne (by omega)
        refine fin _ al2 _ _ _ ⟨fun a k q => ?_, fun a q => fa2 a (by omega)⟩ (fun q hq hne => ?_) ?_ (Or.inr ⟨?_, ?_, ?_, ?_⟩)
        · have := tG_g q
          exact fr2 a k (by omega) (by omega)
        · exact (hC.2 q hq).fr (fr2 5 q (by omega) (by omega)) (fun j hj => fa2 _ (by omega)) fun a k q1 q2 => fr2 a k (by omega) (by omega)
        · exact uH_at
        · exact gf.fr u
        · exact (u 0).trans f0
        · exact (u 1).trans f1
        · exact (u 8).trans f8
      rcases hx4 with ⟨rfl, q⟩ | ⟨rfl, q, q2⟩
      · have e : hnm p = 99 := by unfold hnm; rw [if_pos q]
        rw [e] at go
        exact go
      · have e : hnm p = o := by unfold hnm; rw [if_neg (by omega), q]
        rw [e] at go
        exact go
    · rw [s1]
      refine XW_t4 [88] 40 okLa_ground ?_
      exact fin h al _ _ _ CF.refl (fun q hq _ => hC.2 q hq) s1 (Or.inl s2)
  obtain ⟨h0, rfl⟩ := id hW
  refine cof ocLa_ground rfl (XW_t4 [52] 60 okLa_ground ?_)
  refine c_floorMod hi ?_
  rcases hp with ⟨q, q2⟩ | ⟨q, q2⟩
  · refine c_within (fun _ => ?_) (fun q3 => absurd (by omega) q3)
    have := mid 0 (Or.inr ⟨rfl, q, q2⟩)
    rw [← q] at this ej
    refine ⟨⟨by show 0 ≤ wI (wI ((i : Int) * 7) + o); rw [ej ()]; omega, by show wI (wI ((i : Int) * 7) + o) < 42; rw [ej ()]; omega⟩, ?_⟩
    show XW g (d + 4) mLa_ground K 52 [some (xr 1), some (xr 20), some (xi (i : Int)), some (xi o), some (xi (i : Int)), some (xi 0), some (xi (wI (wI ((i : Int) * 7) + o))), some (xr (wr h0 5 (wI (wI ((i : Int) * 7) + o)).toNat))] [] (wr h0) al
    rw [show (wI (wI ((i : Int) * 7) + o)).toNat = 7 * i + p by rw [ej ()]; rfl]
    exact this
  · refine c_within (fun q3 => absurd q3 (by omega)) (fun _ => ?_)
    have := mid 1 (Or.inl ⟨rfl, q2⟩)
    have q4 : (p : Int) = 6 := by omega
    rw [q4] at this ej
    refine ⟨⟨by show 0 ≤ wI (wI ((i : Int) * 7) + 6); rw [ej ()]; omega, by show wI (wI ((i : Int) * 7) + 6) < 42; rw [ej ()]; omega⟩, ?_⟩
    show XW g (d + 4) mLa_ground K 52 [some (xr 1), some (xr 20), some (xi (i : Int)), some (xi o), some (xi (i : Int)), some (xi 1), some (xi (wI (wI ((i : Int) * 7) + 6))), some (xr (wr h0 5 (wI (wI ((i : Int) * 7) + 6)).toNat))] [] (wr h0) al
    rw [show (wI (wI ((i : Int) * 7) + 6)).toNat = 7 * i + p by rw [ej ()]; rfl]
    exact this
end GD
