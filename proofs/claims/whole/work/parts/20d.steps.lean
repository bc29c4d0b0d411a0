-- steps and worths of a holder on a holding, by the class
theorem HF.cf {h h2 : HH} {al al2 : AL} {ho : Nat} {n k v : Int} {st : Nat → Int} (hF : HF h ho n k v st) (hh : HN ho) (hc : CF h al h2 al2) : HF h2 ho n k v st := by
  have hb := hh.b
  refine hF.fr fun a k q1 q2 => hc.1 a k ?_
  have c : ck 224 (fun a => decide (200 ≤ a → tG a = false)) = true := by decide +kernel
  exact of_decide_eq_true (ck_of c (by omega)) (by omega)
/-- sums as an int counts them -/
def wsm (f : Nat → Int) : Nat → Int
  | 0 => 0
  | n + 1 => wI (wsm f n + f n)
theorem hnm_n {n : Nat} (hn : n < 6) : hnm n = (n : Int) := if_neg (by omega)
section LO
variable {g : GC} {d : Nat} {h : HH} {al : AL} {K : KT}
theorem c_stepsOf {V : Nat → List Cl} {nV : Int} {ho n i l s : Nat} {k v pu li ii : Int} {st : Nat → Int} (hW : Wd h) (hC : CGs h al V nV) (hv : -1 ≤ h 10 10 ∧ h 10 10 < nV) (hh : HN ho) (hF : HF h ho n k v st) (hn : n < 6) (hii : ii = (i : Int)) (hi : i < 6) (hli : li = (l : Int)) (hl : 1 ≤ l ∧ l ≤ 9) (hs : h 11 i = (s : Int)) (hs10 : s < 10) (hp : h 13 n = pu)
    (hK : ∀ (h2 : HH) (al2 : AL), CF h al h2 al2 → CGs h2 al2 V nV → K (some (xi (stS k v st (lastL (Vw V (h 10 10)) 3 0) (tbl (Vw V (h 10 10)) (i : Int) (n : Int)) l s pu : Int))) h2 al2) :
    Call g (d + 6) yLa_stepsOf [xr 1, xr 10, xr (Int.ofNat ho), xi ii, xi li] h al K := by
  subst hii
  subst hli
  obtain ⟨k0, k1⟩ := hh.k
  refine cof ocLa_stepsOf rfl (XW_t4 [] 60 okLa_stepsOf ?_)
  refine cond_i (by rw [k0]; rfl) ⟨_, hF.1, ?_⟩
  refine c_ground_n hW hC hv hi (Or.inl ⟨rfl, hn⟩) fun h2 al2 hc hC2 h5 eT h9 hG => ?_
  have hF2 := hF.cf hh hc
  have hs2 := (hc.1 11 i rfl).trans hs
  have hp2 := (hc.1 13 n rfl).trans hp
  obtain ⟨h3, rfl⟩ := hc.wd hW
  rw [hnm_n hn] at hG eT
  refine c_atE rfl rfl (by show i < 6; exact hi) hs2 ?_
  refine cond_i (by rw [k0]; rfl) ⟨_, hF2.1, ?_⟩
  refine c_atE rfl rfl (by show n < 6; exact hn) hp2 ?_
  refine cond_i (rcv_c k0 rfl rfl) ?_
  refine c_stepsIn ⟨7 * i + n, by omega, rfl⟩ hh hG h9 hF2 hl hs10 fun h4 hS hP => ?_
  have := hC2.sp (by omega) h5 hS (by rw [eT]; exact hP)
  exact hK h4 al2 (hc.trans this.1) this.2
theorem c_worthOf {V : Nat → List Cl} {nV : Int} {ho n i l s : Nat} {k v pu li ii : Int} {st : Nat → Int} (hW : Wd h) (hC : CGs h al V nV) (hv : -1 ≤ h 10 10 ∧ h 10 10 < nV) (hh : HN ho) (hF : HF h ho n k v st) (hn : n < 6) (hii : ii = (i : Int)) (hi : i < 6) (hli : li = (l : Int)) (hl : 1 ≤ l ∧ l ≤ 9) (hs : h 11 i = (s : Int)) (hs10 : s < 10) (hp : h 13 n = pu)
    (hK : ∀ (h2 : HH) (al2 : AL), CF h al h2 al2 → CGs h2 al2 V nV → K (some (xi (wtS k v st (lastL (Vw V (h 10 10)) 3 0) (tbl (Vw V (h 10 10)) (i : Int) (n : Int)) l s pu))) h2 al2) :
    Call g (d + 6) yLa_worthOf [xr 1, xr 10, xr (Int.ofNat ho), xi ii, xi li] h al K := by
  subst hii
  subst hli
  obtain ⟨k0, k1⟩ := hh.k
  refine cof ocLa_worthOf rfl (XW_t4 [] 60 okLa_worthOf ?_)
  refine cond_i (by rw [k0]; rfl) ⟨_, hF.1, ?_⟩
  refine c_ground_n hW hC hv hi (Or.inl ⟨rfl, hn⟩) fun h2 al2 hc hC2 h5 eT h9 hG => ?_
  have hF2 := hF.cf hh hc
  have hs2 := (hc.1 11 i rfl).trans hs
  have hp2 := (hc.1 13 n rfl).trans hp
  obtain ⟨h3, rfl⟩ := hc.wd hW
  rw [hnm_n hn] at hG eT
  refine c_atE rfl rfl (by show i < 6; exact hi) hs2 ?_
  refine cond_i (by rw [k0]; rfl) ⟨_, hF2.1, ?_⟩
  refine c_atE rfl rfl (by show n < 6; exact hn) hp2 ?_
  refine cond_i (rcv_c k0 rfl rfl) ?_
  refine c_worthIn ⟨7 * i + n, by omega, rfl⟩ hh hG h9 hF2 hl hs10 fun h4 hS hP => ?_
  have := hC2.sp (by omega) h5 hS (by rw [eT]; exact hP)
  exact hK h4 al2 (hc.trans this.1) this.2
theorem c_worthsOf {V : Nat → List Cl} {nV : Int} {ho n nH rd : Nat} {k v pu : Int} {st : Nat → Int} {S : Nat → Nat} (hW : Wd h) (hC : CGs h al V nV) (hv : -1 ≤ h 10 10 ∧ h 10 10 < nV) (hh : HN ho) (hF : HF h ho n k v st) (hn : n < 6) (h6 : h 1 6 = (nH : Int)) (hH : nH ≤ 6) (h8 : h 10 8 = (rd : Int)) (hl : 1 ≤ rd ∧ rd ≤ 9) (hs : ∀ j, j < nH → h 11 j = (S j : Int) ∧ S j < 10) (hp : h 13 n = pu)
    (hK : ∀ (h2 : HH) (al2 : AL), CF h al h2 al2 → CGs h2 al2 V nV → K (some (xi (wsm (fun j => wtS k v st (lastL (Vw V (h 10 10)) 3 0) (tbl (Vw V (h 10 10)) (j : Int) (n : Int)) rd (S j) pu) nH))) h2 al2) :
    Call g (d + 7) yLa_worthsOf [xr 1, xr 10, xr (Int.ofNat ho)] h al K := by
  have loop : ∀ (m j : Nat) (h2 : HH) (al2 : AL), j + m = nH → CF h al h2 al2 → CGs h2 al2 V nV → XW g (d + 6) mLa_worthsOf K 5 [some (xr 1), some (xr 10), some (xr (Int.ofNat ho)), some (xi (wsm (fun j => wtS k v st (lastL (Vw V (h 10 10)) 3 0) (tbl (Vw V (h 10 10)) (j : Int) (n : Int)) rd (S j) pu) j)), some (xi (j : Int))] [] h2 al2 := by
    intro m
    induction m with
    | zero =>
      intro j h2 al2 hj hc hC2
      have e6 : h2 1 6 = (nH : Int) := (hc.1 1 6 rfl).trans h6
      obtain ⟨h3, rfl⟩ := hc.wd hW
      refine XW_t4 [5] 60 okLa_worthsOf ?_
      refine ite_f (show ¬ (j : Int) < wr h3 1 6 by rw [e6]; omega) ?_
      rw [show j = nH by omega]
      exact hK _ _ hc hC2
    | succ m ih =>
      intro j h2 al2 hj hc hC2
      have e6 : h2 1 6 = (nH : Int) := (hc.1 1 6 rfl).trans h6
      have e8 : h2 10 8 = (rd : Int) := (hc.1 10 8 rfl).trans h8
      have ev : h2 10 10 = h 10 10 := hc.1 10 10 rfl
      have hs2 := (hc.1 11 j rfl).trans (hs j (by omega)).1
      have hp2 := (hc.1 13 n rfl).trans hp
      have hF2 := hF.cf hh hc
      have hW2 := hc.wd hW
      obtain ⟨h3, rfl⟩ := id hW2
      refine XW_t4 [5] 60 okLa_worthsOf ?_
      refine ite_t (show (j : Int) < wr h3 1 6 by rw [e6]; omega) ?_
      refine c_worthOf hW2 hC2 (by rw [ev]; exact hv) hh hF2 hn rfl (by omega) e8 hl hs2 (hs j (by omega)).2 hp2 fun h4 al4 hc4 hC4 => ?_
      rw [ev]
      have := ih (j + 1) h4 al4 (by omega) (hc.trans hc4) hC4
      rw [← nS j (by omega)] at this
      exact this
  refine cof ocLa_worthsOf rfl (XW_t4 [5] 60 okLa_worthsOf ?_)
  exact loop nH 0 h al (by omega) CF.refl hC
end LO
