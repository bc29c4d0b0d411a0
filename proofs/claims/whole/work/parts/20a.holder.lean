-- a holder's own methods
/-- the names of holders -/
def HN (ho : Nat) : Prop := ∃ i : Nat, i < 12 ∧ ho = 200 + 2 * i
theorem HN.k {ho : Nat} (h : HN ho) : kd ho = 3 ∧ kd (ho + 1) = 50 := by
  obtain ⟨p, hp, rfl⟩ := h
  have c : ck 12 (fun p => decide (kd (200 + 2 * p) = 3 ∧ kd (200 + 2 * p + 1) = 50)) = true := by decide +kernel
  exact of_decide_eq_true (ck_of c hp)
theorem HN.l {ho : Nat} (h : HN ho) (g : GC) : ln g (ho + 1) = 10 := by
  obtain ⟨p, hp, rfl⟩ := h
  have c : ck 12 (fun p => decide (lnS (200 + 2 * p + 1) = 10)) = true := by decide +kernel
  rw [ln_ne (by omega)]
  exact of_decide_eq_true (ck_of c hp)
theorem HN.b {ho : Nat} (h : HN ho) : 200 ≤ ho ∧ ho ≤ 222 := by
  obtain ⟨p, hp, rfl⟩ := h
  omega
/-- its number, KIND, v, ROW -/
def HF (h : HH) (ho : Nat) (n k v : Int) (st : Nat → Int) : Prop := h ho 0 = n ∧ h ho 1 = k ∧ h ho 2 = v ∧ h ho 3 = ((ho + 1 : Nat) : Int) ∧ (0 ≤ k ∧ k ≤ 6) ∧ (0 ≤ v ∧ v ≤ 9) ∧ ∀ l : Nat, l < 10 → (st l = -1 ∧ h (ho + 1) l = -5) ∨ (0 ≤ st l ∧ st l ≤ 2 ∧ h (ho + 1) l = st l)
theorem HF.fr {h h2 : HH} {ho : Nat} {n k v : Int} {st : Nat → Int} (hF : HF h ho n k v st) (hq : ∀ a k, ho ≤ a → a ≤ ho + 1 → h2 a k = h a k) : HF h2 ho n k v st := by
  obtain ⟨h1, h2, h3, h4, h5, h6, h7⟩ := hF
  refine ⟨(hq _ _ (by omega) (by omega)).trans h1, (hq _ _ (by omega) (by omega)).trans h2, (hq _ _ (by omega) (by omega)).trans h3, (hq _ _ (by omega) (by omega)).trans h4, h5, h6, fun l hl => ?_⟩
  rw [hq (ho + 1) l (by omega) (by omega)]
  exact h7 l hl
/-- a ground that stands -/
def GA (h : HH) (gn : Nat) (T : TB) : Prop := GF h gn ∧ GT h gn T ∧ gdT T ∧ GPl h gn T
section HO
variable {g : GC} {d : Nat} {h : HH} {al : AL} {K : KT}
theorem c_reckons {ho : Nat} {k : Int} (k0 : kd ho = 3) (h1 : h ho 1 = k) (ht : rk k → K (some (xi 1)) h al) (hf : ¬ rk k → K (some (xi 0)) h al) : Call g (d + 1) yHo_reckons [xr (Int.ofNat ho)] h al K := by
  refine cof ocHo_reckons rfl (XW_t4 [] 60 okHo_reckons ?_)
  refine cond_i (by rw [k0]; rfl) ⟨_, h1, ?_⟩
  refine ite_i (fun q => ⟨Or.inr rfl, ht (Or.inl q)⟩) (fun q1 => ?_)
  refine cond_i (by rw [k0]; rfl) ⟨_, h1, ?_⟩
  refine ite_i (fun q => ⟨Or.inr rfl, ht (Or.inr (Or.inl q))⟩) (fun q2 => ?_)
  refine cond_i (by rw [k0]; rfl) ⟨_, h1, ?_⟩
  refine ite_i (fun q => ⟨Or.inr rfl, ht (Or.inr (Or.inr (Or.inl q)))⟩) (fun q3 => ?_)
  refine cond_i (by rw [k0]; rfl) ⟨_, h1, ?_⟩
  refine ite_i (fun q => ⟨Or.inr rfl, ht (Or.inr (Or.inr (Or.inr q)))⟩) (fun q4 => ⟨Or.inl rfl, hf ?_⟩)
  rintro (q | q | q | q)
  · exact q1 q
  · exact q2 q
  · exact q3 q
  · exact q4 q
theorem c_yearsFor {ho l : Nat} {k v : Int} (k0 : kd ho = 3) (h1 : h ho 1 = k) (h2 : h ho 2 = v) (hv : 0 ≤ v ∧ v ≤ 9) (hl : l < 100) (hK : K (some (xi (yrs k v l : Int))) h al) : Call g (d + 1) yHo_yearsFor [xr (Int.ofNat ho), xi (l : Int)] h al K := by
  refine cof ocHo_yearsFor rfl (XW_t4 [] 60 okHo_yearsFor ?_)
  refine cond_i (by rw [k0]; rfl) ⟨_, h1, ?_⟩
  refine ite_i (fun q => ?_) (fun q => ?_)
  · refine cond_i (by rw [k0]; rfl) ⟨_, h2, ?_⟩
    have q : k = 3 := q
    have e : wI ((l : Int) + v) = ((yrs k v l : Nat) : Int) := by
      unfold yrs
      rw [if_pos q, wI_id (by omega)]
      omega
    show K (some (xi (wI ((l : Int) + v)))) h al
    rw [e]
    exact hK
  · have q : ¬ k = 3 := q
    unfold yrs at hK
    rw [if_neg q] at hK
    exact hK
theorem c_endPrice {ho gn : Nat} {k v pay : Int} (k0 : kd ho = 3) (g0 : kd gn = 2) (h1 : h ho 1 = k) (h2 : h ho 2 = v) (h9 : h gn 9 = pay) (hK : K (some (xi (epr k v pay))) h al) : Call g (d + 1) yHo_endPrice [xr (Int.ofNat ho), xr (Int.ofNat gn)] h al K := by
  refine cof ocHo_endPrice rfl (XW_t4 [] 60 okHo_endPrice ?_)
  refine cond_i (by rw [k0]; rfl) ⟨_, h1, ?_⟩
  unfold epr at hK
  refine ite_i (fun q => ?_) (fun q => ?_)
  · have q : k = 4 := q
    rw [if_pos q] at hK
    exact cond_i (by rw [g0]; rfl) ⟨_, h9, hK⟩
  · have q : ¬ k = 4 := q
    rw [if_neg q] at hK
    refine cond_i (by rw [k0]; rfl) ⟨_, h1, ?_⟩
    refine ite_i (fun q => ?_) (fun q => ?_)
    · have q : k = 5 := q
      rw [if_pos q] at hK
      exact cond_i (by rw [k0]; rfl) ⟨_, h2, hK⟩
    · have q : ¬ k = 5 := q
      rw [if_neg q] at hK
      exact hK
theorem c_stepsAtSight {ho gn l s : Nat} {n k v pu : Int} {st : Nat → Int} {T : TB} (hg : GN gn) (hh : HN ho) (hG : GA h gn T) (hF : HF h ho n k v st) (hl : 1 ≤ l ∧ l ≤ 9) (hs : s < 10) (hK : K (some (xi (sgt k v st T l s pu : Int))) h al) :
    Call g (d + 3) yHo_stepsAtSight [xr (Int.ofNat ho), xr (Int.ofNat gn), xi (s : Int), xi (l : Int), xi pu] h al K := by
  obtain ⟨g0, -⟩ := hg.k
  obtain ⟨k0, k1⟩ := hh.k
  have l1 := hh.l g
  obtain ⟨f0, f1, f2, f3, f4, f5, f6⟩ := hF
  have fin : ∀ (z : Int) (x6 : Option XV), z = -5 ∨ (if wI (9 - (s : Int)) < z then wI (9 - (s : Int)) else z) = (sgt k v st T l s pu : Int) → z ≠ -5 → XW g (d + 2) mHo_stepsAtSight K 77 [some (xr (Int.ofNat ho)), some (xr (Int.ofNat gn)), some (xi (s : Int)), some (xi (l : Int)), some (xi pu), some (xi z), x6] [] h al := by
    intro z x6 hz hz2
    refine XW_t4 [] 40 okHo_stepsAtSight ?_
    refine c_min ?_
    rcases hz with q | q
    · exact absurd q hz2
    · show K (some (xi (if wI (9 - (s : Int)) < z then wI (9 - (s : Int)) else z))) h al
      rw [q]
      exact hK
  have e9 : ∀ _ : Unit, wI (9 - (s : Int)) = 9 - (s : Int) := fun _ => wI_id (by omega)
  have plain : ¬ (k = 6 ∧ 0 ≤ st l) → XW g (d + 2) mHo_stepsAtSight K 31 [some (xr (Int.ofNat ho)), some (xr (Int.ofNat gn)), some (xi (s : Int)), some (xi (l : Int)), some (xi pu), some (xi (-5)), none] [] h al := by
    intro hno
    refine XW_t4 [77] 60 okHo_stepsAtSight ?_
    refine cond_i (by rw [k0]; rfl) ⟨_, f1, ?_⟩
    have zero : ∀ x6, sgt k v st T l s pu = 0 → XW g (d + 2) mHo_stepsAtSight K 77 [some (xr (Int.ofNat ho)), some (xr (Int.ofNat gn)), some (xi (s : Int)), some (xi (l : Int)), some (xi pu), some (xi 0), x6] [] h al := fun x6 q => fin 0 x6 (Or.inr (by rw [q, e9 (), if_neg (by omega)]; rfl)) (by decide)
    refine ite_i (fun q => ?_) (fun q => ?_)
    · have q : k = 0 := q
      exact zero _ (by unfold sgt; rw [if_pos q])
    · have q : ¬ k = 0 := q
      refine cond_i (by rw [k0]; rfl) ⟨_, f2, ?_⟩
      refine ite_i (fun q2 => ?_) (fun q2 => ?_)
      · have q2 : (s : Int) < v := q2
        refine cond_i (rcv_c g0 rfl rfl) ?_
        refine c_number (w := 2) hg hG.1 hG.2.1 (by decide) ⟨hl.1, by omega⟩ hs ?_
        refine ite_i (fun q3 => ?_) (fun q3 => ?_)
        · have q3 : pu < T 2 l s := q3
          exact zero _ (by unfold sgt; rw [if_neg q, if_neg hno, if_neg (by omega)])
        · have q3 : ¬ pu < T 2 l s := q3
          have es : sgt k v st T l s pu = 1 := by unfold sgt; rw [if_neg q, if_neg hno, if_pos (by omega)]
          exact fin 1 _ (Or.inr (by rw [es, e9 (), if_neg (by omega)]; rfl)) (by decide)
      · have q2 : ¬ (s : Int) < v := q2
        exact zero _ (by unfold sgt; rw [if_neg q, if_neg hno, if_neg (by omega)])
  refine cof ocHo_stepsAtSight rfl (XW_t4 [31, 77] 60 okHo_stepsAtSight ?_)
  refine cond_i (by rw [k0]; rfl) ⟨_, f1, ?_⟩
  refine ite_i (fun q => ?_) (fun q => ?_)
  · have q : k = 6 := q
    refine cond_i (by rw [k0]; rfl) ⟨_, f3, ?_⟩
    rcases f6 l (by omega) with ⟨a1, a2⟩ | ⟨a1, a2, a3⟩
    · refine c_atE (isA50 k1) rfl (by omega) a2 ?_
      exact plain (fun q => by omega)
    · refine c_atE (isA50 k1) rfl (by omega) a3 ?_
      refine ite_f (show ¬ st l = -5 by omega) ?_
      refine fin _ _ (Or.inr ?_) (by omega)
      have es : sgt k v st T l s pu = if (st l).toNat < 9 - s then (st l).toNat else 9 - s := by unfold sgt; rw [if_neg (by omega), if_pos ⟨q, a1⟩]
      rw [es, e9 ()]
      split <;> split <;> omega
  · have q : ¬ k = 6 := q
    exact plain (fun q2 => q q2.1)
theorem c_stepsIn {ho gn l s : Nat} {n k v pu pay : Int} {st : Nat → Int} {T : TB} (hg : GN gn) (hh : HN ho) (hG : GA h gn T) (h9 : h gn 9 = pay) (hF : HF h ho n k v st) (hl : 1 ≤ l ∧ l ≤ 9) (hs : s < 10) (hK : ∀ h2 : HH, SP2 h h2 gn → GPl h2 gn T → K (some (xi (stS k v st pay T l s pu : Int))) h2 al) :
    Call g (d + 5) yHo_stepsIn [xr (Int.ofNat ho), xr (Int.ofNat gn), xi (s : Int), xi (l : Int), xi pu] h al K := by
  obtain ⟨g0, -⟩ := hg.k
  obtain ⟨k0, k1⟩ := hh.k
  obtain ⟨f0, f1, f2, f3, f4, f5, f6⟩ := id hF
  unfold stS at hK
  refine cof ocHo_stepsIn rfl (XW_t4 [] 60 okHo_stepsIn ?_)
  refine cond_i (rcv_c k0 rfl rfl) ?_
  refine c_reckons k0 f1 (fun q => ?_) (fun q => ?_)
  · simp only [if_pos q] at hK
    refine cond_i (rcv_c k0 rfl rfl) ?_
    refine c_endPrice k0 g0 f1 f2 h9 ?_
    refine cond_i (rcv_c k0 rfl rfl) ?_
    refine c_yearsFor k0 f1 f2 f5 (by omega) ?_
    refine cond_i (rcv_c g0 rfl rfl) ?_
    exact c_first hg hG.1 hG.2.1 hG.2.2.1 hG.2.2.2 (by unfold yrs; split <;> omega) hs hK
  · simp only [if_neg q] at hK
    refine cond_i (rcv_c k0 rfl rfl) ?_
    exact c_stepsAtSight hg hh hG hF hl hs (hK h SP2.refl hG.2.2.2)
theorem c_worthIn {ho gn l s : Nat} {n k v pu pay : Int} {st : Nat → Int} {T : TB} (hg : GN gn) (hh : HN ho) (hG : GA h gn T) (h9 : h gn 9 = pay) (hF : HF h ho n k v st) (hl : 1 ≤ l ∧ l ≤ 9) (hs : s < 10) (hK : ∀ h2 : HH, SP2 h h2 gn → GPl h2 gn T → K (some (xi (wtS k v st pay T l s pu))) h2 al) :
    Call g (d + 5) yHo_worthIn [xr (Int.ofNat ho), xr (Int.ofNat gn), xi (s : Int), xi (l : Int), xi pu] h al K := by
  obtain ⟨g0, -⟩ := hg.k
  obtain ⟨k0, k1⟩ := hh.k
  obtain ⟨f0, f1, f2, f3, f4, f5, f6⟩ := id hF
  unfold wtS at hK
  refine cof ocHo_worthIn rfl (XW_t4 [29] 60 okHo_worthIn ?_)
  refine cond_i (rcv_c k0 rfl rfl) ?_
  refine c_reckons k0 f1 (fun q => ?_) (fun q => ?_)
  · simp only [if_pos q] at hK
    refine cond_i (rcv_c k0 rfl rfl) ?_
    refine c_endPrice k0 g0 f1 f2 h9 ?_
    refine cond_i (rcv_c k0 rfl rfl) ?_
    refine c_yearsFor k0 f1 f2 f5 (by omega) ?_
    refine cond_i (rcv_c g0 rfl rfl) ?_
    exact c_sum hg hG.1 hG.2.1 hG.2.2.1 hG.2.2.2 (by unfold yrs; split <;> omega) hs hK
  · simp only [if_neg q] at hK
    have loop : ∀ (m s : Nat) (sum : Int) (x7 : Option XV), m ≤ 9 → s < 10 → K (some (xi (wlo k v st T pu m s sum))) h al →
        XW g (d + 4) mHo_worthIn K 29 [some (xr (Int.ofNat ho)), some (xr (Int.ofNat gn)), some (xi (s : Int)), some (xi (l : Int)), some (xi pu), some (xi sum), some (xi (m : Int)), x7] [] h al := by
      intro m
      induction m with
      | zero =>
        intro s sum x7 _ _ hk
        refine XW_t4 [29] 60 okHo_worthIn ?_
        exact hk
      | succ m ih =>
        intro s sum x7 hm hs hk
        refine XW_t4 [29] 60 okHo_worthIn ?_
        refine cond_i (rcv_c k0 rfl rfl) ?_
        refine c_stepsAtSight hg hh hG hF ⟨by omega, by omega⟩ hs ?_
        refine cond_i (rcv_c g0 rfl rfl) ?_
        refine c_gain hg hG.1 hG.2.1 ⟨by omega, by omega⟩ (sgt_le hs f5.2) ?_
        refine cond_i (rcv_c g0 rfl rfl) ?_
        refine c_behind hg hG.1 hG.2.1 hG.2.2.1 ⟨by omega, by omega⟩ (sgt_le hs f5.2) ?_
        have := ih (bhS T (m + 1) s (sgt k v st T (m + 1) s (wI (pu + sum)))) (wI (sum + gnS T (m + 1) s (sgt k v st T (m + 1) s (wI (pu + sum))))) (some (xi (sgt k v st T (m + 1) s (wI (pu + sum)) : Int))) (by omega) (bhS_le (sgt_le hs f5.2)) hk
        rw [show (m : Int) = wI (((m + 1 : Nat) : Int) + -1) by rw [nP2 (by omega) (by omega)]; rfl] at this
        exact this
    exact loop l s 0 none hl.2 hs (hK h SP2.refl hG.2.2.2)
end HO
