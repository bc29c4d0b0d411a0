-- what the reference's holders mend, and worths
theorem MC.mt {h : HH} {V : List Cl} {e : Nat → Int} {x p i : Nat} (hM : MC h V e x) (hp : p < 6) (hi : i < 6) (h1 : h 146 (6 * p + i) = 1) : MT h p i (tbl V (i : Int) (p : Int)) := by
  rcases (hM p i hp hi).1 with m | ⟨_, m⟩
  · rw [m] at h1
    exact absurd h1 (by decide)
  · exact m
section MM
variable {g : GC} {d : Nat} {h : HH} {al : AL} {K : KT}
theorem c_mendsOf {V : List Cl} {pay : Int} {tk tv : Nat → Int} {st : Nat → Nat → Int} {nP p i l s : Nat} {pi ii li si co : Int} (hW : Wd h) (hB : MB h V pay tk tv st nP) (hM : MC h V (fun p => epr (tk p) (tv p) pay) 36) (hp : p < nP) (hi : i < 6) (hl : 1 ≤ l ∧ l ≤ 9) (hs : s < 10) (ep : pi = (p : Int)) (ei : ii = (i : Int)) (el : li = (l : Int)) (es : si = (s : Int))
    (hK : ∀ h2 : HH, MF h h2 → (∀ x, h 146 x = 1 → h2 146 x = 1) → MC h2 V (fun p => epr (tk p) (tv p) pay) 36 → K (some (xi (stS (tk p) (tv p) (st p) pay (tbl V (i : Int) (p : Int)) l s co : Int))) h2 al) : Call g (d + 5) yMo_mendsOf [xr 120, xi pi, xi ii, xi li, xi si, xi co] h al K := by
  subst ep
  subst ei
  subst el
  subst es
  have hnP := hB.1.1
  have hp6 : p < 6 := by omega
  obtain ⟨q0, hz⟩ := hB.1.2
  obtain ⟨⟨tk1, tk2, tk3⟩, ⟨tv1, tv2, tv3⟩, hst⟩ := hB.2.2 p hp
  unfold stS at hK
  have plain : ∀ h2 : HH, MF h h2 → (∀ x, h 146 x = 1 → h2 146 x = 1) → MC h2 V (fun p => epr (tk p) (tv p) pay) 36 → h2 146 (6 * p + i) = 1 → ¬ rk (tk p) → ¬ tk p = 0 → ¬ (tk p = 6 ∧ 0 ≤ st p l) → XW g (d + 4) mMo_mendsOf K 98 [some (xr 120), some (xi (p : Int)), some (xi (i : Int)), some (xi (l : Int)), some (xi (s : Int)), some (xi co), some (xi (tk p))] [] h2 al := by
    intro h2 hm hr hM2 h1 hnr hn0 hn6
    have hW2 := hm.wd hW
    have hB2 := hm.mb hB
    have hT := hM2.mt hp6 hi h1
    obtain ⟨_, ⟨tv1', _, _⟩, _⟩ := hB2.2.2 p hp
    have hk := hK h2 hm hr hM2
    rw [if_neg hnr] at hk
    unfold sgt at hk
    rw [if_neg hn0, if_neg hn6] at hk
    obtain ⟨h3, rfl⟩ := id hW2
    refine XW_t4 [] 60 okMo_mendsOf ?_
    refine ⟨p, rfl, by show p < 6; exact hp6, _, tv1', ?_⟩
    refine ite_i (fun q => ?_) (fun q => ?_)
    · have q : (s : Int) < tv p := q
      refine c_at0 (l := l) hp6 hi (by omega) (by omega) rfl rfl rfl rfl ?_
      refine ⟨a0 p i l s, rfl, by show _ < 6840; exact a0_lt hp6 hi (by omega) hs, _, hT 2 l s (by decide) hl.1 (by omega) hs, ?_⟩
      refine ite_i (fun q2 => ?_) (fun q2 => ?_)
      · have q2 : co < tbl V (i : Int) (p : Int) 2 l s := q2
        rw [if_neg (by omega)] at hk
        exact hk
      · have q2 : ¬ co < tbl V (i : Int) (p : Int) 2 l s := q2
        rw [if_pos (by omega)] at hk
        exact hk
    · have q : ¬ (s : Int) < tv p := q
      rw [if_neg (by omega)] at hk
      exact hk
  obtain ⟨h0, rfl⟩ := id hW
  refine cof ocMo_mendsOf rfl (XW_t4 [98] 80 okMo_mendsOf ?_)
  refine ⟨p, rfl, by show p < 6; exact hp6, _, tk1, ?_⟩
  refine ite_i (fun q => ?_) (fun q => ?_)
  · have q : tk p = 0 := q
    have hk := hK _ MF.refl (fun _ q => q) hM
    rw [if_neg (by unfold rk; omega)] at hk
    unfold sgt at hk
    rw [if_pos q] at hk
    exact hk
  · have q : ¬ tk p = 0 := q
    refine c_Mreckons (fun q2 => ?_) (fun q2 => ?_)
    · refine c_layBest hW hB hM hp hi rfl rfl fun h2 hm hr hM2 hL => ?_
      have hW2 := hm.wd hW
      have hB2 := hm.mb hB
      obtain ⟨⟨tk1', _, _⟩, ⟨tv1', _, _⟩, _⟩ := hB2.2.2 p hp
      have hk := hK h2 hm hr hM2
      rw [if_pos q2] at hk
      have hy : 1 ≤ yrs (tk p) (tv p) l ∧ yrs (tk p) (tv p) l ≤ 18 := by unfold yrs; split <;> omega
      obtain ⟨h3, rfl⟩ := id hW2
      refine c_yearsOf hW2 hp6 rfl rfl tk1' tv1' ⟨tv2, tv3⟩ (by omega) ?_
      refine c_at0 (l := yrs (tk p) (tv p) l) hp6 hi (by omega) (by omega) rfl rfl rfl rfl ?_
      refine ⟨a0 p i (yrs (tk p) (tv p) l) s, rfl, by show _ < 6840; exact a0_lt hp6 hi hy.2 hs, _, (hL _ s hy.2 hs).2 hy.1, ?_⟩
      exact hk
    · refine c_layRaw hW ⟨q0, hz⟩ hM hp6 hi rfl rfl fun h2 hm _ hr hM2 h1 hT => ?_
      have hW2 := hm.wd hW
      have hB2 := hm.mb hB
      obtain ⟨_, _, hst2⟩ := hB2.2.2 p hp
      have hpl := plain h2 hm hr hM2 h1 q2 q
      have hk := hK h2 hm hr hM2
      rw [if_neg q2] at hk
      unfold sgt at hk
      rw [if_neg q] at hk
      have e10 : wI (wI (10 * (p : Int)) + (l : Int)) = ((10 * p + l : Nat) : Int) := by rw [wI_id (z := 10 * (p : Int)) (by omega), wI_id (by omega)]; omega
      obtain ⟨h3, rfl⟩ := id hW2
      refine ite_i (fun q3 => ?_) (fun q3 => ?_)
      · have q3 : tk p = 6 := q3
        refine ⟨10 * p + l, e10, by show _ < 60; omega, _, (hst2 l (by omega)).1, ?_⟩
        refine ite_i (fun q4 => ?_) (fun q4 => ?_)
        · have q4 : st p l < 0 := q4
          exact hpl (fun q5 => by omega)
        · have q4 : ¬ st p l < 0 := q4
          refine ⟨10 * p + l, e10, by show _ < 60; omega, _, (hst2 l (by omega)).1, ?_⟩
          refine c_Momin ?_
          rw [if_pos ⟨q3, by omega⟩] at hk
          have e9 : wI (9 - (s : Int)) = 9 - (s : Int) := wI_id (by omega)
          have e : (if st p l < wI (9 - (s : Int)) then st p l else wI (9 - (s : Int))) = ((if (st p l).toNat < 9 - s then (st p l).toNat else 9 - s : Nat) : Int) := by
            rw [e9]
            split <;> split <;> omega
          show K (some (xi (if st p l < wI (9 - (s : Int)) then st p l else wI (9 - (s : Int))))) (wr h3) al
          rw [e]
          exact hk
      · have q3 : ¬ tk p = 6 := q3
        exact hpl (fun q5 => q3 q5.1)
theorem c_Mworth {V : List Cl} {pay : Int} {tk tv : Nat → Int} {st : Nat → Nat → Int} {nP p i l s : Nat} {pi ii li si pu : Int} (hW : Wd h) (hB : MB h V pay tk tv st nP) (hM : MC h V (fun p => epr (tk p) (tv p) pay) 36) (hp : p < nP) (hi : i < 6) (hl : 1 ≤ l ∧ l ≤ 9) (hs : s < 10) (ep : pi = (p : Int)) (ei : ii = (i : Int)) (el : li = (l : Int)) (es : si = (s : Int)) (hpu : h 145 p = pu) (hpu2 : I32 pu)
    (hK : ∀ h2 : HH, MF h h2 → MC h2 V (fun p => epr (tk p) (tv p) pay) 36 → K (some (xi (wtS (tk p) (tv p) (st p) pay (tbl V (i : Int) (p : Int)) l s pu))) h2 al) : Call g (d + 6) yMo_worthOf [xr 120, xi pi, xi ii, xi li, xi si] h al K := by
  subst ep
  subst ei
  subst el
  subst es
  have hnP := hB.1.1
  have hp6 : p < 6 := by omega
  obtain ⟨q0, hz⟩ := hB.1.2
  have hgd : gdT (tbl V (i : Int) (p : Int)) := tbl_ok hz.2.1
  obtain ⟨⟨tk1, tk2, tk3⟩, ⟨tv1, tv2, tv3⟩, hst⟩ := hB.2.2 p hp
  unfold wtS at hK
  obtain ⟨h0, rfl⟩ := id hW
  refine cof ocMo_worthOf rfl (XW_t4 [63] 80 okMo_worthOf ?_)
  refine ⟨p, rfl, by show p < 6; exact hp6, _, tk1, ?_⟩
  refine c_Mreckons (fun q2 => ?_) (fun q2 => ?_)
  · refine c_layBest hW hB hM hp hi rfl rfl fun h2 hm hr hM2 hL => ?_
    have hW2 := hm.wd hW
    have hB2 := hm.mb hB
    obtain ⟨⟨tk1', _, _⟩, ⟨tv1', _, _⟩, _⟩ := hB2.2.2 p hp
    have hk := hK h2 hm hM2
    rw [if_pos q2] at hk
    have hy : 1 ≤ yrs (tk p) (tv p) l ∧ yrs (tk p) (tv p) l ≤ 18 := by unfold yrs; split <;> omega
    obtain ⟨h3, rfl⟩ := id hW2
    refine c_yearsOf hW2 hp6 rfl rfl tk1' tv1' ⟨tv2, tv3⟩ (by omega) ?_
    refine c_at0 (l := yrs (tk p) (tv p) l) hp6 hi (by omega) (by omega) rfl rfl rfl rfl ?_
    refine ⟨a0 p i (yrs (tk p) (tv p) l) s, rfl, by show _ < 6840; exact a0_lt hp6 hi hy.2 hs, _, (hL _ s hy.2 hs).1, ?_⟩
    exact hk
  · refine c_layRaw hW ⟨q0, hz⟩ hM hp6 hi rfl rfl fun h2 hm _ hr hM2 h1 hT => ?_
    have hW2 := hm.wd hW
    have hpu' : h2 145 p = pu := (hm 145 p (by decide) (by decide)).trans hpu
    obtain ⟨s0, hs0⟩ : ∃ s0 : Nat, s0 = s := ⟨s, rfl⟩
    have loop : ∀ (m s : Nat) (sum co : Int) (h3 : HH) (x9 x10 : Option XV), m ≤ 9 → s < 10 → co = wI (pu + sum) → MF (wr h0) h3 → h3 146 (6 * p + i) = 1 → MC h3 V (fun p => epr (tk p) (tv p) pay) 36 → (∀ h2 : HH, MF (wr h0) h2 → MC h2 V (fun p => epr (tk p) (tv p) pay) 36 → K (some (xi (wlo (tk p) (tv p) (st p) (tbl V (i : Int) (p : Int)) pu m s sum))) h2 al) →
        XW g (d + 5) mMo_worthOf K 63 [some (xr 120), some (xi (p : Int)), some (xi (i : Int)), some (xi (l : Int)), some (xi (s0 : Int)), some (xi (s : Int)), some (xi co), some (xi sum), some (xi (m : Int)), x9, x10] [] h3 al := by
      intro m
      induction m with
      | zero =>
        intro s sum co h3 x9 x10 _ _ _ hm3 _ hM3 hk
        refine XW_t4 [63] 60 okMo_worthOf ?_
        exact hk h3 hm3 hM3
      | succ m ih =>
        intro s sum co h3 x9 x10 hm9 hs hco hm3 h13 hM3 hk
        have hW3 := hm3.wd hW
        have hB3 := hm3.mb hB
        have emS : stS (tk p) (tv p) (st p) pay (tbl V (i : Int) (p : Int)) (m + 1) s co = sgt (tk p) (tv p) (st p) (tbl V (i : Int) (p : Int)) (m + 1) s (wI (pu + sum)) := by
          unfold stS
          rw [if_neg q2, hco]
        refine XW_t4 [63] 100 okMo_worthOf ?_
        refine ite_t (by omega) ?_
        refine c_mendsOf (l := m + 1) (s := s) hW3 hB3 hM3 hp hi ⟨by omega, by omega⟩ hs rfl rfl rfl rfl fun h4 hm4 hr4 hM4 => ?_
        rw [emS]
        have hsm : s + sgt (tk p) (tv p) (st p) (tbl V (i : Int) (p : Int)) (m + 1) s (wI (pu + sum)) < 10 := sgt_le hs tv3
        have hk' : ∀ h2 : HH, MF (wr h0) h2 → MC h2 V (fun p => epr (tk p) (tv p) pay) 36 → K (some (xi (wlo (tk p) (tv p) (st p) (tbl V (i : Int) (p : Int)) pu m (bhS (tbl V (i : Int) (p : Int)) (m + 1) s (sgt (tk p) (tv p) (st p) (tbl V (i : Int) (p : Int)) (m + 1) s (wI (pu + sum)))) (wI (sum + gnS (tbl V (i : Int) (p : Int)) (m + 1) s (sgt (tk p) (tv p) (st p) (tbl V (i : Int) (p : Int)) (m + 1) s (wI (pu + sum)))))))) h2 al := hk
        clear hk emS
        generalize sgt (tk p) (tv p) (st p) (tbl V (i : Int) (p : Int)) (m + 1) s (wI (pu + sum)) = mm at hsm hk' ⊢
        have hm34 := hm3.trans hm4
        have hW4 := hm34.wd hW
        have h14 := hr4 _ h13
        have hT4 := hM4.mt hp6 hi h14
        obtain ⟨h5, rfl⟩ := id hW4
        have esm : ∀ _ : Unit, wI ((s : Int) + (mm : Int)) = ((s + mm : Nat) : Int) := fun _ => by rw [wI_id (by omega)]; omega
        refine c_Mgain (l := m + 1) hW4 hT4 hp6 hi ⟨by omega, by omega⟩ hsm rfl rfl rfl rfl rfl ?_
        refine c_at0 (l := m + 1) (s := s + mm) hp6 hi (by omega) (by omega) rfl rfl rfl (esm ()) ?_
        refine ⟨a0 p i (m + 1) (s + mm), rfl, by show _ < 6840; exact a0_lt hp6 hi (by omega) hsm, _, hT4 0 (m + 1) (s + mm) (by decide) (by omega) (by omega) hsm, ?_⟩
        refine c_fallen (t := s + mm) (esm ()) (by omega) ⟨(hgd 0 (m + 1) (s + mm)).1, (hgd 0 (m + 1) (s + mm)).2.2⟩ ?_
        have := ih (bhS (tbl V (i : Int) (p : Int)) (m + 1) s mm) (wI (sum + gnS (tbl V (i : Int) (p : Int)) (m + 1) s mm)) (wI (co + gnS (tbl V (i : Int) (p : Int)) (m + 1) s mm)) (wr h5) (some (xi (mm : Int))) (some (xi (gnS (tbl V (i : Int) (p : Int)) (m + 1) s mm))) (by omega) (bhS_le hsm) (by rw [hco]; unfold wI; omega) hm34 h14 hM4 hk'
        rw [show (m : Int) = wI (((m + 1 : Nat) : Int) + -1) by rw [nP2 (by omega) (by omega)]; rfl] at this
        exact this
    have hk : ∀ h2 : HH, MF (wr h0) h2 → MC h2 V (fun p => epr (tk p) (tv p) pay) 36 → K (some (xi (wlo (tk p) (tv p) (st p) (tbl V (i : Int) (p : Int)) pu l s 0))) h2 al := fun h2 a b => by
      have := hK h2 a b
      rw [if_neg q2] at this
      exact this
    have t := loop l s 0 pu h2 none none hl.2 hs (wI_0 hpu2).symm hm h1 hM2 hk
    obtain ⟨h3, rfl⟩ := id hW2
    refine ⟨p, rfl, by show p < 6; exact hp6, _, hpu', ?_⟩
    rw [hs0] at t
    exact t
end MM
