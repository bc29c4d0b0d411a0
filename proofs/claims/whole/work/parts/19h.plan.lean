-- a ground's numbers, and the best rows there
theorem falI {t : Nat} {F : Int} (ht : t < 1000) (hF : 0 ≤ F ∧ F ≤ 9) : (if 0 < wI ((t : Int) - F) then wI ((t : Int) - F) else 0) = ((fal t F : Nat) : Int) := by
  rw [wI_id (by omega)]
  unfold fal
  split <;> omega
/-- what planning changes -/
def SP2 (h h2 : HH) (gn : Nat) : Prop := (∀ a k, a ≠ gn → a ≠ gn + 4 → a ≠ gn + 5 → a ≠ gn + 6 → h2 a k = h a k) ∧ ∀ k, k ≠ 10 → k ≠ 11 → h2 gn k = h gn k
theorem SP2.refl {h : HH} {gn : Nat} : SP2 h h gn := ⟨fun _ _ _ _ _ _ => rfl, fun _ _ _ => rfl⟩
theorem SP2.trans {h h2 h3 : HH} {gn : Nat} (a : SP2 h h2 gn) (b : SP2 h2 h3 gn) : SP2 h h3 gn :=
  ⟨fun q k q1 q2 q3 q4 => (b.1 q k q1 q2 q3 q4).trans (a.1 q k q1 q2 q3 q4), fun k q1 q2 => (b.2 k q1 q2).trans (a.2 k q1 q2)⟩
theorem SP2.up {h h2 : HH} {gn q j : Nat} {z : Int} (hI : SP2 h h2 gn) (hq : q = gn + 4 ∨ q = gn + 5 ∨ q = gn + 6 ∨ (q = gn ∧ (j = 10 ∨ j = 11))) : SP2 h (uH h2 q j z) gn := by
  refine ⟨fun a k q1 q2 q3 q4 => ?_, fun k q1 q2 => ?_⟩
  · rw [uH_ne (by omega)]; exact hI.1 a k q1 q2 q3 q4
  · rw [uH_ne (by omega)]; exact hI.2 k q1 q2
theorem SP2.gt {h h2 : HH} {gn : Nat} {T : TB} (hI : SP2 h h2 gn) (hT : GT h gn T) : GT h2 gn T := fun w l s q1 q2 q3 q4 => (hI.1 _ _ (by omega) (by omega) (by omega) (by omega)).trans (hT w l s q1 q2 q3 q4)
theorem SP2.gf {h h2 : HH} {gn : Nat} (hI : SP2 h h2 gn) (hT : GF h gn) : GF h2 gn := by
  obtain ⟨h1, h2, h3, h4, h5, h6⟩ := hT
  exact ⟨(hI.2 2 (by decide) (by decide)).trans h1, (hI.2 3 (by decide) (by decide)).trans h2, (hI.2 4 (by decide) (by decide)).trans h3, (hI.2 5 (by decide) (by decide)).trans h4, (hI.2 6 (by decide) (by decide)).trans h5, (hI.2 7 (by decide) (by decide)).trans h6⟩
section GP
variable {g : GC} {d : Nat} {h : HH} {al : AL} {K : KT}
theorem ixL {l s : Nat} (hl : l < 1000) (hs : s < 1000) : wI (wI ((l : Int) * 10) + (s : Int)) = ((10 * l + s : Nat) : Int) := by
  rw [wI_id (z := (l : Int) * 10) (by omega), wI_id (by omega)]; omega
theorem ixM {l s m : Nat} (hl : l < 1000) (hs : s < 1000) (hm : m < 1000) : wI (wI (wI ((l : Int) * 10) + (s : Int)) + (m : Int)) = ((10 * l + (s + m) : Nat) : Int) := by
  rw [ixL hl hs, wI_id (by omega)]; omega
theorem c_number {gn w l s : Nat} {T : TB} (hg : GN gn) (hgf : GF h gn) (hT : GT h gn T) (hw : w < 3) (hl : 1 ≤ l ∧ l ≤ 18) (hs : s < 10) (hK : K (some (xi (T w l s))) h al) : Call g (d + 2) yGr_number [xr (Int.ofNat gn), xi (w : Int), xi (l : Int), xi (s : Int)] h al K := by
  obtain ⟨k0, k1, k2, k3, k4, k5, k6⟩ := hg.k
  obtain ⟨l1, l2, l3, l4, l5, l6⟩ := hg.l g
  refine cof ocGr_number rfl (XW_t4 [] 40 okGr_number ?_)
  have h3 : w = 0 ∨ w = 1 ∨ w = 2 := by omega
  refine ite_i (fun q => ?_) (fun q => ?_)
  · have e : w = 0 := by omega
    subst e
    refine cond_i (by rw [k0]; rfl) ⟨_, hgf.1, ?_⟩
    exact c_atE (isA50 k1) (ixL (by omega) (by omega)) (by omega) (hT 0 l s (by omega) hl.1 hl.2 hs) hK
  · refine ite_i (fun q2 => ?_) (fun q2 => ?_)
    · have e : w = 1 := by omega
      subst e
      refine cond_i (by rw [k0]; rfl) ⟨_, hgf.2.1, ?_⟩
      exact c_atE (isA50 k2) (ixL (by omega) (by omega)) (by omega) (hT 1 l s (by omega) hl.1 hl.2 hs) hK
    · have e : w = 2 := by omega
      subst e
      refine cond_i (by rw [k0]; rfl) ⟨_, hgf.2.2.1, ?_⟩
      exact c_atE (isA50 k3) (ixL (by omega) (by omega)) (by omega) (hT 2 l s (by omega) hl.1 hl.2 hs) hK
theorem c_gain {gn l s m : Nat} {T : TB} (hg : GN gn) (hgf : GF h gn) (hT : GT h gn T) (hl : 1 ≤ l ∧ l ≤ 18) (hs : s + m < 10) (hK : K (some (xi (gnS T l s m))) h al) : Call g (d + 2) yGr_gain [xr (Int.ofNat gn), xi (l : Int), xi (s : Int), xi (m : Int)] h al K := by
  obtain ⟨k0, k1, k2, k3, k4, k5, k6⟩ := hg.k
  obtain ⟨l1, l2, l3, l4, l5, l6⟩ := hg.l g
  refine cof ocGr_gain rfl (XW_t4 [] 40 okGr_gain ?_)
  refine cond_i (by rw [k0]; rfl) ⟨_, hgf.2.1, ?_⟩
  refine c_atE (isA50 k2) (ixM (by omega) (by omega) (by omega)) (by omega) (hT 1 l (s + m) (by omega) hl.1 hl.2 (by omega)) ?_
  refine cond_i (by rw [k0]; rfl) ⟨_, hgf.2.2.1, ?_⟩
  exact c_atE (isA50 k3) (ixL (by omega) (by omega)) (by omega) (hT 2 l s (by omega) hl.1 hl.2 (by omega)) hK
theorem c_behind {gn l s m : Nat} {T : TB} (hg : GN gn) (hgf : GF h gn) (hT : GT h gn T) (hd : gdT T) (hl : 1 ≤ l ∧ l ≤ 18) (hs : s + m < 10) (hK : K (some (xi (bhS T l s m : Int))) h al) : Call g (d + 2) yGr_behind [xr (Int.ofNat gn), xi (l : Int), xi (s : Int), xi (m : Int)] h al K := by
  obtain ⟨k0, k1, k2, k3, k4, k5, k6⟩ := hg.k
  obtain ⟨l1, l2, l3, l4, l5, l6⟩ := hg.l g
  refine cof ocGr_behind rfl (XW_t4 [] 40 okGr_behind ?_)
  refine cond_i (by rw [k0]; rfl) ⟨_, hgf.1, ?_⟩
  refine c_atE (isA50 k1) (ixM (by omega) (by omega) (by omega)) (by omega) (hT 0 l (s + m) (by omega) hl.1 hl.2 (by omega)) ?_
  refine c_max ?_
  have hF := hd 0 l (s + m)
  have e : (if 0 < wI (wI ((s : Int) + (m : Int)) - T 0 l (s + m)) then wI (wI ((s : Int) + (m : Int)) - T 0 l (s + m)) else 0) = ((bhS T l s m : Nat) : Int) := by
    rw [wI_id (z := (s : Int) + (m : Int)) (by omega), show (s : Int) + (m : Int) = ((s + m : Nat) : Int) by omega]
    exact falI (by omega) ⟨hF.1, hF.2.2⟩
  rw [← e] at hK
  exact hK
/-- the year l worked: from what is behind it -/
theorem c_planYear {gn l : Nat} {T : TB} {prev : Nat → Int} (hg : GN gn) (hgf : GF h gn) (hT : GT h gn T) (hd : gdT T) (hl : 1 ≤ l ∧ l ≤ 18) (hp : ∀ s, s < 10 → h (gn + 4) (10 * (l - 1) + s) = prev s)
    (hK : ∀ h2 : HH, SP2 h h2 gn → h2 gn 10 = h gn 10 → h2 gn 11 = h gn 11 → (∀ k, (k < 10 * l ∨ 10 * l + 10 ≤ k) → h2 (gn + 4) k = h (gn + 4) k ∧ h2 (gn + 5) k = h (gn + 5) k) → (∀ s, s < 10 → h2 (gn + 4) (10 * l + s) = (pkS T prev l s).2 ∧ h2 (gn + 5) (10 * l + s) = ((pkS T prev l s).1 : Int)) → K none h2 al) : Call g (d + 2) yGr_planYear [xr (Int.ofNat gn), xi (l : Int)] h al K := by
  obtain ⟨k0, k1, k2, k3, k4, k5, k6⟩ := hg.k
  obtain ⟨l1, l2, l3, l4, l5, l6⟩ := hg.l g
  have eR : ∀ _ : Unit, wI ((l : Int) * 10) = ((10 * l : Nat) : Int) := fun _ => by rw [wI_id (by omega)]; omega
  have eI : ∀ s : Nat, s < 10 → wI (((10 * l : Nat) : Int) + (s : Int)) = ((10 * l + s : Nat) : Int) := fun s hs => by rw [wI_id (by omega)]; omega
  -- the second loop: state by state
  have loop2 : ∀ (m s : Nat) (h3 : HH) (x4 x5 : Option XV), s + m = 10 → SP2 h h3 gn → h3 gn 10 = h gn 10 → h3 gn 11 = h gn 11 → (∀ k, (k < 10 * l ∨ 10 * l + 10 ≤ k) → h3 (gn + 4) k = h (gn + 4) k ∧ h3 (gn + 5) k = h (gn + 5) k) → (∀ t, t < 10 → h3 (gn + 6) t = mvS T prev l t) → (∀ t, t < s → h3 (gn + 4) (10 * l + t) = (pkS T prev l t).2 ∧ h3 (gn + 5) (10 * l + t) = ((pkS T prev l t).1 : Int)) →
      XW g (d + 1) mGr_planYear K 78 [some (xr (Int.ofNat gn)), some (xi (l : Int)), some (xi ((10 * l : Nat) : Int)), some (xi (s : Int)), x4, x5] [] h3 al := by
    intro m
    induction m with
    | zero =>
      intro s h3 x4 x5 hs hI f1 f2 hO _ hD
      refine XW_t4 [78] 40 okGr_planYear ?_
      refine ite_f (by omega) ?_
      exact hK h3 hI f1 f2 hO fun t ht => hD t (by omega)
    | succ m ih =>
      intro s h3 x4 x5 hs hI f1 f2 hO hM hD
      have r4 : h3 gn 5 = ((gn + 4 : Nat) : Int) := (hI.gf hgf).2.2.2.1
      have r5 : h3 gn 6 = ((gn + 5 : Nat) : Int) := (hI.gf hgf).2.2.2.2.1
      have r6 : h3 gn 7 = ((gn + 6 : Nat) : Int) := (hI.gf hgf).2.2.2.2.2
      have hs9 : s < 10 := by omega
      have e1 : ∀ _ : Unit, wI (((10 * l : Nat) : Int) + (s : Int)) = ((10 * l + s : Nat) : Int) := fun _ => eI s hs9
      have hix : 10 * l + s < 190 := by omega
      -- the end of the inner loop
      have done : ∀ (h4 : HH) (x4 x5 : Option XV), SP2 h h4 gn → h4 gn 10 = h gn 10 → h4 gn 11 = h gn 11 → (∀ a k, a ≠ gn + 4 → a ≠ gn + 5 → h4 a k = h3 a k) → (∀ k, k ≠ 10 * l + s → h4 (gn + 4) k = h3 (gn + 4) k ∧ h4 (gn + 5) k = h3 (gn + 5) k) → h4 (gn + 4) (10 * l + s) = (pkS T prev l s).2 → h4 (gn + 5) (10 * l + s) = ((pkS T prev l s).1 : Int) →
          XW g (d + 1) mGr_planYear K 78 [some (xr (Int.ofNat gn)), some (xi (l : Int)), some (xi ((10 * l : Nat) : Int)), some (xi (wI ((s : Int) + 1))), x4, x5] [] h4 al := by
        intro h4 x4 x5 hI4 g1 g2 hA hB hv hf
        rw [nS s (by omega)]
        refine ih (s + 1) h4 x4 x5 (by omega) hI4 g1 g2 (fun k hk => ?_) (fun t ht => ?_) (fun t ht => ?_)
        · have := hB k (by omega)
          have := hO k hk
          omega
        · rw [hA (gn + 6) t (by omega) (by omega)]; exact hM t ht
        · by_cases e : t = s
          · subst e; exact ⟨hv, hf⟩
          · have := hB (10 * l + t) (by omega)
            rw [this.1, this.2]
            exact hD t (by omega)
      -- one try of the inner loop
      have tryM : ∀ (mm : Nat) (h4 : HH) (x5 : Option XV) (f : Nat) (v : Int), 1 ≤ mm → s + mm < 10 → mm ≤ 2 → SP2 h h4 gn → (∀ a k, a ≠ gn + 4 → a ≠ gn + 5 → h4 a k = h3 a k) → (∀ k, k ≠ 10 * l + s → h4 (gn + 4) k = h3 (gn + 4) k ∧ h4 (gn + 5) k = h3 (gn + 5) k) → h4 (gn + 4) (10 * l + s) = v → h4 (gn + 5) (10 * l + s) = (f : Int) → (∀ (h5 : HH) (x5 : Option XV), SP2 h h5 gn → (∀ a k, a ≠ gn + 4 → a ≠ gn + 5 → h5 a k = h3 a k) → (∀ k, k ≠ 10 * l + s → h5 (gn + 4) k = h3 (gn + 4) k ∧ h5 (gn + 5) k = h3 (gn + 5) k) → h5 (gn + 4) (10 * l + s) = (if v < cdS T prev l s mm then (mm, cdS T prev l s mm) else (f, v) : Nat × Int).2 → h5 (gn + 5) (10 * l + s) = (((if v < cdS T prev l s mm then (mm, cdS T prev l s mm) else (f, v) : Nat × Int).1 : Nat) : Int) → XW g (d + 1) mGr_planYear K 110 [some (xr (Int.ofNat gn)), some (xi (l : Int)), some (xi ((10 * l : Nat) : Int)), some (xi (s : Int)), some (xi ((mm + 1 : Nat) : Int)), x5] [] h5 al) →
          XW g (d + 1) mGr_planYear K 110 [some (xr (Int.ofNat gn)), some (xi (l : Int)), some (xi ((10 * l : Nat) : Int)), some (xi (s : Int)), some (xi (mm : Int)), x5] [] h4 al := by
        intro mm h4 x5 f v b1 b2 b3 hI4 hA hB hv hf hgo
        have esm : ∀ _ : Unit, wI ((s : Int) + (mm : Int)) = ((s + mm : Nat) : Int) := fun _ => by rw [wI_id (by omega)]; omega
        have p4 := (hI4.gf hgf).2.2.2.1
        have p5 := (hI4.gf hgf).2.2.2.2.1
        have p6 := (hI4.gf hgf).2.2.2.2.2
        have p3 := (hI4.gf hgf).2.2.1
        have hcost : h4 (gn + 3) (10 * l + s) = T 2 l s := (hI4.gt hT) 2 l s (by omega) hl.1 hl.2 hs9
        have hmd : h4 (gn + 6) (s + mm) = mvS T prev l (s + mm) := (hA _ _ (by omega) (by omega)).trans (hM _ b2)
        refine XW_t4 [120] 60 okGr_planYear ?_
        refine ite_f (by omega) ?_
        show XW g (d + 1) mGr_planYear K 120 [some (xr (Int.ofNat gn)), some (xi (l : Int)), some (xi ((10 * l : Nat) : Int)), some (xi (s : Int)), some (xi (mm : Int)), x5] [xi (wI ((s : Int) + (mm : Int)))] h4 al
        rw [esm ()]
        refine XW_t4 [110] 60 okGr_planYear ?_
        refine ite_t (by omega) ?_
        refine cond_i (by rw [k0]; rfl) ⟨_, p6, ?_⟩
        refine cond_i (isA50 k6) ⟨s + mm, esm (), by omega, _, hmd, ?_⟩
        refine cond_i (by rw [k0]; rfl) ⟨_, p3, ?_⟩
        refine cond_i (isA50 k3) ⟨10 * l + s, e1 (), by omega, _, hcost, ?_⟩
        refine cond_i (by rw [k0]; rfl) ⟨_, p4, ?_⟩
        refine cond_i (isA50 k4) ⟨10 * l + s, e1 (), by omega, _, hv, ?_⟩
        refine ite_i (fun q => ?_) (fun q => ?_)
        · have q2 : v < cdS T prev l s mm := q
          refine cond_i (by rw [k0]; rfl) ⟨_, p4, ?_⟩
          refine cond_i (by rw [k4]; rfl) ⟨10 * l + s, e1 (), by omega, ?_⟩
          refine cond_i (by rw [k0]; rfl) ⟨_, (uH_ne (by omega)).trans p5, ?_⟩
          refine cond_i (by rw [k5]; rfl) ⟨10 * l + s, e1 (), by omega, ?_⟩
          have := hgo (uH (uH h4 (gn + 4) (10 * l + s) (cdS T prev l s mm)) (gn + 5) (10 * l + s) (mm : Int)) (some (xi (cdS T prev l s mm))) ((hI4.up (Or.inl rfl)).up (Or.inr (Or.inl rfl))) (fun a k q1 q2 => by rw [uH_ne (by omega), uH_ne (by omega)]; exact hA a k q1 q2) (fun k hk => by rw [uH_ne (by omega), uH_ne (by omega), uH_ne (by omega), uH_ne (by omega)]; exact hB k hk) (by rw [if_pos q2, uH_ne (by omega), uH_at]) (by rw [if_pos q2, uH_at])
          rw [← nS mm (by omega)] at this
          exact this
        · have q2 : ¬ v < cdS T prev l s mm := q
          have := hgo h4 (some (xi (cdS T prev l s mm))) hI4 hA hB (by rw [if_neg q2]; exact hv) (by rw [if_neg q2]; exact hf)
          rw [← nS mm (by omega)] at this
          exact this
      refine XW_t4 [78, 110] 60 okGr_planYear ?_
      refine ite_t (by omega) ?_
      refine cond_i (by rw [k0]; rfl) ⟨_, r4, ?_⟩
      refine cond_i (by rw [k0]; rfl) ⟨_, r6, ?_⟩
      refine cond_i (isA50 k6) ⟨s, rfl, by omega, _, hM s hs9, ?_⟩
      refine cond_i (by rw [k4]; rfl) ⟨10 * l + s, e1 (), by omega, ?_⟩
      refine cond_i (by rw [k0]; rfl) ⟨_, (uH_ne (by omega)).trans r5, ?_⟩
      refine cond_i (by rw [k5]; rfl) ⟨10 * l + s, e1 (), by omega, ?_⟩
      have hI5 : SP2 h (uH (uH h3 (gn + 4) (10 * l + s) (mvS T prev l s)) (gn + 5) (10 * l + s) 0) gn := (hI.up (Or.inl rfl)).up (Or.inr (Or.inl rfl))
      have stop : ∀ (mm : Nat) (h4 : HH) (x5 : Option XV), (2 < mm ∨ 10 ≤ s + mm) → mm < 100 → SP2 h h4 gn → (∀ a k, a ≠ gn + 4 → a ≠ gn + 5 → h4 a k = h3 a k) → (∀ k, k ≠ 10 * l + s → h4 (gn + 4) k = h3 (gn + 4) k ∧ h4 (gn + 5) k = h3 (gn + 5) k) → h4 (gn + 4) (10 * l + s) = (pkS T prev l s).2 → h4 (gn + 5) (10 * l + s) = ((pkS T prev l s).1 : Int) →
          XW g (d + 1) mGr_planYear K 110 [some (xr (Int.ofNat gn)), some (xi (l : Int)), some (xi ((10 * l : Nat) : Int)), some (xi (s : Int)), some (xi (mm : Int)), x5] [] h4 al := by
        intro mm h4 x5 hmm hm1 hI4 hA hB hv hf
        have esm : ∀ _ : Unit, wI ((s : Int) + (mm : Int)) = ((s + mm : Nat) : Int) := fun _ => by rw [wI_id (by omega)]; omega
        have g1 : h4 gn 10 = h gn 10 := (hA _ _ (by omega) (by omega)).trans f1
        have g2 : h4 gn 11 = h gn 11 := (hA _ _ (by omega) (by omega)).trans f2
        have fin := done h4 (some (xi (mm : Int))) x5 hI4 g1 g2 hA hB hv hf
        refine XW_t4 [78, 120] 60 okGr_planYear ?_
        refine ite_i (fun q => ?_) (fun q => ?_)
        · exact fin
        · show XW g (d + 1) mGr_planYear K 120 [some (xr (Int.ofNat gn)), some (xi (l : Int)), some (xi ((10 * l : Nat) : Int)), some (xi (s : Int)), some (xi (mm : Int)), x5] [xi (wI ((s : Int) + (mm : Int)))] h4 al
          rw [esm ()]
          refine XW_t4 [78] 60 okGr_planYear ?_
          refine ite_f (by omega) ?_
          exact fin
      by_cases c1 : s + 1 < 10
      · refine tryM 1 _ x5 0 (mvS T prev l s) (by omega) c1 (by omega) hI5 (fun a k q1 q2 => by rw [uH_ne (by omega), uH_ne (by omega)]) (fun k hk => by rw [uH_ne (by omega), uH_ne (by omega), uH_ne (by omega), uH_ne (by omega)]; exact ⟨rfl, rfl⟩) (by rw [uH_ne (by omega), uH_at]) (by rw [uH_at]; rfl) fun h5 x5 hI6 hA hB hv hf => ?_
        have ep : (if mvS T prev l s < cdS T prev l s 1 then (1, cdS T prev l s 1) else (0, mvS T prev l s) : Nat × Int) = pk1 T prev l s := by
          unfold pk1
          by_cases q : mvS T prev l s < cdS T prev l s 1
          · rw [if_pos q, if_pos ⟨c1, q⟩]
          · rw [if_neg q, if_neg (fun z => q z.2)]
        rw [ep] at hv hf
        by_cases c2 : s + 2 < 10
        · refine tryM 2 h5 x5 _ _ (by omega) c2 (by omega) hI6 hA hB hv hf fun h6 x5 hI7 hA hB hv hf => ?_
          have ep2 : (if (pk1 T prev l s).2 < cdS T prev l s 2 then (2, cdS T prev l s 2) else ((pk1 T prev l s).1, (pk1 T prev l s).2) : Nat × Int) = pkS T prev l s := by
            unfold pkS
            by_cases q : (pk1 T prev l s).2 < cdS T prev l s 2
            · rw [if_pos q, if_pos ⟨c2, q⟩]
            · rw [if_neg q, if_neg (fun z => q z.2)]
          rw [ep2] at hv hf
          exact stop 3 h6 x5 (Or.inl (by omega)) (by omega) hI7 hA hB hv hf
        · have ep2 : pkS T prev l s = pk1 T prev l s := by
            unfold pkS
            rw [if_neg (fun z => c2 z.1)]
          rw [← ep2] at hv hf
          exact stop 2 h5 x5 (Or.inr (by omega)) (by omega) hI6 hA hB hv hf
      · have ep2 : pkS T prev l s = (0, mvS T prev l s) := by
          unfold pkS pk1
          rw [if_neg (fun z => by omega), if_neg (fun z => c1 z.1)]
        exact stop 1 _ x5 (Or.inr (by omega)) (by omega) hI5 (fun a k q1 q2 => by rw [uH_ne (by omega), uH_ne (by omega)]) (fun k hk => by rw [uH_ne (by omega), uH_ne (by omega), uH_ne (by omega), uH_ne (by omega)]; exact ⟨rfl, rfl⟩) (by rw [uH_ne (by omega), uH_at, ep2]) (by rw [uH_at, ep2]; rfl)
  -- the first loop: what each state comes to
  have loop1 : ∀ (m t : Nat) (h3 : HH) (x4 : Option XV), t + m = 10 → SP2 h h3 gn → (∀ a k, a ≠ gn + 6 → h3 a k = h a k) → (∀ u, u < t → h3 (gn + 6) u = mvS T prev l u) →
      XW g (d + 1) mGr_planYear K 19 [some (xr (Int.ofNat gn)), some (xi (l : Int)), some (xi ((10 * l : Nat) : Int)), some (xi (t : Int)), x4, none] [] h3 al := by
    intro m
    induction m with
    | zero =>
      intro t h3 x4 ht hI hA hM
      refine XW_t4 [19, 78] 40 okGr_planYear ?_
      refine ite_f (by omega) ?_
      exact loop2 10 0 h3 x4 none rfl hI (hA _ _ (by omega)) (hA _ _ (by omega)) (fun k _ => ⟨hA _ _ (by omega), hA _ _ (by omega)⟩) (fun u hu => hM u (by omega)) (fun u hu => absurd hu (by omega))
    | succ m ih =>
      intro t h3 x4 ht hI hA hM
      have ht9 : t < 10 := by omega
      have p := hI.gf hgf
      have hF := hd 0 l t
      have e2 : ∀ _ : Unit, wI (wI (((10 * l : Nat) : Int) - 10) + ((fal t (T 0 l t) : Nat) : Int)) = ((10 * (l - 1) + fal t (T 0 l t) : Nat) : Int) := fun _ => by
        have : fal t (T 0 l t) ≤ t := Nat.sub_le _ _
        rw [wI_id (z := ((10 * l : Nat) : Int) - 10) (by omega), wI_id (by omega)]; omega
      have hfl : fal t (T 0 l t) < 10 := by
        have : fal t (T 0 l t) ≤ t := Nat.sub_le _ _
        omega
      refine XW_t4 [19] 60 okGr_planYear ?_
      refine ite_t (by omega) ?_
      refine cond_i (by rw [k0]; rfl) ⟨_, p.1, ?_⟩
      refine cond_i (isA50 k1) ⟨10 * l + t, eI t ht9, by omega, _, (hI.gt hT) 0 l t (by omega) hl.1 hl.2 ht9, ?_⟩
      refine c_max ?_
      rw [falI (by omega) ⟨hF.1, hF.2.2⟩]
      refine cond_i (by rw [k0]; rfl) ⟨_, p.2.2.2.2.2, ?_⟩
      refine cond_i (by rw [k0]; rfl) ⟨_, p.2.1, ?_⟩
      refine cond_i (isA50 k2) ⟨10 * l + t, eI t ht9, by omega, _, (hI.gt hT) 1 l t (by omega) hl.1 hl.2 ht9, ?_⟩
      refine cond_i (by rw [k0]; rfl) ⟨_, p.2.2.2.1, ?_⟩
      refine c_atE (isA50 k4) (e2 ()) (by omega) ((hA _ _ (by omega)).trans (hp _ hfl)) ?_
      refine cond_i (by rw [k6]; rfl) ⟨t, rfl, by omega, ?_⟩
      have := ih (t + 1) (uH h3 (gn + 6) t (mvS T prev l t)) (some (xi ((fal t (T 0 l t) : Nat) : Int))) (by omega) (hI.up (Or.inr (Or.inr (Or.inl rfl)))) (fun a k q => by rw [uH_ne (by omega)]; exact hA a k q) (fun u hu => by
        rw [uH_r]
        by_cases e : u = t
        · rw [if_pos e, e]
        · rw [if_neg e]; exact hM u (by omega))
      rw [← nS t (by omega)] at this
      exact this
  refine cof ocGr_planYear rfl ?_
  refine XW_t4 [19] 60 okGr_planYear ?_
  refine ite_f (by omega) (ite_f (by omega) ?_)
  have := loop1 10 0 h none rfl SP2.refl (fun _ _ _ => rfl) (fun u hu => absurd hu (by omega))
  rw [← eR ()] at this
  exact this
end GP
