-- the best rows as far as they are asked
section FI
variable {g : GC} {d : Nat} {h : HH} {al : AL} {K : KT}
theorem c_plan {gn y : Nat} {T : TB} {e : Int} (hg : GN gn) (hgf : GF h gn) (hT : GT h gn T) (hd : gdT T) (hP : GPl h gn T) (hy : 1 ≤ y ∧ y ≤ 18)
    (hK : ∀ h2 : HH, SP2 h h2 gn → GPl h2 gn T → h2 gn 10 = e → (y : Int) ≤ h2 gn 11 → K none h2 al) : Call g (d + 3) yGr_plan [xr (Int.ofNat gn), xi e, xi (y : Int)] h al K := by
  obtain ⟨k0, k1, k2, k3, k4, k5, k6⟩ := hg.k
  obtain ⟨l1, l2, l3, l4, l5, l6⟩ := hg.l g
  have loopY : ∀ (m l : Nat) (h3 : HH), l + m = 19 → 1 ≤ l → SP2 h h3 gn → GPl h3 gn T → h3 gn 10 = e → h3 gn 11 = ((l - 1 : Nat) : Int) →
      XW g (d + 2) mGr_plan K 55 [some (xr (Int.ofNat gn)), some (xi e), some (xi (y : Int)), some (xi (l : Int))] [] h3 al := by
    intro m
    induction m with
    | zero =>
      intro l h3 hl h1 hI hP3 f10 f11
      refine XW_t4 [55] 40 okGr_plan ?_
      refine ite_t (by omega) ?_
      exact hK h3 hI hP3 f10 (by omega)
    | succ m ih =>
      intro l h3 hl h1 hI hP3 f10 f11
      refine XW_t4 [55] 60 okGr_plan ?_
      refine ite_i (fun q => ?_) (fun q => ?_)
      · exact hK h3 hI hP3 f10 (by omega)
      · refine ite_f (by omega) ?_
        refine cond_i (rcv_c k0 rfl rfl) ?_
        refine c_planYear (prev := fun t => (bsf T e (l - 1) t).2) hg (hI.gf hgf) (hI.gt hT) hd ⟨h1, by omega⟩ (fun s hs => by
          have := (hP3.2 (l - 1) s hs (by omega)).1
          rw [f10] at this
          exact this) fun h4 hI4 g10 g11 hO hN => ?_
        refine cond_i (by rw [k0]; rfl) ⟨11, rfl, ?_⟩
        have hl1 : bsf T e l = fun s => pkS T (fun t => (bsf T e (l - 1) t).2) l s := by
          obtain ⟨l2, rfl⟩ : ∃ l2, l = l2 + 1 := ⟨l - 1, by omega⟩
          rfl
        have := ih (l + 1) (uH h4 gn 11 (l : Int)) (by omega) (by omega) ((hI.trans hI4).up (by omega)) (by
          have u10 : uH h4 gn 11 (l : Int) gn 10 = e := by rw [uH_ne (by omega), g10, f10]
          have u11 : uH h4 gn 11 (l : Int) gn 11 = (l : Int) := uH_at
          refine ⟨by rw [u11]; omega, fun l2 s hs hl2 => ?_⟩
          rw [u11] at hl2
          rw [u10, uH_ne (by omega), uH_ne (by omega)]
          by_cases q : l2 = l
          · subst q
            rw [hl1]
            exact ⟨(hN s hs).1, fun _ => (hN s hs).2⟩
          · have o := hO (10 * l2 + s) (by omega)
            rw [o.1, o.2, ← f10]
            exact hP3.2 l2 s hs (by omega)) (by rw [uH_ne (by omega), g10, f10]) (by rw [uH_at]; omega)
        rw [← nS l (by omega)] at this
        exact this
  have enter : ∀ (h3 : HH) (x3 : Option XV), SP2 h h3 gn → GPl h3 gn T → h3 gn 10 = e → 0 ≤ h3 gn 11 → XW g (d + 2) mGr_plan K 48 [some (xr (Int.ofNat gn)), some (xi e), some (xi (y : Int)), x3] [] h3 al := by
    intro h3 x3 hI hP3 f10 f11
    have hb := hP3.1
    obtain ⟨l, hl⟩ : ∃ l : Nat, h3 gn 11 = (l : Int) := ⟨(h3 gn 11).toNat, by omega⟩
    have := loopY (18 - l) (l + 1) h3 (by omega) (by omega) hI hP3 f10 (by rw [hl]; rfl)
    refine XW_t4 [55] 60 okGr_plan ?_
    refine cond_i (by rw [k0]; rfl) ⟨_, hl, ?_⟩
    rw [← nS l (by omega)] at this
    exact this
  have loopS : ∀ (m s : Nat) (h3 : HH), s + m = 10 → SP2 h h3 gn → h3 gn 10 = e → h3 gn 11 = 0 → (∀ t, t < s → h3 (gn + 4) t = wI (e * t)) → XW g (d + 2) mGr_plan K 27 [some (xr (Int.ofNat gn)), some (xi e), some (xi (y : Int)), some (xi (s : Int))] [] h3 al := by
    intro m
    induction m with
    | zero =>
      intro s h3 hs hI f10 f11 hD
      refine XW_t4 [27, 48] 40 okGr_plan ?_
      refine ite_f (by omega) ?_
      refine enter h3 _ hI ⟨by rw [f11]; decide, fun l2 t ht hl2 => ?_⟩ f10 (by omega)
      rw [f11] at hl2
      have : l2 = 0 := by omega
      subst this
      rw [f10, show 10 * 0 + t = t by omega]
      exact ⟨hD t (by omega), fun q => absurd q (by omega)⟩
    | succ m ih =>
      intro s h3 hs hI f10 f11 hD
      refine XW_t4 [27] 60 okGr_plan ?_
      refine ite_t (by omega) ?_
      refine cond_i (by rw [k0]; rfl) ⟨_, (hI.gf hgf).2.2.2.1, ?_⟩
      refine cond_i (by rw [k4]; rfl) ⟨s, rfl, by omega, ?_⟩
      have := ih (s + 1) (uH h3 (gn + 4) s (wI (e * (s : Int)))) (by omega) (hI.up (Or.inl rfl)) (by rw [uH_ne (by omega)]; exact f10) (by rw [uH_ne (by omega)]; exact f11) (fun t ht => by
        rw [uH_r]
        by_cases q : t = s
        · rw [if_pos q, q]
        · rw [if_neg q]; exact hD t (by omega))
      rw [← nS s (by omega)] at this
      exact this
  refine cof ocGr_plan rfl ?_
  have restart : XW g (d + 2) mGr_plan K 15 [some (xr (Int.ofNat gn)), some (xi e), some (xi (y : Int)), none] [] h al := by
    refine XW_t4 [27] 60 okGr_plan ?_
    refine cond_i (by rw [k0]; rfl) ⟨10, rfl, ?_⟩
    refine cond_i (by rw [k0]; rfl) ⟨11, rfl, ?_⟩
    exact loopS 10 0 _ rfl ((SP2.refl.up (by omega)).up (by omega)) (by rw [uH_ne (by omega), uH_at]) uH_at (fun t ht => absurd ht (by omega))
  refine XW_t4 [15, 48] 60 okGr_plan ?_
  refine cond_i (by rw [k0]; rfl) ⟨_, rfl, ?_⟩
  refine ite_i (fun q => ?_) (fun q => ?_)
  · exact restart
  · have q2 : ¬ h gn 11 < 0 := q
    refine cond_i (by rw [k0]; rfl) ⟨_, rfl, ?_⟩
    refine ite_i (fun q => ?_) (fun q => ?_)
    · exact enter h none SP2.refl hP q (by omega)
    · exact restart
theorem c_first {gn y s : Nat} {T : TB} {e : Int} (hg : GN gn) (hgf : GF h gn) (hT : GT h gn T) (hd : gdT T) (hP : GPl h gn T) (hy : 1 ≤ y ∧ y ≤ 18) (hs : s < 10)
    (hK : ∀ h2 : HH, SP2 h h2 gn → GPl h2 gn T → K (some (xi ((bsf T e y s).1 : Int))) h2 al) : Call g (d + 4) yGr_first [xr (Int.ofNat gn), xi e, xi (y : Int), xi (s : Int)] h al K := by
  obtain ⟨k0, k1, k2, k3, k4, k5, k6⟩ := hg.k
  obtain ⟨l1, l2, l3, l4, l5, l6⟩ := hg.l g
  refine cof ocGr_first rfl ?_
  refine XW_t4 [] 60 okGr_first ?_
  refine cond_i (rcv_c k0 rfl rfl) ?_
  refine c_plan (e := e) hg hgf hT hd hP hy fun h2 hI hP2 f10 f11 => ?_
  refine cond_i (by rw [k0]; rfl) ⟨_, (hI.gf hgf).2.2.2.2.1, ?_⟩
  have := (hP2.2 y s hs f11).2 hy.1
  rw [f10] at this
  exact c_atE (isA50 k5) (ixL (by omega) (by omega)) (by omega) this (hK h2 hI hP2)
theorem c_sum {gn y s : Nat} {T : TB} {e : Int} (hg : GN gn) (hgf : GF h gn) (hT : GT h gn T) (hd : gdT T) (hP : GPl h gn T) (hy : 1 ≤ y ∧ y ≤ 18) (hs : s < 10)
    (hK : ∀ h2 : HH, SP2 h h2 gn → GPl h2 gn T → K (some (xi (bsf T e y s).2)) h2 al) : Call g (d + 4) yGr_sum [xr (Int.ofNat gn), xi e, xi (y : Int), xi (s : Int)] h al K := by
  obtain ⟨k0, k1, k2, k3, k4, k5, k6⟩ := hg.k
  obtain ⟨l1, l2, l3, l4, l5, l6⟩ := hg.l g
  refine cof ocGr_sum rfl ?_
  refine XW_t4 [] 60 okGr_sum ?_
  refine cond_i (rcv_c k0 rfl rfl) ?_
  refine c_plan (e := e) hg hgf hT hd hP hy fun h2 hI hP2 f10 f11 => ?_
  refine cond_i (by rw [k0]; rfl) ⟨_, (hI.gf hgf).2.2.2.1, ?_⟩
  have := (hP2.2 y s hs f11).1
  rw [f10] at this
  exact c_atE (isA50 k4) (ixL (by omega) (by omega)) (by omega) this (hK h2 hI hP2)
end FI
