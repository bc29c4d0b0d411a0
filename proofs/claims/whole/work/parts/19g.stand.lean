-- a ground takes its numbers from a valley
theorem CE.fr {h h' : HH} {vn : Nat} (hf : ∀ a k, vn + 1 ≤ a → a ≤ vn + 4 → h' a k = h a k) : ∀ {R : List Cl} {j e0 : Nat}, CE h vn R j e0 → CE h' vn R j e0 := by
  intro R
  induction R with
  | nil => intro j e0 _; trivial
  | cons c r ih =>
    intro j e0 hC
    obtain ⟨h1, h2, h3, h4, h5⟩ := hC
    exact ⟨(hf _ _ (by omega) (by omega)).trans h1, (hf _ _ (by omega) (by omega)).trans h2, (hf _ _ (by omega) (by omega)).trans h3, fun k hk => (hf _ _ (by omega) (by omega)).trans (h4 k hk), ih h5⟩
theorem VCl.fr {h h' : HH} {vn : Nat} {V : List Cl} (hC : VCl h vn V) (hf : ∀ a k, vn + 1 ≤ a → a ≤ vn + 4 → h' a k = h a k) (hv : ∀ k, h' vn k = h vn k) : VCl h' vn V := by
  obtain ⟨h1, h2, h3, h4, h5, h6⟩ := hC
  exact ⟨(hv 5).trans h1, (hv 7).trans h2, (hv 8).trans h3, h4, h5, h6.fr hf⟩
theorem VF.fr {h h' : HH} {vn : Nat} (hC : VF h vn) (hv : ∀ k, h' vn k = h vn k) : VF h' vn := by
  obtain ⟨h1, h2, h3, h4, h5⟩ := hC
  exact ⟨(hv 0).trans h1, (hv 1).trans h2, (hv 2).trans h3, (hv 3).trans h4, (hv 4).trans h5⟩
/-- the names of grounds -/
def GN (gn : Nat) : Prop := ∃ p : Nat, p < 42 ∧ gn = 230 + 8 * p
theorem ln_ne {g : GC} {a : Nat} (h : a ≠ 180) : ln g a = lnS a := by unfold ln; rw [nbf h]; rfl
theorem GN.k {gn : Nat} (h : GN gn) : kd gn = 2 ∧ kd (gn + 1) = 50 ∧ kd (gn + 2) = 50 ∧ kd (gn + 3) = 50 ∧ kd (gn + 4) = 50 ∧ kd (gn + 5) = 50 ∧ kd (gn + 6) = 50 := by
  obtain ⟨p, hp, rfl⟩ := h
  have c : ck 42 (fun p => decide (kd (230 + 8 * p) = 2 ∧ kd (230 + 8 * p + 1) = 50 ∧ kd (230 + 8 * p + 2) = 50 ∧ kd (230 + 8 * p + 3) = 50 ∧ kd (230 + 8 * p + 4) = 50 ∧ kd (230 + 8 * p + 5) = 50 ∧ kd (230 + 8 * p + 6) = 50)) = true := by decide +kernel
  exact of_decide_eq_true (ck_of c hp)
theorem GN.l {gn : Nat} (h : GN gn) (g : GC) : ln g (gn + 1) = 190 ∧ ln g (gn + 2) = 190 ∧ ln g (gn + 3) = 190 ∧ ln g (gn + 4) = 190 ∧ ln g (gn + 5) = 190 ∧ ln g (gn + 6) = 10 := by
  obtain ⟨p, hp, rfl⟩ := h
  have c : ck 42 (fun p => decide (lnS (230 + 8 * p + 1) = 190 ∧ lnS (230 + 8 * p + 2) = 190 ∧ lnS (230 + 8 * p + 3) = 190 ∧ lnS (230 + 8 * p + 4) = 190 ∧ lnS (230 + 8 * p + 5) = 190 ∧ lnS (230 + 8 * p + 6) = 10)) = true := by decide +kernel
  rw [ln_ne (by omega), ln_ne (by omega), ln_ne (by omega), ln_ne (by omega), ln_ne (by omega), ln_ne (by omega)]
  exact of_decide_eq_true (ck_of c hp)
theorem GN.b {gn : Nat} (h : GN gn) : 230 ≤ gn ∧ gn ≤ 558 := by
  obtain ⟨p, hp, rfl⟩ := h
  omega
theorem VN.b {vn : Nat} (h : VN vn) : 80 ≤ vn ∧ vn ≤ 110 := by
  rcases h with rfl | rfl | rfl | rfl | rfl | rfl <;> omega
/-- what standing on a valley changes -/
def SI2 (h h2 : HH) (gn vn : Nat) (V : List Cl) : Prop := (∀ a k, a ≠ gn → a ≠ gn + 1 → a ≠ gn + 2 → a ≠ gn + 3 → a ≠ vn + 5 → h2 a k = h a k) ∧ (∀ k, k ≠ 8 → k ≠ 9 → k ≠ 11 → h2 gn k = h gn k) ∧ h2 gn 8 = (vn : Int) ∧ h2 gn 9 = lastL V 3 0 ∧ h2 gn 11 = -1
theorem SI2.row {h h2 : HH} {gn vn q : Nat} {V : List Cl} {W : Nat → Int} (hI : SI2 h h2 gn vn V) (hq : q = gn + 1 ∨ q = gn + 2 ∨ q = gn + 3 ∨ q = vn + 5) (hne : gn ≠ vn + 5) : SI2 h (rowU h2 q W) gn vn V := by
  obtain ⟨h1, h2, h3, h4, h5⟩ := hI
  have e : gn ≠ q := by omega
  refine ⟨fun a k q1 q2 q3 q4 q5 => ?_, fun k q1 q2 q3 => ?_, ?_, ?_, ?_⟩
  · rw [rowU_ne (by omega)]; exact h1 a k q1 q2 q3 q4 q5
  · rw [rowU_ne e]; exact h2 k q1 q2 q3
  · rw [rowU_ne e]; exact h3
  · rw [rowU_ne e]; exact h4
  · rw [rowU_ne e]; exact h5
theorem SI2.up {h h2 : HH} {gn vn q j : Nat} {V : List Cl} {z : Int} (hI : SI2 h h2 gn vn V) (hq : q = gn + 1 ∨ q = gn + 2 ∨ q = gn + 3 ∨ q = vn + 5) (hne : gn ≠ vn + 5) : SI2 h (uH h2 q j z) gn vn V := by
  rw [uH_row]
  exact hI.row hq hne
theorem rcv_c {b c o : Nat} {r : SL} {s : Bool} (hk : kd o = c) (hb : b = c) (hs : s = true) : (rcv b (xr (Int.ofNat o) :: r) && s) = true := by
  subst hb
  subst hs
  show (Nat.beq (kd o) b && true) = true
  rw [hk, Nat.beq_refl]
  rfl
section ST
variable {g : GC} {d : Nat} {h : HH} {al : AL} {K : KT}
set_option maxRecDepth 8000 in
theorem c_stand {gn vn : Nat} {V : List Cl} {hn kn : Int} (hg : GN gn) (hv : VN vn) (hgf : GF h gn) (hvf : VF h vn) (hC : VCl h vn V) (eh0 : h gn 0 = hn) (eh1 : h gn 1 = kn) (hsame : h gn 8 = (vn : Int) → K none h al)
    (hK : h gn 8 ≠ (vn : Int) → ∀ h2 : HH, SI2 h h2 gn vn V → GT h2 gn (tbl V hn kn) → K none h2 al) : Call g (d + 4) yGr_stand [xr (Int.ofNat gn), xr (Int.ofNat vn)] h al K := by
  obtain ⟨k0, k1, k2, k3, k4, k5, k6⟩ := hg.k
  obtain ⟨l1, l2, l3, l4, l5, l6⟩ := hg.l g
  obtain ⟨v0, v1, v2, v3, v4, v5⟩ := hv.k
  obtain ⟨m1, m2, m3, m4, m5⟩ := hv.l g
  have hgb := hg.b
  have hvb := hv.b
  obtain ⟨c1, c2, c3, c4, c5, c6⟩ := id hC
  have hFl : (flt V).length ≤ 10 := Nat.le_trans (List.length_filter_le _ _) c4.1
  have hFg : ∀ x ∈ flt V, gdC x := fun x hx => c4.2 x (List.mem_filter.mp hx).1
  have hFw : ∀ x ∈ flt V, x.1 < 3 := fun x hx => of_decide_eq_true (List.mem_filter.mp hx).2
  have hne : gn ≠ vn + 5 := by omega
  -- the last loop: FALL is at most 9
  have loopD : ∀ (m k : Nat) (h2 : HH) (x3 x4 x5 x6 x7 : Option XV), h gn 8 ≠ (vn : Int) → k + m = 190 → SI2 h h2 gn vn V → (∀ l s : Nat, 1 ≤ l → l ≤ 18 → s < 10 → h2 (gn + 1) (10 * l + s) = if 10 * l + s < k then fl V 0 s l hn kn else sumL V 0 s l hn kn) → (∀ w l s : Nat, 1 ≤ w → w < 3 → 1 ≤ l → l ≤ 18 → s < 10 → h2 (gn + 1 + w) (10 * l + s) = tbl V hn kn w l s) →
      XW g (d + 3) mGr_stand K 188 [some (xr (Int.ofNat gn)), some (xr (Int.ofNat vn)), some (xi (k : Int)), x3, x4, x5, x6, x7] [] h2 al := by
    intro m
    induction m with
    | zero =>
      intro k h2 x3 x4 x5 x6 x7 hx hk hI h0 hw
      refine XW_t3 [188] 40 okGr_stand ?_
      refine ite_f (by omega) ?_
      refine hK hx h2 hI fun w l s q1 q2 q3 q4 => ?_
      by_cases e : w = 0
      · subst e
        rw [show gn + 1 + 0 = gn + 1 from rfl, h0 l s q2 q3 q4, if_pos (by omega)]
        rfl
      · exact hw w l s (by omega) q1 q2 q3 q4
    | succ m ih =>
      intro k h2 x3 x4 x5 x6 x7 hx hk hI h0 hw
      have r2 : h2 gn 2 = ((gn + 1 : Nat) : Int) := (hI.2.1 2 (by decide) (by decide) (by decide)).trans hgf.1
      refine XW_t3 [188] 60 okGr_stand ?_
      refine ite_t (by omega) ?_
      refine cond_i (by rw [k0]; rfl) ⟨_, r2, ?_⟩
      refine cond_i (by rw [k0]; rfl) ⟨_, r2, ?_⟩
      refine cond_i (isA50 k1) ⟨⟨by omega, by omega⟩, ?_⟩
      refine c_min ?_
      refine cond_i (by rw [k1]; rfl) ⟨⟨by omega, by omega⟩, ?_⟩
      have := ih (k + 1) (uH h2 (gn + 1) k (if 9 < h2 (gn + 1) k then 9 else h2 (gn + 1) k)) x3 x4 x5 x6 x7 hx (by omega) (hI.up (Or.inl rfl) hne) (fun l s q1 q2 q3 => by
        rw [uH_r]
        by_cases e : 10 * l + s = k
        · rw [if_pos e, if_pos (show 10 * l + s < k + 1 by omega)]
          have := h0 l s q1 q2 q3
          rw [if_neg (by omega), e] at this
          rw [this]
          rfl
        · rw [if_neg e, h0 l s q1 q2 q3]
          by_cases e2 : 10 * l + s < k
          · rw [if_pos e2, if_pos (by omega)]
          · rw [if_neg e2, if_neg (by omega)]) (fun w l s p1 q1 q2 q3 q4 => by
        rw [uH_ne (by omega)]
        exact hw w l s p1 q1 q2 q3 q4)
      rw [← nS k (by omega)] at this
      exact this
  -- clause by clause
  have loopA : ∀ (R D : List Cl) (c e0 : Nat) (h2 : HH) (x3 x4 x5 x6 x7 : Option XV), h gn 8 ≠ (vn : Int) → flt V = D ++ R → c + R.length = (flt V).length → CE h vn R c e0 → (0 < c → h (vn + 3) (c - 1) = (e0 : Int)) → (c = 0 → e0 = 0) → e0 + sgl R ≤ 100 → SI2 h h2 gn vn V → (∀ w l s : Nat, w < 3 → 1 ≤ l → l ≤ 18 → s < 10 → h2 (gn + 1 + w) (10 * l + s) = sumL D w s l hn kn) →
      XW g (d + 3) mGr_stand K 53 [some (xr (Int.ofNat gn)), some (xr (Int.ofNat vn)), some (xi (c : Int)), x3, x4, x5, x6, x7] [] h2 al := by
    intro R
    induction R with
    | nil =>
      intro D c e0 h2 x3 x4 x5 x6 x7 hx hD hc _ _ _ _ hI hT
      rw [List.append_nil] at hD
      rw [List.length_nil] at hc
      have r5 : h2 vn 5 = ((flt V).length : Int) := (hI.1 vn 5 (by omega) (by omega) (by omega) (by omega) (by omega)).trans c1
      refine XW_t3 [53, 188] 40 okGr_stand ?_
      refine cond_i (by rw [v0]; rfl) ⟨_, r5, ?_⟩
      refine ite_f (by omega) ?_
      refine loopD 190 0 h2 x3 x4 x5 x6 x7 hx rfl hI (fun l s q1 q2 q3 => ?_) (fun w l s p1 q1 q2 q3 q4 => ?_)
      · rw [if_neg (by omega)]
        have := hT 0 l s (by omega) q1 q2 q3
        rw [show gn + 1 + 0 = gn + 1 from rfl] at this
        rw [this, ← hD]
        exact sumL_filter (by decide)
      · rw [hT w l s q1 q2 q3 q4, ← hD]
        unfold tbl fl
        rw [if_neg (by omega)]
        exact sumL_filter q1
    | cons t ts ih =>
      intro D c e0 h2 x3 x4 x5 x6 x7 hx hD hc hCE hp hz hs hI hT
      obtain ⟨a1, a2, a3, a4, a5⟩ := hCE
      have hmem : t ∈ flt V := by rw [hD]; exact List.mem_append_right _ (List.mem_cons_self ..)
      have htw : t.1 < 3 := hFw t hmem
      have htg : gdC t := hFg t hmem
      have hDg : ∀ x ∈ D, gdC x := fun x hx => hFg x (by rw [hD]; exact List.mem_append_left _ hx)
      have hlen : c + (ts.length + 1) = (flt V).length := by rw [← hc, List.length_cons]
      have hDl : D.length = c := by
        have := congrArg List.length hD
        rw [List.length_append, List.length_cons] at this
        omega
      have hs2 : e0 + (t.2.2.length + sgl ts) ≤ 100 := hs
      -- the ten states of one left
      have loopC : ∀ (m s0 l0 mk : Nat) (h3 : HH) (x3 : Option XV), s0 + m = 10 → 1 ≤ l0 → l0 ≤ 18 → mk < 1024 → (∀ s : Nat, s < 10 → mk.testBit s = hold t s l0 hn kn) → SI2 h h3 gn vn V →
          (∀ w l s : Nat, w < 3 → 1 ≤ l → l ≤ 18 → s < 10 → h3 (gn + 1 + w) (10 * l + s) = sumL (if w = t.1 ∧ (l < l0 ∨ (l = l0 ∧ s < s0)) then D ++ [t] else D) w s l hn kn) →
          (∀ h4 : HH, SI2 h h4 gn vn V → (∀ w l s : Nat, w < 3 → 1 ≤ l → l ≤ 18 → s < 10 → h4 (gn + 1 + w) (10 * l + s) = sumL (if w = t.1 ∧ l < l0 + 1 then D ++ [t] else D) w s l hn kn) → ∀ x6 x7 : Option XV, XW g (d + 3) mGr_stand K 106 [some (xr (Int.ofNat gn)), some (xr (Int.ofNat vn)), some (xi (c : Int)), x3, some (xr (Int.ofNat (gn + 1 + t.1))), some (xi ((l0 + 1 : Nat) : Int)), x6, x7] [] h4 al) →
          XW g (d + 3) mGr_stand K 133 [some (xr (Int.ofNat gn)), some (xr (Int.ofNat vn)), some (xi (c : Int)), x3, some (xr (Int.ofNat (gn + 1 + t.1))), some (xi (l0 : Int)), some (xi (mk : Int)), some (xi (s0 : Int))] [] h3 al := by
        intro m
        induction m with
        | zero =>
          intro s0 l0 mk h3 x3 hm g1 g2 _ _ hI3 hT3 hgo
          refine XW_t3 [106] 40 okGr_stand ?_
          refine ite_f (by omega) ?_
          have := hgo h3 hI3 (fun w l s q1 q2 q3 q4 => by
            rw [hT3 w l s q1 q2 q3 q4]
            by_cases e : w = t.1 ∧ l < l0 + 1
            · rw [if_pos e, if_pos ⟨e.1, by omega⟩]
            · rw [if_neg e, if_neg (fun q => e ⟨q.1, by omega⟩)]) (some (xi (mk : Int))) (some (xi (s0 : Int)))
          rw [← nS l0 (by omega)] at this
          exact this
        | succ m ihm =>
          intro s0 l0 mk h3 x3 hm g1 g2 hmk hbit hI3 hT3 hgo
          have r1 : h3 vn 1 = ((vn + 2 : Nat) : Int) := (hI3.1 vn 1 (by omega) (by omega) (by omega) (by omega) (by omega)).trans hvf.2.1
          have r2 : h3 (vn + 2) c = (t.2.1 : Int) := (hI3.1 (vn + 2) c (by omega) (by omega) (by omega) (by omega) (by omega)).trans a2
          have ka : kd (gn + 1 + t.1) = 50 := by
            have : t.1 = 0 ∨ t.1 = 1 ∨ t.1 = 2 := by omega
            rcases this with e | e | e <;> rw [e]
            · exact k1
            · exact k2
            · exact k3
          have la : ln g (gn + 1 + t.1) = 190 := by
            have : t.1 = 0 ∨ t.1 = 1 ∨ t.1 = 2 := by omega
            rcases this with e | e | e <;> rw [e]
            · exact l1
            · exact l2
            · exact l3
          have ei : ∀ _ : Unit, wI (wI ((l0 : Int) * 10) + (s0 : Int)) = ((10 * l0 + s0 : Nat) : Int) := fun _ => by
            rw [wI_id (z := (l0 : Int) * 10) (by omega), wI_id (by omega)]; omega
          have hval : h3 (gn + 1 + t.1) (10 * l0 + s0) = sumL D t.1 s0 l0 hn kn := by
            rw [hT3 t.1 l0 s0 htw g1 g2 (by omega), if_neg (by omega)]
          have hb1 := sumL_b (w := t.1) (s := (s0 : Int)) (lf := (l0 : Int)) (i := hn) (p := kn) hDg
          have hn99 := htg.2.1
          refine XW_t3 [133] 60 okGr_stand ?_
          refine ite_t (by omega) ?_
          refine cond_i (isA50 ka) ⟨⟨by rw [ei ()]; omega, by rw [ei (), la]; omega⟩, ?_⟩
          refine cond_i (by rw [v0]; rfl) ⟨_, r1, ?_⟩
          refine cond_i (isA50 v2) ⟨⟨by omega, by omega⟩, ?_⟩
          refine cond_i (by rw [ka]; rfl) ⟨⟨by rw [ei ()]; omega, by rw [ei (), la]; omega⟩, ?_⟩
          have key : ∀ z : Int, z = sumL (D ++ [t]) t.1 s0 l0 hn kn → XW g (d + 3) mGr_stand K 133 [some (xr (Int.ofNat gn)), some (xr (Int.ofNat vn)), some (xi (c : Int)), x3, some (xr (Int.ofNat (gn + 1 + t.1))), some (xi (l0 : Int)), some (xi (mk : Int)), some (xi (wI ((s0 : Int) + 1)))] [] (uH h3 (gn + 1 + t.1) (wI (wI ((l0 : Int) * 10) + (s0 : Int))).toNat z) al := by
            intro z hz'
            rw [ei (), nS s0 (by omega)]
            refine ihm (s0 + 1) l0 mk (uH h3 (gn + 1 + t.1) (10 * l0 + s0) z) x3 (by omega) g1 g2 hmk hbit (hI3.up (by omega) hne) (fun w l s q1 q2 q3 q4 => ?_) hgo
            by_cases e : w = t.1
            · subst e
              rw [uH_r]
              by_cases e2 : 10 * l + s = 10 * l0 + s0
              · have : l = l0 ∧ s = s0 := by omega
                obtain ⟨rfl, rfl⟩ := this
                rw [if_pos rfl, if_pos ⟨rfl, by omega⟩]
                exact hz'
              · rw [if_neg e2, hT3 t.1 l s q1 q2 q3 q4]
                by_cases e3 : l < l0 ∨ (l = l0 ∧ s < s0)
                · rw [if_pos ⟨rfl, e3⟩, if_pos ⟨rfl, by omega⟩]
                · rw [if_neg (fun q => e3 q.2), if_neg (fun q => by omega)]
            · rw [uH_ne (by omega), hT3 w l s q1 q2 q3 q4, if_neg (fun q => e q.1), if_neg (fun q => e q.1)]
          refine key _ ?_
          show wI (h3 (gn + 1 + t.1) (wI (wI ((l0 : Int) * 10) + (s0 : Int))).toNat + wI (aI (shrI (mk : Int) (s0 : Int)) 1 * h3 (vn + 2) c)) = _
          rw [ei (), bit_n hmk (by omega), r2]
          rw [show ((((10 * l0 + s0 : Nat) : Int)).toNat) = 10 * l0 + s0 from rfl, hval, sumL_app]
          have hx2 : sumL [t] t.1 s0 l0 hn kn = (if t.1 = t.1 ∧ hold t s0 l0 hn kn = true then (t.2.1 : Int) else 0) + 0 := rfl
          rw [hx2, hbit s0 (by omega)]
          have hD2 : sumL D t.1 s0 l0 hn kn ≤ 900 := by omega
          cases hold t s0 l0 hn kn with
          | true =>
            rw [if_pos rfl, if_pos ⟨rfl, rfl⟩, Int.one_mul, wI_id (z := (t.2.1 : Int)) (by omega), wI_id (by omega)]
            omega
          | false =>
            rw [if_neg (by decide), if_neg (fun q => absurd q.2 (by decide)), Int.zero_mul, wI_id (z := 0) (by omega), wI_id (by omega)]
            rfl
      -- left by left
      have loopB : ∀ (m l0 : Nat) (h3 : HH) (x3 x6 x7 : Option XV), l0 + m = 19 → 1 ≤ l0 → SI2 h h3 gn vn V →
          (∀ w l s : Nat, w < 3 → 1 ≤ l → l ≤ 18 → s < 10 → h3 (gn + 1 + w) (10 * l + s) = sumL (if w = t.1 ∧ l < l0 then D ++ [t] else D) w s l hn kn) →
          XW g (d + 3) mGr_stand K 106 [some (xr (Int.ofNat gn)), some (xr (Int.ofNat vn)), some (xi (c : Int)), x3, some (xr (Int.ofNat (gn + 1 + t.1))), some (xi (l0 : Int)), x6, x7] [] h3 al := by
        intro m
        induction m with
        | zero =>
          intro l0 h3 x3 x6 x7 hm g1 hI3 hT3
          refine XW_t3 [53] 40 okGr_stand ?_
          refine ite_t (by omega) ?_
          have := ih (D ++ [t]) (c + 1) (e0 + t.2.2.length) h3 x3 (some (xr (Int.ofNat (gn + 1 + t.1)))) (some (xi (l0 : Int))) x6 x7 hx (by rw [hD, List.append_assoc]; rfl) (by omega) a5 (fun _ => a3) (fun q => absurd q (by omega)) (by omega) hI3 (fun w l s q1 q2 q3 q4 => by
            rw [hT3 w l s q1 q2 q3 q4]
            by_cases e : w = t.1
            · rw [if_pos ⟨e, by omega⟩]
            · rw [if_neg (fun q => e q.1), sumL_app]
              show _ = _ + ((if t.1 = w ∧ _ then (t.2.1 : Int) else 0) + 0)
              rw [if_neg (fun q => e q.1.symm)]
              omega)
          rw [← nS c (by omega)] at this
          exact this
        | succ m ihm =>
          intro l0 h3 x3 x6 x7 hm g1 hI3 hT3
          have f0 : h3 gn 0 = hn := (hI3.2.1 0 (by decide) (by decide) (by decide)).trans eh0
          have f1 : h3 gn 1 = kn := (hI3.2.1 1 (by decide) (by decide) (by decide)).trans eh1
          have fv : ∀ k, h3 vn k = h vn k := fun k => hI3.1 vn k (by omega) (by omega) (by omega) (by omega) (by omega)
          have fw : ∀ a k, vn + 1 ≤ a → a ≤ vn + 4 → h3 a k = h a k := fun a k q1 q2 => hI3.1 a k (by omega) (by omega) (by omega) (by omega) (by omega)
          refine XW_t3 [106, 133] 60 okGr_stand ?_
          refine ite_f (by omega) ?_
          refine cond_i (by rw [k0]; rfl) ⟨_, f0, ?_⟩
          refine cond_i (by rw [k0]; rfl) ⟨_, f1, ?_⟩
          refine cond_i (rcv_c v0 rfl rfl) ?_
          refine c_statesIn (e0 := e0) (R := t.2.2) hv (hvf.fr fv) ((fw _ _ (by omega) (by omega)).trans a3) (fun q => (fw _ _ (by omega) (by omega)).trans (hp q)) hz (by omega) (by omega) (fun j hj => (fw _ _ (by omega) (by omega)).trans (a4 j hj)) (htg.2.2.1 htw) fun mk W hmk hbit => ?_
          refine loopC 10 0 l0 mk (rowU h3 (vn + 5) W) x3 rfl g1 (by omega) hmk hbit (hI3.row (by omega) hne) (fun w l s q1 q2 q3 q4 => ?_) (fun h4 hI4 hT4 y6 y7 => ihm (l0 + 1) h4 x3 y6 y7 (by omega) (by omega) hI4 hT4)
          rw [rowU_ne (by omega), hT3 w l s q1 q2 q3 q4]
          by_cases e : w = t.1 ∧ l < l0
          · rw [if_pos e, if_pos ⟨e.1, Or.inl e.2⟩]
          · rw [if_neg e, if_neg (fun q => e ⟨q.1, by omega⟩)]
      have r0 : h2 vn 0 = ((vn + 1 : Nat) : Int) := (hI.1 vn 0 (by omega) (by omega) (by omega) (by omega) (by omega)).trans hvf.1
      have r5 : h2 vn 5 = ((flt V).length : Int) := (hI.1 vn 5 (by omega) (by omega) (by omega) (by omega) (by omega)).trans c1
      have rw1 : h2 (vn + 1) c = (t.1 : Int) := (hI.1 (vn + 1) c (by omega) (by omega) (by omega) (by omega) (by omega)).trans a1
      have q2 : h2 gn 2 = ((gn + 1 : Nat) : Int) := (hI.2.1 2 (by decide) (by decide) (by decide)).trans hgf.1
      have q3 : h2 gn 3 = ((gn + 2 : Nat) : Int) := (hI.2.1 3 (by decide) (by decide) (by decide)).trans hgf.2.1
      have q4 : h2 gn 4 = ((gn + 3 : Nat) : Int) := (hI.2.1 4 (by decide) (by decide) (by decide)).trans hgf.2.2.1
      have go : ∀ x3, XW g (d + 3) mGr_stand K 106 [some (xr (Int.ofNat gn)), some (xr (Int.ofNat vn)), some (xi (c : Int)), x3, some (xr (Int.ofNat (gn + 1 + t.1))), some (xi ((1 : Nat) : Int)), x6, x7] [] h2 al := fun x3 => loopB 18 1 h2 x3 x6 x7 rfl (by omega) hI (fun w l s q1 q2 q3 q4 => by
        rw [if_neg (fun q => by omega)]
        exact hT w l s q1 q2 q3 q4)
      refine XW_t3 [106] 60 okGr_stand ?_
      refine cond_i (by rw [v0]; rfl) ⟨_, r5, ?_⟩
      refine ite_t (by omega) ?_
      refine ite_t (by omega) ?_
      refine cond_i (by rw [v0]; rfl) ⟨_, r0, ?_⟩
      refine cond_i (isA50 v1) ⟨⟨by omega, by omega⟩, ?_⟩
      refine ite_i (fun z => ?_) (fun z => ?_)
      · have z2 : h2 (vn + 1) c = 0 := z
        refine cond_i (by rw [k0]; rfl) ⟨_, q2, ?_⟩
        have := go (some (xi (h2 (vn + 1) c)))
        rw [show t.1 = 0 by omega] at this
        exact this
      · have z2 : ¬ h2 (vn + 1) c = 0 := z
        refine ite_i (fun z => ?_) (fun z => ?_)
        · have z3 : h2 (vn + 1) c = 1 := z
          refine cond_i (by rw [k0]; rfl) ⟨_, q3, ?_⟩
          have := go (some (xi (h2 (vn + 1) c)))
          rw [show t.1 = 1 by omega] at this
          exact this
        · have z3 : ¬ h2 (vn + 1) c = 1 := z
          refine cond_i (by rw [k0]; rfl) ⟨_, q4, ?_⟩
          have := go (some (xi (h2 (vn + 1) c)))
          rw [show t.1 = 2 by omega] at this
          exact this
  refine cof ocGr_stand rfl ?_
  refine XW_t3 [53] 60 okGr_stand ?_
  refine cond_i (by rw [k0]; rfl) ⟨_, rfl, ?_⟩
  refine cond_i (by show (Nat.ble (kd vn) 79 || _) = true; rw [v0]; rfl) ?_
  refine ite_i (fun e => ?_) (fun e => ?_)
  · exact hsame e.symm
  · have hx : h gn 8 ≠ (vn : Int) := fun q => e q.symm
    have hvne : (uH h gn 8 (vn : Int)) vn 7 = h vn 7 := uH_ne (by omega)
    refine cond_i (by rw [k0]; rfl) ⟨8, rfl, ?_⟩
    refine cond_i (by rw [v0]; rfl) ⟨_, hvne.trans c2, ?_⟩
    refine cond_i (by rw [k0]; rfl) ⟨9, rfl, ?_⟩
    refine cond_i (by rw [k0]; rfl) ⟨11, rfl, ?_⟩
    have u : ∀ k, k ≠ 8 → k ≠ 9 → k ≠ 11 → uH (uH (uH h gn 8 (vn : Int)) gn 9 (lastL V 3 0)) gn 11 (-1) gn k = h gn k := fun k q1 q2 q3 => by
      rw [uH_ne (by omega), uH_ne (by omega), uH_ne (by omega)]
    have u2 := (u 2 (by decide) (by decide) (by decide)).trans hgf.1
    have u3 := (u 3 (by decide) (by decide) (by decide)).trans hgf.2.1
    have u4 := (u 4 (by decide) (by decide) (by decide)).trans hgf.2.2.1
    refine cond_i (by rw [k0]; rfl) ⟨_, u2, ?_⟩
    refine c_fillI k1 (by rw [l1]; decide) fun f1 hf1 _ => ?_
    refine cond_i (by rw [k0]; rfl) ⟨_, (rowU_ne (show gn ≠ gn + 1 by omega)).trans u3, ?_⟩
    refine c_fillI k2 (by rw [l2]; decide) fun f2 hf2 _ => ?_
    refine cond_i (by rw [k0]; rfl) ⟨_, (rowU_ne (show gn ≠ gn + 2 by omega)).trans ((rowU_ne (show gn ≠ gn + 1 by omega)).trans u4), ?_⟩
    refine c_fillI k3 (by rw [l3]; decide) fun f3 hf3 _ => ?_
    refine loopA (flt V) [] 0 0 _ none none none none none hx rfl (Nat.zero_add _) c6 (fun q => absurd q (by omega)) (fun _ => rfl) (by omega) ⟨fun a k q1 q2 q3 q4 q5 => ?_, fun k q1 q2 q3 => ?_, ?_, ?_, ?_⟩ (fun w l s q1 q2 q3 q4 => ?_)
    · rw [rowU_ne q4, rowU_ne q3, rowU_ne q2, uH_ne (by omega), uH_ne (by omega), uH_ne (by omega)]
    · rw [rowU_ne (by omega), rowU_ne (by omega), rowU_ne (by omega), uH_ne (by omega), uH_ne (by omega), uH_ne (by omega)]
    · rw [rowU_ne (by omega), rowU_ne (by omega), rowU_ne (by omega), uH_ne (by omega), uH_ne (by omega), uH_at]; rfl
    · rw [rowU_ne (by omega), rowU_ne (by omega), rowU_ne (by omega), uH_ne (by omega), uH_at]
    · rw [rowU_ne (by omega), rowU_ne (by omega), rowU_ne (by omega), uH_at]
    · have : w = 0 ∨ w = 1 ∨ w = 2 := by omega
      show _ = (0 : Int)
      rcases this with rfl | rfl | rfl
      · rw [rowU_ne (by omega), rowU_ne (by omega), show gn + 1 + 0 = gn + 1 from rfl, rowU_at]
        exact hf1 _ (by rw [l1]; omega)
      · rw [rowU_ne (by omega), show gn + 1 + 1 = gn + 2 from rfl, rowU_at]
        exact hf2 _ (by rw [l2]; omega)
      · rw [show gn + 1 + 2 = gn + 3 from rfl, rowU_at]
        exact hf3 _ (by rw [l3]; omega)
end ST
