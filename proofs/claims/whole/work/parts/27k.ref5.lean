-- the reference reads a text: all of it
/-- what stands of the clauses so far -/
def VL (h : HH) (f : Nat) (V : List Cl) : Prop := ∀ j, j < V.length → MCl h (10 * f + j) (V.getD j c00) ∧ ((V.getD j c00).1 < 3 → h 135 (10 * f + j) ≤ ((100 * f + sgl V : Nat) : Int))
theorem VL.add {h h2 : HH} {f : Nat} {V : List Cl} {c : Cl} (hf4 : f ≤ 4) (hl : V.length < 10) (hs : sgl V + c.2.2.length ≤ 100) (hV : VL h f V) (hg : FG (10 * f + V.length) (100 * f + sgl V) h h2) (h132 : h2 132 (10 * f + V.length) = (c.1 : Int)) (h133 : h2 133 (10 * f + V.length) = (c.2.1 : Int)) (h3 : c.1 < 3 → h2 134 (10 * f + V.length) = ((100 * f + sgl V : Nat) : Int) ∧ h2 135 (10 * f + V.length) = ((100 * f + sgl V + c.2.2.length : Nat) : Int) ∧ ∀ j, j < c.2.2.length → h2 136 (100 * f + sgl V + j) = mS (c.2.2.getD j z4)) : VL h2 f (V ++ [c]) := by
  intro j hj
  rw [List.length_append] at hj
  have hj : j < V.length + 1 := hj
  rw [sgl_app]
  by_cases q : j = V.length
  · subst q
    have e : (V ++ [c]).getD V.length c00 = c := by
      rw [List.getD_eq_getElem?_getD, List.getElem?_append_right (Nat.le_refl _), Nat.sub_self]
      rfl
    rw [e]
    refine ⟨⟨h132, h133, fun q2 => ?_⟩, fun q2 => ?_⟩
    · obtain ⟨a1, a2, a3⟩ := h3 q2
      exact ⟨100 * f + sgl V, by omega, a1, a2, a3⟩
    · obtain ⟨a1, a2, a3⟩ := h3 q2
      rw [a2]
      omega
  · have e : (V ++ [c]).getD j c00 = V.getD j c00 := by
      rw [List.getD_eq_getElem?_getD, List.getElem?_append_left (by omega), ← List.getD_eq_getElem?_getD]
    rw [e]
    obtain ⟨⟨b1, b2, b3⟩, b4⟩ := hV j (by omega)
    have u : ∀ a, 132 ≤ a → a ≤ 135 → h2 a (10 * f + j) = h a (10 * f + j) := fun a q1 q2 => hg a _ (by omega) (by omega) (by omega) (by omega)
    refine ⟨⟨(u 132 (by decide) (by decide)).trans b1, (u 133 (by decide) (by decide)).trans b2, fun q2 => ?_⟩, fun q2 => ?_⟩
    · obtain ⟨a, a1, a2, a3, a4⟩ := b3 q2
      have b5 := b4 q2
      rw [a3] at b5
      exact ⟨a, a1, (u 134 (by decide) (by decide)).trans a2, (u 135 (by decide) (by decide)).trans a3, fun i hi => (hg 136 _ (by omega) (by decide) (by omega) (by omega)).trans (a4 i hi)⟩
    · rw [u 135 (by decide) (by decide)]
      have := b4 q2
      omega
section RF5
variable {g : GC} {d : Nat} {h : HH} {al : AL} {K : KT} {ch : Nat → Int} {N f : Nat}
set_option maxRecDepth 8000 in
theorem c_goesText (hW : Wd h) (hT : TXm ch N h) (hf4 : f ≤ 4) (h138 : ∀ k : Nat, k < 20 → h 138 k = leT.getD k 0)
    (hok : (txS ch N 10 0 []).1 = true → ∀ h2 : HH, FX f h h2 → h2 131 f = ((txS ch N 10 0 []).2.2.length : Int) → VL h2 f (txS ch N 10 0 []).2.2 → K (some (xi 1)) h2 al)
    (hno : (txS ch N 10 0 []).1 = false → ∀ h2 : HH, FX f h h2 → h2 120 19 = ((txS ch N 10 0 []).2.1 : Int) → K (some (xi 0)) h2 al) : Call g (d + 7) yMo_goesText [xr 120, xi (f : Int)] h al K := by
  have t4 := hT.2.2.2
  have hN := hT.2.1
  generalize htot : txS ch N 10 0 [] = tot at hok hno
  have loop : ∀ (m n p : Nat) (V : List Cl) (h2 : HH), n + m = 10 → V.length = n → FX f h h2 → h2 120 19 = (p : Int) → p ≤ N → h2 120 29 = ((100 * f + sgl V : Nat) : Int) → sgl V ≤ p → VL h2 f V → 1 ≤ m → txS ch N m p V = tot → XW g (d + 6) mMo_goesText K 15 [some (xr 120), some (xi (f : Int)), some (xi (n : Int))] [] h2 al := by
    intro m
    induction m with
    | zero => intro n p V h2 _ _ _ _ _ _ _ _ hm; omega
    | succ m ih =>
      intro n p V h2 hn hVn hf e19 hp e29 hs hV _ ht
      have ht : (if (clS ch p).1 = true then (if N ≤ (clS ch p).2.1 then (true, (clS ch p).2.1, V ++ [(clS ch p).2.2]) else if m = 0 then (false, (clS ch p).2.1, V) else if ch (clS ch p).2.1 = 59 then txS ch N m ((clS ch p).2.1 + 1) (V ++ [(clS ch p).2.2]) else (false, (clS ch p).2.1, V)) else (false, (clS ch p).2.1, V)) = tot := ht
      obtain ⟨a1, a2, a3⟩ := clS_ok t4 hN hp
      have eq : ∀ _ : Unit, wI (wI (10 * (f : Int)) + (n : Int)) = ((10 * f + n : Nat) : Int) := fun _ => by
        rw [wI_id (z := 10 * (f : Int)) (by omega), wI_id (by omega)]
        omega
      obtain ⟨n1, en1⟩ : ∃ n1, n1 = n + 1 := ⟨_, rfl⟩
      have ew : ∀ _ : Unit, wI ((n : Int) + 1) = (n1 : Int) := fun _ => by rw [en1]; exact nS n (by omega)
      have hW2 := hf.wd hW
      refine XW_t4 [22] 60 okMo_goesText ?_
      show XW g (d + 6) mMo_goesText K 22 [some (xr 120), some (xi (f : Int)), some (xi (n : Int))] [xi (wI (wI (10 * (f : Int)) + (n : Int))), xr 120] h2 al
      rw [eq ()]
      refine XW_t4 [33] 60 okMo_goesText ?_
      refine c_takesClause (f := f) (v0 := sgl V) (p := p) (q := 10 * f + n) hW2 (hT.fx hf) e19 hp e29 hs hf4 (by omega) (fun k hk => (hf _ _ (by omega) (by decide) (by omega) (by omega) (by omega)).trans (h138 k hk)) (fun q h3 g1 g2 g3 g4 g5 g6 => ?_) (fun q h3 g1 g2 => ?_)
      · rw [if_pos q] at ht
        obtain ⟨-, b2⟩ := a3 q
        have hs2 : sgl (V ++ [(clS ch p).2.2]) ≤ (clS ch p).2.1 := by rw [sgl_app]; omega
        have hV3 : VL h3 f (V ++ [(clS ch p).2.2]) := by
          subst hVn
          exact VL.add hf4 (by omega) (by omega) hV g1 g4 g5 g6
        have hf3 : FX f h h3 := hf.trans (g1.fx (by omega) (by omega))
        have hf4' : FX f h (uH h3 131 f (n1 : Int)) := fun a k e1 e2 e3 e4 e5 => by
          rw [uH_ne e5]
          exact hf3 a k e1 e2 e3 e4 e5
        have hV4 : VL (uH h3 131 f (n1 : Int)) f (V ++ [(clS ch p).2.2]) := fun j hj => by
          obtain ⟨⟨b1, b2, b3⟩, b4⟩ := hV3 j hj
          have u : ∀ a k, a ≠ 131 → uH h3 131 f (n1 : Int) a k = h3 a k := fun a k e => uH_ne fun q => e q.1
          refine ⟨⟨(u _ _ (by decide)).trans b1, (u _ _ (by decide)).trans b2, fun q2 => ?_⟩, fun q2 => ?_⟩
          · obtain ⟨a, x1, x2, x3, x4⟩ := b3 q2
            exact ⟨a, x1, (u _ _ (by decide)).trans x2, (u _ _ (by decide)).trans x3, fun i hi => (u _ _ (by decide)).trans (x4 i hi)⟩
          · rw [u _ _ (by decide)]
            exact b4 q2
        have e131 : uH h3 131 f (n1 : Int) 131 f = (n1 : Int) := uH_at
        have e19' : uH h3 131 f (n1 : Int) 120 19 = ((clS ch p).2.1 : Int) := (uH_ne (by omega)).trans g2
        have e18' : uH h3 131 f (n1 : Int) 120 18 = (N : Int) := (hf4' _ _ (by omega) (by decide) (by omega) (by omega) (by omega)).trans hT.1
        have e29' : uH h3 131 f (n1 : Int) 120 29 = ((100 * f + sgl (V ++ [(clS ch p).2.2]) : Nat) : Int) := by
          rw [uH_ne (by omega), g3, sgl_app]
          congr 1
          omega
        have hl2 : (V ++ [(clS ch p).2.2]).length = n1 := by rw [List.length_append, hVn, en1]; rfl
        show XW g (d + 6) mMo_goesText K 33 [some (xr 120), some (xi (f : Int)), some (xi (wI ((n : Int) + 1)))] [] h3 al
        rw [ew ()]
        have k40 : XW g (d + 6) mMo_goesText K 40 [some (xr 120), some (xi (f : Int)), some (xi (n1 : Int))] [] (uH h3 131 f (n1 : Int)) al := by
          generalize uH h3 131 f (n1 : Int) = h5 at hf4' hV4 e131 e19' e18' e29' ⊢
          have hW5 := hf4'.wd hW
          have hW5' := hW5
          by_cases q2 : N ≤ (clS ch p).2.1
          · rw [if_pos q2] at ht
            subst ht
            have t := hok rfl h5 hf4' (by rw [e131]; exact congrArg (fun x : Nat => (x : Int)) hl2.symm) hV4
            obtain ⟨h5', rfl⟩ := hW5
            refine XW_t4 [53] 60 okMo_goesText ?_
            refine ite_t (show wr h5' 120 19 = wr h5' 120 18 by rw [e19', e18']; omega) ?_
            exact ⟨Or.inr rfl, t⟩
          · rw [if_neg q2] at ht
            have k68 : (false, (clS ch p).2.1, V) = tot → K (some (xi 0)) h5 al := fun ht => by
              subst ht
              exact hno rfl h5 hf4' e19'
            have k53 : XW g (d + 6) mMo_goesText K 53 [some (xr 120), some (xi (f : Int)), some (xi (n1 : Int))] [] h5 al := by
              by_cases q3 : m = 0
              · rw [if_pos q3] at ht
                have t := k68 ht
                refine XW_t4 [15] 60 okMo_goesText ?_
                refine ite_t (show (n1 : Int) = 10 by omega) ?_
                exact ⟨Or.inl rfl, t⟩
              · rw [if_neg q3] at ht
                refine XW_t4 [15] 60 okMo_goesText ?_
                refine ite_f (show ¬ (n1 : Int) = 10 by omega) ?_
                refine c_takes (by decide) hW5 (hT.fx hf4') e19' (fun q4 h6 hf6 hp6 => ?_) (fun q4 => ?_)
                · rw [if_pos q4] at ht
                  have hg6 : FG (10 * f + 9) (100 * f + 200) h5 h6 := hf6.fg
                  have hV6 : VL h6 f (V ++ [(clS ch p).2.2]) := fun j hj => by
                    obtain ⟨⟨b1, b2, b3⟩, b4⟩ := hV4 j hj
                    have u : ∀ a k, a ≠ 120 → h6 a k = h5 a k := fun a k e => hf6 a k fun q => e q.1
                    refine ⟨⟨(u _ _ (by decide)).trans b1, (u _ _ (by decide)).trans b2, fun q2 => ?_⟩, fun q2 => ?_⟩
                    · obtain ⟨a, x1, x2, x3, x4⟩ := b3 q2
                      exact ⟨a, x1, (u _ _ (by decide)).trans x2, (u _ _ (by decide)).trans x3, fun i hi => (u _ _ (by decide)).trans (x4 i hi)⟩
                    · rw [u _ _ (by decide)]
                      exact b4 q2
                  exact ih n1 _ _ h6 (by omega) hl2 (hf4'.trans (hf6.fg.fx (q := 10 * f) (s0 := 100 * f) (Nat.le_refl _) (Nat.le_refl _))) hp6 (by omega) ((hf6 _ _ (by omega)).trans e29') (by omega) hV6 (by omega) ht
                · rw [if_neg q4] at ht
                  exact ⟨Or.inl rfl, k68 ht⟩
            obtain ⟨h5', rfl⟩ := hW5
            refine XW_t4 [53] 60 okMo_goesText ?_
            refine ite_f (show ¬ wr h5' 120 19 = wr h5' 120 18 by rw [e19', e18']; omega) ?_
            exact k53
        have hW3 := hf3.wd hW
        obtain ⟨h3', rfl⟩ := hW3
        refine XW_t4 [40] 60 okMo_goesText ?_
        refine ⟨f, rfl, by show f < 5; omega, ?_⟩
        exact k40
      · rw [if_neg (by rw [q]; decide)] at ht
        subst ht
        exact ⟨Or.inl rfl, hno rfl h3 (hf.trans (g1.fx (by omega) (by omega))) g2⟩
  have e100 : wI (100 * (f : Int)) = ((100 * f + sgl [] : Nat) : Int) := by
    rw [wI_id (by omega)]
    show 100 * (f : Int) = ((100 * f + 0 : Nat) : Int)
    omega
  have hf1 : FX f h (uH (uH h 120 19 0) 120 29 (wI (100 * (f : Int)))) := fun a k e1 e2 e3 e4 e5 => by
    rw [uH_ne (by omega), uH_ne (by omega)]
  have t := loop 10 0 0 [] (uH (uH h 120 19 0) 120 29 (wI (100 * (f : Int)))) rfl rfl hf1 (by rw [uH_ne (by omega), uH_at]; rfl) (Nat.zero_le _) (by rw [uH_at]; exact e100) (Nat.le_refl _) (fun j hj => absurd hj (Nat.not_lt_zero _)) (by decide) htot
  clear e100
  obtain ⟨h0, rfl⟩ := id hW
  refine cof ocMo_goesText rfl (XW_t4 [15] 60 okMo_goesText ?_)
  exact t
end RF5
