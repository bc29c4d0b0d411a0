-- the image
section Q17
variable {g : GC} {d : Nat} {h : HH} {al : AL} {K : KT}
/-- a row copied -/
theorem c_copy {a b n : Nat} (ka : isA 0 a = true) (kb : kd b = 50) (hl : ln g b = n) (hl2 : n ≤ ln g a) (hab : a ≠ b) (hn : n ≤ 1000) (hK : ∀ h2 : HH, (∀ q j, q ≠ b → h2 q j = h q j) → (∀ j, j < n → h2 b j = h a j) → K none h2 al) : Call g (d + 1) yMo_copy [xr 120, xr (Int.ofNat a), xr (Int.ofNat b)] h al K := by
  have loop : ∀ (m j : Nat) (h2 : HH), j + m = n → (∀ q i, q ≠ b → h2 q i = h q i) → (∀ i, i < j → h2 b i = h a i) → XW g d mMo_copy K 2 [some (xr 120), some (xr (Int.ofNat a)), some (xr (Int.ofNat b)), some (xi (j : Int))] [] h2 al := by
    intro m
    induction m with
    | zero =>
      intro j h2 hj fa fb
      refine XW_t4 [2] 60 okMo_copy ?_
      refine cond_i (by rw [kb]; rfl) ?_
      refine ite_f (show ¬ (j : Int) < (ln g b : Int) by rw [hl]; omega) ?_
      exact hK h2 fa fun i hi => fb i (by omega)
    | succ m ih =>
      intro j h2 hj fa fb
      have t := ih (j + 1) (uH h2 b j (h a j)) (by omega) (fun q i e => by rw [uH_ne (by omega)]; exact fa q i e) (fun i hi => by
        rw [uH_r]
        by_cases e : i = j
        · rw [if_pos e, e]
        · rw [if_neg e]; exact fb i (by omega))
      rw [← nS j (by omega)] at t
      refine XW_t4 [2] 60 okMo_copy ?_
      refine cond_i (by rw [kb]; rfl) ?_
      refine ite_t (show (j : Int) < (ln g b : Int) by rw [hl]; omega) ?_
      refine cond_i ka ⟨j, rfl, by omega, _, fa a j hab, ?_⟩
      refine cond_i (by rw [kb]; rfl) ⟨j, rfl, by omega, ?_⟩
      exact t
  refine cof ocMo_copy rfl (XW_t4 [2] 60 okMo_copy ?_)
  exact loop n 0 h (by omega) (fun _ _ _ => rfl) (fun i hi => absurd hi (by omega))
/-- one world told as another is told -/
theorem RW.cg {wS wH wU wL wB st ow on pu lo bo wS2 wH2 wU2 wL2 wB2 st2 ow2 on2 pu2 lo2 bo2 : Nat} {cl cr cy cl2 cb lf rd yr lt bk nH nP : Int} {h h2 : HH} (hR : RW wS wH wU wL wB st ow on pu lo bo cl cr cy cl2 cb lf rd yr lt bk nH nP h)
    (e1 : ∀ k, k < 6 → h2 wS2 k = h wS k ∧ h2 wH2 k = h wH k ∧ h2 wU2 k = h wU k ∧ h2 wL2 k = h wL k) (e2 : ∀ k, k < 12 → h2 wB2 k = h wB k) (e3 : ∀ k, k < 6 → h2 st2 k = h st k ∧ h2 ow2 k = h ow k ∧ h2 on2 k = h on k ∧ h2 pu2 k = h pu k ∧ h2 lo2 k = h lo k) (e4 : ∀ k, k < 12 → h2 bo2 k = h bo k) :
    RW wS2 wH2 wU2 wL2 wB2 st2 ow2 on2 pu2 lo2 bo2 cl cr cy cl2 cb lf rd yr lt bk nH nP h2 := by
  obtain ⟨r1, r2, r3, r4, r5, r6, r7, r8, r9, r10, r11⟩ := hR
  refine ⟨fun k hk => ?_, fun k hk => ?_, fun j hj hj2 => ?_, fun p q hp hq hp2 hq2 => ?_, fun k hk => ?_, r6, fun k hk => ?_, fun p q hp hq hp2 hq2 => ?_, r9, fun k hk => ?_, r11⟩
  · rw [(e1 k hk).1, (e3 k hk).1]; exact r1 k hk
  · rw [(e1 k hk).2.1, (e3 k hk).2.2.1]; exact r2 k hk
  · rw [(e3 j hj).2.1]
    rcases r3 j hj hj2 with ⟨x1, x2⟩ | ⟨p, x1, x2, x3, x4⟩
    · exact Or.inl ⟨x1, fun p hp hp2 => by rw [(e3 p hp).2.2.1]; exact x2 p hp hp2⟩
    · exact Or.inr ⟨p, x1, x2, x3, by rw [(e3 p x1).2.2.1]; exact x4⟩
  · rw [(e3 p hp).2.2.1, (e3 q hq).2.2.1]; exact r4 p q hp hq hp2 hq2
  · rw [(e1 k hk).2.2.1, (e3 k hk).2.2.2.1]; exact r5 k hk
  · rw [(e1 k hk).2.2.2, (e3 k hk).2.2.2.2]; exact r7 k hk
  · rw [(e3 p hp).2.2.2.2, (e3 q hq).2.2.2.2]; exact r8 p q hp hq hp2 hq2
  · rw [e2 k hk, e4 k hk]; exact r10 k hk
set_option maxRecDepth 20000 in
theorem s_image (hS : Sim h al) : Call g (d + 9) yBy_image [xr 0] h al (fun v h1 al1 => Call g (d + 9) yMo_image [xr 120] h1 al1 (Ok2 v)) := by
  obtain ⟨hW, hN, hI, hH, hT, hP, hC0, hKo, hV⟩ := id hS
  obtain ⟨n1, n2, hR⟩ := id hN
  have hR2 := hR
  obtain ⟨r1, r2, r3, r4, r5, r6, r7, r8, r9, r10, r11, r12, r13⟩ := hR2
  have hv := hV.1
  obtain ⟨h0, rfl⟩ := id hW
  refine cof ocBy_image rfl (XW_t4 [] 100 okBy_image ?_)
  refine c_become_in hW fun h2 hb hW2 => ?_
  obtain ⟨b1, b2, b3, b5, b6, b7, b8, b9, b10⟩ := hb
  have F1 : ∀ a k, ¬ (31 ≤ a ∧ a ≤ 35) → ¬ (a = 30 ∧ 5 ≤ k ∧ k ≤ 10) → ¬ (a = 0 ∧ k = 4) → (uH h2 0 4 1) a k = wr h0 a k := fun a k q1 q2 q3 => (uH_ne q3).trans (b1 a k (by omega) (by omega))
  have I1 : ∀ k, ¬ (k = 4) → True := fun _ _ => trivial
  clear I1
  have hW3 : Wd (uH h2 0 4 1) := hW2.up (by decide)
  have e04 : (uH h2 0 4 1) 0 4 = 1 := uH_at
  have g30 : ∀ k, (uH h2 0 4 1) 30 k = h2 30 k := fun k => uH_ne (by omega)
  have g3x : ∀ a k, 31 ≤ a → (uH h2 0 4 1) a k = h2 a k := fun a k q => uH_ne (by omega)
  have key : Call g (d + 9) yMo_image [xr 120] (uH h2 0 4 1) al (Ok2 (some (xi (wr h0 10 9)))) := by
    generalize uH h2 0 4 1 = h3 at F1 hW3 e04 g30 g3x ⊢
    -- the numbers of the reference
    have N : ∀ (h4 : HH), (∀ a k, a ≠ 120 → h4 a k = h3 a k) → (∀ k, ¬ (54 ≤ k ∧ k ≤ 62) → h4 120 k = h3 120 k) → h4 120 54 = 1 → h4 120 55 = h3 120 17 → h4 120 56 = h3 120 0 → h4 120 57 = h3 120 1 → h4 120 58 = h3 120 2 → h4 120 59 = h3 120 3 → h4 120 60 = h3 120 4 → h4 120 61 = h3 120 5 → h4 120 62 = h3 120 6 → Wd h4 → XW g (d + 8) mMo_image (Ok2 (some (xi (wr h0 10 9)))) 69 [some (xr 120)] [] h4 al := by
      intro h4 fa fb f54 f55 f56 f57 f58 f59 f60 f61 f62 hW4
      have f120 : ∀ k, ¬ (54 ≤ k ∧ k ≤ 62) → h4 120 k = wr h0 120 k := fun k q => (fb k q).trans (F1 _ _ (by omega) (by omega) (by omega))
      have go : ∀ h9 : HH, (∀ a k, ¬ (156 ≤ a ∧ a ≤ 161) → h9 a k = h4 a k) → (∀ k, k < 6 → h9 156 k = h4 121 k ∧ h9 157 k = h4 122 k ∧ h9 158 k = h4 125 k ∧ h9 159 k = h4 126 k ∧ h9 160 k = h4 128 k) → (∀ k, k < 12 → h9 161 k = h4 129 k) → Wd h9 → Sim h9 al ∧ h9 120 4 = wr h0 10 9 := by
        intro h9 fc fd fe hW9
        have G : ∀ a k, ¬ (156 ≤ a ∧ a ≤ 161) → ¬ (a = 120 ∧ 54 ≤ k ∧ k ≤ 62) → ¬ (31 ≤ a ∧ a ≤ 35) → ¬ (a = 30 ∧ 5 ≤ k ∧ k ≤ 10) → ¬ (a = 0 ∧ k = 4) → h9 a k = wr h0 a k := fun a k q1 q2 q3 q4 q5 => by
          rw [fc a k q1]
          by_cases q : a = 120
          · rw [q, fb k (by omega)]
            exact F1 _ _ (by omega) (by omega) (by omega)
          · rw [fa a k q]
            exact F1 _ _ q3 q4 q5
        have h120 : ∀ k, 54 ≤ k → k ≤ 62 → h9 120 k = h4 120 k := fun k _ _ => fc _ _ (by omega)
        have h30 : ∀ k, h9 30 k = h2 30 k := fun k => (fc _ _ (by omega)).trans ((fa _ _ (by omega)).trans (g30 k))
        have h3x : ∀ a k, 31 ≤ a → a ≤ 35 → h9 a k = h2 a k := fun a k q1 q2 => (fc _ _ (by omega)).trans ((fa _ _ (by omega)).trans (g3x a k q1))
        have i120 : ∀ k, k ≤ 17 → h3 120 k = wr h0 120 k := fun k _ => F1 _ _ (by omega) (by omega) (by omega)
        have hI9 : SI h9 := by
          refine Or.inr ⟨(fc _ _ (by omega)).trans ((fa _ _ (by omega)).trans e04), (h120 54 (by omega) (by omega)).trans f54, ?_, ?_, ?_, ?_⟩
          · rw [h120 56 (by omega) (by omega), f56, i120 0 (by omega), G 120 0 (by omega) (by omega) (by omega) (by omega) (by omega)]
            omega
          · rw [h120 57 (by omega) (by omega), f57, i120 1 (by omega), G 120 1 (by omega) (by omega) (by omega) (by omega) (by omega)]
            omega
          · rw [h30 10, b10, h120 55 (by omega) (by omega), f55, i120 17 (by omega), G 120 16 (by omega) (by omega) (by omega) (by omega) (by omega)]
            omega
          · rw [h30 5, h30 8, h30 9, h30 7, h30 6, b5, b8, b9, b7, b6, h120 59 (by omega) (by omega), h120 58 (by omega) (by omega), h120 60 (by omega) (by omega), h120 61 (by omega) (by omega), h120 62 (by omega) (by omega), h120 56 (by omega) (by omega), h120 57 (by omega) (by omega), f59, f58, f60, f61, f62, f56, f57, i120 3 (by omega), i120 2 (by omega), i120 4 (by omega), i120 5 (by omega), i120 6 (by omega), i120 0 (by omega), i120 1 (by omega)]
            refine RW.cg hR (fun k hk => ?_) (fun k hk => ?_) (fun k hk => ?_) (fun k hk => ?_)
            · obtain ⟨x1, x2, x3, x4⟩ := b2 k hk
              exact ⟨(h3x 31 k (by omega) (by omega)).trans x1, (h3x 32 k (by omega) (by omega)).trans x2, (h3x 33 k (by omega) (by omega)).trans x3, (h3x 34 k (by omega) (by omega)).trans x4⟩
            · exact (h3x 35 k (by omega) (by omega)).trans (b3 k hk)
            · obtain ⟨x1, x2, x3, x4, x5⟩ := fd k hk
              have y : ∀ a, 121 ≤ a → a ≤ 129 → h4 a k = wr h0 a k := fun a q1 q2 => (fa _ _ (by omega)).trans (F1 _ _ (by omega) (by omega) (by omega))
              exact ⟨x1.trans (y 121 (by omega) (by omega)), x2.trans (y 122 (by omega) (by omega)), x3.trans (y 125 (by omega) (by omega)), x4.trans (y 126 (by omega) (by omega)), x5.trans (y 128 (by omega) (by omega))⟩
            · exact (fe k hk).trans ((fa _ _ (by omega)).trans (F1 _ _ (by omega) (by omega) (by omega)))
        refine ⟨hS.mk2 hW9 (Or.inr fun a k q => G a k (by unfold pN at q; omega) (by unfold pN at q; omega) (by unfold pN at q; omega) (by unfold pN at q; omega) (by unfold pN at q; omega)) (Or.inl hI9) (Or.inr ⟨fun a k q => G a k (by unfold pH at q; omega) (by unfold pH at q; omega) (by unfold pH at q; omega) (by unfold pH at q; omega) (by unfold pH at q; omega), fun _ _ _ => rfl⟩) (Or.inr fun a k q => G a k (by unfold pT at q; omega) (by unfold pT at q; omega) (by unfold pT at q; omega) (by unfold pT at q; omega) (by unfold pT at q; omega)) (Or.inr fun a k q => G a k (by unfold pP at q; omega) (by unfold pP at q; omega) (by unfold pP at q; omega) (by unfold pP at q; omega) (by unfold pP at q; omega)) (Or.inr fun a k q => G a k (by unfold pC at q; omega) (by unfold pC at q; omega) (by unfold pC at q; omega) (by unfold pC at q; omega) (by unfold pC at q; omega)) (fun a k q => G a k (by unfold pK at q; omega) (by unfold pK at q; omega) (by unfold pK at q; omega) (by unfold pK at q; omega) (by unfold pK at q; omega)) (Or.inr ⟨fun a k q => G a k (by unfold pV at q; omega) (by unfold pV at q; omega) (by unfold pV at q; omega) (by unfold pV at q; omega) (by unfold pV at q; omega), fun _ _ => rfl⟩), ?_⟩
        rw [G 120 4 (by omega) (by omega) (by omega) (by omega) (by omega)]
        omega
      -- six rows
      have wlc : ∀ a, 156 ≤ a → a ≤ 161 → wl a = [] := fun a q1 q2 => by
        have c : ck 162 (fun a => decide (156 ≤ a → wl a = [])) = true := by decide +kernel
        exact of_decide_eq_true (ck_of c (show a < 162 by omega)) q1
      have wdf : ∀ h9 : HH, (∀ a k, ¬ (156 ≤ a ∧ a ≤ 161) → h9 a k = h4 a k) → Wd h9 := fun h9 f => hW4.of fun a k hk => f a k fun q => hk (by rw [wlc a q.1 q.2]; show (-9 : Int) < 0; decide)
      obtain ⟨h4', rfl⟩ := id hW4
      refine XW_t4 [] 120 okMo_image ?_
      refine c_copy (a := 121) (b := 156) (n := 6) rfl rfl rfl (Nat.le_refl _) (by decide) (by decide) fun h5 x1 y1 => ?_
      have z1 : ∀ a k, ¬ (156 ≤ a ∧ a ≤ 161) → h5 a k = wr h4' a k := fun a k q => x1 a k (by omega)
      obtain ⟨h5', rfl⟩ := wdf h5 z1
      refine c_copy (a := 122) (b := 157) (n := 6) rfl rfl rfl (Nat.le_refl _) (by decide) (by decide) fun h6 x2 y2 => ?_
      have z2 : ∀ a k, ¬ (156 ≤ a ∧ a ≤ 161) → h6 a k = wr h4' a k := fun a k q => (x2 a k (by omega)).trans (z1 a k q)
      obtain ⟨h6', rfl⟩ := wdf h6 z2
      refine c_copy (a := 125) (b := 158) (n := 6) rfl rfl rfl (Nat.le_refl _) (by decide) (by decide) fun h7 x3 y3 => ?_
      have z3 : ∀ a k, ¬ (156 ≤ a ∧ a ≤ 161) → h7 a k = wr h4' a k := fun a k q => (x3 a k (by omega)).trans (z2 a k q)
      obtain ⟨h7', rfl⟩ := wdf h7 z3
      refine c_copy (a := 126) (b := 159) (n := 6) rfl rfl rfl (Nat.le_refl _) (by decide) (by decide) fun h8 x4 y4 => ?_
      have z4 : ∀ a k, ¬ (156 ≤ a ∧ a ≤ 161) → h8 a k = wr h4' a k := fun a k q => (x4 a k (by omega)).trans (z3 a k q)
      obtain ⟨h8', rfl⟩ := wdf h8 z4
      refine c_copy (a := 128) (b := 160) (n := 6) rfl rfl rfl (Nat.le_refl _) (by decide) (by decide) fun h9 x5 y5 => ?_
      have z5 : ∀ a k, ¬ (156 ≤ a ∧ a ≤ 161) → h9 a k = wr h4' a k := fun a k q => (x5 a k (by omega)).trans (z4 a k q)
      obtain ⟨h9', rfl⟩ := wdf h9 z5
      refine c_copy (a := 129) (b := 161) (n := 12) rfl rfl rfl (Nat.le_refl _) (by decide) (by decide) fun h10 x6 y6 => ?_
      have z6 : ∀ a k, ¬ (156 ≤ a ∧ a ≤ 161) → h10 a k = wr h4' a k := fun a k q => (x6 a k (by omega)).trans (z5 a k q)
      have fd : ∀ k, k < 6 → h10 156 k = wr h4' 121 k ∧ h10 157 k = wr h4' 122 k ∧ h10 158 k = wr h4' 125 k ∧ h10 159 k = wr h4' 126 k ∧ h10 160 k = wr h4' 128 k := by
        intro k hk
        refine ⟨?_, ?_, ?_, ?_, ?_⟩
        · rw [x6 156 k (by omega), x5 156 k (by omega), x4 156 k (by omega), x3 156 k (by omega), x2 156 k (by omega)]
          exact y1 k hk
        · rw [x6 157 k (by omega), x5 157 k (by omega), x4 157 k (by omega), x3 157 k (by omega)]
          exact (y2 k hk).trans (z1 _ _ (by omega))
        · rw [x6 158 k (by omega), x5 158 k (by omega), x4 158 k (by omega)]
          exact (y3 k hk).trans (z2 _ _ (by omega))
        · rw [x6 159 k (by omega), x5 159 k (by omega)]
          exact (y4 k hk).trans (z3 _ _ (by omega))
        · rw [x6 160 k (by omega)]
          exact (y5 k hk).trans (z4 _ _ (by omega))
      obtain ⟨s1, s2⟩ := go h10 z6 fd (fun k hk => (y6 k hk).trans (z5 _ _ (by omega))) (wdf h10 z6)
      obtain ⟨h10', rfl⟩ := wdf h10 z6
      exact ⟨⟨_, rfl, congrArg (fun z => some (xi z)) s2⟩, s1⟩
    obtain ⟨h3', rfl⟩ := id hW3
    refine cof ocMo_image rfl (XW_t4 [69] 120 okMo_image ?_)
    refine ⟨Or.inr rfl, ?_⟩
    exact N (uH (uH (uH (uH (uH (uH (uH (uH (uH (wr h3') 120 54 1) 120 55 (wr h3' 120 17)) 120 56 (wr h3' 120 0)) 120 57 (wr h3' 120 1)) 120 58 (wr h3' 120 2)) 120 59 (wr h3' 120 3)) 120 60 (wr h3' 120 4)) 120 61 (wr h3' 120 5)) 120 62 (wr h3' 120 6))
      (fun a k q => by rw [uH_ne (by omega), uH_ne (by omega), uH_ne (by omega), uH_ne (by omega), uH_ne (by omega), uH_ne (by omega), uH_ne (by omega), uH_ne (by omega), uH_ne (by omega)])
      (fun k q => by rw [uH_ne (by omega), uH_ne (by omega), uH_ne (by omega), uH_ne (by omega), uH_ne (by omega), uH_ne (by omega), uH_ne (by omega), uH_ne (by omega), uH_ne (by omega)])
      (by rw [uH_ne (by omega), uH_ne (by omega), uH_ne (by omega), uH_ne (by omega), uH_ne (by omega), uH_ne (by omega), uH_ne (by omega), uH_ne (by omega), uH_at])
      (by rw [uH_ne (by omega), uH_ne (by omega), uH_ne (by omega), uH_ne (by omega), uH_ne (by omega), uH_ne (by omega), uH_ne (by omega), uH_at])
      (by rw [uH_ne (by omega), uH_ne (by omega), uH_ne (by omega), uH_ne (by omega), uH_ne (by omega), uH_ne (by omega), uH_at])
      (by rw [uH_ne (by omega), uH_ne (by omega), uH_ne (by omega), uH_ne (by omega), uH_ne (by omega), uH_at])
      (by rw [uH_ne (by omega), uH_ne (by omega), uH_ne (by omega), uH_ne (by omega), uH_at])
      (by rw [uH_ne (by omega), uH_ne (by omega), uH_ne (by omega), uH_at])
      (by rw [uH_ne (by omega), uH_ne (by omega), uH_at])
      (by rw [uH_ne (by omega), uH_at])
      uH_at ((((((((((hW3.up (by decide)).up (by decide)).up (by decide)).up (by decide)).up (by decide)).up (by decide)).up (by decide)).up (by decide)).up (by decide)))
  have e9 : h2 10 9 = wr h0 10 9 := b1 10 9 (by omega) (by omega)
  rw [← e9] at key
  obtain ⟨h2', rfl⟩ := id hW2
  exact ⟨Or.inr rfl, key⟩
end Q17
