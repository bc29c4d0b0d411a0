-- undo
section Q18
variable {g : GC} {d : Nat} {h : HH} {al : AL} {K : KT}
set_option maxRecDepth 20000 in
theorem s_undo (hS : Sim h al) : Call g (d + 9) yBy_undo [xr 0] h al (fun v h1 al1 => Call g (d + 9) yMo_undo [xr 120] h1 al1 (Ok2 v)) := by
  obtain ⟨hW, hN, hI, hH, hT, hP, hC0, hKo, hV⟩ := id hS
  obtain ⟨⟨n1, n2, n3⟩, ⟨n4, n5, n6⟩, -⟩ := id hN
  have hv := hV.1
  obtain ⟨h0, rfl⟩ := id hW
  rcases hI with ⟨i1, i2⟩ | ⟨i1, i2, i3, i4, i5, hR⟩
  · refine cof ocBy_undo rfl (XW_t4 [] 100 okBy_undo ?_)
    refine ite_t (show wr h0 0 4 = 0 from i1) ?_
    refine cof ocMo_undo rfl (XW_t4 [] 100 okMo_undo ?_)
    refine ite_t (show wr h0 120 54 = 0 from i2) ?_
    exact ⟨⟨_, rfl, rfl⟩, hS⟩
  · obtain ⟨r1, r2, r3, r4, r5, r6, r7, r8, r9, r10, r11, r12, r13⟩ := hR
    obtain ⟨n0, hn0⟩ : ∃ n0 : Int, wr h0 120 56 = n0 := ⟨_, rfl⟩
    obtain ⟨p0, hp0⟩ : ∃ p0 : Int, wr h0 120 57 = p0 := ⟨_, rfl⟩
    rw [hn0] at r1 r2 r3 i3
    rw [hp0] at r2 r3 r4 r5 i4
    -- where both end
    have fin : ∀ h9 : HH, (∀ a k, ¬ (11 ≤ a ∧ a ≤ 15) → ¬ (a = 10 ∧ 5 ≤ k ∧ k ≤ 10) → ¬ (a = 121 ∨ a = 122 ∨ a = 125 ∨ a = 126 ∨ a = 128 ∨ a = 129) → ¬ (a = 120 ∧ (2 ≤ k ∧ k ≤ 6 ∨ k = 17)) → h9 a k = wr h0 a k) → (∀ k, k < 6 → h9 11 k = wr h0 31 k ∧ h9 12 k = wr h0 32 k ∧ h9 13 k = wr h0 33 k ∧ h9 14 k = wr h0 34 k) → (∀ k, k < 12 → h9 15 k = wr h0 35 k) → (h9 10 5 = wr h0 30 5 ∧ h9 10 6 = wr h0 30 6 ∧ h9 10 7 = wr h0 30 7 ∧ h9 10 8 = wr h0 30 8 ∧ h9 10 9 = wr h0 30 9 ∧ h9 10 10 = wr h0 30 10) →
        (h9 120 17 = wr h0 120 55 ∧ h9 120 2 = wr h0 120 58 ∧ h9 120 3 = wr h0 120 59 ∧ h9 120 4 = wr h0 120 60 ∧ h9 120 5 = wr h0 120 61 ∧ h9 120 6 = wr h0 120 62) → (∀ k : Nat, k < 6 → h9 121 k = (if (k : Int) < n0 then wr h0 156 k else 0) ∧ h9 122 k = (if (k : Int) < n0 then wr h0 157 k else -1) ∧ h9 125 k = (if (k : Int) < p0 then wr h0 158 k else -1) ∧ h9 126 k = (if (k : Int) < p0 then wr h0 159 k else 0) ∧ h9 128 k = wr h0 160 k) → (∀ k, k < 12 → h9 129 k = wr h0 161 k) → Sim h9 al := by
      intro h9 F e1 e2 e3 e4 e5 e6
      have f0 : h9 120 0 = wr h0 120 0 := F _ _ (by omega) (by omega) (by omega) (by omega)
      have f1 : h9 120 1 = wr h0 120 1 := F _ _ (by omega) (by omega) (by omega) (by omega)
      have f16 : h9 1 6 = wr h0 1 6 := F _ _ (by omega) (by omega) (by omega) (by omega)
      have f15 : h9 1 5 = wr h0 1 5 := F _ _ (by omega) (by omega) (by omega) (by omega)
      obtain ⟨x5, x6, x7, x8, x9, x10⟩ := e3
      obtain ⟨y17, y2, y3, y4, y5, y6⟩ := e4
      have hN9 : SN h9 := by
        refine ⟨by omega, by omega, fun k hk => ?_, fun k hk => ?_, fun j hj hj2 => ?_, fun p q hp hq hp2 hq2 e hne => ?_, fun k hk => ?_, by omega, fun k hk q => ?_, fun p q hp hq hp2 hq2 e => ?_, by omega, fun k hk q => ?_, by omega, by omega, by omega⟩
        · rw [(e1 k hk).1, (e5 k hk).1]
          have := r1 k hk
          by_cases c : (k : Int) < n0
          · rw [if_pos c]
            refine ⟨fun _ => this.1 c, fun q => by omega⟩
          · rw [if_neg c, this.2 (by omega)]
            exact ⟨fun _ => ⟨rfl, by omega, by omega⟩, fun _ => rfl⟩
        · rw [(e1 k hk).2.1, (e5 k hk).2.2.1]
          have := r2 k hk
          by_cases c : (k : Int) < p0
          · rw [if_pos c]
            refine ⟨fun _ => ?_, fun q => by omega⟩
            have := this.1 c
            omega
          · rw [if_neg c, this.2 (by omega)]
            exact ⟨fun _ => Or.inl ⟨rfl, rfl⟩, fun _ => rfl⟩
        · rw [(e5 j hj).2.1]
          by_cases c : (j : Int) < n0
          · rw [if_pos c]
            rcases r3 j hj c with ⟨z1, z2⟩ | ⟨p, z1, z2, z3, z4⟩
            · refine Or.inl ⟨z1, fun p hp hp2 => ?_⟩
              rw [(e5 p hp).2.2.1]
              by_cases c2 : (p : Int) < p0
              · rw [if_pos c2]; exact z2 p hp c2
              · rw [if_neg c2]; omega
            · refine Or.inr ⟨p, z1, by omega, z3, ?_⟩
              rw [(e5 p z1).2.2.1, if_pos z2]
              exact z4
          · rw [if_neg c]
            refine Or.inl ⟨rfl, fun p hp hp2 => ?_⟩
            rw [(e5 p hp).2.2.1]
            by_cases c2 : (p : Int) < p0
            · rw [if_pos c2]
              have := (r2 p hp).1 c2
              omega
            · rw [if_neg c2]; omega
        · rw [(e5 p hp).2.2.1, (e5 q hq).2.2.1] at e
          rw [(e5 p hp).2.2.1] at hne
          by_cases c : (p : Int) < p0
          · rw [if_pos c] at e hne
            by_cases c2 : (q : Int) < p0
            · rw [if_pos c2] at e
              exact r4 p q hp hq c c2 e hne
            · rw [if_neg c2] at e
              exact absurd e hne
          · rw [if_neg c] at hne
            exact absurd rfl hne
        · rw [(e1 k hk).2.2.1, (e5 k hk).2.2.2.1]
          have := r5 k hk
          by_cases c : (k : Int) < p0
          · rw [if_pos c]
            exact ⟨fun _ => this.1 c, fun q => by omega⟩
          · rw [if_neg c, this.2 (by omega)]
            exact ⟨fun _ => ⟨rfl, by omega, by omega⟩, fun _ => rfl⟩
        · rw [(e1 k hk).2.2.2, (e5 k hk).2.2.2.2]
          exact r7 k hk (by omega)
        · rw [(e5 p hp).2.2.2.2, (e5 q hq).2.2.2.2] at e
          exact r8 p q hp hq (by omega) (by omega) e
        · rw [e2 k hk, e6 k hk]
          exact r10 k hk (by omega)
      have wlc : ∀ a, 11 ≤ a → a ≤ 15 → wl a = [] := fun a q1 q2 => by
        have c : ck 16 (fun a => decide (11 ≤ a → wl a = [])) = true := by decide +kernel
        exact of_decide_eq_true (ck_of c (show a < 16 by omega)) q1
      have hW9 : Wd h9 := hW.of fun a k hk => F a k (by
        rintro ⟨q1, q2⟩
        exact hk (by rw [wlc a q1 q2]; show (-9 : Int) < 0; decide)) (by
        rintro ⟨rfl, q1, q2⟩
        have : k = 5 ∨ k = 6 ∨ k = 7 ∨ k = 8 ∨ k = 9 ∨ k = 10 := by omega
        rcases this with rfl | rfl | rfl | rfl | rfl | rfl <;> exact hk (by decide)) (by
        rintro (rfl | rfl | rfl | rfl | rfl | rfl) <;> exact hk (by show (-9 : Int) < 0; decide)) (by
        rintro ⟨rfl, q1⟩
        have : k = 2 ∨ k = 3 ∨ k = 4 ∨ k = 5 ∨ k = 6 ∨ k = 17 := by omega
        rcases this with rfl | rfl | rfl | rfl | rfl | rfl <;> exact hk (by decide))
      have f1x : h9 120 16 = wr h0 120 16 := F _ _ (by omega) (by omega) (by omega) (by omega)
      have hV9 : SV h9 al := by
        obtain ⟨v1, v2, v3⟩ := hV
        refine ⟨?_, ?_, ?_⟩
        · rw [x10, y17, f1x]; omega
        · rw [F 1 7 (by omega) (by omega) (by omega) (by omega), f1x]
          exact v2
        · rw [f1x, y17]
          rw [rs_of (h := wr h0) fun a k q => F a k ?_ ?_ ?_ ?_]
          · exact v3
          · unfold tV inR at q
            simp only [Bool.or_eq_true, Bool.and_eq_true, Nat.ble_eq, Nat.beq_eq] at q
            omega
          · unfold tV inR at q
            simp only [Bool.or_eq_true, Bool.and_eq_true, Nat.ble_eq, Nat.beq_eq] at q
            omega
          · unfold tV inR at q
            simp only [Bool.or_eq_true, Bool.and_eq_true, Nat.ble_eq, Nat.beq_eq] at q
            omega
          · unfold tV inR at q
            simp only [Bool.or_eq_true, Bool.and_eq_true, Nat.ble_eq, Nat.beq_eq] at q
            omega
      exact hS.mk2 hW9 (Or.inl hN9) (Or.inr fun a k q => F a k (by unfold pI at q; omega) (by unfold pI at q; omega) (by unfold pI at q; omega) (by unfold pI at q; omega)) (Or.inr ⟨fun a k q => F a k (by unfold pH at q; omega) (by unfold pH at q; omega) (by unfold pH at q; omega) (by unfold pH at q; omega), fun _ _ _ => rfl⟩) (Or.inr fun a k q => F a k (by unfold pT at q; omega) (by unfold pT at q; omega) (by unfold pT at q; omega) (by unfold pT at q; omega)) (Or.inr fun a k q => F a k (by unfold pP at q; omega) (by unfold pP at q; omega) (by unfold pP at q; omega) (by unfold pP at q; omega)) (Or.inr fun a k q => F a k (by unfold pC at q; omega) (by unfold pC at q; omega) (by unfold pC at q; omega) (by unfold pC at q; omega)) (fun a k q => F a k (by unfold pK at q; omega) (by unfold pK at q; omega) (by unfold pK at q; omega) (by unfold pK at q; omega)) (Or.inl hV9)
    refine cof ocBy_undo rfl (XW_t4 [] 100 okBy_undo ?_)
    refine ite_f (show ¬ wr h0 0 4 = 0 by omega) ?_
    refine c_become_ni hW fun h2 hb hW2 => ?_
    obtain ⟨b1, b2, b3, b5, b6, b7, b8, b9, b10⟩ := hb
    have F2 : ∀ a k, ¬ (11 ≤ a ∧ a ≤ 15) → ¬ (a = 10 ∧ 5 ≤ k ∧ k ≤ 10) → h2 a k = wr h0 a k := fun a k q1 q2 => b1 a k (by omega) q2
    have key : Call g (d + 9) yMo_undo [xr 120] h2 al (Ok2 (some (xi (h2 10 9)))) := by
      have e54 : h2 120 54 = 1 := (F2 _ _ (by omega) (by omega)).trans i2
      have tail : ∀ h4 : HH, (∀ a k, ¬ (a = 121 ∨ a = 122 ∨ a = 125 ∨ a = 126) → ¬ (a = 120 ∧ (2 ≤ k ∧ k ≤ 6 ∨ k = 17)) → h4 a k = h2 a k) → (h4 120 17 = wr h0 120 55 ∧ h4 120 2 = wr h0 120 58 ∧ h4 120 3 = wr h0 120 59 ∧ h4 120 4 = wr h0 120 60 ∧ h4 120 5 = wr h0 120 61 ∧ h4 120 6 = wr h0 120 62) → (∀ k : Nat, k < 6 → h4 121 k = (if (k : Int) < n0 then wr h0 156 k else 0) ∧ h4 122 k = (if (k : Int) < n0 then wr h0 157 k else -1) ∧ h4 125 k = (if (k : Int) < p0 then wr h0 158 k else -1) ∧ h4 126 k = (if (k : Int) < p0 then wr h0 159 k else 0)) → Wd h4 → ∀ x1, XW g (d + 8) mMo_undo (Ok2 (some (xi (h2 10 9)))) 168 [some (xr 120), x1] [] h4 al := by
        intro h4 F4 e4 e5 hW4 x1
        have wdf : ∀ h9 : HH, (∀ a k, ¬ (a = 128 ∨ a = 129) → h9 a k = h4 a k) → Wd h9 := fun h9 f => hW4.of fun a k hk => f a k (by rintro (rfl | rfl) <;> exact hk (by show (-9 : Int) < 0; decide))
        obtain ⟨h4', rfl⟩ := id hW4
        refine XW_t4 [] 80 okMo_undo ?_
        refine c_copy (a := 160) (b := 128) (n := 6) rfl rfl rfl (Nat.le_refl _) (by decide) (by decide) fun h5 z1 w1 => ?_
        obtain ⟨h5', rfl⟩ := wdf h5 (fun a k q => z1 a k (by omega))
        refine c_copy (a := 161) (b := 129) (n := 12) rfl rfl rfl (Nat.le_refl _) (by decide) (by decide) fun h6 z2 w2 => ?_
        have G : ∀ a k, ¬ (a = 128 ∨ a = 129) → h6 a k = wr h4' a k := fun a k q => (z2 a k (by omega)).trans (z1 a k (by omega))
        have G2 : ∀ a k, ¬ (a = 121 ∨ a = 122 ∨ a = 125 ∨ a = 126 ∨ a = 128 ∨ a = 129) → ¬ (a = 120 ∧ (2 ≤ k ∧ k ≤ 6 ∨ k = 17)) → h6 a k = h2 a k := fun a k q1 q2 => (G a k (by omega)).trans (F4 a k (by omega) q2)
        have hs := fin h6 (fun a k q1 q2 q3 q4 => (G2 a k q3 q4).trans (F2 a k q1 q2)) (fun k hk => by
          obtain ⟨t1, t2, t3, t4⟩ := b2 k hk
          exact ⟨(G2 _ _ (by omega) (by omega)).trans t1, (G2 _ _ (by omega) (by omega)).trans t2, (G2 _ _ (by omega) (by omega)).trans t3, (G2 _ _ (by omega) (by omega)).trans t4⟩) (fun k hk => (G2 _ _ (by omega) (by omega)).trans (b3 k hk)) ⟨(G2 _ _ (by omega) (by omega)).trans b5, (G2 _ _ (by omega) (by omega)).trans b6, (G2 _ _ (by omega) (by omega)).trans b7, (G2 _ _ (by omega) (by omega)).trans b8, (G2 _ _ (by omega) (by omega)).trans b9, (G2 _ _ (by omega) (by omega)).trans b10⟩
          (by
            obtain ⟨t1, t2, t3, t4, t5, t6⟩ := e4
            exact ⟨(G _ _ (by omega)).trans t1, (G _ _ (by omega)).trans t2, (G _ _ (by omega)).trans t3, (G _ _ (by omega)).trans t4, (G _ _ (by omega)).trans t5, (G _ _ (by omega)).trans t6⟩)
          (fun k hk => by
            obtain ⟨t1, t2, t3, t4⟩ := e5 k hk
            exact ⟨(G _ _ (by omega)).trans t1, (G _ _ (by omega)).trans t2, (G _ _ (by omega)).trans t3, (G _ _ (by omega)).trans t4, (z2 128 k (by omega)).trans ((w1 k hk).trans ((F4 _ _ (by omega) (by omega)).trans (F2 _ _ (by omega) (by omega))))⟩)
          (fun k hk => (w2 k hk).trans ((z1 _ _ (by omega)).trans ((F4 _ _ (by omega) (by omega)).trans (F2 _ _ (by omega) (by omega)))))
        have e9 : h6 120 4 = h2 10 9 := by
          rw [G 120 4 (by omega), e4.2.2.2.1, b9]
          omega
        obtain ⟨h6', rfl⟩ := id hs.1
        exact ⟨⟨_, rfl, congrArg (fun z => some (xi z)) e9⟩, hs⟩
      have loop : ∀ (m j : Nat) (h4 : HH), j + m = 6 → (∀ a k, ¬ (a = 121 ∨ a = 122 ∨ a = 125 ∨ a = 126) → ¬ (a = 120 ∧ (2 ≤ k ∧ k ≤ 6 ∨ k = 17)) → h4 a k = h2 a k) → (h4 120 17 = wr h0 120 55 ∧ h4 120 2 = wr h0 120 58 ∧ h4 120 3 = wr h0 120 59 ∧ h4 120 4 = wr h0 120 60 ∧ h4 120 5 = wr h0 120 61 ∧ h4 120 6 = wr h0 120 62) → (∀ k : Nat, k < j → h4 121 k = (if (k : Int) < n0 then wr h0 156 k else 0) ∧ h4 122 k = (if (k : Int) < n0 then wr h0 157 k else -1) ∧ h4 125 k = (if (k : Int) < p0 then wr h0 158 k else -1) ∧ h4 126 k = (if (k : Int) < p0 then wr h0 159 k else 0)) → Wd h4 → XW g (d + 8) mMo_undo (Ok2 (some (xi (h2 10 9)))) 60 [some (xr 120), some (xi (j : Int))] [] h4 al := by
        intro m
        induction m with
        | zero =>
          intro j h4 hj F4 e4 e5 hW4
          refine XW_t4 [60, 168] 60 okMo_undo ?_
          refine ite_f (by omega) ?_
          exact tail h4 F4 e4 (fun k hk => e5 k (by omega)) hW4 _
        | succ m ih =>
          intro j h4 hj F4 e4 e5 hW4
          have j6 : j < 6 := by omega
          have q56 : h4 120 56 = n0 := (F4 _ _ (by omega) (by omega)).trans ((F2 _ _ (by omega) (by omega)).trans hn0)
          have q57 : h4 120 57 = p0 := (F4 _ _ (by omega) (by omega)).trans ((F2 _ _ (by omega) (by omega)).trans hp0)
          have im : ∀ a, 156 ≤ a → h4 a j = wr h0 a j := fun a q => (F4 _ _ (by omega) (by omega)).trans (F2 _ _ (by omega) (by omega))
          have next : ∀ z1 z2 z3 z4, z1 = (if (j : Int) < n0 then wr h0 156 j else 0) → z2 = (if (j : Int) < n0 then wr h0 157 j else -1) → z3 = (if (j : Int) < p0 then wr h0 158 j else -1) → z4 = (if (j : Int) < p0 then wr h0 159 j else 0) → XW g (d + 8) mMo_undo (Ok2 (some (xi (h2 10 9)))) 60 [some (xr 120), some (xi (wI ((j : Int) + 1)))] [] (uH (uH (uH (uH h4 121 j z1) 122 j z2) 125 j z3) 126 j z4) al := fun z1 z2 z3 z4 u1 u2 u3 u4 => by
            rw [nS j (by omega)]
            have U : ∀ a k, ¬ (a = 121 ∨ a = 122 ∨ a = 125 ∨ a = 126) → (uH (uH (uH (uH h4 121 j z1) 122 j z2) 125 j z3) 126 j z4) a k = h4 a k := fun a k q => by rw [uH_ne (by omega), uH_ne (by omega), uH_ne (by omega), uH_ne (by omega)]
            refine ih (j + 1) _ (by omega) (fun a k q1 q2 => (U a k q1).trans (F4 a k q1 q2)) ?_ (fun k hk => ?_) ((((hW4.upA rfl).upA rfl).upA rfl).upA rfl)
            · obtain ⟨t1, t2, t3, t4, t5, t6⟩ := e4
              exact ⟨(U _ _ (by omega)).trans t1, (U _ _ (by omega)).trans t2, (U _ _ (by omega)).trans t3, (U _ _ (by omega)).trans t4, (U _ _ (by omega)).trans t5, (U _ _ (by omega)).trans t6⟩
            · have w1 : uH (uH (uH (uH h4 121 j z1) 122 j z2) 125 j z3) 126 j z4 121 k = if k = j then z1 else h4 121 k := by rw [uH_ne (by omega), uH_ne (by omega), uH_ne (by omega), uH_r]
              have w2 : uH (uH (uH (uH h4 121 j z1) 122 j z2) 125 j z3) 126 j z4 122 k = if k = j then z2 else h4 122 k := by rw [uH_ne (by omega), uH_ne (by omega), uH_r, uH_ne (by omega)]
              have w3 : uH (uH (uH (uH h4 121 j z1) 122 j z2) 125 j z3) 126 j z4 125 k = if k = j then z3 else h4 125 k := by rw [uH_ne (by omega), uH_r, uH_ne (by omega), uH_ne (by omega)]
              have w4 : uH (uH (uH (uH h4 121 j z1) 122 j z2) 125 j z3) 126 j z4 126 k = if k = j then z4 else h4 126 k := by rw [uH_r, uH_ne (by omega), uH_ne (by omega), uH_ne (by omega)]
              rw [w1, w2, w3, w4]
              by_cases e : k = j
              · rw [if_pos e, if_pos e, if_pos e, if_pos e, e]
                exact ⟨u1, u2, u3, u4⟩
              · rw [if_neg e, if_neg e, if_neg e, if_neg e]
                exact e5 k (by omega)
          by_cases cn : (j : Int) < n0
          · by_cases cp : (j : Int) < p0
            · obtain ⟨h4', rfl⟩ := id hW4
              refine XW_t4 [60] 120 okMo_undo ?_
              refine ite_t (by omega) (ite_t (show (j : Int) < wr h4' 120 56 by omega) ?_)
              refine ⟨j, rfl, by show j < 6; exact j6, _, im 156 (by omega), ⟨j, rfl, by show j < 6; exact j6, ?_⟩⟩
              refine ite_t (show (j : Int) < wr h4' 120 56 by omega) ?_
              refine ⟨j, rfl, by show j < 6; exact j6, _, im 157 (by omega), ⟨j, rfl, by show j < 6; exact j6, ?_⟩⟩
              refine ite_t (show (j : Int) < wr h4' 120 57 by omega) ?_
              refine ⟨j, rfl, by show j < 6; exact j6, _, im 158 (by omega), ⟨j, rfl, by show j < 6; exact j6, ?_⟩⟩
              refine ite_t (show (j : Int) < wr h4' 120 57 by omega) ?_
              refine ⟨j, rfl, by show j < 6; exact j6, _, im 159 (by omega), ⟨j, rfl, by show j < 6; exact j6, ?_⟩⟩
              exact next _ _ _ _ (by rw [if_pos cn]) (by rw [if_pos cn]) (by rw [if_pos cp]) (by rw [if_pos cp])
            · obtain ⟨h4', rfl⟩ := id hW4
              refine XW_t4 [60] 120 okMo_undo ?_
              refine ite_t (by omega) (ite_t (show (j : Int) < wr h4' 120 56 by omega) ?_)
              refine ⟨j, rfl, by show j < 6; exact j6, _, im 156 (by omega), ⟨j, rfl, by show j < 6; exact j6, ?_⟩⟩
              refine ite_t (show (j : Int) < wr h4' 120 56 by omega) ?_
              refine ⟨j, rfl, by show j < 6; exact j6, _, im 157 (by omega), ⟨j, rfl, by show j < 6; exact j6, ?_⟩⟩
              refine ite_f (show ¬ (j : Int) < wr h4' 120 57 by omega) ⟨j, rfl, by show j < 6; exact j6, ?_⟩
              refine ite_f (show ¬ (j : Int) < wr h4' 120 57 by omega) ⟨j, rfl, by show j < 6; exact j6, ?_⟩
              exact next _ _ _ _ (by rw [if_pos cn]) (by rw [if_pos cn]) (by rw [if_neg cp]) (by rw [if_neg cp])
          · by_cases cp : (j : Int) < p0
            · obtain ⟨h4', rfl⟩ := id hW4
              refine XW_t4 [60] 120 okMo_undo ?_
              refine ite_t (by omega) (ite_f (show ¬ (j : Int) < wr h4' 120 56 by omega) ⟨j, rfl, by show j < 6; exact j6, ?_⟩)
              refine ite_f (show ¬ (j : Int) < wr h4' 120 56 by omega) ⟨j, rfl, by show j < 6; exact j6, ?_⟩
              refine ite_t (show (j : Int) < wr h4' 120 57 by omega) ?_
              refine ⟨j, rfl, by show j < 6; exact j6, _, im 158 (by omega), ⟨j, rfl, by show j < 6; exact j6, ?_⟩⟩
              refine ite_t (show (j : Int) < wr h4' 120 57 by omega) ?_
              refine ⟨j, rfl, by show j < 6; exact j6, _, im 159 (by omega), ⟨j, rfl, by show j < 6; exact j6, ?_⟩⟩
              exact next _ _ _ _ (by rw [if_neg cn]) (by rw [if_neg cn]) (by rw [if_pos cp]) (by rw [if_pos cp])
            · obtain ⟨h4', rfl⟩ := id hW4
              refine XW_t4 [60] 120 okMo_undo ?_
              refine ite_t (by omega) (ite_f (show ¬ (j : Int) < wr h4' 120 56 by omega) ⟨j, rfl, by show j < 6; exact j6, ?_⟩)
              refine ite_f (show ¬ (j : Int) < wr h4' 120 56 by omega) ⟨j, rfl, by show j < 6; exact j6, ?_⟩
              refine ite_f (show ¬ (j : Int) < wr h4' 120 57 by omega) ⟨j, rfl, by show j < 6; exact j6, ?_⟩
              refine ite_f (show ¬ (j : Int) < wr h4' 120 57 by omega) ⟨j, rfl, by show j < 6; exact j6, ?_⟩
              exact next _ _ _ _ (by rw [if_neg cn]) (by rw [if_neg cn]) (by rw [if_neg cp]) (by rw [if_neg cp])
      have g120 : ∀ k, h2 120 k = wr h0 120 k := fun k => F2 _ _ (by omega) (by omega)
      have t := loop 6 0 (uH (uH (uH (uH (uH (uH h2 120 17 (h2 120 55)) 120 2 (h2 120 58)) 120 3 (h2 120 59)) 120 4 (h2 120 60)) 120 5 (h2 120 61)) 120 6 (h2 120 62)) rfl
        (fun a k q1 q2 => by rw [uH_ne (by omega), uH_ne (by omega), uH_ne (by omega), uH_ne (by omega), uH_ne (by omega), uH_ne (by omega)])
        ⟨by rw [uH_ne (by omega), uH_ne (by omega), uH_ne (by omega), uH_ne (by omega), uH_ne (by omega), uH_at, g120], by rw [uH_ne (by omega), uH_ne (by omega), uH_ne (by omega), uH_ne (by omega), uH_at, g120], by rw [uH_ne (by omega), uH_ne (by omega), uH_ne (by omega), uH_at, g120], by rw [uH_ne (by omega), uH_ne (by omega), uH_at, g120], by rw [uH_ne (by omega), uH_at, g120], by rw [uH_at, g120]⟩
        (fun k hk => absurd hk (by omega)) ((((((hW2.up (by decide)).up (by decide)).up (by decide)).up (by decide)).up (by decide)).up (by decide))
      obtain ⟨h2', rfl⟩ := id hW2
      refine cof ocMo_undo rfl (XW_t4 [60] 120 okMo_undo ?_)
      refine ite_f (show ¬ wr h2' 120 54 = 0 by omega) ?_
      exact t
    obtain ⟨h2', rfl⟩ := id hW2
    exact key
end Q18
