-- the reference reads a text: clauses, all of it
def FG (q s0 : Nat) (h h2 : HH) : Prop := ∀ a k, ¬ (a = 120 ∧ (k = 19 ∨ k = 20 ∨ k = 29 ∨ k = 30 ∨ k = 31)) → a ≠ 137 → ¬ (a = 136 ∧ s0 ≤ k) → ¬ ((132 ≤ a ∧ a ≤ 135) ∧ k = q) → h2 a k = h a k
def FX (f : Nat) (h h2 : HH) : Prop := ∀ a k, ¬ (a = 120 ∧ (k = 19 ∨ k = 20 ∨ k = 29 ∨ k = 30 ∨ k = 31)) → a ≠ 137 → ¬ (a = 136 ∧ 100 * f ≤ k) → ¬ ((132 ≤ a ∧ a ≤ 135) ∧ 10 * f ≤ k) → ¬ (a = 131 ∧ k = f) → h2 a k = h a k
theorem FG.refl {q s0 : Nat} {h : HH} : FG q s0 h h := fun _ _ _ _ _ _ => rfl
theorem FG.trans {q s0 : Nat} {h h2 h3 : HH} (a : FG q s0 h h2) (b : FG q s0 h2 h3) : FG q s0 h h3 := fun x k e1 e2 e3 e4 => (b x k e1 e2 e3 e4).trans (a x k e1 e2 e3 e4)
theorem FX.refl {f : Nat} {h : HH} : FX f h h := fun _ _ _ _ _ _ _ => rfl
theorem FX.trans {f : Nat} {h h2 h3 : HH} (a : FX f h h2) (b : FX f h2 h3) : FX f h h3 := fun x k e1 e2 e3 e4 e5 => (b x k e1 e2 e3 e4 e5).trans (a x k e1 e2 e3 e4 e5)
theorem FE.fg {q s0 : Nat} {h h2 : HH} (a : FE q s0 h h2) : FG q s0 h h2 := fun x k e1 e2 e3 e4 => a x k e1 e2 e3 (by omega)
theorem FN.fg {q s0 : Nat} {h h2 : HH} (a : FN h h2) : FG q s0 h h2 := fun x k e1 _ _ _ => a x k (by omega)
theorem FG.fx {q s0 f : Nat} {h h2 : HH} (a : FG q s0 h h2) (hq : 10 * f ≤ q) (hs : 100 * f ≤ s0) : FX f h h2 := fun x k e1 e2 e3 e4 _ => a x k e1 e2 (by omega) (by omega)
theorem FX.wd {f : Nat} {h h2 : HH} (hf : FX f h h2) (hW : Wd h) : Wd h2 := hW.of fun a k hk => hf a k (by rintro ⟨rfl, rfl | rfl | rfl | rfl | rfl⟩ <;> exact hk (by decide)) (by rintro rfl; exact hk (by show (-9 : Int) < 0; decide)) (by rintro ⟨rfl, -⟩; exact hk (by show (-9 : Int) < 0; decide)) (by
  rintro ⟨⟨q1, q2⟩, -⟩
  have : a = 132 ∨ a = 133 ∨ a = 134 ∨ a = 135 := by omega
  rcases this with rfl | rfl | rfl | rfl <;> exact hk (by show (-9 : Int) < 0; decide)) (by rintro ⟨rfl, -⟩; exact hk (by show (-9 : Int) < 0; decide))
theorem FG.wd {q s0 : Nat} {h h2 : HH} (hf : FG q s0 h h2) (hW : Wd h) : Wd h2 := FX.wd (f := 0) (hf.fx (Nat.zero_le _) (Nat.zero_le _)) hW
theorem TXm.fx {ch : Nat → Int} {N f : Nat} {h h2 : HH} (hT : TXm ch N h) (hf : FX f h h2) : TXm ch N h2 := by
  obtain ⟨t1, t2, t3, t4⟩ := hT
  refine ⟨(hf _ _ (by omega) (by decide) (by omega) (by omega) (by omega)).trans t1, t2, fun k hk => ?_, t4⟩
  rw [hf 130 k (by omega) (by decide) (by omega) (by omega) (by omega)]
  exact t3 k hk
theorem TXm.fg {ch : Nat → Int} {N q s0 : Nat} {h h2 : HH} (hT : TXm ch N h) (hf : FG q s0 h h2) : TXm ch N h2 := TXm.fx (f := 0) hT (hf.fx (Nat.zero_le _) (Nat.zero_le _))
theorem FG.up {q s0 : Nat} {h h2 : HH} {a k : Nat} {z : Int} (hf : FG q s0 h h2) (e : (a = 120 ∧ (k = 19 ∨ k = 20 ∨ k = 29 ∨ k = 30 ∨ k = 31)) ∨ a = 137 ∨ (a = 136 ∧ s0 ≤ k) ∨ ((132 ≤ a ∧ a ≤ 135) ∧ k = q)) : FG q s0 h (uH h2 a k z) := fun x j e1 e2 e3 e4 => by
  rw [uH_ne (by omega)]
  exact hf x j e1 e2 e3 e4
section RF4
variable {g : GC} {d : Nat} {h : HH} {al : AL} {K : KT} {ch : Nat → Int} {N p q f v0 : Nat}
set_option maxRecDepth 8000 in
theorem c_takesE (hW : Wd h) (hT : TXm ch N h) (h19 : h 120 19 = (p : Int)) (hp : p ≤ N) (h29 : h 120 29 = ((100 * f + v0 : Nat) : Int)) (hv : v0 ≤ p) (hf4 : f ≤ 4) (hq : q < 50)
    (hok : (eiS ch (sgS ch 4) p).1 = true → ∀ h2 : HH, FG q (100 * f + v0) h h2 → h2 120 19 = ((eiS ch (sgS ch 4) p).2.1 : Int) → h2 120 29 = ((100 * f + v0 + (eiS ch (sgS ch 4) p).2.2.length : Nat) : Int) → h2 134 q = ((100 * f + v0 : Nat) : Int) → h2 135 q = ((100 * f + v0 + (eiS ch (sgS ch 4) p).2.2.length : Nat) : Int) → (∀ j, j < (eiS ch (sgS ch 4) p).2.2.length → h2 136 (100 * f + v0 + j) = mS ((eiS ch (sgS ch 4) p).2.2.getD j z4)) → h2 132 q = h 132 q → h2 133 q = h 133 q → K (some (xi 1)) h2 al)
    (hno : (eiS ch (sgS ch 4) p).1 = false → ∀ h2 : HH, FG q (100 * f + v0) h h2 → h2 120 19 = ((eiS ch (sgS ch 4) p).2.1 : Int) → K (some (xi 0)) h2 al) : Call g (d + 5) yMo_takesE [xr 120, xi (q : Int)] h al K := by
  have hfb : FG q (100 * f + v0) h (uH (uH (uH h 120 30 0) 120 31 0) 134 q (h 120 29)) := ((FG.refl.up (by omega)).up (by omega)).up (by omega)
  have hTb := hT.fg hfb
  have hWb := hfb.wd hW
  have e134 : uH (uH (uH h 120 30 0) 120 31 0) 134 q (h 120 29) 134 q = ((100 * f + v0 : Nat) : Int) := by rw [uH_at]; exact h29
  have hm : MR q (100 * f + v0) (uH (uH (uH h 120 30 0) 120 31 0) 134 q (h 120 29)) (uH (uH (uH h 120 30 0) 120 31 0) 134 q (h 120 29)) p [] [] := by
    refine ⟨hWb, FE.refl, ?_, ?_, ⟨?_, ?_⟩, trivial, fun j hj => absurd hj (Nat.not_lt_zero _)⟩
    · rw [uH_ne (by omega), uH_ne (by omega), uH_ne (by omega)]
      exact h19
    · rw [uH_ne (by omega), uH_ne (by omega), uH_ne (by omega)]
      exact h29
    · rw [uH_ne (by omega), uH_ne (by omega), uH_at]
      rfl
    · rw [uH_ne (by omega), uH_at]
      rfl
  have t := E_all (g := g) (d := d) (al := al) (K := K) hTb hf4 hq hp hv hm (fun h1 h2 hm2 h35 => ?_) (fun h1 h2 w1 w2 w3 => hno h1 h2 (hfb.trans w2.fg) w3) none
  · obtain ⟨h0, rfl⟩ := id hW
    refine cof ocMo_takesE rfl (XW_t4 [22] 60 okMo_takesE ?_)
    refine ⟨q, rfl, by show q < 50; exact hq, ?_⟩
    exact t
  · obtain ⟨-, m2, m3, m4, -, -, m8⟩ := hm2
    exact hok h1 h2 (hfb.trans m2.fg) m3 m4 ((m2 134 q (by omega) (by decide) (by omega) (by omega)).trans e134) h35 m8 ((m2 132 q (by omega) (by decide) (by omega) (by omega)).trans ((uH_ne (by omega)).trans ((uH_ne (by omega)).trans (uH_ne (by omega))))) ((m2 133 q (by omega) (by decide) (by omega) (by omega)).trans ((uH_ne (by omega)).trans ((uH_ne (by omega)).trans (uH_ne (by omega)))))
set_option maxRecDepth 8000 in
theorem c_takesHead {w : Nat} (hW : Wd h) (hT : TXm ch N h) (h19 : h 120 19 = (p : Int)) (hp : p ≤ N) (h138 : ∀ k : Nat, k < 20 → h 138 k = leT.getD k 0) (hq : q < 50) (ew : w = if bgS (ch p) = 5 then 4 else bgS (ch p)) (hK : ∀ h2 : HH, FG q (100 * f + v0) h h2 → h2 120 19 = ((lwS ch (wdS w) p).2 : Int) → h2 120 29 = h 120 29 → h2 132 q = (w : Int) → K (some (xi (bI (lwS ch (wdS w) p).1))) h2 al) : Call g (d + 4) yMo_takesHead [xr 120, xi (q : Int)] h al K := by
  have key : ∀ (w2 : Nat) (h1 : HH), w2 ≤ 4 → w = w2 → h1 = uH h 132 q (w2 : Int) → Call g (d + 3) yMo_takesWord [xr 120, xi (wfT.getD w2 0 : Int), xi (wmT.getD w2 0 : Int)] h1 al (fun v h' al' => ∃ z, v = some (xi z) ∧ (z = 0 ∨ z = 1) ∧ K v h' al') := by
    intro w2 h1 hw2 e e1
    subst e e1
    have hf1 : FG q (100 * f + v0) h (uH h 132 q (w : Int)) := FG.refl.up (by omega)
    refine c_takesWord hw2 (hf1.wd hW) (hT.fg hf1) ((uH_ne (by omega)).trans h19) hp (fun k hk => (uH_ne (by omega)).trans (h138 k hk)) fun h2 hf2 hp2 => ⟨_, rfl, ?_, ?_⟩
    · unfold bI
      split
      · exact Or.inr rfl
      · exact Or.inl rfl
    · exact hK h2 (hf1.trans hf2.fg) hp2 ((hf2 _ _ (by omega)).trans (uH_ne (by omega))) ((hf2 _ _ (by omega)).trans uH_at)
  unfold bgS at ew
  have hW2 := hW
  obtain ⟨h0, rfl⟩ := hW
  refine cof ocMo_takesHead rfl (XW_t4 [61, 75, 90, 105, 120] 60 okMo_takesHead ?_)
  refine c_Mnext hW2 hT h19 fun r hr => ?_
  unfold nxr at hr
  have call_m : ∀ {y : MethodName} {As : SL} {h1 : HH} {K1 K2 : KT}, Call g (d + 3) y As h1 al K1 → (∀ v h' al', K1 v h' al' → K2 v h' al') → Call g (d + 3) y As h1 al K2 := fun c m => by
    obtain ⟨a, b, c2, c3, c4⟩ := c
    exact ⟨a, b, c2, c3, m _ _ _ c4⟩
  refine ite_i (fun q1 => ?_) (fun q1 => ite_i (fun q2 => ?_) (fun q2 => ite_i (fun q3 => ?_) (fun q3 => ite_i (fun q4 => ?_) (fun q4 => ?_))))
  · have q1 : r = 98 := q1
    have e : w = 1 := by rw [ew, if_neg (show ¬ ch p = 102 by omega), if_pos (show ch p = 98 by omega)]; rfl
    refine ⟨q, rfl, by show q < 50; exact hq, ?_⟩
    refine call_m (key 1 _ (by decide) e rfl) fun v h' al' hk => ?_
    obtain ⟨z, rfl, z2, z3⟩ := hk
    refine XW_t4 [] 20 okMo_takesHead ?_
    exact ⟨z2, z3⟩
  · have q1 : ¬ r = 98 := q1
    have q2 : r = 99 := q2
    have e : w = 2 := by rw [ew, if_neg (show ¬ ch p = 102 by omega), if_neg (show ¬ ch p = 98 by omega), if_pos (show ch p = 99 by omega)]; rfl
    refine ⟨q, rfl, by show q < 50; exact hq, ?_⟩
    refine call_m (key 2 _ (by decide) e rfl) fun v h' al' hk => ?_
    obtain ⟨z, rfl, z2, z3⟩ := hk
    refine XW_t4 [] 20 okMo_takesHead ?_
    exact ⟨z2, z3⟩
  · have q3 : r = 102 := q3
    have e : w = 0 := by rw [ew, if_pos (show ch p = 102 by omega)]; rfl
    refine ⟨q, rfl, by show q < 50; exact hq, ?_⟩
    refine call_m (key 0 _ (by decide) e rfl) fun v h' al' hk => ?_
    obtain ⟨z, rfl, z2, z3⟩ := hk
    refine XW_t4 [] 20 okMo_takesHead ?_
    exact ⟨z2, z3⟩
  · have q4 : r = 112 := q4
    have e : w = 3 := by rw [ew, if_neg (show ¬ ch p = 102 by omega), if_neg (show ¬ ch p = 98 by omega), if_neg (show ¬ ch p = 99 by omega), if_pos (show ch p = 112 by omega)]; rfl
    refine ⟨q, rfl, by show q < 50; exact hq, ?_⟩
    refine call_m (key 3 _ (by decide) e rfl) fun v h' al' hk => ?_
    obtain ⟨z, rfl, z2, z3⟩ := hk
    refine XW_t4 [] 20 okMo_takesHead ?_
    exact ⟨z2, z3⟩
  · have q1 : ¬ r = 98 := q1
    have q2 : ¬ r = 99 := q2
    have q3 : ¬ r = 102 := q3
    have q4 : ¬ r = 112 := q4
    have e : w = 4 := by
      rw [ew, if_neg (show ¬ ch p = 102 by omega), if_neg (show ¬ ch p = 98 by omega), if_neg (show ¬ ch p = 99 by omega), if_neg (show ¬ ch p = 112 by omega)]
      split
      · rfl
      · rename_i q9
        split
        · rfl
        · rename_i q8
          exact absurd rfl q8
    refine ⟨q, rfl, by show q < 50; exact hq, ?_⟩
    refine call_m (key 4 _ (by decide) e rfl) fun v h' al' hk => ?_
    obtain ⟨z, rfl, z2, z3⟩ := hk
    refine XW_t4 [] 20 okMo_takesHead ?_
    exact ⟨z2, z3⟩
set_option maxRecDepth 8000 in
theorem c_takesClause (hW : Wd h) (hT : TXm ch N h) (h19 : h 120 19 = (p : Int)) (hp : p ≤ N) (h29 : h 120 29 = ((100 * f + v0 : Nat) : Int)) (hv : v0 ≤ p) (hf4 : f ≤ 4) (hq : q < 50) (h138 : ∀ k : Nat, k < 20 → h 138 k = leT.getD k 0)
    (hok : (clS ch p).1 = true → ∀ h2 : HH, FG q (100 * f + v0) h h2 → h2 120 19 = ((clS ch p).2.1 : Int) → h2 120 29 = ((100 * f + v0 + (clS ch p).2.2.2.2.length : Nat) : Int) → h2 132 q = ((clS ch p).2.2.1 : Int) → h2 133 q = ((clS ch p).2.2.2.1 : Int) → ((clS ch p).2.2.1 < 3 → h2 134 q = ((100 * f + v0 : Nat) : Int) ∧ h2 135 q = ((100 * f + v0 + (clS ch p).2.2.2.2.length : Nat) : Int) ∧ ∀ j, j < (clS ch p).2.2.2.2.length → h2 136 (100 * f + v0 + j) = mS ((clS ch p).2.2.2.2.getD j z4)) → K (some (xi 1)) h2 al)
    (hno : (clS ch p).1 = false → ∀ h2 : HH, FG q (100 * f + v0) h h2 → h2 120 19 = ((clS ch p).2.1 : Int) → K (some (xi 0)) h2 al) : Call g (d + 6) yMo_takesClause [xr 120, xi (q : Int)] h al K := by
  have t4 := hT.2.2.2
  have hN := hT.2.1
  obtain ⟨w, ew⟩ : ∃ w, w = if bgS (ch p) = 5 then 4 else bgS (ch p) := ⟨_, rfl⟩
  have hw4 : w ≤ 4 := by
    have := bgS_le (x := ch p)
    rw [ew]
    split <;> omega
  obtain ⟨a1, a2, a3⟩ := lwS_ok t4 (wdS w) p (wdS_0 w) hp
  -- the head alone tells whether the first letter is one
  have hcl : clS ch p = if (lwS ch (wdS w) p).1 = true then (if (nuS ch (lwS ch (wdS w) p).2).1 = true then c2S ch w (nuS ch (lwS ch (wdS w) p).2).2.1 (nuS ch (lwS ch (wdS w) p).2).2.2 else (false, (nuS ch (lwS ch (wdS w) p).2).2.1, c00)) else (false, (lwS ch (wdS w) p).2, c00) := by
    unfold clS
    by_cases h1 : bgS (ch p) = 5
    · rw [if_pos h1] at ew ⊢
      have hc : ch p ≠ 107 := fun q => by rw [q] at h1; exact absurd h1 (by decide)
      have hl : lwS ch (wdS w) p = (false, p) := by
        rw [ew]
        show (if ch p = 107 then lwS ch [101, 101, 112, 32] (p + 1) else (false, p)) = _
        rw [if_neg hc]
      rw [hl]
      rfl
    · rw [if_neg h1] at ew ⊢
      rw [ew]
  rw [hcl] at hok hno
  -- behind the number
  have k17 : ∀ (h4 : HH) (p4 n : Nat), FG q (100 * f + v0) h h4 → h4 120 19 = (p4 : Int) → h4 120 29 = ((100 * f + v0 : Nat) : Int) → h4 132 q = (w : Int) → h4 120 20 = (n : Int) → v0 ≤ p4 → p4 ≤ N →
      ((c2S ch w p4 n).1 = true → ∀ h2 : HH, FG q (100 * f + v0) h h2 → h2 120 19 = ((c2S ch w p4 n).2.1 : Int) → h2 120 29 = ((100 * f + v0 + (c2S ch w p4 n).2.2.2.2.length : Nat) : Int) → h2 132 q = ((c2S ch w p4 n).2.2.1 : Int) → h2 133 q = ((c2S ch w p4 n).2.2.2.1 : Int) → ((c2S ch w p4 n).2.2.1 < 3 → h2 134 q = ((100 * f + v0 : Nat) : Int) ∧ h2 135 q = ((100 * f + v0 + (c2S ch w p4 n).2.2.2.2.length : Nat) : Int) ∧ ∀ j, j < (c2S ch w p4 n).2.2.2.2.length → h2 136 (100 * f + v0 + j) = mS ((c2S ch w p4 n).2.2.2.2.getD j z4)) → K (some (xi 1)) h2 al) →
      ((c2S ch w p4 n).1 = false → ∀ h2 : HH, FG q (100 * f + v0) h h2 → h2 120 19 = ((c2S ch w p4 n).2.1 : Int) → K (some (xi 0)) h2 al) → XW g (d + 5) mMo_takesClause K 17 [some (xr 120), some (xi (q : Int))] [] h4 al := by
    intro h4 p4 n hf4' e19 e29 e132 e20 hv4 hp4 hok hno
    have hf5 : FG q (100 * f + v0) h (uH h4 133 q (h4 120 20)) := hf4'.up (by omega)
    have e19' : uH h4 133 q (h4 120 20) 120 19 = (p4 : Int) := (uH_ne (by omega)).trans e19
    have e29' : uH h4 133 q (h4 120 20) 120 29 = ((100 * f + v0 : Nat) : Int) := (uH_ne (by omega)).trans e29
    have e132' : uH h4 133 q (h4 120 20) 132 q = (w : Int) := (uH_ne (by omega)).trans e132
    have e133' : uH h4 133 q (h4 120 20) 133 q = (n : Int) := by rw [uH_at]; exact e20
    have hT5 := hT.fg hf5
    have hW5 := hf5.wd hW
    have hW4 := hf4'.wd hW
    unfold c2S at hok hno
    by_cases h3 : w < 3
    · rw [if_pos h3] at hok hno
      obtain ⟨h4', rfl⟩ := hW4
      refine XW_t4 [54, 58] 80 okMo_takesClause ?_
      refine ⟨q, rfl, by show q < 50; exact hq, ?_⟩
      refine ⟨q, rfl, by show q < 50; exact hq, (w : Int), e132', ?_⟩
      refine ite_t (show (w : Int) < 3 by omega) ?_
      refine c_takes (p := p4) (h := uH (wr h4') 133 q (wr h4' 120 20)) (by decide) hW5 hT5 e19' (fun q5 h6 hf6 hp6 => ?_) (fun q5 => ?_)
      · rw [if_pos q5] at hok hno
        have l1 := ch_lt t4 (p := p4) (by omega)
        have hf6' := hf5.trans (hf6.fg (q := q) (s0 := 100 * f + v0))
        have hf6g : FG q (100 * f + v0) (uH (wr h4') 133 q (wr h4' 120 20)) h6 := hf6.fg
        refine c_takesE (v0 := v0) (f := f) (p := p4 + 1) (hf6'.wd hW) (hT.fg hf6') hp6 (by omega) ((hf6 _ _ (by omega)).trans e29') (by omega) hf4 hq (fun q6 h7 g1 g2 g3 g4 g5 g6 g7 g8 => ?_) (fun q6 h7 g1 g2 => ?_)
        · rw [if_pos q6] at hok
          refine XW_t4 [] 20 okMo_takesClause ?_
          exact ⟨Or.inr rfl, hok rfl h7 (hf6'.trans g1) g2 g3 (g7.trans ((hf6 _ _ (by omega)).trans e132')) (g8.trans ((hf6 _ _ (by omega)).trans e133')) (fun _ => ⟨g4, g5, g6⟩)⟩
        · rw [if_neg (by rw [q6]; decide)] at hno
          refine XW_t4 [] 20 okMo_takesClause ?_
          exact ⟨Or.inl rfl, hno rfl h7 (hf6'.trans g1) g2⟩
      · rw [if_neg q5] at hno
        refine XW_t4 [] 20 okMo_takesClause ?_
        exact ⟨Or.inl rfl, hno rfl _ hf5 e19'⟩
    · rw [if_neg h3] at hok
      have fin := hok rfl (uH h4 133 q (h4 120 20)) hf5 e19' e29' e132' e133' (fun q => absurd q h3)
      obtain ⟨h4', rfl⟩ := hW4
      refine XW_t4 [54, 58] 80 okMo_takesClause ?_
      refine ⟨q, rfl, by show q < 50; exact hq, ?_⟩
      refine ⟨q, rfl, by show q < 50; exact hq, (w : Int), e132', ?_⟩
      refine ite_f (show ¬ (w : Int) < 3 by omega) ?_
      refine XW_t4 [] 20 okMo_takesClause ?_
      exact ⟨Or.inr rfl, fin⟩
  refine cof ocMo_takesClause rfl (XW_t4 [17] 60 okMo_takesClause ?_)
  refine c_takesHead (f := f) (v0 := v0) hW hT h19 hp h138 hq ew fun h2 hf2 e19 e29 e132 => ?_
  by_cases q1 : (lwS ch (wdS w) p).1 = true
  · rw [if_pos q1] at hok hno
    refine ite_f (show ¬ bI (lwS ch (wdS w) p).1 = 0 by rw [show bI (lwS ch (wdS w) p).1 = 1 from if_pos q1]; decide) ?_
    obtain ⟨b1, b2, b3, b4⟩ := nuS_ok t4 (p := (lwS ch (wdS w) p).2) a2
    refine c_takesNumber (hf2.wd hW) (hT.fg hf2) e19 a2 fun h4 hf4' e19' e20 => ?_
    by_cases q2 : (nuS ch (lwS ch (wdS w) p).2).1 = true
    · rw [if_pos q2] at hok hno
      refine ite_f (show ¬ bI (nuS ch (lwS ch (wdS w) p).2).1 = 0 by rw [show bI (nuS ch (lwS ch (wdS w) p).2).1 = 1 from if_pos q2]; decide) ?_
      exact k17 h4 _ _ (hf2.trans hf4'.fg) e19' ((hf4' _ _ (by omega)).trans (e29.trans h29)) ((hf4' _ _ (by omega)).trans e132) (e20 q2) (by omega) b2 hok hno
    · rw [if_neg q2] at hno
      refine ite_t (show bI (nuS ch (lwS ch (wdS w) p).2).1 = 0 from if_neg q2) ?_
      exact ⟨Or.inl rfl, hno rfl h4 (hf2.trans hf4'.fg) e19'⟩
  · rw [if_neg q1] at hno
    refine ite_t (show bI (lwS ch (wdS w) p).1 = 0 from if_neg q1) ?_
    exact ⟨Or.inl rfl, hno rfl h2 hf2 e19⟩
end RF4
