-- feed
theorem aI_255 (x : Int) : aI x 255 = x % 256 := by
  unfold aI
  show ((Int32.ofInt x &&& Int32.ofInt 255).toBitVec).toInt = _
  rw [Int32.toBitVec_and]
  have e0 : (BitVec.ofInt 32 x).toNat = (x % 4294967296).toNat := by rw [BitVec.toNat_ofInt]; rfl
  have hn : ((Int32.ofInt x).toBitVec &&& (Int32.ofInt 255).toBitVec).toNat = (x % 4294967296).toNat % 256 := by
    rw [BitVec.toNat_and]
    show (BitVec.ofInt 32 x).toNat &&& 255 = _
    rw [e0]
    exact Nat.and_two_pow_sub_one_eq_mod _ 8
  rw [BitVec.toInt_eq_toNat_of_lt (by rw [hn]; omega), hn]
  omega
def xB (w : Int) (b : Nat) : Int := aI (shrI w (wI (8 * (b : Int)))) 255
def yB (w : Int) (b : Nat) : Int := wB (shrI w (wI (8 * (b : Int))))
theorem xB_yB (w : Int) (b : Nat) : xB w b = yB w b % 256 ∧ -128 ≤ yB w b ∧ yB w b < 128 := by
  unfold xB yB
  rw [aI_255]
  generalize shrI w (wI (8 * (b : Int))) = x
  unfold wB
  omega
/-- n bytes more, from sz on -/
def fed (f : Nat → Int) (B : Nat → Int) (sz n : Nat) (k : Nat) : Int := if sz ≤ k ∧ k < sz + n then B (n - 1 - (k - sz)) else f k
section FE
variable {g : GC} {d : Nat} {h : HH} {al : AL} {K : KT}
theorem c_append {w ni : Int} {n sz : Nat} (hW : Wd h) (en : ni = (n : Int)) (hn : n ≤ 4) (hsz : h 40 1 = (sz : Int)) (hs : sz ≤ 100) (hK1 : 100 < sz + n → K (some (xi 0)) h al)
    (hK : sz + n ≤ 100 → ∀ h2 : HH, (∀ a k, a ≠ 41 → ¬ (a = 40 ∧ k = 1) → h2 a k = h a k) → h2 40 1 = ((sz + n : Nat) : Int) → (∀ k, h2 41 k = if sz ≤ k ∧ k < sz + n then xB w (n - 1 - (k - sz)) else h 41 k) → K (some (xi 1)) h2 al) : Call g (d + 2) yTe_append [xr 40, xi w, xi ni] h al K := by
  subst en
  have loop : sz + n ≤ 100 → ∀ (m j : Nat) (h3 : HH), j + m = n → (∀ a k, a ≠ 41 → ¬ (a = 40 ∧ k = 1) → h3 a k = h a k) → h3 40 1 = ((sz + j : Nat) : Int) → (∀ k, h3 41 k = if sz ≤ k ∧ k < sz + j then xB w (n - 1 - (k - sz)) else h 41 k) → XW g (d + 1) mTe_append K 21 [some (xr 40), some (xi w), some (xi (n : Int)), some (xi ((n : Int) - 1 - (j : Int)))] [] h3 al := by
    intro h100 m
    induction m with
    | zero =>
      intro j h3 hj hf e1 e41
      have ej : j = n := by omega
      subst ej
      have t := hK h100 h3 hf e1 e41
      have hW3 : Wd h3 := hW.of fun a k hk => hf a k (by rintro rfl; exact hk (by show (-9 : Int) < 0; decide)) (by rintro ⟨rfl, rfl⟩; exact hk (by decide))
      obtain ⟨h3', rfl⟩ := hW3
      refine XW_t4 [21] 40 okTe_append ?_
      refine ite_t (show (j : Int) - 1 - (j : Int) < 0 by omega) ?_
      exact ⟨Or.inr rfl, t⟩
    | succ m ih =>
      intro j h3 hj hf e1 e41
      have hW3 : Wd h3 := hW.of fun a k hk => hf a k (by rintro rfl; exact hk (by show (-9 : Int) < 0; decide)) (by rintro ⟨rfl, rfl⟩; exact hk (by decide))
      obtain ⟨b, eb⟩ : ∃ b, b = n - 1 - j := ⟨_, rfl⟩
      have ei : (n : Int) - 1 - (j : Int) = (b : Int) := by omega
      have ew : wI ((b : Int) + -1) = (n : Int) - 1 - ((j + 1 : Nat) : Int) := by rw [wI_id (by omega)]; omega
      have t := ih (j + 1) (uH (uH h3 41 (sz + j) (xB w b)) 40 1 (wI (h3 40 1 + 1))) (by omega) (fun a k q1 q2 => by
        rw [uH_ne q2, uH_ne (fun q => q1 q.1)]
        exact hf a k q1 q2) (by rw [uH_at, e1, nS _ (by omega)]; rfl) (fun k => by
        rw [uH_ne (fun q => absurd q.1 (by decide)), uH_r]
        by_cases e : k = sz + j
        · rw [if_pos e, if_pos ⟨by omega, by omega⟩, eb]
          congr 1
          omega
        · rw [if_neg e, e41 k]
          by_cases e2 : sz ≤ k ∧ k < sz + j
          · rw [if_pos e2, if_pos ⟨e2.1, by omega⟩]
          · rw [if_neg e2, if_neg (by omega)])
      rw [← ew] at t
      clear ew
      rw [ei]
      obtain ⟨h3', rfl⟩ := id hW3
      refine XW_t4 [21] 60 okTe_append ?_
      refine c_putE (o := 41) (j := sz + j) rfl e1 (by show sz + j < 100; omega) ?_
      exact t
  have ea : wI ((sz : Int) + (n : Int)) = (sz : Int) + (n : Int) := wI_id (by omega)
  have eb : wI ((n : Int) - 1) = (n : Int) - 1 - ((0 : Nat) : Int) := by rw [wI_id (by omega)]; omega
  have lp := fun q => loop q n 0 h (by omega) (fun _ _ _ _ => rfl) hsz (fun k => by rw [if_neg (by omega)])
  rw [← eb] at lp
  clear eb
  obtain ⟨h0, rfl⟩ := id hW
  refine cof ocTe_append rfl (XW_t4 [21] 40 okTe_append ?_)
  have ec : wI (wr h0 40 1 + (n : Int)) = (sz : Int) + (n : Int) := by rw [hsz]; exact ea
  refine ite_i (fun q => ?_) (fun q => ?_)
  · have q : 100 < wI (wr h0 40 1 + (n : Int)) := q
    rw [ec] at q
    exact ⟨Or.inl rfl, hK1 (by omega)⟩
  · have q : ¬ 100 < wI (wr h0 40 1 + (n : Int)) := q
    rw [ec] at q
    exact lp (by omega)
theorem c_Mfeed {w ni : Int} {n sz : Nat} (hW : Wd h) (en : ni = (n : Int)) (hn : n ≤ 4) (hsz : h 120 18 = (sz : Int)) (hs : sz ≤ 100) (hK1 : 100 < sz + n → K (some (xi (-4))) h al)
    (hK : sz + n ≤ 100 → ∀ h2 : HH, (∀ a k, a ≠ 130 → ¬ (a = 120 ∧ k = 18) → h2 a k = h a k) → h2 120 18 = ((sz + n : Nat) : Int) → (∀ k, h2 130 k = if sz ≤ k ∧ k < sz + n then yB w (n - 1 - (k - sz)) else h 130 k) → K (some (xi ((sz + n : Nat) : Int))) h2 al) : Call g (d + 2) yMo_feed [xr 120, xi w, xi ni] h al K := by
  subst en
  have loop : sz + n ≤ 100 → ∀ (m j : Nat) (h3 : HH), j + m = n → (∀ a k, a ≠ 130 → ¬ (a = 120 ∧ k = 18) → h3 a k = h a k) → h3 120 18 = ((sz + j : Nat) : Int) → (∀ k, h3 130 k = if sz ≤ k ∧ k < sz + j then yB w (n - 1 - (k - sz)) else h 130 k) → XW g (d + 1) mMo_feed K 31 [some (xr 120), some (xi w), some (xi (n : Int)), some (xi ((n : Int) - 1 - (j : Int)))] [] h3 al := by
    intro h100 m
    induction m with
    | zero =>
      intro j h3 hj hf e1 e41
      have ej : j = n := by omega
      subst ej
      have t := hK h100 h3 hf e1 e41
      rw [← e1] at t
      have hW3 : Wd h3 := hW.of fun a k hk => hf a k (by rintro rfl; exact hk (by show (-9 : Int) < 0; decide)) (by rintro ⟨rfl, rfl⟩; exact hk (by decide))
      obtain ⟨h3', rfl⟩ := hW3
      refine XW_t4 [31] 40 okMo_feed ?_
      refine ite_t (show (j : Int) - 1 - (j : Int) < 0 by omega) ?_
      exact t
    | succ m ih =>
      intro j h3 hj hf e1 e41
      have hW3 : Wd h3 := hW.of fun a k hk => hf a k (by rintro rfl; exact hk (by show (-9 : Int) < 0; decide)) (by rintro ⟨rfl, rfl⟩; exact hk (by decide))
      obtain ⟨b, eb⟩ : ∃ b, b = n - 1 - j := ⟨_, rfl⟩
      have ei : (n : Int) - 1 - (j : Int) = (b : Int) := by omega
      have ew : wI ((b : Int) + -1) = (n : Int) - 1 - ((j + 1 : Nat) : Int) := by rw [wI_id (by omega)]; omega
      have t := ih (j + 1) (uH (uH h3 130 (sz + j) (yB w b)) 120 18 (wI (h3 120 18 + 1))) (by omega) (fun a k q1 q2 => by
        rw [uH_ne q2, uH_ne (fun q => q1 q.1)]
        exact hf a k q1 q2) (by rw [uH_at, e1, nS _ (by omega)]; rfl) (fun k => by
        rw [uH_ne (fun q => absurd q.1 (by decide)), uH_r]
        by_cases e : k = sz + j
        · rw [if_pos e, if_pos ⟨by omega, by omega⟩, eb]
          congr 1
          omega
        · rw [if_neg e, e41 k]
          by_cases e2 : sz ≤ k ∧ k < sz + j
          · rw [if_pos e2, if_pos ⟨e2.1, by omega⟩]
          · rw [if_neg e2, if_neg (by omega)])
      rw [← ew] at t
      clear ew
      rw [ei]
      obtain ⟨h3', rfl⟩ := id hW3
      refine XW_t4 [31] 60 okMo_feed ?_
      refine ⟨sz + j, e1, by show sz + j < 100; omega, ?_⟩
      exact t
  have ea : wI ((sz : Int) + (n : Int)) = (sz : Int) + (n : Int) := wI_id (by omega)
  have eb : wI ((n : Int) - 1) = (n : Int) - 1 - ((0 : Nat) : Int) := by rw [wI_id (by omega)]; omega
  have lp := fun q => loop q n 0 h (by omega) (fun _ _ _ _ => rfl) hsz (fun k => by rw [if_neg (by omega)])
  rw [← eb] at lp
  clear eb
  obtain ⟨h0, rfl⟩ := id hW
  refine cof ocMo_feed rfl (XW_t4 [31] 40 okMo_feed ?_)
  refine c_in (fun _ => ?_) (fun q => absurd (show (0 : Int) ≤ (n : Int) ∧ (n : Int) ≤ 4 by omega) q)
  have ec : wI (wr h0 120 18 + (n : Int)) = (sz : Int) + (n : Int) := by rw [hsz]; exact ea
  refine ite_i (fun q => ?_) (fun q => ?_)
  · have q : 100 < wI (wr h0 120 18 + (n : Int)) := q
    rw [ec] at q
    exact hK1 (by omega)
  · have q : ¬ 100 < wI (wr h0 120 18 + (n : Int)) := q
    rw [ec] at q
    exact lp (by omega)
theorem s_feed {w n : Int} (hS : Sim h al) : Call g (d + 4) yBy_feed [xr 0, xi w, xi n] h al (fun v h1 al1 => Call g (d + 4) yMo_feed [xr 120, xi w, xi n] h1 al1 (Ok2 v)) := by
  have hW := hS.1
  obtain ⟨⟨t1, t2, t3⟩, t4⟩ := hS.2.2.2.2.1
  obtain ⟨sz, esz⟩ : ∃ sz : Nat, h 120 18 = (sz : Int) := ⟨(h 120 18).toNat, by omega⟩
  have esz2 : h 40 1 = (sz : Int) := t1.trans esz
  have hW2 := hW
  obtain ⟨h0, rfl⟩ := id hW
  refine cof ocBy_feed rfl (XW_t4 [] 40 okBy_feed ?_)
  refine c_within (fun q => ?_) (fun q => ?_)
  · obtain ⟨m, em⟩ : ∃ m : Nat, n = (m : Int) := ⟨n.toNat, by omega⟩
    subst em
    refine c_append hW2 rfl (by omega) esz2 (by omega) (fun q2 => ?_) (fun q2 h2 hf e1 e41 => ?_)
    · exact c_Mfeed hW2 rfl (by omega) esz (by omega) (fun _ => ⟨⟨_, rfl, rfl⟩, hS⟩) (fun q3 => absurd q3 (by omega))
    · have hW3 : Wd h2 := hW2.of fun a k hk => hf a k (by rintro rfl; exact hk (by show (-9 : Int) < 0; decide)) (by rintro ⟨rfl, rfl⟩; exact hk (by decide))
      have esz3 : h2 120 18 = (sz : Int) := (hf _ _ (by decide) (by decide)).trans esz
      have go : ∀ z : Int, z = ((sz + m : Nat) : Int) → Call g (d + 4) yMo_feed [xr 120, xi w, xi (m : Int)] h2 al (Ok2 (some (xi z))) := by
        intro z ez
        refine c_Mfeed hW3 rfl (by omega) esz3 (by omega) (fun q3 => absurd q3 (by omega)) (fun _ h3 hf3 e3 e130 => ⟨⟨z, rfl, by rw [ez]⟩, ?_⟩)
        have f : ∀ a k, a ≠ 41 → ¬ (a = 40 ∧ k = 1) → a ≠ 130 → ¬ (a = 120 ∧ k = 18) → h3 a k = wr h0 a k := fun a k q1 q2 q3 q4 => (hf3 a k q3 q4).trans (hf a k q1 q2)
        have hW4 : Wd h3 := hW3.of fun a k hk => hf3 a k (by rintro rfl; exact hk (by show (-9 : Int) < 0; decide)) (by rintro ⟨rfl, rfl⟩; exact hk (by decide))
        have e401 : h3 40 1 = ((sz + m : Nat) : Int) := (hf3 _ _ (by decide) (by decide)).trans e1
        refine hS.mk2 hW4 (Or.inr fun a k hk => f a k ?_ ?_ ?_ ?_) (Or.inr fun a k hk => f a k ?_ ?_ ?_ ?_) (Or.inr ⟨fun a k hk => f a k ?_ ?_ ?_ ?_, fun _ _ _ => rfl⟩) (Or.inl ⟨⟨e401.trans e3.symm, by omega, by omega⟩, fun k hk hk2 => ?_⟩) (Or.inr fun a k hk => f a k ?_ ?_ ?_ ?_) (Or.inr fun a k hk => f a k ?_ ?_ ?_ ?_) (fun a k hk => f a k ?_ ?_ ?_ ?_) (Or.inr ⟨fun a k hk => f a k ?_ ?_ ?_ ?_, fun _ _ => rfl⟩)
        rotate_left 12
        · rw [hf3 41 k (by decide) (by omega), e41 k, e130 k, hf 130 k (by decide) (by omega)]
          by_cases e : sz ≤ k ∧ k < sz + m
          · rw [if_pos e, if_pos e]
            exact xB_yB _ _
          · rw [if_neg e, if_neg e]
            exact t4 k hk (by omega)
        all_goals first
          | (unfold pN at hk; omega)
          | (unfold pI at hk; omega)
          | (unfold pH at hk; omega)
          | (unfold pP at hk; omega)
          | (unfold pC at hk; omega)
          | (unfold pK at hk; omega)
          | (unfold pV at hk; omega)
      obtain ⟨h2', rfl⟩ := id hW3
      exact go _ e1
  · refine cof ocMo_feed rfl (XW_t4 [] 40 okMo_feed ?_)
    exact c_in (fun q2 => absurd q2 q) (fun _ => ⟨⟨_, rfl, rfl⟩, hS⟩)
end FE
