-- a holder comes
section Q15
variable {g : GC} {d : Nat} {h : HH} {al : AL} {K : KT}
theorem c_HoInit {ho : Nat} {n k v : Int} (hh : HN ho) (hal : al (ho + 1) = false) (hK : ∀ (h2 : HH), (∀ a j, a ≠ ho → a ≠ ho + 1 → h2 a j = h a j) → h2 ho 0 = n → h2 ho 1 = k → h2 ho 2 = v → h2 ho 3 = ((ho + 1 : Nat) : Int) → (∀ j, j < 10 → h2 (ho + 1) j = -5) → K none h2 (upA al (ho + 1))) : Call g (d + 2) yHo_init [xr (Int.ofNat ho), xi n, xi k, xi v] h al K := by
  obtain ⟨k0, k1⟩ := hh.k
  have l1 := hh.l g
  refine cof ocHo_init rfl (XW_t4 [] 80 okHo_init ?_)
  refine ⟨ho + 1, k1, hal, by rw [l1]; rfl, ?_⟩
  refine cond_i (by rw [k0]; rfl) ⟨3, rfl, ?_⟩
  refine cond_i (by rw [k0]; rfl) ⟨0, rfl, ?_⟩
  refine cond_i (by rw [k0]; rfl) ⟨1, rfl, ?_⟩
  refine cond_i (by rw [k0]; rfl) ⟨2, rfl, ?_⟩
  have e3 : (uH (uH (uH (uH (clr h (ho + 1)) ho 3 (Int.ofNat (ho + 1))) ho 0 n) ho 1 k) ho 2 v) ho 3 = Int.ofNat (ho + 1) := by rw [uH_ne (by omega), uH_ne (by omega), uH_ne (by omega), uH_at]
  refine cond_i (by rw [k0]; rfl) ⟨_, e3, ?_⟩
  refine c_fillI k1 (by rw [l1]; decide) fun f hf _ => ?_
  refine hK _ (fun a j q1 q2 => ?_) ?_ ?_ ?_ ?_ (fun j hj => ?_)
  · rw [rowU_ne q2, uH_ne (by omega), uH_ne (by omega), uH_ne (by omega), uH_ne (by omega), clr_ne q2]
  · rw [rowU_ne (by omega), uH_ne (by omega), uH_ne (by omega), uH_at]
  · rw [rowU_ne (by omega), uH_ne (by omega), uH_at]
  · rw [rowU_ne (by omega), uH_at]
  · rw [rowU_ne (by omega), e3]; rfl
  · rw [rowU_at]
    exact hf j (by rw [l1]; exact hj)
set_option maxRecDepth 8000 in
theorem c_join {n : Nat} {k v : Int} (hW : Wd h) (h5 : h 1 5 = (n : Int)) (hn : n < 6) (hal : ∀ j, j < 4 → al (200 + 4 * n + j) = false)
    (hK : ∀ (h2 : HH) (al2 : AL), (∀ a j, ¬ (200 + 4 * n ≤ a ∧ a ≤ 203 + 4 * n) → ¬ (a = 2 ∧ j = n) → ¬ (a = 3 ∧ j = n) → ¬ (a = 1 ∧ j = 5) → h2 a j = h a j) → (∀ a, ¬ (200 + 4 * n ≤ a ∧ a ≤ 203 + 4 * n) → al2 a = al a) → h2 1 5 = ((n + 1 : Nat) : Int) → h2 2 n = ((200 + 4 * n : Nat) : Int) → h2 3 n = ((202 + 4 * n : Nat) : Int) →
      (h2 (200 + 4 * n) 0 = (n : Int) ∧ h2 (200 + 4 * n) 1 = k ∧ h2 (200 + 4 * n) 2 = v ∧ h2 (200 + 4 * n) 3 = ((201 + 4 * n : Nat) : Int) ∧ ∀ j, j < 10 → h2 (201 + 4 * n) j = -5) → (h2 (202 + 4 * n) 0 = (n : Int) ∧ h2 (202 + 4 * n) 1 = 3 ∧ h2 (202 + 4 * n) 2 = 9 ∧ h2 (202 + 4 * n) 3 = ((203 + 4 * n : Nat) : Int) ∧ ∀ j, j < 10 → h2 (203 + 4 * n) j = -5) → K none h2 al2) :
    Call g (d + 3) yLa_join [xr 1, xi k, xi v] h al K := by
  have ha : HN (200 + 4 * n) := ⟨2 * n, by omega, by omega⟩
  have hb : HN (202 + 4 * n) := ⟨2 * n + 1, by omega, by omega⟩
  obtain ⟨a0, a1⟩ := ha.k
  obtain ⟨b0, b1⟩ := hb.k
  have wlH : ∀ a, 200 ≤ a → a < 230 → wl a = [] := fun a q1 q2 => by
    have c : ck 230 (fun a => decide (200 ≤ a → wl a = [])) = true := by decide +kernel
    exact of_decide_eq_true (ck_of c q2) q1
  have hWf : ∀ h2 : HH, (∀ a j, ¬ (200 + 4 * n ≤ a ∧ a ≤ 203 + 4 * n) → ¬ (a = 2 ∧ j = n) → ¬ (a = 3 ∧ j = n) → ¬ (a = 1 ∧ j = 5) → h2 a j = h a j) → Wd h2 := fun h2 F => hW.of fun a j hk => F a j (by
      intro q
      exact hk (by rw [wlH a (by omega) (by omega)]; show (-9 : Int) < 0; decide)) (by
      rintro ⟨rfl, _⟩
      exact hk (by show (-9 : Int) < 0; decide)) (by
      rintro ⟨rfl, _⟩
      exact hk (by show (-9 : Int) < 0; decide)) (by
      rintro ⟨rfl, rfl⟩
      exact hk (by decide))
  -- the second
  have second : ∀ (h2 : HH) (al2 : AL), (∀ a j, ¬ (200 + 4 * n ≤ a ∧ a ≤ 201 + 4 * n) → ¬ (a = 2 ∧ j = n) → h2 a j = h a j) → (∀ a, ¬ (200 + 4 * n ≤ a ∧ a ≤ 201 + 4 * n) → al2 a = al a) → h2 2 n = ((200 + 4 * n : Nat) : Int) → (h2 (200 + 4 * n) 0 = (n : Int) ∧ h2 (200 + 4 * n) 1 = k ∧ h2 (200 + 4 * n) 2 = v ∧ h2 (200 + 4 * n) 3 = ((201 + 4 * n : Nat) : Int) ∧ ∀ j, j < 10 → h2 (201 + 4 * n) j = -5) →
      XW g (d + 2) mLa_join K 31 [some (xr 1), some (xi k), some (xi v)] [] h2 al2 := by
    intro h2 al2 F A e2 eA
    have f5 : h2 1 5 = (n : Int) := (F 1 5 (by omega) (by omega)).trans h5
    have hW2 := hWf h2 fun a j q1 q2 q3 q4 => F a j (by omega) q2
    have go : XW g (d + 2) mLa_join K 50 [some (xr 1), some (xi k), some (xi v)] [xi 9, xi 3, xi (n : Int), xr (Int.ofNat (202 + 4 * n)), xr (Int.ofNat (202 + 4 * n)), xi (n : Int), xr 3] (clr h2 (202 + 4 * n)) (upA al2 (202 + 4 * n)) := by
      refine XW_t4 [53] 40 okLa_join ?_
      refine cond_i (rcv_c b0 rfl rfl) ?_
      refine c_HoInit hb ((upA_ne (by omega)).trans ((A _ (by omega)).trans (by have := hal 3 (by decide); rwa [show 200 + 4 * n + 3 = 202 + 4 * n + 1 by omega] at this))) fun h3 F3 x0 x1 x2 x3 x4 => ?_
      have G3 : ∀ a j, ¬ (202 + 4 * n ≤ a ∧ a ≤ 203 + 4 * n) → h3 a j = h2 a j := fun a j q => (F3 a j (by omega) (by omega)).trans (clr_ne (by omega))
      have hW3 := hWf h3 fun a j q1 q2 q3 q4 => (G3 a j (by omega)).trans (F a j (by omega) q2)
      have f53 : h3 1 5 = (n : Int) := (G3 1 5 (by omega)).trans f5
      have done : ∀ z, z = ((n + 1 : Nat) : Int) → K none (uH (uH h3 3 n ((202 + 4 * n : Nat) : Int)) 1 5 z) (upA (upA al2 (202 + 4 * n)) (202 + 4 * n + 1)) := fun z hz => by
        have U : ∀ a j, ¬ (a = 3 ∧ j = n) → ¬ (a = 1 ∧ j = 5) → (uH (uH h3 3 n ((202 + 4 * n : Nat) : Int)) 1 5 z) a j = h3 a j := fun a j q1 q2 => by rw [uH_ne (by omega), uH_ne (by omega)]
        refine hK _ _ (fun a j q1 q2 q3 q4 => (U a j q3 q4).trans ((G3 a j (by omega)).trans (F a j (by omega) q2))) (fun a q => ?_) (by rw [uH_at]; exact hz) ((U _ _ (by omega) (by omega)).trans ((G3 _ _ (by omega)).trans e2)) (by rw [uH_ne (by omega), uH_at]) ?_ ⟨(U _ _ (by omega) (by omega)).trans x0, (U _ _ (by omega) (by omega)).trans x1, (U _ _ (by omega) (by omega)).trans x2, (U _ _ (by omega) (by omega)).trans (x3.trans (by omega)), fun j hj => (U _ _ (by omega) (by omega)).trans (by have := x4 j hj; rwa [show 202 + 4 * n + 1 = 203 + 4 * n by omega] at this)⟩
        · rw [upA_ne (by omega), upA_ne (by omega)]
          exact A a (by omega)
        · obtain ⟨y0, y1, y2, y3, y4⟩ := eA
          exact ⟨(U _ _ (by omega) (by omega)).trans ((G3 _ _ (by omega)).trans y0), (U _ _ (by omega) (by omega)).trans ((G3 _ _ (by omega)).trans y1), (U _ _ (by omega) (by omega)).trans ((G3 _ _ (by omega)).trans y2), (U _ _ (by omega) (by omega)).trans ((G3 _ _ (by omega)).trans y3), fun j hj => (U _ _ (by omega) (by omega)).trans ((G3 _ _ (by omega)).trans (y4 j hj))⟩
      have dn := done (wI (h3 1 5 + 1)) (by rw [f53]; exact nS n (by omega))
      obtain ⟨h3', rfl⟩ := id hW3
      show XW g (d + 2) mLa_join K 53 [some (xr 1), some (xi k), some (xi v)] [xr (Int.ofNat (202 + 4 * n)), xi (n : Int), xr 3] (wr h3') (upA (upA al2 (202 + 4 * n)) (202 + 4 * n + 1))
      refine XW_t4 [] 60 okLa_join ?_
      refine cond_i (by rw [b0]; rfl) ⟨⟨by omega, by show (n : Int) < 6; omega⟩, ?_⟩
      exact dn
    obtain ⟨h2', rfl⟩ := id hW2
    refine XW_t4 [50] 60 okLa_join ?_
    refine ⟨202 + 4 * n, b0, (A _ (by omega)).trans (by have := hal 2 (by decide); rwa [show 200 + 4 * n + 2 = 202 + 4 * n by omega] at this), ?_⟩
    show XW g (d + 2) mLa_join K 50 [some (xr 1), some (xi k), some (xi v)] [xi 9, xi 3, xi (clr (wr h2') (202 + 4 * n) 1 5), xr (Int.ofNat (202 + 4 * n)), xr (Int.ofNat (202 + 4 * n)), xi (wr h2' 1 5), xr 3] (clr (wr h2') (202 + 4 * n)) (upA al2 (202 + 4 * n))
    rw [clr_ne (show (1 : Nat) ≠ 202 + 4 * n by omega), f5]
    exact go
  obtain ⟨h0, rfl⟩ := id hW
  refine cof ocLa_join rfl (XW_t4 [27] 60 okLa_join ?_)
  refine ite_t (show wr h0 1 5 < 6 by omega) ?_
  refine ⟨200 + 4 * n, a0, hal 0 (by decide), ?_⟩
  show XW g (d + 2) mLa_join K 27 [some (xr 1), some (xi k), some (xi v)] [xi v, xi k, xi (clr (wr h0) (200 + 4 * n) 1 5), xr (Int.ofNat (200 + 4 * n)), xr (Int.ofNat (200 + 4 * n)), xi (wr h0 1 5), xr 2] (clr (wr h0) (200 + 4 * n)) (upA al (200 + 4 * n))
  rw [clr_ne (show (1 : Nat) ≠ 200 + 4 * n by omega), h5]
  refine XW_t4 [30] 40 okLa_join ?_
  refine cond_i (rcv_c a0 rfl rfl) ?_
  refine c_HoInit ha ((upA_ne (by omega)).trans (hal 1 (by decide))) fun h3 F3 x0 x1 x2 x3 x4 => ?_
  have G3 : ∀ a j, ¬ (200 + 4 * n ≤ a ∧ a ≤ 201 + 4 * n) → h3 a j = wr h0 a j := fun a j q => (F3 a j (by omega) (by omega)).trans (clr_ne (by omega))
  have hW3 := hWf h3 fun a j q1 q2 q3 q4 => G3 a j (by omega)
  have nx := second (uH h3 2 n ((200 + 4 * n : Nat) : Int)) (upA (upA al (200 + 4 * n)) (200 + 4 * n + 1)) (fun a j q1 q2 => by rw [uH_ne (by omega)]; exact G3 a j q1) (fun a q => by rw [upA_ne (by omega), upA_ne (by omega)]) uH_at ⟨(uH_ne (by omega)).trans x0, (uH_ne (by omega)).trans x1, (uH_ne (by omega)).trans x2, (uH_ne (by omega)).trans (x3.trans (by omega)), fun j hj => (uH_ne (by omega)).trans (by have := x4 j hj; rwa [show 200 + 4 * n + 1 = 201 + 4 * n by omega] at this)⟩
  obtain ⟨h3', rfl⟩ := id hW3
  show XW g (d + 2) mLa_join K 30 [some (xr 1), some (xi k), some (xi v)] [xr (Int.ofNat (200 + 4 * n)), xi (n : Int), xr 2] (wr h3') (upA (upA al (200 + 4 * n)) (200 + 4 * n + 1))
  refine XW_t4 [31] 60 okLa_join ?_
  refine cond_i (by rw [a0]; rfl) ⟨⟨by omega, by show (n : Int) < 6; omega⟩, ?_⟩
  exact nx
end Q15
