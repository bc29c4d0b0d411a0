-- the constructors: the reference
def MH (n A : Nat) (hb : HH) : HH := fun a k => cond (Nat.beq a 120) (cond (Nat.blt k n) (inV 120 k) (cond (Nat.beq (tyO 120 k) 2) (-1) 0)) (cond (inR 121 (120 + A) a) (inV a k) (hb a k))
def AM (A : Nat) (al : AL) : AL := fun a => cond (inR 120 (120 + A) a) true (al a)
theorem blt_f {k n : Nat} (h : ¬ k < n) : Nat.blt k n = false := by
  cases e : Nat.blt k n with
  | false => rfl
  | true => exact absurd (Nat.le_of_ble_eq_true e) h
theorem MH_put {n A : Nat} {hb : HH} {z : Int} (hz : inV 120 n = z) : uH (MH n A hb) 120 n z = MH (n + 1) A hb := by
  funext a k
  by_cases e : a = 120
  · subst e
    rw [uH_r]
    show (if k = n then z else cond (Nat.blt k n) (inV 120 k) (cond (Nat.beq (tyO 120 k) 2) (-1) 0)) = cond (Nat.blt k (n + 1)) (inV 120 k) (cond (Nat.beq (tyO 120 k) 2) (-1) 0)
    by_cases q : k = n
    · rw [if_pos q, q, hz, show Nat.blt n (n + 1) = true from Nat.ble_eq_true_of_le (Nat.le_refl _)]
      rfl
    · rw [if_neg q]
      by_cases q2 : k < n
      · rw [show Nat.blt k n = true from Nat.ble_eq_true_of_le q2, show Nat.blt k (n + 1) = true from Nat.ble_eq_true_of_le (by omega)]
      · rw [blt_f q2, blt_f (show ¬ k < n + 1 by omega)]
  · rw [uH_ne (fun q => e q.1)]
    unfold MH
    rw [nbf e]
    rfl
theorem MH_row {n A : Nat} {hb : HH} {f : Nat → Int} (hz : ∀ k, f k = inV (121 + A) k) : rowU (MH n A hb) (121 + A) f = MH n (A + 1) hb := by
  funext a k
  by_cases e : a = 121 + A
  · subst e
    rw [rowU_at, hz]
    unfold MH
    rw [nbf (show 121 + A ≠ 120 by omega), inR_t (show 121 ≤ 121 + A ∧ 121 + A ≤ 120 + (A + 1) by omega)]
    rfl
  · rw [rowU_ne e]
    unfold MH
    by_cases q : a = 120
    · rw [q]
      rfl
    · rw [nbf q]
      by_cases q2 : 121 ≤ a ∧ a ≤ 120 + A
      · rw [inR_t q2, inR_t (show 121 ≤ a ∧ a ≤ 120 + (A + 1) by omega)]
      · rw [inR_f q2, inR_f (show ¬ (121 ≤ a ∧ a ≤ 120 + (A + 1)) by omega)]
theorem clr_row {h : HH} {o : Nat} (hz : ∀ k, tyO o k = tyO o 0) : clr h o = rowU h o (fun _ => cond (Nat.beq (tyO o 0) 2) (-1) 0) := by
  funext a k
  by_cases e : a = o
  · rw [e, clr_at, rowU_at, hz]
  · rw [clr_ne e, rowU_ne e]
theorem MH_new {n A : Nat} {hb : HH} (h1 : ∀ k, clr (fun _ _ => 0) (121 + A) (121 + A) k = inV (121 + A) k) : clr (MH n A hb) (121 + A) = MH n (A + 1) hb := by
  rw [← MH_row (f := fun k => clr (fun _ _ => 0) (121 + A) (121 + A) k) h1]
  funext a k
  by_cases e : a = 121 + A
  · rw [e, rowU_at, clr_at, clr_at]
  · rw [rowU_ne e, clr_ne e]
theorem AM_new {A : Nat} {al : AL} : upA (AM A al) (121 + A) = AM (A + 1) al := by
  funext a
  unfold upA AM
  by_cases e : a = 121 + A
  · rw [e, Nat.beq_refl, inR_t (show 120 ≤ 121 + A ∧ 121 + A ≤ 120 + (A + 1) by omega)]
    rfl
  · rw [nbf e]
    by_cases q2 : 120 ≤ a ∧ a ≤ 120 + A
    · rw [inR_t q2, inR_t (show 120 ≤ a ∧ a ≤ 120 + (A + 1) by omega)]
      rfl
    · rw [inR_f q2, inR_f (show ¬ (120 ≤ a ∧ a ≤ 120 + (A + 1)) by omega)]
      rfl
section IM
variable {g : GC} {d : Nat} {hb : HH} {al : AL} {K : KT}
theorem AM_f {A a : Nat} (hal : ∀ a, 120 ≤ a → a ≤ 166 → al a = false) (h1 : 120 + A < a) (h2 : a ≤ 166) : AM A al a = false := by
  unfold AM
  rw [inR_f (by omega)]
  exact hal a (by omega) h2
set_option maxRecDepth 20000 in
set_option maxHeartbeats 4000000 in
theorem c_iMo (hal : ∀ a, 120 ≤ a → a ≤ 166 → al a = false) (hK : K none (MH 75 46 hb) (AM 46 al)) : Call g (d + 1) yMo_init [xr 120] (clr hb 120) (upA al 120) K := by
  have k75 : XW g d mMo_init K 667 [some (xr 120)] [] (MH 75 46 hb) (AM 46 al) := XW_t4 [] 5 okMo_init hK
  have k74 : XW g d mMo_init K 659 [some (xr 120)] [] (MH 74 45 hb) (AM 45 al) := by
    have t : XW g d mMo_init K 667 [some (xr 120)] [] (uH (clr (MH 74 45 hb) 166) 120 74 166) (upA (AM 45 al) 166) := by
      rw [show clr (MH 74 45 hb) 166 = MH 74 46 hb from MH_new (A := 45) (fun _ => rfl), MH_put (z := 166) rfl, show upA (AM 45 al) 166 = AM 46 al from AM_new (A := 45)]
      exact k75
    refine XW_t4 [667] 10 okMo_init ?_
    exact ⟨166, rfl, AM_f hal (by decide) (by decide), rfl, t⟩
  have k73 : XW g d mMo_init K 650 [some (xr 120)] [] (MH 73 44 hb) (AM 44 al) := by
    have t : XW g d mMo_init K 659 [some (xr 120)] [] (uH (clr (MH 73 44 hb) 165) 120 73 165) (upA (AM 44 al) 165) := by
      rw [show clr (MH 73 44 hb) 165 = MH 73 45 hb from MH_new (A := 44) (fun _ => rfl), MH_put (z := 165) rfl, show upA (AM 44 al) 165 = AM 45 al from AM_new (A := 44)]
      exact k74
    refine XW_t4 [659] 10 okMo_init ?_
    exact ⟨165, rfl, AM_f hal (by decide) (by decide), rfl, t⟩
  have k72 : XW g d mMo_init K 642 [some (xr 120)] [] (MH 72 43 hb) (AM 43 al) := by
    have t : XW g d mMo_init K 650 [some (xr 120)] [] (uH (clr (MH 72 43 hb) 164) 120 72 164) (upA (AM 43 al) 164) := by
      rw [show clr (MH 72 43 hb) 164 = MH 72 44 hb from MH_new (A := 43) (fun _ => rfl), MH_put (z := 164) rfl, show upA (AM 43 al) 164 = AM 44 al from AM_new (A := 43)]
      exact k73
    refine XW_t4 [650] 10 okMo_init ?_
    exact ⟨164, rfl, AM_f hal (by decide) (by decide), rfl, t⟩
  have k71 : XW g d mMo_init K 610 [some (xr 120)] [] (MH 71 42 hb) (AM 42 al) := by
    have er : uH (uH (uH (uH (uH (uH (clr (MH 71 42 hb) 163) 163 0 (-1)) 163 1 (-1)) 163 2 (-1)) 163 3 (-1)) 163 4 (-1)) 163 5 (-1) = MH 71 43 hb := by
      rw [← MH_row (A := 42) (f := fun k => inV 163 k) (fun _ => rfl)]
      funext a k
      by_cases e : a = 163
      · subst e
        rw [show rowU (MH 71 42 hb) (121 + 42) (fun k => inV 163 k) 163 k = inV 163 k from rowU_at]
        match k with
        | 0 => rfl
        | 1 => rfl
        | 2 => rfl
        | 3 => rfl
        | 4 => rfl
        | 5 => rfl
        | k + 6 => rfl
      · rw [show rowU (MH 71 42 hb) (121 + 42) (fun k => inV 163 k) a k = MH 71 42 hb a k from rowU_ne e]
        have n : Nat.beq a 163 = false := nbf e
        simp only [uH, clr, n, Bool.false_and, cond_false]
    have t : XW g d mMo_init K 642 [some (xr 120)] [] (uH (uH (uH (uH (uH (uH (uH (clr (MH 71 42 hb) 163) 163 0 (-1)) 163 1 (-1)) 163 2 (-1)) 163 3 (-1)) 163 4 (-1)) 163 5 (-1)) 120 71 163) (upA (AM 42 al) 163) := by
      rw [er, MH_put (z := 163) rfl, show upA (AM 42 al) 163 = AM 43 al from AM_new (A := 42)]
      exact k72
    refine XW_t4 [642] 200 okMo_init ?_
    refine ⟨163, rfl, AM_f hal (by decide) (by decide), rfl, ?_⟩
    refine ⟨0, rfl, show 0 < 6 by decide, ?_⟩
    refine ⟨1, rfl, show 1 < 6 by decide, ?_⟩
    refine ⟨2, rfl, show 2 < 6 by decide, ?_⟩
    refine ⟨3, rfl, show 3 < 6 by decide, ?_⟩
    refine ⟨4, rfl, show 4 < 6 by decide, ?_⟩
    refine ⟨5, rfl, show 5 < 6 by decide, ?_⟩
    exact t
  have k70 : XW g d mMo_init K 602 [some (xr 120)] [] (MH 70 41 hb) (AM 41 al) := by
    have t : XW g d mMo_init K 610 [some (xr 120)] [] (uH (clr (MH 70 41 hb) 162) 120 70 162) (upA (AM 41 al) 162) := by
      rw [show clr (MH 70 41 hb) 162 = MH 70 42 hb from MH_new (A := 41) (fun _ => rfl), MH_put (z := 162) rfl, show upA (AM 41 al) 162 = AM 42 al from AM_new (A := 41)]
      exact k71
    refine XW_t4 [610] 10 okMo_init ?_
    exact ⟨162, rfl, AM_f hal (by decide) (by decide), rfl, t⟩
  have k69 : XW g d mMo_init K 597 [some (xr 120)] [] (MH 69 41 hb) (AM 41 al) := by
    have t : XW g d mMo_init K 602 [some (xr 120)] [] (uH (MH 69 41 hb) 120 69 (0)) (AM 41 al) := by
      rw [MH_put (z := 0) rfl]
      exact k70
    refine XW_t4 [602] 10 okMo_init ?_
    exact t
  have k68 : XW g d mMo_init K 589 [some (xr 120)] [] (MH 68 40 hb) (AM 40 al) := by
    have t : XW g d mMo_init K 597 [some (xr 120)] [] (uH (clr (MH 68 40 hb) 161) 120 68 161) (upA (AM 40 al) 161) := by
      rw [show clr (MH 68 40 hb) 161 = MH 68 41 hb from MH_new (A := 40) (fun _ => rfl), MH_put (z := 161) rfl, show upA (AM 40 al) 161 = AM 41 al from AM_new (A := 40)]
      exact k69
    refine XW_t4 [597] 10 okMo_init ?_
    exact ⟨161, rfl, AM_f hal (by decide) (by decide), rfl, t⟩
  have k67 : XW g d mMo_init K 581 [some (xr 120)] [] (MH 67 39 hb) (AM 39 al) := by
    have t : XW g d mMo_init K 589 [some (xr 120)] [] (uH (clr (MH 67 39 hb) 160) 120 67 160) (upA (AM 39 al) 160) := by
      rw [show clr (MH 67 39 hb) 160 = MH 67 40 hb from MH_new (A := 39) (fun _ => rfl), MH_put (z := 160) rfl, show upA (AM 39 al) 160 = AM 40 al from AM_new (A := 39)]
      exact k68
    refine XW_t4 [589] 10 okMo_init ?_
    exact ⟨160, rfl, AM_f hal (by decide) (by decide), rfl, t⟩
  have k66 : XW g d mMo_init K 573 [some (xr 120)] [] (MH 66 38 hb) (AM 38 al) := by
    have t : XW g d mMo_init K 581 [some (xr 120)] [] (uH (clr (MH 66 38 hb) 159) 120 66 159) (upA (AM 38 al) 159) := by
      rw [show clr (MH 66 38 hb) 159 = MH 66 39 hb from MH_new (A := 38) (fun _ => rfl), MH_put (z := 159) rfl, show upA (AM 38 al) 159 = AM 39 al from AM_new (A := 38)]
      exact k67
    refine XW_t4 [581] 10 okMo_init ?_
    exact ⟨159, rfl, AM_f hal (by decide) (by decide), rfl, t⟩
  have k65 : XW g d mMo_init K 565 [some (xr 120)] [] (MH 65 37 hb) (AM 37 al) := by
    have t : XW g d mMo_init K 573 [some (xr 120)] [] (uH (clr (MH 65 37 hb) 158) 120 65 158) (upA (AM 37 al) 158) := by
      rw [show clr (MH 65 37 hb) 158 = MH 65 38 hb from MH_new (A := 37) (fun _ => rfl), MH_put (z := 158) rfl, show upA (AM 37 al) 158 = AM 38 al from AM_new (A := 37)]
      exact k66
    refine XW_t4 [573] 10 okMo_init ?_
    exact ⟨158, rfl, AM_f hal (by decide) (by decide), rfl, t⟩
  have k64 : XW g d mMo_init K 557 [some (xr 120)] [] (MH 64 36 hb) (AM 36 al) := by
    have t : XW g d mMo_init K 565 [some (xr 120)] [] (uH (clr (MH 64 36 hb) 157) 120 64 157) (upA (AM 36 al) 157) := by
      rw [show clr (MH 64 36 hb) 157 = MH 64 37 hb from MH_new (A := 36) (fun _ => rfl), MH_put (z := 157) rfl, show upA (AM 36 al) 157 = AM 37 al from AM_new (A := 36)]
      exact k65
    refine XW_t4 [565] 10 okMo_init ?_
    exact ⟨157, rfl, AM_f hal (by decide) (by decide), rfl, t⟩
  have k63 : XW g d mMo_init K 549 [some (xr 120)] [] (MH 63 35 hb) (AM 35 al) := by
    have t : XW g d mMo_init K 557 [some (xr 120)] [] (uH (clr (MH 63 35 hb) 156) 120 63 156) (upA (AM 35 al) 156) := by
      rw [show clr (MH 63 35 hb) 156 = MH 63 36 hb from MH_new (A := 35) (fun _ => rfl), MH_put (z := 156) rfl, show upA (AM 35 al) 156 = AM 36 al from AM_new (A := 35)]
      exact k64
    refine XW_t4 [557] 10 okMo_init ?_
    exact ⟨156, rfl, AM_f hal (by decide) (by decide), rfl, t⟩
  have k62 : XW g d mMo_init K 544 [some (xr 120)] [] (MH 62 35 hb) (AM 35 al) := by
    have t : XW g d mMo_init K 549 [some (xr 120)] [] (uH (MH 62 35 hb) 120 62 (0)) (AM 35 al) := by
      rw [MH_put (z := 0) rfl]
      exact k63
    refine XW_t4 [549] 10 okMo_init ?_
    exact t
  have k61 : XW g d mMo_init K 539 [some (xr 120)] [] (MH 61 35 hb) (AM 35 al) := by
    have t : XW g d mMo_init K 544 [some (xr 120)] [] (uH (MH 61 35 hb) 120 61 (0)) (AM 35 al) := by
      rw [MH_put (z := 0) rfl]
      exact k62
    refine XW_t4 [544] 10 okMo_init ?_
    exact t
  have k60 : XW g d mMo_init K 534 [some (xr 120)] [] (MH 60 35 hb) (AM 35 al) := by
    have t : XW g d mMo_init K 539 [some (xr 120)] [] (uH (MH 60 35 hb) 120 60 (0)) (AM 35 al) := by
      rw [MH_put (z := 0) rfl]
      exact k61
    refine XW_t4 [539] 10 okMo_init ?_
    exact t
  have k59 : XW g d mMo_init K 528 [some (xr 120)] [] (MH 59 35 hb) (AM 35 al) := by
    have t : XW g d mMo_init K 534 [some (xr 120)] [] (uH (MH 59 35 hb) 120 59 (9)) (AM 35 al) := by
      rw [MH_put (z := 9) rfl]
      exact k60
    refine XW_t4 [534] 10 okMo_init ?_
    exact t
  have k58 : XW g d mMo_init K 522 [some (xr 120)] [] (MH 58 35 hb) (AM 35 al) := by
    have t : XW g d mMo_init K 528 [some (xr 120)] [] (uH (MH 58 35 hb) 120 58 (9)) (AM 35 al) := by
      rw [MH_put (z := 9) rfl]
      exact k59
    refine XW_t4 [528] 10 okMo_init ?_
    exact t
  have k57 : XW g d mMo_init K 517 [some (xr 120)] [] (MH 57 35 hb) (AM 35 al) := by
    have t : XW g d mMo_init K 522 [some (xr 120)] [] (uH (MH 57 35 hb) 120 57 (0)) (AM 35 al) := by
      rw [MH_put (z := 0) rfl]
      exact k58
    refine XW_t4 [522] 10 okMo_init ?_
    exact t
  have k56 : XW g d mMo_init K 512 [some (xr 120)] [] (MH 56 35 hb) (AM 35 al) := by
    have t : XW g d mMo_init K 517 [some (xr 120)] [] (uH (MH 56 35 hb) 120 56 (0)) (AM 35 al) := by
      rw [MH_put (z := 0) rfl]
      exact k57
    refine XW_t4 [517] 10 okMo_init ?_
    exact t
  have k55 : XW g d mMo_init K 507 [some (xr 120)] [] (MH 55 35 hb) (AM 35 al) := by
    have t : XW g d mMo_init K 512 [some (xr 120)] [] (uH (MH 55 35 hb) 120 55 (-1)) (AM 35 al) := by
      rw [MH_put (z := -1) rfl]
      exact k56
    refine XW_t4 [512] 10 okMo_init ?_
    exact t
  have k54 : XW g d mMo_init K 502 [some (xr 120)] [] (MH 54 35 hb) (AM 35 al) := by
    have t : XW g d mMo_init K 507 [some (xr 120)] [] (uH (MH 54 35 hb) 120 54 (0)) (AM 35 al) := by
      rw [MH_put (z := 0) rfl]
      exact k55
    refine XW_t4 [507] 10 okMo_init ?_
    exact ⟨Or.inl rfl, t⟩
  have k53 : XW g d mMo_init K 494 [some (xr 120)] [] (MH 53 34 hb) (AM 34 al) := by
    have t : XW g d mMo_init K 502 [some (xr 120)] [] (uH (clr (MH 53 34 hb) 155) 120 53 155) (upA (AM 34 al) 155) := by
      rw [show clr (MH 53 34 hb) 155 = MH 53 35 hb from MH_new (A := 34) (fun _ => rfl), MH_put (z := 155) rfl, show upA (AM 34 al) 155 = AM 35 al from AM_new (A := 34)]
      exact k54
    refine XW_t4 [502] 10 okMo_init ?_
    exact ⟨155, rfl, AM_f hal (by decide) (by decide), rfl, t⟩
  have k52 : XW g d mMo_init K 486 [some (xr 120)] [] (MH 52 33 hb) (AM 33 al) := by
    have t : XW g d mMo_init K 494 [some (xr 120)] [] (uH (clr (MH 52 33 hb) 154) 120 52 154) (upA (AM 33 al) 154) := by
      rw [show clr (MH 52 33 hb) 154 = MH 52 34 hb from MH_new (A := 33) (fun _ => rfl), MH_put (z := 154) rfl, show upA (AM 33 al) 154 = AM 34 al from AM_new (A := 33)]
      exact k53
    refine XW_t4 [494] 10 okMo_init ?_
    exact ⟨154, rfl, AM_f hal (by decide) (by decide), rfl, t⟩
  have k51 : XW g d mMo_init K 478 [some (xr 120)] [] (MH 51 32 hb) (AM 32 al) := by
    have t : XW g d mMo_init K 486 [some (xr 120)] [] (uH (clr (MH 51 32 hb) 153) 120 51 153) (upA (AM 32 al) 153) := by
      rw [show clr (MH 51 32 hb) 153 = MH 51 33 hb from MH_new (A := 32) (fun _ => rfl), MH_put (z := 153) rfl, show upA (AM 32 al) 153 = AM 33 al from AM_new (A := 32)]
      exact k52
    refine XW_t4 [486] 10 okMo_init ?_
    exact ⟨153, rfl, AM_f hal (by decide) (by decide), rfl, t⟩
  have k50 : XW g d mMo_init K 473 [some (xr 120)] [] (MH 50 32 hb) (AM 32 al) := by
    have t : XW g d mMo_init K 478 [some (xr 120)] [] (uH (MH 50 32 hb) 120 50 (0)) (AM 32 al) := by
      rw [MH_put (z := 0) rfl]
      exact k51
    refine XW_t4 [478] 10 okMo_init ?_
    exact t
  have k49 : XW g d mMo_init K 464 [some (xr 120)] [] (MH 49 31 hb) (AM 31 al) := by
    have t : XW g d mMo_init K 473 [some (xr 120)] [] (uH (clr (MH 49 31 hb) 152) 120 49 152) (upA (AM 31 al) 152) := by
      rw [show clr (MH 49 31 hb) 152 = MH 49 32 hb from MH_new (A := 31) (fun _ => rfl), MH_put (z := 152) rfl, show upA (AM 31 al) 152 = AM 32 al from AM_new (A := 31)]
      exact k50
    refine XW_t4 [473] 10 okMo_init ?_
    exact ⟨152, rfl, AM_f hal (by decide) (by decide), rfl, t⟩
  have k48 : XW g d mMo_init K 455 [some (xr 120)] [] (MH 48 30 hb) (AM 30 al) := by
    have t : XW g d mMo_init K 464 [some (xr 120)] [] (uH (clr (MH 48 30 hb) 151) 120 48 151) (upA (AM 30 al) 151) := by
      rw [show clr (MH 48 30 hb) 151 = MH 48 31 hb from MH_new (A := 30) (fun _ => rfl), MH_put (z := 151) rfl, show upA (AM 30 al) 151 = AM 31 al from AM_new (A := 30)]
      exact k49
    refine XW_t4 [464] 10 okMo_init ?_
    exact ⟨151, rfl, AM_f hal (by decide) (by decide), rfl, t⟩
  have k47 : XW g d mMo_init K 446 [some (xr 120)] [] (MH 47 29 hb) (AM 29 al) := by
    have t : XW g d mMo_init K 455 [some (xr 120)] [] (uH (clr (MH 47 29 hb) 150) 120 47 150) (upA (AM 29 al) 150) := by
      rw [show clr (MH 47 29 hb) 150 = MH 47 30 hb from MH_new (A := 29) (fun _ => rfl), MH_put (z := 150) rfl, show upA (AM 29 al) 150 = AM 30 al from AM_new (A := 29)]
      exact k48
    refine XW_t4 [455] 10 okMo_init ?_
    exact ⟨150, rfl, AM_f hal (by decide) (by decide), rfl, t⟩
  have k46 : XW g d mMo_init K 437 [some (xr 120)] [] (MH 46 28 hb) (AM 28 al) := by
    have t : XW g d mMo_init K 446 [some (xr 120)] [] (uH (clr (MH 46 28 hb) 149) 120 46 149) (upA (AM 28 al) 149) := by
      rw [show clr (MH 46 28 hb) 149 = MH 46 29 hb from MH_new (A := 28) (fun _ => rfl), MH_put (z := 149) rfl, show upA (AM 28 al) 149 = AM 29 al from AM_new (A := 28)]
      exact k47
    refine XW_t4 [446] 10 okMo_init ?_
    exact ⟨149, rfl, AM_f hal (by decide) (by decide), rfl, t⟩
  have k45 : XW g d mMo_init K 428 [some (xr 120)] [] (MH 45 27 hb) (AM 27 al) := by
    have t : XW g d mMo_init K 437 [some (xr 120)] [] (uH (clr (MH 45 27 hb) 148) 120 45 148) (upA (AM 27 al) 148) := by
      rw [show clr (MH 45 27 hb) 148 = MH 45 28 hb from MH_new (A := 27) (fun _ => rfl), MH_put (z := 148) rfl, show upA (AM 27 al) 148 = AM 28 al from AM_new (A := 27)]
      exact k46
    refine XW_t4 [437] 10 okMo_init ?_
    exact ⟨148, rfl, AM_f hal (by decide) (by decide), rfl, t⟩
  have k44 : XW g d mMo_init K 420 [some (xr 120)] [] (MH 44 26 hb) (AM 26 al) := by
    have t : XW g d mMo_init K 428 [some (xr 120)] [] (uH (clr (MH 44 26 hb) 147) 120 44 147) (upA (AM 26 al) 147) := by
      rw [show clr (MH 44 26 hb) 147 = MH 44 27 hb from MH_new (A := 26) (fun _ => rfl), MH_put (z := 147) rfl, show upA (AM 26 al) 147 = AM 27 al from AM_new (A := 26)]
      exact k45
    refine XW_t4 [428] 10 okMo_init ?_
    exact ⟨147, rfl, AM_f hal (by decide) (by decide), rfl, t⟩
  have k43 : XW g d mMo_init K 412 [some (xr 120)] [] (MH 43 25 hb) (AM 25 al) := by
    have t : XW g d mMo_init K 420 [some (xr 120)] [] (uH (clr (MH 43 25 hb) 146) 120 43 146) (upA (AM 25 al) 146) := by
      rw [show clr (MH 43 25 hb) 146 = MH 43 26 hb from MH_new (A := 25) (fun _ => rfl), MH_put (z := 146) rfl, show upA (AM 25 al) 146 = AM 26 al from AM_new (A := 25)]
      exact k44
    refine XW_t4 [420] 10 okMo_init ?_
    exact ⟨146, rfl, AM_f hal (by decide) (by decide), rfl, t⟩
  have k42 : XW g d mMo_init K 404 [some (xr 120)] [] (MH 42 24 hb) (AM 24 al) := by
    have t : XW g d mMo_init K 412 [some (xr 120)] [] (uH (clr (MH 42 24 hb) 145) 120 42 145) (upA (AM 24 al) 145) := by
      rw [show clr (MH 42 24 hb) 145 = MH 42 25 hb from MH_new (A := 24) (fun _ => rfl), MH_put (z := 145) rfl, show upA (AM 24 al) 145 = AM 25 al from AM_new (A := 24)]
      exact k43
    refine XW_t4 [412] 10 okMo_init ?_
    exact ⟨145, rfl, AM_f hal (by decide) (by decide), rfl, t⟩
  have k41 : XW g d mMo_init K 396 [some (xr 120)] [] (MH 41 23 hb) (AM 23 al) := by
    have t : XW g d mMo_init K 404 [some (xr 120)] [] (uH (clr (MH 41 23 hb) 144) 120 41 144) (upA (AM 23 al) 144) := by
      rw [show clr (MH 41 23 hb) 144 = MH 41 24 hb from MH_new (A := 23) (fun _ => rfl), MH_put (z := 144) rfl, show upA (AM 23 al) 144 = AM 24 al from AM_new (A := 23)]
      exact k42
    refine XW_t4 [404] 10 okMo_init ?_
    exact ⟨144, rfl, AM_f hal (by decide) (by decide), rfl, t⟩
  have k40 : XW g d mMo_init K 388 [some (xr 120)] [] (MH 40 22 hb) (AM 22 al) := by
    have t : XW g d mMo_init K 396 [some (xr 120)] [] (uH (clr (MH 40 22 hb) 143) 120 40 143) (upA (AM 22 al) 143) := by
      rw [show clr (MH 40 22 hb) 143 = MH 40 23 hb from MH_new (A := 22) (fun _ => rfl), MH_put (z := 143) rfl, show upA (AM 22 al) 143 = AM 23 al from AM_new (A := 22)]
      exact k41
    refine XW_t4 [396] 10 okMo_init ?_
    exact ⟨143, rfl, AM_f hal (by decide) (by decide), rfl, t⟩
  have k39 : XW g d mMo_init K 380 [some (xr 120)] [] (MH 39 21 hb) (AM 21 al) := by
    have t : XW g d mMo_init K 388 [some (xr 120)] [] (uH (clr (MH 39 21 hb) 142) 120 39 142) (upA (AM 21 al) 142) := by
      rw [show clr (MH 39 21 hb) 142 = MH 39 22 hb from MH_new (A := 21) (fun _ => rfl), MH_put (z := 142) rfl, show upA (AM 21 al) 142 = AM 22 al from AM_new (A := 21)]
      exact k40
    refine XW_t4 [388] 10 okMo_init ?_
    exact ⟨142, rfl, AM_f hal (by decide) (by decide), rfl, t⟩
  have k38 : XW g d mMo_init K 372 [some (xr 120)] [] (MH 38 20 hb) (AM 20 al) := by
    have t : XW g d mMo_init K 380 [some (xr 120)] [] (uH (clr (MH 38 20 hb) 141) 120 38 141) (upA (AM 20 al) 141) := by
      rw [show clr (MH 38 20 hb) 141 = MH 38 21 hb from MH_new (A := 20) (fun _ => rfl), MH_put (z := 141) rfl, show upA (AM 20 al) 141 = AM 21 al from AM_new (A := 20)]
      exact k39
    refine XW_t4 [380] 10 okMo_init ?_
    exact ⟨141, rfl, AM_f hal (by decide) (by decide), rfl, t⟩
  have k37 : XW g d mMo_init K 364 [some (xr 120)] [] (MH 37 19 hb) (AM 19 al) := by
    have t : XW g d mMo_init K 372 [some (xr 120)] [] (uH (clr (MH 37 19 hb) 140) 120 37 140) (upA (AM 19 al) 140) := by
      rw [show clr (MH 37 19 hb) 140 = MH 37 20 hb from MH_new (A := 19) (fun _ => rfl), MH_put (z := 140) rfl, show upA (AM 19 al) 140 = AM 20 al from AM_new (A := 19)]
      exact k38
    refine XW_t4 [372] 10 okMo_init ?_
    exact ⟨140, rfl, AM_f hal (by decide) (by decide), rfl, t⟩
  have k36 : XW g d mMo_init K 358 [some (xr 120)] [] (MH 36 19 hb) (AM 19 al) := by
    have t : XW g d mMo_init K 364 [some (xr 120)] [] (uH (MH 36 19 hb) 120 36 (9)) (AM 19 al) := by
      rw [MH_put (z := 9) rfl]
      exact k37
    refine XW_t4 [364] 10 okMo_init ?_
    exact t
  have k35 : XW g d mMo_init K 352 [some (xr 120)] [] (MH 35 19 hb) (AM 19 al) := by
    have t : XW g d mMo_init K 358 [some (xr 120)] [] (uH (MH 35 19 hb) 120 35 (9)) (AM 19 al) := by
      rw [MH_put (z := 9) rfl]
      exact k36
    refine XW_t4 [358] 10 okMo_init ?_
    exact t
  have k34 : XW g d mMo_init K 347 [some (xr 120)] [] (MH 34 19 hb) (AM 19 al) := by
    have t : XW g d mMo_init K 352 [some (xr 120)] [] (uH (MH 34 19 hb) 120 34 (0)) (AM 19 al) := by
      rw [MH_put (z := 0) rfl]
      exact k35
    refine XW_t4 [352] 10 okMo_init ?_
    exact t
  have k33 : XW g d mMo_init K 339 [some (xr 120)] [] (MH 33 18 hb) (AM 18 al) := by
    have t : XW g d mMo_init K 347 [some (xr 120)] [] (uH (clr (MH 33 18 hb) 139) 120 33 139) (upA (AM 18 al) 139) := by
      rw [show clr (MH 33 18 hb) 139 = MH 33 19 hb from MH_new (A := 18) (fun _ => rfl), MH_put (z := 139) rfl, show upA (AM 18 al) 139 = AM 19 al from AM_new (A := 18)]
      exact k34
    refine XW_t4 [347] 10 okMo_init ?_
    exact ⟨139, rfl, AM_f hal (by decide) (by decide), rfl, t⟩
  have k32 : XW g d mMo_init K 217 [some (xr 120)] [] (MH 32 17 hb) (AM 17 al) := by
    have er : uH (uH (uH (uH (uH (uH (uH (uH (uH (uH (uH (uH (uH (uH (uH (uH (uH (uH (uH (uH (clr (MH 32 17 hb) 138) 138 0 (102)) 138 1 (97)) 138 2 (108)) 138 3 (108)) 138 4 (98)) 138 5 (114)) 138 6 (105)) 138 7 (110)) 138 8 (103)) 138 9 (99)) 138 10 (111)) 138 11 (115)) 138 12 (116)) 138 13 (112)) 138 14 (97)) 138 15 (121)) 138 16 (107)) 138 17 (101)) 138 18 (101)) 138 19 (112) = MH 32 18 hb := by
      rw [← MH_row (A := 17) (f := fun k => inV 138 k) (fun _ => rfl)]
      funext a k
      by_cases e : a = 138
      · subst e
        rw [show rowU (MH 32 17 hb) (121 + 17) (fun k => inV 138 k) 138 k = inV 138 k from rowU_at]
        match k with
        | 0 => rfl
        | 1 => rfl
        | 2 => rfl
        | 3 => rfl
        | 4 => rfl
        | 5 => rfl
        | 6 => rfl
        | 7 => rfl
        | 8 => rfl
        | 9 => rfl
        | 10 => rfl
        | 11 => rfl
        | 12 => rfl
        | 13 => rfl
        | 14 => rfl
        | 15 => rfl
        | 16 => rfl
        | 17 => rfl
        | 18 => rfl
        | 19 => rfl
        | k + 20 => rfl
      · rw [show rowU (MH 32 17 hb) (121 + 17) (fun k => inV 138 k) a k = MH 32 17 hb a k from rowU_ne e]
        have n : Nat.beq a 138 = false := nbf e
        simp only [uH, clr, n, Bool.false_and, cond_false]
    have t : XW g d mMo_init K 339 [some (xr 120)] [] (uH (uH (uH (uH (uH (uH (uH (uH (uH (uH (uH (uH (uH (uH (uH (uH (uH (uH (uH (uH (uH (clr (MH 32 17 hb) 138) 138 0 (102)) 138 1 (97)) 138 2 (108)) 138 3 (108)) 138 4 (98)) 138 5 (114)) 138 6 (105)) 138 7 (110)) 138 8 (103)) 138 9 (99)) 138 10 (111)) 138 11 (115)) 138 12 (116)) 138 13 (112)) 138 14 (97)) 138 15 (121)) 138 16 (107)) 138 17 (101)) 138 18 (101)) 138 19 (112)) 120 32 138) (upA (AM 17 al) 138) := by
      rw [er, MH_put (z := 138) rfl, show upA (AM 17 al) 138 = AM 18 al from AM_new (A := 17)]
      exact k33
    refine XW_t4 [339] 200 okMo_init ?_
    refine ⟨138, rfl, AM_f hal (by decide) (by decide), rfl, ?_⟩
    refine ⟨0, rfl, show 0 < 20 by decide, ?_⟩
    refine ⟨1, rfl, show 1 < 20 by decide, ?_⟩
    refine ⟨2, rfl, show 2 < 20 by decide, ?_⟩
    refine ⟨3, rfl, show 3 < 20 by decide, ?_⟩
    refine ⟨4, rfl, show 4 < 20 by decide, ?_⟩
    refine ⟨5, rfl, show 5 < 20 by decide, ?_⟩
    refine ⟨6, rfl, show 6 < 20 by decide, ?_⟩
    refine ⟨7, rfl, show 7 < 20 by decide, ?_⟩
    refine ⟨8, rfl, show 8 < 20 by decide, ?_⟩
    refine ⟨9, rfl, show 9 < 20 by decide, ?_⟩
    refine ⟨10, rfl, show 10 < 20 by decide, ?_⟩
    refine ⟨11, rfl, show 11 < 20 by decide, ?_⟩
    refine ⟨12, rfl, show 12 < 20 by decide, ?_⟩
    refine ⟨13, rfl, show 13 < 20 by decide, ?_⟩
    refine ⟨14, rfl, show 14 < 20 by decide, ?_⟩
    refine ⟨15, rfl, show 15 < 20 by decide, ?_⟩
    refine ⟨16, rfl, show 16 < 20 by decide, ?_⟩
    refine ⟨17, rfl, show 17 < 20 by decide, ?_⟩
    refine ⟨18, rfl, show 18 < 20 by decide, ?_⟩
    refine ⟨19, rfl, show 19 < 20 by decide, ?_⟩
    exact t
  have k31 : XW g d mMo_init K 212 [some (xr 120)] [] (MH 31 17 hb) (AM 17 al) := by
    have t : XW g d mMo_init K 217 [some (xr 120)] [] (uH (MH 31 17 hb) 120 31 (0)) (AM 17 al) := by
      rw [MH_put (z := 0) rfl]
      exact k32
    refine XW_t4 [217] 10 okMo_init ?_
    exact t
  have k30 : XW g d mMo_init K 207 [some (xr 120)] [] (MH 30 17 hb) (AM 17 al) := by
    have t : XW g d mMo_init K 212 [some (xr 120)] [] (uH (MH 30 17 hb) 120 30 (0)) (AM 17 al) := by
      rw [MH_put (z := 0) rfl]
      exact k31
    refine XW_t4 [212] 10 okMo_init ?_
    exact t
  have k29 : XW g d mMo_init K 202 [some (xr 120)] [] (MH 29 17 hb) (AM 17 al) := by
    have t : XW g d mMo_init K 207 [some (xr 120)] [] (uH (MH 29 17 hb) 120 29 (0)) (AM 17 al) := by
      rw [MH_put (z := 0) rfl]
      exact k30
    refine XW_t4 [207] 10 okMo_init ?_
    exact t
  have k28 : XW g d mMo_init K 194 [some (xr 120)] [] (MH 28 16 hb) (AM 16 al) := by
    have t : XW g d mMo_init K 202 [some (xr 120)] [] (uH (clr (MH 28 16 hb) 137) 120 28 137) (upA (AM 16 al) 137) := by
      rw [show clr (MH 28 16 hb) 137 = MH 28 17 hb from MH_new (A := 16) (fun _ => rfl), MH_put (z := 137) rfl, show upA (AM 16 al) 137 = AM 17 al from AM_new (A := 16)]
      exact k29
    refine XW_t4 [202] 10 okMo_init ?_
    exact ⟨137, rfl, AM_f hal (by decide) (by decide), rfl, t⟩
  have k27 : XW g d mMo_init K 185 [some (xr 120)] [] (MH 27 15 hb) (AM 15 al) := by
    have t : XW g d mMo_init K 194 [some (xr 120)] [] (uH (clr (MH 27 15 hb) 136) 120 27 136) (upA (AM 15 al) 136) := by
      rw [show clr (MH 27 15 hb) 136 = MH 27 16 hb from MH_new (A := 15) (fun _ => rfl), MH_put (z := 136) rfl, show upA (AM 15 al) 136 = AM 16 al from AM_new (A := 15)]
      exact k28
    refine XW_t4 [194] 10 okMo_init ?_
    exact ⟨136, rfl, AM_f hal (by decide) (by decide), rfl, t⟩
  have k26 : XW g d mMo_init K 177 [some (xr 120)] [] (MH 26 14 hb) (AM 14 al) := by
    have t : XW g d mMo_init K 185 [some (xr 120)] [] (uH (clr (MH 26 14 hb) 135) 120 26 135) (upA (AM 14 al) 135) := by
      rw [show clr (MH 26 14 hb) 135 = MH 26 15 hb from MH_new (A := 14) (fun _ => rfl), MH_put (z := 135) rfl, show upA (AM 14 al) 135 = AM 15 al from AM_new (A := 14)]
      exact k27
    refine XW_t4 [185] 10 okMo_init ?_
    exact ⟨135, rfl, AM_f hal (by decide) (by decide), rfl, t⟩
  have k25 : XW g d mMo_init K 169 [some (xr 120)] [] (MH 25 13 hb) (AM 13 al) := by
    have t : XW g d mMo_init K 177 [some (xr 120)] [] (uH (clr (MH 25 13 hb) 134) 120 25 134) (upA (AM 13 al) 134) := by
      rw [show clr (MH 25 13 hb) 134 = MH 25 14 hb from MH_new (A := 13) (fun _ => rfl), MH_put (z := 134) rfl, show upA (AM 13 al) 134 = AM 14 al from AM_new (A := 13)]
      exact k26
    refine XW_t4 [177] 10 okMo_init ?_
    exact ⟨134, rfl, AM_f hal (by decide) (by decide), rfl, t⟩
  have k24 : XW g d mMo_init K 161 [some (xr 120)] [] (MH 24 12 hb) (AM 12 al) := by
    have t : XW g d mMo_init K 169 [some (xr 120)] [] (uH (clr (MH 24 12 hb) 133) 120 24 133) (upA (AM 12 al) 133) := by
      rw [show clr (MH 24 12 hb) 133 = MH 24 13 hb from MH_new (A := 12) (fun _ => rfl), MH_put (z := 133) rfl, show upA (AM 12 al) 133 = AM 13 al from AM_new (A := 12)]
      exact k25
    refine XW_t4 [169] 10 okMo_init ?_
    exact ⟨133, rfl, AM_f hal (by decide) (by decide), rfl, t⟩
  have k23 : XW g d mMo_init K 153 [some (xr 120)] [] (MH 23 11 hb) (AM 11 al) := by
    have t : XW g d mMo_init K 161 [some (xr 120)] [] (uH (clr (MH 23 11 hb) 132) 120 23 132) (upA (AM 11 al) 132) := by
      rw [show clr (MH 23 11 hb) 132 = MH 23 12 hb from MH_new (A := 11) (fun _ => rfl), MH_put (z := 132) rfl, show upA (AM 11 al) 132 = AM 12 al from AM_new (A := 11)]
      exact k24
    refine XW_t4 [161] 10 okMo_init ?_
    exact ⟨132, rfl, AM_f hal (by decide) (by decide), rfl, t⟩
  have k22 : XW g d mMo_init K 146 [some (xr 120)] [] (MH 22 10 hb) (AM 10 al) := by
    have t : XW g d mMo_init K 153 [some (xr 120)] [] (uH (clr (MH 22 10 hb) 131) 120 22 131) (upA (AM 10 al) 131) := by
      rw [show clr (MH 22 10 hb) 131 = MH 22 11 hb from MH_new (A := 10) (fun _ => rfl), MH_put (z := 131) rfl, show upA (AM 10 al) 131 = AM 11 al from AM_new (A := 10)]
      exact k23
    refine XW_t4 [153] 10 okMo_init ?_
    exact ⟨131, rfl, AM_f hal (by decide) (by decide), rfl, t⟩
  have k21 : XW g d mMo_init K 138 [some (xr 120)] [] (MH 21 9 hb) (AM 9 al) := by
    have t : XW g d mMo_init K 146 [some (xr 120)] [] (uH (clr (MH 21 9 hb) 130) 120 21 130) (upA (AM 9 al) 130) := by
      rw [show clr (MH 21 9 hb) 130 = MH 21 10 hb from MH_new (A := 9) (fun _ => rfl), MH_put (z := 130) rfl, show upA (AM 9 al) 130 = AM 10 al from AM_new (A := 9)]
      exact k22
    refine XW_t4 [146] 10 okMo_init ?_
    exact ⟨130, rfl, AM_f hal (by decide) (by decide), rfl, t⟩
  have k20 : XW g d mMo_init K 133 [some (xr 120)] [] (MH 20 9 hb) (AM 9 al) := by
    have t : XW g d mMo_init K 138 [some (xr 120)] [] (uH (MH 20 9 hb) 120 20 (0)) (AM 9 al) := by
      rw [MH_put (z := 0) rfl]
      exact k21
    refine XW_t4 [138] 10 okMo_init ?_
    exact t
  have k19 : XW g d mMo_init K 128 [some (xr 120)] [] (MH 19 9 hb) (AM 9 al) := by
    have t : XW g d mMo_init K 133 [some (xr 120)] [] (uH (MH 19 9 hb) 120 19 (0)) (AM 9 al) := by
      rw [MH_put (z := 0) rfl]
      exact k20
    refine XW_t4 [133] 10 okMo_init ?_
    exact t
  have k18 : XW g d mMo_init K 123 [some (xr 120)] [] (MH 18 9 hb) (AM 9 al) := by
    have t : XW g d mMo_init K 128 [some (xr 120)] [] (uH (MH 18 9 hb) 120 18 (0)) (AM 9 al) := by
      rw [MH_put (z := 0) rfl]
      exact k19
    refine XW_t4 [128] 10 okMo_init ?_
    exact t
  have k17 : XW g d mMo_init K 118 [some (xr 120)] [] (MH 17 9 hb) (AM 9 al) := by
    have t : XW g d mMo_init K 123 [some (xr 120)] [] (uH (MH 17 9 hb) 120 17 (-1)) (AM 9 al) := by
      rw [MH_put (z := -1) rfl]
      exact k18
    refine XW_t4 [123] 10 okMo_init ?_
    exact t
  have k16 : XW g d mMo_init K 113 [some (xr 120)] [] (MH 16 9 hb) (AM 9 al) := by
    have t : XW g d mMo_init K 118 [some (xr 120)] [] (uH (MH 16 9 hb) 120 16 (0)) (AM 9 al) := by
      rw [MH_put (z := 0) rfl]
      exact k17
    refine XW_t4 [118] 10 okMo_init ?_
    exact t
  have k15 : XW g d mMo_init K 105 [some (xr 120)] [] (MH 15 8 hb) (AM 8 al) := by
    have t : XW g d mMo_init K 113 [some (xr 120)] [] (uH (clr (MH 15 8 hb) 129) 120 15 129) (upA (AM 8 al) 129) := by
      rw [show clr (MH 15 8 hb) 129 = MH 15 9 hb from MH_new (A := 8) (fun _ => rfl), MH_put (z := 129) rfl, show upA (AM 8 al) 129 = AM 9 al from AM_new (A := 8)]
      exact k16
    refine XW_t4 [113] 10 okMo_init ?_
    exact ⟨129, rfl, AM_f hal (by decide) (by decide), rfl, t⟩
  have k14 : XW g d mMo_init K 97 [some (xr 120)] [] (MH 14 7 hb) (AM 7 al) := by
    have t : XW g d mMo_init K 105 [some (xr 120)] [] (uH (clr (MH 14 7 hb) 128) 120 14 128) (upA (AM 7 al) 128) := by
      rw [show clr (MH 14 7 hb) 128 = MH 14 8 hb from MH_new (A := 7) (fun _ => rfl), MH_put (z := 128) rfl, show upA (AM 7 al) 128 = AM 8 al from AM_new (A := 7)]
      exact k15
    refine XW_t4 [105] 10 okMo_init ?_
    exact ⟨128, rfl, AM_f hal (by decide) (by decide), rfl, t⟩
  have k13 : XW g d mMo_init K 89 [some (xr 120)] [] (MH 13 6 hb) (AM 6 al) := by
    have t : XW g d mMo_init K 97 [some (xr 120)] [] (uH (clr (MH 13 6 hb) 127) 120 13 127) (upA (AM 6 al) 127) := by
      rw [show clr (MH 13 6 hb) 127 = MH 13 7 hb from MH_new (A := 6) (fun _ => rfl), MH_put (z := 127) rfl, show upA (AM 6 al) 127 = AM 7 al from AM_new (A := 6)]
      exact k14
    refine XW_t4 [97] 10 okMo_init ?_
    exact ⟨127, rfl, AM_f hal (by decide) (by decide), rfl, t⟩
  have k12 : XW g d mMo_init K 81 [some (xr 120)] [] (MH 12 5 hb) (AM 5 al) := by
    have t : XW g d mMo_init K 89 [some (xr 120)] [] (uH (clr (MH 12 5 hb) 126) 120 12 126) (upA (AM 5 al) 126) := by
      rw [show clr (MH 12 5 hb) 126 = MH 12 6 hb from MH_new (A := 5) (fun _ => rfl), MH_put (z := 126) rfl, show upA (AM 5 al) 126 = AM 6 al from AM_new (A := 5)]
      exact k13
    refine XW_t4 [89] 10 okMo_init ?_
    exact ⟨126, rfl, AM_f hal (by decide) (by decide), rfl, t⟩
  have k11 : XW g d mMo_init K 73 [some (xr 120)] [] (MH 11 4 hb) (AM 4 al) := by
    have t : XW g d mMo_init K 81 [some (xr 120)] [] (uH (clr (MH 11 4 hb) 125) 120 11 125) (upA (AM 4 al) 125) := by
      rw [show clr (MH 11 4 hb) 125 = MH 11 5 hb from MH_new (A := 4) (fun _ => rfl), MH_put (z := 125) rfl, show upA (AM 4 al) 125 = AM 5 al from AM_new (A := 4)]
      exact k12
    refine XW_t4 [81] 10 okMo_init ?_
    exact ⟨125, rfl, AM_f hal (by decide) (by decide), rfl, t⟩
  have k10 : XW g d mMo_init K 65 [some (xr 120)] [] (MH 10 3 hb) (AM 3 al) := by
    have t : XW g d mMo_init K 73 [some (xr 120)] [] (uH (clr (MH 10 3 hb) 124) 120 10 124) (upA (AM 3 al) 124) := by
      rw [show clr (MH 10 3 hb) 124 = MH 10 4 hb from MH_new (A := 3) (fun _ => rfl), MH_put (z := 124) rfl, show upA (AM 3 al) 124 = AM 4 al from AM_new (A := 3)]
      exact k11
    refine XW_t4 [73] 10 okMo_init ?_
    exact ⟨124, rfl, AM_f hal (by decide) (by decide), rfl, t⟩
  have k9 : XW g d mMo_init K 57 [some (xr 120)] [] (MH 9 2 hb) (AM 2 al) := by
    have t : XW g d mMo_init K 65 [some (xr 120)] [] (uH (clr (MH 9 2 hb) 123) 120 9 123) (upA (AM 2 al) 123) := by
      rw [show clr (MH 9 2 hb) 123 = MH 9 3 hb from MH_new (A := 2) (fun _ => rfl), MH_put (z := 123) rfl, show upA (AM 2 al) 123 = AM 3 al from AM_new (A := 2)]
      exact k10
    refine XW_t4 [65] 10 okMo_init ?_
    exact ⟨123, rfl, AM_f hal (by decide) (by decide), rfl, t⟩
  have k8 : XW g d mMo_init K 49 [some (xr 120)] [] (MH 8 1 hb) (AM 1 al) := by
    have t : XW g d mMo_init K 57 [some (xr 120)] [] (uH (clr (MH 8 1 hb) 122) 120 8 122) (upA (AM 1 al) 122) := by
      rw [show clr (MH 8 1 hb) 122 = MH 8 2 hb from MH_new (A := 1) (fun _ => rfl), MH_put (z := 122) rfl, show upA (AM 1 al) 122 = AM 2 al from AM_new (A := 1)]
      exact k9
    refine XW_t4 [57] 10 okMo_init ?_
    exact ⟨122, rfl, AM_f hal (by decide) (by decide), rfl, t⟩
  have k7 : XW g d mMo_init K 41 [some (xr 120)] [] (MH 7 0 hb) (AM 0 al) := by
    have t : XW g d mMo_init K 49 [some (xr 120)] [] (uH (clr (MH 7 0 hb) 121) 120 7 121) (upA (AM 0 al) 121) := by
      rw [show clr (MH 7 0 hb) 121 = MH 7 1 hb from MH_new (A := 0) (fun _ => rfl), MH_put (z := 121) rfl, show upA (AM 0 al) 121 = AM 1 al from AM_new (A := 0)]
      exact k8
    refine XW_t4 [49] 10 okMo_init ?_
    exact ⟨121, rfl, AM_f hal (by decide) (by decide), rfl, t⟩
  have k6 : XW g d mMo_init K 36 [some (xr 120)] [] (MH 6 0 hb) (AM 0 al) := by
    have t : XW g d mMo_init K 41 [some (xr 120)] [] (uH (MH 6 0 hb) 120 6 (0)) (AM 0 al) := by
      rw [MH_put (z := 0) rfl]
      exact k7
    refine XW_t4 [41] 10 okMo_init ?_
    exact t
  have k5 : XW g d mMo_init K 31 [some (xr 120)] [] (MH 5 0 hb) (AM 0 al) := by
    have t : XW g d mMo_init K 36 [some (xr 120)] [] (uH (MH 5 0 hb) 120 5 (0)) (AM 0 al) := by
      rw [MH_put (z := 0) rfl]
      exact k6
    refine XW_t4 [36] 10 okMo_init ?_
    exact t
  have k4 : XW g d mMo_init K 26 [some (xr 120)] [] (MH 4 0 hb) (AM 0 al) := by
    have t : XW g d mMo_init K 31 [some (xr 120)] [] (uH (MH 4 0 hb) 120 4 (0)) (AM 0 al) := by
      rw [MH_put (z := 0) rfl]
      exact k5
    refine XW_t4 [31] 10 okMo_init ?_
    exact t
  have k3 : XW g d mMo_init K 20 [some (xr 120)] [] (MH 3 0 hb) (AM 0 al) := by
    have t : XW g d mMo_init K 26 [some (xr 120)] [] (uH (MH 3 0 hb) 120 3 (9)) (AM 0 al) := by
      rw [MH_put (z := 9) rfl]
      exact k4
    refine XW_t4 [26] 10 okMo_init ?_
    exact t
  have k2 : XW g d mMo_init K 14 [some (xr 120)] [] (MH 2 0 hb) (AM 0 al) := by
    have t : XW g d mMo_init K 20 [some (xr 120)] [] (uH (MH 2 0 hb) 120 2 (9)) (AM 0 al) := by
      rw [MH_put (z := 9) rfl]
      exact k3
    refine XW_t4 [20] 10 okMo_init ?_
    exact t
  have k1 : XW g d mMo_init K 9 [some (xr 120)] [] (MH 1 0 hb) (AM 0 al) := by
    have t : XW g d mMo_init K 14 [some (xr 120)] [] (uH (MH 1 0 hb) 120 1 (0)) (AM 0 al) := by
      rw [MH_put (z := 0) rfl]
      exact k2
    refine XW_t4 [14] 10 okMo_init ?_
    exact t
  have k0 : XW g d mMo_init K 4 [some (xr 120)] [] (MH 0 0 hb) (AM 0 al) := by
    have t : XW g d mMo_init K 9 [some (xr 120)] [] (uH (MH 0 0 hb) 120 0 (0)) (AM 0 al) := by
      rw [MH_put (z := 0) rfl]
      exact k1
    refine XW_t4 [9] 10 okMo_init ?_
    exact t
  have e0 : clr hb 120 = MH 0 0 hb := by
    funext a k
    by_cases e : a = 120
    · subst e
      rfl
    · rw [clr_ne e]
      unfold MH
      rw [nbf e, inR_f (by omega)]
      rfl
  have ea : upA al 120 = AM 0 al := by
    funext a
    unfold upA AM
    by_cases e : a = 120
    · subst e
      rfl
    · rw [nbf e, inR_f (by omega)]
  rw [e0, ea]
  refine cof ocMo_init rfl ?_
  refine XW_t4 [4] 5 okMo_init ?_
  exact k0
end IM
