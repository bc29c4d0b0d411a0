-- acts
def LGr (A o f : Nat) (h h2 : HH) (r : Nat) (bs : List Int) : Prop := (∀ a k, a ≠ A → ¬ (a = o ∧ k = f) → h2 a k = h a k) ∧ h2 o f = ((r + bs.length : Nat) : Int) ∧ (∀ i, i < bs.length → h2 A (r + i) = bs.getD i 0) ∧ ∀ i, i < r → h2 A i = h A i
theorem LGr.trans {A o f r : Nat} {h h2 h3 : HH} {bs cs : List Int} (a : LGr A o f h h2 r bs) (b : LGr A o f h2 h3 (r + bs.length) cs) : LGr A o f h h3 r (bs ++ cs) := by
  obtain ⟨a1, a2, a3, a4⟩ := a
  obtain ⟨b1, b2, b3, b4⟩ := b
  refine ⟨fun q k e1 e2 => (b1 q k e1 e2).trans (a1 q k e1 e2), by rw [b2, List.length_append, Nat.add_assoc], fun i hi => ?_, fun i hi => (b4 i (by omega)).trans (a4 i hi)⟩
  rw [List.length_append] at hi
  by_cases q : i < bs.length
  · rw [b4 (r + i) (by omega), a3 i q, List.getD_eq_getElem?_getD, List.getD_eq_getElem?_getD, List.getElem?_append_left q]
  · have := b3 (i - bs.length) (by omega)
    rw [show r + bs.length + (i - bs.length) = r + i by omega] at this
    rw [this, List.getD_eq_getElem?_getD, List.getD_eq_getElem?_getD, List.getElem?_append_right (by omega)]
theorem LGr.one {A o f r : Nat} {h : HH} {b : Int} (ho : A ≠ o) (hr : h o f = (r : Int)) (hf : wI ((r : Int) + 1) = ((r + 1 : Nat) : Int)) : LGr A o f h (uH (uH h A r b) o f (wI (uH h A r b o f + 1))) r [b] := by
  refine ⟨fun q k e1 e2 => by rw [uH_ne e2, uH_ne (by omega)], by rw [uH_at, uH_ne (by omega), hr, hf]; rfl, fun i hi => ?_, fun i hi => by rw [uH_ne (by omega), uH_ne (by omega)]⟩
  have : i = 0 := by
    have : [b].length = 1 := rfl
    omega
  subst this
  rw [uH_ne (by omega), Nat.add_zero, uH_at]
  rfl
def mB : Nat → List Int
  | 2 => [30, 10]
  | 4 => [50, 10]
  | 6 => [71, 30, 10]
  | _ => [10]
def mVl (l : Nat) (x n v : Int) : Int := match l with
  | 2 => wI (wI (x * 3) + n)
  | 4 => wI (-(wI (x + n)))
  | 6 => eI (wI (wI (x * 3) + n)) v
  | _ => wI (x + n)
def l0V (c : Nat) (x n v : Int) : Int := wI (mVl c x n v - v)
def l0B (c : Nat) : List Int := 11 :: mB c
def l1V (c : Nat) (x n v : Int) : Int := eI (l0V c x n v) 6
def l1B (c : Nat) : List Int := 20 :: l0B c
def lVl (c l : Nat) (x n v : Int) : Int := match l with
  | 1 => l1V c x n v
  | 3 => l1V c x n v
  | 5 => l1V c x n v
  | 4 => l1V c (wI (x + 1)) n v
  | 6 => wI (l0V c x n v + mVl 2 2 n v)
  | _ => l0V c x n v
def lBl (c l : Nat) : List Int := match l with
  | 1 => l1B c
  | 3 => l1B c
  | 5 => l1B c
  | 4 => 51 :: l1B c
  | 6 => 70 :: (l0B c ++ mB 2)
  | _ => l0B c
def t0V (c : Nat) (x n v : Int) : Int := wI (lVl c c x n v * 2)
def t0B (c : Nat) : List Int := 12 :: lBl c c
def tVl (c l : Nat) (x n v : Int) : Int := match l with
  | 3 => wI (t0V c x n v + lVl c c 1 n v)
  | 5 => t0V c (wI (x - n)) n v
  | _ => t0V c x n v
def tBl (c l : Nat) : List Int := match l with
  | 3 => 40 :: (t0B c ++ lBl c c)
  | 5 => 60 :: t0B c
  | _ => t0B c
/-- the ACTS of the class, begun for a holder -/
def AcF (h : HH) (c : Nat) (n v : Int) : Prop := Wd h ∧ (h 60 2 = (c : Int) ∧ h 60 3 = n ∧ h 60 4 = v) ∧ (∀ j : Nat, j < 7 → h 181 j = kaT.getD j 0) ∧ ∀ j : Nat, j < 21 → h 182 j = boT.getD j 0
theorem AcF.lg {h h2 : HH} {c r : Nat} {n v : Int} {bs : List Int} (hA : AcF h c n v) (hl : LGr 61 60 1 h h2 r bs) : AcF h2 c n v := by
  obtain ⟨hW, ⟨x1, x2, x3⟩, x4, x5⟩ := hA
  have f := hl.1
  exact ⟨hW.of fun a k hk => f a k (by rintro rfl; exact hk (by show (-9 : Int) < 0; decide)) (by rintro ⟨rfl, rfl⟩; exact hk (by decide)), ⟨(f _ _ (by omega) (by omega)).trans x1, (f _ _ (by omega) (by omega)).trans x2, (f _ _ (by omega) (by omega)).trans x3⟩, fun j hj => (f _ _ (by omega) (by omega)).trans (x4 j hj), fun j hj => (f _ _ (by omega) (by omega)).trans (x5 j hj)⟩
section Q20
variable {g : GC} {d : Nat} {h : HH} {al : AL} {K : KT} {c r dep : Nat} {n v x z : Int} {P : HH → Prop}
theorem c_fr_0_0 (hA : AcF h c n v) (hr : h 60 1 = (r : Int)) (h20 : r < 20) (hdep : dep ≤ 30) (hR : ∀ (h2 : HH) (K2 : KT), LGr 61 60 1 h h2 r [10] → (∀ h3 : HH, P h3 → K2 (some (xi z)) h3 al) → Call g (d + 1) yAc_run [xr 60, xi 10, xi (-1), xi x, xi ((dep + 1 : Nat) : Int)] h2 al K2) (hK : ∀ h3 : HH, P h3 → K (some (xi z)) h3 al) : Call g (d + 1 + 1) yAc_from [xr 60, xi 0, xi 0, xi x, xi (dep : Int)] h al K := by
  obtain ⟨hW, -, hka, hbo⟩ := hA
  have t := fun K2 => hR _ K2 (LGr.one (A := 61) (o := 60) (f := 1) (r := r) (h := h) (b := 10) (by decide) hr (nS r (by omega)))
  rw [← nS dep (by omega)] at t
  obtain ⟨h0, rfl⟩ := id hW
  refine cof ocAc_from rfl (XW_t4 [15, 60, 74, 87, 108] 60 okAc_from ?_)
  refine ite_f (by omega) ?_
  show XW g (d + 1) mAc_from _ 15 [some (xr 60), some (xi 0), some (xi 0), some (xi x), some (xi (dep : Int)), some (xi 0), some (xi 0)] [] (wr h0) al
  refine XW_t4 [15, 60, 74, 87, 108] 60 okAc_from ?_
  show XW g (d + 1) mAc_from _ 60 [some (xr 60), some (xi 0), some (xi 0), some (xi x), some (xi (dep : Int)), some (xi 0), some (xi 0)] [] (wr h0) al
  refine XW_t4 [15, 60, 74, 87, 108] 60 okAc_from ?_
  refine c_atE (o := 182) (j := 0) rfl (by decide) (by show 0 < 21; decide) (show _ = (10 : Int) from hbo 0 (by decide)) ?_
  show XW g (d + 1) mAc_from _ 74 [some (xr 60), some (xi 0), some (xi 0), some (xi x), some (xi (dep : Int)), some (xi 0), some (xi 10)] [] (wr h0) al
  refine XW_t4 [15, 60, 74, 87, 108] 60 okAc_from ?_
  refine c_putE rfl hr (by show r < 20; omega) ?_
  show XW g (d + 1) mAc_from _ 87 [some (xr 60), some (xi 0), some (xi 0), some (xi x), some (xi (dep : Int)), some (xi 0), some (xi 10)] [] (uH (wr h0) 61 r 10) al
  refine XW_t4 [15, 60, 74, 87, 108] 60 okAc_from ?_
  refine c_atE (o := 181) (j := 0) rfl (by decide) (by show 0 < 7; decide) (show _ = (-1 : Int) from hka 0 (by decide)) ?_
  show XW g (d + 1) mAc_from _ 108 [some (xr 60), some (xi 0), some (xi 0), some (xi x), some (xi (dep : Int)), some (xi 0), some (xi 10)] [xi (-1), xi 10, xr 60] (uH (uH (wr h0) 61 r 10) 60 1 (wI (uH (wr h0) 61 r 10 60 1 + 1))) al
  refine XW_t4 [15, 60, 74, 87, 108] 60 okAc_from ?_
  refine t _ ?_
  exact hK
theorem c_fr_0_1 (hA : AcF h c n v) (hr : h 60 1 = (r : Int)) (h20 : r < 20) (hdep : dep ≤ 30) (hR : ∀ (h2 : HH) (K2 : KT), LGr 61 60 1 h h2 r [11] → (∀ h3 : HH, P h3 → K2 (some (xi z)) h3 al) → Call g (d + 1) yAc_run [xr 60, xi 11, xi (-1), xi x, xi ((dep + 1 : Nat) : Int)] h2 al K2) (hK : ∀ h3 : HH, P h3 → K (some (xi z)) h3 al) : Call g (d + 1 + 1) yAc_from [xr 60, xi 0, xi 1, xi x, xi (dep : Int)] h al K := by
  obtain ⟨hW, -, hka, hbo⟩ := hA
  have t := fun K2 => hR _ K2 (LGr.one (A := 61) (o := 60) (f := 1) (r := r) (h := h) (b := 11) (by decide) hr (nS r (by omega)))
  rw [← nS dep (by omega)] at t
  obtain ⟨h0, rfl⟩ := id hW
  refine cof ocAc_from rfl (XW_t4 [15, 60, 74, 87, 108] 60 okAc_from ?_)
  refine ite_f (by omega) ?_
  show XW g (d + 1) mAc_from _ 15 [some (xr 60), some (xi 0), some (xi 1), some (xi x), some (xi (dep : Int)), some (xi 0), some (xi 0)] [] (wr h0) al
  refine XW_t4 [15, 60, 74, 87, 108] 60 okAc_from ?_
  show XW g (d + 1) mAc_from _ 60 [some (xr 60), some (xi 0), some (xi 1), some (xi x), some (xi (dep : Int)), some (xi 0), some (xi 0)] [] (wr h0) al
  refine XW_t4 [15, 60, 74, 87, 108] 60 okAc_from ?_
  refine c_atE (o := 182) (j := 1) rfl (by decide) (by show 1 < 21; decide) (show _ = (11 : Int) from hbo 1 (by decide)) ?_
  show XW g (d + 1) mAc_from _ 74 [some (xr 60), some (xi 0), some (xi 1), some (xi x), some (xi (dep : Int)), some (xi 0), some (xi 11)] [] (wr h0) al
  refine XW_t4 [15, 60, 74, 87, 108] 60 okAc_from ?_
  refine c_putE rfl hr (by show r < 20; omega) ?_
  show XW g (d + 1) mAc_from _ 87 [some (xr 60), some (xi 0), some (xi 1), some (xi x), some (xi (dep : Int)), some (xi 0), some (xi 11)] [] (uH (wr h0) 61 r 11) al
  refine XW_t4 [15, 60, 74, 87, 108] 60 okAc_from ?_
  refine c_atE (o := 181) (j := 0) rfl (by decide) (by show 0 < 7; decide) (show _ = (-1 : Int) from hka 0 (by decide)) ?_
  show XW g (d + 1) mAc_from _ 108 [some (xr 60), some (xi 0), some (xi 1), some (xi x), some (xi (dep : Int)), some (xi 0), some (xi 11)] [xi (-1), xi 11, xr 60] (uH (uH (wr h0) 61 r 11) 60 1 (wI (uH (wr h0) 61 r 11 60 1 + 1))) al
  refine XW_t4 [15, 60, 74, 87, 108] 60 okAc_from ?_
  refine t _ ?_
  exact hK
theorem c_fr_0_2 (hA : AcF h c n v) (hr : h 60 1 = (r : Int)) (h20 : r < 20) (hdep : dep ≤ 30) (hR : ∀ (h2 : HH) (K2 : KT), LGr 61 60 1 h h2 r [12] → (∀ h3 : HH, P h3 → K2 (some (xi z)) h3 al) → Call g (d + 1) yAc_run [xr 60, xi 12, xi (-1), xi x, xi ((dep + 1 : Nat) : Int)] h2 al K2) (hK : ∀ h3 : HH, P h3 → K (some (xi z)) h3 al) : Call g (d + 1 + 1) yAc_from [xr 60, xi 0, xi 2, xi x, xi (dep : Int)] h al K := by
  obtain ⟨hW, -, hka, hbo⟩ := hA
  have t := fun K2 => hR _ K2 (LGr.one (A := 61) (o := 60) (f := 1) (r := r) (h := h) (b := 12) (by decide) hr (nS r (by omega)))
  rw [← nS dep (by omega)] at t
  obtain ⟨h0, rfl⟩ := id hW
  refine cof ocAc_from rfl (XW_t4 [15, 60, 74, 87, 108] 60 okAc_from ?_)
  refine ite_f (by omega) ?_
  show XW g (d + 1) mAc_from _ 15 [some (xr 60), some (xi 0), some (xi 2), some (xi x), some (xi (dep : Int)), some (xi 0), some (xi 0)] [] (wr h0) al
  refine XW_t4 [15, 60, 74, 87, 108] 60 okAc_from ?_
  show XW g (d + 1) mAc_from _ 60 [some (xr 60), some (xi 0), some (xi 2), some (xi x), some (xi (dep : Int)), some (xi 0), some (xi 0)] [] (wr h0) al
  refine XW_t4 [15, 60, 74, 87, 108] 60 okAc_from ?_
  refine c_atE (o := 182) (j := 2) rfl (by decide) (by show 2 < 21; decide) (show _ = (12 : Int) from hbo 2 (by decide)) ?_
  show XW g (d + 1) mAc_from _ 74 [some (xr 60), some (xi 0), some (xi 2), some (xi x), some (xi (dep : Int)), some (xi 0), some (xi 12)] [] (wr h0) al
  refine XW_t4 [15, 60, 74, 87, 108] 60 okAc_from ?_
  refine c_putE rfl hr (by show r < 20; omega) ?_
  show XW g (d + 1) mAc_from _ 87 [some (xr 60), some (xi 0), some (xi 2), some (xi x), some (xi (dep : Int)), some (xi 0), some (xi 12)] [] (uH (wr h0) 61 r 12) al
  refine XW_t4 [15, 60, 74, 87, 108] 60 okAc_from ?_
  refine c_atE (o := 181) (j := 0) rfl (by decide) (by show 0 < 7; decide) (show _ = (-1 : Int) from hka 0 (by decide)) ?_
  show XW g (d + 1) mAc_from _ 108 [some (xr 60), some (xi 0), some (xi 2), some (xi x), some (xi (dep : Int)), some (xi 0), some (xi 12)] [xi (-1), xi 12, xr 60] (uH (uH (wr h0) 61 r 12) 60 1 (wI (uH (wr h0) 61 r 12 60 1 + 1))) al
  refine XW_t4 [15, 60, 74, 87, 108] 60 okAc_from ?_
  refine t _ ?_
  exact hK
theorem c_fr_1_0 (hA : AcF h c n v) (hr : h 60 1 = (r : Int)) (h20 : r < 20) (hdep : dep ≤ 30) (hR : ∀ (h2 : HH) (K2 : KT), LGr 61 60 1 h h2 r [10] → (∀ h3 : HH, P h3 → K2 (some (xi z)) h3 al) → Call g (d + 1) yAc_run [xr 60, xi 10, xi (-1), xi x, xi ((dep + 1 : Nat) : Int)] h2 al K2) (hK : ∀ h3 : HH, P h3 → K (some (xi z)) h3 al) : Call g (d + 1 + 1) yAc_from [xr 60, xi 1, xi 0, xi x, xi (dep : Int)] h al K := by
  obtain ⟨hW, -, hka, hbo⟩ := hA
  have t := fun K2 => hR _ K2 (LGr.one (A := 61) (o := 60) (f := 1) (r := r) (h := h) (b := 10) (by decide) hr (nS r (by omega)))
  rw [← nS dep (by omega)] at t
  obtain ⟨h0, rfl⟩ := id hW
  refine cof ocAc_from rfl (XW_t4 [15, 60, 74, 87, 108] 60 okAc_from ?_)
  refine ite_f (by omega) ?_
  show XW g (d + 1) mAc_from _ 15 [some (xr 60), some (xi 1), some (xi 0), some (xi x), some (xi (dep : Int)), some (xi 1), some (xi 0)] [] (wr h0) al
  refine XW_t4 [15, 60, 74, 87, 108] 60 okAc_from ?_
  refine c_atE (o := 182) (j := 3) rfl (by decide) (by show 3 < 21; decide) (show _ = (0 : Int) from hbo 3 (by decide)) ?_
  refine c_atE (o := 181) (j := 1) rfl (by decide) (by show 1 < 7; decide) (show _ = (0 : Int) from hka 1 (by decide)) ?_
  show XW g (d + 1) mAc_from _ 15 [some (xr 60), some (xi 1), some (xi 0), some (xi x), some (xi (dep : Int)), some (xi 0), some (xi 1)] [] (wr h0) al
  refine XW_t4 [15, 60, 74, 87, 108] 60 okAc_from ?_
  show XW g (d + 1) mAc_from _ 60 [some (xr 60), some (xi 1), some (xi 0), some (xi x), some (xi (dep : Int)), some (xi 0), some (xi 1)] [] (wr h0) al
  refine XW_t4 [15, 60, 74, 87, 108] 60 okAc_from ?_
  refine c_atE (o := 182) (j := 0) rfl (by decide) (by show 0 < 21; decide) (show _ = (10 : Int) from hbo 0 (by decide)) ?_
  show XW g (d + 1) mAc_from _ 74 [some (xr 60), some (xi 1), some (xi 0), some (xi x), some (xi (dep : Int)), some (xi 0), some (xi 10)] [] (wr h0) al
  refine XW_t4 [15, 60, 74, 87, 108] 60 okAc_from ?_
  refine c_putE rfl hr (by show r < 20; omega) ?_
  show XW g (d + 1) mAc_from _ 87 [some (xr 60), some (xi 1), some (xi 0), some (xi x), some (xi (dep : Int)), some (xi 0), some (xi 10)] [] (uH (wr h0) 61 r 10) al
  refine XW_t4 [15, 60, 74, 87, 108] 60 okAc_from ?_
  refine c_atE (o := 181) (j := 0) rfl (by decide) (by show 0 < 7; decide) (show _ = (-1 : Int) from hka 0 (by decide)) ?_
  show XW g (d + 1) mAc_from _ 108 [some (xr 60), some (xi 1), some (xi 0), some (xi x), some (xi (dep : Int)), some (xi 0), some (xi 10)] [xi (-1), xi 10, xr 60] (uH (uH (wr h0) 61 r 10) 60 1 (wI (uH (wr h0) 61 r 10 60 1 + 1))) al
  refine XW_t4 [15, 60, 74, 87, 108] 60 okAc_from ?_
  refine t _ ?_
  exact hK
theorem c_fr_1_1 (hA : AcF h c n v) (hr : h 60 1 = (r : Int)) (h20 : r < 20) (hdep : dep ≤ 30) (hR : ∀ (h2 : HH) (K2 : KT), LGr 61 60 1 h h2 r [20] → (∀ h3 : HH, P h3 → K2 (some (xi z)) h3 al) → Call g (d + 1) yAc_run [xr 60, xi 20, xi (0), xi x, xi ((dep + 1 : Nat) : Int)] h2 al K2) (hK : ∀ h3 : HH, P h3 → K (some (xi z)) h3 al) : Call g (d + 1 + 1) yAc_from [xr 60, xi 1, xi 1, xi x, xi (dep : Int)] h al K := by
  obtain ⟨hW, -, hka, hbo⟩ := hA
  have t := fun K2 => hR _ K2 (LGr.one (A := 61) (o := 60) (f := 1) (r := r) (h := h) (b := 20) (by decide) hr (nS r (by omega)))
  rw [← nS dep (by omega)] at t
  obtain ⟨h0, rfl⟩ := id hW
  refine cof ocAc_from rfl (XW_t4 [15, 60, 74, 87, 108] 60 okAc_from ?_)
  refine ite_f (by omega) ?_
  show XW g (d + 1) mAc_from _ 15 [some (xr 60), some (xi 1), some (xi 1), some (xi x), some (xi (dep : Int)), some (xi 1), some (xi 0)] [] (wr h0) al
  refine XW_t4 [15, 60, 74, 87, 108] 60 okAc_from ?_
  refine c_atE (o := 182) (j := 4) rfl (by decide) (by show 4 < 21; decide) (show _ = (20 : Int) from hbo 4 (by decide)) ?_
  show XW g (d + 1) mAc_from _ 60 [some (xr 60), some (xi 1), some (xi 1), some (xi x), some (xi (dep : Int)), some (xi 1), some (xi 0)] [] (wr h0) al
  refine XW_t4 [15, 60, 74, 87, 108] 60 okAc_from ?_
  refine c_atE (o := 182) (j := 4) rfl (by decide) (by show 4 < 21; decide) (show _ = (20 : Int) from hbo 4 (by decide)) ?_
  show XW g (d + 1) mAc_from _ 74 [some (xr 60), some (xi 1), some (xi 1), some (xi x), some (xi (dep : Int)), some (xi 1), some (xi 20)] [] (wr h0) al
  refine XW_t4 [15, 60, 74, 87, 108] 60 okAc_from ?_
  refine c_putE rfl hr (by show r < 20; omega) ?_
  show XW g (d + 1) mAc_from _ 87 [some (xr 60), some (xi 1), some (xi 1), some (xi x), some (xi (dep : Int)), some (xi 1), some (xi 20)] [] (uH (wr h0) 61 r 20) al
  refine XW_t4 [15, 60, 74, 87, 108] 60 okAc_from ?_
  refine c_atE (o := 181) (j := 1) rfl (by decide) (by show 1 < 7; decide) (show _ = (0 : Int) from hka 1 (by decide)) ?_
  show XW g (d + 1) mAc_from _ 108 [some (xr 60), some (xi 1), some (xi 1), some (xi x), some (xi (dep : Int)), some (xi 1), some (xi 20)] [xi (0), xi 20, xr 60] (uH (uH (wr h0) 61 r 20) 60 1 (wI (uH (wr h0) 61 r 20 60 1 + 1))) al
  refine XW_t4 [15, 60, 74, 87, 108] 60 okAc_from ?_
  refine t _ ?_
  exact hK
theorem c_fr_1_2 (hA : AcF h c n v) (hr : h 60 1 = (r : Int)) (h20 : r < 20) (hdep : dep ≤ 30) (hR : ∀ (h2 : HH) (K2 : KT), LGr 61 60 1 h h2 r [12] → (∀ h3 : HH, P h3 → K2 (some (xi z)) h3 al) → Call g (d + 1) yAc_run [xr 60, xi 12, xi (-1), xi x, xi ((dep + 1 : Nat) : Int)] h2 al K2) (hK : ∀ h3 : HH, P h3 → K (some (xi z)) h3 al) : Call g (d + 1 + 1) yAc_from [xr 60, xi 1, xi 2, xi x, xi (dep : Int)] h al K := by
  obtain ⟨hW, -, hka, hbo⟩ := hA
  have t := fun K2 => hR _ K2 (LGr.one (A := 61) (o := 60) (f := 1) (r := r) (h := h) (b := 12) (by decide) hr (nS r (by omega)))
  rw [← nS dep (by omega)] at t
  obtain ⟨h0, rfl⟩ := id hW
  refine cof ocAc_from rfl (XW_t4 [15, 60, 74, 87, 108] 60 okAc_from ?_)
  refine ite_f (by omega) ?_
  show XW g (d + 1) mAc_from _ 15 [some (xr 60), some (xi 1), some (xi 2), some (xi x), some (xi (dep : Int)), some (xi 1), some (xi 0)] [] (wr h0) al
  refine XW_t4 [15, 60, 74, 87, 108] 60 okAc_from ?_
  refine c_atE (o := 182) (j := 5) rfl (by decide) (by show 5 < 21; decide) (show _ = (0 : Int) from hbo 5 (by decide)) ?_
  refine c_atE (o := 181) (j := 1) rfl (by decide) (by show 1 < 7; decide) (show _ = (0 : Int) from hka 1 (by decide)) ?_
  show XW g (d + 1) mAc_from _ 15 [some (xr 60), some (xi 1), some (xi 2), some (xi x), some (xi (dep : Int)), some (xi 0), some (xi 1)] [] (wr h0) al
  refine XW_t4 [15, 60, 74, 87, 108] 60 okAc_from ?_
  show XW g (d + 1) mAc_from _ 60 [some (xr 60), some (xi 1), some (xi 2), some (xi x), some (xi (dep : Int)), some (xi 0), some (xi 1)] [] (wr h0) al
  refine XW_t4 [15, 60, 74, 87, 108] 60 okAc_from ?_
  refine c_atE (o := 182) (j := 2) rfl (by decide) (by show 2 < 21; decide) (show _ = (12 : Int) from hbo 2 (by decide)) ?_
  show XW g (d + 1) mAc_from _ 74 [some (xr 60), some (xi 1), some (xi 2), some (xi x), some (xi (dep : Int)), some (xi 0), some (xi 12)] [] (wr h0) al
  refine XW_t4 [15, 60, 74, 87, 108] 60 okAc_from ?_
  refine c_putE rfl hr (by show r < 20; omega) ?_
  show XW g (d + 1) mAc_from _ 87 [some (xr 60), some (xi 1), some (xi 2), some (xi x), some (xi (dep : Int)), some (xi 0), some (xi 12)] [] (uH (wr h0) 61 r 12) al
  refine XW_t4 [15, 60, 74, 87, 108] 60 okAc_from ?_
  refine c_atE (o := 181) (j := 0) rfl (by decide) (by show 0 < 7; decide) (show _ = (-1 : Int) from hka 0 (by decide)) ?_
  show XW g (d + 1) mAc_from _ 108 [some (xr 60), some (xi 1), some (xi 2), some (xi x), some (xi (dep : Int)), some (xi 0), some (xi 12)] [xi (-1), xi 12, xr 60] (uH (uH (wr h0) 61 r 12) 60 1 (wI (uH (wr h0) 61 r 12 60 1 + 1))) al
  refine XW_t4 [15, 60, 74, 87, 108] 60 okAc_from ?_
  refine t _ ?_
  exact hK
theorem c_fr_2_0 (hA : AcF h c n v) (hr : h 60 1 = (r : Int)) (h20 : r < 20) (hdep : dep ≤ 30) (hR : ∀ (h2 : HH) (K2 : KT), LGr 61 60 1 h h2 r [30] → (∀ h3 : HH, P h3 → K2 (some (xi z)) h3 al) → Call g (d + 1) yAc_run [xr 60, xi 30, xi (0), xi x, xi ((dep + 1 : Nat) : Int)] h2 al K2) (hK : ∀ h3 : HH, P h3 → K (some (xi z)) h3 al) : Call g (d + 1 + 1) yAc_from [xr 60, xi 2, xi 0, xi x, xi (dep : Int)] h al K := by
  obtain ⟨hW, -, hka, hbo⟩ := hA
  have t := fun K2 => hR _ K2 (LGr.one (A := 61) (o := 60) (f := 1) (r := r) (h := h) (b := 30) (by decide) hr (nS r (by omega)))
  rw [← nS dep (by omega)] at t
  obtain ⟨h0, rfl⟩ := id hW
  refine cof ocAc_from rfl (XW_t4 [15, 60, 74, 87, 108] 60 okAc_from ?_)
  refine ite_f (by omega) ?_
  show XW g (d + 1) mAc_from _ 15 [some (xr 60), some (xi 2), some (xi 0), some (xi x), some (xi (dep : Int)), some (xi 2), some (xi 0)] [] (wr h0) al
  refine XW_t4 [15, 60, 74, 87, 108] 60 okAc_from ?_
  refine c_atE (o := 182) (j := 6) rfl (by decide) (by show 6 < 21; decide) (show _ = (30 : Int) from hbo 6 (by decide)) ?_
  show XW g (d + 1) mAc_from _ 60 [some (xr 60), some (xi 2), some (xi 0), some (xi x), some (xi (dep : Int)), some (xi 2), some (xi 0)] [] (wr h0) al
  refine XW_t4 [15, 60, 74, 87, 108] 60 okAc_from ?_
  refine c_atE (o := 182) (j := 6) rfl (by decide) (by show 6 < 21; decide) (show _ = (30 : Int) from hbo 6 (by decide)) ?_
  show XW g (d + 1) mAc_from _ 74 [some (xr 60), some (xi 2), some (xi 0), some (xi x), some (xi (dep : Int)), some (xi 2), some (xi 30)] [] (wr h0) al
  refine XW_t4 [15, 60, 74, 87, 108] 60 okAc_from ?_
  refine c_putE rfl hr (by show r < 20; omega) ?_
  show XW g (d + 1) mAc_from _ 87 [some (xr 60), some (xi 2), some (xi 0), some (xi x), some (xi (dep : Int)), some (xi 2), some (xi 30)] [] (uH (wr h0) 61 r 30) al
  refine XW_t4 [15, 60, 74, 87, 108] 60 okAc_from ?_
  refine c_atE (o := 181) (j := 2) rfl (by decide) (by show 2 < 7; decide) (show _ = (0 : Int) from hka 2 (by decide)) ?_
  show XW g (d + 1) mAc_from _ 108 [some (xr 60), some (xi 2), some (xi 0), some (xi x), some (xi (dep : Int)), some (xi 2), some (xi 30)] [xi (0), xi 30, xr 60] (uH (uH (wr h0) 61 r 30) 60 1 (wI (uH (wr h0) 61 r 30 60 1 + 1))) al
  refine XW_t4 [15, 60, 74, 87, 108] 60 okAc_from ?_
  refine t _ ?_
  exact hK
theorem c_fr_2_1 (hA : AcF h c n v) (hr : h 60 1 = (r : Int)) (h20 : r < 20) (hdep : dep ≤ 30) (hR : ∀ (h2 : HH) (K2 : KT), LGr 61 60 1 h h2 r [11] → (∀ h3 : HH, P h3 → K2 (some (xi z)) h3 al) → Call g (d + 1) yAc_run [xr 60, xi 11, xi (-1), xi x, xi ((dep + 1 : Nat) : Int)] h2 al K2) (hK : ∀ h3 : HH, P h3 → K (some (xi z)) h3 al) : Call g (d + 1 + 1) yAc_from [xr 60, xi 2, xi 1, xi x, xi (dep : Int)] h al K := by
  obtain ⟨hW, -, hka, hbo⟩ := hA
  have t := fun K2 => hR _ K2 (LGr.one (A := 61) (o := 60) (f := 1) (r := r) (h := h) (b := 11) (by decide) hr (nS r (by omega)))
  rw [← nS dep (by omega)] at t
  obtain ⟨h0, rfl⟩ := id hW
  refine cof ocAc_from rfl (XW_t4 [15, 60, 74, 87, 108] 60 okAc_from ?_)
  refine ite_f (by omega) ?_
  show XW g (d + 1) mAc_from _ 15 [some (xr 60), some (xi 2), some (xi 1), some (xi x), some (xi (dep : Int)), some (xi 2), some (xi 0)] [] (wr h0) al
  refine XW_t4 [15, 60, 74, 87, 108] 60 okAc_from ?_
  refine c_atE (o := 182) (j := 7) rfl (by decide) (by show 7 < 21; decide) (show _ = (0 : Int) from hbo 7 (by decide)) ?_
  refine c_atE (o := 181) (j := 2) rfl (by decide) (by show 2 < 7; decide) (show _ = (0 : Int) from hka 2 (by decide)) ?_
  show XW g (d + 1) mAc_from _ 15 [some (xr 60), some (xi 2), some (xi 1), some (xi x), some (xi (dep : Int)), some (xi 0), some (xi 1)] [] (wr h0) al
  refine XW_t4 [15, 60, 74, 87, 108] 60 okAc_from ?_
  show XW g (d + 1) mAc_from _ 60 [some (xr 60), some (xi 2), some (xi 1), some (xi x), some (xi (dep : Int)), some (xi 0), some (xi 1)] [] (wr h0) al
  refine XW_t4 [15, 60, 74, 87, 108] 60 okAc_from ?_
  refine c_atE (o := 182) (j := 1) rfl (by decide) (by show 1 < 21; decide) (show _ = (11 : Int) from hbo 1 (by decide)) ?_
  show XW g (d + 1) mAc_from _ 74 [some (xr 60), some (xi 2), some (xi 1), some (xi x), some (xi (dep : Int)), some (xi 0), some (xi 11)] [] (wr h0) al
  refine XW_t4 [15, 60, 74, 87, 108] 60 okAc_from ?_
  refine c_putE rfl hr (by show r < 20; omega) ?_
  show XW g (d + 1) mAc_from _ 87 [some (xr 60), some (xi 2), some (xi 1), some (xi x), some (xi (dep : Int)), some (xi 0), some (xi 11)] [] (uH (wr h0) 61 r 11) al
  refine XW_t4 [15, 60, 74, 87, 108] 60 okAc_from ?_
  refine c_atE (o := 181) (j := 0) rfl (by decide) (by show 0 < 7; decide) (show _ = (-1 : Int) from hka 0 (by decide)) ?_
  show XW g (d + 1) mAc_from _ 108 [some (xr 60), some (xi 2), some (xi 1), some (xi x), some (xi (dep : Int)), some (xi 0), some (xi 11)] [xi (-1), xi 11, xr 60] (uH (uH (wr h0) 61 r 11) 60 1 (wI (uH (wr h0) 61 r 11 60 1 + 1))) al
  refine XW_t4 [15, 60, 74, 87, 108] 60 okAc_from ?_
  refine t _ ?_
  exact hK
theorem c_fr_2_2 (hA : AcF h c n v) (hr : h 60 1 = (r : Int)) (h20 : r < 20) (hdep : dep ≤ 30) (hR : ∀ (h2 : HH) (K2 : KT), LGr 61 60 1 h h2 r [12] → (∀ h3 : HH, P h3 → K2 (some (xi z)) h3 al) → Call g (d + 1) yAc_run [xr 60, xi 12, xi (-1), xi x, xi ((dep + 1 : Nat) : Int)] h2 al K2) (hK : ∀ h3 : HH, P h3 → K (some (xi z)) h3 al) : Call g (d + 1 + 1) yAc_from [xr 60, xi 2, xi 2, xi x, xi (dep : Int)] h al K := by
  obtain ⟨hW, -, hka, hbo⟩ := hA
  have t := fun K2 => hR _ K2 (LGr.one (A := 61) (o := 60) (f := 1) (r := r) (h := h) (b := 12) (by decide) hr (nS r (by omega)))
  rw [← nS dep (by omega)] at t
  obtain ⟨h0, rfl⟩ := id hW
  refine cof ocAc_from rfl (XW_t4 [15, 60, 74, 87, 108] 60 okAc_from ?_)
  refine ite_f (by omega) ?_
  show XW g (d + 1) mAc_from _ 15 [some (xr 60), some (xi 2), some (xi 2), some (xi x), some (xi (dep : Int)), some (xi 2), some (xi 0)] [] (wr h0) al
  refine XW_t4 [15, 60, 74, 87, 108] 60 okAc_from ?_
  refine c_atE (o := 182) (j := 8) rfl (by decide) (by show 8 < 21; decide) (show _ = (0 : Int) from hbo 8 (by decide)) ?_
  refine c_atE (o := 181) (j := 2) rfl (by decide) (by show 2 < 7; decide) (show _ = (0 : Int) from hka 2 (by decide)) ?_
  show XW g (d + 1) mAc_from _ 15 [some (xr 60), some (xi 2), some (xi 2), some (xi x), some (xi (dep : Int)), some (xi 0), some (xi 1)] [] (wr h0) al
  refine XW_t4 [15, 60, 74, 87, 108] 60 okAc_from ?_
  show XW g (d + 1) mAc_from _ 60 [some (xr 60), some (xi 2), some (xi 2), some (xi x), some (xi (dep : Int)), some (xi 0), some (xi 1)] [] (wr h0) al
  refine XW_t4 [15, 60, 74, 87, 108] 60 okAc_from ?_
  refine c_atE (o := 182) (j := 2) rfl (by decide) (by show 2 < 21; decide) (show _ = (12 : Int) from hbo 2 (by decide)) ?_
  show XW g (d + 1) mAc_from _ 74 [some (xr 60), some (xi 2), some (xi 2), some (xi x), some (xi (dep : Int)), some (xi 0), some (xi 12)] [] (wr h0) al
  refine XW_t4 [15, 60, 74, 87, 108] 60 okAc_from ?_
  refine c_putE rfl hr (by show r < 20; omega) ?_
  show XW g (d + 1) mAc_from _ 87 [some (xr 60), some (xi 2), some (xi 2), some (xi x), some (xi (dep : Int)), some (xi 0), some (xi 12)] [] (uH (wr h0) 61 r 12) al
  refine XW_t4 [15, 60, 74, 87, 108] 60 okAc_from ?_
  refine c_atE (o := 181) (j := 0) rfl (by decide) (by show 0 < 7; decide) (show _ = (-1 : Int) from hka 0 (by decide)) ?_
  show XW g (d + 1) mAc_from _ 108 [some (xr 60), some (xi 2), some (xi 2), some (xi x), some (xi (dep : Int)), some (xi 0), some (xi 12)] [xi (-1), xi 12, xr 60] (uH (uH (wr h0) 61 r 12) 60 1 (wI (uH (wr h0) 61 r 12 60 1 + 1))) al
  refine XW_t4 [15, 60, 74, 87, 108] 60 okAc_from ?_
  refine t _ ?_
  exact hK
theorem c_fr_3_0 (hA : AcF h c n v) (hr : h 60 1 = (r : Int)) (h20 : r < 20) (hdep : dep ≤ 30) (hR : ∀ (h2 : HH) (K2 : KT), LGr 61 60 1 h h2 r [10] → (∀ h3 : HH, P h3 → K2 (some (xi z)) h3 al) → Call g (d + 1) yAc_run [xr 60, xi 10, xi (-1), xi x, xi ((dep + 1 : Nat) : Int)] h2 al K2) (hK : ∀ h3 : HH, P h3 → K (some (xi z)) h3 al) : Call g (d + 1 + 1) yAc_from [xr 60, xi 3, xi 0, xi x, xi (dep : Int)] h al K := by
  obtain ⟨hW, -, hka, hbo⟩ := hA
  have t := fun K2 => hR _ K2 (LGr.one (A := 61) (o := 60) (f := 1) (r := r) (h := h) (b := 10) (by decide) hr (nS r (by omega)))
  rw [← nS dep (by omega)] at t
  obtain ⟨h0, rfl⟩ := id hW
  refine cof ocAc_from rfl (XW_t4 [15, 60, 74, 87, 108] 60 okAc_from ?_)
  refine ite_f (by omega) ?_
  show XW g (d + 1) mAc_from _ 15 [some (xr 60), some (xi 3), some (xi 0), some (xi x), some (xi (dep : Int)), some (xi 3), some (xi 0)] [] (wr h0) al
  refine XW_t4 [15, 60, 74, 87, 108] 60 okAc_from ?_
  refine c_atE (o := 182) (j := 9) rfl (by decide) (by show 9 < 21; decide) (show _ = (0 : Int) from hbo 9 (by decide)) ?_
  refine c_atE (o := 181) (j := 3) rfl (by decide) (by show 3 < 7; decide) (show _ = (1 : Int) from hka 3 (by decide)) ?_
  show XW g (d + 1) mAc_from _ 15 [some (xr 60), some (xi 3), some (xi 0), some (xi x), some (xi (dep : Int)), some (xi 1), some (xi 1)] [] (wr h0) al
  refine XW_t4 [15, 60, 74, 87, 108] 60 okAc_from ?_
  refine c_atE (o := 182) (j := 3) rfl (by decide) (by show 3 < 21; decide) (show _ = (0 : Int) from hbo 3 (by decide)) ?_
  refine c_atE (o := 181) (j := 1) rfl (by decide) (by show 1 < 7; decide) (show _ = (0 : Int) from hka 1 (by decide)) ?_
  show XW g (d + 1) mAc_from _ 15 [some (xr 60), some (xi 3), some (xi 0), some (xi x), some (xi (dep : Int)), some (xi 0), some (xi 2)] [] (wr h0) al
  refine XW_t4 [15, 60, 74, 87, 108] 60 okAc_from ?_
  show XW g (d + 1) mAc_from _ 60 [some (xr 60), some (xi 3), some (xi 0), some (xi x), some (xi (dep : Int)), some (xi 0), some (xi 2)] [] (wr h0) al
  refine XW_t4 [15, 60, 74, 87, 108] 60 okAc_from ?_
  refine c_atE (o := 182) (j := 0) rfl (by decide) (by show 0 < 21; decide) (show _ = (10 : Int) from hbo 0 (by decide)) ?_
  show XW g (d + 1) mAc_from _ 74 [some (xr 60), some (xi 3), some (xi 0), some (xi x), some (xi (dep : Int)), some (xi 0), some (xi 10)] [] (wr h0) al
  refine XW_t4 [15, 60, 74, 87, 108] 60 okAc_from ?_
  refine c_putE rfl hr (by show r < 20; omega) ?_
  show XW g (d + 1) mAc_from _ 87 [some (xr 60), some (xi 3), some (xi 0), some (xi x), some (xi (dep : Int)), some (xi 0), some (xi 10)] [] (uH (wr h0) 61 r 10) al
  refine XW_t4 [15, 60, 74, 87, 108] 60 okAc_from ?_
  refine c_atE (o := 181) (j := 0) rfl (by decide) (by show 0 < 7; decide) (show _ = (-1 : Int) from hka 0 (by decide)) ?_
  show XW g (d + 1) mAc_from _ 108 [some (xr 60), some (xi 3), some (xi 0), some (xi x), some (xi (dep : Int)), some (xi 0), some (xi 10)] [xi (-1), xi 10, xr 60] (uH (uH (wr h0) 61 r 10) 60 1 (wI (uH (wr h0) 61 r 10 60 1 + 1))) al
  refine XW_t4 [15, 60, 74, 87, 108] 60 okAc_from ?_
  refine t _ ?_
  exact hK
theorem c_fr_3_1 (hA : AcF h c n v) (hr : h 60 1 = (r : Int)) (h20 : r < 20) (hdep : dep ≤ 30) (hR : ∀ (h2 : HH) (K2 : KT), LGr 61 60 1 h h2 r [20] → (∀ h3 : HH, P h3 → K2 (some (xi z)) h3 al) → Call g (d + 1) yAc_run [xr 60, xi 20, xi (0), xi x, xi ((dep + 1 : Nat) : Int)] h2 al K2) (hK : ∀ h3 : HH, P h3 → K (some (xi z)) h3 al) : Call g (d + 1 + 1) yAc_from [xr 60, xi 3, xi 1, xi x, xi (dep : Int)] h al K := by
  obtain ⟨hW, -, hka, hbo⟩ := hA
  have t := fun K2 => hR _ K2 (LGr.one (A := 61) (o := 60) (f := 1) (r := r) (h := h) (b := 20) (by decide) hr (nS r (by omega)))
  rw [← nS dep (by omega)] at t
  obtain ⟨h0, rfl⟩ := id hW
  refine cof ocAc_from rfl (XW_t4 [15, 60, 74, 87, 108] 60 okAc_from ?_)
  refine ite_f (by omega) ?_
  show XW g (d + 1) mAc_from _ 15 [some (xr 60), some (xi 3), some (xi 1), some (xi x), some (xi (dep : Int)), some (xi 3), some (xi 0)] [] (wr h0) al
  refine XW_t4 [15, 60, 74, 87, 108] 60 okAc_from ?_
  refine c_atE (o := 182) (j := 10) rfl (by decide) (by show 10 < 21; decide) (show _ = (0 : Int) from hbo 10 (by decide)) ?_
  refine c_atE (o := 181) (j := 3) rfl (by decide) (by show 3 < 7; decide) (show _ = (1 : Int) from hka 3 (by decide)) ?_
  show XW g (d + 1) mAc_from _ 15 [some (xr 60), some (xi 3), some (xi 1), some (xi x), some (xi (dep : Int)), some (xi 1), some (xi 1)] [] (wr h0) al
  refine XW_t4 [15, 60, 74, 87, 108] 60 okAc_from ?_
  refine c_atE (o := 182) (j := 4) rfl (by decide) (by show 4 < 21; decide) (show _ = (20 : Int) from hbo 4 (by decide)) ?_
  show XW g (d + 1) mAc_from _ 60 [some (xr 60), some (xi 3), some (xi 1), some (xi x), some (xi (dep : Int)), some (xi 1), some (xi 1)] [] (wr h0) al
  refine XW_t4 [15, 60, 74, 87, 108] 60 okAc_from ?_
  refine c_atE (o := 182) (j := 4) rfl (by decide) (by show 4 < 21; decide) (show _ = (20 : Int) from hbo 4 (by decide)) ?_
  show XW g (d + 1) mAc_from _ 74 [some (xr 60), some (xi 3), some (xi 1), some (xi x), some (xi (dep : Int)), some (xi 1), some (xi 20)] [] (wr h0) al
  refine XW_t4 [15, 60, 74, 87, 108] 60 okAc_from ?_
  refine c_putE rfl hr (by show r < 20; omega) ?_
  show XW g (d + 1) mAc_from _ 87 [some (xr 60), some (xi 3), some (xi 1), some (xi x), some (xi (dep : Int)), some (xi 1), some (xi 20)] [] (uH (wr h0) 61 r 20) al
  refine XW_t4 [15, 60, 74, 87, 108] 60 okAc_from ?_
  refine c_atE (o := 181) (j := 1) rfl (by decide) (by show 1 < 7; decide) (show _ = (0 : Int) from hka 1 (by decide)) ?_
  show XW g (d + 1) mAc_from _ 108 [some (xr 60), some (xi 3), some (xi 1), some (xi x), some (xi (dep : Int)), some (xi 1), some (xi 20)] [xi (0), xi 20, xr 60] (uH (uH (wr h0) 61 r 20) 60 1 (wI (uH (wr h0) 61 r 20 60 1 + 1))) al
  refine XW_t4 [15, 60, 74, 87, 108] 60 okAc_from ?_
  refine t _ ?_
  exact hK
theorem c_fr_3_2 (hA : AcF h c n v) (hr : h 60 1 = (r : Int)) (h20 : r < 20) (hdep : dep ≤ 30) (hR : ∀ (h2 : HH) (K2 : KT), LGr 61 60 1 h h2 r [40] → (∀ h3 : HH, P h3 → K2 (some (xi z)) h3 al) → Call g (d + 1) yAc_run [xr 60, xi 40, xi (1), xi x, xi ((dep + 1 : Nat) : Int)] h2 al K2) (hK : ∀ h3 : HH, P h3 → K (some (xi z)) h3 al) : Call g (d + 1 + 1) yAc_from [xr 60, xi 3, xi 2, xi x, xi (dep : Int)] h al K := by
  obtain ⟨hW, -, hka, hbo⟩ := hA
  have t := fun K2 => hR _ K2 (LGr.one (A := 61) (o := 60) (f := 1) (r := r) (h := h) (b := 40) (by decide) hr (nS r (by omega)))
  rw [← nS dep (by omega)] at t
  obtain ⟨h0, rfl⟩ := id hW
  refine cof ocAc_from rfl (XW_t4 [15, 60, 74, 87, 108] 60 okAc_from ?_)
  refine ite_f (by omega) ?_
  show XW g (d + 1) mAc_from _ 15 [some (xr 60), some (xi 3), some (xi 2), some (xi x), some (xi (dep : Int)), some (xi 3), some (xi 0)] [] (wr h0) al
  refine XW_t4 [15, 60, 74, 87, 108] 60 okAc_from ?_
  refine c_atE (o := 182) (j := 11) rfl (by decide) (by show 11 < 21; decide) (show _ = (40 : Int) from hbo 11 (by decide)) ?_
  show XW g (d + 1) mAc_from _ 60 [some (xr 60), some (xi 3), some (xi 2), some (xi x), some (xi (dep : Int)), some (xi 3), some (xi 0)] [] (wr h0) al
  refine XW_t4 [15, 60, 74, 87, 108] 60 okAc_from ?_
  refine c_atE (o := 182) (j := 11) rfl (by decide) (by show 11 < 21; decide) (show _ = (40 : Int) from hbo 11 (by decide)) ?_
  show XW g (d + 1) mAc_from _ 74 [some (xr 60), some (xi 3), some (xi 2), some (xi x), some (xi (dep : Int)), some (xi 3), some (xi 40)] [] (wr h0) al
  refine XW_t4 [15, 60, 74, 87, 108] 60 okAc_from ?_
  refine c_putE rfl hr (by show r < 20; omega) ?_
  show XW g (d + 1) mAc_from _ 87 [some (xr 60), some (xi 3), some (xi 2), some (xi x), some (xi (dep : Int)), some (xi 3), some (xi 40)] [] (uH (wr h0) 61 r 40) al
  refine XW_t4 [15, 60, 74, 87, 108] 60 okAc_from ?_
  refine c_atE (o := 181) (j := 3) rfl (by decide) (by show 3 < 7; decide) (show _ = (1 : Int) from hka 3 (by decide)) ?_
  show XW g (d + 1) mAc_from _ 108 [some (xr 60), some (xi 3), some (xi 2), some (xi x), some (xi (dep : Int)), some (xi 3), some (xi 40)] [xi (1), xi 40, xr 60] (uH (uH (wr h0) 61 r 40) 60 1 (wI (uH (wr h0) 61 r 40 60 1 + 1))) al
  refine XW_t4 [15, 60, 74, 87, 108] 60 okAc_from ?_
  refine t _ ?_
  exact hK
theorem c_fr_4_0 (hA : AcF h c n v) (hr : h 60 1 = (r : Int)) (h20 : r < 20) (hdep : dep ≤ 30) (hR : ∀ (h2 : HH) (K2 : KT), LGr 61 60 1 h h2 r [50] → (∀ h3 : HH, P h3 → K2 (some (xi z)) h3 al) → Call g (d + 1) yAc_run [xr 60, xi 50, xi (1), xi x, xi ((dep + 1 : Nat) : Int)] h2 al K2) (hK : ∀ h3 : HH, P h3 → K (some (xi z)) h3 al) : Call g (d + 1 + 1) yAc_from [xr 60, xi 4, xi 0, xi x, xi (dep : Int)] h al K := by
  obtain ⟨hW, -, hka, hbo⟩ := hA
  have t := fun K2 => hR _ K2 (LGr.one (A := 61) (o := 60) (f := 1) (r := r) (h := h) (b := 50) (by decide) hr (nS r (by omega)))
  rw [← nS dep (by omega)] at t
  obtain ⟨h0, rfl⟩ := id hW
  refine cof ocAc_from rfl (XW_t4 [15, 60, 74, 87, 108] 60 okAc_from ?_)
  refine ite_f (by omega) ?_
  show XW g (d + 1) mAc_from _ 15 [some (xr 60), some (xi 4), some (xi 0), some (xi x), some (xi (dep : Int)), some (xi 4), some (xi 0)] [] (wr h0) al
  refine XW_t4 [15, 60, 74, 87, 108] 60 okAc_from ?_
  refine c_atE (o := 182) (j := 12) rfl (by decide) (by show 12 < 21; decide) (show _ = (50 : Int) from hbo 12 (by decide)) ?_
  show XW g (d + 1) mAc_from _ 60 [some (xr 60), some (xi 4), some (xi 0), some (xi x), some (xi (dep : Int)), some (xi 4), some (xi 0)] [] (wr h0) al
  refine XW_t4 [15, 60, 74, 87, 108] 60 okAc_from ?_
  refine c_atE (o := 182) (j := 12) rfl (by decide) (by show 12 < 21; decide) (show _ = (50 : Int) from hbo 12 (by decide)) ?_
  show XW g (d + 1) mAc_from _ 74 [some (xr 60), some (xi 4), some (xi 0), some (xi x), some (xi (dep : Int)), some (xi 4), some (xi 50)] [] (wr h0) al
  refine XW_t4 [15, 60, 74, 87, 108] 60 okAc_from ?_
  refine c_putE rfl hr (by show r < 20; omega) ?_
  show XW g (d + 1) mAc_from _ 87 [some (xr 60), some (xi 4), some (xi 0), some (xi x), some (xi (dep : Int)), some (xi 4), some (xi 50)] [] (uH (wr h0) 61 r 50) al
  refine XW_t4 [15, 60, 74, 87, 108] 60 okAc_from ?_
  refine c_atE (o := 181) (j := 4) rfl (by decide) (by show 4 < 7; decide) (show _ = (1 : Int) from hka 4 (by decide)) ?_
  show XW g (d + 1) mAc_from _ 108 [some (xr 60), some (xi 4), some (xi 0), some (xi x), some (xi (dep : Int)), some (xi 4), some (xi 50)] [xi (1), xi 50, xr 60] (uH (uH (wr h0) 61 r 50) 60 1 (wI (uH (wr h0) 61 r 50 60 1 + 1))) al
  refine XW_t4 [15, 60, 74, 87, 108] 60 okAc_from ?_
  refine t _ ?_
  exact hK
theorem c_fr_4_1 (hA : AcF h c n v) (hr : h 60 1 = (r : Int)) (h20 : r < 20) (hdep : dep ≤ 30) (hR : ∀ (h2 : HH) (K2 : KT), LGr 61 60 1 h h2 r [51] → (∀ h3 : HH, P h3 → K2 (some (xi z)) h3 al) → Call g (d + 1) yAc_run [xr 60, xi 51, xi (1), xi x, xi ((dep + 1 : Nat) : Int)] h2 al K2) (hK : ∀ h3 : HH, P h3 → K (some (xi z)) h3 al) : Call g (d + 1 + 1) yAc_from [xr 60, xi 4, xi 1, xi x, xi (dep : Int)] h al K := by
  obtain ⟨hW, -, hka, hbo⟩ := hA
  have t := fun K2 => hR _ K2 (LGr.one (A := 61) (o := 60) (f := 1) (r := r) (h := h) (b := 51) (by decide) hr (nS r (by omega)))
  rw [← nS dep (by omega)] at t
  obtain ⟨h0, rfl⟩ := id hW
  refine cof ocAc_from rfl (XW_t4 [15, 60, 74, 87, 108] 60 okAc_from ?_)
  refine ite_f (by omega) ?_
  show XW g (d + 1) mAc_from _ 15 [some (xr 60), some (xi 4), some (xi 1), some (xi x), some (xi (dep : Int)), some (xi 4), some (xi 0)] [] (wr h0) al
  refine XW_t4 [15, 60, 74, 87, 108] 60 okAc_from ?_
  refine c_atE (o := 182) (j := 13) rfl (by decide) (by show 13 < 21; decide) (show _ = (51 : Int) from hbo 13 (by decide)) ?_
  show XW g (d + 1) mAc_from _ 60 [some (xr 60), some (xi 4), some (xi 1), some (xi x), some (xi (dep : Int)), some (xi 4), some (xi 0)] [] (wr h0) al
  refine XW_t4 [15, 60, 74, 87, 108] 60 okAc_from ?_
  refine c_atE (o := 182) (j := 13) rfl (by decide) (by show 13 < 21; decide) (show _ = (51 : Int) from hbo 13 (by decide)) ?_
  show XW g (d + 1) mAc_from _ 74 [some (xr 60), some (xi 4), some (xi 1), some (xi x), some (xi (dep : Int)), some (xi 4), some (xi 51)] [] (wr h0) al
  refine XW_t4 [15, 60, 74, 87, 108] 60 okAc_from ?_
  refine c_putE rfl hr (by show r < 20; omega) ?_
  show XW g (d + 1) mAc_from _ 87 [some (xr 60), some (xi 4), some (xi 1), some (xi x), some (xi (dep : Int)), some (xi 4), some (xi 51)] [] (uH (wr h0) 61 r 51) al
  refine XW_t4 [15, 60, 74, 87, 108] 60 okAc_from ?_
  refine c_atE (o := 181) (j := 4) rfl (by decide) (by show 4 < 7; decide) (show _ = (1 : Int) from hka 4 (by decide)) ?_
  show XW g (d + 1) mAc_from _ 108 [some (xr 60), some (xi 4), some (xi 1), some (xi x), some (xi (dep : Int)), some (xi 4), some (xi 51)] [xi (1), xi 51, xr 60] (uH (uH (wr h0) 61 r 51) 60 1 (wI (uH (wr h0) 61 r 51 60 1 + 1))) al
  refine XW_t4 [15, 60, 74, 87, 108] 60 okAc_from ?_
  refine t _ ?_
  exact hK
theorem c_fr_4_2 (hA : AcF h c n v) (hr : h 60 1 = (r : Int)) (h20 : r < 20) (hdep : dep ≤ 30) (hR : ∀ (h2 : HH) (K2 : KT), LGr 61 60 1 h h2 r [12] → (∀ h3 : HH, P h3 → K2 (some (xi z)) h3 al) → Call g (d + 1) yAc_run [xr 60, xi 12, xi (-1), xi x, xi ((dep + 1 : Nat) : Int)] h2 al K2) (hK : ∀ h3 : HH, P h3 → K (some (xi z)) h3 al) : Call g (d + 1 + 1) yAc_from [xr 60, xi 4, xi 2, xi x, xi (dep : Int)] h al K := by
  obtain ⟨hW, -, hka, hbo⟩ := hA
  have t := fun K2 => hR _ K2 (LGr.one (A := 61) (o := 60) (f := 1) (r := r) (h := h) (b := 12) (by decide) hr (nS r (by omega)))
  rw [← nS dep (by omega)] at t
  obtain ⟨h0, rfl⟩ := id hW
  refine cof ocAc_from rfl (XW_t4 [15, 60, 74, 87, 108] 60 okAc_from ?_)
  refine ite_f (by omega) ?_
  show XW g (d + 1) mAc_from _ 15 [some (xr 60), some (xi 4), some (xi 2), some (xi x), some (xi (dep : Int)), some (xi 4), some (xi 0)] [] (wr h0) al
  refine XW_t4 [15, 60, 74, 87, 108] 60 okAc_from ?_
  refine c_atE (o := 182) (j := 14) rfl (by decide) (by show 14 < 21; decide) (show _ = (0 : Int) from hbo 14 (by decide)) ?_
  refine c_atE (o := 181) (j := 4) rfl (by decide) (by show 4 < 7; decide) (show _ = (1 : Int) from hka 4 (by decide)) ?_
  show XW g (d + 1) mAc_from _ 15 [some (xr 60), some (xi 4), some (xi 2), some (xi x), some (xi (dep : Int)), some (xi 1), some (xi 1)] [] (wr h0) al
  refine XW_t4 [15, 60, 74, 87, 108] 60 okAc_from ?_
  refine c_atE (o := 182) (j := 5) rfl (by decide) (by show 5 < 21; decide) (show _ = (0 : Int) from hbo 5 (by decide)) ?_
  refine c_atE (o := 181) (j := 1) rfl (by decide) (by show 1 < 7; decide) (show _ = (0 : Int) from hka 1 (by decide)) ?_
  show XW g (d + 1) mAc_from _ 15 [some (xr 60), some (xi 4), some (xi 2), some (xi x), some (xi (dep : Int)), some (xi 0), some (xi 2)] [] (wr h0) al
  refine XW_t4 [15, 60, 74, 87, 108] 60 okAc_from ?_
  show XW g (d + 1) mAc_from _ 60 [some (xr 60), some (xi 4), some (xi 2), some (xi x), some (xi (dep : Int)), some (xi 0), some (xi 2)] [] (wr h0) al
  refine XW_t4 [15, 60, 74, 87, 108] 60 okAc_from ?_
  refine c_atE (o := 182) (j := 2) rfl (by decide) (by show 2 < 21; decide) (show _ = (12 : Int) from hbo 2 (by decide)) ?_
  show XW g (d + 1) mAc_from _ 74 [some (xr 60), some (xi 4), some (xi 2), some (xi x), some (xi (dep : Int)), some (xi 0), some (xi 12)] [] (wr h0) al
  refine XW_t4 [15, 60, 74, 87, 108] 60 okAc_from ?_
  refine c_putE rfl hr (by show r < 20; omega) ?_
  show XW g (d + 1) mAc_from _ 87 [some (xr 60), some (xi 4), some (xi 2), some (xi x), some (xi (dep : Int)), some (xi 0), some (xi 12)] [] (uH (wr h0) 61 r 12) al
  refine XW_t4 [15, 60, 74, 87, 108] 60 okAc_from ?_
  refine c_atE (o := 181) (j := 0) rfl (by decide) (by show 0 < 7; decide) (show _ = (-1 : Int) from hka 0 (by decide)) ?_
  show XW g (d + 1) mAc_from _ 108 [some (xr 60), some (xi 4), some (xi 2), some (xi x), some (xi (dep : Int)), some (xi 0), some (xi 12)] [xi (-1), xi 12, xr 60] (uH (uH (wr h0) 61 r 12) 60 1 (wI (uH (wr h0) 61 r 12 60 1 + 1))) al
  refine XW_t4 [15, 60, 74, 87, 108] 60 okAc_from ?_
  refine t _ ?_
  exact hK
theorem c_fr_5_0 (hA : AcF h c n v) (hr : h 60 1 = (r : Int)) (h20 : r < 20) (hdep : dep ≤ 30) (hR : ∀ (h2 : HH) (K2 : KT), LGr 61 60 1 h h2 r [10] → (∀ h3 : HH, P h3 → K2 (some (xi z)) h3 al) → Call g (d + 1) yAc_run [xr 60, xi 10, xi (-1), xi x, xi ((dep + 1 : Nat) : Int)] h2 al K2) (hK : ∀ h3 : HH, P h3 → K (some (xi z)) h3 al) : Call g (d + 1 + 1) yAc_from [xr 60, xi 5, xi 0, xi x, xi (dep : Int)] h al K := by
  obtain ⟨hW, -, hka, hbo⟩ := hA
  have t := fun K2 => hR _ K2 (LGr.one (A := 61) (o := 60) (f := 1) (r := r) (h := h) (b := 10) (by decide) hr (nS r (by omega)))
  rw [← nS dep (by omega)] at t
  obtain ⟨h0, rfl⟩ := id hW
  refine cof ocAc_from rfl (XW_t4 [15, 60, 74, 87, 108] 60 okAc_from ?_)
  refine ite_f (by omega) ?_
  show XW g (d + 1) mAc_from _ 15 [some (xr 60), some (xi 5), some (xi 0), some (xi x), some (xi (dep : Int)), some (xi 5), some (xi 0)] [] (wr h0) al
  refine XW_t4 [15, 60, 74, 87, 108] 60 okAc_from ?_
  refine c_atE (o := 182) (j := 15) rfl (by decide) (by show 15 < 21; decide) (show _ = (0 : Int) from hbo 15 (by decide)) ?_
  refine c_atE (o := 181) (j := 5) rfl (by decide) (by show 5 < 7; decide) (show _ = (1 : Int) from hka 5 (by decide)) ?_
  show XW g (d + 1) mAc_from _ 15 [some (xr 60), some (xi 5), some (xi 0), some (xi x), some (xi (dep : Int)), some (xi 1), some (xi 1)] [] (wr h0) al
  refine XW_t4 [15, 60, 74, 87, 108] 60 okAc_from ?_
  refine c_atE (o := 182) (j := 3) rfl (by decide) (by show 3 < 21; decide) (show _ = (0 : Int) from hbo 3 (by decide)) ?_
  refine c_atE (o := 181) (j := 1) rfl (by decide) (by show 1 < 7; decide) (show _ = (0 : Int) from hka 1 (by decide)) ?_
  show XW g (d + 1) mAc_from _ 15 [some (xr 60), some (xi 5), some (xi 0), some (xi x), some (xi (dep : Int)), some (xi 0), some (xi 2)] [] (wr h0) al
  refine XW_t4 [15, 60, 74, 87, 108] 60 okAc_from ?_
  show XW g (d + 1) mAc_from _ 60 [some (xr 60), some (xi 5), some (xi 0), some (xi x), some (xi (dep : Int)), some (xi 0), some (xi 2)] [] (wr h0) al
  refine XW_t4 [15, 60, 74, 87, 108] 60 okAc_from ?_
  refine c_atE (o := 182) (j := 0) rfl (by decide) (by show 0 < 21; decide) (show _ = (10 : Int) from hbo 0 (by decide)) ?_
  show XW g (d + 1) mAc_from _ 74 [some (xr 60), some (xi 5), some (xi 0), some (xi x), some (xi (dep : Int)), some (xi 0), some (xi 10)] [] (wr h0) al
  refine XW_t4 [15, 60, 74, 87, 108] 60 okAc_from ?_
  refine c_putE rfl hr (by show r < 20; omega) ?_
  show XW g (d + 1) mAc_from _ 87 [some (xr 60), some (xi 5), some (xi 0), some (xi x), some (xi (dep : Int)), some (xi 0), some (xi 10)] [] (uH (wr h0) 61 r 10) al
  refine XW_t4 [15, 60, 74, 87, 108] 60 okAc_from ?_
  refine c_atE (o := 181) (j := 0) rfl (by decide) (by show 0 < 7; decide) (show _ = (-1 : Int) from hka 0 (by decide)) ?_
  show XW g (d + 1) mAc_from _ 108 [some (xr 60), some (xi 5), some (xi 0), some (xi x), some (xi (dep : Int)), some (xi 0), some (xi 10)] [xi (-1), xi 10, xr 60] (uH (uH (wr h0) 61 r 10) 60 1 (wI (uH (wr h0) 61 r 10 60 1 + 1))) al
  refine XW_t4 [15, 60, 74, 87, 108] 60 okAc_from ?_
  refine t _ ?_
  exact hK
theorem c_fr_5_1 (hA : AcF h c n v) (hr : h 60 1 = (r : Int)) (h20 : r < 20) (hdep : dep ≤ 30) (hR : ∀ (h2 : HH) (K2 : KT), LGr 61 60 1 h h2 r [20] → (∀ h3 : HH, P h3 → K2 (some (xi z)) h3 al) → Call g (d + 1) yAc_run [xr 60, xi 20, xi (0), xi x, xi ((dep + 1 : Nat) : Int)] h2 al K2) (hK : ∀ h3 : HH, P h3 → K (some (xi z)) h3 al) : Call g (d + 1 + 1) yAc_from [xr 60, xi 5, xi 1, xi x, xi (dep : Int)] h al K := by
  obtain ⟨hW, -, hka, hbo⟩ := hA
  have t := fun K2 => hR _ K2 (LGr.one (A := 61) (o := 60) (f := 1) (r := r) (h := h) (b := 20) (by decide) hr (nS r (by omega)))
  rw [← nS dep (by omega)] at t
  obtain ⟨h0, rfl⟩ := id hW
  refine cof ocAc_from rfl (XW_t4 [15, 60, 74, 87, 108] 60 okAc_from ?_)
  refine ite_f (by omega) ?_
  show XW g (d + 1) mAc_from _ 15 [some (xr 60), some (xi 5), some (xi 1), some (xi x), some (xi (dep : Int)), some (xi 5), some (xi 0)] [] (wr h0) al
  refine XW_t4 [15, 60, 74, 87, 108] 60 okAc_from ?_
  refine c_atE (o := 182) (j := 16) rfl (by decide) (by show 16 < 21; decide) (show _ = (0 : Int) from hbo 16 (by decide)) ?_
  refine c_atE (o := 181) (j := 5) rfl (by decide) (by show 5 < 7; decide) (show _ = (1 : Int) from hka 5 (by decide)) ?_
  show XW g (d + 1) mAc_from _ 15 [some (xr 60), some (xi 5), some (xi 1), some (xi x), some (xi (dep : Int)), some (xi 1), some (xi 1)] [] (wr h0) al
  refine XW_t4 [15, 60, 74, 87, 108] 60 okAc_from ?_
  refine c_atE (o := 182) (j := 4) rfl (by decide) (by show 4 < 21; decide) (show _ = (20 : Int) from hbo 4 (by decide)) ?_
  show XW g (d + 1) mAc_from _ 60 [some (xr 60), some (xi 5), some (xi 1), some (xi x), some (xi (dep : Int)), some (xi 1), some (xi 1)] [] (wr h0) al
  refine XW_t4 [15, 60, 74, 87, 108] 60 okAc_from ?_
  refine c_atE (o := 182) (j := 4) rfl (by decide) (by show 4 < 21; decide) (show _ = (20 : Int) from hbo 4 (by decide)) ?_
  show XW g (d + 1) mAc_from _ 74 [some (xr 60), some (xi 5), some (xi 1), some (xi x), some (xi (dep : Int)), some (xi 1), some (xi 20)] [] (wr h0) al
  refine XW_t4 [15, 60, 74, 87, 108] 60 okAc_from ?_
  refine c_putE rfl hr (by show r < 20; omega) ?_
  show XW g (d + 1) mAc_from _ 87 [some (xr 60), some (xi 5), some (xi 1), some (xi x), some (xi (dep : Int)), some (xi 1), some (xi 20)] [] (uH (wr h0) 61 r 20) al
  refine XW_t4 [15, 60, 74, 87, 108] 60 okAc_from ?_
  refine c_atE (o := 181) (j := 1) rfl (by decide) (by show 1 < 7; decide) (show _ = (0 : Int) from hka 1 (by decide)) ?_
  show XW g (d + 1) mAc_from _ 108 [some (xr 60), some (xi 5), some (xi 1), some (xi x), some (xi (dep : Int)), some (xi 1), some (xi 20)] [xi (0), xi 20, xr 60] (uH (uH (wr h0) 61 r 20) 60 1 (wI (uH (wr h0) 61 r 20 60 1 + 1))) al
  refine XW_t4 [15, 60, 74, 87, 108] 60 okAc_from ?_
  refine t _ ?_
  exact hK
theorem c_fr_5_2 (hA : AcF h c n v) (hr : h 60 1 = (r : Int)) (h20 : r < 20) (hdep : dep ≤ 30) (hR : ∀ (h2 : HH) (K2 : KT), LGr 61 60 1 h h2 r [60] → (∀ h3 : HH, P h3 → K2 (some (xi z)) h3 al) → Call g (d + 1) yAc_run [xr 60, xi 60, xi (1), xi x, xi ((dep + 1 : Nat) : Int)] h2 al K2) (hK : ∀ h3 : HH, P h3 → K (some (xi z)) h3 al) : Call g (d + 1 + 1) yAc_from [xr 60, xi 5, xi 2, xi x, xi (dep : Int)] h al K := by
  obtain ⟨hW, -, hka, hbo⟩ := hA
  have t := fun K2 => hR _ K2 (LGr.one (A := 61) (o := 60) (f := 1) (r := r) (h := h) (b := 60) (by decide) hr (nS r (by omega)))
  rw [← nS dep (by omega)] at t
  obtain ⟨h0, rfl⟩ := id hW
  refine cof ocAc_from rfl (XW_t4 [15, 60, 74, 87, 108] 60 okAc_from ?_)
  refine ite_f (by omega) ?_
  show XW g (d + 1) mAc_from _ 15 [some (xr 60), some (xi 5), some (xi 2), some (xi x), some (xi (dep : Int)), some (xi 5), some (xi 0)] [] (wr h0) al
  refine XW_t4 [15, 60, 74, 87, 108] 60 okAc_from ?_
  refine c_atE (o := 182) (j := 17) rfl (by decide) (by show 17 < 21; decide) (show _ = (60 : Int) from hbo 17 (by decide)) ?_
  show XW g (d + 1) mAc_from _ 60 [some (xr 60), some (xi 5), some (xi 2), some (xi x), some (xi (dep : Int)), some (xi 5), some (xi 0)] [] (wr h0) al
  refine XW_t4 [15, 60, 74, 87, 108] 60 okAc_from ?_
  refine c_atE (o := 182) (j := 17) rfl (by decide) (by show 17 < 21; decide) (show _ = (60 : Int) from hbo 17 (by decide)) ?_
  show XW g (d + 1) mAc_from _ 74 [some (xr 60), some (xi 5), some (xi 2), some (xi x), some (xi (dep : Int)), some (xi 5), some (xi 60)] [] (wr h0) al
  refine XW_t4 [15, 60, 74, 87, 108] 60 okAc_from ?_
  refine c_putE rfl hr (by show r < 20; omega) ?_
  show XW g (d + 1) mAc_from _ 87 [some (xr 60), some (xi 5), some (xi 2), some (xi x), some (xi (dep : Int)), some (xi 5), some (xi 60)] [] (uH (wr h0) 61 r 60) al
  refine XW_t4 [15, 60, 74, 87, 108] 60 okAc_from ?_
  refine c_atE (o := 181) (j := 5) rfl (by decide) (by show 5 < 7; decide) (show _ = (1 : Int) from hka 5 (by decide)) ?_
  show XW g (d + 1) mAc_from _ 108 [some (xr 60), some (xi 5), some (xi 2), some (xi x), some (xi (dep : Int)), some (xi 5), some (xi 60)] [xi (1), xi 60, xr 60] (uH (uH (wr h0) 61 r 60) 60 1 (wI (uH (wr h0) 61 r 60 60 1 + 1))) al
  refine XW_t4 [15, 60, 74, 87, 108] 60 okAc_from ?_
  refine t _ ?_
  exact hK
theorem c_fr_6_0 (hA : AcF h c n v) (hr : h 60 1 = (r : Int)) (h20 : r < 20) (hdep : dep ≤ 30) (hR : ∀ (h2 : HH) (K2 : KT), LGr 61 60 1 h h2 r [71] → (∀ h3 : HH, P h3 → K2 (some (xi z)) h3 al) → Call g (d + 1) yAc_run [xr 60, xi 71, xi (2), xi x, xi ((dep + 1 : Nat) : Int)] h2 al K2) (hK : ∀ h3 : HH, P h3 → K (some (xi z)) h3 al) : Call g (d + 1 + 1) yAc_from [xr 60, xi 6, xi 0, xi x, xi (dep : Int)] h al K := by
  obtain ⟨hW, -, hka, hbo⟩ := hA
  have t := fun K2 => hR _ K2 (LGr.one (A := 61) (o := 60) (f := 1) (r := r) (h := h) (b := 71) (by decide) hr (nS r (by omega)))
  rw [← nS dep (by omega)] at t
  obtain ⟨h0, rfl⟩ := id hW
  refine cof ocAc_from rfl (XW_t4 [15, 60, 74, 87, 108] 60 okAc_from ?_)
  refine ite_f (by omega) ?_
  show XW g (d + 1) mAc_from _ 15 [some (xr 60), some (xi 6), some (xi 0), some (xi x), some (xi (dep : Int)), some (xi 6), some (xi 0)] [] (wr h0) al
  refine XW_t4 [15, 60, 74, 87, 108] 60 okAc_from ?_
  refine c_atE (o := 182) (j := 18) rfl (by decide) (by show 18 < 21; decide) (show _ = (71 : Int) from hbo 18 (by decide)) ?_
  show XW g (d + 1) mAc_from _ 60 [some (xr 60), some (xi 6), some (xi 0), some (xi x), some (xi (dep : Int)), some (xi 6), some (xi 0)] [] (wr h0) al
  refine XW_t4 [15, 60, 74, 87, 108] 60 okAc_from ?_
  refine c_atE (o := 182) (j := 18) rfl (by decide) (by show 18 < 21; decide) (show _ = (71 : Int) from hbo 18 (by decide)) ?_
  show XW g (d + 1) mAc_from _ 74 [some (xr 60), some (xi 6), some (xi 0), some (xi x), some (xi (dep : Int)), some (xi 6), some (xi 71)] [] (wr h0) al
  refine XW_t4 [15, 60, 74, 87, 108] 60 okAc_from ?_
  refine c_putE rfl hr (by show r < 20; omega) ?_
  show XW g (d + 1) mAc_from _ 87 [some (xr 60), some (xi 6), some (xi 0), some (xi x), some (xi (dep : Int)), some (xi 6), some (xi 71)] [] (uH (wr h0) 61 r 71) al
  refine XW_t4 [15, 60, 74, 87, 108] 60 okAc_from ?_
  refine c_atE (o := 181) (j := 6) rfl (by decide) (by show 6 < 7; decide) (show _ = (2 : Int) from hka 6 (by decide)) ?_
  show XW g (d + 1) mAc_from _ 108 [some (xr 60), some (xi 6), some (xi 0), some (xi x), some (xi (dep : Int)), some (xi 6), some (xi 71)] [xi (2), xi 71, xr 60] (uH (uH (wr h0) 61 r 71) 60 1 (wI (uH (wr h0) 61 r 71 60 1 + 1))) al
  refine XW_t4 [15, 60, 74, 87, 108] 60 okAc_from ?_
  refine t _ ?_
  exact hK
theorem c_fr_6_1 (hA : AcF h c n v) (hr : h 60 1 = (r : Int)) (h20 : r < 20) (hdep : dep ≤ 30) (hR : ∀ (h2 : HH) (K2 : KT), LGr 61 60 1 h h2 r [70] → (∀ h3 : HH, P h3 → K2 (some (xi z)) h3 al) → Call g (d + 1) yAc_run [xr 60, xi 70, xi (2), xi x, xi ((dep + 1 : Nat) : Int)] h2 al K2) (hK : ∀ h3 : HH, P h3 → K (some (xi z)) h3 al) : Call g (d + 1 + 1) yAc_from [xr 60, xi 6, xi 1, xi x, xi (dep : Int)] h al K := by
  obtain ⟨hW, -, hka, hbo⟩ := hA
  have t := fun K2 => hR _ K2 (LGr.one (A := 61) (o := 60) (f := 1) (r := r) (h := h) (b := 70) (by decide) hr (nS r (by omega)))
  rw [← nS dep (by omega)] at t
  obtain ⟨h0, rfl⟩ := id hW
  refine cof ocAc_from rfl (XW_t4 [15, 60, 74, 87, 108] 60 okAc_from ?_)
  refine ite_f (by omega) ?_
  show XW g (d + 1) mAc_from _ 15 [some (xr 60), some (xi 6), some (xi 1), some (xi x), some (xi (dep : Int)), some (xi 6), some (xi 0)] [] (wr h0) al
  refine XW_t4 [15, 60, 74, 87, 108] 60 okAc_from ?_
  refine c_atE (o := 182) (j := 19) rfl (by decide) (by show 19 < 21; decide) (show _ = (70 : Int) from hbo 19 (by decide)) ?_
  show XW g (d + 1) mAc_from _ 60 [some (xr 60), some (xi 6), some (xi 1), some (xi x), some (xi (dep : Int)), some (xi 6), some (xi 0)] [] (wr h0) al
  refine XW_t4 [15, 60, 74, 87, 108] 60 okAc_from ?_
  refine c_atE (o := 182) (j := 19) rfl (by decide) (by show 19 < 21; decide) (show _ = (70 : Int) from hbo 19 (by decide)) ?_
  show XW g (d + 1) mAc_from _ 74 [some (xr 60), some (xi 6), some (xi 1), some (xi x), some (xi (dep : Int)), some (xi 6), some (xi 70)] [] (wr h0) al
  refine XW_t4 [15, 60, 74, 87, 108] 60 okAc_from ?_
  refine c_putE rfl hr (by show r < 20; omega) ?_
  show XW g (d + 1) mAc_from _ 87 [some (xr 60), some (xi 6), some (xi 1), some (xi x), some (xi (dep : Int)), some (xi 6), some (xi 70)] [] (uH (wr h0) 61 r 70) al
  refine XW_t4 [15, 60, 74, 87, 108] 60 okAc_from ?_
  refine c_atE (o := 181) (j := 6) rfl (by decide) (by show 6 < 7; decide) (show _ = (2 : Int) from hka 6 (by decide)) ?_
  show XW g (d + 1) mAc_from _ 108 [some (xr 60), some (xi 6), some (xi 1), some (xi x), some (xi (dep : Int)), some (xi 6), some (xi 70)] [xi (2), xi 70, xr 60] (uH (uH (wr h0) 61 r 70) 60 1 (wI (uH (wr h0) 61 r 70 60 1 + 1))) al
  refine XW_t4 [15, 60, 74, 87, 108] 60 okAc_from ?_
  refine t _ ?_
  exact hK
theorem c_fr_6_2 (hA : AcF h c n v) (hr : h 60 1 = (r : Int)) (h20 : r < 20) (hdep : dep ≤ 30) (hR : ∀ (h2 : HH) (K2 : KT), LGr 61 60 1 h h2 r [12] → (∀ h3 : HH, P h3 → K2 (some (xi z)) h3 al) → Call g (d + 1) yAc_run [xr 60, xi 12, xi (-1), xi x, xi ((dep + 1 : Nat) : Int)] h2 al K2) (hK : ∀ h3 : HH, P h3 → K (some (xi z)) h3 al) : Call g (d + 1 + 1) yAc_from [xr 60, xi 6, xi 2, xi x, xi (dep : Int)] h al K := by
  obtain ⟨hW, -, hka, hbo⟩ := hA
  have t := fun K2 => hR _ K2 (LGr.one (A := 61) (o := 60) (f := 1) (r := r) (h := h) (b := 12) (by decide) hr (nS r (by omega)))
  rw [← nS dep (by omega)] at t
  obtain ⟨h0, rfl⟩ := id hW
  refine cof ocAc_from rfl (XW_t4 [15, 60, 74, 87, 108] 60 okAc_from ?_)
  refine ite_f (by omega) ?_
  show XW g (d + 1) mAc_from _ 15 [some (xr 60), some (xi 6), some (xi 2), some (xi x), some (xi (dep : Int)), some (xi 6), some (xi 0)] [] (wr h0) al
  refine XW_t4 [15, 60, 74, 87, 108] 60 okAc_from ?_
  refine c_atE (o := 182) (j := 20) rfl (by decide) (by show 20 < 21; decide) (show _ = (0 : Int) from hbo 20 (by decide)) ?_
  refine c_atE (o := 181) (j := 6) rfl (by decide) (by show 6 < 7; decide) (show _ = (2 : Int) from hka 6 (by decide)) ?_
  show XW g (d + 1) mAc_from _ 15 [some (xr 60), some (xi 6), some (xi 2), some (xi x), some (xi (dep : Int)), some (xi 2), some (xi 1)] [] (wr h0) al
  refine XW_t4 [15, 60, 74, 87, 108] 60 okAc_from ?_
  refine c_atE (o := 182) (j := 8) rfl (by decide) (by show 8 < 21; decide) (show _ = (0 : Int) from hbo 8 (by decide)) ?_
  refine c_atE (o := 181) (j := 2) rfl (by decide) (by show 2 < 7; decide) (show _ = (0 : Int) from hka 2 (by decide)) ?_
  show XW g (d + 1) mAc_from _ 15 [some (xr 60), some (xi 6), some (xi 2), some (xi x), some (xi (dep : Int)), some (xi 0), some (xi 2)] [] (wr h0) al
  refine XW_t4 [15, 60, 74, 87, 108] 60 okAc_from ?_
  show XW g (d + 1) mAc_from _ 60 [some (xr 60), some (xi 6), some (xi 2), some (xi x), some (xi (dep : Int)), some (xi 0), some (xi 2)] [] (wr h0) al
  refine XW_t4 [15, 60, 74, 87, 108] 60 okAc_from ?_
  refine c_atE (o := 182) (j := 2) rfl (by decide) (by show 2 < 21; decide) (show _ = (12 : Int) from hbo 2 (by decide)) ?_
  show XW g (d + 1) mAc_from _ 74 [some (xr 60), some (xi 6), some (xi 2), some (xi x), some (xi (dep : Int)), some (xi 0), some (xi 12)] [] (wr h0) al
  refine XW_t4 [15, 60, 74, 87, 108] 60 okAc_from ?_
  refine c_putE rfl hr (by show r < 20; omega) ?_
  show XW g (d + 1) mAc_from _ 87 [some (xr 60), some (xi 6), some (xi 2), some (xi x), some (xi (dep : Int)), some (xi 0), some (xi 12)] [] (uH (wr h0) 61 r 12) al
  refine XW_t4 [15, 60, 74, 87, 108] 60 okAc_from ?_
  refine c_atE (o := 181) (j := 0) rfl (by decide) (by show 0 < 7; decide) (show _ = (-1 : Int) from hka 0 (by decide)) ?_
  show XW g (d + 1) mAc_from _ 108 [some (xr 60), some (xi 6), some (xi 2), some (xi x), some (xi (dep : Int)), some (xi 0), some (xi 12)] [xi (-1), xi 12, xr 60] (uH (uH (wr h0) 61 r 12) 60 1 (wI (uH (wr h0) 61 r 12 60 1 + 1))) al
  refine XW_t4 [15, 60, 74, 87, 108] 60 okAc_from ?_
  refine t _ ?_
  exact hK
end Q20
