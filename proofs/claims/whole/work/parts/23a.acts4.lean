-- acts: the reference
def AcR (h : HH) (pn c : Nat) (v : Int) : Prop := Wd h ∧ h 123 pn = (c : Int) ∧ h 124 pn = v
theorem AcR.lg {h h2 : HH} {pn c r : Nat} {v : Int} {bs : List Int} (hA : AcR h pn c v) (hl : LGr 162 120 69 h h2 r bs) : AcR h2 pn c v := by
  obtain ⟨hW, x1, x2⟩ := hA
  have f := hl.1
  exact ⟨hW.of fun a k hk => f a k (by rintro rfl; exact hk (by show (-9 : Int) < 0; decide)) (by rintro ⟨rfl, rfl⟩; exact hk (by decide)), (f _ _ (by omega) (by omega)).trans x1, (f _ _ (by omega) (by omega)).trans x2⟩
def ActR (g : GC) (d : Nat) (y : MethodName) (args : List XV) (pn c : Nat) (v : Int) (bs : List Int) (z : Int) : Prop := ∀ (h : HH) (al : AL) (K : KT) (r : Nat), AcR h pn c v → h 120 69 = (r : Int) → r + bs.length ≤ 20 → (∀ h3 : HH, LGr 162 120 69 h h3 r bs → K (some (xi z)) h3 al) → Call g d y args h al K
section Q23
variable {g : GC} {d : Nat} {pn c : Nat} {v : Int}
set_option maxRecDepth 8000 in
theorem c_body {h : HH} {al : AL} {K : KT} {r : Nat} {b : Int} (hW : Wd h) (hr : h 120 69 = (r : Int)) (h20 : r < 20) (hK : ∀ h2 : HH, LGr 162 120 69 h h2 r [b] → K none h2 al) : Call g (d + 1) yMo_body [xr 120, xi b] h al K := by
  have t := hK _ (LGr.one (A := 162) (o := 120) (f := 69) (r := r) (h := h) (b := b) (by decide) hr (nS r (by omega)))
  obtain ⟨h0, rfl⟩ := id hW
  refine cof ocMo_body rfl (XW_t4 [] 60 okMo_body ?_)
  refine ite_t (show wr h0 120 69 < 20 by rw [hr]; omega) ?_
  refine ⟨r, hr, by show r < 20; omega, ?_⟩
  exact t
theorem r_pm (hp : pn < 6) (d : Nat) (x : Int) : ActR g (d + 2) yMo_plainMends [xr 120, xi (pn : Int), xi x] pn c v ([10]) (wI (x + (pn : Int))) := by
  intro h al K r hA hr hl hK
  have hl2 : r + 1 ≤ 20 := hl
  have hW := hA.1
  obtain ⟨h0, rfl⟩ := id hW
  refine cof ocMo_plainMends rfl (XW_t4 [] 100 okMo_plainMends ?_)
  refine c_body hA.1 hr (show r < 20 by omega) fun h11 q1 => ?_
  have hA1 := hA.lg q1
  obtain ⟨k1, rfl⟩ := id hA1.1
  exact hK _ q1
theorem r_po (hp : pn < 6) (d : Nat) (x : Int) : ActR g (d + 3) yMo_poorMends [xr 120, xi (pn : Int), xi x] pn c v (mB 2) (mVl 2 x (pn : Int) v) := by
  intro h al K r hA hr hl hK
  have hl2 : r + 2 ≤ 20 := hl
  have hW := hA.1
  obtain ⟨h0, rfl⟩ := id hW
  refine cof ocMo_poorMends rfl (XW_t4 [] 100 okMo_poorMends ?_)
  refine c_body hA.1 hr (show r < 20 by omega) fun h11 q1 => ?_
  have hA1 := hA.lg q1
  obtain ⟨k1, rfl⟩ := id hA1.1
  refine r_pm hp (d + 0) _ _ _ _ (r + 1) hA1 q1.2.1 (show r + 1 + 1 ≤ 20 by omega) fun h12 q2 => ?_
  have hA2 := hA1.lg q2
  obtain ⟨k2, rfl⟩ := id hA2.1
  exact hK _ (q1.trans q2)
theorem r_m0 (hp : pn < 6) (d : Nat) (x : Int) : ActR g (d + 4) yMo_mendsAct [xr 120, xi (pn : Int), xi x] pn 0 v (mB 0) (mVl 0 x (pn : Int) v) := by
  intro h al K r hA hr hl hK
  have hl2 : r + 1 ≤ 20 := hl
  have hW := hA.1
  obtain ⟨h0, rfl⟩ := id hW
  refine cof ocMo_mendsAct rfl (XW_t4 [] 100 okMo_mendsAct ?_)
  refine ⟨pn, rfl, by show pn < 6; omega, (0 : Int), hA.2.1, ?_⟩
  refine r_pm hp (d + 1) _ _ _ _ (r) hA hr (show r + 1 ≤ 20 by omega) fun h11 q1 => ?_
  have hA1 := hA.lg q1
  obtain ⟨k1, rfl⟩ := id hA1.1
  exact hK _ q1
theorem r_m1 (hp : pn < 6) (d : Nat) (x : Int) : ActR g (d + 4) yMo_mendsAct [xr 120, xi (pn : Int), xi x] pn 1 v (mB 1) (mVl 1 x (pn : Int) v) := by
  intro h al K r hA hr hl hK
  have hl2 : r + 1 ≤ 20 := hl
  have hW := hA.1
  obtain ⟨h0, rfl⟩ := id hW
  refine cof ocMo_mendsAct rfl (XW_t4 [] 100 okMo_mendsAct ?_)
  refine ⟨pn, rfl, by show pn < 6; omega, (1 : Int), hA.2.1, ?_⟩
  refine r_pm hp (d + 1) _ _ _ _ (r) hA hr (show r + 1 ≤ 20 by omega) fun h11 q1 => ?_
  have hA1 := hA.lg q1
  obtain ⟨k1, rfl⟩ := id hA1.1
  exact hK _ q1
theorem r_m2 (hp : pn < 6) (d : Nat) (x : Int) : ActR g (d + 4) yMo_mendsAct [xr 120, xi (pn : Int), xi x] pn 2 v (mB 2) (mVl 2 x (pn : Int) v) := by
  intro h al K r hA hr hl hK
  have hl2 : r + 2 ≤ 20 := hl
  have hW := hA.1
  obtain ⟨h0, rfl⟩ := id hW
  refine cof ocMo_mendsAct rfl (XW_t4 [] 100 okMo_mendsAct ?_)
  refine ⟨pn, rfl, by show pn < 6; omega, (2 : Int), hA.2.1, ?_⟩
  refine r_po hp d _ _ _ _ (r) hA hr (show r + 2 ≤ 20 by omega) fun h11 q1 => ?_
  have hA1 := hA.lg q1
  obtain ⟨k1, rfl⟩ := id hA1.1
  exact hK _ q1
theorem r_m3 (hp : pn < 6) (d : Nat) (x : Int) : ActR g (d + 4) yMo_mendsAct [xr 120, xi (pn : Int), xi x] pn 3 v (mB 3) (mVl 3 x (pn : Int) v) := by
  intro h al K r hA hr hl hK
  have hl2 : r + 1 ≤ 20 := hl
  have hW := hA.1
  obtain ⟨h0, rfl⟩ := id hW
  refine cof ocMo_mendsAct rfl (XW_t4 [] 100 okMo_mendsAct ?_)
  refine ⟨pn, rfl, by show pn < 6; omega, (3 : Int), hA.2.1, ?_⟩
  refine r_pm hp (d + 1) _ _ _ _ (r) hA hr (show r + 1 ≤ 20 by omega) fun h11 q1 => ?_
  have hA1 := hA.lg q1
  obtain ⟨k1, rfl⟩ := id hA1.1
  exact hK _ q1
theorem r_m4 (hp : pn < 6) (d : Nat) (x : Int) : ActR g (d + 4) yMo_mendsAct [xr 120, xi (pn : Int), xi x] pn 4 v (mB 4) (mVl 4 x (pn : Int) v) := by
  intro h al K r hA hr hl hK
  have hl2 : r + 2 ≤ 20 := hl
  have hW := hA.1
  obtain ⟨h0, rfl⟩ := id hW
  refine cof ocMo_mendsAct rfl (XW_t4 [] 100 okMo_mendsAct ?_)
  refine ⟨pn, rfl, by show pn < 6; omega, (4 : Int), hA.2.1, ?_⟩
  refine c_body hA.1 hr (show r < 20 by omega) fun h11 q1 => ?_
  have hA1 := hA.lg q1
  obtain ⟨k1, rfl⟩ := id hA1.1
  refine r_pm hp (d + 1) _ _ _ _ (r + 1) hA1 q1.2.1 (show r + 1 + 1 ≤ 20 by omega) fun h12 q2 => ?_
  have hA2 := hA1.lg q2
  obtain ⟨k2, rfl⟩ := id hA2.1
  exact hK _ (q1.trans q2)
theorem r_m5 (hp : pn < 6) (d : Nat) (x : Int) : ActR g (d + 4) yMo_mendsAct [xr 120, xi (pn : Int), xi x] pn 5 v (mB 5) (mVl 5 x (pn : Int) v) := by
  intro h al K r hA hr hl hK
  have hl2 : r + 1 ≤ 20 := hl
  have hW := hA.1
  obtain ⟨h0, rfl⟩ := id hW
  refine cof ocMo_mendsAct rfl (XW_t4 [] 100 okMo_mendsAct ?_)
  refine ⟨pn, rfl, by show pn < 6; omega, (5 : Int), hA.2.1, ?_⟩
  refine r_pm hp (d + 1) _ _ _ _ (r) hA hr (show r + 1 ≤ 20 by omega) fun h11 q1 => ?_
  have hA1 := hA.lg q1
  obtain ⟨k1, rfl⟩ := id hA1.1
  exact hK _ q1
theorem r_m6 (hp : pn < 6) (d : Nat) (x : Int) : ActR g (d + 4) yMo_mendsAct [xr 120, xi (pn : Int), xi x] pn 6 v (mB 6) (mVl 6 x (pn : Int) v) := by
  intro h al K r hA hr hl hK
  have hl2 : r + 3 ≤ 20 := hl
  have hW := hA.1
  obtain ⟨h0, rfl⟩ := id hW
  refine cof ocMo_mendsAct rfl (XW_t4 [] 100 okMo_mendsAct ?_)
  refine ⟨pn, rfl, by show pn < 6; omega, (6 : Int), hA.2.1, ?_⟩
  refine c_body hA.1 hr (show r < 20 by omega) fun h11 q1 => ?_
  have hA1 := hA.lg q1
  obtain ⟨k1, rfl⟩ := id hA1.1
  refine r_po hp d _ _ _ _ (r + 1) hA1 q1.2.1 (show r + 1 + 2 ≤ 20 by omega) fun h12 q2 => ?_
  have hA2 := hA1.lg q2
  obtain ⟨k2, rfl⟩ := id hA2.1
  refine ⟨pn, rfl, by show pn < 6; omega, v, hA2.2.2, ?_⟩
  exact hK _ (q1.trans q2)
theorem r_m (hp : pn < 6) (hc : c < 7) (d : Nat) (x : Int) : ActR g (d + 4) yMo_mendsAct [xr 120, xi (pn : Int), xi x] pn c v (mB c) (mVl c x (pn : Int) v) := by
  have e : c = 0 ∨ c = 1 ∨ c = 2 ∨ c = 3 ∨ c = 4 ∨ c = 5 ∨ c = 6 := by omega
  rcases e with rfl | rfl | rfl | rfl | rfl | rfl | rfl
  · exact r_m0 hp d x
  · exact r_m1 hp d x
  · exact r_m2 hp d x
  · exact r_m3 hp d x
  · exact r_m4 hp d x
  · exact r_m5 hp d x
  · exact r_m6 hp d x
theorem r_fl (hp : pn < 6) (hc : c < 7) (d : Nat) (x : Int) : ActR g (d + 5) yMo_firstLeaves [xr 120, xi (pn : Int), xi x] pn c v (l0B c) (l0V c x (pn : Int) v) := by
  intro h al K r hA hr hl hK
  have hl2 : r + ((mB c).length + 1) ≤ 20 := hl
  have hW := hA.1
  obtain ⟨h0, rfl⟩ := id hW
  refine cof ocMo_firstLeaves rfl (XW_t4 [] 100 okMo_firstLeaves ?_)
  refine c_body hA.1 hr (show r < 20 by omega) fun h11 q1 => ?_
  have hA1 := hA.lg q1
  obtain ⟨k1, rfl⟩ := id hA1.1
  refine r_m hp hc d _ _ _ _ (r + 1) hA1 q1.2.1 (show r + 1 + (mB c).length ≤ 20 by omega) fun h12 q2 => ?_
  have hA2 := hA1.lg q2
  obtain ⟨k2, rfl⟩ := id hA2.1
  refine ⟨pn, rfl, by show pn < 6; omega, v, hA2.2.2, ?_⟩
  exact hK _ (q1.trans q2)
theorem r_pl (hp : pn < 6) (hc : c < 7) (d : Nat) (x : Int) : ActR g (d + 6) yMo_plainLeaves [xr 120, xi (pn : Int), xi x] pn c v (l1B c) (l1V c x (pn : Int) v) := by
  intro h al K r hA hr hl hK
  have hl2 : r + ((l0B c).length + 1) ≤ 20 := hl
  have hW := hA.1
  obtain ⟨h0, rfl⟩ := id hW
  refine cof ocMo_plainLeaves rfl (XW_t4 [] 100 okMo_plainLeaves ?_)
  refine c_body hA.1 hr (show r < 20 by omega) fun h11 q1 => ?_
  have hA1 := hA.lg q1
  obtain ⟨k1, rfl⟩ := id hA1.1
  refine r_fl hp hc d _ _ _ _ (r + 1) hA1 q1.2.1 (show r + 1 + (l0B c).length ≤ 20 by omega) fun h12 q2 => ?_
  have hA2 := hA1.lg q2
  obtain ⟨k2, rfl⟩ := id hA2.1
  exact hK _ (q1.trans q2)
theorem r_l0 (hp : pn < 6) (d : Nat) (x : Int) : ActR g (d + 7) yMo_leavesAct [xr 120, xi (pn : Int), xi x] pn 0 v (lBl 0 0) (lVl 0 0 x (pn : Int) v) := by
  intro h al K r hA hr hl hK
  have hl2 : r + 2 ≤ 20 := hl
  have hW := hA.1
  obtain ⟨h0, rfl⟩ := id hW
  refine cof ocMo_leavesAct rfl (XW_t4 [] 100 okMo_leavesAct ?_)
  refine ⟨pn, rfl, by show pn < 6; omega, (0 : Int), hA.2.1, ?_⟩
  refine r_fl hp (by decide) (d + 1) _ _ _ _ (r) hA hr (show r + 2 ≤ 20 by omega) fun h11 q1 => ?_
  have hA1 := hA.lg q1
  obtain ⟨k1, rfl⟩ := id hA1.1
  exact hK _ q1
theorem r_l1 (hp : pn < 6) (d : Nat) (x : Int) : ActR g (d + 7) yMo_leavesAct [xr 120, xi (pn : Int), xi x] pn 1 v (lBl 1 1) (lVl 1 1 x (pn : Int) v) := by
  intro h al K r hA hr hl hK
  have hl2 : r + 3 ≤ 20 := hl
  have hW := hA.1
  obtain ⟨h0, rfl⟩ := id hW
  refine cof ocMo_leavesAct rfl (XW_t4 [] 100 okMo_leavesAct ?_)
  refine ⟨pn, rfl, by show pn < 6; omega, (1 : Int), hA.2.1, ?_⟩
  refine r_pl hp (by decide) d _ _ _ _ (r) hA hr (show r + 3 ≤ 20 by omega) fun h11 q1 => ?_
  have hA1 := hA.lg q1
  obtain ⟨k1, rfl⟩ := id hA1.1
  exact hK _ q1
theorem r_l2 (hp : pn < 6) (d : Nat) (x : Int) : ActR g (d + 7) yMo_leavesAct [xr 120, xi (pn : Int), xi x] pn 2 v (lBl 2 2) (lVl 2 2 x (pn : Int) v) := by
  intro h al K r hA hr hl hK
  have hl2 : r + 3 ≤ 20 := hl
  have hW := hA.1
  obtain ⟨h0, rfl⟩ := id hW
  refine cof ocMo_leavesAct rfl (XW_t4 [] 100 okMo_leavesAct ?_)
  refine ⟨pn, rfl, by show pn < 6; omega, (2 : Int), hA.2.1, ?_⟩
  refine r_fl hp (by decide) (d + 1) _ _ _ _ (r) hA hr (show r + 3 ≤ 20 by omega) fun h11 q1 => ?_
  have hA1 := hA.lg q1
  obtain ⟨k1, rfl⟩ := id hA1.1
  exact hK _ q1
theorem r_l3 (hp : pn < 6) (d : Nat) (x : Int) : ActR g (d + 7) yMo_leavesAct [xr 120, xi (pn : Int), xi x] pn 3 v (lBl 3 3) (lVl 3 3 x (pn : Int) v) := by
  intro h al K r hA hr hl hK
  have hl2 : r + 3 ≤ 20 := hl
  have hW := hA.1
  obtain ⟨h0, rfl⟩ := id hW
  refine cof ocMo_leavesAct rfl (XW_t4 [] 100 okMo_leavesAct ?_)
  refine ⟨pn, rfl, by show pn < 6; omega, (3 : Int), hA.2.1, ?_⟩
  refine r_pl hp (by decide) d _ _ _ _ (r) hA hr (show r + 3 ≤ 20 by omega) fun h11 q1 => ?_
  have hA1 := hA.lg q1
  obtain ⟨k1, rfl⟩ := id hA1.1
  exact hK _ q1
theorem r_l4 (hp : pn < 6) (d : Nat) (x : Int) : ActR g (d + 7) yMo_leavesAct [xr 120, xi (pn : Int), xi x] pn 4 v (lBl 4 4) (lVl 4 4 x (pn : Int) v) := by
  intro h al K r hA hr hl hK
  have hl2 : r + 5 ≤ 20 := hl
  have hW := hA.1
  obtain ⟨h0, rfl⟩ := id hW
  refine cof ocMo_leavesAct rfl (XW_t4 [] 100 okMo_leavesAct ?_)
  refine ⟨pn, rfl, by show pn < 6; omega, (4 : Int), hA.2.1, ?_⟩
  refine c_body hA.1 hr (show r < 20 by omega) fun h11 q1 => ?_
  have hA1 := hA.lg q1
  obtain ⟨k1, rfl⟩ := id hA1.1
  refine r_pl hp (by decide) d _ _ _ _ (r + 1) hA1 q1.2.1 (show r + 1 + 4 ≤ 20 by omega) fun h12 q2 => ?_
  have hA2 := hA1.lg q2
  obtain ⟨k2, rfl⟩ := id hA2.1
  exact hK _ (q1.trans q2)
theorem r_l5 (hp : pn < 6) (d : Nat) (x : Int) : ActR g (d + 7) yMo_leavesAct [xr 120, xi (pn : Int), xi x] pn 5 v (lBl 5 5) (lVl 5 5 x (pn : Int) v) := by
  intro h al K r hA hr hl hK
  have hl2 : r + 3 ≤ 20 := hl
  have hW := hA.1
  obtain ⟨h0, rfl⟩ := id hW
  refine cof ocMo_leavesAct rfl (XW_t4 [] 100 okMo_leavesAct ?_)
  refine ⟨pn, rfl, by show pn < 6; omega, (5 : Int), hA.2.1, ?_⟩
  refine r_pl hp (by decide) d _ _ _ _ (r) hA hr (show r + 3 ≤ 20 by omega) fun h11 q1 => ?_
  have hA1 := hA.lg q1
  obtain ⟨k1, rfl⟩ := id hA1.1
  exact hK _ q1
theorem r_l6 (hp : pn < 6) (d : Nat) (x : Int) : ActR g (d + 7) yMo_leavesAct [xr 120, xi (pn : Int), xi x] pn 6 v (lBl 6 6) (lVl 6 6 x (pn : Int) v) := by
  intro h al K r hA hr hl hK
  have hl2 : r + 7 ≤ 20 := hl
  have hW := hA.1
  obtain ⟨h0, rfl⟩ := id hW
  refine cof ocMo_leavesAct rfl (XW_t4 [] 100 okMo_leavesAct ?_)
  refine ⟨pn, rfl, by show pn < 6; omega, (6 : Int), hA.2.1, ?_⟩
  refine c_body hA.1 hr (show r < 20 by omega) fun h11 q1 => ?_
  have hA1 := hA.lg q1
  obtain ⟨k1, rfl⟩ := id hA1.1
  refine r_fl hp (by decide) (d + 1) _ _ _ _ (r + 1) hA1 q1.2.1 (show r + 1 + 4 ≤ 20 by omega) fun h12 q2 => ?_
  have hA2 := hA1.lg q2
  obtain ⟨k2, rfl⟩ := id hA2.1
  refine r_po hp (d + 3) _ _ _ _ (r + 1 + 4) hA2 q2.2.1 (show r + 1 + 4 + 2 ≤ 20 by omega) fun h13 q3 => ?_
  have hA3 := hA2.lg q3
  obtain ⟨k3, rfl⟩ := id hA3.1
  exact hK _ ((q1.trans q2).trans q3)
theorem r_l (hp : pn < 6) (hc : c < 7) (d : Nat) (x : Int) : ActR g (d + 7) yMo_leavesAct [xr 120, xi (pn : Int), xi x] pn c v (lBl c c) (lVl c c x (pn : Int) v) := by
  have e : c = 0 ∨ c = 1 ∨ c = 2 ∨ c = 3 ∨ c = 4 ∨ c = 5 ∨ c = 6 := by omega
  rcases e with rfl | rfl | rfl | rfl | rfl | rfl | rfl
  · exact r_l0 hp d x
  · exact r_l1 hp d x
  · exact r_l2 hp d x
  · exact r_l3 hp d x
  · exact r_l4 hp d x
  · exact r_l5 hp d x
  · exact r_l6 hp d x
theorem r_pt (hp : pn < 6) (hc : c < 7) (d : Nat) (x : Int) : ActR g (d + 8) yMo_plainTells [xr 120, xi (pn : Int), xi x] pn c v (t0B c) (t0V c x (pn : Int) v) := by
  intro h al K r hA hr hl hK
  have hl2 : r + ((lBl c c).length + 1) ≤ 20 := hl
  have hW := hA.1
  obtain ⟨h0, rfl⟩ := id hW
  refine cof ocMo_plainTells rfl (XW_t4 [] 100 okMo_plainTells ?_)
  refine c_body hA.1 hr (show r < 20 by omega) fun h11 q1 => ?_
  have hA1 := hA.lg q1
  obtain ⟨k1, rfl⟩ := id hA1.1
  refine r_l hp hc d _ _ _ _ (r + 1) hA1 q1.2.1 (show r + 1 + (lBl c c).length ≤ 20 by omega) fun h12 q2 => ?_
  have hA2 := hA1.lg q2
  obtain ⟨k2, rfl⟩ := id hA2.1
  exact hK _ (q1.trans q2)
theorem r_t0 (hp : pn < 6) (d : Nat) (x : Int) : ActR g (d + 9) yMo_tellsAct [xr 120, xi (pn : Int), xi x] pn 0 v (tBl 0 0) (tVl 0 0 x (pn : Int) v) := by
  intro h al K r hA hr hl hK
  have hl2 : r + 3 ≤ 20 := hl
  have hW := hA.1
  obtain ⟨h0, rfl⟩ := id hW
  refine cof ocMo_tellsAct rfl (XW_t4 [] 100 okMo_tellsAct ?_)
  refine ⟨pn, rfl, by show pn < 6; omega, (0 : Int), hA.2.1, ?_⟩
  refine r_pt hp (by decide) d _ _ _ _ (r) hA hr (show r + 3 ≤ 20 by omega) fun h11 q1 => ?_
  have hA1 := hA.lg q1
  obtain ⟨k1, rfl⟩ := id hA1.1
  exact hK _ q1
theorem r_t1 (hp : pn < 6) (d : Nat) (x : Int) : ActR g (d + 9) yMo_tellsAct [xr 120, xi (pn : Int), xi x] pn 1 v (tBl 1 1) (tVl 1 1 x (pn : Int) v) := by
  intro h al K r hA hr hl hK
  have hl2 : r + 4 ≤ 20 := hl
  have hW := hA.1
  obtain ⟨h0, rfl⟩ := id hW
  refine cof ocMo_tellsAct rfl (XW_t4 [] 100 okMo_tellsAct ?_)
  refine ⟨pn, rfl, by show pn < 6; omega, (1 : Int), hA.2.1, ?_⟩
  refine r_pt hp (by decide) d _ _ _ _ (r) hA hr (show r + 4 ≤ 20 by omega) fun h11 q1 => ?_
  have hA1 := hA.lg q1
  obtain ⟨k1, rfl⟩ := id hA1.1
  exact hK _ q1
theorem r_t2 (hp : pn < 6) (d : Nat) (x : Int) : ActR g (d + 9) yMo_tellsAct [xr 120, xi (pn : Int), xi x] pn 2 v (tBl 2 2) (tVl 2 2 x (pn : Int) v) := by
  intro h al K r hA hr hl hK
  have hl2 : r + 4 ≤ 20 := hl
  have hW := hA.1
  obtain ⟨h0, rfl⟩ := id hW
  refine cof ocMo_tellsAct rfl (XW_t4 [] 100 okMo_tellsAct ?_)
  refine ⟨pn, rfl, by show pn < 6; omega, (2 : Int), hA.2.1, ?_⟩
  refine r_pt hp (by decide) d _ _ _ _ (r) hA hr (show r + 4 ≤ 20 by omega) fun h11 q1 => ?_
  have hA1 := hA.lg q1
  obtain ⟨k1, rfl⟩ := id hA1.1
  exact hK _ q1
theorem r_t3 (hp : pn < 6) (d : Nat) (x : Int) : ActR g (d + 9) yMo_tellsAct [xr 120, xi (pn : Int), xi x] pn 3 v (tBl 3 3) (tVl 3 3 x (pn : Int) v) := by
  intro h al K r hA hr hl hK
  have hl2 : r + 8 ≤ 20 := hl
  have hW := hA.1
  obtain ⟨h0, rfl⟩ := id hW
  refine cof ocMo_tellsAct rfl (XW_t4 [] 100 okMo_tellsAct ?_)
  refine ⟨pn, rfl, by show pn < 6; omega, (3 : Int), hA.2.1, ?_⟩
  refine c_body hA.1 hr (show r < 20 by omega) fun h11 q1 => ?_
  have hA1 := hA.lg q1
  obtain ⟨k1, rfl⟩ := id hA1.1
  refine r_pt hp (by decide) d _ _ _ _ (r + 1) hA1 q1.2.1 (show r + 1 + 4 ≤ 20 by omega) fun h12 q2 => ?_
  have hA2 := hA1.lg q2
  obtain ⟨k2, rfl⟩ := id hA2.1
  refine r_l hp (by decide) (d + 1) _ _ _ _ (r + 1 + 4) hA2 q2.2.1 (show r + 1 + 4 + 3 ≤ 20 by omega) fun h13 q3 => ?_
  have hA3 := hA2.lg q3
  obtain ⟨k3, rfl⟩ := id hA3.1
  exact hK _ ((q1.trans q2).trans q3)
theorem r_t4 (hp : pn < 6) (d : Nat) (x : Int) : ActR g (d + 9) yMo_tellsAct [xr 120, xi (pn : Int), xi x] pn 4 v (tBl 4 4) (tVl 4 4 x (pn : Int) v) := by
  intro h al K r hA hr hl hK
  have hl2 : r + 6 ≤ 20 := hl
  have hW := hA.1
  obtain ⟨h0, rfl⟩ := id hW
  refine cof ocMo_tellsAct rfl (XW_t4 [] 100 okMo_tellsAct ?_)
  refine ⟨pn, rfl, by show pn < 6; omega, (4 : Int), hA.2.1, ?_⟩
  refine r_pt hp (by decide) d _ _ _ _ (r) hA hr (show r + 6 ≤ 20 by omega) fun h11 q1 => ?_
  have hA1 := hA.lg q1
  obtain ⟨k1, rfl⟩ := id hA1.1
  exact hK _ q1
theorem r_t5 (hp : pn < 6) (d : Nat) (x : Int) : ActR g (d + 9) yMo_tellsAct [xr 120, xi (pn : Int), xi x] pn 5 v (tBl 5 5) (tVl 5 5 x (pn : Int) v) := by
  intro h al K r hA hr hl hK
  have hl2 : r + 5 ≤ 20 := hl
  have hW := hA.1
  obtain ⟨h0, rfl⟩ := id hW
  refine cof ocMo_tellsAct rfl (XW_t4 [] 100 okMo_tellsAct ?_)
  refine ⟨pn, rfl, by show pn < 6; omega, (5 : Int), hA.2.1, ?_⟩
  refine c_body hA.1 hr (show r < 20 by omega) fun h11 q1 => ?_
  have hA1 := hA.lg q1
  obtain ⟨k1, rfl⟩ := id hA1.1
  refine r_pt hp (by decide) d _ _ _ _ (r + 1) hA1 q1.2.1 (show r + 1 + 4 ≤ 20 by omega) fun h12 q2 => ?_
  have hA2 := hA1.lg q2
  obtain ⟨k2, rfl⟩ := id hA2.1
  exact hK _ (q1.trans q2)
theorem r_t6 (hp : pn < 6) (d : Nat) (x : Int) : ActR g (d + 9) yMo_tellsAct [xr 120, xi (pn : Int), xi x] pn 6 v (tBl 6 6) (tVl 6 6 x (pn : Int) v) := by
  intro h al K r hA hr hl hK
  have hl2 : r + 8 ≤ 20 := hl
  have hW := hA.1
  obtain ⟨h0, rfl⟩ := id hW
  refine cof ocMo_tellsAct rfl (XW_t4 [] 100 okMo_tellsAct ?_)
  refine ⟨pn, rfl, by show pn < 6; omega, (6 : Int), hA.2.1, ?_⟩
  refine r_pt hp (by decide) d _ _ _ _ (r) hA hr (show r + 8 ≤ 20 by omega) fun h11 q1 => ?_
  have hA1 := hA.lg q1
  obtain ⟨k1, rfl⟩ := id hA1.1
  exact hK _ q1
theorem r_t (hp : pn < 6) (hc : c < 7) (d : Nat) (x : Int) : ActR g (d + 9) yMo_tellsAct [xr 120, xi (pn : Int), xi x] pn c v (tBl c c) (tVl c c x (pn : Int) v) := by
  have e : c = 0 ∨ c = 1 ∨ c = 2 ∨ c = 3 ∨ c = 4 ∨ c = 5 ∨ c = 6 := by omega
  rcases e with rfl | rfl | rfl | rfl | rfl | rfl | rfl
  · exact r_t0 hp d x
  · exact r_t1 hp d x
  · exact r_t2 hp d x
  · exact r_t3 hp d x
  · exact r_t4 hp d x
  · exact r_t5 hp d x
  · exact r_t6 hp d x
end Q23
