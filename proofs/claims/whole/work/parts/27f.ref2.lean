-- the reference reads an E: signs, what waits
def opn : List Int → Nat
  | [] => 0
  | c :: W => (if c = 33 ∨ c = 40 then 1 else 0) + opn W
def WK (h : HH) : List Int → Prop
  | [] => True
  | c :: W => h 137 W.length = c ∧ WK h W
def FE (q s0 : Nat) (h h2 : HH) : Prop := ∀ a k, ¬ (a = 120 ∧ (k = 19 ∨ k = 20 ∨ k = 29 ∨ k = 30 ∨ k = 31)) → a ≠ 137 → ¬ (a = 136 ∧ s0 ≤ k) → ¬ (a = 135 ∧ k = q) → h2 a k = h a k
def MR (q s0 : Nat) (hb h : HH) (p : Nat) (W : List Int) (e : List Sg) : Prop := Wd h ∧ FE q s0 hb h ∧ h 120 19 = (p : Int) ∧ h 120 29 = ((s0 + e.length : Nat) : Int) ∧ (h 120 30 = (W.length : Int) ∧ h 120 31 = (opn W : Int)) ∧ WK h W ∧ ∀ j, j < e.length → h 136 (s0 + j) = mS (e.getD j z4)
def stp : List Int → List Int
  | [] => []
  | c :: W => if c = 33 then stp W else c :: W
def nts : List Int → List Sg
  | [] => []
  | c :: W => if c = 33 then (1, 0, 0, 0) :: nts W else []
def opS (c : Int) : Sg := if c = 38 then (2, 0, 0, 0) else (3, 0, 0, 0)
def stW (s : Int) : List Int → List Int
  | [] => []
  | c :: W => if c = 38 ∨ (c = 124 ∧ s ≠ 38) then stW s W else c :: W
def stO (s : Int) : List Int → List Sg
  | [] => []
  | c :: W => if c = 38 ∨ (c = 124 ∧ s ≠ 38) then opS c :: stO s W else []
theorem WK.fr {h h2 : HH} : ∀ {W : List Int}, WK h W → (∀ i, i < W.length → h2 137 i = h 137 i) → WK h2 W := by
  intro W
  induction W with
  | nil => exact fun _ _ => trivial
  | cons c W ih =>
    intro hk hq
    exact ⟨(hq W.length (by rw [List.length_cons]; omega)).trans hk.1, ih hk.2 fun i hi => hq i (by rw [List.length_cons]; omega)⟩
theorem FE.refl {q s0 : Nat} {h : HH} : FE q s0 h h := fun _ _ _ _ _ _ => rfl
theorem FE.trans {q s0 : Nat} {h h2 h3 : HH} (a : FE q s0 h h2) (b : FE q s0 h2 h3) : FE q s0 h h3 := fun x k e1 e2 e3 e4 => (b x k e1 e2 e3 e4).trans (a x k e1 e2 e3 e4)
theorem FN.fe {q s0 : Nat} {h h2 : HH} (a : FN h h2) : FE q s0 h h2 := fun x k e1 _ _ _ => a x k (by omega)
theorem FE.up {q s0 : Nat} {h h2 : HH} {a k : Nat} {z : Int} (hf : FE q s0 h h2) (e : (a = 120 ∧ (k = 19 ∨ k = 20 ∨ k = 29 ∨ k = 30 ∨ k = 31)) ∨ a = 137 ∨ (a = 136 ∧ s0 ≤ k) ∨ (a = 135 ∧ k = q)) : FE q s0 h (uH h2 a k z) := fun x j e1 e2 e3 e4 => by
  rw [uH_ne (by omega)]
  exact hf x j e1 e2 e3 e4
theorem FE.wd {q s0 : Nat} {h h2 : HH} (hf : FE q s0 h h2) (hW : Wd h) : Wd h2 := hW.of fun a k hk => hf a k (by rintro ⟨rfl, rfl | rfl | rfl | rfl | rfl⟩ <;> exact hk (by decide)) (by rintro rfl; exact hk (by show (-9 : Int) < 0; decide)) (by rintro ⟨rfl, -⟩; exact hk (by show (-9 : Int) < 0; decide)) (by rintro ⟨rfl, -⟩; exact hk (by show (-9 : Int) < 0; decide))
theorem TXm.fe {ch : Nat → Int} {N q s0 : Nat} {h h2 : HH} (hT : TXm ch N h) (hf : FE q s0 h h2) : TXm ch N h2 := by
  obtain ⟨t1, t2, t3, t4⟩ := hT
  refine ⟨(hf _ _ (by omega) (by decide) (by omega) (by omega)).trans t1, t2, fun k hk => ?_, t4⟩
  rw [hf 130 k (by omega) (by decide) (by omega) (by omega)]
  exact t3 k hk
theorem MR.fn {q s0 : Nat} {hb h h2 : HH} {p p2 : Nat} {W : List Int} {e : List Sg} (hm : MR q s0 hb h p W e) (hf : FN h h2) (hp : h2 120 19 = (p2 : Int)) : MR q s0 hb h2 p2 W e := by
  obtain ⟨m1, m2, m3, m4, ⟨m5, m6⟩, m7, m8⟩ := hm
  exact ⟨hf.wd m1, m2.trans hf.fe, hp, (hf _ _ (by omega)).trans m4, ⟨(hf _ _ (by omega)).trans m5, (hf _ _ (by omega)).trans m6⟩, m7.fr fun i _ => hf _ _ (by omega), fun j hj => (hf _ _ (by omega)).trans (m8 j hj)⟩
theorem stp_len : ∀ W : List Int, (nts W).length + (stp W).length = W.length := by
  intro W
  induction W with
  | nil => rfl
  | cons c W ih =>
    unfold nts stp
    by_cases q : c = 33
    · rw [if_pos q, if_pos q, List.length_cons, List.length_cons]
      omega
    · rw [if_neg q, if_neg q, List.length_cons, List.length_nil]
      omega
theorem stW_len (s : Int) : ∀ W : List Int, (stO s W).length + (stW s W).length = W.length := by
  intro W
  induction W with
  | nil => rfl
  | cons c W ih =>
    unfold stO stW
    by_cases q : c = 38 ∨ (c = 124 ∧ s ≠ 38)
    · rw [if_pos q, if_pos q, List.length_cons, List.length_cons]
      omega
    · rw [if_neg q, if_neg q, List.length_cons, List.length_nil]
      omega
theorem stW_opn (s : Int) : ∀ W : List Int, opn (stW s W) = opn W := by
  intro W
  induction W with
  | nil => rfl
  | cons c W ih =>
    unfold stW
    by_cases q : c = 38 ∨ (c = 124 ∧ s ≠ 38)
    · rw [if_pos q, ih]
      show opn W = (if c = 33 ∨ c = 40 then 1 else 0) + opn W
      rw [if_neg (by omega)]
      omega
    · rw [if_neg q]
theorem opn_le : ∀ W : List Int, opn W ≤ W.length := by
  intro W
  induction W with
  | nil => exact Nat.le_refl _
  | cons a W ih =>
    show (if a = 33 ∨ a = 40 then 1 else 0) + opn W ≤ W.length + 1
    split <;> omega
section MR2
variable {g : GC} {d : Nat} {h hb : HH} {al : AL} {K : KT} {ch : Nat → Int} {N p q f v0 : Nat} {W : List Int} {e : List Sg}
theorem c_Mput {s0 : Nat} {x : Int} {sg : Sg} (hm : MR q s0 hb h p W e) (hl : s0 + e.length < 500) (hx : x = mS sg) (hK : ∀ h2 : HH, MR q s0 hb h2 p W (e ++ [sg]) → K none h2 al) : Call g (d + 1) yMo_put [xr 120, xi x] h al K := by
  obtain ⟨m1, m2, m3, m4, ⟨m5, m6⟩, m7, m8⟩ := hm
  have hW2 := m1
  obtain ⟨h0, rfl⟩ := m1
  refine cof ocMo_put rfl (XW_t4 [] 40 okMo_put ?_)
  refine ⟨s0 + e.length, m4, by show s0 + e.length < 500; exact hl, ?_⟩
  have hf : FE q s0 hb (uH (uH (wr h0) 136 (s0 + e.length) x) 120 29 (wI (wr h0 120 29 + 1))) := (m2.up (by omega)).up (by omega)
  refine hK (uH (uH (wr h0) 136 (s0 + e.length) x) 120 29 (wI (wr h0 120 29 + 1))) ⟨?_, hf, ?_, ?_, ⟨?_, ?_⟩, m7.fr fun i _ => ?_, fun j hj => ?_⟩
  · refine hW2.of fun a k hk => ?_
    rw [uH_ne (by rintro ⟨rfl, rfl⟩; exact hk (by decide)), uH_ne (by rintro ⟨rfl, -⟩; exact hk (by show (-9 : Int) < 0; decide))]
  · rw [uH_ne (by omega), uH_ne (by omega)]
    exact m3
  · rw [uH_at, m4, nS _ (by omega), List.length_append]
    rfl
  · rw [uH_ne (by omega), uH_ne (by omega)]
    exact m5
  · rw [uH_ne (by omega), uH_ne (by omega)]
    exact m6
  · rw [uH_ne (by omega), uH_ne (by omega)]
  · rw [uH_ne (by omega), uH_r]
    rw [List.length_append] at hj
    have hj : j < e.length + 1 := hj
    by_cases q : j = e.length
    · rw [if_pos (by rw [q]), q, List.getD_eq_getElem?_getD, List.getElem?_append_right (Nat.le_refl _), Nat.sub_self, hx]
      rfl
    · rw [if_neg (by omega), List.getD_eq_getElem?_getD, List.getElem?_append_left (by omega), ← List.getD_eq_getElem?_getD]
      exact m8 j (by omega)
/-- the top goes -/
theorem MR.pop {s0 : Nat} {c : Int} {y z : Int} (hm : MR q s0 hb h p (c :: W) e) (hy : y = (W.length : Int)) (hz : z = (opn W : Int)) : MR q s0 hb (uH (uH h 120 30 y) 120 31 z) p W e := by
  obtain ⟨m1, m2, m3, m4, ⟨m5, m6⟩, m7, m8⟩ := hm
  refine ⟨(m1.up (by decide)).up (by decide), (m2.up (by omega)).up (by omega), ?_, ?_, ⟨?_, ?_⟩, m7.2.fr fun i _ => ?_, fun j hj => ?_⟩
  · rw [uH_ne (by omega), uH_ne (by omega)]
    exact m3
  · rw [uH_ne (by omega), uH_ne (by omega)]
    exact m4
  · rw [uH_ne (by omega), uH_at]
    exact hy
  · rw [uH_at]
    exact hz
  · rw [uH_ne (by omega), uH_ne (by omega)]
  · rw [uH_ne (by omega), uH_ne (by omega)]
    exact m8 j hj
theorem MR.pop1 {s0 : Nat} {c : Int} {y : Int} (hm : MR q s0 hb h p (c :: W) e) (hc : ¬ (c = 33 ∨ c = 40)) (hy : y = (W.length : Int)) : MR q s0 hb (uH h 120 30 y) p W e := by
  obtain ⟨m1, m2, m3, m4, ⟨m5, m6⟩, m7, m8⟩ := hm
  have e0 : opn (c :: W) = opn W := by
    show (if c = 33 ∨ c = 40 then 1 else 0) + opn W = opn W
    rw [if_neg hc]
    omega
  refine ⟨m1.up (by decide), m2.up (by omega), ?_, ?_, ⟨?_, ?_⟩, m7.2.fr fun i _ => ?_, fun j hj => ?_⟩
  · rw [uH_ne (by omega)]
    exact m3
  · rw [uH_ne (by omega)]
    exact m4
  · rw [uH_at]
    exact hy
  · rw [uH_ne (by omega), m6, e0]
  · rw [uH_ne (by omega)]
  · rw [uH_ne (by omega)]
    exact m8 j hj
set_option maxRecDepth 8000 in
theorem c_whole {s0 : Nat} (hl : W.length ≤ 100 ∧ s0 + e.length + W.length ≤ 500) (hm : MR q s0 hb h p W e) (hK : ∀ h2 : HH, MR q s0 hb h2 p (stp W) (e ++ nts W) → K none h2 al) : Call g (d + 2) yMo_whole [xr 120] h al K := by
  have loop : ∀ (W2 : List Int) (e2 : List Sg) (h2 : HH), W2.length ≤ 100 ∧ s0 + e2.length + W2.length ≤ 500 → MR q s0 hb h2 p W2 e2 → stp W2 = stp W → e2 ++ nts W2 = e ++ nts W → XW g (d + 1) mMo_whole K 0 [some (xr 120)] [] h2 al := by
    intro W2
    induction W2 with
    | nil =>
      intro e2 h2 _ hm2 e1 e3
      have t := hK h2 (by rw [← e1, ← e3]; rw [show nts ([] : List Int) = [] from rfl, List.append_nil]; exact hm2)
      obtain ⟨m1, -, -, -, ⟨m5, -⟩, -⟩ := hm2
      obtain ⟨h2', rfl⟩ := m1
      refine XW_t4 [0] 60 okMo_whole ?_
      refine ite_f (show ¬ 0 < wr h2' 120 30 by rw [m5]; decide) ?_
      exact t
    | cons c W2 ih =>
      intro e2 h2 hl2 hm2 e1 e3
      rw [List.length_cons] at hl2
      obtain ⟨m1, m2, m3, m4, ⟨m5, m6⟩, m7, m8⟩ := id hm2
      rw [List.length_cons] at m5
      have hm3 := hm2
      have e5 : ∀ _ : Unit, wI (h2 120 30 - 1) = (W2.length : Int) := fun _ => by rw [m5, wI_id (by omega)]; omega
      by_cases q33 : c = 33
      · have e1' : stp W2 = stp W := by
          rw [← e1]
          show stp W2 = if c = 33 then stp W2 else c :: W2
          rw [if_pos q33]
        have e3' : (e2 ++ [(1, 0, 0, 0)]) ++ nts W2 = e ++ nts W := by
          rw [← e3]
          show _ = e2 ++ (if c = 33 then (1, 0, 0, 0) :: nts W2 else [])
          rw [if_pos q33, List.append_assoc]
          rfl
        obtain ⟨h2', rfl⟩ := m1
        refine XW_t4 [0] 80 okMo_whole ?_
        refine ite_t (show 0 < wr h2' 120 30 by rw [m5]; omega) ?_
        refine ⟨W2.length, e5 (), by show W2.length < 101; omega, c, m7.1, ?_⟩
        refine ite_t q33 ?_
        refine c_Mput (sg := (1, 0, 0, 0)) hm3 (by omega) rfl fun h3 hm4 => ?_
        obtain ⟨n1, -, -, -, ⟨n5, n6⟩, -⟩ := id hm4
        rw [List.length_cons] at n5
        have n6' : h3 120 31 = ((1 + opn W2 : Nat) : Int) := by
          rw [n6]
          show ((((if c = 33 ∨ c = 40 then 1 else 0) + opn W2 : Nat)) : Int) = _
          rw [if_pos (Or.inl q33)]
        have hop := opn_le W2
        have t := ih (e2 ++ [(1, 0, 0, 0)]) (uH (uH h3 120 30 (wI (h3 120 30 - 1))) 120 31 (wI (h3 120 31 - 1))) (by rw [List.length_append]; show W2.length ≤ 100 ∧ s0 + (e2.length + 1) + W2.length ≤ 500; omega) (hm4.pop (by rw [n5, wI_id (by omega)]; omega) (by rw [n6', wI_id (by omega)]; omega)) e1' e3'
        obtain ⟨h3', rfl⟩ := n1
        exact t
      · have t := hK h2 (by
          rw [← e1, ← e3]
          show MR q s0 hb h2 p (if c = 33 then stp W2 else c :: W2) (e2 ++ (if c = 33 then (1, 0, 0, 0) :: nts W2 else []))
          rw [if_neg q33, if_neg q33, List.append_nil]
          exact hm2)
        obtain ⟨h2', rfl⟩ := m1
        refine XW_t4 [0] 80 okMo_whole ?_
        refine ite_t (show 0 < wr h2' 120 30 by rw [m5]; omega) ?_
        refine ⟨W2.length, e5 (), by show W2.length < 101; omega, c, m7.1, ?_⟩
        refine ite_f q33 ?_
        exact t
  exact cof ocMo_whole rfl (loop W e h hl hm rfl rfl)
theorem mS_op {c : Int} (hc : c = 38 ∨ c = 124) : wI (-c) = mS (opS c) := by
  rcases hc with rfl | rfl <;> decide
set_option maxRecDepth 8000 in
theorem c_settle {s0 : Nat} {s : Int} (hl : W.length ≤ 100 ∧ s0 + e.length + W.length ≤ 500) (hm : MR q s0 hb h p W e) (hK : ∀ h2 : HH, MR q s0 hb h2 p (stW s W) (e ++ stO s W) → K none h2 al) : Call g (d + 2) yMo_settle [xr 120, xi s] h al K := by
  have loop : ∀ (W2 : List Int) (e2 : List Sg) (h2 : HH), W2.length ≤ 100 ∧ s0 + e2.length + W2.length ≤ 500 → MR q s0 hb h2 p W2 e2 → stW s W2 = stW s W → e2 ++ stO s W2 = e ++ stO s W → XW g (d + 1) mMo_settle K 0 [some (xr 120), some (xi s)] [] h2 al := by
    intro W2
    induction W2 with
    | nil =>
      intro e2 h2 _ hm2 e1 e3
      have t := hK h2 (by rw [← e1, ← e3]; rw [show stO s ([] : List Int) = [] from rfl, List.append_nil]; exact hm2)
      obtain ⟨m1, -, -, -, ⟨m5, -⟩, -⟩ := hm2
      obtain ⟨h2', rfl⟩ := m1
      refine XW_t4 [0] 60 okMo_settle ?_
      refine ite_f (show ¬ 0 < wr h2' 120 30 by rw [m5]; decide) ?_
      exact t
    | cons c W2 ih =>
      intro e2 h2 hl2 hm2 e1 e3
      rw [List.length_cons] at hl2
      obtain ⟨m1, m2, m3, m4, ⟨m5, m6⟩, m7, m8⟩ := id hm2
      rw [List.length_cons] at m5
      have hm3 := hm2
      have e5 : ∀ _ : Unit, wI (h2 120 30 - 1) = (W2.length : Int) := fun _ => by rw [m5, wI_id (by omega)]; omega
      have go : (c = 38 ∨ (c = 124 ∧ s ≠ 38)) → XW g (d + 1) mMo_settle K 45 [some (xr 120), some (xi s)] [] h2 al := by
        intro qc
        have e1' : stW s W2 = stW s W := by
          rw [← e1]
          show stW s W2 = if c = 38 ∨ (c = 124 ∧ s ≠ 38) then stW s W2 else c :: W2
          rw [if_pos qc]
        have e3' : (e2 ++ [opS c]) ++ stO s W2 = e ++ stO s W := by
          rw [← e3]
          show _ = e2 ++ (if c = 38 ∨ (c = 124 ∧ s ≠ 38) then opS c :: stO s W2 else [])
          rw [if_pos qc, List.append_assoc]
          rfl
        have hmp : MR q s0 hb (uH h2 120 30 (wI (h2 120 30 - 1))) p W2 e2 := hm2.pop1 (by omega) (e5 ())
        have ev : uH h2 120 30 (wI (h2 120 30 - 1)) 137 W2.length = c := (uH_ne (by omega)).trans m7.1
        have nx := fun h3 a => ih (e2 ++ [opS c]) h3 (by rw [List.length_append]; show W2.length ≤ 100 ∧ s0 + (e2.length + 1) + W2.length ≤ 500; omega) a e1' e3'
        obtain ⟨h2', rfl⟩ := m1
        refine XW_t4 [0] 80 okMo_settle ?_
        refine ⟨W2.length, e5 (), by show W2.length < 101; omega, c, ev, ?_⟩
        refine c_Mput (h := uH (wr h2') 120 30 (wI (wr h2' 120 30 - 1))) (sg := opS c) hmp (by omega) (mS_op (by omega)) fun h4 hm4 => ?_
        exact nx h4 hm4
      have stay : ¬ (c = 38 ∨ (c = 124 ∧ s ≠ 38)) → K none h2 al := fun qc => hK h2 (by
        rw [← e1, ← e3]
        show MR q s0 hb h2 p (if c = 38 ∨ (c = 124 ∧ s ≠ 38) then stW s W2 else c :: W2) (e2 ++ (if c = 38 ∨ (c = 124 ∧ s ≠ 38) then opS c :: stO s W2 else []))
        rw [if_neg qc, if_neg qc, List.append_nil]
        exact hm2)
      obtain ⟨h2', rfl⟩ := m1
      refine XW_t4 [0, 45] 80 okMo_settle ?_
      refine ite_t (show 0 < wr h2' 120 30 by rw [m5]; omega) ?_
      refine ⟨W2.length, e5 (), by show W2.length < 101; omega, c, m7.1, ?_⟩
      refine ite_i (fun q1 => ?_) (fun q1 => ?_)
      · exact go (Or.inl q1)
      · refine ⟨W2.length, e5 (), by show W2.length < 101; omega, c, m7.1, ?_⟩
        refine ite_i (fun q2 => ?_) (fun q2 => ?_)
        · refine ite_i (fun q3 => ?_) (fun q3 => ?_)
          · have q1 : ¬ c = 38 := q1
            have q3 : s = 38 := q3
            exact stay (by omega)
          · exact go (Or.inr ⟨q2, q3⟩)
        · have q1 : ¬ c = 38 := q1
          have q2 : ¬ c = 124 := q2
          exact stay (by omega)
  exact cof ocMo_settle rfl (loop W e h hl hm rfl rfl)
set_option maxRecDepth 8000 in
theorem c_takesTest (hT : TXm ch N hb) (hf4 : f ≤ 4) (hl : v0 + e.length + W.length ≤ p) (hpN : p ≤ N) (hm : MR q (100 * f + v0) hb h p W e) (hok : (teS ch p).1 = true → ∀ h2 : HH, MR q (100 * f + v0) hb h2 (teS ch p).2.1 (stp W) ((e ++ (teS ch p).2.2) ++ nts W) → K (some (xi 1)) h2 al)
    (hno : (teS ch p).1 = false → ∀ h2 : HH, Wd h2 → FE q (100 * f + v0) hb h2 → h2 120 19 = ((teS ch p).2.1 : Int) → K (some (xi 0)) h2 al) : Call g (d + 4) yMo_takesTest [xr 120] h al K := by
  obtain ⟨m1, m2, m3, m4, ⟨m5, m6⟩, m7, m8⟩ := id hm
  have hN := hT.2.1
  have t4 := hT.2.2.2
  have hW2 := m1
  have hTh := hT.fe m2
  unfold teS at hok hno
  by_cases h1 : ltS (ch p) = 4
  · rw [if_pos h1] at hok hno
    have fin := hno rfl h m1 m2 m3
    obtain ⟨h0, rfl⟩ := m1
    refine cof ocMo_takesTest rfl (XW_t4 [] 60 okMo_takesTest ?_)
    refine c_Mnext hW2 hTh m3 fun r hr => ?_
    refine c_place hr ?_
    rw [if_pos h1]
    exact ⟨Or.inl rfl, fin⟩
  · rw [if_neg h1] at hok hno
    obtain ⟨n1, n2⟩ := ltS_0 h1
    have l1 := ch_lt t4 n1
    have ey : wI (h 120 19 + 1) = ((p + 1 : Nat) : Int) := by rw [m3, nS p (by omega)]
    have hm1 : MR q (100 * f + v0) hb (uH h 120 19 (wI (h 120 19 + 1))) (p + 1) W e := hm.fn (FN.refl.up (Or.inl rfl)) (by rw [uH_at]; exact ey)
    have hT1 := hT.fe hm1.2.1
    by_cases h2 : 60 ≤ ch (p + 1) ∧ ch (p + 1) ≤ 62
    · rw [if_pos h2] at hok hno
      have l2 := ch_lt t4 (p := p + 1) (by omega)
      have hm2 : MR q (100 * f + v0) hb (uH (uH h 120 19 (wI (h 120 19 + 1))) 120 19 (wI (wI (h 120 19 + 1) + 1))) (p + 2) W e := hm1.fn (FN.refl.up (Or.inl rfl)) (by rw [uH_at, ey, nS (p + 1) (by omega)])
      have k54 : XW g (d + 3) mMo_takesTest K 54 [some (xr 120), some (xi (ltS (ch p) : Int)), some (xi (ch (p + 1)))] [] (uH (uH h 120 19 (wI (h 120 19 + 1))) 120 19 (wI (wI (h 120 19 + 1) + 1))) al := by
        generalize uH (uH h 120 19 (wI (h 120 19 + 1))) 120 19 (wI (wI (h 120 19 + 1) + 1)) = h5 at hm2 ⊢
        obtain ⟨w1, w2, w3, w4, -⟩ := id hm2
        obtain ⟨-, -, a3, a4⟩ := nuS_ok t4 (p := p + 2) (by omega)
        refine XW_t4 [] 80 okMo_takesTest ?_
        refine c_takesNumber w1 (hT.fe w2) w3 (by omega) fun h6 hf6 hp6 hn6 => ?_
        have hm6 := hm2.fn hf6 hp6
        by_cases h3 : (nuS ch (p + 2)).1 = true
        · rw [if_pos h3] at hok
          have hok := hok rfl
          obtain ⟨b1, b2⟩ := a3 h3
          have hn6 := hn6 h3
          have hW6 := hm6.1
          refine ite_f (show ¬ bI (nuS ch (p + 2)).1 = 0 by rw [show bI (nuS ch (p + 2)).1 = 1 from if_pos h3]; decide) ?_
          have ex : wI (wI (wI (1000 * (ltS (ch p) : Int)) + wI (100 * wI (ch (p + 1) - 60))) + h6 120 20) = mS (0, ltS (ch p), (ch (p + 1) - 60).toNat, (nuS ch (p + 2)).2.2) := by
            show _ = ((1000 * ltS (ch p) + 100 * (ch (p + 1) - 60).toNat + (nuS ch (p + 2)).2.2 : Nat) : Int)
            rw [hn6, wI_id (z := ch (p + 1) - 60) (by omega), wI_id (z := 100 * (ch (p + 1) - 60)) (by omega), wI_id (z := 1000 * (ltS (ch p) : Int)) (by omega), wI_id (z := 1000 * (ltS (ch p) : Int) + 100 * (ch (p + 1) - 60)) (by omega), wI_id (by omega)]
            omega
          obtain ⟨h6', rfl⟩ := hW6
          refine c_Mput hm6 (by omega) ex fun h7 hm7 => ?_
          refine c_whole (by rw [List.length_append]; show W.length ≤ 100 ∧ 100 * f + v0 + (e.length + 1) + W.length ≤ 500; omega) hm7 fun h8 hm8 => ?_
          exact ⟨Or.inr rfl, hok h8 hm8⟩
        · rw [if_neg h3] at hno
          have h3f : (nuS ch (p + 2)).1 = false := by
            cases q : (nuS ch (p + 2)).1 with
            | true => exact absurd q h3
            | false => rfl
          refine ite_t (show bI (nuS ch (p + 2)).1 = 0 from if_neg h3) ?_
          refine ⟨Or.inl rfl, hno rfl h6 hm6.1 hm6.2.1 ?_⟩
          rw [hp6, a4 h3f]
      obtain ⟨h0, rfl⟩ := m1
      refine cof ocMo_takesTest rfl (XW_t4 [54] 60 okMo_takesTest ?_)
      refine c_Mnext hW2 hTh m3 fun r hr => ?_
      refine c_place hr ?_
      rw [if_neg h1]
      refine c_Mnext (h := uH (wr h0) 120 19 (wI (wr h0 120 19 + 1))) (p := p + 1) hm1.1 hT1 hm1.2.2.1 fun r2 hr2 => ?_
      have er : r2 = ch (p + 1) := by unfold nxr at hr2; omega
      subst er
      refine c_in (fun _ => ?_) (fun q3 => absurd h2 q3)
      exact k54
    · rw [if_neg h2] at hok hno
      have fin := hno rfl (uH h 120 19 (wI (h 120 19 + 1))) hm1.1 hm1.2.1 hm1.2.2.1
      obtain ⟨h0, rfl⟩ := m1
      refine cof ocMo_takesTest rfl (XW_t4 [] 60 okMo_takesTest ?_)
      refine c_Mnext hW2 hTh m3 fun r hr => ?_
      refine c_place hr ?_
      rw [if_neg h1]
      refine c_Mnext (h := uH (wr h0) 120 19 (wI (wr h0 120 19 + 1))) (p := p + 1) hm1.1 hT1 hm1.2.2.1 fun r2 hr2 => ?_
      refine c_in (fun q3 => absurd q3 (by unfold nxr at hr2; omega)) (fun _ => ?_)
      exact ⟨Or.inl rfl, fin⟩
end MR2
