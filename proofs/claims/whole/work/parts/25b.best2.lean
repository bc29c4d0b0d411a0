-- best: the class's search
section BS1
variable {g : GC} {d : Nat}
/-- what the class's search writes -/
def DF (h h2 : HH) : Prop := ∀ a j, ¬ (a = 50 ∧ (j = 5 ∨ j = 6)) → a ≠ 52 → a ≠ 53 → h2 a j = h a j
def DS (h : HH) (L : Nat) (s : SB) : Prop := h 50 5 = (if s.1 = true then 1 else 0) ∧ h 50 6 = s.2.1 ∧ (s.1 = true → ∀ i, i < L → h 53 i = (s.2.2 i : Int))
def DI (h : HH) (L B : Nat) (wt : Nat → Nat → Int) : Prop := h 50 3 = (L : Int) ∧ h 50 4 = (B : Int) ∧ ∀ i j, i < L → j < B → h 51 (6 * i + j) = wt i j
theorem DF.refl {h : HH} : DF h h := fun _ _ _ _ _ => rfl
theorem DF.trans {h h2 h3 : HH} (a : DF h h2) (b : DF h2 h3) : DF h h3 := fun q k e1 e2 e3 => (b q k e1 e2 e3).trans (a q k e1 e2 e3)
theorem DF.wd {h h2 : HH} (hf : DF h h2) (hW : Wd h) : Wd h2 := hW.of fun a k hk => hf a k (by rintro ⟨rfl, rfl | rfl⟩ <;> exact hk (by decide)) (by rintro rfl; exact hk (by show (-9 : Int) < 0; decide)) (by rintro rfl; exact hk (by show (-9 : Int) < 0; decide))
theorem DI.fr {h h2 : HH} {L B : Nat} {wt : Nat → Nat → Int} (hI : DI h L B wt) (hf : DF h h2) : DI h2 L B wt := ⟨(hf 50 3 (by omega) (by decide) (by decide)).trans hI.1, (hf 50 4 (by omega) (by decide) (by decide)).trans hI.2.1, fun i j hi hj => (hf 51 _ (by omega) (by decide) (by decide)).trans (hI.2.2 i j hi hj)⟩
theorem DF.t {h : HH} {k : Nat} {z : Int} : DF h (uH h 52 k z) := fun _ _ _ e _ => uH_ne fun q => e q.1
theorem DS.t {h : HH} {L k : Nat} {z : Int} {s : SB} (hs : DS h L s) : DS (uH h 52 k z) L s := ⟨(uH_ne (fun q => absurd q.1 (by decide))).trans hs.1, (uH_ne (fun q => absurd q.1 (by decide))).trans hs.2.1, fun e i hi => (uH_ne (fun q => absurd q.1 (by decide))).trans (hs.2.2 e i hi)⟩
theorem eix6 {k n : Nat} (hk : k < 6) (hn : n < 6) : wI (wI ((k : Int) * 6) + (n : Int)) = ((6 * k + n : Nat) : Int) := by
  rw [wI_id (z := (k : Int) * 6) (by omega), wI_id (by omega)]
  omega
theorem c_compare {s : SB} {tot : Int} {h : HH} {al : AL} {K : KT} (hW : Wd h) (s1 : h 50 5 = (if s.1 = true then 1 else 0)) (s2 : h 50 6 = s.2.1)
    (take : s.1 = false ∨ s.2.1 < tot → K none (cpyH (uH (uH h 50 5 1) 50 6 tot) 52 0 53 0 6) al) (stay : s.1 = true → ¬ s.2.1 < tot → K none h al) : Call g (d + 1) yDr_compare [xr 50, xi tot] h al K := by
  obtain ⟨h0, rfl⟩ := hW
  refine cof ocDr_compare rfl (XW_t4 [] 80 okDr_compare ?_)
  refine ite_i (fun q => ?_) (fun q => ?_)
  · have q : wr h0 50 5 = 0 := q
    refine ⟨Or.inr rfl, ⟨by decide, by decide, by decide, by show (0 : Int) + 6 ≤ 6; decide, by show (0 : Int) + 6 ≤ 6; decide⟩, ?_⟩
    refine take (Or.inl ?_)
    rw [s1] at q
    cases e : s.1 with
    | false => rfl
    | true => rw [if_pos e] at q; exact absurd q (by decide)
  · have q : ¬ wr h0 50 5 = 0 := q
    have q1 : s.1 = true := by
      cases e : s.1 with
      | true => rfl
      | false =>
        rw [s1, e] at q
        exact absurd rfl q
    refine ite_i (fun q2 => ?_) (fun q2 => ?_)
    · have q2 : wr h0 50 6 < tot := q2
      refine ⟨Or.inr rfl, ⟨by decide, by decide, by decide, by show (0 : Int) + 6 ≤ 6; decide, by show (0 : Int) + 6 ≤ 6; decide⟩, ?_⟩
      exact take (Or.inr (by rw [← s2]; exact q2))
    · have q2 : ¬ wr h0 50 6 < tot := q2
      exact stay q1 (by rw [← s2]; exact q2)
set_option maxRecDepth 8000 in
theorem c_from {wt : Nat → Nat → Int} {B L : Nat} (hB : B ≤ 6) (hL : L ≤ 6) : ∀ (m k p tk : Nat) (tot ki ti : Int) (h : HH) (al : AL) (K : KT), k + m = L → Wd h → DI h L B wt → DS h L (GB wt B L (p * B ^ m)) → dsB B k p → (∀ i, i < k → h 52 i = (dgB B k p i : Int)) → tk < 1024 → (∀ j, j < 10 → (tk.testBit j = true ↔ ∃ i, i < k ∧ dgB B k p i = j)) → tot = tsB wt (dgB B k p) k → ki = (k : Int) → ti = (tk : Int) →
    (∀ h2 : HH, DF h h2 → DS h2 L (GB wt B L ((p + 1) * B ^ m)) → (∀ i, i < k → h2 52 i = h 52 i) → K none h2 al) → Call g (d + m + 2) yDr_from [xr 50, xi ki, xi ti, xi tot] h al K := by
  intro m
  induction m with
  | zero =>
    intro k p tk tot ki ti h al K hk hW hI hs hd h52 htk hbit htot eki eti hK
    have ek : k = L := by omega
    subst ek eki eti
    rw [Nat.pow_zero, Nat.mul_one] at hs hK
    have e3 : h 50 3 = (k : Int) := hI.1
    obtain ⟨s1, s2, s3⟩ := hs
    have eG : GB wt B k (p + 1) = stB wt B k p (GB wt B k p) := rfl
    have take : (GB wt B k p).1 = false ∨ (GB wt B k p).2.1 < tot → K none (cpyH (uH (uH h 50 5 1) 50 6 tot) 52 0 53 0 6) al := by
      intro q
      have eG2 : GB wt B k (p + 1) = (true, tot, dgB B k p) := by
        rw [eG]
        unfold stB
        rw [if_pos ⟨hd, fun e => by
          rw [← htot]
          rcases q with q | q
          · rw [q] at e; cases e
          · exact q⟩, ← htot]
      refine hK _ (fun a j e1 e2 e5 => ?_) ?_ (fun i hi => ?_)
      · rw [cpy_if, if_neg (by omega), uH_ne (by omega), uH_ne (by omega)]
      · rw [eG2]
        refine ⟨?_, ?_, fun _ i hi => ?_⟩
        · rw [cpy_if, if_neg (by omega), uH_ne (by omega), uH_at]; rfl
        · rw [cpy_if, if_neg (by omega), uH_at]
        · rw [cpy_if, if_pos ⟨rfl, by omega, by omega⟩, uH_ne (by omega), uH_ne (by omega), Nat.zero_add, Nat.sub_zero]
          exact h52 i hi
      · rw [cpy_if, if_neg (by omega), uH_ne (by omega), uH_ne (by omega)]
    have stay : (GB wt B k p).1 = true → ¬ (GB wt B k p).2.1 < tot → K none h al := by
      intro q q2
      have eG2 : GB wt B k (p + 1) = GB wt B k p := by
        rw [eG]
        unfold stB
        rw [if_neg fun q3 => q2 (by rw [htot]; exact q3.2 q)]
      refine hK h DF.refl ?_ fun _ _ => rfl
      rw [eG2]
      exact ⟨s1, s2, s3⟩
    have hW2 : Wd h := hW
    obtain ⟨h0, rfl⟩ := hW
    refine cof ocDr_from rfl (XW_t4 [] 80 okDr_from ?_)
    refine ite_f (show ¬ (k : Int) < wr h0 50 3 by rw [e3]; omega) ?_
    exact c_compare hW2 s1 s2 take stay
  | succ m ih =>
    intro k p tk tot ki ti h al K hk hW hI hs hd h52 htk hbit htot eki eti hK
    subst eki eti
    have hk6 : k < 6 := by omega
    have loop : ∀ (r n : Nat) (h3 : HH), n + r = B → DF h h3 → DS h3 L (GB wt B L ((p * B + n) * B ^ m)) → (∀ i, i < k → h3 52 i = h 52 i) → XW g (d + (m + 1) + 1) mDr_from K 17 [some (xr 50), some (xi (k : Int)), some (xi (tk : Int)), some (xi tot), some (xi (n : Int))] [] h3 al := by
      intro r
      induction r with
      | zero =>
        intro n h3 hn hf hs3 h523
        have en : n = B := by omega
        subst en
        have e4 : h3 50 4 = (n : Int) := (hI.fr hf).2.1
        have done := hK h3 hf (by
          rw [show (p + 1) * n ^ (m + 1) = (p * n + n) * n ^ m by rw [Nat.pow_succ, Nat.mul_comm (n ^ m) n, ← Nat.mul_assoc, Nat.add_mul, Nat.one_mul]]
          exact hs3) h523
        obtain ⟨h3', rfl⟩ := hf.wd hW
        refine XW_t4 [17] 60 okDr_from ?_
        refine ite_f (show ¬ (n : Int) < wr h3' 50 4 by rw [e4]; omega) ?_
        exact done
      | succ r ih2 =>
        intro n h3 hn hf hs3 h523
        have hn6 : n < 6 := by omega
        have hnB : n < B := by omega
        obtain ⟨e3, e4, e51⟩ := hI.fr hf
        have hW3 := hf.wd hW
        have eb := bit_n (a := tk) (s := n) htk (by omega)
        have eL : k + 1 + m = L := by omega
        have nx := fun (h4 : HH) (hf4 : DF h h4) hs4 h524 => ih2 (n + 1) h4 (by omega) hf4 hs4 h524
        obtain ⟨h3', rfl⟩ := id hW3
        refine XW_t4 [17] 80 okDr_from ?_
        refine ite_t (show (n : Int) < wr h3' 50 4 by rw [e4]; omega) ?_
        by_cases hb : tk.testBit n = true
        · refine ite_f (show ¬ aI (shrI (tk : Int) (n : Int)) 1 = 0 by rw [eb, if_pos hb]; decide) ?_
          obtain ⟨i, hi, ei⟩ := (hbit n (by omega)).mp hb
          have sk := GB_skip (wt := wt) (m := m) (dsB_not hnB hi ei) (B ^ m) (Nat.le_refl _)
          rw [eL] at sk
          have t := nx (wr h3') hf (by
            rw [show (p * B + (n + 1)) * B ^ m = (p * B + n) * B ^ m + B ^ m by rw [← Nat.add_assoc, Nat.add_mul (p * B + n), Nat.one_mul], sk]
            exact hs3) h523
          rw [← nS n (by omega)] at t
          exact t
        · refine ite_t (show aI (shrI (tk : Int) (n : Int)) 1 = 0 by rw [eb, if_neg hb]) ?_
          have hno : ∀ i, i < k → dgB B k p i ≠ n := fun i hi e => hb ((hbit n (by omega)).mpr ⟨i, hi, e⟩)
          refine c_putE (o := 52) (j := k) rfl rfl (by show k < 6; exact hk6) ?_
          refine c_atE (o := 51) (j := 6 * k + n) rfl (eix6 hk6 hn6) (by show 6 * k + n < 36; omega) ((uH_ne (fun q => absurd q.1 (by decide))).trans (e51 k n (by omega) hnB)) ?_
          have h2n : (2 : Nat) ^ n < 1024 := Nat.lt_of_lt_of_le (Nat.pow_lt_pow_right (by decide) hn6) (by decide)
          refine ih (k + 1) (p * B + n) (tk ||| 2 ^ n) _ _ _ _ _ _ (by omega) (DF.t.wd hW3) (DI.fr ⟨e3, e4, e51⟩ DF.t) hs3.t (dsB_succ hnB hd hno) (fun i hi => ?_) (Nat.or_lt_two_pow (n := 10) htk h2n) (fun j hj => ?_) ?_ (nS k (by omega)) (by rw [shl_n (by omega), oI_n htk h2n]) fun h5 hf5 hs5 h525 => ?_
          · by_cases e : i = k
            · subst e
              rw [uH_at, dgB_end hnB]
            · rw [uH_ne (fun q => e q.2), dgB_pre1 hnB (by omega), h523 i (by omega)]
              exact h52 i (by omega)
          · rw [Nat.testBit_or, two_bit, Bool.or_eq_true, decide_eq_true_iff, hbit j hj]
            constructor
            · rintro (⟨i, hi, ei⟩ | e)
              · exact ⟨i, by omega, by rw [dgB_pre1 hnB hi]; exact ei⟩
              · exact ⟨k, by omega, by rw [dgB_end hnB]; exact e⟩
            · rintro ⟨i, hi, ei⟩
              by_cases e : i = k
              · subst e
                rw [dgB_end hnB] at ei
                exact Or.inr ei
              · rw [dgB_pre1 hnB (by omega)] at ei
                exact Or.inl ⟨i, by omega, ei⟩
          · show wI (tot + wt k n) = wI (tsB wt (dgB B (k + 1) (p * B + n)) k + wt k (dgB B (k + 1) (p * B + n) k))
            rw [dgB_end hnB, htot, tsB_cg (f := dgB B (k + 1) (p * B + n)) k fun i hi => dgB_pre1 hnB hi]
          · have t := nx h5 ((hf.trans DF.t).trans hf5) hs5 (fun i hi => by
              rw [h525 i (by omega), uH_ne (fun q => by omega)]
              exact h523 i hi)
            rw [← nS n (by omega)] at t
            exact t
    have t := loop B 0 h (by omega) DF.refl (by
      rw [Nat.add_zero, Nat.mul_assoc, Nat.mul_comm B, ← Nat.pow_succ]
      exact hs) (fun _ _ => rfl)
    have e3 : h 50 3 = (L : Int) := hI.1
    obtain ⟨h0, rfl⟩ := hW
    refine cof ocDr_from rfl (XW_t4 [17] 80 okDr_from ?_)
    refine ite_t (show (k : Int) < wr h0 50 3 by rw [e3]; omega) ?_
    exact t
theorem c_find {h : HH} {al : AL} {K : KT} {wt : Nat → Nat → Int} {B nP L : Nat} {pi hi : Int} (hB : B ≤ 6) (hP : nP ≤ 6) (eL : L = min nP B) (ep : pi = (nP : Int)) (eh : hi = (B : Int)) (hW : Wd h) (hw : ∀ i j, i < nP → j < B → h 51 (6 * i + j) = wt i j)
    (hK : ∀ h2 : HH, (∀ a j, ¬ (a = 50 ∧ 3 ≤ j) → a ≠ 52 → a ≠ 53 → h2 a j = h a j) → h2 50 3 = (L : Int) → DS h2 L (GB wt B L (B ^ L)) → K none h2 al) : Call g (d + 9) yDr_find [xr 50, xi pi, xi hi] h al K := by
  subst ep eh
  have hL : L ≤ 6 := by omega
  have fin : ∀ (K2 : KT) (h1 : HH), (∀ a j, ¬ (a = 50 ∧ 3 ≤ j) → h1 a j = h a j) → h1 50 3 = (L : Int) → h1 50 4 = (B : Int) → h1 50 5 = 0 → h1 50 6 = 0 → (∀ h2, K none h2 al → K2 none h2 al) → Call g (d + 8) yDr_from [xr 50, xi 0, xi 0, xi 0] h1 al K2 := by
    intro K2 h1 hf e3 e4 e5 e6 go
    have hW1 : Wd h1 := hW.of fun a k hk => hf a k (by
      rintro ⟨rfl, q⟩
      refine hk ?_
      rw [show wl 50 = [51, 52, 53] from rfl, List.getD_eq_getElem?_getD, List.getElem?_eq_none (show 3 ≤ k from q)]
      decide)
    have t := c_from (g := g) (d := d + (6 - L)) (wt := wt) hB hL L 0 0 0 0 0 0 h1 al K2 (by omega) hW1 ⟨e3, e4, fun i j hi hj => (hf 51 _ (by omega)).trans (hw i j (by omega) hj)⟩ (by
      rw [Nat.zero_mul]
      exact ⟨e5, e6, fun q => by cases q⟩) (fun j hj => absurd hj (Nat.not_lt_zero _)) (fun i hi => absurd hi (Nat.not_lt_zero _)) (by decide) (fun j hj => ⟨fun q => (by rw [Nat.zero_testBit] at q; cases q), fun ⟨i, hi, _⟩ => absurd hi (Nat.not_lt_zero _)⟩) rfl rfl rfl fun h2 hf2 hs2 _ => go h2 (hK h2 (fun a j q1 q2 q3 => (hf2 a j (by omega) q2 q3).trans (hf a j q1)) ((hf2 50 3 (by omega) (by decide) (by decide)).trans e3) (by
        rw [Nat.zero_add, Nat.one_mul] at hs2
        exact hs2))
    rw [show d + (6 - L) + L + 2 = d + 8 by omega] at t
    exact t
  obtain ⟨h0, rfl⟩ := id hW
  refine cof ocDr_find rfl (XW_t4 [] 80 okDr_find ?_)
  refine c_min ?_
  refine c_min ?_
  refine c_min ?_
  refine ⟨Or.inl rfl, ?_⟩
  refine fin _ (uH (uH (uH (uH (wr h0) 50 4 _) 50 3 _) 50 5 0) 50 6 0) (fun a j e => ?_) ?_ ?_ ?_ uH_at (fun h2 hk => hk)
  · rw [uH_ne (by omega), uH_ne (by omega), uH_ne (by omega), uH_ne (by omega)]
  · rw [uH_ne (by omega), uH_ne (by omega), uH_at, eL, uH_at]
    split <;> (try split) <;> (try split) <;> omega
  · rw [uH_ne (by omega), uH_ne (by omega), uH_ne (by omega), uH_at]
    split <;> omega
  · rw [uH_ne (by omega), uH_at]
end BS1
