-- sums over clauses, the last PAY: the reference
/-- the valley that holds, as the reference has it: its clauses from place q0 on -/
def MZ (h : HH) (V : List Cl) (q0 : Nat) : Prop := ((h 120 17 < 0 ∧ q0 = 0 ∧ V = []) ∨ ∃ f : Nat, f < 5 ∧ h 120 17 = (f : Int) ∧ q0 = 10 * f ∧ h 131 f = (V.length : Int)) ∧ gdV V ∧ ∀ j, j < V.length → MCl h (q0 + j) (V.getD j c00)
def tQ (a k : Nat) : Bool := inR 131 136 a || (Nat.beq a 120 && Nat.beq k 17)
theorem MZ.fr {h h' : HH} {V : List Cl} {q0 : Nat} (hQ : MZ h V q0) (hf : ∀ a k, tQ a k = true → h' a k = h a k) : MZ h' V q0 := by
  unfold MZ MCl at hQ ⊢
  have e1 : h' 120 17 = h 120 17 := hf 120 17 rfl
  have e2 : ∀ k, h' 131 k = h 131 k := fun k => hf 131 k rfl
  have e3 : ∀ k, h' 132 k = h 132 k := fun k => hf 132 k rfl
  have e4 : ∀ k, h' 133 k = h 133 k := fun k => hf 133 k rfl
  have e5 : ∀ k, h' 134 k = h 134 k := fun k => hf 134 k rfl
  have e6 : ∀ k, h' 135 k = h 135 k := fun k => hf 135 k rfl
  have e7 : ∀ k, h' 136 k = h 136 k := fun k => hf 136 k rfl
  simp only [e1, e2, e3, e4, e5, e6, e7]
  exact hQ
theorem MZ.row {h : HH} {V : List Cl} {q0 q : Nat} {W : Nat → Int} (hQ : MZ h V q0) (hq : inR 131 136 q = false) (h2 : q ≠ 120) : MZ (rowU h q W) V q0 := by
  refine hQ.fr fun a k ht => rowU_ne fun e => ?_
  subst e
  unfold tQ at ht
  rw [hq, nbf h2] at ht
  cases ht
theorem MZ.q {h : HH} {V : List Cl} {q0 : Nat} (hQ : MZ h V q0) : q0 + V.length ≤ 50 ∧ V.length ≤ 10 := by
  obtain ⟨h1, h2, -⟩ := hQ
  have := h2.1
  rcases h1 with ⟨-, rfl, rfl⟩ | ⟨f, hf, -, rfl, -⟩
  · exact ⟨by decide, by decide⟩
  · omega
section MS
variable {g : GC} {d : Nat} {h : HH} {al : AL} {K : KT}
theorem c_Mfirst {V : List Cl} {q0 : Nat} (hW : Wd h) (hQ : MZ h V q0) (hK : K (some (xi (q0 : Int))) h al) : Call g (d + 1) yMo_first [xr 120] h al K := by
  obtain ⟨h, rfl⟩ := hW
  refine cof ocMo_first rfl (XW_to [] 30 okMo_first ?_)
  rcases hQ.1 with ⟨h1, rfl, -⟩ | ⟨f, hf, h1, rfl, -⟩
  · exact ite_t (show wr h 120 17 < 0 from h1) hK
  · refine ite_f (show ¬ wr h 120 17 < 0 by omega) ?_
    have e : wI (10 * wr h 120 17) = ((10 * f : Nat) : Int) := by rw [h1, wI_id (by omega)]; omega
    rw [← e] at hK
    exact hK
theorem c_Mbehind {V : List Cl} {q0 : Nat} (hW : Wd h) (hQ : MZ h V q0) (hK : K (some (xi ((q0 + V.length : Nat) : Int))) h al) : Call g (d + 1) yMo_behind [xr 120] h al K := by
  obtain ⟨h, rfl⟩ := hW
  have hl := hQ.q
  refine cof ocMo_behind rfl (XW_to [] 30 okMo_behind ?_)
  rcases hQ.1 with ⟨h1, rfl, rfl⟩ | ⟨f, hf, h1, rfl, h2⟩
  · exact ite_t (show wr h 120 17 < 0 from h1) hK
  · refine ite_f (show ¬ wr h 120 17 < 0 by omega) ?_
    have el : ((ln g 131 : Nat) : Int) = 5 := rfl
    refine ⟨⟨show 0 ≤ wr h 120 17 by omega, show wr h 120 17 < ((ln g 131 : Nat) : Int) by rw [el]; omega⟩, ?_⟩
    have h2' : wr h 131 (wr h 120 17).toNat = (V.length : Int) := by rw [h1]; exact h2
    have e : wI (wI (10 * wr h 120 17) + wr h 131 (wr h 120 17).toNat) = ((10 * f + V.length : Nat) : Int) := by rw [h2', h1, wI_id (z := 10 * (f : Int)) (by omega), wI_id (by omega)]; omega
    rw [← e] at hK
    exact hK
theorem c_sumOf {V : List Cl} {q0 w : Nat} {s lf i p : Int} (hW : Wd h) (hQ : MZ h V q0) (hw : w < 3) (hK : ∀ W : Nat → Int, K (some (xi (fl V w s lf i p))) (rowU h 139 W) al) : Call g (d + 2) yMo_sumOf [xr 120, xi (w : Int), xi s, xi lf, xi i, xi p] h al K := by
  have hl := hQ.q
  have hW0 := hW
  obtain ⟨h, rfl⟩ := hW
  have loop : ∀ (R2 : List Cl) (c : Nat) (acc : Int) (W : Nat → Int), c + R2.length = q0 + V.length → (∀ j, j < R2.length → MCl (wr h) (c + j) (R2.getD j c00)) → (∀ x ∈ R2, gdC x) → (0 ≤ acc ∧ acc + 99 * R2.length ≤ 990) → acc + sumL R2 w s lf i p = sumL V w s lf i p →
      XW g (d + 1) mMo_sumOf K 9 [some (xr 120), some (xi (w : Int)), some (xi s), some (xi lf), some (xi i), some (xi p), some (xi acc), some (xi (c : Int))] [] (rowU (wr h) 139 W) al := by
    intro R2
    induction R2 with
    | nil =>
      intro c acc W hc _ _ hb hE
      have hW1 : Wd (rowU (wr h) 139 W) := hW0.row rfl
      rw [List.length_nil] at hc hb
      have hE2 : acc = sumL V w s lf i p := by rw [← hE]; show acc = acc + 0; omega
      refine XW_to [9] 40 okMo_sumOf ?_
      refine c_Mbehind hW1 (hQ.row rfl (by decide)) ?_
      refine ite_f (by omega) ?_
      have hK2 := hK W
      unfold fl at hK2
      rw [← hE2] at hK2
      refine ite_i (fun q => ?_) (fun q => ?_)
      · rw [if_pos (show w = 0 by omega)] at hK2
        refine c_Momin ?_
        exact hK2
      · rw [if_neg (show ¬ w = 0 by omega)] at hK2
        exact hK2
    | cons t ts ih =>
      intro c acc W hc hs hg hb hE
      have hW1 : Wd (rowU (wr h) 139 W) := hW0.row rfl
      have hlen : c + (ts.length + 1) = q0 + V.length := by rw [← hc, List.length_cons]
      rw [List.length_cons] at hb
      have ht : MCl (wr h) c t := hs 0 (by rw [List.length_cons]; omega)
      have hs2 : ∀ j, j < ts.length → MCl (wr h) (c + 1 + j) (ts.getD j c00) := by
        intro j hj
        have := hs (j + 1) (by rw [List.length_cons]; omega)
        rw [show c + 1 + j = c + (j + 1) by omega]
        exact this
      obtain ⟨t1, t2, t3⟩ := ht
      have hg1 := hg t (List.mem_cons_self ..)
      have hg2 : ∀ x ∈ ts, gdC x := fun x hx => hg x (List.mem_cons_of_mem _ hx)
      have hn := hg1.2.1
      refine XW_to [9] 60 okMo_sumOf ?_
      refine c_Mbehind hW1 (hQ.row rfl (by decide)) ?_
      refine ite_t (by omega) ?_
      refine ⟨⟨by omega, by show (c : Int) < 50; omega⟩, ?_⟩
      have hE2 : acc + ((if t.1 = w ∧ hold t s lf i p = true then (t.2.1 : Int) else 0) + sumL ts w s lf i p) = sumL V w s lf i p := hE
      have step : ∀ (x : Int) (W2 : Nat → Int), x = (if t.1 = w ∧ hold t s lf i p = true then (t.2.1 : Int) else 0) → XW g (d + 1) mMo_sumOf K 9 [some (xr 120), some (xi (w : Int)), some (xi s), some (xi lf), some (xi i), some (xi p), some (xi (wI (acc + x))), some (xi (wI ((c : Int) + 1)))] [] (rowU (wr h) 139 W2) al := by
        intro x W2 hx
        have hx2 : 0 ≤ x ∧ x ≤ 99 := by rw [hx]; split <;> omega
        rw [← hx] at hE2
        have := ih (c + 1) (acc + x) W2 (by omega) hs2 hg2 (by omega) (by omega)
        rw [← nS c (by omega), ← wI_id (z := acc + x) (by omega)] at this
        exact this
      refine ite_i (fun q => ?_) (fun q => ?_)
      · have q2 : wr h 132 c = (w : Int) := q
        have q3 : t.1 = w := by omega
        obtain ⟨a, a1, a2, a3, a4⟩ := t3 (by omega)
        refine c_Mholds hW1 (show c < 50 by omega) a2 a3 a1 a4 (hg1.2.2.1 (by omega)) fun W2 => ?_
        rw [row_row]
        cases e : evS s lf i p t.2.2 0 (fun _ => false) with
        | true =>
          refine ⟨⟨by omega, by show (c : Int) < 50; omega⟩, ?_⟩
          have := step (t.2.1 : Int) W2 (if_pos ⟨q3, e⟩).symm
          rw [← t2] at this
          exact this
        | false =>
          have := step 0 W2 (if_neg fun q => by
            have : hold t s lf i p = false := e
            rw [this] at q
            exact absurd q.2 (by decide)).symm
          exact this
      · have q2 : ¬ wr h 132 c = (w : Int) := q
        exact step 0 W (if_neg fun q => by omega).symm
  refine cof ocMo_sumOf rfl ?_
  refine XW_to [9] 60 okMo_sumOf ?_
  refine c_Mfirst hW0 hQ ?_
  have st := loop V q0 0 (wr h 139) rfl hQ.2.2 hQ.2.1.2 (by omega) (by omega)
  rw [rowU_self] at st
  exact st
theorem c_last {V : List Cl} {q0 w : Nat} (hW : Wd h) (hQ : MZ h V q0) (hK : K (some (xi (lastL V w 0))) h al) : Call g (d + 2) yMo_last [xr 120, xi (w : Int)] h al K := by
  have hl := hQ.q
  have hW0 := hW
  obtain ⟨h, rfl⟩ := hW
  have loop : ∀ (R2 : List Cl) (c : Nat) (acc : Int), c + R2.length = q0 + V.length → (∀ j, j < R2.length → MCl (wr h) (c + j) (R2.getD j c00)) → lastL R2 w acc = lastL V w 0 →
      XW g (d + 1) mMo_last K 7 [some (xr 120), some (xi (w : Int)), some (xi acc), some (xi (c : Int))] [] (wr h) al := by
    intro R2
    induction R2 with
    | nil =>
      intro c acc hc _ hE
      rw [List.length_nil] at hc
      refine XW_to [7] 40 okMo_last ?_
      refine c_Mbehind hW0 hQ ?_
      refine ite_f (by omega) ?_
      rw [← hE] at hK
      exact hK
    | cons t ts ih =>
      intro c acc hc hs hE
      have hlen : c + (ts.length + 1) = q0 + V.length := by rw [← hc, List.length_cons]
      have ht : MCl (wr h) c t := hs 0 (by rw [List.length_cons]; omega)
      have hs2 : ∀ j, j < ts.length → MCl (wr h) (c + 1 + j) (ts.getD j c00) := by
        intro j hj
        have := hs (j + 1) (by rw [List.length_cons]; omega)
        rw [show c + 1 + j = c + (j + 1) by omega]
        exact this
      obtain ⟨t1, t2, -⟩ := ht
      refine XW_to [7] 60 okMo_last ?_
      refine c_Mbehind hW0 hQ ?_
      refine ite_t (by omega) ?_
      refine ⟨⟨by omega, by show (c : Int) < 50; omega⟩, ?_⟩
      have step : ∀ (x : Int), x = (if t.1 = w then (t.2.1 : Int) else acc) → XW g (d + 1) mMo_last K 7 [some (xr 120), some (xi (w : Int)), some (xi x), some (xi (wI ((c : Int) + 1)))] [] (wr h) al := by
        intro x hx
        have := ih (c + 1) x (by omega) hs2 (by rw [← hE, hx]; rfl)
        rw [← nS c (by omega)] at this
        exact this
      refine ite_i (fun q => ?_) (fun q => ?_)
      · have q2 : wr h 132 c = (w : Int) := q
        refine ⟨⟨by omega, by show (c : Int) < 50; omega⟩, ?_⟩
        have := step (t.2.1 : Int) (if_pos (by omega)).symm
        rw [← t2] at this
        exact this
      · have q2 : ¬ wr h 132 c = (w : Int) := q
        exact step acc (if_neg (by omega)).symm
  refine cof ocMo_last rfl ?_
  refine XW_to [7] 60 okMo_last ?_
  refine c_Mfirst hW0 hQ ?_
  exact loop V q0 0 rfl hQ.2.2 rfl
end MS
