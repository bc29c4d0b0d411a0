-- a whole row of cells written; fields that hold references
def rowU (h : HH) (q : Nat) (f : Nat → Int) : HH := fun a k => cond (Nat.beq a q) (f k) (h a k)
theorem rowU_at {h : HH} {q : Nat} {f : Nat → Int} {k : Nat} : rowU h q f q k = f k := by
  unfold rowU
  rw [Nat.beq_refl]
  rfl
theorem rowU_ne {h : HH} {q a : Nat} {f : Nat → Int} {k : Nat} (e : a ≠ q) : rowU h q f a k = h a k := by
  unfold rowU
  rw [nbf e]
  rfl
theorem rowU_of {h h' : HH} {q : Nat} (hq : ∀ a, a ≠ q → ∀ k, h' a k = h a k) : h' = rowU h q (h' q) := by
  funext a k
  by_cases e : a = q
  · rw [e, rowU_at]
  · rw [rowU_ne e, hq a e k]
theorem uH_row {h : HH} {q k : Nat} {z : Int} : uH h q k z = rowU h q (fun j => if j = k then z else h q j) := by
  funext a j
  by_cases e : a = q
  · rw [e, rowU_at, uH_r]
  · rw [rowU_ne e, uH_ne fun p => e p.1]
theorem row_row {h : HH} {q : Nat} {f f' : Nat → Int} : rowU (rowU h q f) q f' = rowU h q f' := by
  funext a j
  by_cases e : a = q
  · rw [e, rowU_at, rowU_at]
  · rw [rowU_ne e, rowU_ne e, rowU_ne e]
theorem rs_row {t : Nat → Nat → Bool} {h : HH} {q : Nat} {f : Nat → Int} (ht : ∀ k, t q k = false) : rs t (rowU h q f) = rs t h := by
  funext a k
  unfold rs
  by_cases e : a = q
  · rw [e, ht k]
    rfl
  · rw [rowU_ne e]
theorem Wd.row {h : HH} {q : Nat} {f : Nat → Int} (hW : Wd h) (hn : wl q = []) : Wd (rowU h q f) := by
  refine hW.of fun a k hk => rowU_ne fun e => ?_
  rw [e, hn] at hk
  exact hk (by show (-9 : Int) < 0; decide)
theorem at3_row {h : HH} {q k2 : Nat} {f : Nat → Int} (ht : q ≠ 120) : rowU h q f 120 k2 = h 120 k2 := rowU_ne (Ne.symm ht)
theorem SN.row {h : HH} {q : Nat} {f : Nat → Int} (hN : SN h) (ht : ∀ k, tN q k = false) : SN (rowU h q f) := by
  have e : ∀ h, N0 (rs tN h) = N0 h := fun _ => rfl
  show N0 (rowU h q f)
  rw [← e, rs_row ht, e]
  exact hN
theorem SI.row {h : HH} {q : Nat} {f : Nat → Int} (hI : SI h) (ht : ∀ k, tI q k = false) (h3 : q ≠ 120) : SI (rowU h q f) := by
  have e : ∀ h n m v, I0 (rs tI h) n m v = I0 h n m v := fun _ _ _ _ => rfl
  show I0 (rowU h q f) _ _ _
  rw [← e, rs_row ht, e, at3_row h3, at3_row h3, at3_row h3]
  exact hI
theorem SH.row {h : HH} {al : AL} {q : Nat} {f : Nat → Int} (hH : SH h al) (ht : ∀ k, tH q k = false) (h3 : q ≠ 120) : SH (rowU h q f) al := by
  show H0 (rs tH (rowU h q f)) al _
  rw [rs_row ht, at3_row h3]
  exact hH
theorem ST.row {h : HH} {q : Nat} {f : Nat → Int} (hN : ST h) (ht : ∀ k, tT q k = false) : ST (rowU h q f) := by
  have e : ∀ h, T0 (rs tT h) = T0 h := fun _ => rfl
  show T0 (rowU h q f)
  rw [← e, rs_row ht, e]
  exact hN
theorem SP.row {h : HH} {q : Nat} {f : Nat → Int} (hN : SP h) (ht : ∀ k, tP q k = false) : SP (rowU h q f) := by
  show P0 (rs tP (rowU h q f))
  rw [rs_row ht]
  exact hN
theorem SC.row {h : HH} {q : Nat} {f : Nat → Int} (hN : SC h) (ht : ∀ k, tC q k = false) : SC (rowU h q f) := by
  have e : ∀ h, C0 (rs tC h) = C0 h := fun _ => rfl
  show C0 (rowU h q f)
  rw [← e, rs_row ht, e]
  exact hN
theorem SKo.row {h : HH} {q : Nat} {f : Nat → Int} (hN : SKo h) (ht : ∀ k, tK q k = false) : SKo (rowU h q f) := by
  have e : ∀ h, K0 (rs tK h) = K0 h := fun _ => rfl
  show K0 (rowU h q f)
  rw [← e, rs_row ht, e]
  exact hN
theorem SV.row {h : HH} {al : AL} {q : Nat} {f : Nat → Int} (hV : SV h al) (ht : ∀ k, tV q k = false) (h3 : q ≠ 120) (h10 : q ≠ 10) (h1 : q ≠ 1) : SV (rowU h q f) al := by
  unfold SV
  rw [rs_row ht, at3_row h3, at3_row h3, rowU_ne (Ne.symm h10), rowU_ne (Ne.symm h1)]
  exact hV
/-- a row that no part looks at -/
def scr (q : Nat) : Bool := !(tN q 7 || tN q 0 || tI q 55 || tI q 4 || tH q 0 || tT q 1 || tT q 18 || tP q 0 || tC q 1 || tC q 69 || tK q 0 || tV q 0) && (wl q).isEmpty && !(Nat.beq q 0 || Nat.beq q 1 || Nat.beq q 10 || Nat.beq q 30 || Nat.beq q 40 || Nat.beq q 60 || Nat.beq q 120)
/-- a field that holds a reference, read -/
theorem XW_getR {g : GC} {d : Nat} {M : MD} {Q : KT} {pc : Nat} {L : LL} {r : SL} {h : HH} {al : AL} {ix l c b w n o : Nat} {z : Int} (hM : okM M = true) (hf : xfetch M pc = qf (.getfield ix) l c b 2 w n) (hk : kd o = c) (hv : h o b = z) (k : XW g d M Q (pc + 3) L (xr z :: r) h al) : XW g d M Q pc L (xr (Int.ofNat o) :: r) h al := by
  refine XW_step hM ?_
  unfold xstep
  rw [hf]
  show cond (Nat.beq (kd o) c) (XW g d M Q (pc + 3) L (xr (h o b) :: r) h al) False
  rw [hk, Nat.beq_refl, hv]
  exact k
section R1
variable {g : GC} {d : Nat} {h : HH} {al : AL} {K : KT}
theorem c_fillJ {q : Nat} {v : Int} (hq : kd q = 51) (hl : ln g q < 100000) (hK : ∀ f : Nat → Int, (∀ k, k < ln g q → f k = v) → (∀ k, ln g q ≤ k → f k = h q k) → K none (rowU h q f) al) : Call g (d + 1) yJ7_fill_d0a16 [xr (Int.ofNat q), xl v] h al K := by
  have loop : ∀ m k : Nat, k + m = ln g q → ∀ f : Nat → Int, (∀ j, j < k → f j = v) → (∀ j, k ≤ j → f j = h q j) → XW g d mJ7_fill_d0a16 K 6 [some (xr (Int.ofNat q)), some (xl v), none, some (xi (k : Int)), some (xi (ln g q : Int))] [] (rowU h q f) al := by
    intro m
    induction m with
    | zero =>
      intro k hk f f1 f2
      refine XW_to [6] 40 okJ7_fill_d0a16 ?_
      exact ite_f (by omega) (hK f (fun j hj => f1 j (by omega)) (fun j hj => f2 j (by omega)))
    | succ m ih =>
      intro k hk f f1 f2
      refine XW_to [6] 40 okJ7_fill_d0a16 ?_
      refine ite_t (by omega) ?_
      refine cond_i (by rw [hq]; rfl) ?_
      refine ⟨⟨by omega, by omega⟩, ?_⟩
      have := ih (k + 1) (by omega) (fun j => if j = k then v else f j) (fun j hj => by
        split
        · rfl
        · exact f1 j (by omega)) (fun j hj => by
        rw [if_neg (by omega)]
        exact f2 j (by omega))
      have e : uH (rowU h q f) q k v = rowU h q (fun j => if j = k then v else f j) := by
        rw [uH_row, row_row]
        congr 1
        funext j
        rw [rowU_at]
      rw [← e, ← nS k (by omega)] at this
      exact this
  refine cof ocJ7_fill_d0a16 rfl (XW_to [6] 40 okJ7_fill_d0a16 ?_)
  refine cond_i (by rw [hq]; rfl) ?_
  have := loop (ln g q) 0 (by omega) (h q) (fun j hj => absurd hj (by omega)) (fun j _ => rfl)
  rw [show rowU h q (h q) = h from (rowU_of fun a _ k => rfl).symm] at this
  exact this
theorem c_fillI {q : Nat} {v : Int} (hq : kd q = 50) (hl : ln g q < 100000) (hK : ∀ f : Nat → Int, (∀ k, k < ln g q → f k = v) → (∀ k, ln g q ≤ k → f k = h q k) → K none (rowU h q f) al) : Call g (d + 1) yJ7_fill_53178 [xr (Int.ofNat q), xi v] h al K := by
  have loop : ∀ m k : Nat, k + m = ln g q → ∀ f : Nat → Int, (∀ j, j < k → f j = v) → (∀ j, k ≤ j → f j = h q j) → XW g d mJ7_fill_53178 K 5 [some (xr (Int.ofNat q)), some (xi v), some (xi (k : Int)), some (xi (ln g q : Int))] [] (rowU h q f) al := by
    intro m
    induction m with
    | zero =>
      intro k hk f f1 f2
      refine XW_to [5] 40 okJ7_fill_53178 ?_
      exact ite_f (by omega) (hK f (fun j hj => f1 j (by omega)) (fun j hj => f2 j (by omega)))
    | succ m ih =>
      intro k hk f f1 f2
      refine XW_to [5] 40 okJ7_fill_53178 ?_
      refine ite_t (by omega) ?_
      refine cond_i (by rw [hq]; rfl) ?_
      refine ⟨⟨by omega, by omega⟩, ?_⟩
      have := ih (k + 1) (by omega) (fun j => if j = k then v else f j) (fun j hj => by
        split
        · rfl
        · exact f1 j (by omega)) (fun j hj => by
        rw [if_neg (by omega)]
        exact f2 j (by omega))
      have e : uH (rowU h q f) q k v = rowU h q (fun j => if j = k then v else f j) := by
        rw [uH_row, row_row]
        congr 1
        funext j
        rw [rowU_at]
      rw [← e, ← nS k (by omega)] at this
      exact this
  refine cof ocJ7_fill_53178 rfl (XW_to [5] 40 okJ7_fill_53178 ?_)
  refine cond_i (by rw [hq]; rfl) ?_
  have := loop (ln g q) 0 (by omega) (h q) (fun j hj => absurd hj (by omega)) (fun j _ => rfl)
  rw [show rowU h q (h q) = h from (rowU_of fun a _ k => rfl).symm] at this
  exact this
end R1
