-- worths are small; expect, keep
theorem mv_b {T : TB} {prev : Nat → Int} {l t : Nat} {B : Int} (hd : gdT T) (hp : ∀ t, -B ≤ prev t ∧ prev t ≤ B) (hB : 0 ≤ B ∧ B ≤ 1000000) : -(B + 990) ≤ mvS T prev l t ∧ mvS T prev l t ≤ B + 990 := by
  have h1 := hd 1 l t
  have h2 := hp (fal t (T 0 l t))
  unfold mvS
  rw [wI_id (by omega)]
  omega
theorem cd_b {T : TB} {prev : Nat → Int} {l s m : Nat} {B : Int} (hd : gdT T) (hp : ∀ t, -B ≤ prev t ∧ prev t ≤ B) (hB : 0 ≤ B ∧ B ≤ 1000000) (hm : m = 1 ∨ m = 2) : -(B + 2970) ≤ cdS T prev l s m ∧ cdS T prev l s m ≤ B + 2970 := by
  have h1 := mv_b (l := l) (t := s + m) hd hp hB
  have h2 := hd 2 l s
  unfold cdS
  rcases hm with rfl | rfl
  · rw [show (((1 : Nat) : Int)) * T 2 l s = T 2 l s from Int.one_mul _, wI_id (z := T 2 l s) (by omega), wI_id (by omega)]
    omega
  · rw [show (((2 : Nat) : Int)) * T 2 l s = 2 * T 2 l s from rfl, wI_id (z := 2 * T 2 l s) (by omega), wI_id (by omega)]
    omega
theorem pk_b {T : TB} {prev : Nat → Int} {l s : Nat} {B : Int} (hd : gdT T) (hp : ∀ t, -B ≤ prev t ∧ prev t ≤ B) (hB : 0 ≤ B ∧ B ≤ 1000000) : -(B + 2970) ≤ (pkS T prev l s).2 ∧ (pkS T prev l s).2 ≤ B + 2970 := by
  have h0 := mv_b (l := l) (t := s) hd hp hB
  have h1 := cd_b (l := l) (s := s) hd hp hB (Or.inl rfl)
  have h2 := cd_b (l := l) (s := s) hd hp hB (Or.inr rfl)
  unfold pkS
  split
  · exact h2
  · unfold pk1
    split
    · exact h1
    · show -(B + 2970) ≤ mvS T prev l s ∧ mvS T prev l s ≤ B + 2970
      omega
theorem bsf_b {T : TB} {e : Int} (hd : gdT T) (he : 0 ≤ e ∧ e ≤ 99) : ∀ (l s : Nat), l ≤ 100 → s < 10 → -(1000 + 2970 * (l : Int)) ≤ (bsf T e l s).2 ∧ (bsf T e l s).2 ≤ 1000 + 2970 * (l : Int) := by
  intro l
  induction l with
  | zero =>
    intro s _ hs
    show -(1000 + 2970 * ((0 : Nat) : Int)) ≤ wI (e * (s : Int)) ∧ wI (e * (s : Int)) ≤ 1000 + 2970 * ((0 : Nat) : Int)
    have h1 : e * (s : Int) ≤ 99 * 9 := Int.mul_le_mul he.2 (by omega) (by omega) (by decide)
    have h2 : 0 ≤ e * (s : Int) := Int.mul_nonneg he.1 (by omega)
    rw [wI_id (by omega)]
    omega
  | succ l ih =>
    intro s hl hs
    have hp : ∀ t, -(1000 + 2970 * (l : Int)) ≤ (fun t => if t < 10 then (bsf T e l t).2 else 0) t ∧ (fun t => if t < 10 then (bsf T e l t).2 else 0) t ≤ 1000 + 2970 * (l : Int) := fun t => by
      show -(1000 + 2970 * (l : Int)) ≤ (if t < 10 then (bsf T e l t).2 else 0) ∧ (if t < 10 then (bsf T e l t).2 else 0) ≤ 1000 + 2970 * (l : Int)
      by_cases q : t < 10
      · rw [if_pos q]
        exact ih t (by omega) q
      · rw [if_neg q]
        omega
    have key := pk_b (l := l + 1) (s := s) hd hp (by omega)
    -- where it is asked the row is the same
    have emv : ∀ t, t < 10 → mvS T (fun t => if t < 10 then (bsf T e l t).2 else 0) (l + 1) t = mvS T (fun t => (bsf T e l t).2) (l + 1) t := fun t ht => by
      unfold mvS
      have : fal t (T 0 (l + 1) t) < 10 := by unfold fal; omega
      show wI (_ + if fal t (T 0 (l + 1) t) < 10 then _ else _) = _
      rw [if_pos this]
    have e1 : pk1 T (fun t => if t < 10 then (bsf T e l t).2 else 0) (l + 1) s = pk1 T (fun t => (bsf T e l t).2) (l + 1) s := by
      unfold pk1 cdS
      by_cases q : s + 1 < 10
      · rw [emv s hs, emv (s + 1) q]
      · rw [if_neg (fun q2 => q q2.1), if_neg (fun q2 => q q2.1), emv s hs]
    have e2 : pkS T (fun t => if t < 10 then (bsf T e l t).2 else 0) (l + 1) s = pkS T (fun t => (bsf T e l t).2) (l + 1) s := by
      unfold pkS cdS
      rw [e1]
      by_cases q : s + 2 < 10
      · rw [emv (s + 2) q]
      · rw [if_neg (fun q2 => q q2.1), if_neg (fun q2 => q q2.1)]
    rw [e2] at key
    have e3 : bsf T e (l + 1) s = pkS T (fun t => (bsf T e l t).2) (l + 1) s := rfl
    rw [e3]
    omega
theorem gn_b {T : TB} {l s m : Nat} (hd : gdT T) (hm : m ≤ 2) : -2970 ≤ gnS T l s m ∧ gnS T l s m ≤ 2970 := by
  have h1 := hd 1 l (s + m)
  have h2 := hd 2 l s
  unfold gnS
  have : m = 0 ∨ m = 1 ∨ m = 2 := by omega
  rcases this with rfl | rfl | rfl
  · rw [show (((0 : Nat) : Int)) * T 2 l s = 0 from Int.zero_mul _, wI_id (z := 0) (by omega), wI_id (by omega)]
    omega
  · rw [show (((1 : Nat) : Int)) * T 2 l s = T 2 l s from Int.one_mul _, wI_id (z := T 2 l s) (by omega), wI_id (by omega)]
    omega
  · rw [show (((2 : Nat) : Int)) * T 2 l s = 2 * T 2 l s from rfl, wI_id (z := 2 * T 2 l s) (by omega), wI_id (by omega)]
    omega
theorem sgt_2 {k v : Int} {st : Nat → Int} {T : TB} {l s : Nat} {pu : Int} (hst : st l ≤ 2) : sgt k v st T l s pu ≤ 2 := by
  unfold sgt
  split
  · omega
  · split
    · split <;> omega
    · split <;> omega
theorem wlo_b {k v : Int} {st : Nat → Int} {T : TB} {pu : Int} (hd : gdT T) (hst : ∀ l, l < 10 → st l ≤ 2) : ∀ (l s : Nat) (sum : Int), l ≤ 9 → (-(30000 - 2970 * (l : Int)) ≤ sum ∧ sum ≤ 30000 - 2970 * (l : Int)) → -30000 ≤ wlo k v st T pu l s sum ∧ wlo k v st T pu l s sum ≤ 30000 := by
  intro l
  induction l with
  | zero =>
    intro s sum _ hs
    show -30000 ≤ sum ∧ sum ≤ 30000
    omega
  | succ l ih =>
    intro s sum hl hs
    have hg := gn_b (l := l + 1) (s := s) (m := sgt k v st T (l + 1) s (wI (pu + sum))) hd (sgt_2 (hst _ (by omega)))
    have e : wI (sum + gnS T (l + 1) s (sgt k v st T (l + 1) s (wI (pu + sum)))) = sum + gnS T (l + 1) s (sgt k v st T (l + 1) s (wI (pu + sum))) := wI_id (by omega)
    unfold wlo
    rw [e]
    exact ih _ _ (by omega) (by omega)
theorem wtS_b {k v : Int} {st : Nat → Int} {pay : Int} {T : TB} {l s : Nat} {pu : Int} (hd : gdT T) (hst : ∀ l, l < 10 → st l ≤ 2) (hp : 0 ≤ pay ∧ pay ≤ 99) (hv : 0 ≤ v ∧ v ≤ 9) (hl : l ≤ 9) (hs : s < 10) : -60000 ≤ wtS k v st pay T l s pu ∧ wtS k v st pay T l s pu ≤ 60000 := by
  unfold wtS
  split
  · have hy : yrs k v l ≤ 18 := by unfold yrs; split <;> omega
    have he : 0 ≤ epr k v pay ∧ epr k v pay ≤ 99 := by
      unfold epr
      by_cases q : k = 4
      · rw [if_pos q]
        exact hp
      · rw [if_neg q]
        split <;> omega
    have := bsf_b (e := epr k v pay) hd he (yrs k v l) s (by omega) hs
    omega
  · have := wlo_b (k := k) (v := v) (pu := pu) hd hst l s 0 hl (by omega)
    omega
theorem wsm_b {f : Nat → Int} : ∀ n, n ≤ 6 → (∀ j, j < n → -60000 ≤ f j ∧ f j ≤ 60000) → -(60000 * (n : Int)) ≤ wsm f n ∧ wsm f n ≤ 60000 * (n : Int) := by
  intro n
  induction n with
  | zero =>
    intro _ _
    show -(60000 * ((0 : Nat) : Int)) ≤ 0 ∧ 0 ≤ 60000 * ((0 : Nat) : Int)
    omega
  | succ n ih =>
    intro hn hf
    have h1 := ih (by omega) fun j hj => hf j (by omega)
    have h2 := hf n (by omega)
    unfold wsm
    rw [wI_id (by omega)]
    omega
section Q5
variable {g : GC} {d : Nat} {h : HH} {al : AL} {K : KT}
theorem c_commonDivisor : ∀ (b a n : Nat) (x3 : Option XV), n + b ≤ 100 → XW g d mBy_commonDivisor K 2 [some (xi (a : Int)), some (xi (b : Int)), some (xi (n : Int)), x3] [] h al ∨ ¬ K (some (xi (Nat.gcd b a : Int))) h al := by
  intro b
  induction b using Nat.strongRecOn with
  | _ b ih =>
    intro a n x3 hn
    by_cases hk : K (some (xi (Nat.gcd b a : Int))) h al
    · refine Or.inl ?_
      by_cases q : b = 0
      · subst q
        rw [Nat.gcd_zero_left] at hk
        refine XW_t4 [2] 40 okBy_commonDivisor ?_
        by_cases q2 : n < 100
        · refine ite_t (by omega) ?_
          exact hk
        · refine ite_f (by omega) ?_
          exact hk
      · rw [Nat.gcd_rec] at hk
        have := ih (a % b) (Nat.mod_lt _ (by omega)) b (n + 1) (some (xi ((a % b : Nat) : Int))) (by have := Nat.mod_lt a (show 0 < b by omega); omega)
        rcases this with t | t
        · rw [← nS n (by omega)] at t
          refine XW_t4 [2] 40 okBy_commonDivisor ?_
          refine ite_t (by omega) ?_
          refine ite_f (show ¬ (b : Int) = 0 by omega) ?_
          refine ⟨by omega, ?_⟩
          exact t
        · exact absurd hk t
    · exact Or.inr hk
theorem c_gcd {a b : Nat} (hb : b ≤ 90) (hK : K (some (xi (Nat.gcd b a : Int))) h al) : Call g (d + 1) yBy_commonDivisor [xi (a : Int), xi (b : Int)] h al K := by
  refine cof ocBy_commonDivisor rfl (XW_t4 [2] 40 okBy_commonDivisor ?_)
  rcases c_commonDivisor (g := g) (d := d) (h := h) (al := al) (K := K) b a 0 none (by omega) with t | t
  · exact t
  · exact absurd hK t
theorem cmpL_0 {z : Int} : cmpL z 0 = if 0 < z then 1 else if z = 0 then 0 else -1 := rfl
theorem c_divLoop : ∀ (b a : Nat) (x9 x10 : Option XV), a < 4294967296 → b < 4294967296 → (∀ z : Int, x9 ≠ some (xl z) ∨ True) → (K (some (xl (Nat.gcd b a : Int))) h al) → ∀ z1 z3 : Int, (x9 = none ∨ ∃ z, x9 = some (xl z)) → x10 = none → XW g d mMo_divisor K 17 [some (xr 120), some (xl z1), none, some (xl z3), none, some (xl (a : Int)), none, some (xl (b : Int)), none, x9, x10] [] h al := by
  intro b
  induction b using Nat.strongRecOn with
  | _ b ih =>
    intro a x9 x10 ha hb _ hk z1 z3 h9 h10
    subst h10
    have hc : cmpL (b : Int) 0 = if b = 0 then 0 else 1 := by
      rw [cmpL_0]
      split <;> split <;> first | rfl | omega
    by_cases q : b = 0
    · subst q
      rw [Nat.gcd_zero_left] at hk
      rcases h9 with rfl | ⟨z, rfl⟩
      · refine XW_t4 [17] 60 okMo_divisor ?_
        exact hk
      · refine XW_t4 [17] 60 okMo_divisor ?_
        exact hk
    · rw [Nat.gcd_rec] at hk
      have hm := Nat.mod_lt a (show 0 < b by omega)
      have t := ih (a % b) hm b (some (xl ((a % b : Nat) : Int))) none (by omega) (by omega) (fun _ => Or.inr trivial) hk z1 z3 (Or.inr ⟨_, rfl⟩) rfl
      rw [if_neg q] at hc
      rcases h9 with rfl | ⟨z, rfl⟩
      · refine XW_t4 [21] 60 okMo_divisor ?_
        show XW g d mMo_divisor K 21 [some (xr 120), some (xl z1), none, some (xl z3), none, some (xl (a : Int)), none, some (xl (b : Int)), none, none, none] [xi (cmpL (b : Int) 0)] h al
        rw [hc]
        refine XW_t4 [17] 60 okMo_divisor ?_
        exact ⟨by omega, t⟩
      · refine XW_t4 [21] 60 okMo_divisor ?_
        show XW g d mMo_divisor K 21 [some (xr 120), some (xl z1), none, some (xl z3), none, some (xl (a : Int)), none, some (xl (b : Int)), none, some (xl z), none] [xi (cmpL (b : Int) 0)] h al
        rw [hc]
        refine XW_t4 [17] 60 okMo_divisor ?_
        exact ⟨by omega, t⟩
theorem c_divisor {z : Int} {b : Nat} (hz : -1000000 ≤ z ∧ z ≤ 1000000) (hb : b ≤ 90) (hK : K (some (xl (Nat.gcd b z.natAbs : Int))) h al) : Call g (d + 1) yMo_divisor [xr 120, xl z, xl (b : Int)] h al K := by
  have go : XW g d mMo_divisor K 17 [some (xr 120), some (xl z), none, some (xl (b : Int)), none, some (xl (z.natAbs : Int)), none, some (xl (b : Int)), none, none, none] [] h al := c_divLoop b z.natAbs none none (by omega) (by omega) (fun _ => Or.inr trivial) hK z b (Or.inl rfl) rfl
  refine cof ocMo_divisor rfl (XW_t4 [3] 60 okMo_divisor ?_)
  show XW g d mMo_divisor K 3 [some (xr 120), some (xl z), none, some (xl (b : Int)), none, none, none, none, none, none, none] [xi (cmpL z 0)] h al
  rw [cmpL_0]
  by_cases q : 0 < z
  · rw [if_pos q]
    have e : z = (z.natAbs : Int) := by omega
    refine XW_t4 [17] 60 okMo_divisor ?_
    rw [← e] at go
    exact go
  · rw [if_neg q]
    by_cases q2 : z = 0
    · rw [if_pos q2]
      subst q2
      refine XW_t4 [17] 60 okMo_divisor ?_
      exact go
    · rw [if_neg q2]
      have e : wL (-z) = (z.natAbs : Int) := by unfold wL; omega
      refine XW_t4 [17] 60 okMo_divisor ?_
      rw [← e] at go
      exact go
end Q5
