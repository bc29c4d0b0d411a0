-- best: the lots in their order, by themselves
abbrev SB : Type := Bool × Int × (Nat → Nat)
def dgB (B L c i : Nat) : Nat := c / B ^ (L - 1 - i) % B
abbrev dsB (B L c : Nat) : Prop := ∀ j, j < L → ∀ i, i < j → dgB B L c i ≠ dgB B L c j
def tsB (wt : Nat → Nat → Int) (f : Nat → Nat) : Nat → Int
  | 0 => 0
  | i + 1 => wI (tsB wt f i + wt i (f i))
def stB (wt : Nat → Nat → Int) (B L c : Nat) (s : SB) : SB := if dsB B L c ∧ (s.1 = true → s.2.1 < tsB wt (dgB B L c) L) then (true, tsB wt (dgB B L c) L, dgB B L c) else s
def GB (wt : Nat → Nat → Int) (B L : Nat) : Nat → SB
  | 0 => (false, 0, fun _ => 0)
  | c + 1 => stB wt B L c (GB wt B L c)
theorem tsB_cg {wt : Nat → Nat → Int} {f f' : Nat → Nat} : ∀ n, (∀ i, i < n → f i = f' i) → tsB wt f n = tsB wt f' n := by
  intro n
  induction n with
  | zero => intro _; rfl
  | succ n ih =>
    intro h
    unfold tsB
    rw [ih fun i hi => h i (by omega), h n (by omega)]
theorem dgB_lt {B L c i : Nat} (hB : 0 < B) : dgB B L c i < B := Nat.mod_lt _ hB
theorem dgB_pre {B k m q n i : Nat} (hn : n < B ^ m) (hi : i < k) : dgB B (k + m) (q * B ^ m + n) i = dgB B k q i := by
  unfold dgB
  rw [show k + m - 1 - i = m + (k - 1 - i) by omega, Nat.pow_add, ← Nat.div_div_eq_div_mul, Nat.mul_comm q, Nat.mul_add_div (by omega), Nat.div_eq_of_lt hn, Nat.add_zero]
theorem dgB_pre1 {B k p h i : Nat} (hh : h < B) (hi : i < k) : dgB B (k + 1) (p * B + h) i = dgB B k p i := by
  have := dgB_pre (m := 1) (q := p) (n := h) (B := B) (by rw [Nat.pow_one]; exact hh) hi
  rw [Nat.pow_one] at this
  exact this
theorem dgB_end {B k p h : Nat} (hh : h < B) : dgB B (k + 1) (p * B + h) k = h := by
  unfold dgB
  rw [show k + 1 - 1 - k = 0 by omega, Nat.pow_zero, Nat.div_one, Nat.mul_comm, Nat.mul_add_mod, Nat.mod_eq_of_lt hh]
theorem dsB_pre {B k m q n : Nat} (hn : n < B ^ m) (h : dsB B (k + m) (q * B ^ m + n)) : dsB B k q := fun j hj i hi => by
  have := h j (by omega) i hi
  rw [dgB_pre hn hj, dgB_pre hn (by omega)] at this
  exact this
theorem dsB_succ {B k p h : Nat} (hh : h < B) (hd : dsB B k p) (hno : ∀ i, i < k → dgB B k p i ≠ h) : dsB B (k + 1) (p * B + h) := fun j hj i hi => by
  by_cases e : j = k
  · subst e
    rw [dgB_end hh, dgB_pre1 hh hi]
    exact hno i hi
  · rw [dgB_pre1 hh (show j < k by omega), dgB_pre1 hh (show i < k by omega)]
    exact hd j (by omega) i hi
theorem dsB_not {B k p h i : Nat} (hh : h < B) (hi : i < k) (e : dgB B k p i = h) : ¬ dsB B (k + 1) (p * B + h) := fun hd => by
  have := hd k (by omega) i hi
  rw [dgB_end hh, dgB_pre1 hh hi] at this
  exact this e
theorem GB_skip {wt : Nat → Nat → Int} {B k m q : Nat} (hno : ¬ dsB B k q) : ∀ n, n ≤ B ^ m → GB wt B (k + m) (q * B ^ m + n) = GB wt B (k + m) (q * B ^ m) := by
  intro n
  induction n with
  | zero => intro _; rfl
  | succ n ih =>
    intro hn
    show stB wt B (k + m) (q * B ^ m + n) (GB wt B (k + m) (q * B ^ m + n)) = _
    unfold stB
    rw [if_neg (fun h => hno (dsB_pre (by omega) h.1))]
    exact ih (by omega)
theorem stB_any {wt : Nat → Nat → Int} {B L c : Nat} {s : SB} (h : s.1 = true ∨ dsB B L c) : (stB wt B L c s).1 = true := by
  unfold stB
  split
  · rfl
  · rename_i hno
    cases e : s.1 with
    | true => rfl
    | false =>
      rcases h with q | q
      · rw [e] at q; exact q
      · exact absurd ⟨q, fun e2 => by rw [e] at e2; cases e2⟩ hno
theorem GB_any {wt : Nat → Nat → Int} {B L c0 : Nat} (hd : dsB B L c0) : ∀ c, c0 < c → (GB wt B L c).1 = true := by
  intro c
  induction c with
  | zero => intro h; omega
  | succ c ih =>
    intro h
    show (stB wt B L c (GB wt B L c)).1 = true
    by_cases e : c = c0
    · subst e
      exact stB_any (Or.inr hd)
    · exact stB_any (Or.inl (ih (by omega)))
def cidB (B : Nat) : Nat → Nat
  | 0 => 0
  | k + 1 => cidB B k * B + k
theorem cidB_ok {B : Nat} : ∀ k, k ≤ B → cidB B k < B ^ k ∧ dsB B k (cidB B k) ∧ ∀ i, i < k → dgB B k (cidB B k) i = i := by
  intro k
  induction k with
  | zero => exact fun _ => ⟨Nat.one_pos, fun j hj => absurd hj (Nat.not_lt_zero _), fun i hi => absurd hi (Nat.not_lt_zero _)⟩
  | succ k ih =>
    intro hk
    obtain ⟨a1, a2, a3⟩ := ih (by omega)
    refine ⟨?_, dsB_succ (by omega) a2 fun i hi => by rw [a3 i hi]; omega, fun i hi => ?_⟩
    · have h2 : (cidB B k + 1) * B ≤ B ^ k * B := Nat.mul_le_mul_right _ a1
      rw [Nat.add_mul, Nat.one_mul] at h2
      show cidB B k * B + k < B ^ (k + 1)
      rw [Nat.pow_succ]
      omega
    · by_cases e : i = k
      · rw [e]
        exact dgB_end (by omega)
      · show dgB B (k + 1) (cidB B k * B + k) i = i
        rw [dgB_pre1 (by omega) (by omega)]
        exact a3 i (by omega)
/-- at the end there is a best lot -/
theorem GB_done {wt : Nat → Nat → Int} {B L : Nat} (h : L ≤ B) : (GB wt B L (B ^ L)).1 = true := by
  obtain ⟨a1, a2, -⟩ := cidB_ok L h
  exact GB_any a2 _ a1
theorem pow6 {B i : Nat} (hB : B ≤ 6) (hi : i ≤ 6) : B ^ i ≤ 46656 := by
  have h1 : B ^ i ≤ 6 ^ i := Nat.pow_le_pow_left hB i
  have h2 : 6 ^ i ≤ 6 ^ 6 := Nat.pow_le_pow_right (by decide) hi
  have h3 : (6 : Nat) ^ 6 = 46656 := by decide
  omega
