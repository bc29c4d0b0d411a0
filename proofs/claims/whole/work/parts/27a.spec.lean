-- a text read: by itself, without any machine
abbrev PR : Type := Bool × Nat × List Sg
def lwS (ch : Nat → Int) : List Int → Nat → Bool × Nat
  | [], p => (true, p)
  | c :: cs, p => if ch p = c then lwS ch cs (p + 1) else (false, p)
def nuS (ch : Nat → Int) (p : Nat) : Bool × Nat × Nat :=
  if 48 ≤ ch p ∧ ch p ≤ 57 then (if 48 ≤ ch (p + 1) ∧ ch (p + 1) ≤ 57 then (true, p + 2, (10 * (ch p - 48) + (ch (p + 1) - 48)).toNat) else (true, p + 1, (ch p - 48).toNat)) else (false, p, 0)
def ltS (x : Int) : Nat := if x = 115 then 0 else if x = 108 then 1 else if x = 105 then 2 else if x = 112 then 3 else 4
def teS (ch : Nat → Int) (p : Nat) : PR :=
  if ltS (ch p) = 4 then (false, p, []) else if 60 ≤ ch (p + 1) ∧ ch (p + 1) ≤ 62 then (if (nuS ch (p + 2)).1 = true then (true, (nuS ch (p + 2)).2.1, [(0, ltS (ch p), (ch (p + 1) - 60).toNat, (nuS ch (p + 2)).2.2)]) else (false, p + 2, [])) else (false, p + 1, [])
def lpS (ch : Nat → Int) (f : Nat → PR) (c : Int) (op : Sg) : Nat → PR → PR
  | 0, r => r
  | n + 1, r => if ch r.2.1 = c then (if (f (r.2.1 + 1)).1 = true then lpS ch f c op n (true, (f (r.2.1 + 1)).2.1, r.2.2 ++ (f (r.2.1 + 1)).2.2 ++ [op]) else (false, (f (r.2.1 + 1)).2.1, [])) else r
def boS (ch : Nat → Int) (f : Nat → PR) (p : Nat) : PR := if (f p).1 = true then lpS ch f 38 (2, 0, 0, 0) 100 (true, (f p).2.1, (f p).2.2) else (false, (f p).2.1, [])
def eiS (ch : Nat → Int) (f : Nat → PR) (p : Nat) : PR := if (boS ch f p).1 = true then lpS ch (boS ch f) 124 (3, 0, 0, 0) 100 (true, (boS ch f p).2.1, (boS ch f p).2.2) else (false, (boS ch f p).2.1, [])
def sgS (ch : Nat → Int) : Nat → Nat → PR
  | 0 => fun p => if ch p = 33 ∨ ch p = 40 then (false, p, []) else teS ch p
  | k + 1 => fun p => if ch p = 40 then (if (eiS ch (sgS ch k) (p + 1)).1 = true then (if ch (eiS ch (sgS ch k) (p + 1)).2.1 = 41 then (true, (eiS ch (sgS ch k) (p + 1)).2.1 + 1, (eiS ch (sgS ch k) (p + 1)).2.2) else (false, (eiS ch (sgS ch k) (p + 1)).2.1, [])) else (false, (eiS ch (sgS ch k) (p + 1)).2.1, []))
    else if ch p = 33 then (if (sgS ch k (p + 1)).1 = true then (true, (sgS ch k (p + 1)).2.1, (sgS ch k (p + 1)).2.2 ++ [(1, 0, 0, 0)]) else (false, (sgS ch k (p + 1)).2.1, []))
    else teS ch p
def bgS (x : Int) : Nat := if x = 102 then 0 else if x = 98 then 1 else if x = 99 then 2 else if x = 112 then 3 else if x = 107 then 4 else 5
def wdS : Nat → List Int
  | 0 => [102, 97, 108, 108, 32]
  | 1 => [98, 114, 105, 110, 103, 32]
  | 2 => [99, 111, 115, 116, 32]
  | 3 => [112, 97, 121, 32]
  | _ => [107, 101, 101, 112, 32]
/-- behind word and number -/
def c2S (ch : Nat → Int) (w p n : Nat) : Bool × Nat × Cl :=
  if w < 3 then (if ch p = 32 then (if (eiS ch (sgS ch 4) (p + 1)).1 = true then (true, (eiS ch (sgS ch 4) (p + 1)).2.1, (w, n, (eiS ch (sgS ch 4) (p + 1)).2.2)) else (false, (eiS ch (sgS ch 4) (p + 1)).2.1, c00)) else (false, p, c00)) else (true, p, (w, n, []))
def clS (ch : Nat → Int) (p : Nat) : Bool × Nat × Cl :=
  if bgS (ch p) = 5 then (false, p, c00) else
  if (lwS ch (wdS (bgS (ch p))) p).1 = true then
    (if (nuS ch (lwS ch (wdS (bgS (ch p))) p).2).1 = true then c2S ch (bgS (ch p)) (nuS ch (lwS ch (wdS (bgS (ch p))) p).2).2.1 (nuS ch (lwS ch (wdS (bgS (ch p))) p).2).2.2
    else (false, (nuS ch (lwS ch (wdS (bgS (ch p))) p).2).2.1, c00))
  else (false, (lwS ch (wdS (bgS (ch p))) p).2, c00)
def txS (ch : Nat → Int) (N : Nat) : Nat → Nat → List Cl → Bool × Nat × List Cl
  | 0, p, V => (false, p, V)
  | m + 1, p, V => if (clS ch p).1 = true then (if N ≤ (clS ch p).2.1 then (true, (clS ch p).2.1, V ++ [(clS ch p).2.2]) else if m = 0 then (false, (clS ch p).2.1, V) else if ch (clS ch p).2.1 = 59 then txS ch N m ((clS ch p).2.1 + 1) (V ++ [(clS ch p).2.2]) else (false, (clS ch p).2.1, V)) else (false, (clS ch p).2.1, V)
-- how far, how many signs, how high
def wfr : List Sg → Nat → Nat → Prop
  | [], m, m' => m' = m
  | t :: ts, m, m' => gdS t ∧ match t.1 with
    | 0 => m < 11 ∧ wfr ts (m + 1) m'
    | 1 => (1 ≤ m ∧ m ≤ 11) ∧ wfr ts m m'
    | _ => (2 ≤ m ∧ m ≤ 11) ∧ wfr ts (m - 1) m'
theorem wfr_app {a b : List Sg} : ∀ {m x y : Nat}, wfr a m x → wfr b x y → wfr (a ++ b) m y := by
  induction a with
  | nil => intro m x y h1 h2; cases h1; exact h2
  | cons t a ih =>
    intro m x y h1 h2
    obtain ⟨t1, t2, t3, t4⟩ := t
    obtain ⟨g1, g2⟩ := h1
    refine ⟨g1, ?_⟩
    match t1, g2 with
    | 0, g2 => exact ⟨g2.1, ih g2.2 h2⟩
    | 1, g2 => exact ⟨g2.1, ih g2.2 h2⟩
    | _ + 2, g2 => exact ⟨g2.1, ih g2.2 h2⟩
theorem wfr_S {a : List Sg} : ∀ {m : Nat}, wfr a m 1 → wfS a m := by
  induction a with
  | nil => intro m h; exact Eq.symm h
  | cons t a ih =>
    intro m h
    obtain ⟨t1, t2, t3, t4⟩ := t
    obtain ⟨g1, g2⟩ := h
    refine ⟨g1, ?_⟩
    match t1, g2 with
    | 0, g2 => exact ⟨g2.1, ih g2.2⟩
    | 1, g2 => exact ⟨g2.1, ih g2.2⟩
    | _ + 2, g2 => exact ⟨g2.1, ih g2.2⟩
/-- a reader: it goes forward, not past the end, has no more signs than bytes; its signs are one value more -/
def gdF (N b : Nat) (f : Nat → PR) : Prop := ∀ p, p ≤ N → p ≤ (f p).2.1 ∧ (f p).2.1 ≤ N ∧ ((f p).1 = true → p + 1 ≤ (f p).2.1 ∧ p + (f p).2.2.length ≤ (f p).2.1 ∧ ∀ m, m + b ≤ 10 → wfr (f p).2.2 m (m + 1))
theorem gdF.up {N b b2 : Nat} {f : Nat → PR} (h : gdF N b f) (hb : b ≤ b2) : gdF N b2 f := fun p hp => by
  obtain ⟨h1, h2, h3⟩ := h p hp
  exact ⟨h1, h2, fun e => ⟨(h3 e).1, (h3 e).2.1, fun m hm => (h3 e).2.2 m (by omega)⟩⟩
section SPC
variable {ch : Nat → Int} {N : Nat}
theorem ch_lt (hch : ∀ p, N ≤ p → ch p = 0) {p : Nat} (h : ch p ≠ 0) : p < N := by
  rcases Nat.lt_or_ge p N with q | q
  · exact q
  · exact absurd (hch p q) h
theorem nuS_ok (hch : ∀ p, N ≤ p → ch p = 0) {p : Nat} (hp : p ≤ N) : p ≤ (nuS ch p).2.1 ∧ (nuS ch p).2.1 ≤ N ∧ ((nuS ch p).1 = true → p + 1 ≤ (nuS ch p).2.1 ∧ (nuS ch p).2.2 ≤ 99) ∧ ((nuS ch p).1 = false → (nuS ch p).2.1 = p) := by
  unfold nuS
  split
  · rename_i h1
    have l1 := ch_lt hch (p := p) (by omega)
    split
    · rename_i h2
      have l2 := ch_lt hch (p := p + 1) (by omega)
      refine ⟨by show p ≤ p + 2; omega, by show p + 2 ≤ N; omega, fun _ => ⟨by show p + 1 ≤ p + 2; omega, ?_⟩, fun e => by cases e⟩
      show (10 * (ch p - 48) + (ch (p + 1) - 48)).toNat ≤ 99
      omega
    · refine ⟨by show p ≤ p + 1; omega, by show p + 1 ≤ N; omega, fun _ => ⟨by show p + 1 ≤ p + 1; omega, ?_⟩, fun e => by cases e⟩
      show (ch p - 48).toNat ≤ 99
      omega
  · exact ⟨Nat.le_refl _, hp, fun e => (by cases e), fun _ => rfl⟩
theorem ltS_0 {x : Int} (h : ¬ ltS x = 4) : x ≠ 0 ∧ ltS x ≤ 3 := by
  unfold ltS at h ⊢
  split
  · exact ⟨by omega, by omega⟩
  · split
    · exact ⟨by omega, by omega⟩
    · split
      · exact ⟨by omega, by omega⟩
      · split
        · exact ⟨by omega, by omega⟩
        · rename_i a b c e
          rw [if_neg a, if_neg b, if_neg c, if_neg e] at h
          exact absurd rfl h
theorem teS_ok (hch : ∀ p, N ≤ p → ch p = 0) : gdF N 0 (teS ch) := by
  intro p hp
  unfold teS
  by_cases h1 : ltS (ch p) = 4
  · rw [if_pos h1]
    exact ⟨Nat.le_refl _, hp, fun e => by cases e⟩
  · rw [if_neg h1]
    obtain ⟨n1, n2⟩ := ltS_0 h1
    have l1 := ch_lt hch n1
    by_cases h2 : 60 ≤ ch (p + 1) ∧ ch (p + 1) ≤ 62
    · rw [if_pos h2]
      have l2 := ch_lt hch (p := p + 1) (by omega)
      obtain ⟨a1, a2, a3, -⟩ := nuS_ok hch (p := p + 2) (by omega)
      by_cases h3 : (nuS ch (p + 2)).1 = true
      · rw [if_pos h3]
        have a4 := a3 h3
        refine ⟨by show p ≤ (nuS ch (p + 2)).2.1; omega, a2, fun _ => ⟨by show p + 1 ≤ (nuS ch (p + 2)).2.1; omega, by show p + 1 ≤ (nuS ch (p + 2)).2.1; omega, fun m hm => ⟨⟨by show 0 ≤ 3; omega, n2, ?_, a4.2⟩, ⟨by omega, rfl⟩⟩⟩⟩
        show (ch (p + 1) - 60).toNat ≤ 2
        omega
      · rw [if_neg h3]
        exact ⟨by show p ≤ p + 2; omega, by show p + 2 ≤ N; omega, fun e => by cases e⟩
    · rw [if_neg h2]
      exact ⟨by show p ≤ p + 1; omega, by show p + 1 ≤ N; omega, fun e => by cases e⟩
/-- a loop over an operation that joins two -/
theorem lpS_ok (hch : ∀ p, N ≤ p → ch p = 0) {f : Nat → PR} {c : Int} {op : Sg} {b : Nat} (hc : c ≠ 0) (hf : gdF N b f) (ho : gdS op ∧ 2 ≤ op.1) : ∀ (n p0 : Nat) (r : PR), r.1 = true → p0 + 1 ≤ r.2.1 → r.2.1 ≤ N → p0 + r.2.2.length ≤ r.2.1 → (∀ m, m + (b + 1) ≤ 10 → wfr r.2.2 m (m + 1)) → N ≤ r.2.1 + n →
    p0 ≤ (lpS ch f c op n r).2.1 ∧ (lpS ch f c op n r).2.1 ≤ N ∧ ((lpS ch f c op n r).1 = true → (p0 + 1 ≤ (lpS ch f c op n r).2.1 ∧ p0 + (lpS ch f c op n r).2.2.length ≤ (lpS ch f c op n r).2.1 ∧ ∀ m, m + (b + 1) ≤ 10 → wfr (lpS ch f c op n r).2.2 m (m + 1)) ∧ ch (lpS ch f c op n r).2.1 ≠ c) := by
  intro n
  induction n with
  | zero =>
    intro p0 r h0 h1 h2 h3 h4 h5
    refine ⟨by show p0 ≤ r.2.1; omega, h2, fun _ => ⟨⟨h1, h3, h4⟩, ?_⟩⟩
    show ch r.2.1 ≠ c
    rw [hch _ (by omega)]
    exact fun e => hc e.symm
  | succ n ih =>
    intro p0 r h0 h1 h2 h3 h4 h5
    unfold lpS
    by_cases e1 : ch r.2.1 = c
    · rw [if_pos e1]
      have l1 := ch_lt hch (p := r.2.1) (by rw [e1]; exact hc)
      obtain ⟨f1, f2, f3⟩ := hf (r.2.1 + 1) (by omega)
      by_cases e2 : (f (r.2.1 + 1)).1 = true
      · rw [if_pos e2]
        obtain ⟨g1, g2, g3⟩ := f3 e2
        refine ih p0 _ rfl ?_ f2 ?_ (fun m hm => ?_) ?_
        · show p0 + 1 ≤ (f (r.2.1 + 1)).2.1
          omega
        · show p0 + (r.2.2 ++ (f (r.2.1 + 1)).2.2 ++ [op]).length ≤ (f (r.2.1 + 1)).2.1
          simp only [List.length_append, List.length_cons, List.length_nil]
          omega
        · refine wfr_app (wfr_app (h4 m hm) (g3 (m + 1) (by omega))) ⟨ho.1, ?_⟩
          obtain ⟨o1, o2⟩ := op
          obtain ⟨-, ho2⟩ := ho
          match o1, ho2 with
          | 0, ho2 => exact absurd ho2 (by show ¬ 2 ≤ 0; decide)
          | 1, ho2 => exact absurd ho2 (by show ¬ 2 ≤ 1; decide)
          | _ + 2, _ => exact ⟨⟨by omega, by omega⟩, by show m + 1 = m + 1 + 1 - 1; omega⟩
        · show N ≤ (f (r.2.1 + 1)).2.1 + n
          omega
      · rw [if_neg e2]
        exact ⟨by show p0 ≤ (f (r.2.1 + 1)).2.1; omega, f2, fun e => by cases e⟩
    · rw [if_neg e1]
      exact ⟨by omega, h2, fun _ => ⟨⟨h1, h3, h4⟩, e1⟩⟩
theorem boS_ok (hch : ∀ p, N ≤ p → ch p = 0) (hN : N ≤ 100) {f : Nat → PR} {b : Nat} (hf : gdF N b f) : gdF N (b + 1) (boS ch f) ∧ ∀ p, p ≤ N → (boS ch f p).1 = true → ch (boS ch f p).2.1 ≠ 38 := by
  have key : ∀ p, p ≤ N → p ≤ (boS ch f p).2.1 ∧ (boS ch f p).2.1 ≤ N ∧ ((boS ch f p).1 = true → (p + 1 ≤ (boS ch f p).2.1 ∧ p + (boS ch f p).2.2.length ≤ (boS ch f p).2.1 ∧ ∀ m, m + (b + 1) ≤ 10 → wfr (boS ch f p).2.2 m (m + 1)) ∧ ch (boS ch f p).2.1 ≠ 38) := by
    intro p hp
    obtain ⟨f1, f2, f3⟩ := hf p hp
    unfold boS
    by_cases e : (f p).1 = true
    · rw [if_pos e]
      obtain ⟨g1, g2, g3⟩ := f3 e
      exact lpS_ok hch (by decide) hf ⟨⟨by decide, by decide, by decide, by decide⟩, by decide⟩ 100 p _ rfl g1 f2 g2 (fun m hm => g3 m (by omega)) (by show N ≤ (f p).2.1 + 100; omega)
    · rw [if_neg e]
      exact ⟨f1, f2, fun e => by cases e⟩
  exact ⟨fun p hp => ⟨(key p hp).1, (key p hp).2.1, fun e => ((key p hp).2.2 e).1⟩, fun p hp e => ((key p hp).2.2 e).2⟩
/-- behind a reader of BOTHs a loop leaves neither sign -/
theorem lpS_38 {f : Nat → PR} {c : Int} {op : Sg} (hf : ∀ p, p ≤ N → (f p).1 = true → ch (f p).2.1 ≠ 38) (hch : ∀ p, N ≤ p → ch p = 0) (hc : c ≠ 0) : ∀ (n : Nat) (r : PR), ch r.2.1 ≠ 38 → (lpS ch f c op n r).1 = true → ch (lpS ch f c op n r).2.1 ≠ 38 := by
  intro n
  induction n with
  | zero => intro r h _; exact h
  | succ n ih =>
    intro r h
    unfold lpS
    by_cases e1 : ch r.2.1 = c
    · rw [if_pos e1]
      have l1 := ch_lt hch (p := r.2.1) (by rw [e1]; exact hc)
      by_cases e2 : (f (r.2.1 + 1)).1 = true
      · rw [if_pos e2]
        exact ih _ (hf _ (by omega) e2)
      · rw [if_neg e2]
        intro q
        cases q
    · rw [if_neg e1]
      exact fun _ => h
theorem eiS_ok (hch : ∀ p, N ≤ p → ch p = 0) (hN : N ≤ 100) {f : Nat → PR} {b : Nat} (hf : gdF N b f) : gdF N (b + 2) (eiS ch f) ∧ ∀ p, p ≤ N → (eiS ch f p).1 = true → ch (eiS ch f p).2.1 ≠ 124 ∧ ch (eiS ch f p).2.1 ≠ 38 := by
  obtain ⟨hb1, hb2⟩ := boS_ok hch hN hf
  have key : ∀ p, p ≤ N → p ≤ (eiS ch f p).2.1 ∧ (eiS ch f p).2.1 ≤ N ∧ ((eiS ch f p).1 = true → (p + 1 ≤ (eiS ch f p).2.1 ∧ p + (eiS ch f p).2.2.length ≤ (eiS ch f p).2.1 ∧ ∀ m, m + (b + 1 + 1) ≤ 10 → wfr (eiS ch f p).2.2 m (m + 1)) ∧ ch (eiS ch f p).2.1 ≠ 124) := by
    intro p hp
    obtain ⟨f1, f2, f3⟩ := hb1 p hp
    unfold eiS
    by_cases e : (boS ch f p).1 = true
    · rw [if_pos e]
      obtain ⟨g1, g2, g3⟩ := f3 e
      exact lpS_ok hch (by decide) hb1 ⟨⟨by decide, by decide, by decide, by decide⟩, by decide⟩ 100 p _ rfl g1 f2 g2 (fun m hm => g3 m (by omega)) (by show N ≤ (boS ch f p).2.1 + 100; omega)
    · rw [if_neg e]
      exact ⟨f1, f2, fun e => by cases e⟩
  refine ⟨fun p hp => ⟨(key p hp).1, (key p hp).2.1, fun e => ((key p hp).2.2 e).1⟩, fun p hp e => ⟨((key p hp).2.2 e).2, ?_⟩⟩
  revert e
  unfold eiS
  by_cases e : (boS ch f p).1 = true
  · rw [if_pos e]
    exact lpS_38 hb2 hch (by decide) 100 _ (hb2 p hp e)
  · rw [if_neg e]
    intro q
    cases q
theorem sgS_ok (hch : ∀ p, N ≤ p → ch p = 0) (hN : N ≤ 100) : ∀ k, gdF N (2 * k) (sgS ch k) := by
  intro k
  induction k with
  | zero =>
    intro p hp
    unfold sgS
    split
    · exact ⟨Nat.le_refl _, hp, fun e => by cases e⟩
    · exact teS_ok hch p hp
  | succ k ih =>
    intro p hp
    obtain ⟨he, -⟩ := eiS_ok hch hN ih
    unfold sgS
    by_cases h1 : ch p = 40
    · rw [if_pos h1]
      have l1 := ch_lt hch (p := p) (by omega)
      obtain ⟨f1, f2, f3⟩ := he (p + 1) (by omega)
      by_cases h2 : (eiS ch (sgS ch k) (p + 1)).1 = true
      · rw [if_pos h2]
        obtain ⟨g1, g2, g3⟩ := f3 h2
        by_cases h3 : ch (eiS ch (sgS ch k) (p + 1)).2.1 = 41
        · rw [if_pos h3]
          have l2 := ch_lt hch (p := (eiS ch (sgS ch k) (p + 1)).2.1) (by omega)
          refine ⟨by show p ≤ _ + 1; omega, by show _ + 1 ≤ N; omega, fun _ => ⟨by show p + 1 ≤ _ + 1; omega, ?_, fun m hm => g3 m (by omega)⟩⟩
          show p + (eiS ch (sgS ch k) (p + 1)).2.2.length ≤ (eiS ch (sgS ch k) (p + 1)).2.1 + 1
          omega
        · rw [if_neg h3]
          exact ⟨by show p ≤ (eiS ch (sgS ch k) (p + 1)).2.1; omega, f2, fun e => by cases e⟩
      · rw [if_neg h2]
        exact ⟨by show p ≤ (eiS ch (sgS ch k) (p + 1)).2.1; omega, f2, fun e => by cases e⟩
    · rw [if_neg h1]
      by_cases h2 : ch p = 33
      · rw [if_pos h2]
        have l1 := ch_lt hch (p := p) (by omega)
        obtain ⟨f1, f2, f3⟩ := ih (p + 1) (by omega)
        by_cases h3 : (sgS ch k (p + 1)).1 = true
        · rw [if_pos h3]
          obtain ⟨g1, g2, g3⟩ := f3 h3
          refine ⟨by show p ≤ (sgS ch k (p + 1)).2.1; omega, f2, fun _ => ⟨by show p + 1 ≤ (sgS ch k (p + 1)).2.1; omega, ?_, fun m hm => wfr_app (g3 m (by omega)) ⟨⟨by decide, by decide, by decide, by decide⟩, ⟨by omega, by omega⟩, rfl⟩⟩⟩
          show p + ((sgS ch k (p + 1)).2.2 ++ [(1, 0, 0, 0)]).length ≤ (sgS ch k (p + 1)).2.1
          simp only [List.length_append, List.length_cons, List.length_nil]
          omega
        · rw [if_neg h3]
          exact ⟨by show p ≤ (sgS ch k (p + 1)).2.1; omega, f2, fun e => by cases e⟩
      · rw [if_neg h2]
        exact (teS_ok hch).up (Nat.zero_le _) p hp
end SPC
