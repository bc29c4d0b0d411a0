-- what a VALLEY tells, what years bring: by themselves, without any machine
abbrev Sg : Type := Nat × Nat × Nat × Nat
abbrev Cl : Type := Nat × Nat × List Sg
def mS (t : Sg) : Int := match t.1 with
  | 0 => ((1000 * t.2.1 + 100 * t.2.2.1 + t.2.2.2 : Nat) : Int)
  | 1 => -33
  | 2 => -38
  | _ => -124
def cS (t : Sg) : Int := match t.1 with
  | 0 => ((300 * t.2.1 + 100 * t.2.2.1 + t.2.2.2 : Nat) : Int)
  | 1 => -1
  | 2 => -2
  | _ => -3
def gdS (t : Sg) : Prop := t.1 ≤ 3 ∧ t.2.1 ≤ 3 ∧ t.2.2.1 ≤ 2 ∧ t.2.2.2 ≤ 99
def relB (o : Nat) (x n : Int) : Bool := match o with
  | 0 => decide (x < n)
  | 1 => decide (x = n)
  | _ => decide (n < x)
def ltr (l : Nat) (s lf i p : Int) : Int := match l with
  | 0 => s
  | 1 => lf
  | 2 => i
  | _ => p
def upB (f : Nat → Bool) (k : Nat) (b : Bool) : Nat → Bool := fun j => if j = k then b else f j
def evS (s lf i p : Int) : List Sg → Nat → (Nat → Bool) → Bool
  | [], _, f => f 0
  | t :: ts, m, f => match t.1 with
    | 0 => evS s lf i p ts (m + 1) (upB f m (relB t.2.2.1 (ltr t.2.1 s lf i p) t.2.2.2))
    | 1 => evS s lf i p ts m (upB f (m - 1) (!f (m - 1)))
    | 2 => evS s lf i p ts (m - 1) (upB f (m - 2) (f (m - 2) && f (m - 1)))
    | _ => evS s lf i p ts (m - 1) (upB f (m - 2) (f (m - 2) || f (m - 1)))
def wfS : List Sg → Nat → Prop
  | [], m => m = 1
  | t :: ts, m => gdS t ∧ match t.1 with
    | 0 => m < 11 ∧ wfS ts (m + 1)
    | 1 => (1 ≤ m ∧ m ≤ 11) ∧ wfS ts m
    | _ => (2 ≤ m ∧ m ≤ 11) ∧ wfS ts (m - 1)
def hold (c : Cl) (s lf i p : Int) : Bool := evS s lf i p c.2.2 0 (fun _ => false)
def sumL : List Cl → Nat → Int → Int → Int → Int → Int
  | [], _, _, _, _, _ => 0
  | c :: r, w, s, lf, i, p => (if c.1 = w ∧ hold c s lf i p = true then (c.2.1 : Int) else 0) + sumL r w s lf i p
def lastL : List Cl → Nat → Int → Int
  | [], _, z => z
  | c :: r, w, z => lastL r w (if c.1 = w then (c.2.1 : Int) else z)
def gdC (c : Cl) : Prop := c.1 ≤ 4 ∧ c.2.1 ≤ 99 ∧ (c.1 < 3 → wfS c.2.2 0) ∧ (3 ≤ c.1 → c.2.2 = [])
def gdV (V : List Cl) : Prop := V.length ≤ 10 ∧ ∀ c ∈ V, gdC c
/-- what FALL, BRING, COST tell -/
def fl (V : List Cl) (w : Nat) (s lf i p : Int) : Int := if w = 0 then (if 9 < sumL V w s lf i p then 9 else sumL V w s lf i p) else sumL V w s lf i p
theorem sumL_b {V : List Cl} {w : Nat} {s lf i p : Int} (h : ∀ c ∈ V, gdC c) : 0 ≤ sumL V w s lf i p ∧ sumL V w s lf i p ≤ 99 * V.length := by
  induction V with
  | nil => exact ⟨Int.le_refl _, Int.le_refl _⟩
  | cons c r ih =>
    have h1 := ih fun c hc => h c (List.mem_cons_of_mem _ hc)
    have h2 := (h c (List.mem_cons_self ..)).2.1
    unfold sumL
    rw [List.length_cons]
    split <;> omega
theorem sumL_app {A B : List Cl} {w : Nat} {s lf i p : Int} : sumL (A ++ B) w s lf i p = sumL A w s lf i p + sumL B w s lf i p := by
  induction A with
  | nil => show sumL B w s lf i p = 0 + _; omega
  | cons c r ih =>
    show _ + sumL (r ++ B) w s lf i p = _ + sumL r w s lf i p + _
    rw [ih]; omega
theorem sumL_filter {V : List Cl} {w : Nat} {s lf i p : Int} (hw : w < 3) : sumL (V.filter fun c => decide (c.1 < 3)) w s lf i p = sumL V w s lf i p := by
  induction V with
  | nil => rfl
  | cons c r ih =>
    rw [List.filter_cons]
    split
    · show _ + sumL _ w s lf i p = _ + sumL r w s lf i p
      rw [ih]
    · rename_i h
      rw [decide_eq_true_iff] at h
      rw [ih]
      show _ = (if c.1 = w ∧ _ then (c.2.1 : Int) else 0) + sumL r w s lf i p
      rw [if_neg (by omega)]; omega
theorem fl_b {V : List Cl} {w : Nat} {s lf i p : Int} (h : gdV V) : 0 ≤ fl V w s lf i p ∧ fl V w s lf i p ≤ 990 ∧ (w = 0 → fl V w s lf i p ≤ 9) := by
  have := sumL_b (w := w) (s := s) (lf := lf) (i := i) (p := p) h.2
  have h2 := h.1
  unfold fl
  split
  · split <;> omega
  · exact ⟨by omega, by omega, fun e => absurd e (by assumption)⟩
theorem lastL_b {V : List Cl} {w : Nat} {z : Int} (h : ∀ c ∈ V, gdC c) (hz : 0 ≤ z ∧ z ≤ 99) : 0 ≤ lastL V w z ∧ lastL V w z ≤ 99 := by
  induction V generalizing z with
  | nil => exact hz
  | cons c r ih =>
    refine ih (fun c hc => h c (List.mem_cons_of_mem _ hc)) ?_
    have h2 := (h c (List.mem_cons_self ..)).2.1
    split <;> omega
-- tables: T w l s
abbrev TB : Type := Nat → Nat → Nat → Int
def gdT (T : TB) : Prop := ∀ w l s, 0 ≤ T w l s ∧ T w l s ≤ 990 ∧ T 0 l s ≤ 9
def tbl (V : List Cl) (i p : Int) : TB := fun w l s => fl V w s l i p
theorem tbl_ok {V : List Cl} {i p : Int} (h : gdV V) : gdT (tbl V i p) := fun _ _ _ => ⟨(fl_b h).1, (fl_b h).2.1, (fl_b h).2.2 rfl⟩
def fal (t : Nat) (F : Int) : Nat := t - F.toNat
def mvS (T : TB) (prev : Nat → Int) (l t : Nat) : Int := wI (T 1 l t + prev (fal t (T 0 l t)))
def cdS (T : TB) (prev : Nat → Int) (l s m : Nat) : Int := wI (mvS T prev l (s + m) - wI (m * T 2 l s))
def pk1 (T : TB) (prev : Nat → Int) (l s : Nat) : Nat × Int := if s + 1 < 10 ∧ mvS T prev l s < cdS T prev l s 1 then (1, cdS T prev l s 1) else (0, mvS T prev l s)
def pkS (T : TB) (prev : Nat → Int) (l s : Nat) : Nat × Int := if s + 2 < 10 ∧ (pk1 T prev l s).2 < cdS T prev l s 2 then (2, cdS T prev l s 2) else pk1 T prev l s
def bsf (T : TB) (e : Int) : Nat → Nat → Nat × Int
  | 0, s => (0, wI (e * s))
  | l + 1, s => pkS T (fun t => (bsf T e l t).2) (l + 1) s
theorem bsf_le {T : TB} {e : Int} {l s : Nat} (hs : s < 10) : s + (bsf T e l s).1 < 10 := by
  cases l with
  | zero => exact hs
  | succ l =>
    show s + (pkS T _ (l + 1) s).1 < 10
    unfold pkS
    split
    · rename_i h; exact h.1
    · unfold pk1
      split
      · rename_i h; exact h.1
      · exact hs
def gnS (T : TB) (l s m : Nat) : Int := wI (T 1 l (s + m) - wI (m * T 2 l s))
def bhS (T : TB) (l s m : Nat) : Nat := fal (s + m) (T 0 l (s + m))
abbrev rk (k : Int) : Prop := k = 1 ∨ k = 3 ∨ k = 4 ∨ k = 5
def epr (k v pay : Int) : Int := if k = 4 then pay else if k = 5 then v else 0
def yrs (k v : Int) (l : Nat) : Nat := if k = 3 then l + v.toNat else l
/-- what those MEND who do not look ahead -/
def sgt (k v : Int) (st : Nat → Int) (T : TB) (l s : Nat) (pu : Int) : Nat :=
  if k = 0 then 0 else if k = 6 ∧ 0 ≤ st l then (if (st l).toNat < 9 - s then (st l).toNat else 9 - s) else if (s : Int) < v ∧ T 2 l s ≤ pu then 1 else 0
def stS (k v : Int) (st : Nat → Int) (pay : Int) (T : TB) (l s : Nat) (pu : Int) : Nat :=
  if rk k then (bsf T (epr k v pay) (yrs k v l) s).1 else sgt k v st T l s pu
def wlo (k v : Int) (st : Nat → Int) (T : TB) (pu : Int) : Nat → Nat → Int → Int
  | 0, _, sum => sum
  | l + 1, s, sum => wlo k v st T pu l (bhS T (l + 1) s (sgt k v st T (l + 1) s (wI (pu + sum)))) (wI (sum + gnS T (l + 1) s (sgt k v st T (l + 1) s (wI (pu + sum)))))
def wtS (k v : Int) (st : Nat → Int) (pay : Int) (T : TB) (l s : Nat) (pu : Int) : Int :=
  if rk k then (bsf T (epr k v pay) (yrs k v l) s).2 else wlo k v st T pu l s 0
theorem sgt_le {k v : Int} {st : Nat → Int} {T : TB} {l s : Nat} {pu : Int} (hs : s < 10) (hv : v ≤ 9) : s + sgt k v st T l s pu < 10 := by
  unfold sgt
  split
  · exact hs
  · split
    · split <;> omega
    · split <;> omega
theorem stS_le {k v : Int} {st : Nat → Int} {pay : Int} {T : TB} {l s : Nat} {pu : Int} (hs : s < 10) (hv : v ≤ 9) : s + stS k v st pay T l s pu < 10 := by
  unfold stS
  split
  · exact bsf_le hs
  · exact sgt_le hs hv
theorem bhS_le {T : TB} {l s m : Nat} (hs : s + m < 10) : bhS T l s m < 10 := by
  unfold bhS fal
  omega
