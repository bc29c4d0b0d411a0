-- the step again, so that what it leaves is written plainly
def selP (b : Bool) (p q : Prop) : Prop := match b with
  | true => p
  | false => q
def pickK (b : Nat) (k : Nat → Prop) : List Nat → Prop
  | [] => False
  | x :: l => selP (Nat.beq x b) (k x) (pickK b k l)
theorem pick_of {b : Nat} {k : Nat → Prop} : ∀ {l : List Nat}, pickK b k l → k b := by
  intro l
  induction l with
  | nil => intro h; exact h.elim
  | cons x l ih =>
    intro h
    unfold pickK at h
    cases e : Nat.beq x b with
    | true => rw [e] at h; rw [← Nat.eq_of_beq_eq_true e]; exact h
    | false => rw [e] at h; exact ih h
def pickI (z : Int) (k : Int → Prop) : List Int → Prop
  | [] => False
  | x :: l => selP (decide (x = z)) (k x) (pickI z k l)
theorem pickI_of {z : Int} {k : Int → Prop} : ∀ {l : List Int}, pickI z k l → k z := by
  intro l
  induction l with
  | nil => intro h; exact h.elim
  | cons x l ih =>
    intro h
    unfold pickI at h
    by_cases e : x = z
    · rw [decide_eq_true e] at h; rw [← e]; exact h
    · rw [decide_eq_false e] at h; exact ih h
def fl75 : List Nat := [0, 1, 2, 3, 4, 5, 6, 7, 8, 9, 10, 11, 12, 13, 14, 15, 16, 17, 18, 19, 20, 21, 22, 23, 24, 25, 26, 27, 28, 29, 30, 31, 32, 33, 34, 35, 36, 37, 38, 39, 40, 41, 42, 43, 44, 45, 46, 47, 48, 49, 50, 51, 52, 53, 54, 55, 56, 57, 58, 59, 60, 61, 62, 63, 64, 65, 66, 67, 68, 69, 70, 71, 72, 73, 74]
def cst5 : List Int := [-100001, -100002, -9223372036854775808, 4294967295]
def xs2 (g : GC) (C : MethodName → SL → HH → AL → (Option XV → HH → AL → Prop) → Prop) (M : MD) (Q : Option XV → HH → AL → Prop) (k : Nat → LL → SL → HH → AL → Prop) (pc : Nat) (L : LL) (S : SL) (h : HH) (al : AL) : Prop :=
  match (xfetch M pc).1 with
  | .getfield _ => match S with
    | .inr (.inr (.ofNat o)) :: r => cond (Nat.beq (kd o) (xfetch M pc).2.2.1) (pickK (xfetch M pc).2.2.2.1 (fun b => pickK (xfetch M pc).2.2.2.2.1 (fun t => k (pc + 3) L (rdv t (h o b) :: r) h al) [0, 2, 3, 1]) fl75) False
    | _ => False
  | .putfield _ => match S with
    | .inl x :: .inr (.inr (.ofNat o)) :: r => cond (Nat.beq (kd o) (xfetch M pc).2.2.1) (pickK (xfetch M pc).2.2.2.1 (fun b => retP (xfetch M pc).2.2.2.2.1 x (k (pc + 3) L r (uH h o b x) al)) fl75) False
    | .inr (.inr x) :: .inr (.inr (.ofNat o)) :: r => cond (Nat.beq (kd o) (xfetch M pc).2.2.1 && Nat.beq (xfetch M pc).2.2.2.2.1 2) (pickK (xfetch M pc).2.2.2.1 (fun b => k (pc + 3) L r (uH h o b x) al) fl75) False
    | _ => False
  | .iadd => match S with
    | .inl y :: .inl x :: r => k (pc + 1) L (xi (wI (x + y)) :: r) h al
    | _ => False
  | .isub => match S with
    | .inl y :: .inl x :: r => k (pc + 1) L (xi (wI (x - y)) :: r) h al
    | _ => False
  | .imul => match S with
    | .inl y :: .inl x :: r => k (pc + 1) L (xi (wI (x * y)) :: r) h al
    | _ => False
  | .ineg => match S with
    | .inl x :: r => k (pc + 1) L (xi (wI (-x)) :: r) h al
    | _ => False
  | .ladd => match S with
    | .inr (.inl y) :: .inr (.inl x) :: r => k (pc + 1) L (xl (wL (x + y)) :: r) h al
    | _ => False
  | .ldc_w _ => pickI (xfetch M pc).2.2.2.2.2.2.2.1 (fun z => k (pc + 3) L (xi z :: S) h al) cst5
  | .ldc2_w _ => pickI (xfetch M pc).2.2.2.2.2.2.2.1 (fun z => k (pc + 3) L (xl z :: S) h al) cst5
  | .ldc _ => cond (Nat.beq (xfetch M pc).2.2.2.2.1 2) (k (pc + 2) L (xr (xfetch M pc).2.2.1 :: S) h al) (pickI (xfetch M pc).2.2.2.2.2.2.2.1 (fun z => k (pc + 2) L (xi z :: S) h al) cst5)
  | _ => xstep g C M Q k pc L S h al
set_option maxHeartbeats 4000000 in
theorem xs2_ok {g : GC} {C : MethodName → SL → HH → AL → (Option XV → HH → AL → Prop) → Prop} {M : MD} {Q : Option XV → HH → AL → Prop} {k : Nat → LL → SL → HH → AL → Prop} {pc : Nat} {L : LL} {S : SL} {h : HH} {al : AL} (hk : xs2 g C M Q k pc L S h al) : xstep g C M Q k pc L S h al := by
  unfold xs2 at hk
  unfold xstep at hk ⊢
  generalize xfetch M pc = q at hk ⊢
  obtain ⟨i, len, a, b, t, w, n, z, y⟩ := q
  cases i with
  | getfield ix =>
    dsimp only at hk ⊢
    split at hk
    · exact cond_m (fun h => pick_of (pick_of h)) hk
    · exact hk.elim
  | putfield ix =>
    dsimp only at hk ⊢
    split at hk
    · exact cond_m (fun h => pick_of h) hk
    · exact cond_m (fun h => pick_of h) hk
    · exact hk.elim
  | iadd =>
    dsimp only [binP] at hk ⊢
    split at hk
    · exact hk
    · exact hk.elim
  | isub =>
    dsimp only [binP] at hk ⊢
    split at hk
    · exact hk
    · exact hk.elim
  | imul =>
    dsimp only [binP] at hk ⊢
    split at hk
    · exact hk
    · exact hk.elim
  | ineg =>
    dsimp only [unP] at hk ⊢
    split at hk
    · exact hk
    · exact hk.elim
  | ladd =>
    dsimp only [binL] at hk ⊢
    split at hk
    · exact hk
    · exact hk.elim
  | ldc_w ix => exact pickI_of hk
  | ldc2_w ix => exact pickI_of hk
  | ldc ix =>
    dsimp only at hk ⊢
    cases e : Nat.beq t 2 with
    | true => rw [e] at hk; exact hk
    | false => rw [e] at hk; exact pickI_of hk
  | _ => exact hk
-- many steps, up to given places
def xrs (g : GC) (C : MethodName → SL → HH → AL → (Option XV → HH → AL → Prop) → Prop) (M : MD) (Q : Option XV → HH → AL → Prop) (k : Nat → LL → SL → HH → AL → Prop) (stops : List Nat) : Nat → Nat → LL → SL → HH → AL → Prop
  | 0 => k
  | n + 1 => xs2 g C M Q fun pc L S h al => selP (stops.any (Nat.beq pc)) (k pc L S h al) (xrs g C M Q k stops n pc L S h al)
theorem XW_to (stops : List Nat) (n : Nat) {g : GC} {d : Nat} {M : MD} {Q : Option XV → HH → AL → Prop} (hM : okM M = true) {pc : Nat} {L : LL} {S : SL} {h : HH} {al : AL} (hk : xrs g (Call g d) M Q (XW g d M Q) stops n pc L S h al) : XW g d M Q pc L S h al := by
  have mono : ∀ n (pc : Nat) (L : LL) (S : SL) (h : HH) (al : AL), xrs g (Call g d) M Q (XW g d M Q) stops n pc L S h al → XW g d M Q pc L S h al := by
    intro n
    induction n with
    | zero => intro pc L S h al hk; exact hk
    | succ n ih =>
      intro pc L S h al hk
      refine XW_step hM (xstep_mono (fun pc L S h al h2 => ?_) (xs2_ok hk))
      cases e : stops.any (Nat.beq pc) with
      | true => rw [e] at h2; exact h2
      | false => rw [e] at h2; exact ih _ _ _ _ _ h2
  exact mono n pc L S h al hk
