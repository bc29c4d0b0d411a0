-- the step once more, for objects whose names are not written out: a reference that is read is named by the one who proves
def cl3 (c : Nat) : Bool := Nat.beq c 2 || Nat.beq c 3 || Nat.beq c 7
def xs3 (g : GC) (C : MethodName → SL → HH → AL → (Option XV → HH → AL → Prop) → Prop) (M : MD) (Q : Option XV → HH → AL → Prop) (k : Nat → LL → SL → HH → AL → Prop) (pc : Nat) (L : LL) (S : SL) (h : HH) (al : AL) : Prop :=
  match (xfetch M pc).1 with
  | .getfield _ => selP (Nat.beq (xfetch M pc).2.2.2.2.1 2 && cl3 (xfetch M pc).2.2.1)
    (match S with
      | .inr (.inr (.ofNat o)) :: r => cond (Nat.beq (kd o) (xfetch M pc).2.2.1) (∃ z, h o (xfetch M pc).2.2.2.1 = z ∧ k (pc + 3) L (xr z :: r) h al) False
      | _ => False)
    (selP (Nat.beq (xfetch M pc).2.2.2.2.1 0 && cl3 (xfetch M pc).2.2.1)
      (match S with
        | .inr (.inr (.ofNat o)) :: r => cond (Nat.beq (kd o) (xfetch M pc).2.2.1) (∃ z, h o (xfetch M pc).2.2.2.1 = z ∧ k (pc + 3) L (xi z :: r) h al) False
        | _ => False)
      (xs2 g C M Q k pc L S h al))
  | .putfield _ => selP (cl3 (xfetch M pc).2.2.1)
    (match S with
      | .inl x :: .inr (.inr (.ofNat o)) :: r => cond (Nat.beq (kd o) (xfetch M pc).2.2.1) (∃ b, (xfetch M pc).2.2.2.1 = b ∧ retP (xfetch M pc).2.2.2.2.1 x (k (pc + 3) L r (uH h o b x) al)) False
      | .inr (.inr x) :: .inr (.inr (.ofNat o)) :: r => cond (Nat.beq (kd o) (xfetch M pc).2.2.1 && Nat.beq (xfetch M pc).2.2.2.2.1 2) (∃ b, (xfetch M pc).2.2.2.1 = b ∧ k (pc + 3) L r (uH h o b x) al) False
      | _ => False)
    (xs2 g C M Q k pc L S h al)
  | _ => xs2 g C M Q k pc L S h al
theorem xs3_ok {g : GC} {C : MethodName → SL → HH → AL → (Option XV → HH → AL → Prop) → Prop} {M : MD} {Q : Option XV → HH → AL → Prop} {k : Nat → LL → SL → HH → AL → Prop} {pc : Nat} {L : LL} {S : SL} {h : HH} {al : AL} (hk : xs3 g C M Q k pc L S h al) : xstep g C M Q k pc L S h al := by
  unfold xs3 at hk
  split at hk
  · rename_i ix e
    cases e2 : (Nat.beq (xfetch M pc).2.2.2.2.1 2 && cl3 (xfetch M pc).2.2.1) with
    | true =>
      rw [e2] at hk
      rw [Bool.and_eq_true] at e2
      have e3 := Nat.eq_of_beq_eq_true e2.1
      clear e2
      unfold xstep
      revert e e3 hk
      generalize xfetch M pc = q
      obtain ⟨i, len, a, b, t, w, n, z, y⟩ := q
      intro e hk e3
      cases e
      cases e3
      simp only [selP] at hk
      simp only
      split at hk
      · refine cond_m (fun h2 => ?_) hk
        obtain ⟨z, e4, h5⟩ := h2
        rw [← e4] at h5
        exact h5
      · exact hk.elim
    | false =>
      rw [e2] at hk
      clear e2
      cases e2 : (Nat.beq (xfetch M pc).2.2.2.2.1 0 && cl3 (xfetch M pc).2.2.1) with
      | true =>
        rw [e2] at hk
        rw [Bool.and_eq_true] at e2
        have e3 := Nat.eq_of_beq_eq_true e2.1
        clear e2
        unfold xstep
        revert e e3 hk
        generalize xfetch M pc = q
        obtain ⟨i, len, a, b, t, w, n, z, y⟩ := q
        intro e hk e3
        cases e
        cases e3
        simp only [selP] at hk
        simp only
        split at hk
        · refine cond_m (fun h2 => ?_) hk
          obtain ⟨z, e4, h5⟩ := h2
          rw [← e4] at h5
          exact h5
        · exact hk.elim
      | false => rw [e2] at hk; exact xs2_ok hk
  · rename_i ix e
    cases e2 : cl3 (xfetch M pc).2.2.1 with
    | false => rw [e2] at hk; exact xs2_ok hk
    | true =>
      rw [e2] at hk
      clear e2
      unfold xstep
      revert e hk
      generalize xfetch M pc = q
      obtain ⟨i, len, a, b, t, w, n, z, y⟩ := q
      intro e hk
      cases e
      simp only [selP] at hk
      simp only
      split at hk
      · refine cond_m (fun h2 => ?_) hk
        obtain ⟨z, e4, h5⟩ := h2
        rw [← e4] at h5
        exact h5
      · refine cond_m (fun h2 => ?_) hk
        obtain ⟨z, e4, h5⟩ := h2
        rw [← e4] at h5
        exact h5
      · exact hk.elim
  · exact xs2_ok hk
def xrs3 (g : GC) (C : MethodName → SL → HH → AL → (Option XV → HH → AL → Prop) → Prop) (M : MD) (Q : Option XV → HH → AL → Prop) (k : Nat → LL → SL → HH → AL → Prop) (stops : List Nat) : Nat → Nat → LL → SL → HH → AL → Prop
  | 0 => k
  | n + 1 => xs3 g C M Q fun pc L S h al => selP (stops.any (Nat.beq pc)) (k pc L S h al) (xrs3 g C M Q k stops n pc L S h al)
theorem XW_t3 (stops : List Nat) (n : Nat) {g : GC} {d : Nat} {M : MD} {Q : Option XV → HH → AL → Prop} (hM : okM M = true) {pc : Nat} {L : LL} {S : SL} {h : HH} {al : AL} (hk : xrs3 g (Call g d) M Q (XW g d M Q) stops n pc L S h al) : XW g d M Q pc L S h al := by
  have mono : ∀ n (pc : Nat) (L : LL) (S : SL) (h : HH) (al : AL), xrs3 g (Call g d) M Q (XW g d M Q) stops n pc L S h al → XW g d M Q pc L S h al := by
    intro n
    induction n with
    | zero => intro pc L S h al hk; exact hk
    | succ n ih =>
      intro pc L S h al hk
      refine XW_step hM (xstep_mono (fun pc L S h al h2 => ?_) (xs3_ok hk))
      cases e : stops.any (Nat.beq pc) with
      | true => rw [e] at h2; exact h2
      | false => rw [e] at h2; exact ih _ _ _ _ _ h2
  exact mono n pc L S h al hk
