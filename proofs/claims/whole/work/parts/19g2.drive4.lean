-- the step once more: places in arrays as natural numbers, what is read there named by the one who proves
def xs4 (g : GC) (C : MethodName → SL → HH → AL → (Option XV → HH → AL → Prop) → Prop) (M : MD) (Q : Option XV → HH → AL → Prop) (k : Nat → LL → SL → HH → AL → Prop) (pc : Nat) (L : LL) (S : SL) (h : HH) (al : AL) : Prop :=
  match (xfetch M pc).1 with
  | .iaload => match S with
    | .inl j :: .inr (.inr (.ofNat o)) :: r => cond (isA 0 o) (∃ j2 : Nat, j = (j2 : Int) ∧ j2 < ln g o ∧ ∃ z, h o j2 = z ∧ k (pc + 1) L (xi z :: r) h al) False
    | _ => False
  | .baload => match S with
    | .inl j :: .inr (.inr (.ofNat o)) :: r => cond (isA 2 o) (∃ j2 : Nat, j = (j2 : Int) ∧ j2 < ln g o ∧ ∃ z, h o j2 = z ∧ k (pc + 1) L (xi z :: r) h al) False
    | _ => False
  | .laload => match S with
    | .inl j :: .inr (.inr (.ofNat o)) :: r => cond (isA 1 o) (∃ j2 : Nat, j = (j2 : Int) ∧ j2 < ln g o ∧ ∃ z, h o j2 = z ∧ k (pc + 1) L (xl z :: r) h al) False
    | _ => False
  | .iastore => match S with
    | .inl x :: .inl j :: .inr (.inr (.ofNat o)) :: r => cond (Nat.beq (kd o) 50) (∃ j2 : Nat, j = (j2 : Int) ∧ j2 < ln g o ∧ k (pc + 1) L r (uH h o j2 x) al) False
    | _ => False
  | .bastore => match S with
    | .inl x :: .inl j :: .inr (.inr (.ofNat o)) :: r => cond (Nat.beq (kd o) 52) (∃ j2 : Nat, j = (j2 : Int) ∧ j2 < ln g o ∧ (x = 0 ∨ x = 1) ∧ k (pc + 1) L r (uH h o j2 x) al) False
    | _ => False
  | .lastore => match S with
    | .inr (.inl x) :: .inl j :: .inr (.inr (.ofNat o)) :: r => cond (Nat.beq (kd o) 51) (∃ j2 : Nat, j = (j2 : Int) ∧ j2 < ln g o ∧ k (pc + 1) L r (uH h o j2 x) al) False
    | _ => False
  | _ => xs3 g C M Q k pc L S h al
theorem xs4_ok {g : GC} {C : MethodName → SL → HH → AL → (Option XV → HH → AL → Prop) → Prop} {M : MD} {Q : Option XV → HH → AL → Prop} {k : Nat → LL → SL → HH → AL → Prop} {pc : Nat} {L : LL} {S : SL} {h : HH} {al : AL} (hk : xs4 g C M Q k pc L S h al) : xstep g C M Q k pc L S h al := by
  unfold xs4 at hk
  split at hk
  · rename_i e
    unfold xstep
    revert e hk
    generalize xfetch M pc = q
    obtain ⟨i, len, a, b, t, w, n, z, y⟩ := q
    intro e hk
    cases e
    simp only at hk ⊢
    unfold aldP
    split at hk
    · refine cond_m (fun h2 => ?_) hk
      obtain ⟨j2, rfl, e2, z, rfl, h5⟩ := h2
      exact ⟨⟨by omega, by omega⟩, h5⟩
    · exact hk.elim
  · rename_i e
    unfold xstep
    revert e hk
    generalize xfetch M pc = q
    obtain ⟨i, len, a, b, t, w, n, z, y⟩ := q
    intro e hk
    cases e
    simp only at hk ⊢
    unfold aldP
    split at hk
    · refine cond_m (fun h2 => ?_) hk
      obtain ⟨j2, rfl, e2, z, rfl, h5⟩ := h2
      exact ⟨⟨by omega, by omega⟩, h5⟩
    · exact hk.elim
  · rename_i e
    unfold xstep
    revert e hk
    generalize xfetch M pc = q
    obtain ⟨i, len, a, b, t, w, n, z, y⟩ := q
    intro e hk
    cases e
    simp only at hk ⊢
    unfold aldP
    split at hk
    · refine cond_m (fun h2 => ?_) hk
      obtain ⟨j2, rfl, e2, z, rfl, h5⟩ := h2
      exact ⟨⟨by omega, by omega⟩, h5⟩
    · exact hk.elim
  · rename_i e
    unfold xstep
    revert e hk
    generalize xfetch M pc = q
    obtain ⟨i, len, a, b, t, w, n, z, y⟩ := q
    intro e hk
    cases e
    simp only at hk ⊢
    split at hk
    · refine cond_m (fun h2 => ?_) hk
      obtain ⟨j2, rfl, e2, h5⟩ := h2
      exact ⟨⟨by omega, by omega⟩, h5⟩
    · exact hk.elim
  · rename_i e
    unfold xstep
    revert e hk
    generalize xfetch M pc = q
    obtain ⟨i, len, a, b, t, w, n, z, y⟩ := q
    intro e hk
    cases e
    simp only at hk ⊢
    split at hk
    · refine cond_m (fun h2 => ?_) hk
      obtain ⟨j2, rfl, e2, e3, h5⟩ := h2
      exact ⟨⟨by omega, by omega⟩, e3, h5⟩
    · exact hk.elim
  · rename_i e
    unfold xstep
    revert e hk
    generalize xfetch M pc = q
    obtain ⟨i, len, a, b, t, w, n, z, y⟩ := q
    intro e hk
    cases e
    simp only at hk ⊢
    split at hk
    · refine cond_m (fun h2 => ?_) hk
      obtain ⟨j2, rfl, e2, h5⟩ := h2
      exact ⟨⟨by omega, by omega⟩, h5⟩
    · exact hk.elim
  · exact xs3_ok hk
def xrs4 (g : GC) (C : MethodName → SL → HH → AL → (Option XV → HH → AL → Prop) → Prop) (M : MD) (Q : Option XV → HH → AL → Prop) (k : Nat → LL → SL → HH → AL → Prop) (stops : List Nat) : Nat → Nat → LL → SL → HH → AL → Prop
  | 0 => k
  | n + 1 => xs4 g C M Q fun pc L S h al => selP (stops.any (Nat.beq pc)) (k pc L S h al) (xrs4 g C M Q k stops n pc L S h al)
theorem XW_t4 (stops : List Nat) (n : Nat) {g : GC} {d : Nat} {M : MD} {Q : Option XV → HH → AL → Prop} (hM : okM M = true) {pc : Nat} {L : LL} {S : SL} {h : HH} {al : AL} (hk : xrs4 g (Call g d) M Q (XW g d M Q) stops n pc L S h al) : XW g d M Q pc L S h al := by
  have mono : ∀ n (pc : Nat) (L : LL) (S : SL) (h : HH) (al : AL), xrs4 g (Call g d) M Q (XW g d M Q) stops n pc L S h al → XW g d M Q pc L S h al := by
    intro n
    induction n with
    | zero => intro pc L S h al hk; exact hk
    | succ n ih =>
      intro pc L S h al hk
      refine XW_step hM (xstep_mono (fun pc L S h al h2 => ?_) (xs4_ok hk))
      cases e : stops.any (Nat.beq pc) with
      | true => rw [e] at h2; exact h2
      | false => rw [e] at h2; exact ih _ _ _ _ _ h2
  exact mono n pc L S h al hk
