-- what holds with k1 holds with k2
theorem setK_m : ∀ (L : LL) (i : Nat) (v : XV) {k1 k2 : LL → Prop}, (∀ L, k1 L → k2 L) → setK L i v k1 → setK L i v k2 := by
  intro L
  induction L with
  | nil => intro i v k1 k2 hm h; exact h.elim
  | cons a l ih =>
    intro i v k1 k2 hm h
    cases i with
    | zero => exact hm _ h
    | succ i =>
      refine ih i v (fun l' h' => ?_) h
      split at h'
      · exact hm _ h'
      · exact hm _ h'
theorem killK_m : ∀ (L : LL) (i : Nat) {k1 k2 : LL → Prop}, (∀ L, k1 L → k2 L) → setK2.killK L i k1 → setK2.killK L i k2 := by
  intro L
  induction L with
  | nil => intro i k1 k2 hm h; exact h.elim
  | cons a l ih =>
    intro i k1 k2 hm h
    cases i with
    | zero => exact hm _ h
    | succ i => exact ih i (fun l' h' => hm _ h') h
theorem popK_m : ∀ (n : Nat) (S acc : SL) {k1 k2 : SL → SL → Prop}, (∀ A r, k1 A r → k2 A r) → popK n S acc k1 → popK n S acc k2 := by
  intro n
  induction n with
  | zero => intro S acc k1 k2 hm h; exact hm _ _ h
  | succ n ih =>
    intro S acc k1 k2 hm h
    cases S with
    | nil => exact h.elim
    | cons v S => exact ih S _ hm h
theorem swt_m {x d0 : Int} {q1 q2 : Int → Prop} (hm : ∀ z, q1 z → q2 z) : ∀ (os : List Int) (k : Int), swtP x k d0 q1 os → swtP x k d0 q2 os := by
  intro os
  induction os with
  | nil => intro k h; exact hm _ h
  | cons o os ih =>
    intro k h
    unfold swtP at h ⊢
    split
    · rename_i e; rw [if_pos e] at h; exact hm _ h
    · rename_i e; rw [if_neg e] at h; exact ih _ h
theorem swl_m {x d0 : Int} {q1 q2 : Int → Prop} (hm : ∀ z, q1 z → q2 z) : ∀ (os : List (Int × Int)), swlP x d0 q1 os → swlP x d0 q2 os := by
  intro os
  induction os with
  | nil => intro h; exact hm _ h
  | cons o os ih =>
    intro h
    obtain ⟨k, o⟩ := o
    unfold swlP at h ⊢
    split
    · rename_i e; rw [if_pos e] at h; exact hm _ h
    · rename_i e; rw [if_neg e] at h; exact ih h
theorem ite_m {c : Prop} [Decidable c] {p q p2 q2 : Prop} (hp : p → p2) (hq : q → q2) (h : if c then p else q) : if c then p2 else q2 := by
  by_cases e : c
  · rw [if_pos e] at h ⊢; exact hp h
  · rw [if_neg e] at h ⊢; exact hq h
theorem condP_m {c : ClassFile.Cond} {x y : Int} {p q p2 q2 : Prop} (hp : p → p2) (hq : q → q2) (h : condP c x y p q) : condP c x y p2 q2 := by
  cases c with
  | eq => exact ite_m hp hq h
  | ne => exact ite_m hq hp h
  | lt => exact ite_m hp hq h
  | ge => exact ite_m hq hp h
  | gt => exact ite_m hp hq h
  | le => exact ite_m hq hp h
theorem cond_m {c : Bool} {p q : Prop} (hm : p → q) (h : cond c p False) : cond c q False := by
  cases c
  · exact h
  · exact hm h
theorem retP_m {t : Nat} {x : Int} {p q : Prop} (hm : p → q) (h : retP t x p) : retP t x q := by
  unfold retP at h ⊢
  split at h
  · exact hm h
  · exact ⟨h.1, hm h.2⟩
  · exact ⟨h.1, hm h.2⟩
  · exact ⟨h.1, hm h.2⟩
  · exact h.elim
theorem Call_m {g : GC} {d : Nat} {y : MethodName} {As : SL} {h : HH} {al : AL} {K1 K2 : Option XV → HH → AL → Prop} (hm : ∀ v h al, K1 v h al → K2 v h al) (hc : Call g d y As h al K1) : Call g d y As h al K2 := by
  obtain ⟨r, h', al', h1, h2⟩ := hc
  exact ⟨r, h', al', h1, hm _ _ _ h2⟩
theorem binP_m {S : SL} (f : Int → Int → Int) {k1 k2 : SL → Prop} (hm : ∀ S, k1 S → k2 S) (h : binP S f k1) : binP S f k2 := by
  unfold binP at h ⊢
  split at h
  · exact hm _ h
  · exact h.elim
theorem unP_m {S : SL} (f : Int → Int) {k1 k2 : SL → Prop} (hm : ∀ S, k1 S → k2 S) (h : unP S f k1) : unP S f k2 := by
  unfold unP at h ⊢
  split at h
  · exact hm _ h
  · exact h.elim
theorem binL_m {S : SL} (f : Int → Int → Int) {k1 k2 : SL → Prop} (hm : ∀ S, k1 S → k2 S) (h : binL S f k1) : binL S f k2 := by
  unfold binL at h ⊢
  split at h
  · exact hm _ h
  · exact h.elim
theorem ldI_m {L : LL} {i : Nat} {S : SL} {k1 k2 : SL → Prop} (hm : ∀ S, k1 S → k2 S) (h : ldI L i S k1) : ldI L i S k2 := by
  unfold ldI at h ⊢
  split at h
  · exact hm _ h
  · exact h.elim
theorem ldL_m {L : LL} {i : Nat} {S : SL} {k1 k2 : SL → Prop} (hm : ∀ S, k1 S → k2 S) (h : ldL L i S k1) : ldL L i S k2 := by
  unfold ldL at h ⊢
  split at h
  · exact hm _ h
  · exact h.elim
theorem ldR_m {L : LL} {i : Nat} {S : SL} {k1 k2 : SL → Prop} (hm : ∀ S, k1 S → k2 S) (h : ldR L i S k1) : ldR L i S k2 := by
  unfold ldR at h ⊢
  split at h
  · exact hm _ h
  · exact h.elim
theorem stI_m {L : LL} {i : Nat} {S : SL} {k1 k2 : LL → SL → Prop} (hm : ∀ L S, k1 L S → k2 L S) (h : stI L i S k1) : stI L i S k2 := by
  unfold stI at h ⊢
  split at h
  · exact setK_m _ _ _ (fun L h => hm L _ h) h
  · exact h.elim
theorem stR_m {L : LL} {i : Nat} {S : SL} {k1 k2 : LL → SL → Prop} (hm : ∀ L S, k1 L S → k2 L S) (h : stR L i S k1) : stR L i S k2 := by
  unfold stR at h ⊢
  split at h
  · exact setK_m _ _ _ (fun L h => hm L _ h) h
  · exact h.elim
theorem stL_m {L : LL} {i : Nat} {S : SL} {k1 k2 : LL → SL → Prop} (hm : ∀ L S, k1 L S → k2 L S) (h : stL L i S k1) : stL L i S k2 := by
  unfold stL at h ⊢
  split at h
  · exact setK_m _ _ _ (fun L h => setK_m _ _ _ (fun L h => killK_m _ _ (fun L h => hm L _ h) h) h) h
  · exact h.elim
set_option maxHeartbeats 4000000 in
theorem xstep_mono {g : GC} {d : Nat} {M : MD} {Q : Option XV → HH → AL → Prop} {k1 k2 : Nat → LL → SL → HH → AL → Prop} (m : ∀ (pc : Nat) (L : LL) (S : SL) (h : HH) (al : AL), k1 pc L S h al → k2 pc L S h al) {pc : Nat} {L : LL} {S : SL} {h : HH} {al : AL} (hk : xstep g (Call g d) M Q k1 pc L S h al) : xstep g (Call g d) M Q k2 pc L S h al := by
  unfold xstep at hk ⊢
  generalize xfetch M pc = q at hk ⊢
  obtain ⟨i, len, a, b, t, w, n, z, y⟩ := q
  cases i with
  | iconst v =>
    exact m _ _ _ _ _ hk
  | bipush v =>
    exact m _ _ _ _ _ hk
  | sipush v =>
    exact m _ _ _ _ _ hk
  | lconst v =>
    exact m _ _ _ _ _ hk
  | aconst_null =>
    exact m _ _ _ _ _ hk
  | ldc_w ix =>
    exact m _ _ _ _ _ hk
  | ldc2_w ix =>
    exact m _ _ _ _ _ hk
  | goto off =>
    exact m _ _ _ _ _ hk
  | getstatic ix =>
    exact m _ _ _ _ _ hk
  | ldc ix =>
    dsimp only at hk ⊢
    cases e : Nat.beq t 2 with
    | true => rw [e] at hk; exact m _ _ _ _ _ hk
    | false => rw [e] at hk; exact m _ _ _ _ _ hk
  | iload i =>
    exact ldI_m (fun S h => m _ _ _ _ _ h) hk
  | iload_n i =>
    exact ldI_m (fun S h => m _ _ _ _ _ h) hk
  | lload i =>
    exact ldL_m (fun S h => m _ _ _ _ _ h) hk
  | lload_n i =>
    exact ldL_m (fun S h => m _ _ _ _ _ h) hk
  | aload i =>
    exact ldR_m (fun S h => m _ _ _ _ _ h) hk
  | aload_n i =>
    exact ldR_m (fun S h => m _ _ _ _ _ h) hk
  | istore i =>
    exact stI_m (fun L S h => m _ _ _ _ _ h) hk
  | istore_n i =>
    exact stI_m (fun L S h => m _ _ _ _ _ h) hk
  | lstore i =>
    exact stL_m (fun L S h => m _ _ _ _ _ h) hk
  | lstore_n i =>
    exact stL_m (fun L S h => m _ _ _ _ _ h) hk
  | astore i =>
    exact stR_m (fun L S h => m _ _ _ _ _ h) hk
  | astore_n i =>
    exact stR_m (fun L S h => m _ _ _ _ _ h) hk
  | iinc i v =>
    dsimp only at hk ⊢
    split at hk
    · exact setK_m _ _ _ (fun L h => m _ _ _ _ _ h) hk
    · exact hk.elim
  | iadd =>
    exact binP_m _ (fun S h => m _ _ _ _ _ h) hk
  | isub =>
    exact binP_m _ (fun S h => m _ _ _ _ _ h) hk
  | imul =>
    exact binP_m _ (fun S h => m _ _ _ _ _ h) hk
  | iand =>
    exact binP_m _ (fun S h => m _ _ _ _ _ h) hk
  | ior =>
    exact binP_m _ (fun S h => m _ _ _ _ _ h) hk
  | ixor =>
    exact binP_m _ (fun S h => m _ _ _ _ _ h) hk
  | ishl =>
    exact binP_m _ (fun S h => m _ _ _ _ _ h) hk
  | ishr =>
    exact binP_m _ (fun S h => m _ _ _ _ _ h) hk
  | ineg =>
    exact unP_m _ (fun S h => m _ _ _ _ _ h) hk
  | i2b =>
    exact unP_m _ (fun S h => m _ _ _ _ _ h) hk
  | i2s =>
    exact unP_m _ (fun S h => m _ _ _ _ _ h) hk
  | i2c =>
    exact unP_m _ (fun S h => m _ _ _ _ _ h) hk
  | ladd =>
    exact binL_m _ (fun S h => m _ _ _ _ _ h) hk
  | land =>
    exact binL_m _ (fun S h => m _ _ _ _ _ h) hk
  | lor =>
    exact binL_m _ (fun S h => m _ _ _ _ _ h) hk
  | idiv =>
    dsimp only at hk
    split at hk
    · exact ⟨hk.1, m _ _ _ _ _ hk.2⟩
    · exact hk.elim
  | irem =>
    dsimp only at hk
    split at hk
    · exact ⟨hk.1, m _ _ _ _ _ hk.2⟩
    · exact hk.elim
  | ldiv =>
    dsimp only at hk
    split at hk
    · exact ⟨hk.1, m _ _ _ _ _ hk.2⟩
    · exact hk.elim
  | lrem =>
    dsimp only at hk
    split at hk
    · exact ⟨hk.1, m _ _ _ _ _ hk.2⟩
    · exact hk.elim
  | lneg =>
    dsimp only at hk
    split at hk
    · exact m _ _ _ _ _ hk
    · exact hk.elim
  | lshl =>
    dsimp only at hk
    split at hk
    · exact m _ _ _ _ _ hk
    · exact hk.elim
  | lcmp =>
    dsimp only at hk
    split at hk
    · exact m _ _ _ _ _ hk
    · exact hk.elim
  | i2l =>
    dsimp only at hk
    split at hk
    · exact m _ _ _ _ _ hk
    · exact hk.elim
  | l2i =>
    dsimp only at hk
    split at hk
    · exact m _ _ _ _ _ hk
    · exact hk.elim
  | dup2 =>
    dsimp only at hk
    split at hk
    · exact m _ _ _ _ _ hk
    · exact hk.elim
  | dup =>
    dsimp only at hk
    split at hk
    · exact m _ _ _ _ _ hk
    · exact m _ _ _ _ _ hk
    · exact hk.elim
  | pop =>
    dsimp only at hk
    split at hk
    · exact m _ _ _ _ _ hk
    · exact m _ _ _ _ _ hk
    · exact hk.elim
  | ifCond c off =>
    dsimp only at hk
    split at hk
    · exact condP_m (fun h => m _ _ _ _ _ h) (fun h => m _ _ _ _ _ h) hk
    · exact hk.elim
  | if_icmp c off =>
    dsimp only at hk
    split at hk
    · exact condP_m (fun h => m _ _ _ _ _ h) (fun h => m _ _ _ _ _ h) hk
    · exact hk.elim
  | if_acmp c off =>
    cases c with
    | eq => exact hk.elim
    | ne =>
      dsimp only at hk
      split at hk
      · refine cond_m (fun hk => ?_) hk
        split
        · rename_i e; rw [if_pos e] at hk; exact m _ _ _ _ _ hk
        · rename_i e; rw [if_neg e] at hk; exact m _ _ _ _ _ hk
      · exact hk.elim
  | ifnull off =>
    dsimp only at hk
    split at hk
    · dsimp only
      split
      · rename_i e; rw [if_pos e] at hk; exact m _ _ _ _ _ hk
      · rename_i e; rw [if_neg e] at hk; exact m _ _ _ _ _ hk
    · exact hk.elim
  | ifnonnull off =>
    dsimp only at hk
    split at hk
    · dsimp only
      split
      · rename_i e; rw [if_pos e] at hk; exact m _ _ _ _ _ hk
      · rename_i e; rw [if_neg e] at hk; exact m _ _ _ _ _ hk
    · exact hk.elim
  | tableswitch d0 lo hi os =>
    dsimp only at hk
    split at hk
    · exact swt_m (fun z h => m _ _ _ _ _ h) _ _ hk
    · exact hk.elim
  | lookupswitch d0 ps =>
    dsimp only at hk
    split at hk
    · exact swl_m (fun z h => m _ _ _ _ _ h) _ hk
    · exact hk.elim
  | getfield ix =>
    dsimp only at hk
    split at hk
    · exact cond_m (fun h => m _ _ _ _ _ h) hk
    · exact hk.elim
  | putfield ix =>
    dsimp only at hk
    split at hk
    · exact cond_m (fun h => retP_m (fun h => m _ _ _ _ _ h) h) hk
    · exact cond_m (fun h => m _ _ _ _ _ h) hk
    · exact hk.elim
  | arraylength =>
    dsimp only at hk
    split at hk
    · exact cond_m (fun h => m _ _ _ _ _ h) hk
    · exact hk.elim
  | iaload =>
    dsimp only [aldP] at hk ⊢
    split at hk
    · exact cond_m (fun h => ⟨h.1, m _ _ _ _ _ h.2⟩) hk
    · exact hk.elim
  | baload =>
    dsimp only [aldP] at hk ⊢
    split at hk
    · exact cond_m (fun h => ⟨h.1, m _ _ _ _ _ h.2⟩) hk
    · exact hk.elim
  | laload =>
    dsimp only [aldP] at hk ⊢
    split at hk
    · exact cond_m (fun h => ⟨h.1, m _ _ _ _ _ h.2⟩) hk
    · exact hk.elim
  | aaload =>
    dsimp only [aldRP] at hk ⊢
    split at hk
    · exact cond_m (fun h => ⟨h.1, m _ _ _ _ _ h.2⟩) hk
    · exact hk.elim
  | iastore =>
    dsimp only at hk
    split at hk
    · exact cond_m (fun h => ⟨h.1, m _ _ _ _ _ h.2⟩) hk
    · exact hk.elim
  | lastore =>
    dsimp only at hk
    split at hk
    · exact cond_m (fun h => ⟨h.1, m _ _ _ _ _ h.2⟩) hk
    · exact hk.elim
  | aastore =>
    dsimp only at hk
    split at hk
    · exact cond_m (fun h => ⟨h.1, m _ _ _ _ _ h.2⟩) hk
    · exact hk.elim
  | bastore =>
    dsimp only at hk
    split at hk
    · exact cond_m (fun h => ⟨h.1, h.2.1, m _ _ _ _ _ h.2.2⟩) hk
    · exact hk.elim
  | new ix =>
    obtain ⟨o, q1, q2, q3⟩ := hk
    exact ⟨o, q1, q2, m _ _ _ _ _ q3⟩
  | newarray at_ =>
    dsimp only at hk
    split at hk
    · obtain ⟨o, q1, q2, q3, q4⟩ := hk
      exact ⟨o, q1, q2, q3, m _ _ _ _ _ q4⟩
    · exact hk.elim
  | anewarray ix =>
    dsimp only at hk
    split at hk
    · obtain ⟨o, q1, q2, q3, q4⟩ := hk
      exact ⟨o, q1, q2, q3, m _ _ _ _ _ q4⟩
    · exact hk.elim
  | invokespecial ix =>
    dsimp only at hk ⊢
    cases e : Nat.beq n 7 with
    | true =>
      rw [e] at hk
      simp only [cond_true] at hk ⊢
      split at hk
      · exact cond_m (fun h => m _ _ _ _ _ h) hk
      · exact hk.elim
    | false =>
      rw [e] at hk
      exact popK_m _ _ _ (fun A r h => cond_m (fun h => Call_m (fun v h al q => m _ _ _ _ _ q) h) h) hk
  | invokevirtual ix =>
    exact popK_m _ _ _ (fun A r h => cond_m (fun h => Call_m (fun v h al q => m _ _ _ _ _ q) h) h) hk
  | invokestatic ix =>
    dsimp only at hk ⊢
    cases e : Nat.beq n 8 with
    | true =>
      rw [e] at hk
      simp only [cond_true] at hk ⊢
      split at hk
      · exact cond_m (fun h => ⟨h.1, m _ _ _ _ _ h.2⟩) hk
      · exact hk.elim
    | false =>
      rw [e] at hk
      exact popK_m _ _ _ (fun A r h => cond_m (fun h => Call_m (fun v h al q => m _ _ _ _ _ q) h) h) hk
  | ireturn =>
    exact hk
  | lreturn =>
    exact hk
  | areturn =>
    exact hk
  | return_ =>
    exact hk
  | _ => exact hk.elim
