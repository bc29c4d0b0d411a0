-- one instruction of the abstract machine is one of the machine: stack, locals, jumps
theorem setK_len : ∀ (L : LL) (i : Nat) (v : XV) (k : LL → Prop), setK L i v k → ∃ L', k L' ∧ L'.length = L.length ∧ i < L.length ∧ ∀ j w, getL L' j = some w → (j = i ∧ w = v) ∨ (j ≠ i ∧ getL L j = some w ∧ ¬ (j + 1 = i ∧ ∃ z, w = xl z)) := by
  intro L
  induction L with
  | nil => intro i v k h; exact h.elim
  | cons a l ih =>
    intro i v k h
    cases i with
    | zero =>
      refine ⟨_, h, rfl, by simp, fun j w hj => ?_⟩
      cases j with
      | zero => exact Or.inl ⟨rfl, (Option.some.inj hj).symm⟩
      | succ j => exact Or.inr ⟨by omega, hj, fun q => by omega⟩
    | succ i =>
      obtain ⟨l', h1, h2, h3, h4⟩ := ih i v _ h
      have key : ∀ b : Option XV, (b = a ∨ b = none) → (i = 0 → ∀ z, b ≠ some (xl z)) → k (b :: l') → ∃ L', k L' ∧ L'.length = (a :: l).length ∧ i + 1 < (a :: l).length ∧ ∀ j w, getL L' j = some w → (j = i + 1 ∧ w = v) ∨ (j ≠ i + 1 ∧ getL (a :: l) j = some w ∧ ¬ (j + 1 = i + 1 ∧ ∃ z, w = xl z)) := by
        intro b hb hz hk
        refine ⟨_, hk, by simp [h2], by simp; omega, fun j w hj => ?_⟩
        cases j with
        | zero =>
          have hb2 : b = some w := hj
          rcases hb with hb | hb
          · refine Or.inr ⟨by omega, ?_, fun q => ?_⟩
            · show a = some w
              rw [← hb, hb2]
            · obtain ⟨q1, z, q2⟩ := q
              exact hz (by omega) z (by rw [hb2, q2])
          · rw [hb] at hb2; cases hb2
        | succ j =>
          rcases h4 j w hj with q | q
          · exact Or.inl ⟨by omega, q.2⟩
          · exact Or.inr ⟨by omega, q.2.1, fun r => q.2.2 ⟨by omega, r.2⟩⟩
      cases i with
      | zero =>
        cases a with
        | none => exact key none (Or.inl rfl) (fun _ z q => by cases q) h1
        | some x =>
          rcases x with x | x | x
          · exact key _ (Or.inl rfl) (fun _ z q => by cases q) h1
          · exact key none (Or.inr rfl) (fun _ z q => by cases q) h1
          · exact key _ (Or.inl rfl) (fun _ z q => by cases q) h1
      | succ i => exact key a (Or.inl rfl) (fun q => by omega) h1
theorem killK_len : ∀ (L : LL) (i : Nat) (k : LL → Prop), setK2.killK L i k → ∃ L', k L' ∧ L'.length = L.length ∧ i < L.length ∧ ∀ j w, getL L' j = some w → j ≠ i ∧ getL L j = some w := by
  intro L
  induction L with
  | nil => intro i k h; exact h.elim
  | cons a l ih =>
    intro i k h
    cases i with
    | zero =>
      refine ⟨_, h, rfl, by simp, fun j w hj => ?_⟩
      cases j with
      | zero => cases hj
      | succ j => exact ⟨by omega, hj⟩
    | succ i =>
      obtain ⟨l', h1, h2, h3, h4⟩ := ih i _ h
      refine ⟨_, h1, by simp [h2], by simp; omega, fun j w hj => ?_⟩
      cases j with
      | zero => exact ⟨by omega, hj⟩
      | succ j => exact ⟨by have := (h4 j w hj).1; omega, (h4 j w hj).2⟩
theorem lvO_in {ad : Nat → Nat} : ∀ (L : LL) (k i : Nat) (v : XV), getL L i = some v → (k + i, dv ad v) ∈ lvO ad k L := by
  intro L
  induction L with
  | nil => intro k i v h; cases h
  | cons a l ih =>
    intro k i v h
    cases i with
    | zero =>
      have ha : a = some v := h
      subst ha
      exact List.mem_cons_self
    | succ i =>
      have h2 := ih (k + 1) i v h
      rw [show k + 1 + i = k + (i + 1) by omega] at h2
      cases a with
      | none => exact h2
      | some x => exact List.mem_cons_of_mem _ h2
theorem lvO_of {ad : Nat → Nat} : ∀ (L : LL) (k : Nat) (q : Nat × Value), q ∈ lvO ad k L → ∃ i v, q = (k + i, dv ad v) ∧ getL L i = some v := by
  intro L
  induction L with
  | nil => intro k q h; cases h
  | cons a l ih =>
    intro k q h
    cases a with
    | none =>
      obtain ⟨i, v, h1, h2⟩ := ih (k + 1) q h
      exact ⟨i + 1, v, by rw [h1, show k + 1 + i = k + (i + 1) by omega], h2⟩
    | some x =>
      rcases List.mem_cons.mp h with h | h
      · exact ⟨0, x, h, rfl⟩
      · obtain ⟨i, v, h1, h2⟩ := ih (k + 1) q h
        exact ⟨i + 1, v, by rw [h1, show k + 1 + i = k + (i + 1) by omega], h2⟩
theorem dv_cat2 {ad : Nat → Nat} {w : XV} (h : (dv ad w).category = 2) : ∃ z, w = xl z := by
  rcases w with x | x | x
  · cases h
  · exact ⟨x, rfl⟩
  · exfalso
    unfold dv at h
    by_cases q : x < 0 <;> simp [q, Value.category] at h
theorem LH.get {ad : Nat → Nat} {ls : Array Slot} {nL : Nat} {L : LL} {i : Nat} {v : XV} (h : LH ad ls nL L) (hi : getL L i = some v) : ls[i]? = some (.val (dv ad v)) := by
  have h2 := h.2.2.2 _ (lvO_in (ad := ad) L 0 i v hi)
  rw [Nat.zero_add] at h2
  exact h2
theorem LH.set1 {ad : Nat → Nat} {ls' : Array Slot} {nL i : Nat} {L L' : LL} {v : XV} (hn : L.length ≤ nL) (hl : L'.length = L.length) (h : lv_has ls' nL ((i, dv ad v) :: (lvO ad 0 L).filter (fun q => !(q.1 == i) && !(q.1 + 1 == i && q.2.category == 2))))
    (hs : ∀ j w, getL L' j = some w → (j = i ∧ w = v) ∨ (j ≠ i ∧ getL L j = some w ∧ ¬ (j + 1 = i ∧ ∃ z, w = xl z))) : LH ad ls' nL L' := by
  refine ⟨by omega, h.1, h.2.1, fun q hq => ?_⟩
  obtain ⟨j, w, rfl, hw⟩ := lvO_of L' 0 q hq
  rw [Nat.zero_add]
  rcases hs j w hw with ⟨rfl, rfl⟩ | ⟨h1, h2, h3⟩
  · exact h.2.2 _ List.mem_cons_self
  · refine h.2.2 (j, dv ad w) (List.mem_cons_of_mem _ (List.mem_filter.mpr ⟨by have := lvO_in (ad := ad) L 0 j w h2; rwa [Nat.zero_add] at this, ?_⟩))
    simp only [Bool.and_eq_true, Bool.not_eq_true', beq_eq_false_iff_ne, ne_eq, Bool.and_eq_false_iff]
    refine ⟨h1, ?_⟩
    by_cases e : j + 1 = i
    · right
      intro q
      exact h3 ⟨e, dv_cat2 (ad := ad) q⟩
    · left
      exact e
theorem LH.set2 {ad : Nat → Nat} {ls' : Array Slot} {nL i : Nat} {L L' : LL} {v : XV} (hn : L.length ≤ nL) (hl : L'.length = L.length) (h : lv_has ls' nL ((i, dv ad v) :: (lvO ad 0 L).filter (fun q => !(q.1 == i) && (!(q.1 == i + 1) && !(q.1 + 1 == i && q.2.category == 2)))))
    (hs : ∀ j w, getL L' j = some w → j ≠ i + 1 ∧ ((j = i ∧ w = v) ∨ (j ≠ i ∧ getL L j = some w ∧ ¬ (j + 1 = i ∧ ∃ z, w = xl z)))) : LH ad ls' nL L' := by
  refine ⟨by omega, h.1, h.2.1, fun q hq => ?_⟩
  obtain ⟨j, w, rfl, hw⟩ := lvO_of L' 0 q hq
  rw [Nat.zero_add]
  obtain ⟨h0, h1⟩ := hs j w hw
  rcases h1 with ⟨rfl, rfl⟩ | ⟨h1, h2, h3⟩
  · exact h.2.2 _ List.mem_cons_self
  · refine h.2.2 (j, dv ad w) (List.mem_cons_of_mem _ (List.mem_filter.mpr ⟨by have := lvO_in (ad := ad) L 0 j w h2; rwa [Nat.zero_add] at this, ?_⟩))
    simp only [Bool.and_eq_true, Bool.not_eq_true', beq_eq_false_iff_ne, ne_eq, Bool.and_eq_false_iff]
    refine ⟨h1, h0, ?_⟩
    by_cases e : j + 1 = i
    · right
      intro q
      exact h3 ⟨e, dv_cat2 (ad := ad) q⟩
    · left
      exact e
theorem okS.tl {al : AL} {v : XV} {S : SL} (h : okS al (v :: S)) : okS al S := fun w hw => h w (List.mem_cons_of_mem _ hw)
theorem okS.hd {al : AL} {v : XV} {S : SL} (h : okS al (v :: S)) : okV al v := h v List.mem_cons_self
theorem okS.cons {al : AL} {v : XV} {S : SL} (h : okV al v) (h2 : okS al S) : okS al (v :: S) := fun w hw => (List.mem_cons.mp hw).elim (fun e => e ▸ h) (h2 w)
theorem rgI {al : AL} (z : Int) : okV al (xi (wI z)) := wI_rg z
theorem rgI2 {al : AL} (z : Int32) : okV al (xi z.toInt) := toI_rg z
theorem rgL {al : AL} (z : Int) : okV al (xl (wL z)) := wL_rg z
theorem rgL2 {al : AL} (z : Int64) : okV al (xl z.toInt) := toL_rg z
theorem bip {n : Int} (h : -128 ≤ n ∧ n < 128) : (Int8.ofInt n).toInt32 = Int32.ofInt n := by
  apply Int32.toInt_inj.mp
  rw [Int8.toInt_toInt32, Int8.toInt_ofInt, rI (by omega)]
  simp only [Int.bmod, Int8.size]
  omega
theorem sip {n : Int} (h : -32768 ≤ n ∧ n < 32768) : (Int16.ofInt n).toInt32 = Int32.ofInt n := by
  apply Int32.toInt_inj.mp
  rw [Int16.toInt_toInt32, Int16.toInt_ofInt, rI (by omega)]
  simp only [Int.bmod, Int16.size]
  omega
section SND
variable {g : GC} {d : Nat} {M : MD} {Q : Option XV → HH → AL → Prop} {pc : Nat} {L : LL} {S r : SL} {h : HH} {al : AL} {x y : Int}
theorem XW.st {pc' : Nat} {S' : SL} (hk : XW g d M Q pc' L S' h al) (ok : okS al S → okL al L → okS al S') (row : ∀ (p : Program) (l : Launch) (e : Env) (R : Room) (s : State) (m : MethodId) (args : Array Value) (below : List Frame) (meth : Method) (c : Code) (H : Heap) (locs : List Loc) (cells slots : Nat) (ad : Nat → Nat) (ls : Array Slot) (Qc : State → Prop), Cx g d M h al ad p R s m args meth c H locs → LH ad ls M.2.2.1 L → okL al L → okS al S → W p l e R s m args below meth c H locs cells slots Qc (F0 m pc' ls (S'.map (dv ad))) → W p l e R s m args below meth c H locs cells slots Qc (F0 m pc ls (S.map (dv ad)))) : XW g d M Q pc L S h al := by
  obtain ⟨r, h', al', hq, hm, hw⟩ := hk
  refine ⟨r, h', al', hq, hm, ?_⟩
  intro p l e R s m args below meth c H locs cells slots mc ms ad ls Qc hC hl hol hos h1 h2 h3 h4 hQ
  exact row p l e R s m args below meth c H locs cells slots ad ls _ hC hl hol hos (hw p l e R s m args below meth c H locs cells slots mc ms ad ls Qc hC hl hol (ok hos hol) h1 h2 h3 h4 hQ)
theorem XW.lo {pc' : Nat} {L' : LL} {S' : SL} (hk : XW g d M Q pc' L' S' h al) (ok : okS al S → okL al L → okS al S' ∧ okL al L') (row : ∀ (p : Program) (l : Launch) (e : Env) (R : Room) (s : State) (m : MethodId) (args : Array Value) (below : List Frame) (meth : Method) (c : Code) (H : Heap) (locs : List Loc) (cells slots : Nat) (ad : Nat → Nat) (ls : Array Slot) (Qc : State → Prop), Cx g d M h al ad p R s m args meth c H locs → LH ad ls M.2.2.1 L → okL al L → okS al S → (∀ ls', LH ad ls' M.2.2.1 L' → W p l e R s m args below meth c H locs cells slots Qc (F0 m pc' ls' (S'.map (dv ad)))) → W p l e R s m args below meth c H locs cells slots Qc (F0 m pc ls (S.map (dv ad)))) : XW g d M Q pc L S h al := by
  obtain ⟨r, h', al', hq, hm, hw⟩ := hk
  refine ⟨r, h', al', hq, hm, ?_⟩
  intro p l e R s m args below meth c H locs cells slots mc ms ad ls Qc hC hl hol hos h1 h2 h3 h4 hQ
  exact row p l e R s m args below meth c H locs cells slots ad ls _ hC hl hol hos (fun ls' hl' => hw p l e R s m args below meth c H locs cells slots mc ms ad ls' Qc hC hl' (ok hos hol).2 (ok hos hol).1 h1 h2 h3 h4 hQ)

theorem xs_iconst {v : Int} (hD : decode M.2.1 pc = .ok (.iconst v, 1)) (hv : -2147483648 ≤ v ∧ v < 2147483648) (hk : XW g d M Q (pc + 1) L (xi v :: S) h al) : XW g d M Q pc L S h al := XW.st hk (fun q _ => okS.cons hv q) (fun p l e R s m args below meth c H locs cells slots ad ls Qc hC hl hol hos hw => lv_iconst hC.1 hC.2.1 hD rfl hw)
theorem xs_bipush {v : Int} (hD : decode M.2.1 pc = .ok (.bipush v, 2)) (hv : -128 ≤ v ∧ v < 128) (hk : XW g d M Q (pc + 2) L (xi v :: S) h al) : XW g d M Q pc L S h al := XW.st hk (fun q _ => okS.cons (show -2147483648 ≤ v ∧ v < 2147483648 by omega) q) (fun p l e R s m args below meth c H locs cells slots ad ls Qc hC hl hol hos hw => lv_bipush hC.1 hC.2.1 hD (bip hv) hw)
theorem xs_sipush {v : Int} (hD : decode M.2.1 pc = .ok (.sipush v, 3)) (hv : -32768 ≤ v ∧ v < 32768) (hk : XW g d M Q (pc + 3) L (xi v :: S) h al) : XW g d M Q pc L S h al := XW.st hk (fun q _ => okS.cons (show -2147483648 ≤ v ∧ v < 2147483648 by omega) q) (fun p l e R s m args below meth c H locs cells slots ad ls Qc hC hl hol hos hw => lv_sipush hC.1 hC.2.1 hD (sip hv) hw)
theorem xs_lconst {v : Fin 2} (hD : decode M.2.1 pc = .ok (.lconst v, 1)) (hk : XW g d M Q (pc + 1) L (xl (v.val : Nat) :: S) h al) : XW g d M Q pc L S h al := XW.st hk (fun q _ => okS.cons (show -9223372036854775808 ≤ ((v.val : Nat) : Int) ∧ ((v.val : Nat) : Int) < 9223372036854775808 by omega) q) (fun p l e R s m args below meth c H locs cells slots ad ls Qc hC hl hol hos hw => lv_lconst hC.1 hC.2.1 hD rfl hw)
theorem xs_null (hD : decode M.2.1 pc = .ok (.aconst_null, 1)) (hk : XW g d M Q (pc + 1) L (xr (-1) :: S) h al) : XW g d M Q pc L S h al := XW.st hk (fun q _ => okS.cons (Or.inl rfl) q) (fun p l e R s m args below meth c H locs cells slots ad ls Qc hC hl hol hos hw => lv_null hC.1 hC.2.1 hD hw)
theorem xs_ldc {ix : Nat} {z : Int} (hD : decode M.2.1 pc = .ok (.ldc ix, 2)) (hz : -2147483648 ≤ z ∧ z < 2147483648) (hw0 : Cond.constant M.1.cls ix (Int32.ofInt z) ∈ gT) (hk : XW g d M Q (pc + 2) L (xi z :: S) h al) : XW g d M Q pc L S h al := XW.st hk (fun q _ => okS.cons hz q) (fun p l e R s m args below meth c H locs cells slots ad ls Qc hC hl hol hos hw => lv_ldc hC.1 hC.2.1 hC.2.2.2.1 (hC.2.2.2.2.1 _ hw0) hD hw)
theorem xs_ldcw {ix : Nat} {z : Int} (hD : decode M.2.1 pc = .ok (.ldc_w ix, 3)) (hz : -2147483648 ≤ z ∧ z < 2147483648) (hw0 : Cond.constant M.1.cls ix (Int32.ofInt z) ∈ gT) (hk : XW g d M Q (pc + 3) L (xi z :: S) h al) : XW g d M Q pc L S h al := XW.st hk (fun q _ => okS.cons hz q) (fun p l e R s m args below meth c H locs cells slots ad ls Qc hC hl hol hos hw => lv_ldcw hC.1 hC.2.1 hC.2.2.2.1 (hC.2.2.2.2.1 _ hw0) hD hw)
theorem xs_ldc2 {ix : Nat} {z : Int} (hD : decode M.2.1 pc = .ok (.ldc2_w ix, 3)) (hz : -9223372036854775808 ≤ z ∧ z < 9223372036854775808) (hw0 : Cond.constantLong M.1.cls ix (Int64.ofInt z) ∈ gT) (hk : XW g d M Q (pc + 3) L (xl z :: S) h al) : XW g d M Q pc L S h al := XW.st hk (fun q _ => okS.cons hz q) (fun p l e R s m args below meth c H locs cells slots ad ls Qc hC hl hol hos hw => lv_ldc2 hC.1 hC.2.1 hC.2.2.2.1 (hC.2.2.2.2.1 _ hw0) hD hw)
theorem xs_iload {i : Nat} (hD : decode M.2.1 pc = .ok (.iload i, 2)) (hk : ldI L i S fun S' => XW g d M Q (pc + 2) L S' h al) : XW g d M Q pc L S h al := by
  unfold ldI at hk
  cases eL : getL L i with
  | none => rw [eL] at hk; exact hk.elim
  | some v =>
    rw [eL] at hk
    rcases v with x | x | x
    · exact XW.st hk (fun q ql => okS.cons (ql _ _ eL) q) (fun p l e R s m args below meth c H locs cells slots ad ls Qc hC hl hol hos hw => lv_iload hC.1 hC.2.1 hD (hl.get eL) hw)
    · exact hk.elim
    · exact hk.elim
theorem xs_iloadn {i : Fin 4} (hD : decode M.2.1 pc = .ok (.iload_n i, 1)) (hk : ldI L i.val S fun S' => XW g d M Q (pc + 1) L S' h al) : XW g d M Q pc L S h al := by
  unfold ldI at hk
  cases eL : getL L i.val with
  | none => rw [eL] at hk; exact hk.elim
  | some v =>
    rw [eL] at hk
    rcases v with x | x | x
    · exact XW.st hk (fun q ql => okS.cons (ql _ _ eL) q) (fun p l e R s m args below meth c H locs cells slots ad ls Qc hC hl hol hos hw => lv_iload_n hC.1 hC.2.1 hD rfl (hl.get eL) hw)
    · exact hk.elim
    · exact hk.elim
theorem xs_lload {i : Nat} (hD : decode M.2.1 pc = .ok (.lload i, 2)) (hk : ldL L i S fun S' => XW g d M Q (pc + 2) L S' h al) : XW g d M Q pc L S h al := by
  unfold ldL at hk
  cases eL : getL L i with
  | none => rw [eL] at hk; exact hk.elim
  | some v =>
    rw [eL] at hk
    rcases v with x | x | x
    · exact hk.elim
    · exact XW.st hk (fun q ql => okS.cons (ql _ _ eL) q) (fun p l e R s m args below meth c H locs cells slots ad ls Qc hC hl hol hos hw => lv_lload hC.1 hC.2.1 hD (hl.get eL) hw)
    · exact hk.elim
theorem xs_lloadn {i : Fin 4} (hD : decode M.2.1 pc = .ok (.lload_n i, 1)) (hk : ldL L i.val S fun S' => XW g d M Q (pc + 1) L S' h al) : XW g d M Q pc L S h al := by
  unfold ldL at hk
  cases eL : getL L i.val with
  | none => rw [eL] at hk; exact hk.elim
  | some v =>
    rw [eL] at hk
    rcases v with x | x | x
    · exact hk.elim
    · exact XW.st hk (fun q ql => okS.cons (ql _ _ eL) q) (fun p l e R s m args below meth c H locs cells slots ad ls Qc hC hl hol hos hw => lv_lload_n hC.1 hC.2.1 hD rfl (hl.get eL) hw)
    · exact hk.elim
theorem xs_aload {i : Nat} (hD : decode M.2.1 pc = .ok (.aload i, 2)) (hk : ldR L i S fun S' => XW g d M Q (pc + 2) L S' h al) : XW g d M Q pc L S h al := by
  unfold ldR at hk
  cases eL : getL L i with
  | none => rw [eL] at hk; exact hk.elim
  | some v =>
    rw [eL] at hk
    rcases v with x | x | x
    · exact hk.elim
    · exact hk.elim
    · refine XW.st hk (fun q ql => okS.cons (ql _ _ eL) q) (fun p l e R s m args below meth c H locs cells slots ad ls Qc hC hl hol hos hw => ?_)
      have hg := hl.get eL
      by_cases hx : x < 0
      · have ed : dv ad (xr x) = .null := by simp [dv, hx]
        rw [show (Sum.inr (Sum.inr x) : XV) = xr x from rfl, ed] at hg
        rw [List.map_cons, ed] at hw
        exact lv_aloadN hC.1 hC.2.1 hD hg hw
      · have ed : dv ad (xr x) = .ref (ad x.toNat) := by simp [dv, hx]
        rw [show (Sum.inr (Sum.inr x) : XV) = xr x from rfl, ed] at hg
        rw [List.map_cons, ed] at hw
        exact lv_aload hC.1 hC.2.1 hD hg hw
theorem xs_aloadn {i : Fin 4} (hD : decode M.2.1 pc = .ok (.aload_n i, 1)) (hk : ldR L i.val S fun S' => XW g d M Q (pc + 1) L S' h al) : XW g d M Q pc L S h al := by
  unfold ldR at hk
  cases eL : getL L i.val with
  | none => rw [eL] at hk; exact hk.elim
  | some v =>
    rw [eL] at hk
    rcases v with x | x | x
    · exact hk.elim
    · exact hk.elim
    · refine XW.st hk (fun q ql => okS.cons (ql _ _ eL) q) (fun p l e R s m args below meth c H locs cells slots ad ls Qc hC hl hol hos hw => ?_)
      have hg := hl.get eL
      by_cases hx : x < 0
      · have ed : dv ad (xr x) = .null := by simp [dv, hx]
        rw [show (Sum.inr (Sum.inr x) : XV) = xr x from rfl, ed] at hg
        rw [List.map_cons, ed] at hw
        exact lv_aload_nN hC.1 hC.2.1 hD rfl hg hw
      · have ed : dv ad (xr x) = .ref (ad x.toNat) := by simp [dv, hx]
        rw [show (Sum.inr (Sum.inr x) : XV) = xr x from rfl, ed] at hg
        rw [List.map_cons, ed] at hw
        exact lv_aload_n hC.1 hC.2.1 hD rfl hg hw
end SND
