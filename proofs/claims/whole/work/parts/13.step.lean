-- one step, any instruction; many steps
theorem ins_of {M : MD} {pc : Nat} {i : Instr} {len a b t w n : Nat} {z : Int} {y : MethodName} (h : insOK M pc (i, len, a, b, t, w, n, z, y) = true) (hi : i ≠ .nop) : decode M.2.1 pc = .ok (i, len) ∧ insX M pc i len a b t w n z y = true := by
  have h2 : (decide (decode M.2.1 pc = .ok (i, len)) && insX M pc i len a b t w n z y) = true := by
    cases i <;> first | exact h | exact absurd rfl hi
  rw [Bool.and_eq_true, decide_eq_true_eq] at h2
  exact h2
theorem cond_of {c : Bool} {p : Prop} (h : cond c p False) : c = true ∧ p := by
  cases c with
  | true => exact ⟨rfl, h⟩
  | false => exact h.elim
theorem kd_own : ∀ a, a < 566 → kd a ≤ 10 ∨ (50 ≤ kd a ∧ kd a ≤ 56) ∨ kd a = 80 ∨ kd a = 90 ∨ kd a = 99 := by
  intro a ha
  rcases Nat.lt_or_ge a 230 with q | q
  · have h : ∀ a, a < 230 → kd a ≤ 10 ∨ (50 ≤ kd a ∧ kd a ≤ 56) ∨ kd a = 80 ∨ kd a = 90 ∨ kd a = 99 := by decide +kernel
    exact h a q
  · unfold kd
    rw [show Nat.ble a 229 = false from by cases e : Nat.ble a 229 with | true => exact absurd (Nat.le_of_ble_eq_true e) (by omega) | false => rfl, show Nat.ble 566 a = false from by cases e : Nat.ble 566 a with | true => exact absurd (Nat.le_of_ble_eq_true e) (by omega) | false => rfl]
    simp only [cond_false]
    cases Nat.beq ((a - 230) % 8) 0 <;> simp only [cond_true, cond_false]
    · cases Nat.beq ((a - 230) % 8) 7 <;> decide
    · omega
theorem kd_str : ∀ a, kd a = 90 → 183 ≤ a ∧ a ≤ 190 := by
  intro a ha
  have h1 := kd_lt (o := a) (by omega)
  rcases Nat.lt_or_ge a 230 with q | q
  · have h : ∀ a, a < 230 → kd a = 90 → 183 ≤ a ∧ a ≤ 190 := by decide +kernel
    exact h a q ha
  · exfalso
    unfold kd at ha
    rw [show Nat.ble a 229 = false from by cases e : Nat.ble a 229 with | true => exact absurd (Nat.le_of_ble_eq_true e) (by omega) | false => rfl, show Nat.ble 566 a = false from by cases e : Nat.ble 566 a with | true => exact absurd (Nat.le_of_ble_eq_true e) (by omega) | false => rfl] at ha
    simp only [cond_false] at ha
    revert ha
    cases Nat.beq ((a - 230) % 8) 0 <;> simp only [cond_true, cond_false]
    · cases Nat.beq ((a - 230) % 8) 7 <;> simp only [cond_true, cond_false] <;> intro q <;> omega
    · intro q; omega
section SND8
variable {g : GC} {d : Nat} {M : MD} {Q : Option XV → HH → AL → Prop} {pc : Nat} {L : LL} {S r : SL} {h : HH} {al : AL} {x y : Int}
theorem condP_icmp {c : ClassFile.Cond} {off : Int} {t : Nat} (hD : decode M.2.1 pc = .ok (.if_icmp c off, 3)) (ht : (pc : Int) + off = (t : Int)) (hk : condP c x y (XW g d M Q t L r h al) (XW g d M Q (pc + 3) L r h al)) : XW g d M Q pc L (xi y :: xi x :: r) h al := by
  cases c with
  | eq => exact xs_icmp_eq hD ht hk
  | ne => exact xs_icmp_ne hD ht hk
  | lt => exact xs_icmp_lt hD ht hk
  | ge => exact xs_icmp_ge hD ht hk
  | gt => exact xs_icmp_gt hD ht hk
  | le => exact xs_icmp_le hD ht hk
theorem condP_if {c : ClassFile.Cond} {off : Int} {t : Nat} (hD : decode M.2.1 pc = .ok (.ifCond c off, 3)) (ht : (pc : Int) + off = (t : Int)) (hk : condP c x 0 (XW g d M Q t L r h al) (XW g d M Q (pc + 3) L r h al)) : XW g d M Q pc L (xi x :: r) h al := by
  cases c with
  | eq => exact xs_if_eq hD ht hk
  | ne => exact xs_if_ne hD ht hk
  | lt => exact xs_if_lt hD ht hk
  | ge => exact xs_if_ge hD ht hk
  | gt => exact xs_if_gt hD ht hk
  | le => exact xs_if_le hD ht hk
theorem ret_i (hD : decode M.2.1 pc = .ok (.ireturn, 1)) (hX : (M.2.2.2.2.1 = 0 ∧ M.2.2.2.1 = some .int) ∨ (M.2.2.2.2.1 = 3 ∧ M.2.2.2.1 = some .boolean) ∨ (M.2.2.2.2.1 = 4 ∧ M.2.2.2.1 = some .byte) ∨ (M.2.2.2.2.1 = 5 ∧ M.2.2.2.1 = some .char)) (hk : retP M.2.2.2.2.1 x (Q (some (xi x)) h al)) : XW g d M Q pc L [xi x] h al := by
  rcases hX with ⟨e, hR⟩ | ⟨e, hR⟩ | ⟨e, hR⟩ | ⟨e, hR⟩ <;> rw [e] at hk
  · exact xs_iret hD hR hk
  · obtain ⟨hx, hk⟩ := hk
    refine xs_zret hD hR ?_ hk
    rcases hx with rfl | rfl
    · decide +kernel
    · decide +kernel
  · obtain ⟨hx, hk⟩ := hk
    refine xs_zret hD hR ?_ hk
    show Value.int _ = _
    congr 1
    have := a_i2b (x := x) (by omega)
    rw [show wB x = x by unfold wB; omega] at this
    exact this
  · obtain ⟨hx, hk⟩ := hk
    refine xs_zret hD hR ?_ hk
    show Value.int _ = _
    congr 1
    have := a_i2c (x := x) (by omega)
    rw [show wC x = x by unfold wC; omega] at this
    rw [lg_i2c_nf] at this
    exact this
theorem ret_ok {t : Nat} {al : AL} {q : Prop} (h3 : t ≤ 3) (h : retP t x q) : (okV al (rdv t x) → okT al t x) ∧ rdv t x = xi x ∧ q := by
  match t, h3 with
  | 0, _ => exact ⟨fun z => z, rfl, h⟩
  | 1, _ => exact h.elim
  | 2, _ => exact h.elim
  | 3, _ => exact ⟨fun _ => h.1, rfl, h.2⟩
theorem put_l {ix a b t n : Nat} (hf : Cond.fieldLink M.1.cls ix (RR a) (TT a b).2.1 (TT a b).2.2.1 ∈ gT ∨ Cond.fieldLinkNest M.1.cls ix (RR a) (TT a b).2.1 (TT a b).2.2.1 "ByLot" ∈ nT) (hn : n = 0 → Cond.fieldLink M.1.cls ix (RR a) (TT a b).2.1 (TT a b).2.2.1 ∈ gT) (hX : finOK M a b n = true) :
    ((TT a b).2.2.2 = false ∧ Cond.fieldLink M.1.cls ix (RR a) (TT a b).2.1 (TT a b).2.2.1 ∈ gT) ∨ ((TT a b).2.2.2 = false ∧ Cond.fieldLinkNest M.1.cls ix (RR a) (TT a b).2.1 (TT a b).2.2.1 "ByLot" ∈ nT) ∨ ((TT a b).2.2.2 = true ∧ RR a = M.1.cls ∧ M.1.name = "<init>" ∧ Cond.fieldLink M.1.cls ix (RR a) (TT a b).2.1 (TT a b).2.2.1 ∈ gT) := by
  unfold finOK at hX
  cases e : (TT a b).2.2.2 with
  | false => exact hf.elim (fun q => Or.inl ⟨rfl, q⟩) (fun q => Or.inr (Or.inl ⟨rfl, q⟩))
  | true =>
    rw [e] at hX
    simp only [cond_true, Bool.and_eq_true, decide_eq_true_eq] at hX
    exact Or.inr (Or.inr ⟨rfl, hX.1, hX.2.1, hn hX.2.2⟩)
theorem fld_n0 {own : String} {ix a b t w n : Nat} (h : fldOK own ix a b t w n = true) (hn : n = 0) : Cond.fieldLink own ix (RR a) (TT a b).2.1 (TT a b).2.2.1 ∈ gT := by
  unfold fldOK at h
  simp only [Bool.and_eq_true, decide_eq_true_eq] at h
  have h4 := h.2.2.2
  rw [hn] at h4
  exact gat_in h4
theorem call_virtual {ix a b w n : Nat} {yy : MethodName} (hD : decode M.2.1 pc = .ok (.invokevirtual ix, 3)) (hb : (b < 11 ∧ yy.cls = RR b) ∨ (b = 90 ∧ yy.cls = "java/lang/String")) (hy : yOK a yy = true) (hl : lnkOK M.1.cls ix w n yy = true) (h1 : gin (.instanceMethod yy) = true) (h2 : gin (.selects yy.cls yy yy) = true)
    (hk : popK (a + 1) S [] fun As r => cond (rcv b As && Nat.ble (csum r) 8) (Call g d yy As h al fun v h' al' => XW g d M Q (pc + 3) L (v.toList ++ r) h' al') False) : XW g d M Q pc L S h al := by
  obtain ⟨T, r, rfl, hT, hk⟩ := popK_of _ _ _ _ hk
  rw [List.append_nil] at hk
  obtain ⟨hc, hk⟩ := cond_of hk
  rw [Bool.and_eq_true] at hc
  obtain ⟨hr, hc⟩ := hc
  have h8 := Nat.le_of_ble_eq_true hc
  obtain ⟨y1, y2, y3⟩ := y_of hy
  cases e : T.reverse with
  | nil => rw [e] at hr; cases hr
  | cons v As =>
    rw [e] at hr hk
    have hT2 : T = As.reverse ++ [v] := by rw [← List.reverse_reverse T, e, List.reverse_cons]
    have hn : As.length = a := by rw [hT2] at hT; simp at hT; exact hT
    rcases v with x | x | x
    · cases hr
    · cases hr
    · cases x with
      | negSucc z => cases hr
      | ofNat o =>
        have hko : kd o = b := Nat.eq_of_beq_eq_true hr
        rw [hT2, List.append_assoc, List.singleton_append]
        refine xs_callV hD ?_ hn y1 y2 (lnk_of hl) (gin_in h1) (gin_in h2) y3 h8 hk
        rcases hb with ⟨b1, b2⟩ | ⟨b1, b2⟩
        · exact Or.inl ⟨by rw [hko]; exact b1, by rw [hko]; exact b2⟩
        · have := kd_str o (by rw [hko]; exact b1)
          exact Or.inr ⟨by rw [hko]; exact b1, this.1, this.2, b2⟩
theorem call_special {ix a b w n : Nat} {yy : MethodName} (hD : decode M.2.1 pc = .ok (.invokespecial ix, 3)) (hi : yy.name = "<init>") (hno : noRet yy = true) (hy : yOK a yy = true) (hl : lnkOK M.1.cls ix w n yy = true) (h1 : gin (.instanceMethod yy) = true)
    (hk : popK (a + 1) S [] fun As r => cond (rcv b As && Nat.ble (csum r) 8) (Call g d yy As h al fun v h' al' => XW g d M Q (pc + 3) L (v.toList ++ r) h' al') False) : XW g d M Q pc L S h al := by
  obtain ⟨T, r, rfl, hT, hk⟩ := popK_of _ _ _ _ hk
  rw [List.append_nil] at hk
  obtain ⟨hc, hk⟩ := cond_of hk
  rw [Bool.and_eq_true] at hc
  obtain ⟨hr, hc⟩ := hc
  have h8 := Nat.le_of_ble_eq_true hc
  obtain ⟨y1, y2, y3⟩ := y_of hy
  cases e : T.reverse with
  | nil => rw [e] at hr; cases hr
  | cons v As =>
    rw [e] at hr hk
    have hT2 : T = As.reverse ++ [v] := by rw [← List.reverse_reverse T, e, List.reverse_cons]
    have hn : As.length = a := by rw [hT2] at hT; simp at hT; exact hT
    rcases v with x | x | x
    · cases hr
    · cases hr
    · cases x with
      | negSucc z => cases hr
      | ofNat o =>
        rw [hT2, List.append_assoc, List.singleton_append]
        exact xs_callI hD hi (no_of hno) hn y1 y2 (lnk_of hl) (gin_in h1) y3 h8 hk
theorem call_static {ix a w n : Nat} {yy : MethodName} (hD : decode M.2.1 pc = .ok (.invokestatic ix, 3)) (hy : yOK a yy = true) (hl : lnkOK M.1.cls ix w n yy = true) (h1 : gin (.static yy) = true)
    (hk : popK a S [] fun As r => cond (Nat.ble (csum r) 8) (Call g d yy As h al fun v h' al' => XW g d M Q (pc + 3) L (v.toList ++ r) h' al') False) : XW g d M Q pc L S h al := by
  obtain ⟨T, r, rfl, hT, hk⟩ := popK_of _ _ _ _ hk
  rw [List.append_nil] at hk
  obtain ⟨hc, hk⟩ := cond_of hk
  have h8 := Nat.le_of_ble_eq_true hc
  obtain ⟨y1, y2, y3⟩ := y_of hy
  have := xs_callS (As := T.reverse) (r := r) hD (by rw [List.length_reverse]; exact hT) y1 y2 (lnk_of hl) (gin_in h1) y3 h8 hk
  rw [List.reverse_reverse] at this
  exact this
end SND8
set_option maxHeartbeats 4000000 in
theorem XW_step {g : GC} {d : Nat} {M : MD} {Q : Option XV → HH → AL → Prop} {pc : Nat} {L : LL} {S : SL} {h : HH} {al : AL} (hM : okM M = true) (hk : xstep g (Call g d) M Q (XW g d M Q) pc L S h al) : XW g d M Q pc L S h al := by
  have hI := okM_at hM pc
  unfold xstep at hk
  generalize xfetch M pc = q at hk hI
  obtain ⟨i, len, a, b, t, w, n, z, y⟩ := q
  cases i with
  | iconst v =>
    obtain ⟨hD, hX⟩ := ins_of hI (fun q => by cases q)
    simp only [insX, Bool.and_eq_true, decide_eq_true_eq] at hX
    obtain ⟨hl, hX⟩ := hX
    subst hl
    exact xs_iconst hD hX hk
  | bipush v =>
    obtain ⟨hD, hX⟩ := ins_of hI (fun q => by cases q)
    simp only [insX, Bool.and_eq_true, decide_eq_true_eq] at hX
    obtain ⟨hl, hX⟩ := hX
    subst hl
    exact xs_bipush hD hX hk
  | sipush v =>
    obtain ⟨hD, hX⟩ := ins_of hI (fun q => by cases q)
    simp only [insX, Bool.and_eq_true, decide_eq_true_eq] at hX
    obtain ⟨hl, hX⟩ := hX
    subst hl
    exact xs_sipush hD hX hk
  | lconst v =>
    obtain ⟨hD, hX⟩ := ins_of hI (fun q => by cases q)
    simp only [insX, Bool.and_eq_true, decide_eq_true_eq] at hX
    have hl := hX
    subst hl
    exact xs_lconst hD hk
  | aconst_null =>
    obtain ⟨hD, hX⟩ := ins_of hI (fun q => by cases q)
    simp only [insX, Bool.and_eq_true, decide_eq_true_eq] at hX
    have hl := hX
    subst hl
    exact xs_null hD hk
  | ldc ix =>
    obtain ⟨hD, hX⟩ := ins_of hI (fun q => by cases q)
    simp only [insX, Bool.and_eq_true, decide_eq_true_eq] at hX
    obtain ⟨hl, hX⟩ := hX
    subst hl
    dsimp only at hk
    cases e : Nat.beq t 2 with
    | true =>
      rw [e] at hX hk
      obtain ⟨⟨q1, q2, q3, q4⟩, hm, e1, e2, e3⟩ := of_decide_eq_true hX
      dsimp only at e1 e2 e3
      subst e1; subst e2; subst e3
      exact xs_ldcS hD hm hk
    | false =>
      rw [e] at hX hk
      simp only [cond_false, Bool.and_eq_true, decide_eq_true_eq] at hX
      exact xs_ldc hD hX.1 (gat_in hX.2) hk
  | ldc_w ix =>
    obtain ⟨hD, hX⟩ := ins_of hI (fun q => by cases q)
    simp only [insX, Bool.and_eq_true, decide_eq_true_eq] at hX
    obtain ⟨hl, hX⟩ := hX
    subst hl
    exact xs_ldcw hD hX.1 (gat_in hX.2) hk
  | ldc2_w ix =>
    obtain ⟨hD, hX⟩ := ins_of hI (fun q => by cases q)
    simp only [insX, Bool.and_eq_true, decide_eq_true_eq] at hX
    obtain ⟨hl, hX⟩ := hX
    subst hl
    exact xs_ldc2 hD hX.1 (gat_in hX.2) hk
  | iload i =>
    obtain ⟨hD, hX⟩ := ins_of hI (fun q => by cases q)
    simp only [insX, Bool.and_eq_true, decide_eq_true_eq] at hX
    have hl := hX
    subst hl
    exact xs_iload hD hk
  | iload_n i =>
    obtain ⟨hD, hX⟩ := ins_of hI (fun q => by cases q)
    simp only [insX, Bool.and_eq_true, decide_eq_true_eq] at hX
    have hl := hX
    subst hl
    exact xs_iloadn hD hk
  | lload i =>
    obtain ⟨hD, hX⟩ := ins_of hI (fun q => by cases q)
    simp only [insX, Bool.and_eq_true, decide_eq_true_eq] at hX
    have hl := hX
    subst hl
    exact xs_lload hD hk
  | lload_n i =>
    obtain ⟨hD, hX⟩ := ins_of hI (fun q => by cases q)
    simp only [insX, Bool.and_eq_true, decide_eq_true_eq] at hX
    have hl := hX
    subst hl
    exact xs_lloadn hD hk
  | aload i =>
    obtain ⟨hD, hX⟩ := ins_of hI (fun q => by cases q)
    simp only [insX, Bool.and_eq_true, decide_eq_true_eq] at hX
    have hl := hX
    subst hl
    exact xs_aload hD hk
  | aload_n i =>
    obtain ⟨hD, hX⟩ := ins_of hI (fun q => by cases q)
    simp only [insX, Bool.and_eq_true, decide_eq_true_eq] at hX
    have hl := hX
    subst hl
    exact xs_aloadn hD hk
  | istore i =>
    obtain ⟨hD, hX⟩ := ins_of hI (fun q => by cases q)
    simp only [insX, Bool.and_eq_true, decide_eq_true_eq] at hX
    have hl := hX
    subst hl
    exact xs_istore hD hk
  | istore_n i =>
    obtain ⟨hD, hX⟩ := ins_of hI (fun q => by cases q)
    simp only [insX, Bool.and_eq_true, decide_eq_true_eq] at hX
    have hl := hX
    subst hl
    exact xs_istoren hD hk
  | lstore i =>
    obtain ⟨hD, hX⟩ := ins_of hI (fun q => by cases q)
    simp only [insX, Bool.and_eq_true, decide_eq_true_eq] at hX
    have hl := hX
    subst hl
    exact xs_lstore hD hk
  | lstore_n i =>
    obtain ⟨hD, hX⟩ := ins_of hI (fun q => by cases q)
    simp only [insX, Bool.and_eq_true, decide_eq_true_eq] at hX
    have hl := hX
    subst hl
    exact xs_lstoren hD hk
  | astore i =>
    obtain ⟨hD, hX⟩ := ins_of hI (fun q => by cases q)
    simp only [insX, Bool.and_eq_true, decide_eq_true_eq] at hX
    have hl := hX
    subst hl
    exact xs_astore hD hk
  | astore_n i =>
    obtain ⟨hD, hX⟩ := ins_of hI (fun q => by cases q)
    simp only [insX, Bool.and_eq_true, decide_eq_true_eq] at hX
    have hl := hX
    subst hl
    exact xs_astoren hD hk
  | iinc i v =>
    obtain ⟨hD, hX⟩ := ins_of hI (fun q => by cases q)
    simp only [insX, Bool.and_eq_true, decide_eq_true_eq] at hX
    have hl := hX
    subst hl
    dsimp only at hk
    split at hk
    · rename_i x e
      exact xs_iinc hD e hk
    · exact hk.elim
  | iadd =>
    obtain ⟨hD, hX⟩ := ins_of hI (fun q => by cases q)
    simp only [insX, Bool.and_eq_true, decide_eq_true_eq] at hX
    have hl := hX
    subst hl
    exact xs_iadd hD hk
  | isub =>
    obtain ⟨hD, hX⟩ := ins_of hI (fun q => by cases q)
    simp only [insX, Bool.and_eq_true, decide_eq_true_eq] at hX
    have hl := hX
    subst hl
    exact xs_isub hD hk
  | imul =>
    obtain ⟨hD, hX⟩ := ins_of hI (fun q => by cases q)
    simp only [insX, Bool.and_eq_true, decide_eq_true_eq] at hX
    have hl := hX
    subst hl
    exact xs_imul hD hk
  | iand =>
    obtain ⟨hD, hX⟩ := ins_of hI (fun q => by cases q)
    simp only [insX, Bool.and_eq_true, decide_eq_true_eq] at hX
    have hl := hX
    subst hl
    exact xs_iand hD hk
  | ior =>
    obtain ⟨hD, hX⟩ := ins_of hI (fun q => by cases q)
    simp only [insX, Bool.and_eq_true, decide_eq_true_eq] at hX
    have hl := hX
    subst hl
    exact xs_ior hD hk
  | ixor =>
    obtain ⟨hD, hX⟩ := ins_of hI (fun q => by cases q)
    simp only [insX, Bool.and_eq_true, decide_eq_true_eq] at hX
    have hl := hX
    subst hl
    exact xs_ixor hD hk
  | ishl =>
    obtain ⟨hD, hX⟩ := ins_of hI (fun q => by cases q)
    simp only [insX, Bool.and_eq_true, decide_eq_true_eq] at hX
    have hl := hX
    subst hl
    exact xs_ishl hD hk
  | ishr =>
    obtain ⟨hD, hX⟩ := ins_of hI (fun q => by cases q)
    simp only [insX, Bool.and_eq_true, decide_eq_true_eq] at hX
    have hl := hX
    subst hl
    exact xs_ishr hD hk
  | ineg =>
    obtain ⟨hD, hX⟩ := ins_of hI (fun q => by cases q)
    simp only [insX, Bool.and_eq_true, decide_eq_true_eq] at hX
    have hl := hX
    subst hl
    exact xs_ineg hD hk
  | i2b =>
    obtain ⟨hD, hX⟩ := ins_of hI (fun q => by cases q)
    simp only [insX, Bool.and_eq_true, decide_eq_true_eq] at hX
    have hl := hX
    subst hl
    exact xs_i2b hD hk
  | i2s =>
    obtain ⟨hD, hX⟩ := ins_of hI (fun q => by cases q)
    simp only [insX, Bool.and_eq_true, decide_eq_true_eq] at hX
    have hl := hX
    subst hl
    exact xs_i2s hD hk
  | i2c =>
    obtain ⟨hD, hX⟩ := ins_of hI (fun q => by cases q)
    simp only [insX, Bool.and_eq_true, decide_eq_true_eq] at hX
    have hl := hX
    subst hl
    exact xs_i2c hD hk
  | ladd =>
    obtain ⟨hD, hX⟩ := ins_of hI (fun q => by cases q)
    simp only [insX, Bool.and_eq_true, decide_eq_true_eq] at hX
    have hl := hX
    subst hl
    exact xs_ladd hD hk
  | land =>
    obtain ⟨hD, hX⟩ := ins_of hI (fun q => by cases q)
    simp only [insX, Bool.and_eq_true, decide_eq_true_eq] at hX
    have hl := hX
    subst hl
    exact xs_land hD hk
  | lor =>
    obtain ⟨hD, hX⟩ := ins_of hI (fun q => by cases q)
    simp only [insX, Bool.and_eq_true, decide_eq_true_eq] at hX
    have hl := hX
    subst hl
    exact xs_lor hD hk
  | idiv =>
    obtain ⟨hD, hX⟩ := ins_of hI (fun q => by cases q)
    simp only [insX, Bool.and_eq_true, decide_eq_true_eq] at hX
    have hl := hX
    subst hl
    dsimp only at hk
    split at hk
    · exact xs_idiv hD hk.1 hk.2
    · exact hk.elim
  | irem =>
    obtain ⟨hD, hX⟩ := ins_of hI (fun q => by cases q)
    simp only [insX, Bool.and_eq_true, decide_eq_true_eq] at hX
    have hl := hX
    subst hl
    dsimp only at hk
    split at hk
    · exact xs_irem hD hk.1 hk.2
    · exact hk.elim
  | ldiv =>
    obtain ⟨hD, hX⟩ := ins_of hI (fun q => by cases q)
    simp only [insX, Bool.and_eq_true, decide_eq_true_eq] at hX
    have hl := hX
    subst hl
    dsimp only at hk
    split at hk
    · exact xs_ldiv hD hk.1 hk.2
    · exact hk.elim
  | lrem =>
    obtain ⟨hD, hX⟩ := ins_of hI (fun q => by cases q)
    simp only [insX, Bool.and_eq_true, decide_eq_true_eq] at hX
    have hl := hX
    subst hl
    dsimp only at hk
    split at hk
    · exact xs_lrem hD hk.1 hk.2
    · exact hk.elim
  | lneg =>
    obtain ⟨hD, hX⟩ := ins_of hI (fun q => by cases q)
    simp only [insX, Bool.and_eq_true, decide_eq_true_eq] at hX
    have hl := hX
    subst hl
    dsimp only at hk
    split at hk
    · exact xs_lneg hD hk
    · exact hk.elim
  | lshl =>
    obtain ⟨hD, hX⟩ := ins_of hI (fun q => by cases q)
    simp only [insX, Bool.and_eq_true, decide_eq_true_eq] at hX
    have hl := hX
    subst hl
    dsimp only at hk
    split at hk
    · exact xs_lshl hD hk
    · exact hk.elim
  | lcmp =>
    obtain ⟨hD, hX⟩ := ins_of hI (fun q => by cases q)
    simp only [insX, Bool.and_eq_true, decide_eq_true_eq] at hX
    have hl := hX
    subst hl
    dsimp only at hk
    split at hk
    · exact xs_lcmp hD hk
    · exact hk.elim
  | i2l =>
    obtain ⟨hD, hX⟩ := ins_of hI (fun q => by cases q)
    simp only [insX, Bool.and_eq_true, decide_eq_true_eq] at hX
    have hl := hX
    subst hl
    dsimp only at hk
    split at hk
    · exact xs_i2l hD hk
    · exact hk.elim
  | l2i =>
    obtain ⟨hD, hX⟩ := ins_of hI (fun q => by cases q)
    simp only [insX, Bool.and_eq_true, decide_eq_true_eq] at hX
    have hl := hX
    subst hl
    dsimp only at hk
    split at hk
    · exact xs_l2i hD hk
    · exact hk.elim
  | dup2 =>
    obtain ⟨hD, hX⟩ := ins_of hI (fun q => by cases q)
    simp only [insX, Bool.and_eq_true, decide_eq_true_eq] at hX
    have hl := hX
    subst hl
    dsimp only at hk
    split at hk
    · exact xs_dup2 hD hk
    · exact hk.elim
  | dup =>
    obtain ⟨hD, hX⟩ := ins_of hI (fun q => by cases q)
    simp only [insX, Bool.and_eq_true, decide_eq_true_eq] at hX
    have hl := hX
    subst hl
    dsimp only at hk
    split at hk
    · exact xs_dupI hD hk
    · exact xs_dupR hD hk
    · exact hk.elim
  | pop =>
    obtain ⟨hD, hX⟩ := ins_of hI (fun q => by cases q)
    simp only [insX, Bool.and_eq_true, decide_eq_true_eq] at hX
    have hl := hX
    subst hl
    dsimp only at hk
    split at hk
    · exact xs_popI hD hk
    · exact xs_popR hD hk
    · exact hk.elim
  | goto off =>
    obtain ⟨hD, hX⟩ := ins_of hI (fun q => by cases q)
    simp only [insX, Bool.and_eq_true, decide_eq_true_eq] at hX
    obtain ⟨hl, hX⟩ := hX
    subst hl
    exact xs_goto hD hX hk
  | ifCond c off =>
    obtain ⟨hD, hX⟩ := ins_of hI (fun q => by cases q)
    simp only [insX, Bool.and_eq_true, decide_eq_true_eq] at hX
    obtain ⟨hl, hX⟩ := hX
    subst hl
    dsimp only at hk
    split at hk
    · exact condP_if hD hX hk
    · exact hk.elim
  | if_icmp c off =>
    obtain ⟨hD, hX⟩ := ins_of hI (fun q => by cases q)
    simp only [insX, Bool.and_eq_true, decide_eq_true_eq] at hX
    obtain ⟨hl, hX⟩ := hX
    subst hl
    dsimp only at hk
    split at hk
    · exact condP_icmp hD hX hk
    · exact hk.elim
  | if_acmp c off =>
    obtain ⟨hD, hX⟩ := ins_of hI (fun q => by cases q)
    simp only [insX, Bool.and_eq_true, decide_eq_true_eq] at hX
    obtain ⟨hl, hX⟩ := hX
    subst hl
    cases c with
    | eq => exact hk.elim
    | ne =>
      dsimp only at hk
      split at hk
      · exact xs_acmp hD hX hk
      · exact hk.elim
  | ifnull off =>
    obtain ⟨hD, hX⟩ := ins_of hI (fun q => by cases q)
    simp only [insX, Bool.and_eq_true, decide_eq_true_eq] at hX
    obtain ⟨hl, hX⟩ := hX
    subst hl
    dsimp only at hk
    split at hk
    · exact xs_ifnull hD hX hk
    · exact hk.elim
  | ifnonnull off =>
    obtain ⟨hD, hX⟩ := ins_of hI (fun q => by cases q)
    simp only [insX, Bool.and_eq_true, decide_eq_true_eq] at hX
    obtain ⟨hl, hX⟩ := hX
    subst hl
    dsimp only at hk
    split at hk
    · exact xs_ifnonnull hD hX hk
    · exact hk.elim
  | tableswitch d0 lo hi os =>
    obtain ⟨hD, hX⟩ := ins_of hI (fun q => by cases q)
    simp only [insX, Bool.and_eq_true, decide_eq_true_eq] at hX
    obtain ⟨h1, h2, h3⟩ := hX
    dsimp only at hk
    split at hk
    · exact xs_tsw hD h1 h2 (fun o ho => of_decide_eq_true (List.all_eq_true.mp h3 o ho)) hk
    · exact hk.elim
  | lookupswitch d0 ps =>
    obtain ⟨hD, hX⟩ := ins_of hI (fun q => by cases q)
    simp only [insX, Bool.and_eq_true, decide_eq_true_eq] at hX
    obtain ⟨h1, h2, h3⟩ := hX
    dsimp only at hk
    split at hk
    · exact xs_lsw hD h1 h2 (fun o ho => of_decide_eq_true (List.all_eq_true.mp h3 o ho)) hk
    · exact hk.elim
  | getfield ix =>
    obtain ⟨hD, hX⟩ := ins_of hI (fun q => by cases q)
    simp only [insX, Bool.and_eq_true, decide_eq_true_eq] at hX
    obtain ⟨hl, hX⟩ := hX
    subst hl
    obtain ⟨f1, f2, f3, f4⟩ := fld_of hX
    dsimp only at hk
    split at hk
    · obtain ⟨hc, hk⟩ := cond_of hk
      exact xs_get hD f1 f2 f3 (Nat.eq_of_beq_eq_true hc) f4 hk
    · exact hk.elim
  | putfield ix =>
    obtain ⟨hD, hX⟩ := ins_of hI (fun q => by cases q)
    simp only [insX, Bool.and_eq_true, decide_eq_true_eq] at hX
    obtain ⟨hl, hX⟩ := hX
    subst hl
    obtain ⟨f1, f2, f3, f4⟩ := fld_of hX.1
    have f5 := put_l (t := t) f4 (fld_n0 hX.1) hX.2
    have f6 : t ≤ 3 := by rw [f3]; exact ft3 a f1 b
    dsimp only at hk
    split at hk
    · obtain ⟨hc, hk⟩ := cond_of hk
      obtain ⟨k1, k2, hk⟩ := ret_ok (al := al) f6 hk
      have := xs_put hD f1 f2 f3 f6 (Nat.eq_of_beq_eq_true hc) f5 k1 hk
      rw [k2] at this
      exact this
    · obtain ⟨hc, hk2⟩ := cond_of hk
      clear hk
      rw [Bool.and_eq_true] at hc
      have e2 := Nat.eq_of_beq_eq_true hc.2
      subst e2
      exact xs_put hD f1 f2 f3 f6 (Nat.eq_of_beq_eq_true hc.1) f5 (fun z => z) hk2
    · exact hk.elim
  | getstatic ix =>
    obtain ⟨hD, hX⟩ := ins_of hI (fun q => by cases q)
    simp only [insX, Bool.and_eq_true, decide_eq_true_eq] at hX
    rw [Bool.or_eq_true] at hX
    simp only [Bool.and_eq_true, decide_eq_true_eq] at hX
    obtain ⟨hl, hX⟩ := hX
    subst hl
    refine xs_gets (host := "ByLot") hD ?_ hk
    rcases hX with ⟨e, hX⟩ | ⟨e, hX⟩
    · refine ⟨"ByLot", "KIND_ABOVE", Or.inl ⟨e, rfl, rfl⟩, ?_⟩
      cases e3 : Nat.beq n 0 with
      | true => rw [e3] at hX; exact Or.inl (gat_in hX)
      | false => rw [e3] at hX; exact Or.inr (nat_in hX)
    · exact ⟨"ByLot$Acts", "BODIES", Or.inr ⟨e, rfl, rfl⟩, Or.inl (gat_in hX)⟩
  | new ix =>
    obtain ⟨hD, hX⟩ := ins_of hI (fun q => by cases q)
    simp only [insX, Bool.and_eq_true, decide_eq_true_eq] at hX
    obtain ⟨hl, hX⟩ := hX
    subst hl
    obtain ⟨o, k1, k2, hk⟩ := hk
    exact xs_new hD hX.1 k1 k2 (gat_in hX.2.1) (gin_in hX.2.2.1) (gin_in hX.2.2.2) hk
  | newarray at_ =>
    obtain ⟨hD, hX⟩ := ins_of hI (fun q => by cases q)
    simp only [insX, Bool.and_eq_true, decide_eq_true_eq] at hX
    obtain ⟨hl, hX⟩ := hX
    subst hl
    dsimp only at hk
    split at hk
    · obtain ⟨o, k1, k2, k3, hk⟩ := hk
      exact xs_newarr hD hX.1 hX.2.1 k1 k2 k3 (gin_in hX.2.2) hk
    · exact hk.elim
  | anewarray ix =>
    obtain ⟨hD, hX⟩ := ins_of hI (fun q => by cases q)
    simp only [insX, Bool.and_eq_true, decide_eq_true_eq] at hX
    obtain ⟨hl, hX⟩ := hX
    subst hl
    dsimp only at hk
    split at hk
    · obtain ⟨o, k1, k2, k3, hk⟩ := hk
      exact xs_anew hD hX.1.1 hX.1.2 k1 k2 k3 (gat_in hX.2) hk
    · exact hk.elim
  | arraylength =>
    obtain ⟨hD, hX⟩ := ins_of hI (fun q => by cases q)
    simp only [insX, Bool.and_eq_true, decide_eq_true_eq] at hX
    have hl := hX
    subst hl
    dsimp only at hk
    split at hk
    · rename_i o r
      obtain ⟨hc, hk⟩ := cond_of hk
      rw [Bool.and_eq_true] at hc
      have h1 := Nat.le_of_ble_eq_true hc.1
      have h2 := Nat.le_of_ble_eq_true hc.2
      have h3 := kd_own o (kd_lt (by omega))
      exact xs_alen hD h1 h2 (by omega) hk
    · exact hk.elim
  | iaload =>
    obtain ⟨hD, hX⟩ := ins_of hI (fun q => by cases q)
    simp only [insX, Bool.and_eq_true, decide_eq_true_eq] at hX
    have hl := hX
    subst hl
    dsimp only [aldP] at hk
    split at hk
    · rename_i j o r
      obtain ⟨hc, hk⟩ := cond_of hk
      exact xs_iald hD hc hk.1 hk.2
    · exact hk.elim
  | baload =>
    obtain ⟨hD, hX⟩ := ins_of hI (fun q => by cases q)
    simp only [insX, Bool.and_eq_true, decide_eq_true_eq] at hX
    have hl := hX
    subst hl
    dsimp only [aldP] at hk
    split at hk
    · rename_i j o r
      obtain ⟨hc, hk⟩ := cond_of hk
      have hc : kd o = 52 := by
        unfold isA at hc
        rw [Bool.or_eq_true, Bool.and_eq_true] at hc
        rcases hc with q | q
        · exact Nat.eq_of_beq_eq_true q
        · exact absurd q.1 (by decide)
      exact xs_bald hD hc hk.1 hk.2
    · exact hk.elim
  | laload =>
    obtain ⟨hD, hX⟩ := ins_of hI (fun q => by cases q)
    simp only [insX, Bool.and_eq_true, decide_eq_true_eq] at hX
    have hl := hX
    subst hl
    dsimp only [aldP] at hk
    split at hk
    · rename_i j o r
      obtain ⟨hc, hk⟩ := cond_of hk
      have hc : kd o = 51 := by
        unfold isA at hc
        rw [Bool.or_eq_true, Bool.and_eq_true] at hc
        rcases hc with q | q
        · exact Nat.eq_of_beq_eq_true q
        · exact absurd q.1 (by decide)
      exact xs_lald hD hc hk.1 hk.2
    · exact hk.elim
  | aaload =>
    obtain ⟨hD, hX⟩ := ins_of hI (fun q => by cases q)
    simp only [insX, Bool.and_eq_true, decide_eq_true_eq] at hX
    have hl := hX
    subst hl
    dsimp only [aldRP] at hk
    split at hk
    · rename_i j o r
      obtain ⟨hc, hk⟩ := cond_of hk
      rw [Bool.and_eq_true] at hc
      have h1 := Nat.le_of_ble_eq_true hc.1
      have h2 := Nat.le_of_ble_eq_true hc.2
      exact xs_aald (t := kd o - 50) hD (by omega) (by omega) (by omega) hk.1 hk.2
    · exact hk.elim
  | iastore =>
    obtain ⟨hD, hX⟩ := ins_of hI (fun q => by cases q)
    simp only [insX, Bool.and_eq_true, decide_eq_true_eq] at hX
    have hl := hX
    subst hl
    dsimp only at hk
    split at hk
    · obtain ⟨hc, hk⟩ := cond_of hk
      exact xs_iast hD (Nat.eq_of_beq_eq_true hc) hk.1 hk.2
    · exact hk.elim
  | bastore =>
    obtain ⟨hD, hX⟩ := ins_of hI (fun q => by cases q)
    simp only [insX, Bool.and_eq_true, decide_eq_true_eq] at hX
    have hl := hX
    subst hl
    dsimp only at hk
    split at hk
    · obtain ⟨hc, hk⟩ := cond_of hk
      exact xs_bast hD (Nat.eq_of_beq_eq_true hc) hk.1 hk.2.1 hk.2.2
    · exact hk.elim
  | lastore =>
    obtain ⟨hD, hX⟩ := ins_of hI (fun q => by cases q)
    simp only [insX, Bool.and_eq_true, decide_eq_true_eq] at hX
    have hl := hX
    subst hl
    dsimp only at hk
    split at hk
    · obtain ⟨hc, hk⟩ := cond_of hk
      exact xs_last hD (Nat.eq_of_beq_eq_true hc) hk.1 hk.2
    · exact hk.elim
  | aastore =>
    obtain ⟨hD, hX⟩ := ins_of hI (fun q => by cases q)
    simp only [insX, Bool.and_eq_true, decide_eq_true_eq] at hX
    have hl := hX
    subst hl
    dsimp only at hk
    split at hk
    · rename_i v j o r
      obtain ⟨hc, hk⟩ := cond_of hk
      rw [Bool.and_eq_true, Bool.and_eq_true] at hc
      have h1 := Nat.le_of_ble_eq_true hc.1
      have h2 := Nat.le_of_ble_eq_true hc.2.1
      exact xs_aast (t := kd o - 50) hD (by omega) (by omega) (by omega) (Nat.eq_of_beq_eq_true hc.2.2) hk.1 hk.2
    · exact hk.elim
  | invokespecial ix =>
    obtain ⟨hD, hX⟩ := ins_of hI (fun q => by cases q)
    simp only [insX, Bool.and_eq_true, decide_eq_true_eq] at hX
    obtain ⟨hl, hX⟩ := hX
    subst hl
    dsimp only at hk
    cases e : Nat.beq n 7 with
    | true =>
      rw [e] at hX hk
      simp only [cond_true, Bool.and_eq_true] at hX hk
      split at hk
      · obtain ⟨hc, hk⟩ := cond_of hk
        exact xs_oinit hD (gat_in hX.1) (gin_in hX.2.1) (gin_in hX.2.2) (Nat.le_of_ble_eq_true hc) hk
      · exact hk.elim
    | false =>
      rw [e] at hX hk
      simp only [cond_false, Bool.and_eq_true, decide_eq_true_eq] at hX
      exact call_special hD hX.1 hX.2.1 hX.2.2.1 hX.2.2.2.1 hX.2.2.2.2 hk
  | invokevirtual ix =>
    obtain ⟨hD, hX⟩ := ins_of hI (fun q => by cases q)
    simp only [insX, Bool.and_eq_true, decide_eq_true_eq] at hX
    rw [Bool.or_eq_true] at hX
    simp only [Bool.and_eq_true, decide_eq_true_eq] at hX
    obtain ⟨hl, hX⟩ := hX
    subst hl
    exact call_virtual hD hX.1 hX.2.1 hX.2.2.1 hX.2.2.2.1 hX.2.2.2.2 hk
  | invokestatic ix =>
    obtain ⟨hD, hX⟩ := ins_of hI (fun q => by cases q)
    simp only [insX, Bool.and_eq_true, decide_eq_true_eq] at hX
    obtain ⟨hl, hX⟩ := hX
    subst hl
    dsimp only at hk
    cases e : Nat.beq n 8 with
    | true =>
      rw [e] at hX hk
      simp only [cond_true, Bool.and_eq_true] at hX hk
      split at hk
      · obtain ⟨hc, hk⟩ := cond_of hk
        rw [Bool.and_eq_true, Bool.and_eq_true, Bool.or_eq_true] at hc
        obtain ⟨c1, c2, c3⟩ := hc
        have c2 := Nat.eq_of_beq_eq_true c2
        rcases c3 with c3 | c3
        · have c3 := Nat.eq_of_beq_eq_true c3
          exact xs_copy (t := 0) hD (Or.inl rfl) c3 (by omega) (Nat.le_of_ble_eq_true c1) (gat_in hX.1) (gin_in hX.2.1) (gin_in hX.2.2.1) (gin_in hX.2.2.2) hk.1 hk.2
        · have c3 := Nat.eq_of_beq_eq_true c3
          exact xs_copy (t := 1) hD (Or.inr rfl) c3 (by omega) (Nat.le_of_ble_eq_true c1) (gat_in hX.1) (gin_in hX.2.1) (gin_in hX.2.2.1) (gin_in hX.2.2.2) hk.1 hk.2
      · exact hk.elim
    | false =>
      rw [e] at hX hk
      simp only [cond_false, Bool.and_eq_true] at hX
      exact call_static hD hX.1 hX.2.1 hX.2.2 hk
  | ireturn =>
    obtain ⟨hD, hX⟩ := ins_of hI (fun q => by cases q)
    simp only [insX, Bool.and_eq_true, decide_eq_true_eq] at hX
    simp only [Bool.or_eq_true, decide_eq_true_eq] at hX
    obtain ⟨hl, hX⟩ := hX
    subst hl
    dsimp only at hk
    split at hk
    · exact ret_i hD hX hk
    · exact hk.elim
  | lreturn =>
    obtain ⟨hD, hX⟩ := ins_of hI (fun q => by cases q)
    simp only [insX, Bool.and_eq_true, decide_eq_true_eq] at hX
    obtain ⟨hl, hX⟩ := hX
    subst hl
    dsimp only at hk
    split at hk
    · exact xs_lret hD hX hk
    · exact hk.elim
  | areturn =>
    obtain ⟨hD, hX⟩ := ins_of hI (fun q => by cases q)
    simp only [insX, Bool.and_eq_true, decide_eq_true_eq] at hX
    obtain ⟨hl, hX⟩ := hX
    subst hl
    dsimp only at hk
    split at hk
    · split at hX
      · rename_i C hR
        exact xs_aret hD hR hk
      · cases hX
    · exact hk.elim
  | return_ =>
    obtain ⟨hD, hX⟩ := ins_of hI (fun q => by cases q)
    simp only [insX, Bool.and_eq_true, decide_eq_true_eq] at hX
    obtain ⟨hl, hX⟩ := hX
    subst hl
    dsimp only at hk
    split at hk
    · exact xs_vret hD hX hk
    · exact hk.elim
  | _ => exact hk.elim
/-- n steps, then k -/
def xrun (g : GC) (C : MethodName → SL → HH → AL → (Option XV → HH → AL → Prop) → Prop) (M : MD) (Q : Option XV → HH → AL → Prop) (k : Nat → LL → SL → HH → AL → Prop) : Nat → Nat → LL → SL → HH → AL → Prop
  | 0 => k
  | n + 1 => xstep g C M Q (xrun g C M Q k n)
theorem XW_run (n : Nat) {g : GC} {d : Nat} {M : MD} {Q : Option XV → HH → AL → Prop} (hM : okM M = true) {pc : Nat} {L : LL} {S : SL} {h : HH} {al : AL} (hk : xrun g (Call g d) M Q (XW g d M Q) n pc L S h al) : XW g d M Q pc L S h al := by
  have mono : ∀ n (pc : Nat) (L : LL) (S : SL) (h : HH) (al : AL), xrun g (Call g d) M Q (XW g d M Q) n pc L S h al → XW g d M Q pc L S h al := by
    intro n
    induction n with
    | zero => intro pc L S h al hk; exact hk
    | succ n ih =>
      intro pc L S h al hk
      have e : xrun g (Call g d) M Q (XW g d M Q) n = fun pc L S h al => xrun g (Call g d) M Q (XW g d M Q) n pc L S h al := rfl
      exact XW_step hM (xstep_mono ih hk)
  exact mono n pc L S h al hk
