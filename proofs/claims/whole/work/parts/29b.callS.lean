-- the law's calls: the script's row stays
def SPx (g : GC) (h h' : HH) (al' : AL) : Prop := (∀ k, k < ln g 180 → h' 180 k = h 180 k) ∧ al' 180 = true
/-- the law's answer -/
def Qt : KT := fun v _ _ => v = some (xi 1)
section CS
variable {g : GC} {d : Nat} {M : MD} {pc : Nat} {L : LL} {S r : SL} {h : HH} {al : AL}
theorem call_m {y : MethodName} {As : SL} {K1 K2 : KT} (c : Call g d y As h al K1) (m : ∀ v h' al', K1 v h' al' → K2 v h' al') : Call g d y As h al K2 := by
  obtain ⟨a, b, c2, c3, c4⟩ := c
  exact ⟨a, b, c2, c3, m _ _ _ c4⟩
/-- two pictures of one heap outside what is ours: the script's row is the same -/
theorem script_same {ad ad' : Nat → Nat} {h' : HH} {al' : AL} {s : State} {H H1 : Heap} {locs locs1 : List Loc} (hr : HR g ad h al s H) (hr' : HR g ad' h' al' s H1) (h180 : al 180 = true) (h180' : al' 180 = true) (ha : ad' 180 = ad 180) (hsz : g.2.2.2.1 ≤ s.heap.size) (hS : va_S (xA g) s.heap H locs) (hS1 : va_S (xA g) s.heap H1 locs1) : ∀ k, k < ln g 180 → h' 180 k = h 180 k := by
  intro k hk
  obtain ⟨cell, c1, c2, c3, c4, c5, c6, c7⟩ := (hr.1 180 h180).2.2.2 rfl
  obtain ⟨cell', c1', c2', c3', c4', c5', c6', c7'⟩ := (hr'.1 180 h180').2.2.2 rfl
  have hn : ¬ xA g (ad 180) := c7
  have hlt : ad 180 < s.heap.size := Nat.lt_of_lt_of_le (Nat.lt_of_not_le hn) hsz
  rw [ha, hS1.2.1 _ hlt hn] at c1'
  rw [hS.2.1 _ hlt hn] at c1
  have ec : cell' = cell := Option.some.inj (c1'.symm.trans c1)
  rw [ec] at c6'
  have e := (c6' k hk).symm.trans (c6 k hk)
  have e2 : Int32.ofInt (h' 180 k) = Int32.ofInt (h 180 k) := by injection e with e; injection e
  have r1 : okT al (tyO 180 k) (h 180 k) := hr.2.2.2.2.1 180 k h180 hk
  have r2 : okT al' (tyO 180 k) (h' 180 k) := hr'.2.2.2.2.1 180 k h180' hk
  have r1 : -2147483648 ≤ h 180 k ∧ h 180 k < 2147483648 := r1
  have r2 : -2147483648 ≤ h' 180 k ∧ h' 180 k < 2147483648 := r2
  rw [← rI r1, ← rI r2, e2]
theorem xs_callVS {ix n o : Nat} {yy : MethodName} {As : SL} {host : String} (h180 : al 180 = true) (hD : decode M.2.1 pc = .ok (.invokevirtual ix, 3)) (hrc : (kd o < 11 ∧ yy.cls = RR (kd o)) ∨ (kd o = 90 ∧ 183 ≤ o ∧ o ≤ 190 ∧ yy.cls = "java/lang/String")) (hn : As.length = n)
    (hp : (parseMethodDescriptor yy.desc).map (fun d => d.parameters.length) = some n) (hy : yy.cls ≠ "java/lang/invoke/MethodHandle" ∧ yy.cls ≠ "java/lang/invoke/VarHandle")
    (w1 : Cond.methodLink M.1.cls ix yy ∈ gT ∨ Cond.methodLinkNest M.1.cls ix yy host ∈ nT) (w2 : Cond.instanceMethod yy ∈ gT) (w3 : Cond.selects yy.cls yy yy ∈ gT) (w4 : Cond.initialized yy.cls ∈ gT) (h8 : csum r ≤ 8)
    (hk : Call g d yy (xr (Int.ofNat o) :: As) h al fun v h' al' => SPx g h h' al' → XW g d M Qt (pc + 3) L (v.toList ++ r) h' al') : XW g d M Qt pc L (As.reverse ++ xr (Int.ofNat o) :: r) h al := by
  obtain ⟨v, h', al', ⟨hm, bytes, maxL, ret, h45, hcode, hM⟩, hk⟩ := hk
  by_cases hq : ∀ k, k < ln g 180 → h' 180 k = h 180 k
  · exact xs_callV hD hrc hn hp hy w1 w2 w3 w4 h8 ⟨v, h', al', ⟨hm, bytes, maxL, ret, h45, hcode, hM⟩, hk ⟨hq, hm _ h180⟩⟩
  · refine ⟨some (xi 1), h', al', rfl, hm, ?_⟩
    intro p l e R s m args below meth c0 H locs cells slots mc ms ad ls Qc hC hl hol hos r1 r2 r3 r4 hQ
    have hr1 : cells + (cnt al' - cnt al) ≤ R.cells := Nat.le_trans r1 r3
    have hr2 : slots + (slt g al' - slt g al) ≤ R.slots := Nat.le_trans r2 r4
    have hos1 : okS al (xr (Int.ofNat o) :: As) := fun w hw => hos w (by rcases List.mem_cons.mp hw with q | q <;> simp [q])
    have ho := ok_o hos1.hd
    have hR := hC.2.2.2.2.2.2.2.2.1
    have hpre : PreV s H yy.cls (ad o) (XPc g ad (xr (Int.ofNat o) :: As) h al) (As.map (dv ad)) := by
      refine ⟨XPc.blind, xrecv hC.vm hC.hr ho hrc, fun U hU hW => ?_⟩
      have := XPc.of hC hos1 U hU hW
      rw [List.map_cons, dv_o] at this
      exact this
    have hcat : 2 * (F0 m pc ls ((As.reverse ++ xr (Int.ofNat o) :: r).map (dv ad))).monitorRoom + ((r.map (dv ad)).map fun v => v.category).sum ≤ 8 := by rw [csum_cat]; show 2 * 0 + _ ≤ 8; omega
    have hst : (As.reverse ++ xr (Int.ofNat o) :: r).map (dv ad) = (As.map (dv ad)).reverse ++ .ref (ad o) :: r.map (dv ad) := by rw [List.map_append, List.map_cons, dv_o, List.map_reverse]
    have hlen : ∀ sig, parseMethodDescriptor yy.desc = some sig → n = sig.parameters.length := fun sig hs => by rw [hs] at hp; exact (Option.some.inj hp).symm
    have hrun : va_Run p l e R s m args below meth c0 H locs cells slots (cnt al' - cnt al) (slt g al' - slt g al) (F0 m pc ls ((As.reverse ++ xr (Int.ofNat o) :: r).map (dv ad))) (r.map (dv ad)) (fun st oc t => Qx g ad al v h' al' st oc t) (xA g) := by
      rcases w1 with w1 | w1
      · exact va_runV (Ts := gT) (nL := M.2.2.1) (n := n) ⟨hC.1, hC.2.1, hC.2.2.1, hC.own, hC.ts⟩ (hM l ad) ⟨⟨rfl, rfl, by show d + 1 ≤ _; omega, by show 8 + (maxL + 11) + 64 * d ≤ _; omega, pay_in hC.ts (gT_in hcode), List.mem_cons_self, hC.ts _ hcode, hC.ts _ w4, hy, hlen, hC.ts _ w1⟩, hC.ts _ w2, hC.ts _ w3⟩ hpre rfl (by rw [List.length_map]; exact hn) hl.2.1 hst hcat hD ⟨hr1, hr2⟩
      · exact va_runVN (Ts := gT) (nL := M.2.2.1) (n := n) ⟨hC.1, hC.2.1, hC.2.2.1, hC.own, hC.ts⟩ (hM l ad) ⟨⟨⟨rfl, rfl, by show d + 1 ≤ _; omega, by show 8 + (maxL + 11) + 64 * d ≤ _; omega, pay_in hC.ts (gT_in hcode), List.mem_cons_self⟩, hC.ts _ hcode, hC.ts _ w4, hy, hlen, va_Nw.use rfl (hC.vm.2.1 _ w1)⟩, hC.ts _ w2, hC.ts _ w3⟩ hpre rfl (by rw [List.length_map]; exact hn) hl.2.1 hst hcat hD ⟨hr1, hr2⟩
    refine W.callx hrun hC.ss fun ad' H1 locs1 q1 q2 q3 q4 => ?_
    exact absurd (script_same hC.hr q2 h180 (hm _ h180) (q1 _ h180) hC.2.2.2.2.2.2.2.2.2.2.2.1.1 hC.ss q4) hq
theorem call_virtualS {ix a b w n : Nat} {yy : MethodName} (h180 : al 180 = true) (hD : decode M.2.1 pc = .ok (.invokevirtual ix, 3)) (hb : (b < 11 ∧ yy.cls = RR b) ∨ (b = 90 ∧ yy.cls = "java/lang/String")) (hy : yOK a yy = true) (hl : lnkOK M.1.cls ix w n yy = true) (h1 : gin (.instanceMethod yy) = true) (h2 : gin (.selects yy.cls yy yy) = true)
    (hk : popK (a + 1) S [] fun As r => cond (rcv b As && Nat.ble (csum r) 8) (Call g d yy As h al fun v h' al' => SPx g h h' al' → XW g d M Qt (pc + 3) L (v.toList ++ r) h' al') False) : XW g d M Qt pc L S h al := by
  obtain ⟨T, r, rfl, hT, hk⟩ := popK_of _ _ _ _ hk
  rw [List.append_nil] at hk
  obtain ⟨hc, hk⟩ := cond_of hk
  rw [Bool.and_eq_true] at hc
  obtain ⟨hr, hc⟩ := hc
  have h8 := Nat.le_of_ble_eq_true hc
  obtain ⟨y1, y2, y3⟩ := y_of hy
  cases e : T.reverse with
  | nil => rw [e] at hr; cases hr
  | cons v As =>
    rw [e] at hr hk
    have hT2 : T = As.reverse ++ [v] := by rw [← List.reverse_reverse T, e, List.reverse_cons]
    have hn : As.length = a := by rw [hT2] at hT; simp at hT; exact hT
    rcases v with x | x | x
    · cases hr
    · cases hr
    · cases x with
      | negSucc z => cases hr
      | ofNat o =>
        have hko : kd o = b := Nat.eq_of_beq_eq_true hr
        rw [hT2, List.append_assoc, List.singleton_append]
        refine xs_callVS h180 hD ?_ hn y1 y2 (lnk_of hl) (gin_in h1) (gin_in h2) y3 h8 hk
        rcases hb with ⟨b1, b2⟩ | ⟨b1, b2⟩
        · exact Or.inl ⟨by rw [hko]; exact b1, by rw [hko]; exact b2⟩
        · have := kd_str o (by rw [hko]; exact b1)
          exact Or.inr ⟨by rw [hko]; exact b1, this.1, this.2, b2⟩
theorem XW_callS {ix l a b w n : Nat} {yy : MethodName} (hM : okM M = true) (hf : xfetch M pc = qm (.invokevirtual ix) l a b w n yy) (h180 : al 180 = true)
    (hk : popK (a + 1) S [] fun As r => cond (rcv b As && Nat.ble (csum r) 8) (Call g d yy As h al fun v h' al' => SPx g h h' al' → XW g d M Qt (pc + 3) L (v.toList ++ r) h' al') False) : XW g d M Qt pc L S h al := by
  have hI := okM_at hM pc
  rw [hf] at hI
  unfold qm at hI
  obtain ⟨hD, hX⟩ := ins_of hI (fun q => by cases q)
  simp only [insX, Bool.and_eq_true, decide_eq_true_eq] at hX
  rw [Bool.or_eq_true] at hX
  simp only [Bool.and_eq_true, decide_eq_true_eq] at hX
  obtain ⟨hl, hX⟩ := hX
  subst hl
  exact call_virtualS h180 hD hX.1 hX.2.1 hX.2.2.1 hX.2.2.2.1 hX.2.2.2.2 hk
end CS
