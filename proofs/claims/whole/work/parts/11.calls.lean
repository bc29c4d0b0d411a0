-- calls, returns, a method's entry
theorem csum_cat {ad : Nat → Nat} : ∀ S : SL, ((S.map (dv ad)).map fun v => v.category).sum = csum S := by
  intro S
  induction S with
  | nil => rfl
  | cons a l ih =>
    rw [List.map_cons, List.map_cons, List.sum_cons, ih]
    rcases a with x | x | x
    · rfl
    · rfl
    · show (dv ad (xr x)).category + csum l = 1 + csum l
      rw [cat1]
theorem popK_of : ∀ (n : Nat) (S acc : SL) (k : SL → SL → Prop), popK n S acc k → ∃ T r, S = T ++ r ∧ T.length = n ∧ k (T.reverse ++ acc) r := by
  intro n
  induction n with
  | zero => intro S acc k h; exact ⟨[], S, rfl, rfl, h⟩
  | succ n ih =>
    intro S acc k h
    cases S with
    | nil => exact h.elim
    | cons v S =>
      obtain ⟨T, r, h1, h2, h3⟩ := ih S (v :: acc) k h
      refine ⟨v :: T, r, by rw [h1]; rfl, by simp [h2], ?_⟩
      rw [List.reverse_cons, List.append_assoc]
      exact h3
theorem gT_good {w : Cond} (h : w ∈ gT) : (w.onTables && w.keeps) = true ∨ ∃ ty, w = .arrayClass ty := good_of_word (List.mem_filter.mp h).2
theorem gT_in {w0 : Cond} (h : w0 ∈ gT) : GoodIn gT (w0 :: gT) := fun w hw => by
  rcases List.mem_cons.mp hw with e | e
  · rw [e]; exact ⟨h, gT_good h⟩
  · exact ⟨e, gT_good e⟩
theorem nT_warm {s U : State} (hW : s.WarmedH U.vm) (h : ∀ w ∈ nT, va_Nw w s) : ∀ w ∈ nT, va_Nw w U := by
  intro w hw
  have h1 := h w hw
  have h2 := (List.mem_filter.mp hw).2
  cases w <;> first | (exfalso; revert h2; simp [isNest]; done) | exact va_Nw.warmF hW h1 | exact va_Nw.warmM hW h1
theorem VMk.warm {g : GC} {s U : State} (hW : s.WarmedH U.vm) (h : VMk g s) : VMk g U :=
  ⟨va_K.moved hW.alike h.1, nT_warm hW h.2.1, va_AO.moved hW.alike h.2.2.1, va_AO.moved hW.alike h.2.2.2.1, va_AO.moved hW.alike h.2.2.2.2.1, va_AO.moved hW.alike h.2.2.2.2.2⟩
theorem nT_same {s U : State} (hv : s.vm = U.vm) (h : ∀ w ∈ nT, va_Nw w s) : ∀ w ∈ nT, va_Nw w U := by
  intro w hw
  have h1 := h w hw
  have h2 := (List.mem_filter.mp hw).2
  cases w <;> first | (exfalso; revert h2; simp [isNest]; done) | exact va_Nw.same rfl hv h1
theorem alike_eq {s U : State} (hv : s.vm = U.vm) : s.vm.Alike U.vm := by rw [hv]; exact Vm.Alike.refl _
theorem VMk.same {g : GC} {s U : State} (hv : s.vm = U.vm) (h : VMk g s) : VMk g U :=
  ⟨va_K.moved (alike_eq hv) h.1, nT_same hv h.2.1, va_AO.moved (alike_eq hv) h.2.2.1, va_AO.moved (alike_eq hv) h.2.2.2.1, va_AO.moved (alike_eq hv) h.2.2.2.2.1, va_AO.moved (alike_eq hv) h.2.2.2.2.2⟩
def XPc (g : GC) (ad : Nat → Nat) (As : SL) (h : HH) (al : AL) : Array Value → State → Prop := va_Pc (As.map (dv ad)) (fun U => HR g ad h al U U.heap ∧ VMk g U ∧ SK ad U ∧ (g.2.2.2.1 ≤ U.heap.size ∧ g.2.2.2.2 ≤ 3072) ∧ okS al As)
theorem XPc.blind {g : GC} {ad : Nat → Nat} {As : SL} {h : HH} {al : AL} : FrameBlind (XPc g ad As h al) := by
  intro a U j mk q
  obtain ⟨q1, q2, q3, q4, q5, q6⟩ := q
  refine ⟨q1, HR.moved (u := U) (U := U.calling j mk a) (Vm.Alike.refl U.vm) q2, VMk.same (s := U) (U := U.calling j mk a) rfl q3, fun w hw => vk_R.same (u := U) (U := U.calling j mk a) rfl (q4 w hw), q5, q6⟩
section SND6
variable {g : GC} {d : Nat} {M : MD} {Q : Option XV → HH → AL → Prop} {pc : Nat} {L : LL} {S r : SL} {h : HH} {al : AL} {x y : Int}
theorem xs_oinit {ix o : Nat} (hD : decode M.2.1 pc = .ok (.invokespecial ix, 3)) (w1 : Cond.methodLink M.1.cls ix objectInit ∈ gT) (w2 : Cond.instanceMethod objectInit ∈ gT) (w3 : Cond.code objectInit ⟨#[0xb1]⟩ 1 none ∈ gT) (h8 : csum r ≤ 8)
    (hk : XW g d M Q (pc + 3) L r h al) : XW g d M Q pc L (xr (Int.ofNat o) :: r) h al := by
  refine XW.st hk (fun q _ => q.tl) fun p l e R s m args below meth c0 H locs cells slots ad ls Qc hC hl hol hos hw => ?_
  rw [List.map_cons, dv_o]
  have hR := hC.2.2.2.2.2.2.2.2.1
  exact W.objInit hC.1 hC.2.1 hC.own (hC.ts _ w1) (hC.ts _ w2) (hC.ts _ w3) rfl (by rw [hC.2.2.1]; exact hl.2.1) rfl hD (by omega) (by rw [csum_cat]; show 2 * 0 + _ + 12 ≤ _; omega) hw
theorem W.callx {p : Program} {l : Launch} {e : Env} {R : Room} {s : State} {m : MethodId} {args : Array Value} {below : List Frame} {meth : Method} {c : Code} {H : Heap} {locs : List Loc} {cells slots mc ms : Nat} {Qs : State → Prop} {ls : Array Slot} {st0 rest : List Value} {ad : Nat → Nat} {v : Option XV} {h' : HH} {al' : AL}
    (hr : va_Run p l e R s m args below meth c H locs cells slots mc ms (F0 m pc ls st0) rest (fun st oc t => Qx g ad al v h' al' st oc t) (xA g)) (hS : va_S (xA g) s.heap H locs)
    (kk : ∀ (ad' : Nat → Nat) (H1 : Heap) (locs1 : List Loc), (∀ a, al a = true → ad' a = ad a) → HR g ad' h' al' s H1 → (∀ w, v = some w → okV al' w) → va_S (xA g) s.heap H1 locs1 → W p l e R s m args below meth c H1 locs1 (cells + mc) (slots + ms) Qs (F0 m (pc + 3) ls ((v.map (dv ad')).toList ++ rest))) : W p l e R s m args below meth c H locs cells slots Qs (F0 m pc ls st0) := by
  intro T hT X
  obtain ⟨v2, st₀, t, T', L, h0, X', hL, e1, e2, ⟨⟨ad', q1, q2, q3, q4⟩, hz, hk⟩, st⟩ := hr T hT X
  cases q2
  rw [h0] at hz hk
  have hal : s.vm.Alike t.vm := by rw [← e2]; exact X'.warmed.alike
  obtain ⟨t2, a1, b1⟩ := kk ad' T'.heap (locs ++ L) q1 (by rw [e1]; exact q3.moved hal.symm) q4
    ⟨Nat.le_trans hS.1 (by rw [e1]; exact hz), fun q h1 h2 => by rw [e1, hk q (Nat.lt_of_lt_of_le h1 hS.1) h2]; exact hS.2.1 q h1 h2, fun q hq => by
      rcases List.mem_append.mp hq with h | h
      · exact hS.2.2 q h
      · exact hL q h⟩ T' rfl X'
  exact ⟨t2, st t2 a1, b1⟩
/-- the receiver: its class -/
theorem xrecv {s : State} {ad : Nat → Nat} {H : Heap} {o : Nat} {C : String} (hv : VMk g s) (hr : HR g ad h al s H) (ho : al o = true) (hC : (kd o < 11 ∧ C = RR (kd o)) ∨ (kd o = 90 ∧ 183 ≤ o ∧ o ≤ 190 ∧ C = "java/lang/String")) : ∃ cellB : Cell, H[ad o]? = some cellB ∧ cellB.vm.isStatics = false ∧ s.vm.findClass C = some cellB.cls := by
  rcases hC with ⟨h1, rfl⟩ | ⟨h1, h2, h3, rfl⟩
  · obtain ⟨cell, q1, q2, q3, -⟩ := (hr.1 o ho).2.1 (by omega)
    exact ⟨cell, q1, by rw [q3]; rfl, by rw [q2]; exact (hv.1.1 _ _ (xcl_at _ h1)).2.1⟩
  · obtain ⟨-, -, hS, -⟩ := hr.2.2.2.2.2.2
    obtain ⟨cell, q1, q2, q3, -⟩ := (hS.1 (o - 183) (by omega)).1
    have e : 183 + (o - 183) = o := by omega
    simp only [e] at q1
    exact ⟨cell, q1, q2, q3⟩
theorem map_opt {ad : Nat → Nat} (v : Option XV) (r : SL) : (v.toList ++ r).map (dv ad) = (v.map (dv ad)).toList ++ r.map (dv ad) := by
  cases v <;> simp
theorem ok_ret {al1 : AL} {v : Option XV} {r : SL} (h1 : ∀ w, v = some w → okV al1 w) (h2 : okS al1 r) : okS al1 (v.toList ++ r) := by
  intro w hw
  rcases List.mem_append.mp hw with q | q
  · cases v with
    | none => cases q
    | some z => rw [List.mem_singleton.mp q]; exact h1 z rfl
  · exact h2 w q
theorem XPc.of {As : SL} {ad : Nat → Nat} {p : Program} {R : Room} {s : State} {m : MethodId} {args : Array Value} {meth : Method} {c : Code} {H : Heap} {locs : List Loc} (hC : Cx g d M h al ad p R s m args meth c H locs) (hA : okS al As) : ∀ U : State, U.heap = H → s.WarmedH U.vm → XPc g ad As h al (As.map (dv ad)).toArray U := by
  intro U hU hW
  refine ⟨rfl, by rw [hU]; exact hC.hr.moved hW.alike, hC.vm.warm hW, fun w hw => vk_R.warm hW (hC.2.2.2.2.2.2.2.2.2.2.1 w hw), ⟨by rw [hU]; exact Nat.le_trans hC.2.2.2.2.2.2.2.2.2.2.2.1.1 hC.ss.1, hC.2.2.2.2.2.2.2.2.2.2.2.1.2⟩, hA⟩
theorem xs_callV {ix n o : Nat} {yy : MethodName} {As : SL} {host : String} (hD : decode M.2.1 pc = .ok (.invokevirtual ix, 3)) (hrc : (kd o < 11 ∧ yy.cls = RR (kd o)) ∨ (kd o = 90 ∧ 183 ≤ o ∧ o ≤ 190 ∧ yy.cls = "java/lang/String")) (hn : As.length = n)
    (hp : (parseMethodDescriptor yy.desc).map (fun d => d.parameters.length) = some n) (hy : yy.cls ≠ "java/lang/invoke/MethodHandle" ∧ yy.cls ≠ "java/lang/invoke/VarHandle")
    (w1 : Cond.methodLink M.1.cls ix yy ∈ gT ∨ Cond.methodLinkNest M.1.cls ix yy host ∈ nT) (w2 : Cond.instanceMethod yy ∈ gT) (w3 : Cond.selects yy.cls yy yy ∈ gT) (w4 : Cond.initialized yy.cls ∈ gT) (h8 : csum r ≤ 8)
    (hk : Call g d yy (xr (Int.ofNat o) :: As) h al fun v h' al' => XW g d M Q (pc + 3) L (v.toList ++ r) h' al') : XW g d M Q pc L (As.reverse ++ xr (Int.ofNat o) :: r) h al := by
  obtain ⟨v, h', al', ⟨hm, bytes, maxL, ret, h45, hcode, hM⟩, hk⟩ := hk
  refine XW.hs hk hm fun p l e R s m args below meth c0 H locs cells slots ad ls Qc hC hl hol hos hr1 hr2 hw => ?_
  have hos1 : okS al (xr (Int.ofNat o) :: As) := fun w hw => hos w (by rcases List.mem_cons.mp hw with q | q <;> simp [q])
  have hos2 : okS al r := fun w hw => hos w (by simp [hw])
  have ho := ok_o hos1.hd
  have hR := hC.2.2.2.2.2.2.2.2.1
  have hpre : PreV s H yy.cls (ad o) (XPc g ad (xr (Int.ofNat o) :: As) h al) (As.map (dv ad)) := by
    refine ⟨XPc.blind, xrecv hC.vm hC.hr ho hrc, fun U hU hW => ?_⟩
    have := XPc.of hC hos1 U hU hW
    rw [List.map_cons, dv_o] at this
    exact this
  have hcat : 2 * (F0 m pc ls ((As.reverse ++ xr (Int.ofNat o) :: r).map (dv ad))).monitorRoom + ((r.map (dv ad)).map fun v => v.category).sum ≤ 8 := by rw [csum_cat]; show 2 * 0 + _ ≤ 8; omega
  have hst : (As.reverse ++ xr (Int.ofNat o) :: r).map (dv ad) = (As.map (dv ad)).reverse ++ .ref (ad o) :: r.map (dv ad) := by rw [List.map_append, List.map_cons, dv_o, List.map_reverse]
  have hlen : ∀ sig, parseMethodDescriptor yy.desc = some sig → n = sig.parameters.length := fun sig hs => by rw [hs] at hp; exact (Option.some.inj hp).symm
  have hrun : va_Run p l e R s m args below meth c0 H locs cells slots (cnt al' - cnt al) (slt g al' - slt g al) (F0 m pc ls ((As.reverse ++ xr (Int.ofNat o) :: r).map (dv ad))) (r.map (dv ad)) (fun st oc t => Qx g ad al v h' al' st oc t) (xA g) := by
    rcases w1 with w1 | w1
    · exact va_runV (Ts := gT) (nL := M.2.2.1) (n := n) ⟨hC.1, hC.2.1, hC.2.2.1, hC.own, hC.ts⟩ (hM l ad) ⟨⟨rfl, rfl, by show d + 1 ≤ _; omega, by show 8 + (maxL + 11) + 64 * d ≤ _; omega, pay_in hC.ts (gT_in hcode), List.mem_cons_self, hC.ts _ hcode, hC.ts _ w4, hy, hlen, hC.ts _ w1⟩, hC.ts _ w2, hC.ts _ w3⟩ hpre rfl (by rw [List.length_map]; exact hn) hl.2.1 hst hcat hD ⟨hr1, hr2⟩
    · exact va_runVN (Ts := gT) (nL := M.2.2.1) (n := n) ⟨hC.1, hC.2.1, hC.2.2.1, hC.own, hC.ts⟩ (hM l ad) ⟨⟨⟨rfl, rfl, by show d + 1 ≤ _; omega, by show 8 + (maxL + 11) + 64 * d ≤ _; omega, pay_in hC.ts (gT_in hcode), List.mem_cons_self⟩, hC.ts _ hcode, hC.ts _ w4, hy, hlen, va_Nw.use rfl (hC.vm.2.1 _ w1)⟩, hC.ts _ w2, hC.ts _ w3⟩ hpre rfl (by rw [List.length_map]; exact hn) hl.2.1 hst hcat hD ⟨hr1, hr2⟩
  refine W.callx hrun hC.ss fun ad' H1 locs1 q1 q2 q3 q4 => ?_
  have := hw ad' H1 locs1 q1 q2 q4 (ok_ret q3 fun w hw => (hos2 w hw).up hm)
  rw [map_opt, map_ad q1 r hos2] at this
  exact this
theorem xs_callI {ix n o : Nat} {yy : MethodName} {As : SL} {host : String} (hD : decode M.2.1 pc = .ok (.invokespecial ix, 3)) (hi : yy.name = "<init>") (hnone : ∀ bytes maxL ret, Cond.code yy bytes maxL ret ∈ gT → ret = none) (hn : As.length = n)
    (hp : (parseMethodDescriptor yy.desc).map (fun d => d.parameters.length) = some n) (hy : yy.cls ≠ "java/lang/invoke/MethodHandle" ∧ yy.cls ≠ "java/lang/invoke/VarHandle")
    (w1 : Cond.methodLink M.1.cls ix yy ∈ gT ∨ Cond.methodLinkNest M.1.cls ix yy host ∈ nT) (w2 : Cond.instanceMethod yy ∈ gT) (w4 : Cond.initialized yy.cls ∈ gT) (h8 : csum r ≤ 8)
    (hk : Call g d yy (xr (Int.ofNat o) :: As) h al fun v h' al' => XW g d M Q (pc + 3) L (v.toList ++ r) h' al') : XW g d M Q pc L (As.reverse ++ xr (Int.ofNat o) :: r) h al := by
  obtain ⟨v, h', al', ⟨hm, bytes, maxL, ret, h45, hcode, hM⟩, hk⟩ := hk
  have hret := hnone _ _ _ hcode
  subst hret
  refine XW.hs hk hm fun p l e R s m args below meth c0 H locs cells slots ad ls Qc hC hl hol hos hr1 hr2 hw => ?_
  have hos1 : okS al (xr (Int.ofNat o) :: As) := fun w hw => hos w (by rcases List.mem_cons.mp hw with q | q <;> simp [q])
  have hos2 : okS al r := fun w hw => hos w (by simp [hw])
  have hR := hC.2.2.2.2.2.2.2.2.1
  have hpre : PreS s H (XPc g ad (xr (Int.ofNat o) :: As) h al) (.ref (ad o) :: As.map (dv ad)) := by
    refine ⟨XPc.blind, fun U hU hW => ?_⟩
    have := XPc.of hC hos1 U hU hW
    rw [List.map_cons, dv_o] at this
    exact this
  have hcat : 2 * (F0 m pc ls ((As.reverse ++ xr (Int.ofNat o) :: r).map (dv ad))).monitorRoom + ((r.map (dv ad)).map fun v => v.category).sum ≤ 8 := by rw [csum_cat]; show 2 * 0 + _ ≤ 8; omega
  have hst : (As.reverse ++ xr (Int.ofNat o) :: r).map (dv ad) = (As.map (dv ad)).reverse ++ .ref (ad o) :: r.map (dv ad) := by rw [List.map_append, List.map_cons, dv_o, List.map_reverse]
  have hlen : ∀ sig, parseMethodDescriptor yy.desc = some sig → n = sig.parameters.length := fun sig hs => by rw [hs] at hp; exact (Option.some.inj hp).symm
  have hrun : va_Run p l e R s m args below meth c0 H locs cells slots (cnt al' - cnt al) (slt g al' - slt g al) (F0 m pc ls ((As.reverse ++ xr (Int.ofNat o) :: r).map (dv ad))) (r.map (dv ad)) (fun st oc t => Qx g ad al v h' al' st oc t) (xA g) := by
    rcases w1 with w1 | w1
    · exact va_runI (Ts := gT) (nL := M.2.2.1) (n := n) ⟨hC.1, hC.2.1, hC.2.2.1, hC.own, hC.ts⟩ (hM l ad) ⟨⟨rfl, rfl, by show d + 1 ≤ _; omega, by show 8 + (maxL + 11) + 64 * d ≤ _; omega, pay_in hC.ts (gT_in hcode), List.mem_cons_self, hC.ts _ hcode, hC.ts _ w4, hy, hlen, hC.ts _ w1⟩, hi, hC.ts _ w2⟩ hpre rfl (by rw [List.length_map]; exact hn) hl.2.1 hst hcat hD ⟨hr1, hr2⟩
    · exact va_runIN (Ts := gT) (nL := M.2.2.1) (n := n) ⟨hC.1, hC.2.1, hC.2.2.1, hC.own, hC.ts⟩ (hM l ad) ⟨⟨⟨rfl, rfl, by show d + 1 ≤ _; omega, by show 8 + (maxL + 11) + 64 * d ≤ _; omega, pay_in hC.ts (gT_in hcode), List.mem_cons_self⟩, hC.ts _ hcode, hC.ts _ w4, hy, hlen, va_Nw.use rfl (hC.vm.2.1 _ w1)⟩, hi, hC.ts _ w2⟩ hpre rfl (by rw [List.length_map]; exact hn) hl.2.1 hst hcat hD ⟨hr1, hr2⟩
  refine W.callx hrun hC.ss fun ad' H1 locs1 q1 q2 q3 q4 => ?_
  have := hw ad' H1 locs1 q1 q2 q4 (ok_ret q3 fun w hw => (hos2 w hw).up hm)
  rw [map_opt, map_ad q1 r hos2] at this
  exact this
theorem xs_callS {ix n : Nat} {yy : MethodName} {As : SL} {host : String} (hD : decode M.2.1 pc = .ok (.invokestatic ix, 3)) (hn : As.length = n)
    (hp : (parseMethodDescriptor yy.desc).map (fun d => d.parameters.length) = some n) (hy : yy.cls ≠ "java/lang/invoke/MethodHandle" ∧ yy.cls ≠ "java/lang/invoke/VarHandle")
    (w1 : Cond.methodLink M.1.cls ix yy ∈ gT ∨ Cond.methodLinkNest M.1.cls ix yy host ∈ nT) (w2 : Cond.static yy ∈ gT) (w4 : Cond.initialized yy.cls ∈ gT) (h8 : csum r ≤ 8)
    (hk : Call g d yy As h al fun v h' al' => XW g d M Q (pc + 3) L (v.toList ++ r) h' al') : XW g d M Q pc L (As.reverse ++ r) h al := by
  obtain ⟨v, h', al', ⟨hm, bytes, maxL, ret, h45, hcode, hM⟩, hk⟩ := hk
  refine XW.hs hk hm fun p l e R s m args below meth c0 H locs cells slots ad ls Qc hC hl hol hos hr1 hr2 hw => ?_
  have hos1 : okS al As := fun w hw => hos w (by simp [hw])
  have hos2 : okS al r := fun w hw => hos w (by simp [hw])
  have hR := hC.2.2.2.2.2.2.2.2.1
  have hpre : PreS s H (XPc g ad As h al) (As.map (dv ad)) := ⟨XPc.blind, XPc.of hC hos1⟩
  have hcat : 2 * (F0 m pc ls ((As.reverse ++ r).map (dv ad))).monitorRoom + ((r.map (dv ad)).map fun v => v.category).sum ≤ 8 := by rw [csum_cat]; show 2 * 0 + _ ≤ 8; omega
  have hst : (As.reverse ++ r).map (dv ad) = (As.map (dv ad)).reverse ++ r.map (dv ad) := by rw [List.map_append, List.map_reverse]
  have hlen : ∀ sig, parseMethodDescriptor yy.desc = some sig → n = sig.parameters.length := fun sig hs => by rw [hs] at hp; exact (Option.some.inj hp).symm
  have hrun : va_Run p l e R s m args below meth c0 H locs cells slots (cnt al' - cnt al) (slt g al' - slt g al) (F0 m pc ls ((As.reverse ++ r).map (dv ad))) (r.map (dv ad)) (fun st oc t => Qx g ad al v h' al' st oc t) (xA g) := by
    rcases w1 with w1 | w1
    · exact va_runS (Ts := gT) (nL := M.2.2.1) (n := n) ⟨hC.1, hC.2.1, hC.2.2.1, hC.own, hC.ts⟩ (hM l ad) ⟨⟨rfl, rfl, by show d + 1 ≤ _; omega, by show 8 + (maxL + 11) + 64 * d ≤ _; omega, pay_in hC.ts (gT_in hcode), List.mem_cons_self, hC.ts _ hcode, hC.ts _ w4, hy, hlen, hC.ts _ w1⟩, hC.ts _ w2⟩ hpre rfl (by rw [List.length_map]; exact hn) hl.2.1 hst hcat hD ⟨hr1, hr2⟩
    · exact va_runSN (Ts := gT) (nL := M.2.2.1) (n := n) ⟨hC.1, hC.2.1, hC.2.2.1, hC.own, hC.ts⟩ (hM l ad) ⟨⟨⟨rfl, rfl, by show d + 1 ≤ _; omega, by show 8 + (maxL + 11) + 64 * d ≤ _; omega, pay_in hC.ts (gT_in hcode), List.mem_cons_self⟩, hC.ts _ hcode, hC.ts _ w4, hy, hlen, va_Nw.use rfl (hC.vm.2.1 _ w1)⟩, hC.ts _ w2, trivial⟩ hpre rfl (by rw [List.length_map]; exact hn) hl.2.1 hst hcat hD ⟨hr1, hr2⟩
  refine W.callx hrun hC.ss fun ad' H1 locs1 q1 q2 q3 q4 => ?_
  have := hw ad' H1 locs1 q1 q2 q4 (ok_ret q3 fun w hw => (hos2 w hw).up hm)
  rw [map_opt, map_ad q1 r hos2] at this
  exact this
/-- an end -/
theorem XW.ret {v : Option XV} (hq : Q v h al) (row : ∀ (p : Program) (l : Launch) (e : Env) (R : Room) (s : State) (m : MethodId) (args : Array Value) (below : List Frame) (meth : Method) (c : Code) (H : Heap) (locs : List Loc) (mc ms : Nat) (ad : Nat → Nat) (ls : Array Slot) (Qc : Array Value → State → Outcome → State → Prop), Cx g d M h al ad p R s m args meth c H locs → okS al S → (∀ t : State, t.heap = H → s.WarmedH t.vm → Qc args s (.returned (v.map (dv ad))) t) → W p l e R s m args below meth c H locs mc ms (MQ below Qc args s mc ms (xA g)) (F0 m pc ls (S.map (dv ad)))) (ok : okS al S → ∀ w, v = some w → okV al w) : XW g d M Q pc L S h al := by
  refine ⟨v, h, al, hq, fun _ q => q, ?_⟩
  intro p l e R s m args below meth c H locs cells slots mc ms ad ls Qc hC hl hol hos h1 h2 h3 h4 hQ
  rw [Nat.sub_self, Nat.add_zero] at h1 h2
  exact W.widen h1 h2 (row p l e R s m args below meth c H locs mc ms ad ls Qc hC hos fun t ht hW => hQ ad t (fun _ _ => rfl) (by rw [ht]; exact hC.hr) hW (hC.ss.F ht) (ok hos))
theorem ok1 {v : XV} : okS al [v] → ∀ w, some v = some w → okV al w := fun q w e => by cases e; exact q.hd
theorem xs_iret (hD : decode M.2.1 pc = .ok (.ireturn, 1)) (hR : M.2.2.2.1 = some .int) (hq : Q (some (xi x)) h al) : XW g d M Q pc L [xi x] h al :=
  XW.ret hq (fun p l e R s m args below meth c H locs mc ms ad ls Qc hC hos hQ => W.iret hC.1 hC.2.1 (by rw [hC.2.2.2.2.2.1]; exact hR) hQ hC.ss.2.2 hD hC.2.2.2.2.2.2.1) ok1
theorem xs_zret {ty : FieldType} (hD : decode M.2.1 pc = .ok (.ireturn, 1)) (hR : M.2.2.2.1 = some ty) (hn : narrow ty (.int (Int32.ofInt x)) = .int (Int32.ofInt x)) (hq : Q (some (xi x)) h al) : XW g d M Q pc L [xi x] h al :=
  XW.ret hq (fun p l e R s m args below meth c H locs mc ms ad ls Qc hC hos hQ => W.zret hC.1 hC.2.1 (by rw [hC.2.2.2.2.2.1]; exact hR) hn hQ hC.ss.2.2 hD hC.2.2.2.2.2.2.1) ok1
theorem xs_lret (hD : decode M.2.1 pc = .ok (.lreturn, 1)) (hR : M.2.2.2.1 = some .long) (hq : Q (some (xl x)) h al) : XW g d M Q pc L [xl x] h al :=
  XW.ret hq (fun p l e R s m args below meth c H locs mc ms ad ls Qc hC hos hQ => W.lret hC.1 hC.2.1 (by rw [hC.2.2.2.2.2.1]; exact hR) hQ hC.ss.2.2 hD hC.2.2.2.2.2.2.1) ok1
theorem xs_aret {C : String} (hD : decode M.2.1 pc = .ok (.areturn, 1)) (hR : M.2.2.2.1 = some (.object C)) (hq : Q (some (xr x)) h al) : XW g d M Q pc L [xr x] h al :=
  XW.ret hq (fun p l e R s m args below meth c H locs mc ms ad ls Qc hC hos hQ => by
    have hv : dv ad (xr x) = .null ∨ ∃ a, dv ad (xr x) = .ref a := by
      by_cases q : x < 0
      · exact Or.inl (by simp [dv, q])
      · exact Or.inr ⟨ad x.toNat, by simp [dv, q]⟩
    exact W.aret hC.1 hC.2.1 (by rw [hC.2.2.2.2.2.1]; exact hR) (Or.inl ⟨C, rfl⟩) hv hQ hC.ss.2.2 hD hC.2.2.2.2.2.2.1) ok1
theorem xs_vret (hD : decode M.2.1 pc = .ok (.return_, 1)) (hR : M.2.2.2.1 = none) (hq : Q none h al) : XW g d M Q pc L [] h al :=
  XW.ret hq (fun p l e R s m args below meth c H locs mc ms ad ls Qc hC hos hQ => W.vret hC.1 hC.2.1 (by rw [hC.2.2.2.2.2.1]; exact hR) hQ hC.ss.2.2 hD hC.2.2.2.2.2.2.1) (fun _ w e => by cases e)
end SND6
/-- the locals at the entry -/
def entL : SL → Nat → LL
  | [], n => List.replicate n none
  | .inr (.inl z) :: l, n => some (xl z) :: none :: entL l (n - 2)
  | v :: l, n => some v :: entL l (n - 1)
theorem getL_rep : ∀ (n j : Nat) (w : XV), getL (List.replicate n none) j = some w → False := by
  intro n
  induction n with
  | zero => intro j w h; cases h
  | succ n ih =>
    intro j w h
    cases j with
    | zero => cases h
    | succ j => exact ih j w h
theorem entL_len : ∀ (As : SL) (n : Nat), csum As ≤ n → (entL As n).length = n := by
  intro As
  induction As with
  | nil => intro n _; simp [entL]
  | cons v l ih =>
    intro n h
    rcases v with x | x | x
    · have h' : 1 + csum l ≤ n := h
      simp only [entL, List.length_cons]
      rw [ih (n - 1) (by omega)]; omega
    · have h' : 2 + csum l ≤ n := h
      simp only [entL, List.length_cons]
      rw [ih (n - 2) (by omega)]; omega
    · have h' : 1 + csum l ≤ n := h
      simp only [entL, List.length_cons]
      rw [ih (n - 1) (by omega)]; omega
theorem entL_get {ad : Nat → Nat} : ∀ (As : SL) (n k j : Nat) (w : XV), getL (entL As n) j = some w → (k + j, dv ad w) ∈ lv_args k (As.map (dv ad)) ∧ w ∈ As := by
  intro As
  induction As with
  | nil => intro n k j w h; exact (getL_rep n j w h).elim
  | cons v l ih =>
    intro n k j w h
    have key1 : (dv ad v).category = 1 → entL (v :: l) n = some v :: entL l (n - 1) → (k + j, dv ad w) ∈ lv_args k ((v :: l).map (dv ad)) ∧ w ∈ v :: l := by
      intro hc he
      rw [he] at h
      rw [List.map_cons]
      show (k + j, dv ad w) ∈ (k, dv ad v) :: lv_args (if (dv ad v).category = 2 then k + 2 else k + 1) (l.map (dv ad)) ∧ _
      rw [if_neg (by omega)]
      cases j with
      | zero =>
        cases h
        exact ⟨List.mem_cons_self, List.mem_cons_self⟩
      | succ j =>
        have := ih (n - 1) (k + 1) j w h
        rw [show k + 1 + j = k + (j + 1) by omega] at this
        exact ⟨List.mem_cons_of_mem _ this.1, List.mem_cons_of_mem _ this.2⟩
    rcases v with x | x | x
    · exact key1 rfl rfl
    · have h2 : getL (some (xl x) :: none :: entL l (n - 2)) j = some w := h
      rw [List.map_cons]
      show (k + j, dv ad w) ∈ (k, dv ad (xl x)) :: lv_args (k + 2) (l.map (dv ad)) ∧ _
      cases j with
      | zero =>
        cases h2
        exact ⟨List.mem_cons_self, List.mem_cons_self⟩
      | succ j =>
        cases j with
        | zero => cases h2
        | succ j =>
          have := ih (n - 2) (k + 2) j w h2
          rw [show k + 2 + j = k + (j + 1 + 1) by omega] at this
          exact ⟨List.mem_cons_of_mem _ this.1, List.mem_cons_of_mem _ this.2⟩
    · exact key1 cat1 rfl
theorem lg_len {ad : Nat → Nat} : ∀ As : SL, (lg_sl (As.map (dv ad))).length = csum As := by
  intro As
  induction As with
  | nil => rfl
  | cons v l ih =>
    rw [List.map_cons]
    have h1 : ∀ w : Value, (lg_sl (w :: l.map (dv ad))).length = w.category + (lg_sl (l.map (dv ad))).length := by
      intro w
      cases w <;> simp [lg_sl, Value.category] <;> omega
    rw [h1, ih]
    rcases v with x | x | x
    · rfl
    · rfl
    · show (dv ad (xr x)).category + _ = 1 + csum l
      rw [cat1]
theorem call_of {g : GC} {d : Nat} {M : MD} {K : Option XV → HH → AL → Prop} {As : SL} {h : HH} {al : AL} (hy : plainName M.1.cls = true) (h45 : M.2.2.1 ≤ 45) (hcode : Cond.code M.1 M.2.1 M.2.2.1 M.2.2.2.1 ∈ gT) (hlen : csum As ≤ M.2.2.1)
    (hx : XW g d M K 0 (entL As M.2.2.1) [] h al) : Call g (d + 1) M.1 As h al K := by
  obtain ⟨r, h', al', hq, hm, hw⟩ := hx
  refine ⟨r, h', al', ⟨hm, M.2.1, M.2.2.1, M.2.2.2.1, h45, hcode, fun l ad => ?_⟩, hq⟩
  refine Met.ofW (cc := M.2.1) (maxL := M.2.2.1) (ret := M.2.2.2.1) hy rfl ?_
  intro p e s m args below meth c s₁ B hml hv
  obtain ⟨rfl, q2, q3, q4, q5, q6⟩ := hv
  have hts : ∀ w ∈ gT, w.before (As.map (dv ad)).toArray s = true := fun w hw => atoms_spec (ws := Cond.code M.1 M.2.1 M.2.2.1 M.2.2.2.1 :: gT) B.pre w (List.mem_cons_of_mem _ hw)
  have hown : s.vm.findClass M.1.cls = some m.cls := findClass_of_methodNamed B.named
  have hin : meth.name = M.1.name := (name_of_methodNamed B.named B.method).1
  have hl := lv_entry (As.map (dv ad)) (n := M.2.2.1) (by rw [lg_len]; exact hlen)
  rw [lg_entry_eq]
  generalize (lg_sl (As.map (dv ad)) ++ List.replicate (M.2.2.1 - (lg_sl (As.map (dv ad))).length) Slot.unset).toArray = ls at hl ⊢
  have hLH : LH ad ls M.2.2.1 (entL As M.2.2.1) := by
    refine ⟨by rw [entL_len As _ hlen]; exact Nat.le_refl _, hl.1, hl.2.1, fun q hq => ?_⟩
    obtain ⟨j, w, rfl, hw2⟩ := lvO_of _ 0 q hq
    exact hl.2.2 _ (entL_get As _ 0 j w hw2).1
  have hCx : Cx g d M h al ad p (Rm (d + 1) (cnt al' - cnt al) (slt g al' - slt g al)) s m (As.map (dv ad)).toArray meth c s.heap [] :=
    ⟨B.exec, B.bytes, hml, hown, hts, B.returns, B.notSynchronized, hin, ⟨Nat.le_refl _, Nat.le_refl _⟩, q3, q4, q5, q2, va_S.rf⟩
  refine hw p l e (Rm (d + 1) (cnt al' - cnt al) (slt g al' - slt g al)) s m (As.map (dv ad)).toArray below meth c s.heap [] 0 0 _ _ ad ls _ hCx hLH (fun j w hj => q6 w (entL_get (ad := ad) As _ 0 j w hj).2) (fun w hw => by cases hw) (by omega) (by omega) (Nat.le_refl _) (Nat.le_refl _) fun ad' t a1 a2 a3 a4 a5 => ?_
  exact ⟨⟨ad', a1, rfl, a2.moved a3.alike, a5⟩, a4⟩
