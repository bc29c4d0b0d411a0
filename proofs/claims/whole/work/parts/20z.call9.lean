-- a call with nine words behind its arguments
theorem le44 {y : MethodName} {b : ByteArray} {m : Nat} {r : Option FieldType} (h : Cond.code y b m r ∈ gT) : m ≤ 44 := by
  have c : (lw_tbl.all fun w => match w with | .code _ _ m _ => Nat.ble m 44 | _ => true) = true := by decide +kernel
  exact Nat.le_of_ble_eq_true (List.all_eq_true.mp c _ (List.mem_filter.mp h).1)
section V9
variable {p : Program} {l : Launch} {e : Env} {R : Room} {s : State} {m : MethodId} {args : Array Value} {below : List Frame} {meth : Method} {c : Code} {H : Heap} {locs : List Loc} {cells slots : Nat}
variable {y : MethodName} {bytes cc : ByteArray} {maxL nL mc ms n index : Nat} {ret : Option FieldType} {ws : List Cond} {rm : Room} {Pc : Array Value → State → Prop} {Qc : Array Value → State → Outcome → State → Prop} {free : Addr → Prop} {Ts : List Cond} {own C : String} {b : Addr} {As rest : List Value} {g : JFrame}
theorem va_runV9 (S : CallFix p m c cc nL s args Ts own) (hM : Met l y ws rm Pc Qc mc ms free) (cw : CallW R s args own C index y bytes maxL ret ws rm mc ms n) (h9 : 9 + (maxL + 11) + rm.locals ≤ R.locals) (hp : PreV s H C b Pc As)
    (hg : g.method = m) (hn : As.length = n) (hsize : g.locals.size = nL) (hstack : g.stack = As.reverse ++ .ref b :: rest) (hW : 2 * g.monitorRoom + (rest.map fun v => v.category).sum ≤ 9) (hdg : decode cc g.pc = .ok (.invokevirtual index, 3)) (hf : cells + mc ≤ R.cells ∧ slots + ms ≤ R.slots) :
    va_Run p l e R s m args below meth c H locs cells slots mc ms g rest (Qc (Value.ref b :: As).toArray) (free) := by
  have hK : Back l R p e below s args y 3 9 (PreOf R mc ms Pc) (PostOf Qc mc ms free) := by
    obtain ⟨⟨hrc, hrs, hfr, -, hws, hcw, -, hini, -⟩, -⟩ := cw
    exact back_of (bytes := bytes) (maxL := maxL) (ret := ret) hM hp.1 hrc hrs hfr h9 hws hcw (fun a' U hW => word_at hW (Or.inl (by first | rfl | simp [Cond.onTables, Cond.keeps, Cond.steady])) hini)
  obtain ⟨⟨-, -, -, -, -, -, hcode, -, hy, hlen, hl⟩, hin, hse⟩ := cw
  obtain ⟨hx, hb, hml, ho, -⟩ := S
  obtain ⟨-, ⟨cellB, hcB, hoB, hclB⟩, hPc⟩ := hp
  intro T hT X
  obtain ⟨v, vm₁, ⟨U', l2, c2, s2⟩, hW₁, X', ⟨g', mk, t, L, e1, e2, hq, h1, hL, h2, h3⟩, st⟩ := callV X hx (C := C) (bytes := bytes) (maxL := maxL) (ret := ret) ho hl hin hse hcode hy hK (by rw [hT]; exact hcB) hoB hclB hg (hsize.trans hml.symm) (argsL := As) (rest := rest) (fun sig h => hn.trans (hlen sig h)) hstack hW (by rw [hb]; exact hdg)
    (fun vm₁ hW₁ => ⟨hf.1, hf.2, hPc (T.setVm vm₁) hT hW₁⟩)
  dsimp only [Pt.U, Pt.locs, Pt.cells, Pt.slots] at X' e1 e2 h1 h2 h3 st
  subst h1; subst h2; subst h3
  exact ⟨v, (T.setVm vm₁).calling g' mk (Value.ref b :: As).toArray, t, U', L, hT, X', hL, e1, e2, hq, st⟩
end V9
section W9
variable {g : GC} {d : Nat} {M : MD} {Q : Option XV → HH → AL → Prop} {pc : Nat} {L : LL} {S r : SL} {h : HH} {al : AL}
theorem xs_callV9 {ix n o : Nat} {yy : MethodName} {As : SL} (hD : decode M.2.1 pc = .ok (.invokevirtual ix, 3)) (hrc : (kd o < 11 ∧ yy.cls = RR (kd o)) ∨ (kd o = 90 ∧ 183 ≤ o ∧ o ≤ 190 ∧ yy.cls = "java/lang/String")) (hn : As.length = n)
    (hp : (parseMethodDescriptor yy.desc).map (fun d => d.parameters.length) = some n) (hy : yy.cls ≠ "java/lang/invoke/MethodHandle" ∧ yy.cls ≠ "java/lang/invoke/VarHandle")
    (w1 : Cond.methodLink M.1.cls ix yy ∈ gT) (w2 : Cond.instanceMethod yy ∈ gT) (w3 : Cond.selects yy.cls yy yy ∈ gT) (w4 : Cond.initialized yy.cls ∈ gT) (h8 : csum r ≤ 9)
    (hk : Call g d yy (xr (Int.ofNat o) :: As) h al fun v h' al' => XW g d M Q (pc + 3) L (v.toList ++ r) h' al') : XW g d M Q pc L (As.reverse ++ xr (Int.ofNat o) :: r) h al := by
  obtain ⟨v, h', al', ⟨hm, bytes, maxL, ret, h45, hcode, hM⟩, hk⟩ := hk
  have h44 := le44 hcode
  refine XW.hs hk hm fun p l e R s m args below meth c0 H locs cells slots ad ls Qc hC hl hol hos hr1 hr2 hw => ?_
  have hos1 : okS al (xr (Int.ofNat o) :: As) := fun w hw => hos w (by rcases List.mem_cons.mp hw with q | q <;> simp [q])
  have hos2 : okS al r := fun w hw => hos w (by simp [hw])
  have ho := ok_o hos1.hd
  have hR := hC.2.2.2.2.2.2.2.2.1
  have hpre : PreV s H yy.cls (ad o) (XPc g ad (xr (Int.ofNat o) :: As) h al) (As.map (dv ad)) := by
    refine ⟨XPc.blind, xrecv hC.vm hC.hr ho hrc, fun U hU hW => ?_⟩
    have := XPc.of hC hos1 U hU hW
    rw [List.map_cons, dv_o] at this
    exact this
  have hcat : 2 * (F0 m pc ls ((As.reverse ++ xr (Int.ofNat o) :: r).map (dv ad))).monitorRoom + ((r.map (dv ad)).map fun v => v.category).sum ≤ 9 := by rw [csum_cat]; show 2 * 0 + _ ≤ 9; omega
  have hst : (As.reverse ++ xr (Int.ofNat o) :: r).map (dv ad) = (As.map (dv ad)).reverse ++ .ref (ad o) :: r.map (dv ad) := by rw [List.map_append, List.map_cons, dv_o, List.map_reverse]
  have hlen : ∀ sig, parseMethodDescriptor yy.desc = some sig → n = sig.parameters.length := fun sig hs => by rw [hs] at hp; exact (Option.some.inj hp).symm
  have hrun : va_Run p l e R s m args below meth c0 H locs cells slots (cnt al' - cnt al) (slt g al' - slt g al) (F0 m pc ls ((As.reverse ++ xr (Int.ofNat o) :: r).map (dv ad))) (r.map (dv ad)) (fun st oc t => Qx g ad al v h' al' st oc t) (xA g) := by
    exact va_runV9 (Ts := gT) (nL := M.2.2.1) (n := n) ⟨hC.1, hC.2.1, hC.2.2.1, hC.own, hC.ts⟩ (hM l ad) ⟨⟨rfl, rfl, by show d + 1 ≤ _; omega, by show 8 + (maxL + 11) + 64 * d ≤ _; omega, pay_in hC.ts (gT_in hcode), List.mem_cons_self, hC.ts _ hcode, hC.ts _ w4, hy, hlen, hC.ts _ w1⟩, hC.ts _ w2, hC.ts _ w3⟩ (by show 9 + (maxL + 11) + 64 * d ≤ _; omega) hpre rfl (by rw [List.length_map]; exact hn) hl.2.1 hst hcat hD ⟨hr1, hr2⟩
  refine W.callx hrun hC.ss fun ad' H1 locs1 q1 q2 q3 q4 => ?_
  have := hw ad' H1 locs1 q1 q2 q4 (ok_ret q3 fun w hw => (hos2 w hw).up hm)
  rw [map_opt, map_ad q1 r hos2] at this
  exact this
theorem XW_call9 {ix a b w o : Nat} {yy : MethodName} {As : SL} (hM : okM M = true) (hf : xfetch M pc = qm (.invokevirtual ix) 3 a b w 0 yy) (hko : kd o = b) (hn : As.length = a) (h8 : csum r ≤ 9)
    (hk : Call g d yy (xr (Int.ofNat o) :: As) h al fun v h' al' => XW g d M Q (pc + 3) L (v.toList ++ r) h' al') : XW g d M Q pc L (As.reverse ++ xr (Int.ofNat o) :: r) h al := by
  have hI := okM_at hM pc
  rw [hf] at hI
  obtain ⟨hD, hX⟩ := ins_of hI (fun q => by cases q)
  simp only [insX, Bool.and_eq_true, decide_eq_true_eq] at hX
  rw [Bool.or_eq_true] at hX
  simp only [Bool.and_eq_true, decide_eq_true_eq] at hX
  obtain ⟨-, hb, hy, hl, h1, h2⟩ := hX
  obtain ⟨y1, y2, y3⟩ := y_of hy
  refine xs_callV9 hD ?_ hn y1 y2 (gat_in hl) (gin_in h1) (gin_in h2) y3 h8 hk
  rcases hb with ⟨b1, b2⟩ | ⟨b1, b2⟩
  · exact Or.inl ⟨by rw [hko]; exact b1, by rw [hko]; exact b2⟩
  · have := kd_str o (by rw [hko]; exact b1)
    exact Or.inr ⟨by rw [hko]; exact b1, this.1, this.2, b2⟩
end W9
