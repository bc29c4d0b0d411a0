-- the texts' own members: length, charAt, indexOf
theorem w_val : Cond.fieldLink "java/lang/String" 9 "java/lang/String" "value" "[B" ∈ gT := by decide +kernel
theorem w_cod : Cond.fieldLink "java/lang/String" 15 "java/lang/String" "coder" "B" ∈ gT := by decide +kernel
theorem w_cmp : Cond.fieldLink "java/lang/String" 38 "java/lang/String" "COMPACT_STRINGS" "Z" ∈ gT := by decide +kernel
theorem w_fmt : Cond.fieldLink "java/lang/String" 1053 "jdk/internal/util/Preconditions" "SIOOBE_FORMATTER" "Ljava/util/function/BiFunction;" ∈ gT := by decide +kernel
/-- the byte at j of the text i -/
def sb (i j : Nat) : Int := ((sByt.getD i []).getD j 0).toInt
def sn (i : Nat) : Nat := sLen.getD i 0
theorem lv_args_pre {A B : List Value} : ∀ (k : Nat) (q : Nat × Value), q ∈ lv_args k A → q ∈ lv_args k (A ++ B) := by
  induction A with
  | nil => intro k q h; cases h
  | cons a A ih =>
    intro k q h
    rcases List.mem_cons.mp h with e | e
    · rw [e]; exact List.mem_cons_self
    · exact List.mem_cons_of_mem _ (ih _ q e)
section ST1
variable {g : GC} {d : Nat} {M : MD} {Q : KT} {pc : Nat} {L : LL} {S r : SL} {h : HH} {al : AL} {x y : Int}
theorem XW_sval {ix i : Nat} (hi : i < 8) (hD : decode M.2.1 pc = .ok (.getfield ix, 3)) (hw : Cond.fieldLink M.1.cls ix "java/lang/String" "value" "[B" ∈ gT) (hk : XW g d M Q (pc + 3) L (xr (Int.ofNat (191 + i)) :: r) h al) : XW g d M Q pc L (xr (Int.ofNat (183 + i)) :: r) h al := by
  refine XW.hp hk fun p l e R s m args below meth c0 H locs cells slots ad ls Qc hC hl hol hos hw2 => ?_
  have hr := hC.hr
  have hw3 := hw2 (okS.cons (Or.inr ⟨Int.natCast_nonneg _, by exact hr.2.2.2.2.2.1 (191 + i) (by omega) (by omega)⟩) hos.tl)
  rw [List.map_cons, dv_o] at hw3 ⊢
  obtain ⟨-, -, hS, -⟩ := hr.2.2.2.2.2.2
  obtain ⟨cf, k, fi, f, cell, h1, h2, h3, h4, h5, h6⟩ := (hS.1 i hi).2.2.1
  exact W.getf hC.1 hC.2.1 hC.own (hC.ts _ hw) h1 h2 h3 h4 (v := .ref (ad (191 + i))) h5 rfl rfl hD hw3
theorem XW_scod {ix i : Nat} (hi : i < 8) (hD : decode M.2.1 pc = .ok (.getfield ix, 3)) (hw : Cond.fieldLink M.1.cls ix "java/lang/String" "coder" "B" ∈ gT) (hk : XW g d M Q (pc + 3) L (xi 0 :: r) h al) : XW g d M Q pc L (xr (Int.ofNat (183 + i)) :: r) h al := by
  refine XW.hp hk fun p l e R s m args below meth c0 H locs cells slots ad ls Qc hC hl hol hos hw2 => ?_
  have hr := hC.hr
  have hw3 := hw2 (okS.cons (show (-2147483648 : Int) ≤ 0 ∧ (0 : Int) < 2147483648 by decide) hos.tl)
  rw [List.map_cons] at hw3
  rw [List.map_cons, dv_o]
  obtain ⟨-, -, hS, -⟩ := hr.2.2.2.2.2.2
  obtain ⟨cf, k, fi, f, cell, h1, h2, h3, h4, h5, h6⟩ := (hS.1 i hi).2.1
  exact W.getf hC.1 hC.2.1 hC.own (hC.ts _ hw) h1 h2 h3 h4 (v := .int 0) h5 rfl rfl hD hw3
theorem XW_scmp {ix : Nat} (hD : decode M.2.1 pc = .ok (.getstatic ix, 3)) (hw : Cond.fieldLink M.1.cls ix "java/lang/String" "COMPACT_STRINGS" "Z" ∈ gT) (hk : XW g d M Q (pc + 3) L (xi 1 :: S) h al) : XW g d M Q pc L S h al := by
  refine XW.hp hk fun p l e R s m args below meth c0 H locs cells slots ad ls Qc hC hl hol hos hw2 => ?_
  have hr := hC.hr
  have hw3 := hw2 (okS.cons (show (-2147483648 : Int) ≤ 1 ∧ (1 : Int) < 2147483648 by decide) hos)
  rw [List.map_cons] at hw3
  obtain ⟨cf, kf, fi, f, a0, cell, z1, z2, z3, z4, z5, z6, z7, z8⟩ := hr.2.2.2.2.2.2.2.2.2.1
  exact W.gets hC.1 hC.2.1 hC.own (hC.ts _ hw) z1 z2 z3 z4 z5 (fun e => by rw [e] at z6; cases z6) z7 rfl hD hw3
theorem i32nat {n : Nat} : Int32.ofInt (n : Int) = Int32.ofNat n := Int32.toBitVec_inj.mp (BitVec.ofInt_natCast 32 n)
theorem sn_lt {i : Nat} (hi : i < 8) : sn i < 10 := by
  have h : ck 8 (fun i => decide (sn i < 10)) = true := by decide +kernel
  exact of_decide_eq_true (ck_of h hi)
theorem XW_slen {i : Nat} (hi : i < 8) (hD : decode M.2.1 pc = .ok (.arraylength, 1)) (hk : XW g d M Q (pc + 1) L (xi (sn i : Int) :: r) h al) : XW g d M Q pc L (xr (Int.ofNat (191 + i)) :: r) h al := by
  refine XW.hp hk fun p l e R s m args below meth c0 H locs cells slots ad ls Qc hC hl hol hos hw2 => ?_
  have hr := hC.hr
  have hn := sn_lt hi
  have hw3 := hw2 (okS.cons (show -2147483648 ≤ (sn i : Int) ∧ (sn i : Int) < 2147483648 by omega) hos.tl)
  rw [List.map_cons, show dv ad (xi (sn i : Int)) = .int (Int32.ofNat (sn i)) from congrArg Value.int i32nat] at hw3
  rw [List.map_cons, dv_o]
  obtain ⟨-, -, hS, -⟩ := hr.2.2.2.2.2.2
  obtain ⟨cell, h1, h2, h3, h4, h5, h6, h7⟩ := (hS.1 i hi).2.2.2
  exact W.alen (n := Int32.ofNat (sn i)) hC.1 hC.2.1 h1 h2 h5 rfl rfl hD hw3
theorem XW_sbald {i j : Nat} (hi : i < 8) (hj : j < sn i) (hD : decode M.2.1 pc = .ok (.baload, 1)) (hk : XW g d M Q (pc + 1) L (xi (sb i j) :: r) h al) : XW g d M Q pc L (xi (j : Int) :: xr (Int.ofNat (191 + i)) :: r) h al := by
  refine XW.hp hk fun p l e R s m args below meth c0 H locs cells slots ad ls Qc hC hl hol hos hw2 => ?_
  have hr := hC.hr
  have hn := sn_lt hi
  have hw3 := hw2 (okS.cons (show -2147483648 ≤ sb i j ∧ sb i j < 2147483648 from toI_rg _) hos.tl.tl)
  rw [List.map_cons, show dv ad (xi (sb i j)) = .int ((sByt.getD i []).getD j 0) from congrArg Value.int (Int32.ofInt_toInt _)] at hw3
  rw [List.map_cons, List.map_cons, dv_o]
  obtain ⟨-, -, hS, -⟩ := hr.2.2.2.2.2.2
  obtain ⟨cell, h1, h2, h3, h4, h5, h6, h7⟩ := (hS.1 i hi).2.2.2
  have hx : ¬ (Int32.ofInt (j : Int) < 0 ∨ cell.slots.size ≤ (Int32.ofInt (j : Int)).toNatClampNeg) := by
    refine ixok (n := cell.slots.size) ⟨by omega, ?_⟩ (by omega)
    have : sn i ≤ cell.slots.size := h4
    omega
  exact W.bald (v := .int ((sByt.getD i []).getD j 0)) hC.1 hC.2.1 h1 h2 h3 hx (by rw [clampI (by omega) (by omega)]; exact h6 j hj) rfl rfl hD hw3
def XPq (g : GC) (ad : Nat → Nat) (As : SL) (q : Option Nat) (h : HH) (al : AL) : Array Value → State → Prop := va_Pc (As.map (dv ad) ++ [rq q]) (fun U => HR g ad h al U U.heap ∧ VMk g U ∧ SK ad U ∧ (g.2.2.2.1 ≤ U.heap.size ∧ g.2.2.2.2 ≤ 3072) ∧ okS al As)
theorem XPq.blind {ad : Nat → Nat} {As : SL} {q : Option Nat} : FrameBlind (XPq g ad As q h al) := by
  intro a U j mk q
  obtain ⟨q1, q2, q3, q4, q5, q6⟩ := q
  refine ⟨q1, HR.moved (u := U) (U := U.calling j mk a) (Vm.Alike.refl U.vm) q2, VMk.same (s := U) (U := U.calling j mk a) rfl q3, fun w hw => vk_R.same (u := U) (U := U.calling j mk a) rfl (q4 w hw), q5, q6⟩
theorem XPq.of {As : SL} {q : Option Nat} {ad : Nat → Nat} {p : Program} {R : Room} {s : State} {m : MethodId} {args : Array Value} {meth : Method} {c : Code} {H : Heap} {locs : List Loc} (hC : Cx g d M h al ad p R s m args meth c H locs) (hA : okS al As) : ∀ U : State, U.heap = H → s.WarmedH U.vm → XPq g ad As q h al (As.map (dv ad) ++ [rq q]).toArray U := by
  intro U hU hW
  refine ⟨rfl, by rw [hU]; exact hC.hr.moved hW.alike, hC.vm.warm hW, fun w hw => vk_R.warm hW (hC.2.2.2.2.2.2.2.2.2.2.1 w hw), ⟨by rw [hU]; exact Nat.le_trans hC.2.2.2.2.2.2.2.2.2.2.2.1.1 hC.ss.1, hC.2.2.2.2.2.2.2.2.2.2.2.1.2⟩, hA⟩
theorem lg_sl1 {A : List Value} {q : Option Nat} : (lg_sl (A ++ [rq q])).length = (lg_sl A).length + 1 := by
  unfold lg_sl
  rw [List.flatMap_append, List.length_append]
  cases q <;> rfl
/-- a method's contract, where one reference more comes behind what it looks at -/
theorem met_ofQ {M : MD} {K : KT} {As : SL} (hy : plainFor M.1 = true) (hlen : csum As + 1 ≤ M.2.2.1)
    (hx : XW g d M K 0 (entL As M.2.2.1) [] h al) : ∃ (r : Option XV) (h' : HH) (al' : AL), K r h' al' ∧ (∀ a, al a = true → al' a = true) ∧
      ∀ (l : Launch) (ad : Nat → Nat) (q : Option Nat), Met l M.1 (Cond.code M.1 M.2.1 M.2.2.1 M.2.2.2.1 :: gT) (Rm (d + 1) (cnt al' - cnt al) (slt g al' - slt g al)) (XPq g ad As q h al) (fun _ st oc t => Qx g ad al r h' al' st oc t) (cnt al' - cnt al) (slt g al' - slt g al) (xA g) := by
  obtain ⟨r, h', al', hq, hm, hw⟩ := hx
  refine ⟨r, h', al', hq, hm, fun l ad qq => ?_⟩
  refine Met.ofWF (cc := M.2.1) (maxL := M.2.2.1) (ret := M.2.2.2.1) hy rfl ?_
  intro p e s m args below meth c s₁ B hml hv
  obtain ⟨rfl, q2, q3, q4, q5, q6⟩ := hv
  have hts : ∀ w ∈ gT, w.before (As.map (dv ad) ++ [rq qq]).toArray s = true := fun w hw => atoms_spec (ws := Cond.code M.1 M.2.1 M.2.2.1 M.2.2.2.1 :: gT) B.pre w (List.mem_cons_of_mem _ hw)
  have hown : s.vm.findClass M.1.cls = some m.cls := findClass_of_methodNamed B.named
  have hin : meth.name = M.1.name := (name_of_methodNamed B.named B.method).1
  have hl := lv_entry (As.map (dv ad) ++ [rq qq]) (n := M.2.2.1) (by rw [lg_sl1, lg_len]; exact hlen)
  rw [lg_entry_eq]
  generalize (lg_sl (As.map (dv ad) ++ [rq qq]) ++ List.replicate (M.2.2.1 - (lg_sl (As.map (dv ad) ++ [rq qq])).length) Slot.unset).toArray = ls at hl ⊢
  have hLH : LH ad ls M.2.2.1 (entL As M.2.2.1) := by
    refine ⟨by rw [entL_len As _ (by omega)]; exact Nat.le_refl _, hl.1, hl.2.1, fun q hq => ?_⟩
    obtain ⟨j, w, rfl, hw2⟩ := lvO_of _ 0 q hq
    exact hl.2.2 _ (lv_args_pre _ _ (entL_get As _ 0 j w hw2).1)
  have hCx : Cx g d M h al ad p (Rm (d + 1) (cnt al' - cnt al) (slt g al' - slt g al)) s m (As.map (dv ad) ++ [rq qq]).toArray meth c s.heap [] :=
    ⟨B.exec, B.bytes, hml, hown, hts, B.returns, B.notSynchronized, hin, ⟨Nat.le_refl _, Nat.le_refl _⟩, q3, q4, q5, q2, va_S.rf⟩
  refine hw p l e (Rm (d + 1) (cnt al' - cnt al) (slt g al' - slt g al)) s m (As.map (dv ad) ++ [rq qq]).toArray below meth c s.heap [] 0 0 _ _ ad ls _ hCx hLH (fun j w hj => q6 w (entL_get (ad := ad) As _ 0 j w hj).2) (fun w hw => by cases hw) (by omega) (by omega) (Nat.le_refl _) (Nat.le_refl _) fun ad' t a1 a2 a3 a4 a5 => ?_
  exact ⟨⟨ad', a1, rfl, a2.moved a3.alike, a5⟩, a4⟩
/-- the formatter is read, then a static method called with it behind its other arguments -/
theorem XW_fmtS {ix ix2 n : Nat} {M2 : MD} {As : SL} (hD1 : decode M.2.1 pc = .ok (.getstatic ix, 3)) (hw : Cond.fieldLink M.1.cls ix "jdk/internal/util/Preconditions" "SIOOBE_FORMATTER" "Ljava/util/function/BiFunction;" ∈ gT) (hD : decode M.2.1 (pc + 3) = .ok (.invokestatic ix2, 3)) (hC2 : OC M2) (hn : As.length + 1 = n) (hlen : csum As + 1 ≤ M2.2.2.1)
    (hp : (parseMethodDescriptor M2.1.desc).map (fun d => d.parameters.length) = some n) (hy : M2.1.cls ≠ "java/lang/invoke/MethodHandle" ∧ M2.1.cls ≠ "java/lang/invoke/VarHandle")
    (w1 : Cond.methodLink M.1.cls ix2 M2.1 ∈ gT) (w2 : Cond.static M2.1 ∈ gT) (w4 : Cond.initialized M2.1.cls ∈ gT) (h8 : csum r ≤ 8)
    (hk : XW g d M2 (fun v h' al' => XW g (d + 1) M Q (pc + 6) L (v.toList ++ r) h' al') 0 (entL As M2.2.2.1) [] h al) : XW g (d + 1) M Q pc L (As.reverse ++ r) h al := by
  obtain ⟨v, h', al', hk, hm, hM⟩ := met_ofQ hC2.1 hlen hk
  refine XW.hs hk hm fun p l e R s m args below meth c0 H locs cells slots ad ls Qc hC hl hol hos hr1 hr2 hw5 => ?_
  have hos1 : okS al As := fun w hw => hos w (by simp [hw])
  have hos2 : okS al r := fun w hw => hos w (by simp [hw])
  have hR := hC.2.2.2.2.2.2.2.2.1
  have h45 := hC2.2.1
  have hcode : Cond.code M2.1 M2.2.1 M2.2.2.1 M2.2.2.2.1 ∈ gT := List.mem_filter.mpr ⟨List.mem_of_getElem? hC2.2.2, rfl⟩
  obtain ⟨q, cf, kf, fi, f, a0, cell, z1, z2, z3, z4, z5, z6, z7, z8⟩ := hC.hr.2.2.2.2.2.2.2.2.2.2
  refine W.gets hC.1 hC.2.1 hC.own (hC.ts _ hw) z1 z2 z3 z4 z5 (fun e => by rw [e] at z6; cases z6) z7 (by cases q <;> rfl) hD1 ?_
  show W p l e R s m args below meth c0 H locs cells slots _ (F0 m (pc + 3) ls (rq q :: (As.reverse ++ r).map (dv ad)))
  have hpre : PreS s H (XPq g ad As q h al) (As.map (dv ad) ++ [rq q]) := ⟨XPq.blind, XPq.of hC hos1⟩
  have hcat : 2 * (F0 m (pc + 3) ls (rq q :: (As.reverse ++ r).map (dv ad))).monitorRoom + ((r.map (dv ad)).map fun v => v.category).sum ≤ 8 := by rw [csum_cat]; show 2 * 0 + _ ≤ 8; omega
  have hst : rq q :: (As.reverse ++ r).map (dv ad) = (As.map (dv ad) ++ [rq q]).reverse ++ r.map (dv ad) := by rw [List.map_append, List.map_reverse, List.reverse_append]; rfl
  have hlen2 : ∀ sig, parseMethodDescriptor M2.1.desc = some sig → n = sig.parameters.length := fun sig hs => by rw [hs] at hp; exact (Option.some.inj hp).symm
  have hrun : va_Run p l e R s m args below meth c0 H locs cells slots (cnt al' - cnt al) (slt g al' - slt g al) (F0 m (pc + 3) ls (rq q :: (As.reverse ++ r).map (dv ad))) (r.map (dv ad)) (fun st oc t => Qx g ad al v h' al' st oc t) (xA g) :=
    va_runS (Ts := gT) (nL := M.2.2.1) (n := n) ⟨hC.1, hC.2.1, hC.2.2.1, hC.own, hC.ts⟩ (hM l ad q) ⟨⟨rfl, rfl, by show d + 1 + 1 ≤ _; omega, by show 8 + (M2.2.2.1 + 11) + 64 * (d + 1) ≤ _; omega, pay_in hC.ts (gT_in hcode), List.mem_cons_self, hC.ts _ hcode, hC.ts _ w4, hy, hlen2, hC.ts _ w1⟩, hC.ts _ w2⟩ hpre rfl (by rw [List.length_append, List.length_map]; exact hn) hl.2.1 hst hcat hD ⟨hr1, hr2⟩
  refine W.callx hrun hC.ss fun ad' H1 locs1 q1 q2 q3 q4 => ?_
  have := hw5 ad' H1 locs1 q1 q2 q4 (ok_ret q3 fun w hw => (hos2 w hw).up hm)
  rw [map_opt, map_ad q1 r hos2] at this
  exact this
end ST1
