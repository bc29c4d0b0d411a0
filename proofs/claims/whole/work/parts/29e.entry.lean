/-! THE CLAIM OUT OF ONE WALK OF THE LAW'S BODY. Your part is whole_start (and what it stands on); all else here is the same for every law, but numbers. -/
def R_law : String := "ByLotLaw"
def lw_P (b : Addr) (xs : List Int32) (args : Array Value) (s : State) : Prop := args = #[.ref b] ∧ s.IntsAt b xs ∧ xs.length ≤ 3072 ∧ (Jvm.Cond.and given_1 narrow_1).before args s = true
def lw_Q (_ : Array Value) (s : State) (o : Outcome) (t : State) : Prop := o = .returned (some (.int 1)) ∧ Framed s o t [] 600000 7302250
def lw_Z (below : List Frame) (a : Array Value) (s : State) : State → Prop := fun t => ∃ o, t.status = .running ∧ Ended t below o ∧ lw_Q a s o t
/-- the law's own end, with 1 on the stack, nothing written that was there before, its room as the claim has it -/
theorem lw_ret {p : Program} {l : Launch} {e : Env} {s : State} {m : MethodId} {below : List Frame} {meth : Method} {c : Code} {b : Nat} (hx : p.tables.exec = Jvm.exec) (hb : c.code = code) (hr : meth.sig.returnType = ret) (hlocks : meth.locks = false) {pc : Nat} {H : Heap} {ls : Array Slot} (hdg : decode code pc = .ok (.ireturn, 1)) : W p l e room_1 s m #[Value.ref b] below meth c H [] 600000 7302250 (lw_Z below #[Value.ref b] s) (F0 m pc ls [.int 1]) := by
  intro T hT X
  obtain ⟨fs, hret, hrun, hended, hW, hframe⟩ := X.leave (v := some (.int 1)) (hlocks := hlocks) (fun h => by rw [hr] at h; cases h)
  have hmeth' : T.vm.method? m = some meth := X.method'
  refine ⟨T.setFrames fs, ?_, .returned (some (.int 1)), hrun, hended, rfl, ⟨_, rfl⟩, hW, hframe⟩
  jvm_step X.here [X.here.top, hx, hb, hdg, hmeth', hr, ret, narrow_b1]
  (try refine ⟨rfl, ?_⟩); (try refine ⟨rfl, ?_⟩)
  first | (intro acts; rw [hret _ acts rfl rfl rfl]) | rw [hret _ _ rfl rfl rfl]
  exact Steps.refl _
/-- what holds at the law's entry: the machine, the code, the tables' words (any of lw_tbl by 'hts w (by decide +kernel)'), the script of L ints xs at the cell b, what the Statement gives of the start (any of its parts by flat_of_before) -/
def lw_At (p : Program) (s : State) (m : MethodId) (meth : Method) (c : Code) (b L : Nat) (xs : Nat → Int32) : Prop :=
  p.tables.exec = Jvm.exec ∧ c.code = code ∧ meth.sig.returnType = ret ∧ c.maxLocals = 4 ∧ s.vm.findClass R_law = some m.cls ∧ (∀ w ∈ lw_tbl, w.before #[Value.ref b] s = true) ∧ va_X b L xs s s.heap ∧ b < s.heap.size ∧ meth.locks = false ∧ (Jvm.Cond.and given_1 narrow_1).before #[Value.ref b] s = true
-- ===== from the entry =====
theorem W.post {p : Program} {l : Launch} {e : Env} {R : Room} {s : State} {m : MethodId} {args : Array Value} {below : List Frame} {meth : Method} {c : Code} {H : Heap} {locs : List Loc} {cells slots : Nat} {Q1 Q2 : State → Prop} {g : JFrame} (h : ∀ t, Q1 t → Q2 t) (k : W p l e R s m args below meth c H locs cells slots Q1 g) : W p l e R s m args below meth c H locs cells slots Q2 g := by
  intro T hT X
  obtain ⟨t, a, b⟩ := k T hT X
  exact ⟨t, a, h t b⟩
theorem same_forget {s s' : State} {L : List Loc} {c n : Nat} (h : s.sameButNew s' L c n) (hf : ∀ q ∈ L, s.heap.size ≤ q.base) : s.sameButNew s' [] c n := by
  obtain ⟨h1, h2, h3, h4, h5, h6⟩ := h
  refine ⟨h1, h2, h3, h4, h5, fun a c hc => ?_⟩
  obtain ⟨c', k1, k2, k3, k4⟩ := h6 a c hc
  exact ⟨c', k1, k2, k3, fun i _ => k4 i fun hm => absurd (hf _ hm) (Nat.not_le.mpr (Array.getElem?_eq_some_iff.mp hc).1)⟩
theorem cntN_le {al : AL} {f : Nat → Nat} {B : Nat} (h : ∀ a, a < 566 → f a ≤ B) : ∀ n, n ≤ 566 → cntN n al f ≤ n * B := by
  intro n
  induction n with
  | zero => intro _; exact Nat.zero_le _
  | succ n ih =>
    intro hn
    have h1 := ih (by omega)
    have h2 := h n (by omega)
    have e : (n + 1) * B = n * B + B := Nat.succ_mul n B
    simp only [cntN]
    cases al n with
    | true => simp only [cond_true]; omega
    | false => simp only [cond_false]; omega
theorem szA_le {g : GC} {a : Nat} (ha : a < 566) : szA g a ≤ 6840 := by
  by_cases e : a = 180
  · subst e
    exact Nat.zero_le _
  · have c : ck 566 (fun a => Nat.ble (cond (Nat.ble (kd a) 79) (cond (Nat.ble (kd a) 49) (ftl (kd a)).length (lnS a)) 0) 6840) = true := by decide +kernel
    have h := Nat.le_of_ble_eq_true (ck_of c ha)
    have e2 : ln g a = lnS a := by
      unfold ln
      rw [nbf e]
      rfl
    unfold szA szO
    rw [e2]
    exact h
theorem cnt_le {al : AL} : cnt al ≤ 566 := by
  have := cntN_le (al := al) (f := fun _ => 1) (B := 1) (fun _ _ => Nat.le_refl _) 566 (Nat.le_refl _)
  unfold cnt
  omega
theorem slt_le {g : GC} {al : AL} : slt g al ≤ 7302250 := by
  have := cntN_le (al := al) (f := szA g) (B := 6840) (fun _ => szA_le) 566 (Nat.le_refl _)
  unfold slt
  omega
theorem inst_in : ∀ c, c < 11 → Cond.instantiable (RR c) (NF c) ∈ lw_tbl := by
  refine c11 ?_ ?_ ?_ ?_ ?_ ?_ ?_ ?_ ?_ ?_ ?_ <;> decide +kernel
theorem kn_all {s : State} {args : Array Value} (hts : ∀ w ∈ lw_tbl, w.before args s = true) : ∃ (C : Nat → ClassId) (I : Nat → Nat → Nat), ∀ c, c < 11 → u_Kn s (RR c) (TT c) (NF c) (C c) (I c) := by
  have h : ∀ c, ∃ q : ClassId × (Nat → Nat), c < 11 → u_Kn s (RR c) (TT c) (NF c) q.1 q.2 := by
    intro c
    by_cases hc : c < 11
    · obtain ⟨a, b, h⟩ := u_known (n := NF c) (ws := gT) (fun w hw => hts w (List.mem_filter.mp hw).1) (lay_in c hc) (hts _ (inst_in c hc))
      exact ⟨(a, b), fun _ => h⟩
    · exact ⟨((0 : Nat), fun _ => 0), fun h => absurd h hc⟩
  exact ⟨fun c => (Classical.choose (h c)).1, fun c => (Classical.choose (h c)).2, fun c hc => Classical.choose_spec (h c) hc⟩
theorem arr_p {s : State} {args : Array Value} {ty : FieldType} (h : (Cond.arrayClass ty).before args s = true) : ∃ c : ClassId, ArrOfT s c ty ∧ s.vm.findClass ("[" ++ ty.toString) = some c := by
  obtain ⟨c, k, comp, h1, h2, h3⟩ := Cond.arrayClass_spec h
  exact ⟨c, fun n z => ⟨(fun k h => by cases h), k, h2, comp, h3⟩, h1⟩
theorem arr_o {s : State} {args : Array Value} {C : String} (h : (Cond.arrayOver (.object C)).before args s = true) : ∃ c : ClassId, ArrOfT s c (.object C) ∧ va_RA s c (.object C) := by
  obtain ⟨comp, c, k, f1, f2, f3, f4, f5⟩ := Cond.arrayOver_spec h
  exact ⟨c, fun n z => ⟨(fun k h => by cases h), k, f3, comp, f4⟩, k, comp, f3, f4, f1, f5⟩
theorem arr_all {s : State} {args : Array Value} (hts : ∀ w ∈ lw_tbl, w.before args s = true) : ∃ T : Nat → ClassId, ∀ t, t < 7 → ArrOfT s (T t) (aty t) ∧ va_RA s (T t) (aty t) := by
  have h : ∀ t, ∃ q : ClassId, t < 7 → ArrOfT s q (aty t) ∧ va_RA s q (aty t) := by
    intro t
    by_cases ht : t < 7
    · have e : t = 0 ∨ t = 1 ∨ t = 2 ∨ t = 3 ∨ t = 4 ∨ t = 5 ∨ t = 6 := by omega
      rcases e with rfl | rfl | rfl | rfl | rfl | rfl | rfl
      · obtain ⟨c, h1, h2⟩ := arr_p (hts (.arrayClass .int) (by decide +kernel))
        exact ⟨c, fun _ => ⟨h1, h2⟩⟩
      · obtain ⟨c, h1, h2⟩ := arr_p (hts (.arrayClass .long) (by decide +kernel))
        exact ⟨c, fun _ => ⟨h1, h2⟩⟩
      · obtain ⟨c, h1, h2⟩ := arr_p (hts (.arrayClass .boolean) (by decide +kernel))
        exact ⟨c, fun _ => ⟨h1, h2⟩⟩
      · obtain ⟨c, h1, h2⟩ := arr_o (hts (.arrayOver (.object RX3)) (by decide +kernel))
        exact ⟨c, fun _ => ⟨h1, h2⟩⟩
      · obtain ⟨c, h1, h2⟩ := arr_o (hts (.arrayOver (.object RX7)) (by decide +kernel))
        exact ⟨c, fun _ => ⟨h1, h2⟩⟩
      · obtain ⟨c, h1, h2⟩ := arr_o (hts (.arrayOver (.object RX2)) (by decide +kernel))
        exact ⟨c, fun _ => ⟨h1, h2⟩⟩
      · obtain ⟨c, h1, h2⟩ := arr_o (hts (.arrayOver (.object RX5)) (by decide +kernel))
        exact ⟨c, fun _ => ⟨h1, h2⟩⟩
    · exact ⟨(0 : Nat), fun h => absurd h ht⟩
  exact ⟨fun t => Classical.choose (h t), fun t ht => Classical.choose_spec (h t) ht⟩
/-- what the Statement gives of the start, part by part -/
def fl0 : List Cond := flatC (Jvm.Cond.and given_1 narrow_1)
abbrev tKA : Term := .static "ByLot" "KIND_ABOVE" "[I"
abbrev tBO : Term := .static "ByLot$Acts" "BODIES" "[I"
def sIx : List Nat := [43, 89, 91, 107, 109, 111, 113, 115]
abbrev tmS (i : Nat) : Term := .string "ByLot$Text" (sIx.getD i 0)
abbrev tmV (i : Nat) : Term := .field (tmS i) "java/lang/String" "value" "[B"
def inF (w : Cond) : Bool := decide (w ∈ fl0)
theorem inF_of {w : Cond} (h : inF w = true) : w ∈ fl0 := of_decide_eq_true h
theorem f_ka : ck 7 (fun j => inF (.eq (.elem tKA (.int (Int32.ofNat j))) (.int (Int32.ofInt (kaT.getD j 0))))) = true := by decide +kernel
theorem f_bo : ck 21 (fun j => inF (.eq (.elem tBO (.int (Int32.ofNat j))) (.int (Int32.ofInt (boT.getD j 0))))) = true := by decide +kernel
theorem f_s1 : ck 8 (fun i => inF (.exactly (tmS i) "java/lang/String") && (inF (.eq (.field (tmS i) "java/lang/String" "coder" "B") (.int 0)) && (inF (.arrayOf (tmV i) .byte) && inF (.eq (.length (tmV i)) (.int (Int32.ofNat (sLen.getD i 0))))))) = true := by decide +kernel
theorem f_s2 : ck 8 (fun i => ck (sLen.getD i 0) (fun j => inF (.eq (.elem (tmV i) (.int (Int32.ofNat j))) (.int ((sByt.getD i []).getD j 0))))) = true := by decide +kernel
theorem f_s3 : ck 8 (fun i => ck 8 (fun j => Nat.beq i j || (inF (.not (.eq (tmS i) (tmS j))) || inF (.not (.eq (tmS j) (tmS i)))))) = true := by decide +kernel
