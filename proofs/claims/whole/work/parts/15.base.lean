-- a method's contract from its walk
theorem Met.ofWF {y : MethodName} {ws ws' : List Cond} {rm : Room} {Pc : Array Value → State → Prop} {Qc : Array Value → State → Outcome → State → Prop} {mc ms : Nat} {free : Addr → Prop} {cc : ByteArray} {maxL : Nat} {ret : Option FieldType}
    {l0 : Launch} (hy : plainFor y = true) (hw : ws = Cond.code y cc maxL ret :: ws')
    (body : ∀ p e s m args below meth c s₁, BodyLoose p l0 y (headSpec ws rm) cc maxL ret e s m args below meth c s₁ → c.maxLocals = maxL → Pc args s →
      W p l0 e (headSpec ws rm).room s m args below meth c s.heap [] 0 0 (MQ below Qc args s mc ms free) (entryFrame m args maxL)) : Met l0 y ws rm Pc Qc mc ms free := by
  refine MetFree.of_bodySF (code := cc) (maxLocals := maxL) (ret := ret) hy ?_ ?_
  · intro args s m h hn
    obtain ⟨meth, c, h1, h2, h3, h4, h5, h6, -, -⟩ := Cond.code_spec hn (atoms_spec (ws := ws) h _ (by rw [hw]; exact List.mem_cons_self))
    exact ⟨meth, c, h1, h2, h3, h4, h5, h6⟩
  · intro p e s m args below meth c s₁ B hml hP _
    have hh0 : s₁.heap = s.heap := by rw [B.state]; rfl
    obtain ⟨t, a1, o, b1, b2, b3⟩ := body p e s m args below meth c s₁ B hml hP s₁ hh0 (Stand.of_body B)
    exact ⟨t, o, a1, b1, b2, ⟨b3.1, b3.2⟩⟩
theorem call_ofF {g : GC} {d : Nat} {M : MD} {K : Option XV → HH → AL → Prop} {As : SL} {h : HH} {al : AL} (hy : plainFor M.1 = true) (h45 : M.2.2.1 ≤ 45) (hcode : Cond.code M.1 M.2.1 M.2.2.1 M.2.2.2.1 ∈ gT) (hlen : csum As ≤ M.2.2.1)
    (hx : XW g d M K 0 (entL As M.2.2.1) [] h al) : Call g (d + 1) M.1 As h al K := by
  obtain ⟨r, h', al', hq, hm, hw⟩ := hx
  refine ⟨r, h', al', ⟨hm, M.2.1, M.2.2.1, M.2.2.2.1, h45, hcode, fun l ad => ?_⟩, hq⟩
  refine Met.ofWF (cc := M.2.1) (maxL := M.2.2.1) (ret := M.2.2.2.1) hy rfl ?_
  intro p e s m args below meth c s₁ B hml hv
  obtain ⟨rfl, q2, q3, q4, q5, q6⟩ := hv
  have hts : ∀ w ∈ gT, w.before (As.map (dv ad)).toArray s = true := fun w hw => atoms_spec (ws := Cond.code M.1 M.2.1 M.2.2.1 M.2.2.2.1 :: gT) B.pre w (List.mem_cons_of_mem _ hw)
  have hown : s.vm.findClass M.1.cls = some m.cls := findClass_of_methodNamed B.named
  have hin : meth.name = M.1.name := (name_of_methodNamed B.named B.method).1
  have hl := lv_entry (As.map (dv ad)) (n := M.2.2.1) (by rw [lg_len]; exact hlen)
  rw [lg_entry_eq]
  generalize (lg_sl (As.map (dv ad)) ++ List.replicate (M.2.2.1 - (lg_sl (As.map (dv ad))).length) Slot.unset).toArray = ls at hl ⊢
  have hLH : LH ad ls M.2.2.1 (entL As M.2.2.1) := by
    refine ⟨by rw [entL_len As _ hlen]; exact Nat.le_refl _, hl.1, hl.2.1, fun q hq => ?_⟩
    obtain ⟨j, w, rfl, hw2⟩ := lvO_of _ 0 q hq
    exact hl.2.2 _ (entL_get As _ 0 j w hw2).1
  have hCx : Cx g d M h al ad p (Rm (d + 1) (cnt al' - cnt al) (slt g al' - slt g al)) s m (As.map (dv ad)).toArray meth c s.heap [] :=
    ⟨B.exec, B.bytes, hml, hown, hts, B.returns, B.notSynchronized, hin, ⟨Nat.le_refl _, Nat.le_refl _⟩, q3, q4, q5, q2, va_S.rf⟩
  refine hw p l e (Rm (d + 1) (cnt al' - cnt al) (slt g al' - slt g al)) s m (As.map (dv ad)).toArray below meth c s.heap [] 0 0 _ _ ad ls _ hCx hLH (fun j w hj => q6 w (entL_get (ad := ad) As _ 0 j w hj).2) (fun w hw => by cases hw) (by omega) (by omega) (Nat.le_refl _) (Nat.le_refl _) fun ad' t a1 a2 a3 a4 a5 => ?_
  exact ⟨⟨ad', a1, rfl, a2.moved a3.alike, a5⟩, a4⟩
def OC (M : MD) : Prop := plainFor M.1 = true ∧ M.2.2.1 ≤ 45 ∧ lw_tbl[M.2.2.2.2.2.1]? = some (.code M.1 M.2.1 M.2.2.1 M.2.2.2.1)
theorem cof {g : GC} {d : Nat} {M : MD} {K : Option XV → HH → AL → Prop} {As : SL} {h : HH} {al : AL} (hC : OC M) (hlen : Nat.ble (csum As) M.2.2.1 = true) (hx : XW g d M K 0 (entL As M.2.2.1) [] h al) : Call g (d + 1) M.1 As h al K :=
  call_ofF hC.1 hC.2.1 (List.mem_filter.mpr ⟨List.mem_of_getElem? hC.2.2, rfl⟩) (Nat.le_of_ble_eq_true hlen) hx
theorem ite_i {c : Prop} [Decidable c] {p q : Prop} (a : c → p) (b : ¬ c → q) : if c then p else q := by
  by_cases e : c
  · rw [if_pos e]; exact a e
  · rw [if_neg e]; exact b e
theorem ite_t {c : Prop} [Decidable c] {p q : Prop} (e : c) (a : p) : if c then p else q := by rw [if_pos e]; exact a
theorem ite_f {c : Prop} [Decidable c] {p q : Prop} (e : ¬ c) (a : q) : if c then p else q := by rw [if_neg e]; exact a
theorem cond_i {c : Bool} {p q : Prop} (e : c = true) (a : p) : cond c p q := by rw [e]; exact a
set_option maxRecDepth 100000 in
theorem ocAc_begin : OC mAc_begin := ⟨by decide +kernel, by decide, rfl⟩
set_option maxRecDepth 100000 in
theorem ocAc_from : OC mAc_from := ⟨by decide +kernel, by decide, rfl⟩
set_option maxRecDepth 100000 in
theorem ocAc_init : OC mAc_init := ⟨by decide +kernel, by decide, rfl⟩
set_option maxRecDepth 100000 in
theorem ocAc_own : OC mAc_own := ⟨by decide +kernel, by decide, rfl⟩
set_option maxRecDepth 100000 in
theorem ocAc_run : OC mAc_run := ⟨by decide +kernel, by decide, rfl⟩
set_option maxRecDepth 100000 in
theorem ocDr_compare : OC mDr_compare := ⟨by decide +kernel, by decide, rfl⟩
set_option maxRecDepth 100000 in
theorem ocDr_find : OC mDr_find := ⟨by decide +kernel, by decide, rfl⟩
set_option maxRecDepth 100000 in
theorem ocDr_from : OC mDr_from := ⟨by decide +kernel, by decide, rfl⟩
set_option maxRecDepth 100000 in
theorem ocDr_init : OC mDr_init := ⟨by decide +kernel, by decide, rfl⟩
set_option maxRecDepth 100000 in
theorem ocGr_behind : OC mGr_behind := ⟨by decide +kernel, by decide, rfl⟩
set_option maxRecDepth 100000 in
theorem ocGr_first : OC mGr_first := ⟨by decide +kernel, by decide, rfl⟩
set_option maxRecDepth 100000 in
theorem ocGr_gain : OC mGr_gain := ⟨by decide +kernel, by decide, rfl⟩
set_option maxRecDepth 100000 in
theorem ocGr_init : OC mGr_init := ⟨by decide +kernel, by decide, rfl⟩
set_option maxRecDepth 100000 in
theorem ocGr_number : OC mGr_number := ⟨by decide +kernel, by decide, rfl⟩
set_option maxRecDepth 100000 in
theorem ocGr_plan : OC mGr_plan := ⟨by decide +kernel, by decide, rfl⟩
set_option maxRecDepth 100000 in
theorem ocGr_planYear : OC mGr_planYear := ⟨by decide +kernel, by decide, rfl⟩
set_option maxRecDepth 100000 in
theorem ocGr_stand : OC mGr_stand := ⟨by decide +kernel, by decide, rfl⟩
set_option maxRecDepth 100000 in
theorem ocGr_sum : OC mGr_sum := ⟨by decide +kernel, by decide, rfl⟩
set_option maxRecDepth 100000 in
theorem ocHo_endPrice : OC mHo_endPrice := ⟨by decide +kernel, by decide, rfl⟩
set_option maxRecDepth 100000 in
theorem ocHo_init : OC mHo_init := ⟨by decide +kernel, by decide, rfl⟩
set_option maxRecDepth 100000 in
theorem ocHo_reckons : OC mHo_reckons := ⟨by decide +kernel, by decide, rfl⟩
set_option maxRecDepth 100000 in
theorem ocHo_stepsAtSight : OC mHo_stepsAtSight := ⟨by decide +kernel, by decide, rfl⟩
set_option maxRecDepth 100000 in
theorem ocHo_stepsIn : OC mHo_stepsIn := ⟨by decide +kernel, by decide, rfl⟩
set_option maxRecDepth 100000 in
theorem ocHo_worthIn : OC mHo_worthIn := ⟨by decide +kernel, by decide, rfl⟩
set_option maxRecDepth 100000 in
theorem ocHo_yearsFor : OC mHo_yearsFor := ⟨by decide +kernel, by decide, rfl⟩
set_option maxRecDepth 100000 in
theorem ocLa_endRound : OC mLa_endRound := ⟨by decide +kernel, by decide, rfl⟩
set_option maxRecDepth 100000 in
theorem ocLa_freshValley : OC mLa_freshValley := ⟨by decide +kernel, by decide, rfl⟩
set_option maxRecDepth 100000 in
theorem ocLa_ground : OC mLa_ground := ⟨by decide +kernel, by decide, rfl⟩
set_option maxRecDepth 100000 in
theorem ocLa_hasHolding : OC mLa_hasHolding := ⟨by decide +kernel, by decide, rfl⟩
set_option maxRecDepth 100000 in
theorem ocLa_holderAt : OC mLa_holderAt := ⟨by decide +kernel, by decide, rfl⟩
set_option maxRecDepth 100000 in
theorem ocLa_init : OC mLa_init := ⟨by decide +kernel, by decide, rfl⟩
set_option maxRecDepth 100000 in
theorem ocLa_join : OC mLa_join := ⟨by decide +kernel, by decide, rfl⟩
set_option maxRecDepth 100000 in
theorem ocLa_lotIsWhole : OC mLa_lotIsWhole := ⟨by decide +kernel, by decide, rfl⟩
set_option maxRecDepth 100000 in
theorem ocLa_pass : OC mLa_pass := ⟨by decide +kernel, by decide, rfl⟩
set_option maxRecDepth 100000 in
theorem ocLa_stepsOf : OC mLa_stepsOf := ⟨by decide +kernel, by decide, rfl⟩
set_option maxRecDepth 100000 in
theorem ocLa_valleyOf : OC mLa_valleyOf := ⟨by decide +kernel, by decide, rfl⟩
set_option maxRecDepth 100000 in
theorem ocLa_worthOf : OC mLa_worthOf := ⟨by decide +kernel, by decide, rfl⟩
set_option maxRecDepth 100000 in
theorem ocLa_worthsOf : OC mLa_worthsOf := ⟨by decide +kernel, by decide, rfl⟩
set_option maxRecDepth 100000 in
theorem ocLa_yearOf : OC mLa_yearOf := ⟨by decide +kernel, by decide, rfl⟩
set_option maxRecDepth 100000 in
theorem ocTa_become : OC mTa_become := ⟨by decide +kernel, by decide, rfl⟩
set_option maxRecDepth 100000 in
theorem ocTa_holds : OC mTa_holds := ⟨by decide +kernel, by decide, rfl⟩
set_option maxRecDepth 100000 in
theorem ocTa_init : OC mTa_init := ⟨by decide +kernel, by decide, rfl⟩
set_option maxRecDepth 100000 in
theorem ocTa_itemAt : OC mTa_itemAt := ⟨by decide +kernel, by decide, rfl⟩
set_option maxRecDepth 100000 in
theorem ocTa_narrowed : OC mTa_narrowed := ⟨by decide +kernel, by decide, rfl⟩
set_option maxRecDepth 100000 in
theorem ocTa_write : OC mTa_write := ⟨by decide +kernel, by decide, rfl⟩
set_option maxRecDepth 100000 in
theorem ocTe_append : OC mTe_append := ⟨by decide +kernel, by decide, rfl⟩
set_option maxRecDepth 100000 in
theorem ocTe_both : OC mTe_both := ⟨by decide +kernel, by decide, rfl⟩
set_option maxRecDepth 100000 in
theorem ocTe_clause : OC mTe_clause := ⟨by decide +kernel, by decide, rfl⟩
set_option maxRecDepth 100000 in
theorem ocTe_either : OC mTe_either := ⟨by decide +kernel, by decide, rfl⟩
set_option maxRecDepth 100000 in
theorem ocTe_init : OC mTe_init := ⟨by decide +kernel, by decide, rfl⟩
set_option maxRecDepth 100000 in
theorem ocTe_next : OC mTe_next := ⟨by decide +kernel, by decide, rfl⟩
set_option maxRecDepth 100000 in
theorem ocTe_parse : OC mTe_parse := ⟨by decide +kernel, by decide, rfl⟩
set_option maxRecDepth 100000 in
theorem ocTe_passes : OC mTe_passes := ⟨by decide +kernel, by decide, rfl⟩
set_option maxRecDepth 100000 in
theorem ocTe_passesNumber : OC mTe_passesNumber := ⟨by decide +kernel, by decide, rfl⟩
set_option maxRecDepth 100000 in
theorem ocTe_passesWord : OC mTe_passesWord := ⟨by decide +kernel, by decide, rfl⟩
set_option maxRecDepth 100000 in
theorem ocTe_single : OC mTe_single := ⟨by decide +kernel, by decide, rfl⟩
set_option maxRecDepth 100000 in
theorem ocTe_test : OC mTe_test := ⟨by decide +kernel, by decide, rfl⟩
set_option maxRecDepth 100000 in
theorem ocTe_wordOf : OC mTe_wordOf := ⟨by decide +kernel, by decide, rfl⟩
set_option maxRecDepth 100000 in
theorem ocVa_clear : OC mVa_clear := ⟨by decide +kernel, by decide, rfl⟩
set_option maxRecDepth 100000 in
theorem ocVa_holds : OC mVa_holds := ⟨by decide +kernel, by decide, rfl⟩
set_option maxRecDepth 100000 in
theorem ocVa_init : OC mVa_init := ⟨by decide +kernel, by decide, rfl⟩
set_option maxRecDepth 100000 in
theorem ocVa_join : OC mVa_join := ⟨by decide +kernel, by decide, rfl⟩
set_option maxRecDepth 100000 in
theorem ocVa_statesIn : OC mVa_statesIn := ⟨by decide +kernel, by decide, rfl⟩
set_option maxRecDepth 100000 in
theorem ocVa_statesOfTest : OC mVa_statesOfTest := ⟨by decide +kernel, by decide, rfl⟩
set_option maxRecDepth 100000 in
theorem ocVa_tells : OC mVa_tells := ⟨by decide +kernel, by decide, rfl⟩
set_option maxRecDepth 100000 in
theorem ocVa_test : OC mVa_test := ⟨by decide +kernel, by decide, rfl⟩
set_option maxRecDepth 100000 in
theorem ocWo_become : OC mWo_become := ⟨by decide +kernel, by decide, rfl⟩
set_option maxRecDepth 100000 in
theorem ocWo_inLot : OC mWo_inLot := ⟨by decide +kernel, by decide, rfl⟩
set_option maxRecDepth 100000 in
theorem ocWo_init : OC mWo_init := ⟨by decide +kernel, by decide, rfl⟩
set_option maxRecDepth 100000 in
theorem ocWo_whose : OC mWo_whose := ⟨by decide +kernel, by decide, rfl⟩
set_option maxRecDepth 100000 in
theorem ocBy_act : OC mBy_act := ⟨by decide +kernel, by decide, rfl⟩
set_option maxRecDepth 100000 in
theorem ocBy_alike : OC mBy_alike := ⟨by decide +kernel, by decide, rfl⟩
set_option maxRecDepth 100000 in
theorem ocBy_allMendFor : OC mBy_allMendFor := ⟨by decide +kernel, by decide, rfl⟩
set_option maxRecDepth 100000 in
theorem ocBy_at : OC mBy_at := ⟨by decide +kernel, by decide, rfl⟩
set_option maxRecDepth 100000 in
theorem ocBy_best : OC mBy_best := ⟨by decide +kernel, by decide, rfl⟩
set_option maxRecDepth 100000 in
theorem ocBy_book : OC mBy_book := ⟨by decide +kernel, by decide, rfl⟩
set_option maxRecDepth 100000 in
theorem ocBy_commonDivisor : OC mBy_commonDivisor := ⟨by decide +kernel, by decide, rfl⟩
set_option maxRecDepth 100000 in
theorem ocBy_count : OC mBy_count := ⟨by decide +kernel, by decide, rfl⟩
set_option maxRecDepth 100000 in
theorem ocBy_ever : OC mBy_ever := ⟨by decide +kernel, by decide, rfl⟩
set_option maxRecDepth 100000 in
theorem ocBy_expect : OC mBy_expect := ⟨by decide +kernel, by decide, rfl⟩
set_option maxRecDepth 100000 in
theorem ocBy_feed : OC mBy_feed := ⟨by decide +kernel, by decide, rfl⟩
set_option maxRecDepth 100000 in
theorem ocBy_go : OC mBy_go := ⟨by decide +kernel, by decide, rfl⟩
set_option maxRecDepth 100000 in
theorem ocBy_has : OC mBy_has := ⟨by decide +kernel, by decide, rfl⟩
set_option maxRecDepth 100000 in
theorem ocBy_holder : OC mBy_holder := ⟨by decide +kernel, by decide, rfl⟩
set_option maxRecDepth 100000 in
theorem ocBy_holding : OC mBy_holding := ⟨by decide +kernel, by decide, rfl⟩
set_option maxRecDepth 100000 in
theorem ocBy_image : OC mBy_image := ⟨by decide +kernel, by decide, rfl⟩
set_option maxRecDepth 100000 in
theorem ocBy_init : OC mBy_init := ⟨by decide +kernel, by decide, rfl⟩
set_option maxRecDepth 100000 in
theorem ocBy_item : OC mBy_item := ⟨by decide +kernel, by decide, rfl⟩
set_option maxRecDepth 100000 in
theorem ocBy_judge : OC mBy_judge := ⟨by decide +kernel, by decide, rfl⟩
set_option maxRecDepth 100000 in
theorem ocBy_keep : OC mBy_keep := ⟨by decide +kernel, by decide, rfl⟩
set_option maxRecDepth 100000 in
theorem ocBy_looked : OC mBy_looked := ⟨by decide +kernel, by decide, rfl⟩
set_option maxRecDepth 100000 in
theorem ocBy_lot : OC mBy_lot := ⟨by decide +kernel, by decide, rfl⟩
set_option maxRecDepth 100000 in
theorem ocBy_mends : OC mBy_mends := ⟨by decide +kernel, by decide, rfl⟩
set_option maxRecDepth 100000 in
theorem ocBy_of : OC mBy_of := ⟨by decide +kernel, by decide, rfl⟩
set_option maxRecDepth 100000 in
theorem ocBy_pay : OC mBy_pay := ⟨by decide +kernel, by decide, rfl⟩
set_option maxRecDepth 100000 in
theorem ocBy_put : OC mBy_put := ⟨by decide +kernel, by decide, rfl⟩
set_option maxRecDepth 100000 in
theorem ocBy_read : OC mBy_read := ⟨by decide +kernel, by decide, rfl⟩
set_option maxRecDepth 100000 in
theorem ocBy_rounds : OC mBy_rounds := ⟨by decide +kernel, by decide, rfl⟩
set_option maxRecDepth 100000 in
theorem ocBy_row : OC mBy_row := ⟨by decide +kernel, by decide, rfl⟩
set_option maxRecDepth 100000 in
theorem ocBy_set : OC mBy_set := ⟨by decide +kernel, by decide, rfl⟩
set_option maxRecDepth 100000 in
theorem ocBy_shift : OC mBy_shift := ⟨by decide +kernel, by decide, rfl⟩
set_option maxRecDepth 100000 in
theorem ocBy_swaps : OC mBy_swaps := ⟨by decide +kernel, by decide, rfl⟩
set_option maxRecDepth 100000 in
theorem ocBy_taken : OC mBy_taken := ⟨by decide +kernel, by decide, rfl⟩
set_option maxRecDepth 100000 in
theorem ocBy_tape : OC mBy_tape := ⟨by decide +kernel, by decide, rfl⟩
set_option maxRecDepth 100000 in
theorem ocBy_tapeAt : OC mBy_tapeAt := ⟨by decide +kernel, by decide, rfl⟩
set_option maxRecDepth 100000 in
theorem ocBy_told : OC mBy_told := ⟨by decide +kernel, by decide, rfl⟩
set_option maxRecDepth 100000 in
theorem ocBy_trace : OC mBy_trace := ⟨by decide +kernel, by decide, rfl⟩
set_option maxRecDepth 100000 in
theorem ocBy_undo : OC mBy_undo := ⟨by decide +kernel, by decide, rfl⟩
set_option maxRecDepth 100000 in
theorem ocBy_valley : OC mBy_valley := ⟨by decide +kernel, by decide, rfl⟩
set_option maxRecDepth 100000 in
theorem ocBy_within : OC mBy_within := ⟨by decide +kernel, by decide, rfl⟩
set_option maxRecDepth 100000 in
theorem ocBy_worth : OC mBy_worth := ⟨by decide +kernel, by decide, rfl⟩
set_option maxRecDepth 100000 in
theorem ocBy_would : OC mBy_would := ⟨by decide +kernel, by decide, rfl⟩
set_option maxRecDepth 100000 in
theorem ocBy_wouldRather : OC mBy_wouldRather := ⟨by decide +kernel, by decide, rfl⟩
set_option maxRecDepth 100000 in
theorem ocMo_act : OC mMo_act := ⟨by decide +kernel, by decide, rfl⟩
set_option maxRecDepth 100000 in
theorem ocMo_alike : OC mMo_alike := ⟨by decide +kernel, by decide, rfl⟩
set_option maxRecDepth 100000 in
theorem ocMo_allWorths : OC mMo_allWorths := ⟨by decide +kernel, by decide, rfl⟩
set_option maxRecDepth 100000 in
theorem ocMo_asIs : OC mMo_asIs := ⟨by decide +kernel, by decide, rfl⟩
set_option maxRecDepth 100000 in
theorem ocMo_at0 : OC mMo_at0 := ⟨by decide +kernel, by decide, rfl⟩
set_option maxRecDepth 100000 in
theorem ocMo_behind : OC mMo_behind := ⟨by decide +kernel, by decide, rfl⟩
set_option maxRecDepth 100000 in
theorem ocMo_best : OC mMo_best := ⟨by decide +kernel, by decide, rfl⟩
set_option maxRecDepth 100000 in
theorem ocMo_body : OC mMo_body := ⟨by decide +kernel, by decide, rfl⟩
set_option maxRecDepth 100000 in
theorem ocMo_book : OC mMo_book := ⟨by decide +kernel, by decide, rfl⟩
set_option maxRecDepth 100000 in
theorem ocMo_copy : OC mMo_copy := ⟨by decide +kernel, by decide, rfl⟩
set_option maxRecDepth 100000 in
theorem ocMo_count : OC mMo_count := ⟨by decide +kernel, by decide, rfl⟩
set_option maxRecDepth 100000 in
theorem ocMo_divisor : OC mMo_divisor := ⟨by decide +kernel, by decide, rfl⟩
set_option maxRecDepth 100000 in
theorem ocMo_draw : OC mMo_draw := ⟨by decide +kernel, by decide, rfl⟩
set_option maxRecDepth 100000 in
theorem ocMo_ever : OC mMo_ever := ⟨by decide +kernel, by decide, rfl⟩
set_option maxRecDepth 100000 in
theorem ocMo_expect : OC mMo_expect := ⟨by decide +kernel, by decide, rfl⟩
set_option maxRecDepth 100000 in
theorem ocMo_fallen : OC mMo_fallen := ⟨by decide +kernel, by decide, rfl⟩
set_option maxRecDepth 100000 in
theorem ocMo_feed : OC mMo_feed := ⟨by decide +kernel, by decide, rfl⟩
set_option maxRecDepth 100000 in
theorem ocMo_first : OC mMo_first := ⟨by decide +kernel, by decide, rfl⟩
set_option maxRecDepth 100000 in
theorem ocMo_firstLeaves : OC mMo_firstLeaves := ⟨by decide +kernel, by decide, rfl⟩
set_option maxRecDepth 100000 in
theorem ocMo_fresh : OC mMo_fresh := ⟨by decide +kernel, by decide, rfl⟩
set_option maxRecDepth 100000 in
theorem ocMo_gain : OC mMo_gain := ⟨by decide +kernel, by decide, rfl⟩
set_option maxRecDepth 100000 in
theorem ocMo_go : OC mMo_go := ⟨by decide +kernel, by decide, rfl⟩
set_option maxRecDepth 100000 in
theorem ocMo_goYear : OC mMo_goYear := ⟨by decide +kernel, by decide, rfl⟩
set_option maxRecDepth 100000 in
theorem ocMo_goYears : OC mMo_goYears := ⟨by decide +kernel, by decide, rfl⟩
set_option maxRecDepth 100000 in
theorem ocMo_goesText : OC mMo_goesText := ⟨by decide +kernel, by decide, rfl⟩
set_option maxRecDepth 100000 in
theorem ocMo_has : OC mMo_has := ⟨by decide +kernel, by decide, rfl⟩
set_option maxRecDepth 100000 in
theorem ocMo_holder : OC mMo_holder := ⟨by decide +kernel, by decide, rfl⟩
set_option maxRecDepth 100000 in
theorem ocMo_holding : OC mMo_holding := ⟨by decide +kernel, by decide, rfl⟩
set_option maxRecDepth 100000 in
theorem ocMo_holds : OC mMo_holds := ⟨by decide +kernel, by decide, rfl⟩
set_option maxRecDepth 100000 in
theorem ocMo_image : OC mMo_image := ⟨by decide +kernel, by decide, rfl⟩
set_option maxRecDepth 100000 in
theorem ocMo_in : OC mMo_in := ⟨by decide +kernel, by decide, rfl⟩
set_option maxRecDepth 100000 in
theorem ocMo_init : OC mMo_init := ⟨by decide +kernel, by decide, rfl⟩
set_option maxRecDepth 100000 in
theorem ocMo_isDigit : OC mMo_isDigit := ⟨by decide +kernel, by decide, rfl⟩
set_option maxRecDepth 100000 in
theorem ocMo_isHolder : OC mMo_isHolder := ⟨by decide +kernel, by decide, rfl⟩
set_option maxRecDepth 100000 in
theorem ocMo_isHolding : OC mMo_isHolding := ⟨by decide +kernel, by decide, rfl⟩
set_option maxRecDepth 100000 in
theorem ocMo_isLot : OC mMo_isLot := ⟨by decide +kernel, by decide, rfl⟩
set_option maxRecDepth 100000 in
theorem ocMo_isTape : OC mMo_isTape := ⟨by decide +kernel, by decide, rfl⟩
set_option maxRecDepth 100000 in
theorem ocMo_item : OC mMo_item := ⟨by decide +kernel, by decide, rfl⟩
set_option maxRecDepth 100000 in
theorem ocMo_judge : OC mMo_judge := ⟨by decide +kernel, by decide, rfl⟩
set_option maxRecDepth 100000 in
theorem ocMo_keep : OC mMo_keep := ⟨by decide +kernel, by decide, rfl⟩
set_option maxRecDepth 100000 in
theorem ocMo_last : OC mMo_last := ⟨by decide +kernel, by decide, rfl⟩
set_option maxRecDepth 100000 in
theorem ocMo_layBest : OC mMo_layBest := ⟨by decide +kernel, by decide, rfl⟩
set_option maxRecDepth 100000 in
theorem ocMo_layRaw : OC mMo_layRaw := ⟨by decide +kernel, by decide, rfl⟩
set_option maxRecDepth 100000 in
theorem ocMo_leavesAct : OC mMo_leavesAct := ⟨by decide +kernel, by decide, rfl⟩
set_option maxRecDepth 100000 in
theorem ocMo_looked : OC mMo_looked := ⟨by decide +kernel, by decide, rfl⟩
set_option maxRecDepth 100000 in
theorem ocMo_lot : OC mMo_lot := ⟨by decide +kernel, by decide, rfl⟩
set_option maxRecDepth 100000 in
theorem ocMo_makeAll : OC mMo_makeAll := ⟨by decide +kernel, by decide, rfl⟩
set_option maxRecDepth 100000 in
theorem ocMo_mends : OC mMo_mends := ⟨by decide +kernel, by decide, rfl⟩
set_option maxRecDepth 100000 in
theorem ocMo_mendsAct : OC mMo_mendsAct := ⟨by decide +kernel, by decide, rfl⟩
set_option maxRecDepth 100000 in
theorem ocMo_mendsOf : OC mMo_mendsOf := ⟨by decide +kernel, by decide, rfl⟩
set_option maxRecDepth 100000 in
theorem ocMo_min : OC mMo_min := ⟨by decide +kernel, by decide, rfl⟩
set_option maxRecDepth 100000 in
theorem ocMo_narrow : OC mMo_narrow := ⟨by decide +kernel, by decide, rfl⟩
set_option maxRecDepth 100000 in
theorem ocMo_next : OC mMo_next := ⟨by decide +kernel, by decide, rfl⟩
set_option maxRecDepth 100000 in
theorem ocMo_of : OC mMo_of := ⟨by decide +kernel, by decide, rfl⟩
set_option maxRecDepth 100000 in
theorem ocMo_pay : OC mMo_pay := ⟨by decide +kernel, by decide, rfl⟩
set_option maxRecDepth 100000 in
theorem ocMo_place : OC mMo_place := ⟨by decide +kernel, by decide, rfl⟩
set_option maxRecDepth 100000 in
theorem ocMo_plainLeaves : OC mMo_plainLeaves := ⟨by decide +kernel, by decide, rfl⟩
set_option maxRecDepth 100000 in
theorem ocMo_plainMends : OC mMo_plainMends := ⟨by decide +kernel, by decide, rfl⟩
set_option maxRecDepth 100000 in
theorem ocMo_plainTells : OC mMo_plainTells := ⟨by decide +kernel, by decide, rfl⟩
set_option maxRecDepth 100000 in
theorem ocMo_poorMends : OC mMo_poorMends := ⟨by decide +kernel, by decide, rfl⟩
set_option maxRecDepth 100000 in
theorem ocMo_put : OC mMo_put := ⟨by decide +kernel, by decide, rfl⟩
set_option maxRecDepth 100000 in
theorem ocMo_read : OC mMo_read := ⟨by decide +kernel, by decide, rfl⟩
set_option maxRecDepth 100000 in
theorem ocMo_reckons : OC mMo_reckons := ⟨by decide +kernel, by decide, rfl⟩
set_option maxRecDepth 100000 in
theorem ocMo_rounds : OC mMo_rounds := ⟨by decide +kernel, by decide, rfl⟩
set_option maxRecDepth 100000 in
theorem ocMo_row : OC mMo_row := ⟨by decide +kernel, by decide, rfl⟩
set_option maxRecDepth 100000 in
theorem ocMo_set : OC mMo_set := ⟨by decide +kernel, by decide, rfl⟩
set_option maxRecDepth 100000 in
theorem ocMo_settle : OC mMo_settle := ⟨by decide +kernel, by decide, rfl⟩
set_option maxRecDepth 100000 in
theorem ocMo_shift : OC mMo_shift := ⟨by decide +kernel, by decide, rfl⟩
set_option maxRecDepth 100000 in
theorem ocMo_sumOf : OC mMo_sumOf := ⟨by decide +kernel, by decide, rfl⟩
set_option maxRecDepth 100000 in
theorem ocMo_swaps : OC mMo_swaps := ⟨by decide +kernel, by decide, rfl⟩
set_option maxRecDepth 100000 in
theorem ocMo_taken : OC mMo_taken := ⟨by decide +kernel, by decide, rfl⟩
set_option maxRecDepth 100000 in
theorem ocMo_takes : OC mMo_takes := ⟨by decide +kernel, by decide, rfl⟩
set_option maxRecDepth 100000 in
theorem ocMo_takesClause : OC mMo_takesClause := ⟨by decide +kernel, by decide, rfl⟩
set_option maxRecDepth 100000 in
theorem ocMo_takesE : OC mMo_takesE := ⟨by decide +kernel, by decide, rfl⟩
set_option maxRecDepth 100000 in
theorem ocMo_takesHead : OC mMo_takesHead := ⟨by decide +kernel, by decide, rfl⟩
set_option maxRecDepth 100000 in
theorem ocMo_takesNumber : OC mMo_takesNumber := ⟨by decide +kernel, by decide, rfl⟩
set_option maxRecDepth 100000 in
theorem ocMo_takesTest : OC mMo_takesTest := ⟨by decide +kernel, by decide, rfl⟩
set_option maxRecDepth 100000 in
theorem ocMo_takesWord : OC mMo_takesWord := ⟨by decide +kernel, by decide, rfl⟩
set_option maxRecDepth 100000 in
theorem ocMo_tape : OC mMo_tape := ⟨by decide +kernel, by decide, rfl⟩
set_option maxRecDepth 100000 in
theorem ocMo_tellsAct : OC mMo_tellsAct := ⟨by decide +kernel, by decide, rfl⟩
set_option maxRecDepth 100000 in
theorem ocMo_told : OC mMo_told := ⟨by decide +kernel, by decide, rfl⟩
set_option maxRecDepth 100000 in
theorem ocMo_trace : OC mMo_trace := ⟨by decide +kernel, by decide, rfl⟩
set_option maxRecDepth 100000 in
theorem ocMo_undo : OC mMo_undo := ⟨by decide +kernel, by decide, rfl⟩
set_option maxRecDepth 100000 in
theorem ocMo_valley : OC mMo_valley := ⟨by decide +kernel, by decide, rfl⟩
set_option maxRecDepth 100000 in
theorem ocMo_wantsMore : OC mMo_wantsMore := ⟨by decide +kernel, by decide, rfl⟩
set_option maxRecDepth 100000 in
theorem ocMo_whole : OC mMo_whole := ⟨by decide +kernel, by decide, rfl⟩
set_option maxRecDepth 100000 in
theorem ocMo_worth : OC mMo_worth := ⟨by decide +kernel, by decide, rfl⟩
set_option maxRecDepth 100000 in
theorem ocMo_worthNow : OC mMo_worthNow := ⟨by decide +kernel, by decide, rfl⟩
set_option maxRecDepth 100000 in
theorem ocMo_worthOf : OC mMo_worthOf := ⟨by decide +kernel, by decide, rfl⟩
set_option maxRecDepth 100000 in
theorem ocMo_would : OC mMo_would := ⟨by decide +kernel, by decide, rfl⟩
set_option maxRecDepth 100000 in
theorem ocMo_yearsOf : OC mMo_yearsOf := ⟨by decide +kernel, by decide, rfl⟩
set_option maxRecDepth 100000 in
theorem ocJ0_charAt_5068e : OC mJ0_charAt_5068e := ⟨by decide +kernel, by decide, rfl⟩
set_option maxRecDepth 100000 in
theorem ocJ0_checkIndex_df160 : OC mJ0_checkIndex_df160 := ⟨by decide +kernel, by decide, rfl⟩
set_option maxRecDepth 100000 in
theorem ocJ0_coder_7d493 : OC mJ0_coder_7d493 := ⟨by decide +kernel, by decide, rfl⟩
set_option maxRecDepth 100000 in
theorem ocJ0_indexOf_0f7a4 : OC mJ0_indexOf_0f7a4 := ⟨by decide +kernel, by decide, rfl⟩
set_option maxRecDepth 100000 in
theorem ocJ0_indexOf_7cf53 : OC mJ0_indexOf_7cf53 := ⟨by decide +kernel, by decide, rfl⟩
set_option maxRecDepth 100000 in
theorem ocJ0_isLatin1_aae02 : OC mJ0_isLatin1_aae02 := ⟨by decide +kernel, by decide, rfl⟩
set_option maxRecDepth 100000 in
theorem ocJ0_length_8abf5 : OC mJ0_length_8abf5 := ⟨by decide +kernel, by decide, rfl⟩
set_option maxRecDepth 100000 in
theorem ocJ1_canEncode_9a6ad : OC mJ1_canEncode_9a6ad := ⟨by decide +kernel, by decide, rfl⟩
set_option maxRecDepth 100000 in
theorem ocJ1_charAt_3b067 : OC mJ1_charAt_3b067 := ⟨by decide +kernel, by decide, rfl⟩
set_option maxRecDepth 100000 in
theorem ocJ1_indexOfChar_4cfef : OC mJ1_indexOfChar_4cfef := ⟨by decide +kernel, by decide, rfl⟩
set_option maxRecDepth 100000 in
theorem ocJ1_indexOf_4cfef : OC mJ1_indexOf_4cfef := ⟨by decide +kernel, by decide, rfl⟩
set_option maxRecDepth 100000 in
theorem ocJ3_checkIndex_8e157 : OC mJ3_checkIndex_8e157 := ⟨by decide +kernel, by decide, rfl⟩
set_option maxRecDepth 100000 in
theorem ocJ7_fill_53178 : OC mJ7_fill_53178 := ⟨by decide +kernel, by decide, rfl⟩
set_option maxRecDepth 100000 in
theorem ocJ7_fill_d0a16 : OC mJ7_fill_d0a16 := ⟨by decide +kernel, by decide, rfl⟩
set_option maxRecDepth 100000 in
theorem ocJ9_abs_0f7a4 : OC mJ9_abs_0f7a4 := ⟨by decide +kernel, by decide, rfl⟩
set_option maxRecDepth 100000 in
theorem ocJ9_floorMod_7cf53 : OC mJ9_floorMod_7cf53 := ⟨by decide +kernel, by decide, rfl⟩
set_option maxRecDepth 100000 in
theorem ocJ9_max_7cf53 : OC mJ9_max_7cf53 := ⟨by decide +kernel, by decide, rfl⟩
set_option maxRecDepth 100000 in
theorem ocJ9_min_7cf53 : OC mJ9_min_7cf53 := ⟨by decide +kernel, by decide, rfl⟩
