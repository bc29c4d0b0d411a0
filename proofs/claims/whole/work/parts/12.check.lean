-- copies; what a program decides of each instruction; one step, any instruction
theorem HR.putG {g : GC} {ad : Nat → Nat} {h h1 : HH} {al : AL} {s : State} {H H1 : Heap} {o : Nat} (hr : HR g ad h al s H) (ho : al o = true) (hkd : kd o < 80) (hne1 : ∀ a, a ≠ o → ∀ k, h1 a k = h a k) (hx : ∀ k, k < szO g o → okT al (tyO o k) (h1 o k)) (hc : CellR g ad h1 s H1 o) (hq : ∀ q, q ≠ ad o → H1[q]? = H[q]?) : HR g ad h1 al s H1 := by
  have hA : xA g (ad o) := hr.2.2.1 o ho hkd
  have hout : ∀ a : Nat, a < H.size → ¬ xA g a → H1[a]? = H[a]? := fun a _ h2 => hq a (fun e => h2 (by rw [e]; exact hA))
  refine ⟨fun a ha => ⟨(hr.1 a ha).1, ?_⟩, hr.2.1, hr.2.2.1, hr.2.2.2.1, fun a j ha hj => ?_, hr.2.2.2.2.2.1, hr.2.2.2.2.2.2.kept hout⟩
  · by_cases e : a = o
    · rw [e]; exact hc
    · have hne : ad a ≠ ad o := fun z => e (hr.2.1 o a ho ha hkd z.symm).symm
      have hf : h1 a = h a := by funext j; exact hne1 a e j
      obtain ⟨c1, c2, c3⟩ := (hr.1 a ha).2
      refine ⟨fun q => ?_, fun q q2 => ?_, fun q => ?_⟩
      · rw [hf]; exact (c1 q).kept (hq _ hne)
      · rw [hf, hq _ hne]; exact c2 q q2
      · rw [hf]; exact (c3 q).kept hout
  · by_cases e : a = o
    · subst e
      exact hx j hj
    · rw [hne1 a e j]; exact hr.2.2.2.2.1 a j ha hj
theorem cpyH_ne {h : HH} {o1 sp o2 dp n a k : Nat} (q : a ≠ o2) : cpyH h o1 sp o2 dp n a k = h a k := by
  unfold cpyH
  rw [nbf q]
  rfl
theorem cpyH_at {h : HH} {o1 sp o2 dp n k : Nat} : cpyH h o1 sp o2 dp n o2 k = if dp ≤ k ∧ k < dp + n then h o1 (sp + (k - dp)) else h o2 k := by
  unfold cpyH
  rw [Nat.beq_refl, Bool.true_and]
  by_cases e : dp ≤ k ∧ k < dp + n
  · rw [if_pos e, show Nat.ble dp k = true from Nat.ble_eq_true_of_le e.1, show Nat.blt k (dp + n) = true from Nat.ble_eq_true_of_le e.2]
    rfl
  · rw [if_neg e]
    cases e1 : Nat.ble dp k with
    | false => rfl
    | true =>
      cases e2 : Nat.blt k (dp + n) with
      | false => rfl
      | true => exact absurd ⟨Nat.le_of_ble_eq_true e1, Nat.le_of_ble_eq_true e2⟩ e
theorem nfw : nativeFrameWords "java/lang/System" "arraycopy" 5 ≤ 40 := by decide +kernel
section SND7
variable {g : GC} {d : Nat} {M : MD} {Q : Option XV → HH → AL → Prop} {pc : Nat} {L : LL} {S r : SL} {h : HH} {al : AL} {x y : Int}
theorem xs_copy {ix o1 o2 t : Nat} {sp dp : Int} (hD : decode M.2.1 pc = .ok (.invokestatic ix, 3)) (ht : t = 0 ∨ t = 1) (k1 : kd o1 = 50 + t) (k2 : kd o2 = 50 + t) (h8 : csum r ≤ 8)
    (w1 : Cond.methodLink M.1.cls ix arraycopyName ∈ gT) (w2 : Cond.native arraycopyName ∈ gT) (w3 : Cond.static arraycopyName ∈ gT) (w4 : Cond.initialized "java/lang/System" ∈ gT)
    (hb : 0 ≤ x ∧ 0 ≤ sp ∧ 0 ≤ dp ∧ sp + x ≤ (ln g o1 : Int) ∧ dp + x ≤ (ln g o2 : Int)) (hk : XW g d M Q (pc + 3) L r (cpyH h o1 sp.toNat o2 dp.toNat x.toNat) al) : XW g d M Q pc L (xi x :: xi dp :: xr (Int.ofNat o2) :: xi sp :: xr (Int.ofNat o1) :: r) h al := by
  refine XW.hs hk (fun _ q => q) fun p l e R s m args below meth c0 H locs cells slots ad ls Qc hC hl hol hos hr1 hr2 hw => ?_
  have ho1 := ok_o hos.tl.tl.tl.tl.hd
  have ho2 := ok_o hos.tl.tl.hd
  have hr := hC.hr
  have rx := hos.hd
  have rd := hos.tl.hd
  have rs := hos.tl.tl.tl.hd
  have hR := hC.2.2.2.2.2.2.2.2.1
  have hnf := nfw
  simp only [List.map_cons, dv_o]
  have hc1 := arr_own hr ho1 k1 (by omega)
  have hc2 := arr_own hr ho2 k2 (by omega)
  have t7 : t < 7 := by omega
  obtain ⟨-, kA, hkA, comp, hkk⟩ := arr_of hC.vm t7 (ln g o1) (fun j => dv ad (rdv (ety t) (h o1 j)))
  have hfit : ∀ z, okT al (ety t) z → fits (aty t) (dv ad (rdv (ety t) z)) = true ∧ ∀ (U : State) (cc : ClassId), U.takes cc (dv ad (rdv (ety t) z)) := by
    intro z hz
    rcases ht with rfl | rfl
    · exact ⟨rfl, fun U cc => trivial⟩
    · exact ⟨rfl, fun U cc => trivial⟩
  have hprim : refKind (aty t) = false := by rcases ht with rfl | rfl <;> rfl
  have hA2 : xA g (ad o2) := hr.2.2.1 o2 ho2 (by omega)
  intro T hT X
  obtain ⟨vm', X', step⟩ := X.arraycopy hC.1 hC.own (hC.ts _ w1) (hC.ts _ w2) (hC.ts _ w3) (hC.ts _ w4) (src := ad o1) (dst := ad o2) (cs := arrV (g.2.2.1 t) (ln g o1) (fun j => dv ad (rdv (ety t) (h o1 j)))) (cd := arrV (g.2.2.1 t) (ln g o2) (fun j => dv ad (rdv (ety t) (h o2 j)))) (srcPos := Int32.ofInt sp) (destPos := Int32.ofInt dp) (n := Int32.ofInt x) (by rw [hT]; exact hc1) (by rw [hT]; exact hc2)
    (fun _ h => by cases h) (fun _ h => by cases h) (fun h => by cases h) (fun h => by cases h) hkA hkA hkk hkk (by simp [hprim]) (ofI0 hb.2.1 rs.2) (ofI0 hb.2.2.1 rd.2) (ofI0 hb.1 rx.2)
    (by rw [rI rs, rI rx, arrV_size]; omega) (by rw [rI rd, rI rx, arrV_size]; omega)
    (fun vm₁ _ i hi => by
      rw [clampI hb.1 rx.2] at hi
      rw [clampI hb.2.1 rs.2]
      have e : (arrV (g.2.2.1 t) (ln g o1) (fun j => dv ad (rdv (ety t) (h o1 j)))).slots.getD (sp.toNat + i) .null = dv ad (rdv (ety t) (h o1 (sp.toNat + i))) := by
        rw [Array.getD_eq_getD_getElem?, arrV_read _ _ (by omega)]
        rfl
      have hv := arr_okT (j := sp.toNat + i) hr ho1 k1 (by omega) (by omega)
      rw [e]
      exact ⟨(hfit _ hv).1, (hfit _ hv).2 _ _⟩)
    (g := F0 m pc ls (.int (Int32.ofInt x) :: .int (Int32.ofInt dp) :: .ref (ad o2) :: .int (Int32.ofInt sp) :: .ref (ad o1) :: r.map (dv ad))) rfl (by rw [hC.2.2.1]; exact hl.2.1) (rest := r.map (dv ad)) rfl (by rw [hC.2.1]; exact hD) (by omega) (by rw [csum_cat]; show 2 * 0 + _ + _ ≤ _; omega)
  have e1 : copied (arrV (g.2.2.1 t) (ln g o1) (fun j => dv ad (rdv (ety t) (h o1 j)))) (arrV (g.2.2.1 t) (ln g o2) (fun j => dv ad (rdv (ety t) (h o2 j)))) (Int32.ofInt sp) (Int32.ofInt dp) (Int32.ofInt x) = arrV (g.2.2.1 t) (ln g o2) (va_cpy (fun j => dv ad (rdv (ety t) (h o1 j))) (fun j => dv ad (rdv (ety t) (h o2 j))) sp.toNat dp.toNat x.toNat) := by
    have := va_copied (fun z : Value => z) (g.2.2.1 t) (g.2.2.1 t) (n0 := ln g o1) (n1 := ln g o2) (sp := sp.toNat) (dp := dp.toNat) (n := x.toNat) (fun j => dv ad (rdv (ety t) (h o1 j))) (fun j => dv ad (rdv (ety t) (h o2 j))) (by omega)
    rw [← clampI hb.2.1 rs.2, ← clampI hb.2.2.1 rd.2, ← clampI hb.1 rx.2] at this ⊢
    exact this
  rw [e1] at X' step
  have hl2 : ad o2 < H.size := (Array.getElem?_eq_some_iff.mp hc2).1
  generalize hcell : arrV (g.2.2.1 t) (ln g o2) (va_cpy (fun j => dv ad (rdv (ety t) (h o1 j))) (fun j => dv ad (rdv (ety t) (h o2 j))) sp.toNat dp.toNat x.toNat) = cell at X' step
  have hheap : ((T.setVm vm').setCell (ad o2) cell).heap = H.setIfInBounds (ad o2) cell := by rw [← hT]; rfl
  have oq : ∀ q : Nat, q ≠ ad o2 → (H.setIfInBounds (ad o2) cell)[q]? = H[q]? := fun q hq => by simp [Array.getElem?_setIfInBounds, Ne.symm hq]
  have oe : (H.setIfInBounds (ad o2) cell)[ad o2]? = some cell := by simp [Array.getElem?_setIfInBounds, hl2]
  have hnew : HR g ad (cpyH h o1 sp.toNat o2 dp.toNat x.toNat) al s (H.setIfInBounds (ad o2) cell) := by
    refine hr.putG ho2 (by omega) (fun a ha k => cpyH_ne ha) (fun k hk => ?_) ⟨fun q => by omega, fun _ _ => ?_, fun q => by omega⟩ oq
    · rw [kdA k2 (by omega), cpyH_at]
      rw [szAr k2] at hk
      split
      · exact arr_okT hr ho1 k1 (by omega) (by omega)
      · exact arr_okT hr ho2 k2 (by omega) hk
    · rw [oe, k2, show 50 + t - 50 = t by omega, ← hcell]
      congr 2
      funext k
      rw [cpyH_at]
      unfold va_cpy
      split <;> rfl
  have key : ∀ LC : List Loc, (∀ q ∈ LC, q.base = ad o2) → W p l e R s m args below meth c0 (H.setIfInBounds (ad o2) cell) (locs ++ LC) cells slots Qc (F0 m (pc + 3) ls (r.map (dv ad))) := by
    intro LC hLC
    exact W.cs (by omega) (by omega) (hw ad _ (locs ++ LC) (fun _ _ => rfl) hnew ⟨by simp; exact hC.ss.1, fun q g1 g2 => by
      rw [oq q (fun e => g2 (by rw [e]; exact hA2))]
      exact hC.ss.2.1 q g1 g2, fun q hq => by
      rcases List.mem_append.mp hq with h | h
      · exact hC.ss.2.2 q h
      · rw [hLC q h]
        exact hA2⟩ hos.tl.tl.tl.tl.tl)
  obtain ⟨t2, a1, b1⟩ := key _ (fun q hq => by
    obtain ⟨z, -, hz⟩ := List.mem_map.mp hq
    rw [← hz]) _ hheap X'
  exact ⟨t2, step t2 a1, b1⟩
end SND7
def memT (i : Nat) (w : Cond) : Bool := decide (lw_tbl[i]? = some w)
def gat (i : Nat) (w : Cond) : Bool := memT i w && goodWord w
def nat' (i : Nat) (w : Cond) : Bool := memT i w && isNest w
def gin (w : Cond) : Bool := decide (w ∈ lw_tbl) && goodWord w
theorem gat_in {i : Nat} {w : Cond} (h : gat i w = true) : w ∈ gT := by
  unfold gat memT at h
  rw [Bool.and_eq_true, decide_eq_true_eq] at h
  exact List.mem_filter.mpr ⟨List.mem_of_getElem? h.1, h.2⟩
theorem nat_in {i : Nat} {w : Cond} (h : nat' i w = true) : w ∈ nT := by
  unfold nat' memT at h
  rw [Bool.and_eq_true, decide_eq_true_eq] at h
  exact List.mem_filter.mpr ⟨List.mem_of_getElem? h.1, h.2⟩
theorem gin_in {w : Cond} (h : gin w = true) : w ∈ gT := by
  unfold gin at h
  rw [Bool.and_eq_true, decide_eq_true_eq] at h
  exact List.mem_filter.mpr h
def fldOK (own : String) (ix a b t w n : Nat) : Bool := decide (a < 11) && (decide (b < NF a) && (decide (t = fty a b) && cond (Nat.beq n 0) (gat w (.fieldLink own ix (RR a) (TT a b).2.1 (TT a b).2.2.1)) (nat' w (.fieldLinkNest own ix (RR a) (TT a b).2.1 (TT a b).2.2.1 "ByLot"))))
theorem fld_of {own : String} {ix a b t w n : Nat} (h : fldOK own ix a b t w n = true) : a < 11 ∧ b < NF a ∧ t = fty a b ∧ (Cond.fieldLink own ix (RR a) (TT a b).2.1 (TT a b).2.2.1 ∈ gT ∨ Cond.fieldLinkNest own ix (RR a) (TT a b).2.1 (TT a b).2.2.1 "ByLot" ∈ nT) := by
  unfold fldOK at h
  simp only [Bool.and_eq_true, decide_eq_true_eq] at h
  refine ⟨h.1, h.2.1, h.2.2.1, ?_⟩
  have h4 := h.2.2.2
  cases e : Nat.beq n 0 with
  | true => rw [e] at h4; exact Or.inl (gat_in h4)
  | false => rw [e] at h4; exact Or.inr (nat_in h4)
/-- a field written: not final, or in its own constructor, by its own link -/
def finOK (M : MD) (a b n : Nat) : Bool := cond (TT a b).2.2.2 (decide (RR a = M.1.cls) && (decide (M.1.name = "<init>") && decide (n = 0))) true
def lnkOK (own : String) (ix w n : Nat) (y : MethodName) : Bool := cond (Nat.beq n 0) (gat w (.methodLink own ix y)) (nat' w (.methodLinkNest own ix y "ByLot"))
theorem lnk_of {own : String} {ix w n : Nat} {y : MethodName} (h : lnkOK own ix w n y = true) : Cond.methodLink own ix y ∈ gT ∨ Cond.methodLinkNest own ix y "ByLot" ∈ nT := by
  unfold lnkOK at h
  cases e : Nat.beq n 0 with
  | true => rw [e] at h; exact Or.inl (gat_in h)
  | false => rw [e] at h; exact Or.inr (nat_in h)
def yOK (a : Nat) (y : MethodName) : Bool := decide ((parseMethodDescriptor y.desc).map (fun d => d.parameters.length) = some a) && (decide (y.cls ≠ "java/lang/invoke/MethodHandle" ∧ y.cls ≠ "java/lang/invoke/VarHandle") && gin (.initialized y.cls))
theorem y_of {a : Nat} {y : MethodName} (h : yOK a y = true) : (parseMethodDescriptor y.desc).map (fun d => d.parameters.length) = some a ∧ (y.cls ≠ "java/lang/invoke/MethodHandle" ∧ y.cls ≠ "java/lang/invoke/VarHandle") ∧ Cond.initialized y.cls ∈ gT := by
  unfold yOK at h
  simp only [Bool.and_eq_true, decide_eq_true_eq] at h
  exact ⟨h.1, h.2.1, gin_in h.2.2⟩
def noRet (y : MethodName) : Bool := lw_tbl.all fun w => match w with
  | .code y2 _ _ ret => cond (decide (y2 = y)) (decide (ret = none)) true
  | _ => true
theorem no_of {y : MethodName} (h : noRet y = true) : ∀ bytes maxL ret, Cond.code y bytes maxL ret ∈ gT → ret = none := by
  intro bytes maxL ret hm
  have h1 := List.all_eq_true.mp h _ (List.mem_filter.mp hm).1
  simp only [decide_true, cond_true, decide_eq_true_eq] at h1
  exact h1
/-- what a program decides of an instruction -/
def insX (M : MD) (pc : Nat) (i : Instr) (len a b t w n : Nat) (z : Int) (y : MethodName) : Bool := match i with
  | .iconst v => decide (len = 1) && decide (-2147483648 ≤ v ∧ v < 2147483648)
  | .bipush v => decide (len = 2) && decide (-128 ≤ v ∧ v < 128)
  | .sipush v => decide (len = 3) && decide (-32768 ≤ v ∧ v < 32768)
  | .ldc ix => decide (len = 2) && cond (Nat.beq t 2) (decide (∃ q ∈ sKey, q.1 = M.1.cls ∧ q.2.1 = ix ∧ q.2.2.2 = a)) (decide (-2147483648 ≤ z ∧ z < 2147483648) && gat w (.constant M.1.cls ix (Int32.ofInt z)))
  | .ldc_w ix => decide (len = 3) && (decide (-2147483648 ≤ z ∧ z < 2147483648) && gat w (.constant M.1.cls ix (Int32.ofInt z)))
  | .ldc2_w ix => decide (len = 3) && (decide (-9223372036854775808 ≤ z ∧ z < 9223372036854775808) && gat w (.constantLong M.1.cls ix (Int64.ofInt z)))
  | .iload _ | .lload _ | .aload _ | .istore _ | .lstore _ | .astore _ => decide (len = 2)
  | .iinc _ _ => decide (len = 3)
  | .goto off | .ifCond _ off | .if_icmp _ off | .if_acmp _ off | .ifnull off | .ifnonnull off => decide (len = 3) && decide ((pc : Int) + off = (a : Int))
  | .tableswitch d0 lo hi os => decide (hi + 1 = lo + os.toList.length) && (decide (0 ≤ (pc : Int) + d0) && os.toList.all (fun o => decide (0 ≤ (pc : Int) + o)))
  | .lookupswitch d0 ps => decide ((ps.toList.zip (ps.toList.drop 1)).all (fun (a, next) => a.1 < next.1) = true) && (decide (0 ≤ (pc : Int) + d0) && ps.toList.all (fun o => decide (0 ≤ (pc : Int) + o.2)))
  | .getfield ix => decide (len = 3) && fldOK M.1.cls ix a b t w n
  | .putfield ix => decide (len = 3) && (fldOK M.1.cls ix a b t w n && finOK M a b n)
  | .getstatic ix => decide (len = 3) && ((decide (a = 181) && cond (Nat.beq n 0) (gat w (.fieldLink M.1.cls ix "ByLot" "KIND_ABOVE" "[I")) (nat' w (.fieldLinkNest M.1.cls ix "ByLot" "KIND_ABOVE" "[I" "ByLot"))) || (decide (a = 182) && gat w (.fieldLink M.1.cls ix "ByLot$Acts" "BODIES" "[I")))
  | .new ix => decide (len = 3) && (decide (a < 11) && (gat w (.classLink M.1.cls ix (RR a)) && (gin (.instantiable (RR a) (NF a)) && gin (.initialized (RR a)))))
  | .newarray at_ => decide (len = 2) && (decide (a < 3) && (decide (newarray.typeOf at_ = aty a) && gin (.arrayClass (aty a))))
  | .anewarray ix => decide (len = 3) && (decide (3 ≤ a ∧ a < 7) && gat w (.classLink M.1.cls ix (aCl a)))
  | .invokespecial ix => decide (len = 3) && cond (Nat.beq n 7) (gat w (.methodLink M.1.cls ix objectInit) && (gin (.instanceMethod objectInit) && gin (.code objectInit ⟨#[0xb1]⟩ 1 none)))
      (decide (y.name = "<init>") && (noRet y && (yOK a y && (lnkOK M.1.cls ix w n y && gin (.instanceMethod y)))))
  | .invokevirtual ix => decide (len = 3) && ((decide (b < 11 ∧ y.cls = RR b) || decide (b = 90 ∧ y.cls = "java/lang/String")) && (yOK a y && (lnkOK M.1.cls ix w n y && (gin (.instanceMethod y) && gin (.selects y.cls y y)))))
  | .invokestatic ix => decide (len = 3) && cond (Nat.beq n 8) (gat w (.methodLink M.1.cls ix arraycopyName) && (gin (.native arraycopyName) && (gin (.static arraycopyName) && gin (.initialized "java/lang/System"))))
      (yOK a y && (lnkOK M.1.cls ix w n y && gin (.static y)))
  | .ireturn => decide (len = 1) && (decide (M.2.2.2.2.1 = 0 ∧ M.2.2.2.1 = some .int) || (decide (M.2.2.2.2.1 = 3 ∧ M.2.2.2.1 = some .boolean) || (decide (M.2.2.2.2.1 = 4 ∧ M.2.2.2.1 = some .byte) || decide (M.2.2.2.2.1 = 5 ∧ M.2.2.2.1 = some .char))))
  | .lreturn => decide (len = 1) && decide (M.2.2.2.1 = some .long)
  | .areturn => decide (len = 1) && (match M.2.2.2.1 with | some (.object _) => true | _ => false)
  | .return_ => decide (len = 1) && decide (M.2.2.2.1 = none)
  | _ => decide (len = 1)
def insOK (M : MD) (pc : Nat) (q : XI) : Bool := match q with
  | (.nop, _, _, _, _, _, _, _, _) => true
  | (i, len, a, b, t, w, n, z, y) => decide (decode M.2.1 pc = .ok (i, len)) && insX M pc i len a b t w n z y
def okM (M : MD) : Bool := M.2.2.2.2.2.2.all fun c => c.2.all fun q => insOK M q.1 q.2
theorem fch_ok {M : MD} : ∀ (l : List (Nat × XI)), (l.all fun q => insOK M q.1 q.2) = true → ∀ pc, insOK M pc (fch l pc) = true := by
  intro l
  induction l with
  | nil => intro _ pc; rfl
  | cons q l ih =>
    intro h pc
    rw [List.all_cons, Bool.and_eq_true] at h
    obtain ⟨p, i⟩ := q
    show insOK M pc (cond (Nat.beq p pc) i (fch l pc)) = true
    cases e : Nat.beq p pc with
    | true => rw [← Nat.eq_of_beq_eq_true e]; exact h.1
    | false => exact ih h.2 pc
theorem fcb_ok {M : MD} : ∀ (l : List (Nat × List (Nat × XI))), (l.all fun c => c.2.all fun q => insOK M q.1 q.2) = true → ∀ pc, insOK M pc (fcb l pc) = true := by
  intro l
  induction l with
  | nil => intro _ pc; rfl
  | cons c l ih =>
    intro h pc
    rw [List.all_cons, Bool.and_eq_true] at h
    obtain ⟨b, cl⟩ := c
    show insOK M pc (cond (Nat.ble pc b) (fch cl pc) (fcb l pc)) = true
    cases e : Nat.ble pc b with
    | true => exact fch_ok cl h.1 pc
    | false => exact ih h.2 pc
theorem okM_at {M : MD} (h : okM M = true) (pc : Nat) : insOK M pc (xfetch M pc) = true := fcb_ok _ h pc
