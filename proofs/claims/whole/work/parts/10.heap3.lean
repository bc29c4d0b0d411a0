-- one instruction of the abstract machine is one of the machine: what is made, references in arrays, statics, copies
theorem clr_at {h : HH} {o k : Nat} : clr h o o k = cond (Nat.beq (tyO o k) 2) (-1) 0 := by
  unfold clr
  rw [Nat.beq_refl]
  rfl
theorem clr_ne {h : HH} {o a k : Nat} (q : a ≠ o) : clr h o a k = h a k := by
  unfold clr
  rw [nbf q]
  rfl
theorem upA_at {al : AL} {o : Nat} : upA al o o = true := by
  unfold upA
  rw [Nat.beq_refl]
  rfl
theorem upA_ne {al : AL} {o a : Nat} (q : a ≠ o) : upA al o a = al a := by
  unfold upA
  rw [nbf q]
  rfl
theorem upA_mono {al : AL} {o : Nat} : ∀ a, al a = true → upA al o a = true := by
  intro a ha
  by_cases e : a = o
  · subst e; exact upA_at
  · rw [upA_ne e]; exact ha
theorem kd_lt {o : Nat} (h : kd o ≠ 99) : o < 566 := by
  rcases Nat.lt_or_ge o 566 with q | q
  · exact q
  · refine absurd ?_ h
    unfold kd
    rw [show Nat.ble o 229 = false from by cases e : Nat.ble o 229 with | true => exact absurd (Nat.le_of_ble_eq_true e) (by omega) | false => rfl, show Nat.ble 566 o = true from Nat.ble_eq_true_of_le q]
    rfl
theorem lnS_le (a : Nat) : lnS a ≤ 6840 := by
  unfold lnS
  cases e : Nat.ble a 229 with
  | true =>
    have h : ∀ a, a < 230 → (lnT.getD (a / 16) []).getD (a % 16) 0 ≤ 6840 := by decide +kernel
    exact h a (by have := Nat.le_of_ble_eq_true e; omega)
  | false =>
    simp only [cond_false]
    cases Nat.ble 566 a <;> simp only [cond_true, cond_false]
    · cases Nat.beq ((a - 230) % 8) 0 <;> simp only [cond_true, cond_false]
      · cases Nat.beq ((a - 230) % 8) 7 <;> simp only [cond_true, cond_false]
        · cases Nat.beq ((a - 230) % 8) 6 <;> simp only [cond_true, cond_false] <;> omega
        · omega
      · omega
    · omega
theorem ln_le {g : GC} (hg : g.2.2.2.2 ≤ 3072) (a : Nat) : ln g a ≤ 6840 := by
  unfold ln
  cases Nat.beq a 180 <;> simp only [cond_true, cond_false]
  · exact lnS_le a
  · omega
section SND5
variable {g : GC} {d : Nat} {M : MD} {Q : Option XV → HH → AL → Prop} {pc : Nat} {L : LL} {S r : SL} {h : HH} {al : AL} {x y : Int}
theorem rdv_ad {al : AL} {ad ad1 : Nat → Nat} (ha : ∀ a, al a = true → ad1 a = ad a) {t : Nat} {z : Int} (hv : okT al t z) : dv ad1 (rdv t z) = dv ad (rdv t z) := dv_ad ha (okT_V hv)
/-- a new own cell o at the end of the heap -/
theorem HR.new {ad ad1 : Nat → Nat} {s : State} {H H1 : Heap} {o : Nat} (hr : HR g ad h al s H) (ho : al o = false) (hkd : kd o < 80) (hb : g.2.2.2.1 ≤ H.size) (had : ad1 = fun a => if a = o then H.size else ad a)
    (hc : CellR g ad1 (clr h o) s H1 o) (hq : ∀ q, q < H.size → H1[q]? = H[q]?) (h0 : ∀ k, tyO o k ≠ 2 → tyO o k ≤ 3) : HR g ad1 (clr h o) (upA al o) s H1 := by
  have hne : ∀ a, al a = true → a ≠ o := fun a ha e => by rw [e, ho] at ha; cases ha
  have hsame : ∀ a, al a = true → ad1 a = ad a := fun a ha => by rw [had]; exact if_neg (hne a ha)
  have ho1 : ad1 o = H.size := by rw [had]; exact if_pos rfl
  have hcase : ∀ a, upA al o a = true → a = o ∨ al a = true := fun a ha => by
    by_cases e : a = o
    · exact Or.inl e
    · rw [upA_ne e] at ha; exact Or.inr ha
  have hlt : ∀ a, al a = true → ad a < H.size := fun a ha => by
    rcases Nat.lt_or_ge 80 (kd a) with q | q
    · have := hr.2.2.2.1 a ha (by omega)
      exact Nat.lt_of_not_le fun z => this (Nat.le_trans hb z)
    · exact (hr.1 a ha).2.lt q
  have hout : ∀ a : Nat, a < H.size → ¬ xA g a → H1[a]? = H[a]? := fun a h1 _ => hq a h1
  have hcst : ∀ a, 181 ≤ a → a ≤ 198 → ad1 a = ad a := fun a b1 b2 => hsame a (hr.2.2.2.2.2.1 a b1 b2)
  refine ⟨fun a ha => ?_, fun a b ha hb2 hk e => ?_, fun a ha hk => ?_, fun a ha hk => ?_, fun a k ha hk => ?_, fun a b1 b2 => upA_mono a (hr.2.2.2.2.2.1 a b1 b2), (hr.2.2.2.2.2.2.kept hout).ad hcst⟩
  · rcases hcase a ha with e | ha
    · rw [e]; exact ⟨kd_lt (by omega), hc⟩
    · obtain ⟨a1, c1, c2, c3⟩ := hr.1 a ha
      have hf : ∀ k, clr h o a k = h a k := fun k => clr_ne (hne a ha)
      refine ⟨a1, fun q => ?_, fun q q2 => ?_, fun q => ?_⟩
      · rw [hsame a ha]
        refine ((c1 q).kept (hq _ (hlt a ha))).to fun k hk => ?_
        rw [hf k]
        have hv := hr.2.2.2.2.1 a k ha (by unfold szO; rw [show Nat.ble (kd a) 49 = true from Nat.ble_eq_true_of_le (by omega)]; exact hk)
        have ht : tyO a k = fty (kd a) k := by unfold tyO; rw [show Nat.ble (kd a) 49 = true from Nat.ble_eq_true_of_le (by omega)]; rfl
        rw [ht] at hv
        exact (rdv_ad hsame hv).symm
      · rw [hsame a ha, hq _ (hlt a ha), c2 q q2]
        congr 1
        refine cst_eq _ fun k hk => ?_
        rw [hf k]
        have e50 : kd a = 50 + (kd a - 50) := by omega
        have hv := arr_okT hr ha e50 (by omega) hk
        exact (rdv_ad hsame hv).symm
      · rw [hsame a ha]
        have := (c3 q).kept hout
        rw [show (fun j => Value.int (Int32.ofInt (clr h o a j))) = (fun j => Value.int (Int32.ofInt (h a j))) by funext j; rw [hf j]]
        exact this
  · rcases hcase a ha with ea | ha <;> rcases hcase b hb2 with eb | hb2
    · rw [ea, eb]
    · rw [ea, ho1, hsame b hb2] at e
      have := hlt b hb2; omega
    · rw [eb, ho1, hsame a ha] at e
      have := hlt a ha; omega
    · rw [hsame a ha, hsame b hb2] at e
      exact hr.2.1 a b ha hb2 hk e
  · rcases hcase a ha with e | ha
    · rw [e, ho1]; exact hb
    · rw [hsame a ha]; exact hr.2.2.1 a ha hk
  · rcases hcase a ha with e | ha
    · rw [e] at hk; omega
    · rw [hsame a ha]; exact hr.2.2.2.1 a ha hk
  · rcases hcase a ha with e | ha
    · subst e
      rw [clr_at]
      by_cases e2 : tyO a k = 2
      · rw [e2]; exact Or.inl rfl
      · rw [nbf e2]
        have := h0 k e2
        have e3 : ∀ t, t ≤ 3 → t ≠ 2 → okT (upA al a) t 0 := by
          intro t h1 h2
          match t, h1, h2 with
          | 0, _, _ => exact ⟨by decide, by decide⟩
          | 1, _, _ => exact ⟨by decide, by decide⟩
          | 3, _, _ => exact Or.inl rfl
        exact e3 _ this e2
    · rw [clr_ne (hne a ha)]
      exact okT.up upA_mono (hr.2.2.2.2.1 a k ha hk)
theorem ft3 : ∀ c, c < 11 → ∀ k, fty c k ≤ 3 := by
  intro c hc k
  rcases Nat.lt_or_ge k (ftl c).length with q | q
  · have h : ∀ c, c < 11 → ∀ k, k < (ftl c).length → (ftl c).getD k 0 ≤ 3 := by decide +kernel
    exact h c hc k q
  · unfold fty
    rw [List.getD_eq_getElem?_getD, List.getElem?_eq_none q]
    exact Nat.zero_le _
theorem dflt_ok {ad : Nat → Nat} {ty : FieldType} {t : Nat} (ht : tcd ty = t) (h3 : t ≤ 3) : defaultValue ty = dv ad (rdv t (cond (Nat.beq t 2) (-1) 0)) := by
  cases ty with
  | int => subst ht; rfl
  | long => subst ht; rfl
  | boolean => subst ht; rfl
  | object n => subst ht; rfl
  | array n => subst ht; rfl
  | _ => subst ht; exact absurd h3 (by decide)
theorem cnt_up {o : Nat} (ho : al o = false) (hk : kd o < 80) : cnt (upA al o) - cnt al = 1 := by
  have := cntN_add (al := al) (fun _ => 1) ho 566 (kd_lt (by omega))
  unfold cnt
  omega
theorem slt_up {o : Nat} (ho : al o = false) (hk : kd o < 80) : slt g (upA al o) - slt g al = szO g o := by
  have := cntN_add (al := al) (szA g) ho 566 (kd_lt (by omega))
  have e : szA g o = szO g o := by
    unfold szA
    rw [show Nat.ble (kd o) 79 = true from Nat.ble_eq_true_of_le (by omega)]
    rfl
  rw [e] at this
  unfold slt
  omega
theorem xs_new {ix o c : Nat} (hD : decode M.2.1 pc = .ok (.new ix, 3)) (hc : c < 11) (hkd : kd o = c) (ho : al o = false) (w1 : Cond.classLink M.1.cls ix (RR c) ∈ gT) (w2 : Cond.instantiable (RR c) (NF c) ∈ gT) (w3 : Cond.initialized (RR c) ∈ gT)
    (hk : XW g d M Q (pc + 3) L (xr (Int.ofNat o) :: S) (clr h o) (upA al o)) : XW g d M Q pc L S h al := by
  refine XW.hs hk upA_mono fun p l e R s m args below meth c0 H locs cells slots ad ls Qc hC hl hol hos hr1 hr2 hw => ?_
  have hr := hC.hr
  rw [cnt_up ho (by omega)] at hr1 hw
  rw [slt_up ho (by omega)] at hr2 hw
  have hsz : szO g o = NF c := by unfold szO; rw [hkd, show Nat.ble c 49 = true from Nat.ble_eq_true_of_le (by omega)]; rfl
  rw [hsz] at hr2 hw
  have hKc := hC.vm.1.1 c _ (xcl_at c hc)
  have hbase : g.2.2.2.1 ≤ H.size := Nat.le_trans hC.2.2.2.2.2.2.2.2.2.2.2.1.1 hC.ss.1
  refine W.newcK hC.1 hC.2.1 hC.own (hC.ts _ w1) (hC.ts _ w2) (hC.ts _ w3) rfl hD hr1 hr2 hKc.2.1 rfl fun H1 kC hkC e1 z1 o1 => ?_
  have hb := u_born (TYs c) hC.ts (lay_in c hc) hKc hkC e1 (TY_ok c hc)
  have hty : ∀ k, tyO o k = fty c k := fun k => by unfold tyO; rw [hkd, show Nat.ble c 49 = true from Nat.ble_eq_true_of_le (by omega)]; rfl
  have hnew := hr.new (ad1 := fun a => if a = o then H.size else ad a) (H1 := H1) ho (by omega) hbase rfl ⟨fun _ => ?_, fun q => by omega, fun q => by omega⟩ o1 (fun k _ => by rw [hty k]; exact ft3 c hc k)
  · have hsame : ∀ a, al a = true → (if a = o then H.size else ad a) = ad a := fun a ha => if_neg fun e => by rw [e, ho] at ha; cases ha
    have := hw (fun a => if a = o then H.size else ad a) H1 locs hsame hnew ⟨Nat.le_trans hC.ss.1 (by omega), fun q h1 h2 => (o1 q (Nat.lt_of_lt_of_le h1 hC.ss.1)).trans (hC.ss.2.1 q h1 h2), hC.ss.2.2⟩ (okS.cons (Or.inr ⟨Int.natCast_nonneg o, upA_at⟩) fun v hv => (hos v hv).up upA_mono)
    rw [List.map_cons, dv_o, map_ad hsame S hos] at this
    rw [show (if o = o then H.size else ad o) = H.size from if_pos rfl] at this
    exact this
  · rw [hkd]
    show t_OB (if o = o then H.size else ad o) _ _ _ _ _
    rw [if_pos rfl]
    refine hb.to fun k hk2 => ?_
    rw [clr_at, hty k]
    exact dflt_ok (tc_ok c hc k hk2) (ft3 c hc k)
theorem new_arr {ad : Nat → Nat} {s : State} {H H1 : Heap} {o t : Nat} (hr : HR g ad h al s H) (ho : al o = false) (hkd : kd o = 50 + t) (ht : t < 7) (hbase : g.2.2.2.1 ≤ H.size) (e1 : H1[H.size]? = some (arrV (g.2.2.1 t) (ln g o) (fun _ => defaultValue (aty t)))) (o1 : ∀ q, q < H.size → H1[q]? = H[q]?) : HR g (fun a => if a = o then H.size else ad a) (clr h o) (upA al o) s H1 := by
  have hty : ∀ k, tyO o k = ety t := fun k => by rw [kdA hkd (by omega)]
  have h7 : ety t ≤ 3 ∧ tcd (aty t) = ety t := by
    match t, ht with
    | 0, _ => exact ⟨by decide, rfl⟩
    | 1, _ => exact ⟨by decide, rfl⟩
    | 2, _ => exact ⟨by decide, rfl⟩
    | 3, _ => exact ⟨by decide, rfl⟩
    | 4, _ => exact ⟨by decide, rfl⟩
    | 5, _ => exact ⟨by decide, rfl⟩
    | 6, _ => exact ⟨by decide, rfl⟩
  refine hr.new (H1 := H1) ho (by omega) hbase rfl ⟨fun q => by omega, fun _ _ => ?_, fun q => by omega⟩ o1 (fun k _ => by rw [hty k]; exact h7.1)
  show H1[(if o = o then H.size else ad o)]? = _
  rw [if_pos rfl, e1, hkd, show 50 + t - 50 = t by omega]
  congr 1
  refine cst_eq _ fun k _ => ?_
  rw [clr_at, hty k]
  exact dflt_ok h7.2 h7.1
theorem ra_i {s : State} {c : ClassId} (h : va_RA s c .int) : s.vm.findClass ("[" ++ FieldType.int.toString) = some c := by
  unfold va_RA at h
  exact h
theorem ra_l {s : State} {c : ClassId} (h : va_RA s c .long) : s.vm.findClass ("[" ++ FieldType.long.toString) = some c := by
  unfold va_RA at h
  exact h
theorem ra_b {s : State} {c : ClassId} (h : va_RA s c .boolean) : s.vm.findClass ("[" ++ FieldType.boolean.toString) = some c := by
  unfold va_RA at h
  exact h
theorem ra_name {s : State} {c : ClassId} {t : Nat} (ht : t < 3) (h : va_RA s c (aty t)) : s.vm.findClass ("[" ++ (aty t).toString) = some c := by
  have e : t = 0 ∨ t = 1 ∨ t = 2 := by omega
  rcases e with e | e | e
  · have e2 : aty t = .int := by rw [e]; rfl
    rw [e2] at h ⊢
    exact ra_i h
  · have e2 : aty t = .long := by rw [e]; rfl
    rw [e2] at h ⊢
    exact ra_l h
  · have e2 : aty t = .boolean := by rw [e]; rfl
    rw [e2] at h ⊢
    exact ra_b h
theorem ofI_nat (n : Nat) : Int32.ofInt (n : Int) = Int32.ofNat n := rfl
theorem xs_newarr {at_ : ArrayType} {o t : Nat} (hD : decode M.2.1 pc = .ok (.newarray at_, 2)) (ht : t < 3) (hty : newarray.typeOf at_ = aty t) (hkd : kd o = 50 + t) (ho : al o = false) (hn : x = (ln g o : Int)) (w1 : Cond.arrayClass (aty t) ∈ gT)
    (hk : XW g d M Q (pc + 2) L (xr (Int.ofNat o) :: r) (clr h o) (upA al o)) : XW g d M Q pc L (xi x :: r) h al := by
  refine XW.hs hk upA_mono fun p l e R s m args below meth c0 H locs cells slots ad ls Qc hC hl hol hos hr1 hr2 hw => ?_
  have hr := hC.hr
  rw [cnt_up ho (by omega)] at hr1 hw
  rw [slt_up ho (by omega), szAr hkd] at hr2 hw
  have hbase : g.2.2.2.1 ≤ H.size := Nat.le_trans hC.2.2.2.2.2.2.2.2.2.2.2.1.1 hC.ss.1
  have hle := ln_le hC.2.2.2.2.2.2.2.2.2.2.2.1.2 o
  subst hn
  rw [List.map_cons]
  have hcb : componentBytes (aty t) ≤ 8 := by
    match t, ht with
    | 0, _ => decide
    | 1, _ => decide
    | 2, _ => decide
  refine va_newaK hC.1 hC.2.1 (by rw [hty]; exact hC.ts _ w1) rfl hD rfl (ofI0 (by omega) (by omega)) (by rw [clampI (by omega) (by omega)]; exact Int.toNat_natCast _) (by rw [hty]; exact Nat.le_trans (Nat.mul_le_mul hle hcb) (by decide)) hr1 hr2 rfl fun H1 cA e1 z1 o1 hA hnm => ?_
  rw [hty] at e1 hA hnm
  have hcA : cA = g.2.2.1 t := by
    have h3 := ra_name ht (hC.vm.1.2 t _ (xtys_at g t (by omega))).2
    exact Option.some.inj (hnm.symm.trans h3)
  rw [hcA] at e1
  have hnew := new_arr hr ho hkd (by omega) hbase e1 o1
  have hsame : ∀ a, al a = true → (if a = o then H.size else ad a) = ad a := fun a ha => if_neg fun e => by rw [e, ho] at ha; cases ha
  have := hw (fun a => if a = o then H.size else ad a) H1 locs hsame hnew ⟨Nat.le_trans hC.ss.1 (by omega), fun q h1 h2 => (o1 q (Nat.lt_of_lt_of_le h1 hC.ss.1)).trans (hC.ss.2.1 q h1 h2), hC.ss.2.2⟩ (okS.cons (Or.inr ⟨Int.natCast_nonneg o, upA_at⟩) fun v hv => (hos.tl v hv).up upA_mono)
  rw [List.map_cons, dv_o, map_ad hsame r hos.tl] at this
  rw [show (if o = o then H.size else ad o) = H.size from if_pos rfl] at this
  exact this
theorem xs_anew {ix o t : Nat} (hD : decode M.2.1 pc = .ok (.anewarray ix, 3)) (h3 : 3 ≤ t) (h6 : t < 7) (hkd : kd o = 50 + t) (ho : al o = false) (hn : x = (ln g o : Int)) (w1 : Cond.classLink M.1.cls ix (aCl t) ∈ gT)
    (hk : XW g d M Q (pc + 3) L (xr (Int.ofNat o) :: r) (clr h o) (upA al o)) : XW g d M Q pc L (xi x :: r) h al := by
  refine XW.hs hk upA_mono fun p l e R s m args below meth c0 H locs cells slots ad ls Qc hC hl hol hos hr1 hr2 hw => ?_
  have hr := hC.hr
  rw [cnt_up ho (by omega)] at hr1 hw
  rw [slt_up ho (by omega), szAr hkd] at hr2 hw
  have hbase : g.2.2.2.1 ≤ H.size := Nat.le_trans hC.2.2.2.2.2.2.2.2.2.2.2.1.1 hC.ss.1
  have hle := ln_le hC.2.2.2.2.2.2.2.2.2.2.2.1.2 o
  subst hn
  rw [List.map_cons]
  have hao : va_AO (aCl t) s := by
    match t, h3, h6 with
    | 3, _, _ => exact hC.vm.2.2.1
    | 4, _, _ => exact hC.vm.2.2.2.1
    | 5, _, _ => exact hC.vm.2.2.2.2.1
    | 6, _, _ => exact hC.vm.2.2.2.2.2
  have hat : aty t = .object (aCl t) := by
    match t, h3, h6 with
    | 3, _, _ => rfl
    | 4, _, _ => rfl
    | 5, _, _ => rfl
    | 6, _, _ => rfl
  have hcl : (Int32.ofInt (ln g o : Int)).toNatClampNeg = ln g o := by rw [clampI (by omega) (by omega)]; exact Int.toNat_natCast _
  refine W.anew hC.1 hC.2.1 hC.own (hC.ts _ w1) (va_AO.use hao) rfl hD rfl (ofI0 (by omega) (by omega)) (by rw [hcl]; omega) hr1 (by rw [hcl]; exact hr2) fun cA kA comp f1 f2 f3 f4 => ?_
  generalize hH1 : H.push ({ cls := cA, slots := Array.replicate (Int32.ofInt (ln g o : Int)).toNatClampNeg .null, vm := .none } : Cell) = H1
  have z1 : H1.size = H.size + 1 := by rw [← hH1, Array.size_push]
  have e1 : H1[H.size]? = some (arrV cA (ln g o) (fun _ => .null)) := by rw [← hH1, Array.getElem?_push_size, ← arrV_new, hcl]
  have o1 : ∀ q : Nat, q < H.size → H1[q]? = H[q]? := fun q hq => by rw [← hH1, Array.getElem?_push, if_neg (Nat.ne_of_lt hq)]
  have hcA : cA = g.2.2.1 t := by
    have h2 := (hC.vm.1.2 t _ (xtys_at g t (by omega))).2
    simp only [hat] at h2
    obtain ⟨kA2, comp2, -, -, -, h5⟩ := h2
    exact Option.some.inj (f1.symm.trans h5)
  rw [hcA] at e1
  have hnew := new_arr hr ho hkd (by omega) hbase (by rw [hat]; exact e1) o1
  have hsame : ∀ a, al a = true → (if a = o then H.size else ad a) = ad a := fun a ha => if_neg fun e => by rw [e, ho] at ha; cases ha
  have := hw (fun a => if a = o then H.size else ad a) H1 locs hsame hnew ⟨Nat.le_trans hC.ss.1 (by omega), fun q h1 h2 => (o1 q (Nat.lt_of_lt_of_le h1 hC.ss.1)).trans (hC.ss.2.1 q h1 h2), hC.ss.2.2⟩ (okS.cons (Or.inr ⟨Int.natCast_nonneg o, upA_at⟩) fun v hv => (hos.tl v hv).up upA_mono)
  rw [List.map_cons, dv_o, map_ad hsame r hos.tl] at this
  rw [show (if o = o then H.size else ad o) = H.size from if_pos rfl] at this
  rw [hcl]
  exact this
theorem xs_aast {o v t : Nat} {j : Int} (hD : decode M.2.1 pc = .ok (.aastore, 1)) (h3 : 3 ≤ t) (h6 : t < 7) (hk0 : kd o = 50 + t) (hkv : kd v = eCl t) (hj : 0 ≤ j ∧ j < (ln g o : Int)) (hk : XW g d M Q (pc + 1) L r (uH h o j.toNat v) al) : XW g d M Q pc L (xr (Int.ofNat v) :: xi j :: xr (Int.ofNat o) :: r) h al := by
  refine XW.hs hk (fun _ q => q) fun p l e R s m args below meth c0 H locs cells slots ad ls Qc hC hl hol hos hr1 hr2 hw => ?_
  have ho := ok_o hos.tl.tl.hd
  have hv := ok_o hos.hd
  have hr := hC.hr
  have hjr : j < 2147483648 := hos.tl.hd.2
  have hjn : j.toNat < ln g o := by omega
  rw [List.map_cons, List.map_cons, List.map_cons, dv_o, dv_o]
  have hc := arr_own hr ho hk0 (by omega)
  have h5 : ety t = 2 ∧ aty t = .object (RR (eCl t)) ∧ eCl t < 11 := by
    match t, h3, h6 with
    | 3, _, _ => exact ⟨rfl, rfl, by decide⟩
    | 4, _, _ => exact ⟨rfl, rfl, by decide⟩
    | 5, _, _ => exact ⟨rfl, rfl, by decide⟩
    | 6, _, _ => exact ⟨rfl, rfl, by decide⟩
  obtain ⟨cellV, g1, g2, g3, -⟩ := (hr.1 v hv).2.1 (by omega)
  rw [hkv] at g2
  have hcls := (hC.vm.1.1 (eCl t) _ (xcl_at _ h5.2.2)).2
  have hRA := (hC.vm.1.2 t _ (xtys_at g t h6)).2
  simp only [h5.2.1] at hRA
  obtain ⟨kA, comp, k1, k2, k3, -⟩ := hRA
  have hcomp : comp = g.1 (eCl t) := Option.some.inj (k3.symm.trans hcls.1)
  subst hcomp
  have hcls2 := hcls
  obtain ⟨kC, hkC, -⟩ := hcls.2
  refine W.aast hC.1 hC.2.1 hc (fun q h => by cases h) (fun h => by cases h) k1 k2 rfl hkC ⟨ofI0 hj.1 hjr, by rw [arrV_size, clampI hj.1 hjr]; exact hjn⟩ g1 (fun q h => by rw [g3] at h; cases h) (by rw [g2]; exact hkC) (by rw [g2]; exact va_assign hcls2) rfl rfl hD fun H1 e1 e2 e3 => ?_
  rw [clampI hj.1 hjr] at e1 ⊢
  refine W.cs (by omega) (by omega) (hw ad H1 _ (fun _ _ => rfl) (arr_put hr ho hk0 (by omega) (v := (v : Int)) (by rw [h5.1]; exact Or.inr ⟨Int.natCast_nonneg v, hv⟩) ?_ e3) (hC.ss.put e2 e3 (hr.2.2.1 o ho (by omega))) hos.tl.tl.tl)
  rw [e1, h5.1]
  rfl
theorem xs_alen {o : Nat} (hD : decode M.2.1 pc = .ok (.arraylength, 1)) (h1 : 50 ≤ kd o) (h2 : kd o ≤ 80) (hkx : kd o < 57 ∨ kd o = 80) (hk : XW g d M Q (pc + 1) L (xi (ln g o : Int) :: r) h al) : XW g d M Q pc L (xr (Int.ofNat o) :: r) h al := by
  refine XW.hp hk fun p l e R s m args below meth c0 H locs cells slots ad ls Qc hC hl hol hos hw => ?_
  have ho := ok_o hos.hd
  have hr := hC.hr
  have hle := ln_le hC.2.2.2.2.2.2.2.2.2.2.2.1.2 o
  have hw2 := hw (okS.cons (show -2147483648 ≤ (ln g o : Int) ∧ (ln g o : Int) < 2147483648 by omega) hos.tl)
  rw [List.map_cons, dv_o]
  rcases hkx with q | q
  · have e50 : kd o = 50 + (kd o - 50) := by omega
    have hc := arr_own hr ho e50 (by omega)
    exact W.alen hC.1 hC.2.1 hc (arr_of hC.vm (by omega) _ _) (by rw [arrV_size]; rfl) rfl rfl hD hw2
  · obtain ⟨cell, c1, c2, c3, c4, c5, c6, c7⟩ := (hr.1 o ho).2.2.2 q
    exact W.alen hC.1 hC.2.1 c1 c2 c5 rfl rfl hD hw2
theorem xs_gets {ix a : Nat} {host : String} (hD : decode M.2.1 pc = .ok (.getstatic ix, 3))
    (hlink : ∃ C n, ((a = 181 ∧ C = "ByLot" ∧ n = "KIND_ABOVE") ∨ (a = 182 ∧ C = "ByLot$Acts" ∧ n = "BODIES")) ∧ (Cond.fieldLink M.1.cls ix C n "[I" ∈ gT ∨ Cond.fieldLinkNest M.1.cls ix C n "[I" host ∈ nT)) (hk : XW g d M Q (pc + 3) L (xr a :: S) h al) : XW g d M Q pc L S h al := by
  refine XW.hp hk fun p l e R s m args below meth c0 H locs cells slots ad ls Qc hC hl hol hos hw => ?_
  have hr := hC.hr
  obtain ⟨C, n, ha, hl2⟩ := hlink
  have h181 : 181 ≤ a ∧ a ≤ 190 := by omega
  have hw2 := hw (okS.cons (Or.inr ⟨Int.natCast_nonneg a, by exact hr.2.2.2.2.2.1 a h181.1 (Nat.le_trans h181.2 (by decide))⟩) hos)
  rw [List.map_cons, show dv ad (xr (a : Int)) = .ref (ad a) from dv_o] at hw2
  have hZ : va_Z C n "[I" (.ref (ad a)) (xA g) s H := by
    rcases ha with ⟨rfl, rfl, rfl⟩ | ⟨rfl, rfl, rfl⟩
    · exact hr.2.2.2.2.2.2.1
    · exact hr.2.2.2.2.2.2.2.1
  obtain ⟨cf, kf, fi, f, a0, cell, z1, z2, z3, z4, z5, z6, z7, z8⟩ := hZ
  rcases hl2 with hl2 | hl2
  · exact W.gets hC.1 hC.2.1 hC.own (hC.ts _ hl2) z1 z2 z3 z4 z5 (fun e => by rw [e] at z6; cases z6) z7 rfl hD hw2
  · exact va_WgetsN hC.1 hC.2.1 hC.own (va_Nw.use rfl (hC.vm.2.1 _ hl2)) z1 z2 z3 z4 z5 (fun e => by rw [e] at z6; cases z6) z7 rfl hD hw2
theorem xs_ldcS {ix a : Nat} {tx : String} (hD : decode M.2.1 pc = .ok (.ldc ix, 2)) (hm : (M.1.cls, ix, tx, a) ∈ sKey) (hk : XW g d M Q (pc + 2) L (xr a :: S) h al) : XW g d M Q pc L S h al := by
  refine XW.hp hk fun p l e R s m args below meth c0 H locs cells slots ad ls Qc hC hl hol hos hw => ?_
  have hr := hC.hr
  have hb : ∀ q ∈ sKey, 181 ≤ q.2.2.2 ∧ q.2.2.2 ≤ 190 := by decide +kernel
  have h181 := hb _ hm
  have hw2 := hw (okS.cons (Or.inr ⟨Int.natCast_nonneg a, by exact hr.2.2.2.2.2.1 a h181.1 (Nat.le_trans h181.2 (by decide))⟩) hos)
  rw [List.map_cons, show dv ad (xr (a : Int)) = .ref (ad a) from dv_o] at hw2
  exact va_ldcS hC.1 hC.2.1 hC.own (hC.2.2.2.2.2.2.2.2.2.2.1 _ hm) hD hw2
end SND5
