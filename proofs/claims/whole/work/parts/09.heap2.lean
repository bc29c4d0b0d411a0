-- one instruction of the abstract machine is one of the machine: fields written, arrays
theorem fit_ok {al : AL} {ad : Nat → Nat} {ty : FieldType} {t : Nat} {x : Int} (h : okT al t x) (ht : tcd ty = t) (h3 : t ≤ 3) : narrow ty (dv ad (rdv t x)) = dv ad (rdv t x) ∧ fits ty (dv ad (rdv t x)) = true := by
  have hr : narrow ty (dv ad (xr x)) = dv ad (xr x) ∧ ((∃ n, ty = .object n) ∨ (∃ n, ty = .array n) → fits ty (dv ad (xr x)) = true) := by
    by_cases q : x < 0
    · rw [show dv ad (xr x) = .null by simp [dv, q]]
      exact ⟨by cases ty <;> rfl, fun z => by rcases z with ⟨n, rfl⟩ | ⟨n, rfl⟩ <;> rfl⟩
    · rw [show dv ad (xr x) = .ref (ad x.toNat) by simp [dv, q]]
      exact ⟨by cases ty <;> rfl, fun z => by rcases z with ⟨n, rfl⟩ | ⟨n, rfl⟩ <;> rfl⟩
  cases ty with
  | int => subst ht; exact ⟨rfl, rfl⟩
  | long => subst ht; exact ⟨rfl, rfl⟩
  | boolean =>
    subst ht
    have h2 : x = 0 ∨ x = 1 := h
    rcases h2 with rfl | rfl
    · exact ⟨show narrow .boolean (.int (Int32.ofInt 0)) = .int (Int32.ofInt 0) by decide +kernel, show fits .boolean (.int (Int32.ofInt 0)) = true by decide +kernel⟩
    · exact ⟨show narrow .boolean (.int (Int32.ofInt 1)) = .int (Int32.ofInt 1) by decide +kernel, show fits .boolean (.int (Int32.ofInt 1)) = true by decide +kernel⟩
  | object n => subst ht; exact ⟨hr.1, hr.2 (Or.inl ⟨n, rfl⟩)⟩
  | array n => subst ht; exact ⟨hr.1, hr.2 (Or.inr ⟨n, rfl⟩)⟩
  | _ => subst ht; exact absurd h3 (by decide)
theorem cst_eq {f f' : Nat → Value} {n : Nat} (c : ClassId) (h : ∀ j, j < n → f j = f' j) : arrV c n f = arrV c n f' := by
  unfold arrV
  congr 2
  funext j
  exact h j.val j.isLt
section SND4
variable {g : GC} {d : Nat} {M : MD} {Q : Option XV → HH → AL → Prop} {pc : Nat} {L : LL} {S r : SL} {h : HH} {al : AL} {x y : Int}
theorem xs_put {ix o b c t : Nat} {host : String} (hD : decode M.2.1 pc = .ok (.putfield ix, 3)) (hc : c < 11) (hb : b < NF c) (ht : t = fty c b) (h3 : t ≤ 3) (hkd : kd o = c)
    (hlink : ((TT c b).2.2.2 = false ∧ Cond.fieldLink M.1.cls ix (RR c) (TT c b).2.1 (TT c b).2.2.1 ∈ gT) ∨ ((TT c b).2.2.2 = false ∧ Cond.fieldLinkNest M.1.cls ix (RR c) (TT c b).2.1 (TT c b).2.2.1 host ∈ nT) ∨ ((TT c b).2.2.2 = true ∧ RR c = M.1.cls ∧ M.1.name = "<init>" ∧ Cond.fieldLink M.1.cls ix (RR c) (TT c b).2.1 (TT c b).2.2.1 ∈ gT))
    (hx : okV al (rdv t x) → okT al t x) (hk : XW g d M Q (pc + 3) L r (uH h o b x) al) : XW g d M Q pc L (rdv t x :: xr (Int.ofNat o) :: r) h al := by
  refine XW.hs hk (fun _ q => q) fun p l e R s m args below meth c0 H locs cells slots ad ls Qc hC hl hol hos hr1 hr2 hw => ?_
  have ho := ok_o hos.tl.hd
  have hx2 := hx hos.hd
  have hr := hC.hr
  have hkd1 : kd o < 50 := by omega
  have hty : tyO o b = t := by unfold tyO; rw [show Nat.ble (kd o) 49 = true from Nat.ble_eq_true_of_le (by omega), hkd, ht]; rfl
  obtain ⟨cell, q1, q2, q3, q4⟩ := ((hr.1 o ho).2.1 hkd1)
  rw [hkd] at q2 q4
  have hKc := hC.vm.1.1 c _ (xcl_at c hc)
  obtain ⟨hS, hfc, kC, hkC, hkind⟩ := id hKc
  obtain ⟨cf, kf, fi, f, hi, hsl⟩ := hS b hb
  have hown2 := own_ok c hc b hb
  rw [List.map_cons, List.map_cons, dv_o]
  have hst := (u_facts hfc hkC (u_lays hC.ts (lay_in c hc) hb) hi).1
  have hi2 := hi
  simp only [hown2] at hi2
  have hf := fit_ok (al := al) (ad := ad) (ty := TYs c b) hx2 (by rw [ht]; exact tc_ok c hc b hb) h3
  have hap : ∀ x y, x < NF c → y < NF c → x ≠ y → (g.2.1 c) x ≠ (g.2.1 c) y := va_apart (own := RR c) (D := (g.1, g.2.1)) (cl := xcl) (ci := c) hC.ts (lay_in c hc) (TYs c) (TY_ok c hc) (NM_ok c hc) hC.vm.1 (xcl_at c hc)
  have hlay := hC.ts _ (lay_in c hc _ (u_in_lay hb))
  have hsz : f.slot < cell.slots.size := by rw [hsl]; exact k2_hasslot (q4 b hb)
  have fin : ∀ (H1 : Heap), H1[ad o]? = some (cell.setSlot f.slot (dv ad (rdv t x))) → H1.size = H.size → (∀ q, q ≠ ad o → H1[q]? = H[q]?) →
      W p l e R s m args below meth c0 H1 (locs ++ [⟨ad o, f.slot⟩]) cells slots Qc (F0 m (pc + 3) ls (r.map (dv ad))) := by
    intro H1 e1 e2 e3
    have hA : xA g (ad o) := hr.2.2.1 o ho (by omega)
    have hcell : CellR g ad (uH h o b x) s H1 o := by
      refine ⟨fun _ => ?_, fun q => by omega, fun q => by omega⟩
      rw [hkd]
      rw [hsl] at e1
      refine t_OB.to (V := updV (fun k => dv ad (rdv (fty c k) (h o k))) b (dv ad (rdv t x))) ⟨_, e1, q2, q3, t_set q4 hap hb _⟩ fun j hj => ?_
      by_cases e : j = b
      · subst e; rw [uH_at, ht]; simp [updV]
      · rw [uH_ne (fun z => e z.2)]; simp [updV, e]
    have hHR := hr.put ho (by omega) (by rw [hty]; exact hx2) hcell e3
    exact W.cs (by omega) (by omega) (hw ad H1 _ (fun _ _ => rfl) hHR (hC.ss.put e2 e3 hA) hos.tl.tl)
  rcases hlink with ⟨hfin, hlink⟩ | ⟨hfin, hlink⟩ | ⟨hfin, ho1, hn1, hlink⟩
  · unfold u_lay at hlay
    rw [if_neg (by rw [hfin]; decide)] at hlay
    have h6 := u_store hfc hkC hkind hlay hi (TY_ok c hc b hb) hf.1 hf.2
    exact W.putK hC.1 hC.2.1 (f := f) ⟨hC.own, hC.ts _ hlink, ⟨_, _, _, hi2⟩, hst⟩ (by rw [q2]; exact h6) q1 q3 hsz rfl rfl hD fin
  · unfold u_lay at hlay
    rw [if_neg (by rw [hfin]; decide)] at hlay
    have h6 := u_store hfc hkC hkind hlay hi (TY_ok c hc b hb) hf.1 hf.2
    exact va_WputK hC.1 hC.2.1 (f := f) hC.own (va_Nw.use rfl (hC.vm.2.1 _ hlink)) hi2 hst (by rw [q2]; exact h6) q1 q3 hsz rfl rfl hD fin
  · unfold u_lay at hlay
    rw [if_pos hfin] at hlay
    have hcf : m.cls = cf := by
      obtain ⟨_, _, c', _, _, _, -, -, hf', -, -, -, hown3, -⟩ := Cond.laysFinal_spec hlay
      have e1 : c' = cf := by have := hi.symm.trans hf'; simp at this; exact this.1.symm
      rw [hown2, ho1] at hown3
      rw [← e1]; exact Option.some.inj (hC.own.symm.trans hown3)
    have h6 := u_fits hfc hkC hkind (Or.inr hlay) hi (TY_ok c hc b hb) hf.1 hf.2
    exact W.putFinK hC.1 hC.2.1 hC.own (hC.ts _ hlink) hi2 hst hcf (by rw [hC.2.2.2.2.2.2.2.1]; exact hn1) (by rw [q2]; exact h6) q1 q3 hsz rfl rfl hD fin
-- arrays
theorem kdA {o t : Nat} (h : kd o = 50 + t) (ht : t < 30) : tyO o = fun _ => ety t := by
  funext k
  unfold tyO
  rw [h, show Nat.ble (50 + t) 49 = false from by cases e : Nat.ble (50 + t) 49 with | true => exact absurd (Nat.le_of_ble_eq_true e) (by omega) | false => rfl, show Nat.ble (50 + t) 79 = true from Nat.ble_eq_true_of_le (by omega), show 50 + t - 50 = t by omega]
  rfl
theorem szAr {o t : Nat} (h : kd o = 50 + t) : szO g o = ln g o := by
  unfold szO
  rw [h, show Nat.ble (50 + t) 49 = false from by cases e : Nat.ble (50 + t) 49 with | true => exact absurd (Nat.le_of_ble_eq_true e) (by omega) | false => rfl]
  rfl
theorem arr_own {ad : Nat → Nat} {s : State} {H : Heap} {o t : Nat} (hr : HR g ad h al s H) (ho : al o = true) (hk : kd o = 50 + t) (ht : t < 30) : H[ad o]? = some (arrV (g.2.2.1 t) (ln g o) (fun j => dv ad (rdv (ety t) (h o j)))) := by
  have := (hr.1 o ho).2.2.1 (by omega) (by omega)
  rw [hk, show 50 + t - 50 = t by omega] at this
  exact this
theorem arr_okT {ad : Nat → Nat} {s : State} {H : Heap} {o t j : Nat} (hr : HR g ad h al s H) (ho : al o = true) (hk : kd o = 50 + t) (ht : t < 30) (hj : j < ln g o) : okT al (ety t) (h o j) := by
  have := hr.2.2.2.2.1 o j ho (by rw [szAr hk]; exact hj)
  rw [kdA hk ht] at this
  exact this
theorem arr_of {s : State} (hv : VMk g s) {t : Nat} (ht : t < 7) (n : Nat) (f : Nat → Value) : s.isArrayOf (arrV (g.2.2.1 t) n f) (aty t) := (hv.1.2 t _ (xtys_at g t ht)).1 n f
theorem xs_iald {o : Nat} {j : Int} (hD : decode M.2.1 pc = .ok (.iaload, 1)) (hk0 : isA 0 o = true) (hj : 0 ≤ j ∧ j < (ln g o : Int)) (hk : XW g d M Q (pc + 1) L (xi (h o j.toNat) :: r) h al) : XW g d M Q pc L (xi j :: xr (Int.ofNat o) :: r) h al := by
  refine XW.hp hk fun p l e R s m args below meth c0 H locs cells slots ad ls Qc hC hl hol hos hw => ?_
  have ho := ok_o hos.tl.hd
  have hr := hC.hr
  have hjr : j < 2147483648 := hos.hd.2
  have hjn : j.toNat < ln g o := by omega
  rw [List.map_cons, List.map_cons, dv_o]
  have hk1 : kd o = 50 ∨ kd o = 80 := by
    unfold isA at hk0
    rw [Bool.or_eq_true, Bool.and_eq_true] at hk0
    rcases hk0 with q | q
    · exact Or.inl (Nat.eq_of_beq_eq_true q)
    · exact Or.inr (Nat.eq_of_beq_eq_true q.2)
  rcases hk1 with hk1 | hk1
  · have hv := arr_okT hr ho (t := 0) hk1 (by omega) hjn
    have hc := arr_own hr ho (t := 0) hk1 (by omega)
    exact W.iald hC.1 hC.2.1 hc (arr_of hC.vm (by omega) _ _) (fun q => by cases q) (by rw [arrV_size]; exact ixok hj hjr) (by rw [clampI hj.1 hjr, arrV_read _ _ hjn]; rfl) rfl rfl hD (hw (okS.cons hv hos.tl.tl))
  · have hv := hr.2.2.2.2.1 o j.toNat ho (by unfold szO; rw [hk1]; exact hjn)
    have ht : tyO o j.toNat = 0 := by unfold tyO; rw [hk1]; rfl
    rw [ht] at hv
    obtain ⟨cell, c1, c2, c3, c4, c5, c6, c7⟩ := (hr.1 o ho).2.2.2 hk1
    have hin := ixok hj hjr
    rw [clampI hj.1 hjr] at hin
    exact W.iald hC.1 hC.2.1 c1 c2 c3 (by rw [clampI hj.1 hjr]; exact fun q => hin (q.imp id fun q => by omega)) (by rw [clampI hj.1 hjr]; exact c6 _ hjn) rfl rfl hD (hw (okS.cons hv hos.tl.tl))
theorem xs_bald {o : Nat} {j : Int} (hD : decode M.2.1 pc = .ok (.baload, 1)) (hk0 : kd o = 52) (hj : 0 ≤ j ∧ j < (ln g o : Int)) (hk : XW g d M Q (pc + 1) L (xi (h o j.toNat) :: r) h al) : XW g d M Q pc L (xi j :: xr (Int.ofNat o) :: r) h al := by
  refine XW.hp hk fun p l e R s m args below meth c0 H locs cells slots ad ls Qc hC hl hol hos hw => ?_
  have ho := ok_o hos.tl.hd
  have hr := hC.hr
  have hjr : j < 2147483648 := hos.hd.2
  have hjn : j.toNat < ln g o := by omega
  rw [List.map_cons, List.map_cons, dv_o]
  have hv := arr_okT hr ho (t := 2) hk0 (by omega) hjn
  have hc := arr_own hr ho (t := 2) hk0 (by omega)
  exact W.zald hC.1 hC.2.1 hc (arr_of hC.vm (by omega) _ _) (fun q => by cases q) (by rw [arrV_size]; exact ixok hj hjr) (by rw [clampI hj.1 hjr, arrV_read _ _ hjn]; rfl) rfl rfl hD (hw (okS.cons (okT_V (ty := 3) hv) hos.tl.tl))
theorem xs_lald {o : Nat} {j : Int} (hD : decode M.2.1 pc = .ok (.laload, 1)) (hk0 : kd o = 51) (hj : 0 ≤ j ∧ j < (ln g o : Int)) (hk : XW g d M Q (pc + 1) L (xl (h o j.toNat) :: r) h al) : XW g d M Q pc L (xi j :: xr (Int.ofNat o) :: r) h al := by
  refine XW.hp hk fun p l e R s m args below meth c0 H locs cells slots ad ls Qc hC hl hol hos hw => ?_
  have ho := ok_o hos.tl.hd
  have hr := hC.hr
  have hjr : j < 2147483648 := hos.hd.2
  have hjn : j.toNat < ln g o := by omega
  rw [List.map_cons, List.map_cons, dv_o]
  have hv := arr_okT hr ho (t := 1) hk0 (by omega) hjn
  have hc := arr_own hr ho (t := 1) hk0 (by omega)
  exact W.lald hC.1 hC.2.1 hc (arr_of hC.vm (by omega) _ _) (fun q => by cases q) (by rw [arrV_size]; exact ixok hj hjr) (by rw [clampI hj.1 hjr, arrV_read _ _ hjn]; rfl) rfl rfl hD (hw (okS.cons (okT_V (ty := 1) hv) hos.tl.tl))
theorem xs_aald {o t : Nat} {j : Int} (hD : decode M.2.1 pc = .ok (.aaload, 1)) (h3 : 3 ≤ t) (h6 : t ≤ 6) (hk0 : kd o = 50 + t) (hj : 0 ≤ j ∧ j < (ln g o : Int)) (hk : XW g d M Q (pc + 1) L (xr (h o j.toNat) :: r) h al) : XW g d M Q pc L (xi j :: xr (Int.ofNat o) :: r) h al := by
  refine XW.hp hk fun p l e R s m args below meth c0 H locs cells slots ad ls Qc hC hl hol hos hw => ?_
  have ho := ok_o hos.tl.hd
  have hr := hC.hr
  have hjr : j < 2147483648 := hos.hd.2
  have hjn : j.toNat < ln g o := by omega
  rw [List.map_cons, List.map_cons, dv_o]
  have he : ety t = 2 := by
    unfold ety
    rw [nbf (by omega), nbf (by omega), nbf (by omega)]
    rfl
  have hv := arr_okT hr ho (t := t) hk0 (by omega) hjn
  have hc := arr_own hr ho (t := t) hk0 (by omega)
  rw [he] at hv hc
  have hty : (aty t).isReference = true := by
    match t, h3, h6 with
    | 3, _, _ => rfl
    | 4, _, _ => rfl
    | 5, _, _ => rfl
    | 6, _, _ => rfl
  exact W.aald hC.1 hC.2.1 hc (arr_of hC.vm (by omega) _ _) hty (fun q => by cases q) (by rw [arrV_size]; exact ixok hj hjr) (by rw [clampI hj.1 hjr, arrV_read _ _ hjn]; rfl) rfl rfl hD (hw (okS.cons (okT_V (ty := 2) hv) hos.tl.tl))
/-- an own array written: what the new heap is -/
theorem arr_put {ad : Nat → Nat} {s : State} {H H1 : Heap} {o t j : Nat} {v : Int} (hr : HR g ad h al s H) (ho : al o = true) (hk : kd o = 50 + t) (ht : t < 30) (hv : okT al (ety t) v)
    (e1 : H1[ad o]? = some ((arrV (g.2.2.1 t) (ln g o) (fun j => dv ad (rdv (ety t) (h o j)))).setSlot j (dv ad (rdv (ety t) v)))) (e3 : ∀ q, q ≠ ad o → H1[q]? = H[q]?) : HR g ad (uH h o j v) al s H1 := by
  refine hr.put ho (by omega) (by rw [kdA hk ht]; exact hv) ⟨fun q => by omega, fun _ _ => ?_, fun q => by omega⟩ e3
  rw [hk, show 50 + t - 50 = t by omega, e1, arrV_store]
  congr 2
  funext i
  by_cases e : i = j
  · subst e; rw [uH_at]; simp [updV]
  · rw [uH_ne (fun z => e z.2)]; simp [updV, e]
theorem xs_iast {o : Nat} {j : Int} (hD : decode M.2.1 pc = .ok (.iastore, 1)) (hk0 : kd o = 50) (hj : 0 ≤ j ∧ j < (ln g o : Int)) (hk : XW g d M Q (pc + 1) L r (uH h o j.toNat x) al) : XW g d M Q pc L (xi x :: xi j :: xr (Int.ofNat o) :: r) h al := by
  refine XW.hs hk (fun _ q => q) fun p l e R s m args below meth c0 H locs cells slots ad ls Qc hC hl hol hos hr1 hr2 hw => ?_
  have ho := ok_o hos.tl.tl.hd
  have hr := hC.hr
  have hjr : j < 2147483648 := hos.tl.hd.2
  rw [List.map_cons, List.map_cons, List.map_cons, dv_o]
  have hc := arr_own hr ho (t := 0) hk0 (by omega)
  refine W.iast hC.1 hC.2.1 hc (arr_of hC.vm (by omega) _ _) (fun q => by cases q) (by rw [arrV_size]; exact ixok hj hjr) rfl rfl hD fun H1 e1 e2 e3 => ?_
  rw [clampI hj.1 hjr] at e1 ⊢
  exact W.cs (by omega) (by omega) (hw ad H1 _ (fun _ _ => rfl) (arr_put hr ho (t := 0) hk0 (by omega) hos.hd e1 e3) (hC.ss.put e2 e3 (hr.2.2.1 o ho (by omega))) hos.tl.tl.tl)
theorem xs_bast {o : Nat} {j : Int} (hD : decode M.2.1 pc = .ok (.bastore, 1)) (hk0 : kd o = 52) (hj : 0 ≤ j ∧ j < (ln g o : Int)) (hx : x = 0 ∨ x = 1) (hk : XW g d M Q (pc + 1) L r (uH h o j.toNat x) al) : XW g d M Q pc L (xi x :: xi j :: xr (Int.ofNat o) :: r) h al := by
  refine XW.hs hk (fun _ q => q) fun p l e R s m args below meth c0 H locs cells slots ad ls Qc hC hl hol hos hr1 hr2 hw => ?_
  have ho := ok_o hos.tl.tl.hd
  have hr := hC.hr
  have hjr : j < 2147483648 := hos.tl.hd.2
  rw [List.map_cons, List.map_cons, List.map_cons, dv_o]
  have hc := arr_own hr ho (t := 2) hk0 (by omega)
  refine W.zast hC.1 hC.2.1 hc (arr_of hC.vm (by omega) _ _) (fun q => by cases q) (by rw [arrV_size]; exact ixok hj hjr) rfl rfl hD fun H1 e1 e2 e3 => ?_
  rw [clampI hj.1 hjr] at e1 ⊢
  have en : narrow .boolean (.int (Int32.ofInt x)) = dv ad (rdv 3 x) := by
    rcases hx with rfl | rfl
    · show narrow .boolean (.int (Int32.ofInt 0)) = .int (Int32.ofInt 0)
      decide +kernel
    · show narrow .boolean (.int (Int32.ofInt 1)) = .int (Int32.ofInt 1)
      decide +kernel
  rw [en] at e1
  exact W.cs (by omega) (by omega) (hw ad H1 _ (fun _ _ => rfl) (arr_put hr ho (t := 2) hk0 (by omega) hx e1 e3) (hC.ss.put e2 e3 (hr.2.2.1 o ho (by omega))) hos.tl.tl.tl)
theorem xs_last {o : Nat} {j : Int} (hD : decode M.2.1 pc = .ok (.lastore, 1)) (hk0 : kd o = 51) (hj : 0 ≤ j ∧ j < (ln g o : Int)) (hk : XW g d M Q (pc + 1) L r (uH h o j.toNat x) al) : XW g d M Q pc L (xl x :: xi j :: xr (Int.ofNat o) :: r) h al := by
  refine XW.hs hk (fun _ q => q) fun p l e R s m args below meth c0 H locs cells slots ad ls Qc hC hl hol hos hr1 hr2 hw => ?_
  have ho := ok_o hos.tl.tl.hd
  have hr := hC.hr
  have hjr : j < 2147483648 := hos.tl.hd.2
  rw [List.map_cons, List.map_cons, List.map_cons, dv_o]
  have hc := arr_own hr ho (t := 1) hk0 (by omega)
  refine W.last hC.1 hC.2.1 hc (arr_of hC.vm (by omega) _ _) (fun q => by cases q) (by rw [arrV_size]; exact ixok hj hjr) rfl rfl hD fun H1 e1 e2 e3 => ?_
  rw [clampI hj.1 hjr] at e1 ⊢
  exact W.cs (by omega) (by omega) (hw ad H1 _ (fun _ _ => rfl) (arr_put hr ho (t := 1) hk0 (by omega) hos.hd e1 e3) (hC.ss.put e2 e3 (hr.2.2.1 o ho (by omega))) hos.tl.tl.tl)
end SND4
