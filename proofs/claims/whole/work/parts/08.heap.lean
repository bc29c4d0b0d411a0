-- one instruction of the abstract machine is one of the machine: cells
theorem uH_at {h : HH} {o k : Nat} {x : Int} : uH h o k x o k = x := by
  unfold uH
  rw [Nat.beq_refl, Nat.beq_refl]
  rfl
theorem uH_ne {h : HH} {o k a j : Nat} {x : Int} (q : ¬ (a = o ∧ j = k)) : uH h o k x a j = h a j := by
  unfold uH
  by_cases e : a = o
  · rw [nbf (show j ≠ k from fun z => q ⟨e, z⟩), Bool.and_false]
    rfl
  · rw [nbf e]
    rfl
theorem dv_o {ad : Nat → Nat} {o : Nat} : dv ad (xr (Int.ofNat o)) = .ref (ad o) := by
  unfold dv
  exact if_neg (show ¬ Int.ofNat o < 0 from Int.not_lt.mpr (Int.natCast_nonneg o))
theorem ok_o {al : AL} {o : Nat} (h : okV al (xr (Int.ofNat o))) : al o = true := by
  rcases h with h | h
  · exact absurd h (by simp)
  · exact h.2
theorem CellR.lt {g : GC} {ad : Nat → Nat} {h : HH} {s : State} {H : Heap} {a : Nat} (hc : CellR g ad h s H a) (hk : kd a ≤ 80) : ad a < H.size := by
  rcases Nat.lt_or_ge (kd a) 50 with q | q
  · obtain ⟨cell, h1, -⟩ := hc.1 q
    exact (Array.getElem?_eq_some_iff.mp h1).1
  · rcases Nat.lt_or_ge (kd a) 80 with q2 | q2
    · exact (Array.getElem?_eq_some_iff.mp (hc.2.1 q q2)).1
    · obtain ⟨cell, h1, -⟩ := hc.2.2 (by omega)
      exact (Array.getElem?_eq_some_iff.mp h1).1
theorem EXT.kept {g : GC} {ad : Nat → Nat} {s : State} {H H1 : Heap} (he : EXT g ad s H) (hq : ∀ a : Nat, a < H.size → ¬ xA g a → H1[a]? = H[a]?) : EXT g ad s H1 := by
  obtain ⟨h1, h2, h3, h4, q, h5⟩ := he
  exact ⟨h1.kept hq, h2.kept hq, h3.kept hq, h4.kept hq, q, h5.kept hq⟩
theorem EXT.moved {g : GC} {ad : Nat → Nat} {u U : State} {H : Heap} (hv : u.vm.Alike U.vm) (he : EXT g ad u H) : EXT g ad U H := by
  obtain ⟨h1, h2, h3, h4, q, h5⟩ := he
  exact ⟨va_Z.moved hv h1, va_Z.moved hv h2, vk_S.moved hv h3, va_Z.moved hv h4, q, va_Z.moved hv h5⟩
theorem EXT.ad {g : GC} {ad ad1 : Nat → Nat} {s : State} {H : Heap} (he : EXT g ad s H) (hq : ∀ a, 181 ≤ a → a ≤ 198 → ad1 a = ad a) : EXT g ad1 s H := by
  obtain ⟨h1, h2, h3, h45⟩ := he
  refine ⟨by rw [hq 181 (by omega) (by omega)]; exact h1, by rw [hq 182 (by omega) (by omega)]; exact h2, ⟨fun i hi => ?_, fun i j hi hj => ?_⟩, h45⟩
  · show va_O _ (ad1 (183 + i)) _ _ _ ∧ va_OF _ _ _ _ (ad1 (183 + i)) _ _ _ ∧ va_OF _ _ _ (.ref (ad1 (191 + i))) (ad1 (183 + i)) _ _ _ ∧ va_T _ (ad1 (191 + i)) _ _ _ _ _
    rw [hq (183 + i) (by omega) (by omega), hq (191 + i) (by omega) (by omega)]
    exact h3.1 i hi
  · show ad1 (183 + i) = ad1 (183 + j) → i = j
    rw [hq (183 + i) (by omega) (by omega), hq (183 + j) (by omega) (by omega)]
    exact h3.2 i j hi hj
theorem CellR.moved {g : GC} {ad : Nat → Nat} {h : HH} {u U : State} {H : Heap} {a : Nat} (hv : u.vm.Alike U.vm) (hc : CellR g ad h u H a) : CellR g ad h U H a := ⟨hc.1, hc.2.1, fun q => va_T.moved hv (hc.2.2 q)⟩
theorem HR.moved {g : GC} {ad : Nat → Nat} {h : HH} {al : AL} {u U : State} {H : Heap} (hv : u.vm.Alike U.vm) (hr : HR g ad h al u H) : HR g ad h al U H :=
  ⟨fun a ha => ⟨(hr.1 a ha).1, (hr.1 a ha).2.moved hv⟩, hr.2.1, hr.2.2.1, hr.2.2.2.1, hr.2.2.2.2.1, hr.2.2.2.2.2.1, hr.2.2.2.2.2.2.moved hv⟩
/-- a place of an own cell becomes x -/
theorem HR.put {g : GC} {ad : Nat → Nat} {h : HH} {al : AL} {s : State} {H H1 : Heap} {o k : Nat} {x : Int} (hr : HR g ad h al s H) (ho : al o = true) (hkd : kd o < 80) (hx : okT al (tyO o k) x) (hc : CellR g ad (uH h o k x) s H1 o) (hq : ∀ q, q ≠ ad o → H1[q]? = H[q]?) : HR g ad (uH h o k x) al s H1 := by
  have hA : xA g (ad o) := hr.2.2.1 o ho hkd
  have hout : ∀ a : Nat, a < H.size → ¬ xA g a → H1[a]? = H[a]? := fun a _ h2 => hq a (fun e => h2 (by rw [e]; exact hA))
  refine ⟨fun a ha => ⟨(hr.1 a ha).1, ?_⟩, hr.2.1, hr.2.2.1, hr.2.2.2.1, fun a j ha hj => ?_, hr.2.2.2.2.2.1, hr.2.2.2.2.2.2.kept hout⟩
  · by_cases e : a = o
    · rw [e]; exact hc
    · have hne : ad a ≠ ad o := fun z => e (hr.2.1 o a ho ha hkd z.symm).symm
      have hf : uH h o k x a = h a := by funext j; exact uH_ne (fun z => e z.1)
      obtain ⟨c1, c2, c3⟩ := (hr.1 a ha).2
      refine ⟨fun q => ?_, fun q q2 => ?_, fun q => ?_⟩
      · rw [hf]; exact (c1 q).kept (hq _ hne)
      · rw [hf, hq _ hne]; exact c2 q q2
      · rw [hf]; exact (c3 q).kept hout
  · by_cases e : a = o ∧ j = k
    · obtain ⟨rfl, rfl⟩ := e
      rw [uH_at]; exact hx
    · rw [uH_ne e]; exact hr.2.2.2.2.1 a j ha hj
theorem lvO_ad {ad ad1 : Nat → Nat} : ∀ (L : LL) (i : Nat), (∀ j v, getL L j = some v → dv ad1 v = dv ad v) → lvO ad1 i L = lvO ad i L := by
  intro L
  induction L with
  | nil => intro i _; rfl
  | cons a l ih =>
    intro i h
    have h2 := ih (i + 1) (fun j v hj => h (j + 1) v hj)
    cases a with
    | none => exact h2
    | some x =>
      show (i, dv ad1 x) :: _ = (i, dv ad x) :: _
      rw [h2, h 0 x rfl]
theorem dv_ad {al : AL} {ad ad1 : Nat → Nat} (ha : ∀ a, al a = true → ad1 a = ad a) {v : XV} (hv : okV al v) : dv ad1 v = dv ad v := by
  rcases v with x | x | x
  · rfl
  · rfl
  · rcases hv with hv | hv
    · subst hv; rfl
    · unfold dv
      by_cases q : x < 0
      · simp only [if_pos q]
      · simp only [if_neg q]; rw [ha _ hv.2]
theorem map_ad {al : AL} {ad ad1 : Nat → Nat} (ha : ∀ a, al a = true → ad1 a = ad a) : ∀ (S : SL), okS al S → S.map (dv ad1) = S.map (dv ad) := by
  intro S h
  exact List.map_congr_left fun v hv => dv_ad ha (h v hv)
theorem okV.up {al al1 : AL} (hm : ∀ a, al a = true → al1 a = true) {v : XV} (h : okV al v) : okV al1 v := by
  rcases v with x | x | x
  · exact h
  · exact h
  · exact h.elim Or.inl fun q => Or.inr ⟨q.1, hm _ q.2⟩
theorem okT.up {al al1 : AL} (hm : ∀ a, al a = true → al1 a = true) {t : Nat} {z : Int} (h : okT al t z) : okT al1 t z := by
  by_cases e : t = 2
  · subst e
    exact Or.elim h Or.inl fun q => Or.inr ⟨q.1, hm _ q.2⟩
  · have e1 : ∀ a1 a2 : AL, okT a1 t z = okT a2 t z := by
      intro a1 a2
      unfold okT
      split
      · rfl
      · exact absurd rfl e
      · rfl
      · rfl
    rw [e1 al1 al]
    exact h
theorem SK.ad {ad ad1 : Nat → Nat} {s : State} (h : SK ad s) (hq : ∀ a, 181 ≤ a → a ≤ 198 → ad1 a = ad a) : SK ad1 s := by
  intro q hm
  have hb : ∀ q ∈ sKey, 181 ≤ q.2.2.2 ∧ q.2.2.2 ≤ 190 := by decide +kernel
  rw [hq _ (hb q hm).1 (Nat.le_trans (hb q hm).2 (by decide))]
  exact h q hm
section SND3
variable {g : GC} {d : Nat} {M : MD} {Q : Option XV → HH → AL → Prop} {pc : Nat} {L : LL} {S r : SL} {h : HH} {al : AL} {x y : Int}
theorem XW.hp {pc' : Nat} {S' : SL} (hk : XW g d M Q pc' L S' h al) (row : ∀ (p : Program) (l : Launch) (e : Env) (R : Room) (s : State) (m : MethodId) (args : Array Value) (below : List Frame) (meth : Method) (c : Code) (H : Heap) (locs : List Loc) (cells slots : Nat) (ad : Nat → Nat) (ls : Array Slot) (Qc : State → Prop), Cx g d M h al ad p R s m args meth c H locs → LH ad ls M.2.2.1 L → okL al L → okS al S → (okS al S' → W p l e R s m args below meth c H locs cells slots Qc (F0 m pc' ls (S'.map (dv ad)))) → W p l e R s m args below meth c H locs cells slots Qc (F0 m pc ls (S.map (dv ad)))) : XW g d M Q pc L S h al := by
  obtain ⟨r, h', al', hq, hm, hw⟩ := hk
  refine ⟨r, h', al', hq, hm, ?_⟩
  intro p l e R s m args below meth c H locs cells slots mc ms ad ls Qc hC hl hol hos h1 h2 h3 h4 hQ
  exact row p l e R s m args below meth c H locs cells slots ad ls _ hC hl hol hos (fun ok => hw p l e R s m args below meth c H locs cells slots mc ms ad ls Qc hC hl hol ok h1 h2 h3 h4 hQ)
theorem XW.hs {pc' : Nat} {S' : SL} {h1 : HH} {al1 : AL} (hk : XW g d M Q pc' L S' h1 al1) (hm1 : ∀ a, al a = true → al1 a = true) (row : ∀ (p : Program) (l : Launch) (e : Env) (R : Room) (s : State) (m : MethodId) (args : Array Value) (below : List Frame) (meth : Method) (c : Code) (H : Heap) (locs : List Loc) (cells slots : Nat) (ad : Nat → Nat) (ls : Array Slot) (Qc : State → Prop), Cx g d M h al ad p R s m args meth c H locs → LH ad ls M.2.2.1 L → okL al L → okS al S → cells + (cnt al1 - cnt al) ≤ R.cells → slots + (slt g al1 - slt g al) ≤ R.slots →
      (∀ (ad1 : Nat → Nat) (H1 : Heap) (locs1 : List Loc), (∀ a, al a = true → ad1 a = ad a) → HR g ad1 h1 al1 s H1 → va_S (xA g) s.heap H1 locs1 → okS al1 S' → W p l e R s m args below meth c H1 locs1 (cells + (cnt al1 - cnt al)) (slots + (slt g al1 - slt g al)) Qc (F0 m pc' ls (S'.map (dv ad1)))) → W p l e R s m args below meth c H locs cells slots Qc (F0 m pc ls (S.map (dv ad)))) : XW g d M Q pc L S h al := by
  obtain ⟨r, h', al', hq, hm, hw⟩ := hk
  refine ⟨r, h', al', hq, fun a ha => hm a (hm1 a ha), ?_⟩
  intro p l e R s m args below meth c H locs cells slots mc ms ad ls Qc hC hl hol hos h1' h2 h3 h4 hQ
  have e1 : cnt al ≤ cnt al1 := cntN_mono _ hm1 _
  have e2 : cnt al1 ≤ cnt al' := cntN_mono _ hm _
  have e3 : slt g al ≤ slt g al1 := cntN_mono _ hm1 _
  have e4 : slt g al1 ≤ slt g al' := cntN_mono _ hm _
  refine row p l e R s m args below meth c H locs cells slots ad ls _ hC hl hol hos (by omega) (by omega) fun ad1 H1 locs1 hat hHR hS ok => ?_
  obtain ⟨a1, a2, a3, a4, a5, a6, a7, a8, a9, a10, a11, a12, a13, a14⟩ := hC
  have hcst : ∀ a, 181 ≤ a → a ≤ 198 → ad1 a = ad a := fun a b1 b2 => hat a (a13.2.2.2.2.2.1 a b1 b2)
  have hl1 : LH ad1 ls M.2.2.1 L := ⟨hl.1, by rw [lvO_ad (ad := ad) L 0 (fun j v hj => dv_ad hat (hol j v hj))]; exact hl.2⟩
  refine hw p l e R s m args below meth c H1 locs1 _ _ mc ms ad1 ls Qc ⟨a1, a2, a3, a4, a5, a6, a7, a8, a9, a10, a11.ad hcst, a12, hHR, hS⟩ hl1 (fun j v hj => (hol j v hj).up hm1) ok (by omega) (by omega) h3 h4 fun ad' t q1 q2 q3 q4 q5 => ?_
  exact hQ ad' t (fun a ha => (q1 a (hm1 a ha)).trans (hat a ha)) q2 q3 q4 q5
theorem Cx.hr {ad : Nat → Nat} {p : Program} {R : Room} {s : State} {m : MethodId} {args : Array Value} {meth : Method} {c : Code} {H : Heap} {locs : List Loc} (hC : Cx g d M h al ad p R s m args meth c H locs) : HR g ad h al s H := hC.2.2.2.2.2.2.2.2.2.2.2.2.1
theorem Cx.ss {ad : Nat → Nat} {p : Program} {R : Room} {s : State} {m : MethodId} {args : Array Value} {meth : Method} {c : Code} {H : Heap} {locs : List Loc} (hC : Cx g d M h al ad p R s m args meth c H locs) : va_S (xA g) s.heap H locs := hC.2.2.2.2.2.2.2.2.2.2.2.2.2
theorem Cx.vm {ad : Nat → Nat} {p : Program} {R : Room} {s : State} {m : MethodId} {args : Array Value} {meth : Method} {c : Code} {H : Heap} {locs : List Loc} (hC : Cx g d M h al ad p R s m args meth c H locs) : VMk g s := hC.2.2.2.2.2.2.2.2.2.1
theorem Cx.own {ad : Nat → Nat} {p : Program} {R : Room} {s : State} {m : MethodId} {args : Array Value} {meth : Method} {c : Code} {H : Heap} {locs : List Loc} (hC : Cx g d M h al ad p R s m args meth c H locs) : s.vm.findClass M.1.cls = some m.cls := hC.2.2.2.1
theorem Cx.ts {ad : Nat → Nat} {p : Program} {R : Room} {s : State} {m : MethodId} {args : Array Value} {meth : Method} {c : Code} {H : Heap} {locs : List Loc} (hC : Cx g d M h al ad p R s m args meth c H locs) : ∀ w ∈ gT, w.before args s = true := hC.2.2.2.2.1
theorem rdv_eq {t : Nat} {z : Int} : rdv t z = match t with | 1 => xl z | 2 => xr z | _ => xi z := rfl
theorem xs_get {ix o b c t : Nat} {host : String} (hD : decode M.2.1 pc = .ok (.getfield ix, 3)) (hc : c < 11) (hb : b < NF c) (ht : t = fty c b) (hkd : kd o = c)
    (hlink : Cond.fieldLink M.1.cls ix (RR c) (TT c b).2.1 (TT c b).2.2.1 ∈ gT ∨ Cond.fieldLinkNest M.1.cls ix (RR c) (TT c b).2.1 (TT c b).2.2.1 host ∈ nT) (hk : XW g d M Q (pc + 3) L (rdv t (h o b) :: r) h al) : XW g d M Q pc L (xr (Int.ofNat o) :: r) h al := by
  refine XW.hp hk fun p l e R s m args below meth c0 H locs cells slots ad ls Qc hC hl hol hos hw => ?_
  have ho := ok_o hos.hd
  have hr := hC.hr
  have hkd1 : kd o < 50 := by omega
  have hv : okT al (tyO o b) (h o b) := hr.2.2.2.2.1 o b ho (by unfold szO; rw [show Nat.ble (kd o) 49 = true from Nat.ble_eq_true_of_le (by omega), hkd]; exact hb)
  have hty : tyO o b = t := by unfold tyO; rw [show Nat.ble (kd o) 49 = true from Nat.ble_eq_true_of_le (by omega), hkd, ht]; rfl
  rw [hty] at hv
  have hw2 := hw (okS.cons (okT_V hv) hos.tl)
  obtain ⟨cell, q1, q2, q3, q4⟩ := ((hr.1 o ho).2.1 hkd1)
  rw [hkd] at q2 q4
  obtain ⟨hS, hfc, kC, hkC, hkind⟩ := hC.vm.1.1 c _ (xcl_at c hc)
  obtain ⟨cf, kf, fi, f, hi, hsl⟩ := hS b hb
  have hown2 := own_ok c hc b hb
  rw [List.map_cons, dv_o]
  have hst := (u_facts hfc hkC (u_lays hC.ts (lay_in c hc) hb) hi).1
  have hi2 := hi
  simp only [hown2] at hi2
  have hv2 : cell.slots[f.slot]? = some (dv ad (rdv t (h o b))) := by rw [hsl]; rw [ht]; exact q4 b hb
  rcases hlink with hlink | hlink
  · exact W.getf hC.1 hC.2.1 hC.own (hC.ts _ hlink) hi2 hst q1 (by rw [q3]; exact fun z => by cases z) hv2 rfl rfl hD hw2
  · exact va_Wgetf hC.1 hC.2.1 hC.own (va_Nw.use rfl (hC.vm.2.1 _ hlink)) hi2 hst q1 (by rw [q3]; exact fun z => by cases z) hv2 rfl rfl hD hw2
end SND3
