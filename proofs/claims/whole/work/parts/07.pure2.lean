-- one instruction of the abstract machine is one of the machine: stores, numbers, jumps
section SND2
variable {g : GC} {d : Nat} {M : MD} {Q : Option XV → HH → AL → Prop} {pc : Nat} {L : LL} {S r : SL} {h : HH} {al : AL} {x y : Int}
theorem xs_istore {i : Nat} (hD : decode M.2.1 pc = .ok (.istore i, 2)) (hk : stI L i S fun L' S' => XW g d M Q (pc + 2) L' S' h al) : XW g d M Q pc L S h al := by
  unfold stI at hk
  rcases S with _ | ⟨v, S⟩
  · exact hk.elim
  rcases v with x | x | x
  · obtain ⟨L', hk, h1, h2, h3⟩ := setK_len _ _ _ _ hk
    refine XW.lo hk (fun q ql => ⟨q.tl, fun j w hj => ?_⟩) (fun p l e R s m args below meth c H locs cells slots ad ls Qc hC hl hol hos hw => lv_istore hC.1 hC.2.1 hD hl.2 (by have := hl.1; omega) rfl fun ls' hl' => hw ls' (LH.set1 (v := xi x) hl.1 h1 hl' h3))
    rcases h3 j w hj with q1 | q1
    · rw [q1.2]; exact q.hd
    · exact ql _ _ q1.2.1
  · exact hk.elim
  · exact hk.elim
theorem xs_istoren {i : Fin 4} (hD : decode M.2.1 pc = .ok (.istore_n i, 1)) (hk : stI L i.val S fun L' S' => XW g d M Q (pc + 1) L' S' h al) : XW g d M Q pc L S h al := by
  unfold stI at hk
  rcases S with _ | ⟨v, S⟩
  · exact hk.elim
  rcases v with x | x | x
  · obtain ⟨L', hk, h1, h2, h3⟩ := setK_len _ _ _ _ hk
    refine XW.lo hk (fun q ql => ⟨q.tl, fun j w hj => ?_⟩) (fun p l e R s m args below meth c H locs cells slots ad ls Qc hC hl hol hos hw => lv_istore_n hC.1 hC.2.1 hD rfl hl.2 (by have := hl.1; omega) rfl fun ls' hl' => hw ls' (LH.set1 (v := xi x) hl.1 h1 hl' h3))
    rcases h3 j w hj with q1 | q1
    · rw [q1.2]; exact q.hd
    · exact ql _ _ q1.2.1
  · exact hk.elim
  · exact hk.elim
theorem xs_astore {i : Nat} (hD : decode M.2.1 pc = .ok (.astore i, 2)) (hk : stR L i S fun L' S' => XW g d M Q (pc + 2) L' S' h al) : XW g d M Q pc L S h al := by
  unfold stR at hk
  rcases S with _ | ⟨v, S⟩
  · exact hk.elim
  rcases v with x | x | x
  · exact hk.elim
  · exact hk.elim
  · obtain ⟨L', hk, h1, h2, h3⟩ := setK_len _ _ _ _ hk
    refine XW.lo hk (fun q ql => ⟨q.tl, fun j w hj => ?_⟩) (fun p l e R s m args below meth c H locs cells slots ad ls Qc hC hl hol hos hw => ?_)
    · rcases h3 j w hj with q1 | q1
      · rw [q1.2]; exact q.hd
      · exact ql _ _ q1.2.1
    · rw [List.map_cons]
      by_cases hx : x < 0
      · have ed : dv ad (xr x) = .null := by simp [dv, hx]
        rw [show (Sum.inr (Sum.inr x) : XV) = xr x from rfl, ed]
        exact lv_astoreN hC.1 hC.2.1 hD hl.2 (by have := hl.1; omega) rfl fun ls' hl' => hw ls' (LH.set1 (v := xr x) hl.1 h1 (by rw [ed]; exact hl') h3)
      · have ed : dv ad (xr x) = .ref (ad x.toNat) := by simp [dv, hx]
        rw [show (Sum.inr (Sum.inr x) : XV) = xr x from rfl, ed]
        exact lv_astore hC.1 hC.2.1 hD hl.2 (by have := hl.1; omega) rfl fun ls' hl' => hw ls' (LH.set1 (v := xr x) hl.1 h1 (by rw [ed]; exact hl') h3)
theorem xs_astoren {i : Fin 4} (hD : decode M.2.1 pc = .ok (.astore_n i, 1)) (hk : stR L i.val S fun L' S' => XW g d M Q (pc + 1) L' S' h al) : XW g d M Q pc L S h al := by
  unfold stR at hk
  rcases S with _ | ⟨v, S⟩
  · exact hk.elim
  rcases v with x | x | x
  · exact hk.elim
  · exact hk.elim
  · obtain ⟨L', hk, h1, h2, h3⟩ := setK_len _ _ _ _ hk
    refine XW.lo hk (fun q ql => ⟨q.tl, fun j w hj => ?_⟩) (fun p l e R s m args below meth c H locs cells slots ad ls Qc hC hl hol hos hw => ?_)
    · rcases h3 j w hj with q1 | q1
      · rw [q1.2]; exact q.hd
      · exact ql _ _ q1.2.1
    · rw [List.map_cons]
      by_cases hx : x < 0
      · have ed : dv ad (xr x) = .null := by simp [dv, hx]
        rw [show (Sum.inr (Sum.inr x) : XV) = xr x from rfl, ed]
        exact lv_astore_nN hC.1 hC.2.1 hD rfl hl.2 (by have := hl.1; omega) rfl fun ls' hl' => hw ls' (LH.set1 (v := xr x) hl.1 h1 (by rw [ed]; exact hl') h3)
      · have ed : dv ad (xr x) = .ref (ad x.toNat) := by simp [dv, hx]
        rw [show (Sum.inr (Sum.inr x) : XV) = xr x from rfl, ed]
        exact lv_astore_n hC.1 hC.2.1 hD rfl hl.2 (by have := hl.1; omega) rfl fun ls' hl' => hw ls' (LH.set1 (v := xr x) hl.1 h1 (by rw [ed]; exact hl') h3)
theorem setK2_len (L : LL) (i : Nat) (v : XV) (k : LL → Prop) (h : setK2 L i v k) : ∃ L', k L' ∧ L'.length = L.length ∧ i + 1 < L.length ∧ ∀ j w, getL L' j = some w → j ≠ i + 1 ∧ ((j = i ∧ w = v) ∨ (j ≠ i ∧ getL L j = some w ∧ ¬ (j + 1 = i ∧ ∃ z, w = xl z))) := by
  obtain ⟨L1, h, a1, a2, a3⟩ := setK_len _ _ _ _ h
  obtain ⟨L2, h, b1, b2, b3⟩ := setK_len _ _ _ _ h
  obtain ⟨L3, h, c1, c2, c3⟩ := killK_len _ _ _ h
  refine ⟨L3, h, by omega, a2, fun j w hj => ?_⟩
  obtain ⟨d1, d2⟩ := c3 j w hj
  refine ⟨d1, ?_⟩
  rcases b3 j w d2 with q | ⟨q1, q2, q3⟩
  · exact Or.inl q
  · rcases a3 j w q2 with t | ⟨t1, t2, t3⟩
    · exact absurd t.1 d1
    · exact Or.inr ⟨q1, t2, q3⟩
theorem xs_lstore {i : Nat} (hD : decode M.2.1 pc = .ok (.lstore i, 2)) (hk : stL L i S fun L' S' => XW g d M Q (pc + 2) L' S' h al) : XW g d M Q pc L S h al := by
  unfold stL at hk
  rcases S with _ | ⟨v, S⟩
  · exact hk.elim
  rcases v with x | x | x
  · exact hk.elim
  · obtain ⟨L', hk, h1, h2, h3⟩ := setK2_len _ _ _ _ hk
    refine XW.lo hk (fun q ql => ⟨q.tl, fun j w hj => ?_⟩) (fun p l e R s m args below meth c H locs cells slots ad ls Qc hC hl hol hos hw => lv_lstore hC.1 hC.2.1 hD hl.2 (by have := hl.1; omega) rfl fun ls' hl' => hw ls' (LH.set2 (v := xl x) hl.1 h1 hl' h3))
    rcases (h3 j w hj).2 with q1 | q1
    · rw [q1.2]; exact q.hd
    · exact ql _ _ q1.2.1
  · exact hk.elim
theorem xs_lstoren {i : Fin 4} (hD : decode M.2.1 pc = .ok (.lstore_n i, 1)) (hk : stL L i.val S fun L' S' => XW g d M Q (pc + 1) L' S' h al) : XW g d M Q pc L S h al := by
  unfold stL at hk
  rcases S with _ | ⟨v, S⟩
  · exact hk.elim
  rcases v with x | x | x
  · exact hk.elim
  · obtain ⟨L', hk, h1, h2, h3⟩ := setK2_len _ _ _ _ hk
    refine XW.lo hk (fun q ql => ⟨q.tl, fun j w hj => ?_⟩) (fun p l e R s m args below meth c H locs cells slots ad ls Qc hC hl hol hos hw => lv_lstore_n hC.1 hC.2.1 hD rfl hl.2 (by have := hl.1; omega) rfl fun ls' hl' => hw ls' (LH.set2 (v := xl x) hl.1 h1 hl' h3))
    rcases (h3 j w hj).2 with q1 | q1
    · rw [q1.2]; exact q.hd
    · exact ql _ _ q1.2.1
  · exact hk.elim
theorem xs_iinc {i : Nat} {v : Int} (hD : decode M.2.1 pc = .ok (.iinc i v, 3)) (hx : getL L i = some (xi x)) (hk : setK L i (xi (wI (x + v))) fun L' => XW g d M Q (pc + 3) L' S h al) : XW g d M Q pc L S h al := by
  obtain ⟨L', hk, h1, h2, h3⟩ := setK_len _ _ _ _ hk
  refine XW.lo hk (fun q ql => ⟨q, fun j w hj => ?_⟩) (fun p l e R s m args below meth c H locs cells slots ad ls Qc hC hl hol hos hw => ?_)
  · rcases h3 j w hj with q1 | q1
    · rw [q1.2]; exact rgI _
    · exact ql _ _ q1.2.1
  · obtain ⟨k, hk1⟩ := List.mem_iff_getElem?.mp (lvO_in (ad := ad) L 0 i _ hx)
    rw [Nat.zero_add] at hk1
    exact lv_iinc hC.1 hC.2.1 hD hl.2 (k := k) (x := Int32.ofInt x) hk1 (a_add x v).symm (by have := hl.1; omega) rfl fun ls' hl' => hw ls' (LH.set1 (v := xi (wI (x + v))) hl.1 h1 hl' h3)
theorem xs_iadd (hD : decode M.2.1 pc = .ok (.iadd, 1)) (hk : binP S (fun x y => wI (x + y)) fun S' => XW g d M Q (pc + 1) L S' h al) : XW g d M Q pc L S h al := by
  unfold binP at hk
  split at hk
  · exact XW.st hk (fun q _ => okS.cons (rgI _) q.tl.tl) (fun p l e R s m args below meth c H locs cells slots ad ls Qc hC hl hol hos hw => lv_iadd hC.1 hC.2.1 hD (by rw [← a_add]; exact hw))
  · exact hk.elim
theorem xs_isub (hD : decode M.2.1 pc = .ok (.isub, 1)) (hk : binP S (fun x y => wI (x - y)) fun S' => XW g d M Q (pc + 1) L S' h al) : XW g d M Q pc L S h al := by
  unfold binP at hk
  split at hk
  · exact XW.st hk (fun q _ => okS.cons (rgI _) q.tl.tl) (fun p l e R s m args below meth c H locs cells slots ad ls Qc hC hl hol hos hw => lv_isub hC.1 hC.2.1 hD (by rw [← a_sub]; exact hw))
  · exact hk.elim
theorem xs_imul (hD : decode M.2.1 pc = .ok (.imul, 1)) (hk : binP S (fun x y => wI (x * y)) fun S' => XW g d M Q (pc + 1) L S' h al) : XW g d M Q pc L S h al := by
  unfold binP at hk
  split at hk
  · exact XW.st hk (fun q _ => okS.cons (rgI _) q.tl.tl) (fun p l e R s m args below meth c H locs cells slots ad ls Qc hC hl hol hos hw => lv_imul hC.1 hC.2.1 hD (by rw [← a_mul]; exact hw))
  · exact hk.elim
theorem b_and (x y : Int) : Int32.ofInt (aI x y) = Int32.ofInt x &&& Int32.ofInt y := Int32.ofInt_toInt _
theorem xs_iand (hD : decode M.2.1 pc = .ok (.iand, 1)) (hk : binP S (aI) fun S' => XW g d M Q (pc + 1) L S' h al) : XW g d M Q pc L S h al := by
  unfold binP at hk
  split at hk
  · exact XW.st hk (fun q _ => okS.cons (rgI2 _) q.tl.tl) (fun p l e R s m args below meth c H locs cells slots ad ls Qc hC hl hol hos hw => lv_iand hC.1 hC.2.1 hD (by rw [← b_and]; exact hw))
  · exact hk.elim
theorem b_or (x y : Int) : Int32.ofInt (oI x y) = Int32.ofInt x ||| Int32.ofInt y := Int32.ofInt_toInt _
theorem xs_ior (hD : decode M.2.1 pc = .ok (.ior, 1)) (hk : binP S (oI) fun S' => XW g d M Q (pc + 1) L S' h al) : XW g d M Q pc L S h al := by
  unfold binP at hk
  split at hk
  · exact XW.st hk (fun q _ => okS.cons (rgI2 _) q.tl.tl) (fun p l e R s m args below meth c H locs cells slots ad ls Qc hC hl hol hos hw => lv_ior hC.1 hC.2.1 hD (by rw [← b_or]; exact hw))
  · exact hk.elim
theorem b_xor (x y : Int) : Int32.ofInt (eI x y) = Int32.ofInt x ^^^ Int32.ofInt y := Int32.ofInt_toInt _
theorem xs_ixor (hD : decode M.2.1 pc = .ok (.ixor, 1)) (hk : binP S (eI) fun S' => XW g d M Q (pc + 1) L S' h al) : XW g d M Q pc L S h al := by
  unfold binP at hk
  split at hk
  · exact XW.st hk (fun q _ => okS.cons (rgI2 _) q.tl.tl) (fun p l e R s m args below meth c H locs cells slots ad ls Qc hC hl hol hos hw => lv_ixor hC.1 hC.2.1 hD (by rw [← b_xor]; exact hw))
  · exact hk.elim
theorem b_shl (x y : Int) : Int32.ofInt (shlI x y) = Int32.ofInt x <<< (Int32.ofInt y &&& 31) := Int32.ofInt_toInt _
theorem xs_ishl (hD : decode M.2.1 pc = .ok (.ishl, 1)) (hk : binP S (shlI) fun S' => XW g d M Q (pc + 1) L S' h al) : XW g d M Q pc L S h al := by
  unfold binP at hk
  split at hk
  · exact XW.st hk (fun q _ => okS.cons (rgI2 _) q.tl.tl) (fun p l e R s m args below meth c H locs cells slots ad ls Qc hC hl hol hos hw => lv_ishl hC.1 hC.2.1 hD (by rw [← b_shl]; exact hw))
  · exact hk.elim
theorem b_shr (x y : Int) : Int32.ofInt (shrI x y) = Int32.ofInt x >>> (Int32.ofInt y &&& 31) := Int32.ofInt_toInt _
theorem xs_ishr (hD : decode M.2.1 pc = .ok (.ishr, 1)) (hk : binP S (shrI) fun S' => XW g d M Q (pc + 1) L S' h al) : XW g d M Q pc L S h al := by
  unfold binP at hk
  split at hk
  · exact XW.st hk (fun q _ => okS.cons (rgI2 _) q.tl.tl) (fun p l e R s m args below meth c H locs cells slots ad ls Qc hC hl hol hos hw => lv_ishr hC.1 hC.2.1 hD (by rw [← b_shr]; exact hw))
  · exact hk.elim
theorem xs_ladd (hD : decode M.2.1 pc = .ok (.ladd, 1)) (hk : binL S (fun x y => wL (x + y)) fun S' => XW g d M Q (pc + 1) L S' h al) : XW g d M Q pc L S h al := by
  unfold binL at hk
  split at hk
  · exact XW.st hk (fun q _ => okS.cons (rgL _) q.tl.tl) (fun p l e R s m args below meth c H locs cells slots ad ls Qc hC hl hol hos hw => lv_ladd hC.1 hC.2.1 hD (by rw [← l_add]; exact hw))
  · exact hk.elim
theorem c_and (x y : Int) : Int64.ofInt (aL x y) = Int64.ofInt x &&& Int64.ofInt y := Int64.ofInt_toInt _
theorem xs_land (hD : decode M.2.1 pc = .ok (.land, 1)) (hk : binL S (aL) fun S' => XW g d M Q (pc + 1) L S' h al) : XW g d M Q pc L S h al := by
  unfold binL at hk
  split at hk
  · exact XW.st hk (fun q _ => okS.cons (rgL2 _) q.tl.tl) (fun p l e R s m args below meth c H locs cells slots ad ls Qc hC hl hol hos hw => lv_land hC.1 hC.2.1 hD (by rw [← c_and]; exact hw))
  · exact hk.elim
theorem c_or (x y : Int) : Int64.ofInt (oL x y) = Int64.ofInt x ||| Int64.ofInt y := Int64.ofInt_toInt _
theorem xs_lor (hD : decode M.2.1 pc = .ok (.lor, 1)) (hk : binL S (oL) fun S' => XW g d M Q (pc + 1) L S' h al) : XW g d M Q pc L S h al := by
  unfold binL at hk
  split at hk
  · exact XW.st hk (fun q _ => okS.cons (rgL2 _) q.tl.tl) (fun p l e R s m args below meth c H locs cells slots ad ls Qc hC hl hol hos hw => lv_lor hC.1 hC.2.1 hD (by rw [← c_or]; exact hw))
  · exact hk.elim
theorem xs_ineg (hD : decode M.2.1 pc = .ok (.ineg, 1)) (hk : unP S (fun x => wI (-x)) fun S' => XW g d M Q (pc + 1) L S' h al) : XW g d M Q pc L S h al := by
  unfold unP at hk
  split at hk
  · exact XW.st hk (fun q _ => okS.cons (rgI _) q.tl) (fun p l e R s m args below meth c H locs cells slots ad ls Qc hC hl hol hos hw => lv_ineg hC.1 hC.2.1 hD (by rw [← a_neg]; exact hw))
  · exact hk.elim
theorem xs_i2b (hD : decode M.2.1 pc = .ok (.i2b, 1)) (hk : unP S (wB) fun S' => XW g d M Q (pc + 1) L S' h al) : XW g d M Q pc L S h al := by
  unfold unP at hk
  split at hk
  · exact XW.st hk (fun q _ => okS.cons (by show -2147483648 ≤ wB _ ∧ wB _ < 2147483648; unfold wB; omega) q.tl) (fun p l e R s m args below meth c H locs cells slots ad ls Qc hC hl hol hos hw => lv_i2b hC.1 hC.2.1 hD (a_i2b hos.hd) hw)
  · exact hk.elim
theorem xs_i2s (hD : decode M.2.1 pc = .ok (.i2s, 1)) (hk : unP S (wS) fun S' => XW g d M Q (pc + 1) L S' h al) : XW g d M Q pc L S h al := by
  unfold unP at hk
  split at hk
  · exact XW.st hk (fun q _ => okS.cons (by show -2147483648 ≤ wS _ ∧ wS _ < 2147483648; unfold wS; omega) q.tl) (fun p l e R s m args below meth c H locs cells slots ad ls Qc hC hl hol hos hw => lv_i2s hC.1 hC.2.1 hD (a_i2s hos.hd) hw)
  · exact hk.elim
theorem xs_i2c (hD : decode M.2.1 pc = .ok (.i2c, 1)) (hk : unP S (wC) fun S' => XW g d M Q (pc + 1) L S' h al) : XW g d M Q pc L S h al := by
  unfold unP at hk
  split at hk
  · exact XW.st hk (fun q _ => okS.cons (by show -2147483648 ≤ wC _ ∧ wC _ < 2147483648; unfold wC; omega) q.tl) (fun p l e R s m args below meth c H locs cells slots ad ls Qc hC hl hol hos hw => lv_i2c hC.1 hC.2.1 hD (a_i2c hos.hd) hw)
  · exact hk.elim
theorem xs_idiv (hD : decode M.2.1 pc = .ok (.idiv, 1)) (hy : y ≠ 0) (hk : XW g d M Q (pc + 1) L (xi (wI (x.tdiv y)) :: r) h al) : XW g d M Q pc L (xi y :: xi x :: r) h al := XW.st hk (fun q _ => okS.cons (rgI _) q.tl.tl) (fun p l e R s m args below meth c H locs cells slots ad ls Qc hC hl hol hos hw => lv_idiv hC.1 hC.2.1 hD (fun z => hy ((ofI_eq (x := y) (y := 0) hos.hd (by omega)).mp z)) (by rw [← a_div hos.tl.hd hos.hd]; exact hw))
theorem xs_irem (hD : decode M.2.1 pc = .ok (.irem, 1)) (hy : y ≠ 0) (hk : XW g d M Q (pc + 1) L (xi (x.tmod y) :: r) h al) : XW g d M Q pc L (xi y :: xi x :: r) h al := XW.st hk (fun q _ => okS.cons (show -2147483648 ≤ x.tmod y ∧ x.tmod y < 2147483648 from tmod_rg q.tl.hd (by omega) (by omega)) q.tl.tl) (fun p l e R s m args below meth c H locs cells slots ad ls Qc hC hl hol hos hw => lv_irem hC.1 hC.2.1 hD (fun z => hy ((ofI_eq (x := y) (y := 0) hos.hd (by omega)).mp z)) (by rw [← a_rem hos.tl.hd hos.hd]; exact hw))
theorem xs_ldiv (hD : decode M.2.1 pc = .ok (.ldiv, 1)) (hy : y ≠ 0) (hk : XW g d M Q (pc + 1) L (xl (wL (x.tdiv y)) :: r) h al) : XW g d M Q pc L (xl y :: xl x :: r) h al := XW.st hk (fun q _ => okS.cons (rgL _) q.tl.tl) (fun p l e R s m args below meth c H locs cells slots ad ls Qc hC hl hol hos hw => lv_ldiv hC.1 hC.2.1 hD (fun z => hy ((ofL_eq (x := y) (y := 0) hos.hd (by omega)).mp z)) (by rw [← l_div hos.tl.hd hos.hd]; exact hw))
theorem xs_lrem (hD : decode M.2.1 pc = .ok (.lrem, 1)) (hy : y ≠ 0) (hk : XW g d M Q (pc + 1) L (xl (x.tmod y) :: r) h al) : XW g d M Q pc L (xl y :: xl x :: r) h al := XW.st hk (fun q _ => okS.cons (show -9223372036854775808 ≤ x.tmod y ∧ x.tmod y < 9223372036854775808 from tmod_rg q.tl.hd (by omega) (by omega)) q.tl.tl) (fun p l e R s m args below meth c H locs cells slots ad ls Qc hC hl hol hos hw => lv_lrem hC.1 hC.2.1 hD (fun z => hy ((ofL_eq (x := y) (y := 0) hos.hd (by omega)).mp z)) (by rw [← l_rem hos.tl.hd hos.hd]; exact hw))
theorem xs_lneg (hD : decode M.2.1 pc = .ok (.lneg, 1)) (hk : XW g d M Q (pc + 1) L (xl (wL (-x)) :: r) h al) : XW g d M Q pc L (xl x :: r) h al := XW.st hk (fun q _ => okS.cons (rgL _) q.tl) (fun p l e R s m args below meth c H locs cells slots ad ls Qc hC hl hol hos hw => lv_lneg hC.1 hC.2.1 hD (by rw [← l_neg]; exact hw))
theorem xs_lshl (hD : decode M.2.1 pc = .ok (.lshl, 1)) (hk : XW g d M Q (pc + 1) L (xl (shlL x y) :: r) h al) : XW g d M Q pc L (xi y :: xl x :: r) h al := XW.st hk (fun q _ => okS.cons (rgL2 _) q.tl.tl) (fun p l e R s m args below meth c H locs cells slots ad ls Qc hC hl hol hos hw => lv_lshl hC.1 hC.2.1 hD (Int64.ofInt_toInt _).symm hw)
theorem xs_lcmp (hD : decode M.2.1 pc = .ok (.lcmp, 1)) (hk : XW g d M Q (pc + 1) L (xi (cmpL x y) :: r) h al) : XW g d M Q pc L (xl y :: xl x :: r) h al := XW.st hk (fun q _ => okS.cons (show -2147483648 ≤ cmpL x y ∧ cmpL x y < 2147483648 from cmp_rg x y) q.tl.tl) (fun p l e R s m args below meth c H locs cells slots ad ls Qc hC hl hol hos hw => W.lcmp hC.1 hC.2.1 hD (by rw [a_cmp hos.tl.hd hos.hd]; exact hw))
theorem xs_i2l (hD : decode M.2.1 pc = .ok (.i2l, 1)) (hk : XW g d M Q (pc + 1) L (xl x :: r) h al) : XW g d M Q pc L (xi x :: r) h al := XW.st hk (fun q _ => okS.cons (by have q2 := q.hd; simp only [okV] at q2 ⊢; omega) q.tl) (fun p l e R s m args below meth c H locs cells slots ad ls Qc hC hl hol hos hw => lv_i2l hC.1 hC.2.1 hD (a_i2l hos.hd) hw)
theorem xs_l2i (hD : decode M.2.1 pc = .ok (.l2i, 1)) (hk : XW g d M Q (pc + 1) L (xi (wI x) :: r) h al) : XW g d M Q pc L (xl x :: r) h al := XW.st hk (fun q _ => okS.cons (rgI _) q.tl) (fun p l e R s m args below meth c H locs cells slots ad ls Qc hC hl hol hos hw => lv_l2i hC.1 hC.2.1 hD (a_l2i hos.hd) hw)
theorem cat1 {ad : Nat → Nat} : (dv ad (xr x)).category = 1 := by
  unfold dv
  by_cases q : x < 0 <;> simp [q, Value.category]
theorem xs_dupI (hD : decode M.2.1 pc = .ok (.dup, 1)) (hk : XW g d M Q (pc + 1) L (xi x :: xi x :: r) h al) : XW g d M Q pc L (xi x :: r) h al := XW.st hk (fun q _ => okS.cons q.hd q) (fun p l e R s m args below meth c H locs cells slots ad ls Qc hC hl hol hos hw => lv_dup hC.1 hC.2.1 hD rfl hw)
theorem xs_dupR (hD : decode M.2.1 pc = .ok (.dup, 1)) (hk : XW g d M Q (pc + 1) L (xr x :: xr x :: r) h al) : XW g d M Q pc L (xr x :: r) h al := XW.st hk (fun q _ => okS.cons q.hd q) (fun p l e R s m args below meth c H locs cells slots ad ls Qc hC hl hol hos hw => lv_dup hC.1 hC.2.1 hD cat1 hw)
theorem xs_dup2 (hD : decode M.2.1 pc = .ok (.dup2, 1)) (hk : XW g d M Q (pc + 1) L (xi x :: xr y :: xi x :: xr y :: r) h al) : XW g d M Q pc L (xi x :: xr y :: r) h al := XW.st hk (fun q _ => okS.cons q.hd (okS.cons q.tl.hd q)) (fun p l e R s m args below meth c H locs cells slots ad ls Qc hC hl hol hos hw => lv_dup2_11 hC.1 hC.2.1 hD rfl cat1 hw)
theorem xs_popI (hD : decode M.2.1 pc = .ok (.pop, 1)) (hk : XW g d M Q (pc + 1) L r h al) : XW g d M Q pc L (xi x :: r) h al := XW.st hk (fun q _ => q.tl) (fun p l e R s m args below meth c H locs cells slots ad ls Qc hC hl hol hos hw => lv_pop hC.1 hC.2.1 hD rfl hw)
theorem xs_popR (hD : decode M.2.1 pc = .ok (.pop, 1)) (hk : XW g d M Q (pc + 1) L r h al) : XW g d M Q pc L (xr x :: r) h al := XW.st hk (fun q _ => q.tl) (fun p l e R s m args below meth c H locs cells slots ad ls Qc hC hl hol hos hw => lv_pop hC.1 hC.2.1 hD cat1 hw)
theorem xs_goto {off : Int} {t : Nat} (hD : decode M.2.1 pc = .ok (.goto off, 3)) (ht : (pc : Int) + off = (t : Int)) (hk : XW g d M Q t L S h al) : XW g d M Q pc L S h al := XW.st hk (fun q _ => q) (fun p l e R s m args below meth c H locs cells slots ad ls Qc hC hl hol hos hw => lv_goto hC.1 hC.2.1 hD ht hw)
theorem xs_icmp_eq {off : Int} {t : Nat} (hD : decode M.2.1 pc = .ok (.if_icmp .eq off, 3)) (ht : (pc : Int) + off = (t : Int)) (hk : condP .eq x y (XW g d M Q t L r h al) (XW g d M Q (pc + 3) L r h al)) : XW g d M Q pc L (xi y :: xi x :: r) h al := by
  unfold condP at hk
  by_cases hc : x = y
  · simp only [if_pos hc] at hk
    exact XW.st hk (fun q _ => q.tl.tl) (fun p l e R s m args below meth c H locs cells slots ad ls Qc hC hl hol hos hw => by have hy := hos.hd; have hx := hos.tl.hd; exact lv_icmp_eq hC.1 hC.2.1 hD ht (fun _ => hw) (fun z => absurd ((ofI_eq (x := x) (y := y) hx hy).mpr hc) z))
  · simp only [if_neg hc] at hk
    exact XW.st hk (fun q _ => q.tl.tl) (fun p l e R s m args below meth c H locs cells slots ad ls Qc hC hl hol hos hw => by have hy := hos.hd; have hx := hos.tl.hd; exact lv_icmp_eq hC.1 hC.2.1 hD ht (fun z => absurd ((ofI_eq (x := x) (y := y) hx hy).mp z) hc) (fun _ => hw))
theorem xs_icmp_ne {off : Int} {t : Nat} (hD : decode M.2.1 pc = .ok (.if_icmp .ne off, 3)) (ht : (pc : Int) + off = (t : Int)) (hk : condP .ne x y (XW g d M Q t L r h al) (XW g d M Q (pc + 3) L r h al)) : XW g d M Q pc L (xi y :: xi x :: r) h al := by
  unfold condP at hk
  by_cases hc : x = y
  · simp only [if_pos hc] at hk
    exact XW.st hk (fun q _ => q.tl.tl) (fun p l e R s m args below meth c H locs cells slots ad ls Qc hC hl hol hos hw => by have hy := hos.hd; have hx := hos.tl.hd; exact lv_icmp_ne hC.1 hC.2.1 hD ht (fun z => absurd ((ofI_eq (x := x) (y := y) hx hy).mpr hc) z) (fun _ => hw))
  · simp only [if_neg hc] at hk
    exact XW.st hk (fun q _ => q.tl.tl) (fun p l e R s m args below meth c H locs cells slots ad ls Qc hC hl hol hos hw => by have hy := hos.hd; have hx := hos.tl.hd; exact lv_icmp_ne hC.1 hC.2.1 hD ht (fun _ => hw) (fun z => absurd ((ofI_eq (x := x) (y := y) hx hy).mp z) hc))
theorem xs_icmp_lt {off : Int} {t : Nat} (hD : decode M.2.1 pc = .ok (.if_icmp .lt off, 3)) (ht : (pc : Int) + off = (t : Int)) (hk : condP .lt x y (XW g d M Q t L r h al) (XW g d M Q (pc + 3) L r h al)) : XW g d M Q pc L (xi y :: xi x :: r) h al := by
  unfold condP at hk
  by_cases hc : x < y
  · simp only [if_pos hc] at hk
    exact XW.st hk (fun q _ => q.tl.tl) (fun p l e R s m args below meth c H locs cells slots ad ls Qc hC hl hol hos hw => by have hy := hos.hd; have hx := hos.tl.hd; exact lv_icmp_lt hC.1 hC.2.1 hD ht (fun _ => hw) (fun z => absurd ((ofI_lt (x := x) (y := y) hx hy).mpr hc) z))
  · simp only [if_neg hc] at hk
    exact XW.st hk (fun q _ => q.tl.tl) (fun p l e R s m args below meth c H locs cells slots ad ls Qc hC hl hol hos hw => by have hy := hos.hd; have hx := hos.tl.hd; exact lv_icmp_lt hC.1 hC.2.1 hD ht (fun z => absurd ((ofI_lt (x := x) (y := y) hx hy).mp z) hc) (fun _ => hw))
theorem xs_icmp_ge {off : Int} {t : Nat} (hD : decode M.2.1 pc = .ok (.if_icmp .ge off, 3)) (ht : (pc : Int) + off = (t : Int)) (hk : condP .ge x y (XW g d M Q t L r h al) (XW g d M Q (pc + 3) L r h al)) : XW g d M Q pc L (xi y :: xi x :: r) h al := by
  unfold condP at hk
  by_cases hc : x < y
  · simp only [if_pos hc] at hk
    exact XW.st hk (fun q _ => q.tl.tl) (fun p l e R s m args below meth c H locs cells slots ad ls Qc hC hl hol hos hw => by have hy := hos.hd; have hx := hos.tl.hd; exact lv_icmp_ge hC.1 hC.2.1 hD ht (fun z => absurd ((ofI_le (x := y) (y := x) hy hx).mp z) (by omega)) (fun _ => hw))
  · simp only [if_neg hc] at hk
    exact XW.st hk (fun q _ => q.tl.tl) (fun p l e R s m args below meth c H locs cells slots ad ls Qc hC hl hol hos hw => by have hy := hos.hd; have hx := hos.tl.hd; exact lv_icmp_ge hC.1 hC.2.1 hD ht (fun _ => hw) (fun z => absurd ((ofI_le (x := y) (y := x) hy hx).mpr (by omega)) z))
theorem xs_icmp_gt {off : Int} {t : Nat} (hD : decode M.2.1 pc = .ok (.if_icmp .gt off, 3)) (ht : (pc : Int) + off = (t : Int)) (hk : condP .gt x y (XW g d M Q t L r h al) (XW g d M Q (pc + 3) L r h al)) : XW g d M Q pc L (xi y :: xi x :: r) h al := by
  unfold condP at hk
  by_cases hc : y < x
  · simp only [if_pos hc] at hk
    exact XW.st hk (fun q _ => q.tl.tl) (fun p l e R s m args below meth c H locs cells slots ad ls Qc hC hl hol hos hw => by have hy := hos.hd; have hx := hos.tl.hd; exact lv_icmp_gt hC.1 hC.2.1 hD ht (fun _ => hw) (fun z => absurd ((ofI_lt (x := y) (y := x) hy hx).mpr hc) z))
  · simp only [if_neg hc] at hk
    exact XW.st hk (fun q _ => q.tl.tl) (fun p l e R s m args below meth c H locs cells slots ad ls Qc hC hl hol hos hw => by have hy := hos.hd; have hx := hos.tl.hd; exact lv_icmp_gt hC.1 hC.2.1 hD ht (fun z => absurd ((ofI_lt (x := y) (y := x) hy hx).mp z) hc) (fun _ => hw))
theorem xs_icmp_le {off : Int} {t : Nat} (hD : decode M.2.1 pc = .ok (.if_icmp .le off, 3)) (ht : (pc : Int) + off = (t : Int)) (hk : condP .le x y (XW g d M Q t L r h al) (XW g d M Q (pc + 3) L r h al)) : XW g d M Q pc L (xi y :: xi x :: r) h al := by
  unfold condP at hk
  by_cases hc : y < x
  · simp only [if_pos hc] at hk
    exact XW.st hk (fun q _ => q.tl.tl) (fun p l e R s m args below meth c H locs cells slots ad ls Qc hC hl hol hos hw => by have hy := hos.hd; have hx := hos.tl.hd; exact lv_icmp_le hC.1 hC.2.1 hD ht (fun z => absurd ((ofI_le (x := x) (y := y) hx hy).mp z) (by omega)) (fun _ => hw))
  · simp only [if_neg hc] at hk
    exact XW.st hk (fun q _ => q.tl.tl) (fun p l e R s m args below meth c H locs cells slots ad ls Qc hC hl hol hos hw => by have hy := hos.hd; have hx := hos.tl.hd; exact lv_icmp_le hC.1 hC.2.1 hD ht (fun _ => hw) (fun z => absurd ((ofI_le (x := x) (y := y) hx hy).mpr (by omega)) z))
theorem xs_if_eq {off : Int} {t : Nat} (hD : decode M.2.1 pc = .ok (.ifCond .eq off, 3)) (ht : (pc : Int) + off = (t : Int)) (hk : condP .eq x 0 (XW g d M Q t L r h al) (XW g d M Q (pc + 3) L r h al)) : XW g d M Q pc L (xi x :: r) h al := by
  unfold condP at hk
  by_cases hc : x = 0
  · simp only [if_pos hc] at hk
    exact XW.st hk (fun q _ => q.tl) (fun p l e R s m args below meth c H locs cells slots ad ls Qc hC hl hol hos hw => by have hx := hos.hd; have hy : -2147483648 ≤ (0 : Int) ∧ (0 : Int) < 2147483648 := (by omega); exact lv_if_eq hC.1 hC.2.1 hD ht (fun _ => hw) (fun z => absurd ((ofI_eq (x := x) (y := 0) hx hy).mpr hc) z))
  · simp only [if_neg hc] at hk
    exact XW.st hk (fun q _ => q.tl) (fun p l e R s m args below meth c H locs cells slots ad ls Qc hC hl hol hos hw => by have hx := hos.hd; have hy : -2147483648 ≤ (0 : Int) ∧ (0 : Int) < 2147483648 := (by omega); exact lv_if_eq hC.1 hC.2.1 hD ht (fun z => absurd ((ofI_eq (x := x) (y := 0) hx hy).mp z) hc) (fun _ => hw))
theorem xs_if_ne {off : Int} {t : Nat} (hD : decode M.2.1 pc = .ok (.ifCond .ne off, 3)) (ht : (pc : Int) + off = (t : Int)) (hk : condP .ne x 0 (XW g d M Q t L r h al) (XW g d M Q (pc + 3) L r h al)) : XW g d M Q pc L (xi x :: r) h al := by
  unfold condP at hk
  by_cases hc : x = 0
  · simp only [if_pos hc] at hk
    exact XW.st hk (fun q _ => q.tl) (fun p l e R s m args below meth c H locs cells slots ad ls Qc hC hl hol hos hw => by have hx := hos.hd; have hy : -2147483648 ≤ (0 : Int) ∧ (0 : Int) < 2147483648 := (by omega); exact lv_if_ne hC.1 hC.2.1 hD ht (fun z => absurd ((ofI_eq (x := x) (y := 0) hx hy).mpr hc) z) (fun _ => hw))
  · simp only [if_neg hc] at hk
    exact XW.st hk (fun q _ => q.tl) (fun p l e R s m args below meth c H locs cells slots ad ls Qc hC hl hol hos hw => by have hx := hos.hd; have hy : -2147483648 ≤ (0 : Int) ∧ (0 : Int) < 2147483648 := (by omega); exact lv_if_ne hC.1 hC.2.1 hD ht (fun _ => hw) (fun z => absurd ((ofI_eq (x := x) (y := 0) hx hy).mp z) hc))
theorem xs_if_lt {off : Int} {t : Nat} (hD : decode M.2.1 pc = .ok (.ifCond .lt off, 3)) (ht : (pc : Int) + off = (t : Int)) (hk : condP .lt x 0 (XW g d M Q t L r h al) (XW g d M Q (pc + 3) L r h al)) : XW g d M Q pc L (xi x :: r) h al := by
  unfold condP at hk
  by_cases hc : x < 0
  · simp only [if_pos hc] at hk
    exact XW.st hk (fun q _ => q.tl) (fun p l e R s m args below meth c H locs cells slots ad ls Qc hC hl hol hos hw => by have hx := hos.hd; have hy : -2147483648 ≤ (0 : Int) ∧ (0 : Int) < 2147483648 := (by omega); exact lv_if_lt hC.1 hC.2.1 hD ht (fun _ => hw) (fun z => absurd ((ofI_lt (x := x) (y := 0) hx hy).mpr hc) z))
  · simp only [if_neg hc] at hk
    exact XW.st hk (fun q _ => q.tl) (fun p l e R s m args below meth c H locs cells slots ad ls Qc hC hl hol hos hw => by have hx := hos.hd; have hy : -2147483648 ≤ (0 : Int) ∧ (0 : Int) < 2147483648 := (by omega); exact lv_if_lt hC.1 hC.2.1 hD ht (fun z => absurd ((ofI_lt (x := x) (y := 0) hx hy).mp z) hc) (fun _ => hw))
theorem xs_if_ge {off : Int} {t : Nat} (hD : decode M.2.1 pc = .ok (.ifCond .ge off, 3)) (ht : (pc : Int) + off = (t : Int)) (hk : condP .ge x 0 (XW g d M Q t L r h al) (XW g d M Q (pc + 3) L r h al)) : XW g d M Q pc L (xi x :: r) h al := by
  unfold condP at hk
  by_cases hc : x < 0
  · simp only [if_pos hc] at hk
    exact XW.st hk (fun q _ => q.tl) (fun p l e R s m args below meth c H locs cells slots ad ls Qc hC hl hol hos hw => by have hx := hos.hd; have hy : -2147483648 ≤ (0 : Int) ∧ (0 : Int) < 2147483648 := (by omega); exact lv_if_ge hC.1 hC.2.1 hD ht (fun z => absurd ((ofI_le (x := 0) (y := x) hy hx).mp z) (by omega)) (fun _ => hw))
  · simp only [if_neg hc] at hk
    exact XW.st hk (fun q _ => q.tl) (fun p l e R s m args below meth c H locs cells slots ad ls Qc hC hl hol hos hw => by have hx := hos.hd; have hy : -2147483648 ≤ (0 : Int) ∧ (0 : Int) < 2147483648 := (by omega); exact lv_if_ge hC.1 hC.2.1 hD ht (fun _ => hw) (fun z => absurd ((ofI_le (x := 0) (y := x) hy hx).mpr (by omega)) z))
theorem xs_if_gt {off : Int} {t : Nat} (hD : decode M.2.1 pc = .ok (.ifCond .gt off, 3)) (ht : (pc : Int) + off = (t : Int)) (hk : condP .gt x 0 (XW g d M Q t L r h al) (XW g d M Q (pc + 3) L r h al)) : XW g d M Q pc L (xi x :: r) h al := by
  unfold condP at hk
  by_cases hc : 0 < x
  · simp only [if_pos hc] at hk
    exact XW.st hk (fun q _ => q.tl) (fun p l e R s m args below meth c H locs cells slots ad ls Qc hC hl hol hos hw => by have hx := hos.hd; have hy : -2147483648 ≤ (0 : Int) ∧ (0 : Int) < 2147483648 := (by omega); exact lv_if_gt hC.1 hC.2.1 hD ht (fun _ => hw) (fun z => absurd ((ofI_lt (x := 0) (y := x) hy hx).mpr hc) z))
  · simp only [if_neg hc] at hk
    exact XW.st hk (fun q _ => q.tl) (fun p l e R s m args below meth c H locs cells slots ad ls Qc hC hl hol hos hw => by have hx := hos.hd; have hy : -2147483648 ≤ (0 : Int) ∧ (0 : Int) < 2147483648 := (by omega); exact lv_if_gt hC.1 hC.2.1 hD ht (fun z => absurd ((ofI_lt (x := 0) (y := x) hy hx).mp z) hc) (fun _ => hw))
theorem xs_if_le {off : Int} {t : Nat} (hD : decode M.2.1 pc = .ok (.ifCond .le off, 3)) (ht : (pc : Int) + off = (t : Int)) (hk : condP .le x 0 (XW g d M Q t L r h al) (XW g d M Q (pc + 3) L r h al)) : XW g d M Q pc L (xi x :: r) h al := by
  unfold condP at hk
  by_cases hc : 0 < x
  · simp only [if_pos hc] at hk
    exact XW.st hk (fun q _ => q.tl) (fun p l e R s m args below meth c H locs cells slots ad ls Qc hC hl hol hos hw => by have hx := hos.hd; have hy : -2147483648 ≤ (0 : Int) ∧ (0 : Int) < 2147483648 := (by omega); exact lv_if_le hC.1 hC.2.1 hD ht (fun z => absurd ((ofI_le (x := x) (y := 0) hx hy).mp z) (by omega)) (fun _ => hw))
  · simp only [if_neg hc] at hk
    exact XW.st hk (fun q _ => q.tl) (fun p l e R s m args below meth c H locs cells slots ad ls Qc hC hl hol hos hw => by have hx := hos.hd; have hy : -2147483648 ≤ (0 : Int) ∧ (0 : Int) < 2147483648 := (by omega); exact lv_if_le hC.1 hC.2.1 hD ht (fun _ => hw) (fun z => absurd ((ofI_le (x := x) (y := 0) hx hy).mpr (by omega)) z))
theorem xs_ifnull {off : Int} {t : Nat} (hD : decode M.2.1 pc = .ok (.ifnull off, 3)) (ht : (pc : Int) + off = (t : Int)) (hk : if x < 0 then XW g d M Q t L r h al else XW g d M Q (pc + 3) L r h al) : XW g d M Q pc L (xr x :: r) h al := by
  by_cases hc : x < 0
  · simp only [if_pos hc] at hk
    exact XW.st hk (fun q _ => q.tl) (fun p l e R s m args below meth c H locs cells slots ad ls Qc hC hl hol hos hw => by rw [List.map_cons, show dv ad (xr x) = .null by simp [dv, hc]]; exact lv_ifnullN hC.1 hC.2.1 hD ht hw)
  · simp only [if_neg hc] at hk
    exact XW.st hk (fun q _ => q.tl) (fun p l e R s m args below meth c H locs cells slots ad ls Qc hC hl hol hos hw => by rw [List.map_cons, show dv ad (xr x) = .ref (ad x.toNat) by simp [dv, hc]]; exact lv_ifnull hC.1 hC.2.1 hD hw)
theorem xs_ifnonnull {off : Int} {t : Nat} (hD : decode M.2.1 pc = .ok (.ifnonnull off, 3)) (ht : (pc : Int) + off = (t : Int)) (hk : if x < 0 then XW g d M Q (pc + 3) L r h al else XW g d M Q t L r h al) : XW g d M Q pc L (xr x :: r) h al := by
  by_cases hc : x < 0
  · simp only [if_pos hc] at hk
    exact XW.st hk (fun q _ => q.tl) (fun p l e R s m args below meth c H locs cells slots ad ls Qc hC hl hol hos hw => by rw [List.map_cons, show dv ad (xr x) = .null by simp [dv, hc]]; exact lv_ifnonnullN hC.1 hC.2.1 hD hw)
  · simp only [if_neg hc] at hk
    exact XW.st hk (fun q _ => q.tl) (fun p l e R s m args below meth c H locs cells slots ad ls Qc hC hl hol hos hw => by rw [List.map_cons, show dv ad (xr x) = .ref (ad x.toNat) by simp [dv, hc]]; exact lv_ifnonnull hC.1 hC.2.1 hD ht hw)
theorem dv_rf {ad : Nat → Nat} : dv ad (xr x) = va_rf (if x < 0 then none else some (ad x.toNat)) := by
  unfold dv
  by_cases q : x < 0 <;> simp [q, va_rf]
theorem xs_acmp {off : Int} {t : Nat} (hD : decode M.2.1 pc = .ok (.if_acmp .ne off, 3)) (ht : (pc : Int) + off = (t : Int)) (hk0 : cond (nk x || nk y) (if x = y then XW g d M Q (pc + 3) L r h al else XW g d M Q t L r h al) False) : XW g d M Q pc L (xr y :: xr x :: r) h al := by
  have hn : (nk x || nk y) = true := by
    cases e : (nk x || nk y) with
    | true => rfl
    | false => rw [e] at hk0; exact hk0.elim
  have hk : if x = y then XW g d M Q (pc + 3) L r h al else XW g d M Q t L r h al := by
    rw [hn] at hk0
    exact hk0
  have hnk : ∀ z : Int, 0 ≤ z → nk z = true → kd z.toNat < 80 := by
    intro z hz h2
    cases z with
    | ofNat o => exact Nat.lt_succ_of_le (Nat.le_of_ble_eq_true h2)
    | negSucc o => exact absurd hz (by simp)
  have key : ∀ (ad : Nat → Nat), (∀ a b, al a = true → al b = true → kd a < 80 → ad a = ad b → a = b) → okV al (xr x) → okV al (xr y) → ((if x < 0 then (none : Option Nat) else some (ad x.toNat)) = (if y < 0 then none else some (ad y.toNat)) ↔ x = y) := by
    intro ad hin hx hy
    constructor
    · intro q
      rcases hx with hx | ⟨hx1, hx2⟩ <;> rcases hy with hy | ⟨hy1, hy2⟩
      · omega
      · rw [if_pos (by omega), if_neg (by omega)] at q; cases q
      · rw [if_neg (by omega), if_pos (by omega)] at q; cases q
      · rw [if_neg (by omega), if_neg (by omega)] at q
        rw [Bool.or_eq_true] at hn
        rcases hn with hn | hn
        · have := hin _ _ hx2 hy2 (hnk x hx1 hn) (Option.some.inj q)
          omega
        · have := hin _ _ hy2 hx2 (hnk y hy1 hn) (Option.some.inj q).symm
          omega
    · intro q; rw [q]
  by_cases hc : x = y
  · rw [if_pos hc] at hk
    exact XW.st hk (fun q _ => q.tl.tl) (fun p l e R s m args below meth c H locs cells slots ad ls Qc hC hl hol hos hw => by
      have hK := key ad hC.2.2.2.2.2.2.2.2.2.2.2.2.1.2.1 hos.tl.hd hos.hd
      rw [List.map_cons, List.map_cons, dv_rf, dv_rf]
      exact lv_acmp_ne hC.1 hC.2.1 hD ht (fun z => absurd (hK.mpr hc) z) (fun _ => hw))
  · rw [if_neg hc] at hk
    exact XW.st hk (fun q _ => q.tl.tl) (fun p l e R s m args below meth c H locs cells slots ad ls Qc hC hl hol hos hw => by
      have hK := key ad hC.2.2.2.2.2.2.2.2.2.2.2.2.1.2.1 hos.tl.hd hos.hd
      rw [List.map_cons, List.map_cons, dv_rf, dv_rf]
      exact lv_acmp_ne hC.1 hC.2.1 hD ht (fun _ => hw) (fun z => absurd (hK.mp z) hc))
theorem swt_of {q : Int → Prop} {d0 : Int} : ∀ (os : List Int) (k : Int), swtP x k d0 q os → (∃ o, os[(x - k).toNat]? = some o ∧ k ≤ x ∧ x < k + os.length ∧ q o) ∨ ((x < k ∨ k + os.length ≤ x) ∧ q d0) := by
  intro os
  induction os with
  | nil => intro k h; exact Or.inr ⟨by simp; omega, h⟩
  | cons o os ih =>
    intro k h
    unfold swtP at h
    by_cases e : x = k
    · rw [if_pos e] at h
      exact Or.inl ⟨o, by rw [e, Int.sub_self]; rfl, by omega, by simp only [List.length_cons]; omega, h⟩
    · rw [if_neg e] at h
      rcases ih (k + 1) h with ⟨o2, h1, h2, h3, h4⟩ | ⟨h1, h2⟩
      · refine Or.inl ⟨o2, ?_, by omega, by simp only [List.length_cons]; omega, h4⟩
        rw [show (x - k).toNat = (x - (k + 1)).toNat + 1 by omega, List.getElem?_cons_succ]
        exact h1
      · exact Or.inr ⟨by simp only [List.length_cons]; omega, h2⟩
theorem swl_of {q : Int → Prop} {d0 : Int} : ∀ (os : List (Int × Int)), swlP x d0 q os → q (Op.lookupswitch.offset os d0 x) := by
  intro os
  induction os with
  | nil => intro h; exact h
  | cons o os ih =>
    intro h
    obtain ⟨k, o⟩ := o
    rw [Op.lookupswitch.offset_cons]
    unfold swlP at h
    by_cases e : x = k
    · rw [if_pos e] at h
      rw [if_pos (by first | exact e | exact e.symm)]
      exact h
    · rw [if_neg e] at h
      rw [if_neg (by first | exact e | exact fun q => e q.symm)]
      exact ih h
theorem xs_tsw {d0 lo hi : Int} {os : Array Int} {len : Nat} (hD : decode M.2.1 pc = .ok (.tableswitch d0 lo hi os, len)) (hhi : hi + 1 = lo + os.toList.length) (h0 : 0 ≤ (pc : Int) + d0) (hos0 : ∀ o ∈ os.toList, 0 ≤ (pc : Int) + o) (hk : swtP x lo d0 (fun o => XW g d M Q ((pc : Int) + o).toNat L r h al) os.toList) : XW g d M Q pc L (xi x :: r) h al := by
  rcases swt_of _ _ hk with ⟨o, h1, h2, h3, hk⟩ | ⟨h1, hk⟩
  · exact XW.st hk (fun q _ => q.tl) (fun p l e R s m args below meth c H locs cells slots ad ls Qc hC hl hol hos hw => by
      have hx := rI hos.hd
      refine lv_tableIn hC.1 hC.2.1 hD (off := o) (tgt := ((pc : Int) + o).toNat) (by rw [hx]; omega) (by rw [hx]; omega) (by rw [hx, ← Array.getElem?_toList]; exact h1) ?_ hw
      have := hos0 o (List.mem_of_getElem? h1)
      omega)
  · exact XW.st hk (fun q _ => q.tl) (fun p l e R s m args below meth c H locs cells slots ad ls Qc hC hl hol hos hw => by
      have hx := rI hos.hd
      exact lv_tableOut hC.1 hC.2.1 hD (tgt := ((pc : Int) + d0).toNat) (by rw [hx]; omega) (by omega) hw)
theorem xs_lsw {d0 : Int} {ps : Array (Int × Int)} {len : Nat} (hD : decode M.2.1 pc = .ok (.lookupswitch d0 ps, len)) (hp : (ps.toList.zip (ps.toList.drop 1)).all (fun (a, next) => a.1 < next.1) = true) (h0 : 0 ≤ (pc : Int) + d0) (hos0 : ∀ o ∈ ps.toList, 0 ≤ (pc : Int) + o.2) (hk : swlP x d0 (fun o => XW g d M Q ((pc : Int) + o).toNat L r h al) ps.toList) : XW g d M Q pc L (xi x :: r) h al := by
  have hk2 := swl_of _ hk
  have hpos : ∀ (os : List (Int × Int)), (∀ o ∈ os, 0 ≤ (pc : Int) + o.2) → 0 ≤ (pc : Int) + Op.lookupswitch.offset os d0 x := by
    intro os
    induction os with
    | nil => intro _; exact h0
    | cons o os ih =>
      intro hh
      obtain ⟨k, o⟩ := o
      rw [Op.lookupswitch.offset_cons]
      by_cases e : k = x
      · first
          | rw [if_pos e]
          | rw [if_pos e.symm]
        exact hh _ List.mem_cons_self
      · first
          | rw [if_neg e]
          | rw [if_neg (fun q => e q.symm)]
        exact ih fun o ho => hh o (List.mem_cons_of_mem _ ho)
  have hz := hpos ps.toList hos0
  exact XW.st hk2 (fun q _ => q.tl) (fun p l e R s m args below meth c H locs cells slots ad ls Qc hC hl hol hos hw => by
      have hx := rI hos.hd
      exact lv_lookup hC.1 hC.2.1 hD hp (by rw [hx]) (by omega) hw)
end SND2
