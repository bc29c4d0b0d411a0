-- the class reads a text: tests, what stands in brackets, what is joined
theorem ix_lt {x : Int} : ixS 1 x (sn 1) 0 = if ltS x = 4 then -1 else (ltS x : Int) := by
  have e0 : sb 1 0 = 115 := by decide +kernel
  have e1 : sb 1 1 = 108 := by decide +kernel
  have e2 : sb 1 2 = 105 := by decide +kernel
  have e3 : sb 1 3 = 112 := by decide +kernel
  show (if sb 1 0 = x then ((0 : Nat) : Int) else if sb 1 1 = x then ((1 : Nat) : Int) else if sb 1 2 = x then ((2 : Nat) : Int) else if sb 1 3 = x then ((3 : Nat) : Int) else -1) = _
  rw [e0, e1, e2, e3]
  unfold ltS
  by_cases a : x = 115
  · rw [if_pos a.symm, if_pos a]; rfl
  · rw [if_neg (fun q => a q.symm), if_neg a]
    by_cases b : x = 108
    · rw [if_pos b.symm, if_pos b]; rfl
    · rw [if_neg (fun q => b q.symm), if_neg b]
      by_cases c : x = 105
      · rw [if_pos c.symm, if_pos c]; rfl
      · rw [if_neg (fun q => c q.symm), if_neg c]
        by_cases d : x = 112
        · rw [if_pos d.symm, if_pos d]; rfl
        · rw [if_neg (fun q => d q.symm), if_neg d]; rfl
theorem ix_rl {x : Int} : ixS 2 x (sn 2) 0 = if 60 ≤ x ∧ x ≤ 62 then x - 60 else -1 := by
  have e0 : sb 2 0 = 60 := by decide +kernel
  have e1 : sb 2 1 = 61 := by decide +kernel
  have e2 : sb 2 2 = 62 := by decide +kernel
  show (if sb 2 0 = x then ((0 : Nat) : Int) else if sb 2 1 = x then ((1 : Nat) : Int) else if sb 2 2 = x then ((2 : Nat) : Int) else -1) = _
  rw [e0, e1, e2]
  split
  · rw [if_pos (by omega)]; omega
  · split
    · rw [if_pos (by omega)]; omega
    · split
      · rw [if_pos (by omega)]; omega
      · rw [if_neg (by omega)]
theorem ix_bg {x : Int} : ixS 0 x (sn 0) 0 = if bgS x = 5 then -1 else (bgS x : Int) := by
  have e0 : sb 0 0 = 102 := by decide +kernel
  have e1 : sb 0 1 = 98 := by decide +kernel
  have e2 : sb 0 2 = 99 := by decide +kernel
  have e3 : sb 0 3 = 112 := by decide +kernel
  have e4 : sb 0 4 = 107 := by decide +kernel
  show (if sb 0 0 = x then ((0 : Nat) : Int) else if sb 0 1 = x then ((1 : Nat) : Int) else if sb 0 2 = x then ((2 : Nat) : Int) else if sb 0 3 = x then ((3 : Nat) : Int) else if sb 0 4 = x then ((4 : Nat) : Int) else -1) = _
  rw [e0, e1, e2, e3, e4]
  unfold bgS
  by_cases a : x = 102
  · rw [if_pos a.symm, if_pos a]; rfl
  · rw [if_neg (fun q => a q.symm), if_neg a]
    by_cases b : x = 98
    · rw [if_pos b.symm, if_pos b]; rfl
    · rw [if_neg (fun q => b q.symm), if_neg b]
      by_cases c : x = 99
      · rw [if_pos c.symm, if_pos c]; rfl
      · rw [if_neg (fun q => c q.symm), if_neg c]
        by_cases d : x = 112
        · rw [if_pos d.symm, if_pos d]; rfl
        · rw [if_neg (fun q => d q.symm), if_neg d]
          by_cases f : x = 107
          · rw [if_pos f.symm, if_pos f]; rfl
          · rw [if_neg (fun q => f q.symm), if_neg f]; rfl
section RE2
variable {g : GC} {d : Nat} {h : HH} {al : AL} {K : KT} {ch : Nat → Int} {N vn p : Nat} {e : List Sg}
theorem c_indexOfW {i : Nat} {x v : Int} (hi : i < 8) (hn0 : 0 < sn i) (hx : 0 ≤ x ∧ x < 256) (hv : ixS i x (sn i) 0 = v) (hK : K (some (xi v)) h al) : Call g (d + 4) yJ0_indexOf_0f7a4 [xr (Int.ofNat (183 + i)), xi (wC x)] h al K := by
  have e : wC x = x := by unfold wC; omega
  rw [e]
  exact c_indexOf hi hn0 hx (by rw [hv]; exact hK)
theorem c_Vjoin {x : Int} {sg : Sg} (hf : VF h vn) (hv : VN vn) (hs : CS h vn e) (hl : e.length < 100) (hx : x = cS sg) (hK : ∀ h2 : HH, FV vn h h2 → h2 40 2 = h 40 2 → CS h2 vn (e ++ [sg]) → K none h2 al) : Call g (d + 2) yVa_join [xr (Int.ofNat vn), xi x] h al K := by
  obtain ⟨v0, -, -, -, v4, -⟩ := hv.k
  obtain ⟨-, -, -, l4, -⟩ := hv.l g
  have hb := hv.b2
  obtain ⟨s1, s2⟩ := hs
  have e1 : uH h (vn + 4) e.length x vn 6 = (e.length : Int) := (uH_ne (by omega)).trans s1
  refine cof ocVa_join rfl (XW_t4 [] 60 okVa_join ?_)
  refine cond_i (by rw [v0]; rfl) ⟨_, hf.2.2.2.1, ?_⟩
  refine cond_i (by rw [v0]; rfl) ⟨_, s1, ?_⟩
  refine c_putE (o := vn + 4) (j := e.length) v4 rfl (by rw [l4]; exact hl) ?_
  refine cond_i (by rw [v0]; rfl) ⟨_, e1, ?_⟩
  refine cond_i (by rw [v0]; rfl) ⟨6, rfl, ?_⟩
  refine hK (uH (uH h (vn + 4) e.length x) vn 6 (wI ((e.length : Int) + 1))) (fun a k q1 q2 q3 => ?_) ?_ ⟨?_, fun j hj => ?_⟩
  · rw [uH_ne (by omega), uH_ne (by omega)]
  · rw [uH_ne (by omega), uH_ne (by omega)]
  · rw [uH_at, nS _ (by omega), List.length_append]
    rfl
  · rw [uH_ne (by omega), uH_r]
    rw [List.length_append] at hj
    have hj : j < e.length + 1 := hj
    by_cases q : j = e.length
    · rw [if_pos q, q, List.getD_eq_getElem?_getD, List.getElem?_append_right (Nat.le_refl _), Nat.sub_self, hx]
      rfl
    · rw [if_neg q, List.getD_eq_getElem?_getD, List.getElem?_append_left (by omega), ← List.getD_eq_getElem?_getD]
      exact s2 j (by omega)
theorem c_Vtest {l r n : Nat} {ni : Int} (hf : VF h vn) (hv : VN vn) (hs : CS h vn e) (hl : e.length < 100) (h3 : l ≤ 3) (h2 : r ≤ 2) (h9 : n ≤ 99) (en : ni = (n : Int)) (hK : ∀ h2 : HH, FV vn h h2 → h2 40 2 = h 40 2 → CS h2 vn (e ++ [(0, l, r, n)]) → K none h2 al) : Call g (d + 3) yVa_test [xr (Int.ofNat vn), xi (l : Int), xi (r : Int), xi ni] h al K := by
  obtain ⟨v0, -⟩ := hv.k
  subst en
  refine cof ocVa_test rfl (XW_t4 [] 60 okVa_test ?_)
  refine cond_i (by show (Nat.beq (kd vn) 7 && _) = true; rw [v0]; rfl) ?_
  refine c_Vjoin hf hv hs hl ?_ hK
  show wI (wI (wI ((l : Int) * 300) + wI ((r : Int) * 100)) + (n : Int)) = ((300 * l + 100 * r + n : Nat) : Int)
  rw [wI_id (z := (l : Int) * 300) (by omega), wI_id (z := (r : Int) * 100) (by omega), wI_id (z := (l : Int) * 300 + (r : Int) * 100) (by omega), wI_id (by omega)]
  omega
def CCf (g : GC) (d : Nat) (ch : Nat → Int) (N vn : Nat) (y : MethodName) (a : SL) (f : Nat → PR) : Prop := ∀ (p : Nat) (e : List Sg) (h : HH) (al : AL) (K : KT), p ≤ N → e.length ≤ p → RD ch N vn h p e → (∀ h2 : HH, FV vn h h2 → h2 40 2 = ((f p).2.1 : Int) → ((f p).1 = true → CS h2 vn (e ++ (f p).2.2)) → K (some (xi (bI (f p).1))) h2 al) → Call g d y (xr 40 :: a) h al K
set_option maxRecDepth 8000 in
theorem c_test : CCf g (d + 5) ch N vn yTe_test [] (teS ch) := by
  intro p e h al K hp he hR hK
  obtain ⟨hW, ⟨t1, t2, t3, t4, t5⟩, ⟨hv, e3⟩, e2, hs⟩ := id hR
  have hb := hv.b2
  have hR0 := hR
  have v0 := hv.k.1
  unfold teS at hK
  by_cases h1 : ltS (ch p) = 4
  · rw [if_pos h1] at hK
    obtain ⟨h0, rfl⟩ := hW
    refine cof ocTe_test rfl (XW_t4 [] 60 okTe_test ?_)
    refine c_next hR0 ?_
    refine c_indexOfW (i := 1) (v := -1) (by decide) (by decide) (t5 p) (by rw [ix_lt, if_pos h1]) ?_
    exact ⟨Or.inl rfl, hK _ FV.refl e2 fun q => by cases q⟩
  · rw [if_neg h1] at hK
    obtain ⟨n1, n2⟩ := ltS_0 h1
    have l1 := ch_lt t4 n1
    have ey : wI (h 40 2 + 1) = ((p + 1 : Nat) : Int) := by rw [e2, nS p (by omega)]
    have hR1 : RD ch N vn (uH h 40 2 (wI (h 40 2 + 1))) (p + 1) e := hR.of (FV.refl.up (Or.inl rfl)) (by rw [uH_at]; exact ey) (hs.up hv)
    by_cases h2 : 60 ≤ ch (p + 1) ∧ ch (p + 1) ≤ 62
    · rw [if_pos h2] at hK
      have l2 := ch_lt t4 (p := p + 1) (by omega)
      have ey2 : wI (wI (h 40 2 + 1) + 1) = ((p + 2 : Nat) : Int) := by rw [ey, nS (p + 1) (by omega)]
      have hR2 : RD ch N vn (uH (uH h 40 2 (wI (h 40 2 + 1))) 40 2 (wI (wI (h 40 2 + 1) + 1))) (p + 2) e := hR.of ((FV.refl.up (Or.inl rfl)).up (Or.inl rfl)) (by rw [uH_at]; exact ey2) ((hs.up hv).up hv)
      obtain ⟨rl, erl⟩ : ∃ rl, rl = (ch (p + 1) - 60).toNat := ⟨_, rfl⟩
      have erl2 : ch (p + 1) - 60 = (rl : Int) := by omega
      have k54 : XW g (d + 4) mTe_test K 54 [some (xr 40), some (xi (ltS (ch p) : Int)), some (xi (rl : Int))] [] (uH (uH h 40 2 (wI (h 40 2 + 1))) 40 2 (wI (wI (h 40 2 + 1) + 1))) al := by
        have hf2 : FV vn h (uH (uH h 40 2 (wI (h 40 2 + 1))) 40 2 (wI (wI (h 40 2 + 1) + 1))) := (FV.refl.up (Or.inl rfl)).up (Or.inl rfl)
        generalize uH (uH h 40 2 (wI (h 40 2 + 1))) 40 2 (wI (wI (h 40 2 + 1) + 1)) = h5 at hR2 hf2 ⊢
        refine XW_t4 [64] 60 okTe_test ?_
        refine c_pNum hR2 (by omega) fun h6 hf6 hp6 hs6 hn6 => ?_
        obtain ⟨-, -, a3, a4⟩ := nuS_ok t4 (p := p + 2) (by omega)
        by_cases h3 : (nuS ch (p + 2)).1 = true
        · rw [if_pos h3] at hK
          obtain ⟨b1, b2⟩ := a3 h3
          have hR6 := hR2.of hf6 hp6 hs6
          have hn6 := hn6 h3
          obtain ⟨hW6, -, ⟨-, e36⟩, -, -⟩ := id hR6
          have hvf := hW6.vf hv
          refine ite_f (show ¬ bI (nuS ch (p + 2)).1 = 0 by rw [show bI (nuS ch (p + 2)).1 = 1 from if_pos h3]; decide) ?_
          refine XW_getR okTe_test rfl rfl e36 ?_
          obtain ⟨h6', rfl⟩ := id hW6
          refine XW_t4 [] 60 okTe_test ?_
          refine cond_i (by show (Nat.beq (kd vn) 7 && _) = true; rw [v0]; rfl) ?_
          refine c_Vtest hvf hv hs6 (by omega) n2 (by omega) b2 hn6 fun h7 hf7 hp7 hs7 => ?_
          refine ⟨Or.inr rfl, ?_⟩
          rw [erl] at hs7
          exact hK h7 ((hf2.trans hf6).trans hf7) (hp7.trans hp6) fun _ => hs7
        · rw [if_neg h3] at hK
          refine ite_t (show bI (nuS ch (p + 2)).1 = 0 from if_neg h3) ?_
          have h3f : (nuS ch (p + 2)).1 = false := by
            cases q : (nuS ch (p + 2)).1 with
            | true => exact absurd q h3
            | false => rfl
          refine ⟨Or.inl rfl, hK h6 (hf2.trans hf6) ?_ fun q => by cases q⟩
          rw [hp6, a4 h3f]
      obtain ⟨h0, rfl⟩ := hW
      refine cof ocTe_test rfl (XW_t4 [54] 60 okTe_test ?_)
      refine c_next hR0 ?_
      refine c_indexOfW (i := 1) (v := (ltS (ch p) : Int)) (by decide) (by decide) (t5 p) (by rw [ix_lt, if_neg h1]) ?_
      refine c_next (h := uH (wr h0) 40 2 (wI (wr h0 40 2 + 1))) hR1 ?_
      refine c_indexOfW (i := 2) (v := (rl : Int)) (by decide) (by decide) (t5 (p + 1)) (by rw [ix_rl, if_pos h2, erl2]) ?_
      exact k54
    · rw [if_neg h2] at hK
      obtain ⟨h0, rfl⟩ := hW
      refine cof ocTe_test rfl (XW_t4 [] 60 okTe_test ?_)
      refine c_next hR0 ?_
      refine c_indexOfW (i := 1) (v := (ltS (ch p) : Int)) (by decide) (by decide) (t5 p) (by rw [ix_lt, if_neg h1]) ?_
      refine c_next (h := uH (wr h0) 40 2 (wI (wr h0 40 2 + 1))) hR1 ?_
      refine c_indexOfW (i := 2) (v := -1) (by decide) (by decide) (t5 (p + 1)) (by rw [ix_rl, if_neg h2]) ?_
      exact ⟨Or.inl rfl, hK _ (FV.refl.up (Or.inl rfl)) (by rw [uH_at]; exact ey) fun q => by cases q⟩
set_option maxRecDepth 8000 in
theorem c_both {a b : Int} {bd : Nat} {f : Nat → PR} (hab : a = b) (hgd : gdF N bd f) (hf : CCf g (d + 5) ch N vn yTe_single [xi a] f) : CCf g (d + 6) ch N vn yTe_both [xi b] (boS ch f) := by
  subst hab
  intro p e h al K hp he hR hK
  obtain ⟨hW, ⟨t1, t2, t3, t4, t5⟩, ⟨hv, e3⟩, e2, hs⟩ := id hR
  have v0 := hv.k.1
  obtain ⟨f1, f2, f3⟩ := hgd p hp
  unfold boS at hK
  by_cases hk1 : (f p).1 = true
  · rw [if_pos hk1] at hK
    obtain ⟨g1, g2, g3⟩ := f3 hk1
    generalize htot : lpS ch f 38 (2, 0, 0, 0) 100 (true, (f p).2.1, (f p).2.2) = tot at hK
    have loop : ∀ (m n : Nat) (r : PR) (h2 : HH), n + m = 100 → r.1 = true → r.2.1 ≤ N → (e ++ r.2.2).length ≤ r.2.1 → FV vn h h2 → RD ch N vn h2 r.2.1 (e ++ r.2.2) → lpS ch f 38 (2, 0, 0, 0) m r = tot → XW g (d + 5) mTe_both K 12 [some (xr 40), some (xi a), some (xi (n : Int))] [] h2 al := by
      intro m
      induction m with
      | zero =>
        intro n r h2 hn hr hrN hre hf2 hR2 ht
        have ht : r = tot := ht
        subst ht
        have en : n = 100 := by omega
        have done := hK h2 hf2 hR2.2.2.2.1 fun _ => hR2.2.2.2.2
        rw [show bI r.1 = 1 from if_pos hr] at done
        refine XW_t4 [12] 40 okTe_both ?_
        refine ite_f (by omega) ?_
        exact ⟨Or.inr rfl, done⟩
      | succ m ih =>
        intro n r h2 hn hr hrN hre hf2 hR2 ht
        have ht : (if ch r.2.1 = 38 then (if (f (r.2.1 + 1)).1 = true then lpS ch f 38 (2, 0, 0, 0) m (true, (f (r.2.1 + 1)).2.1, r.2.2 ++ (f (r.2.1 + 1)).2.2 ++ [(2, 0, 0, 0)]) else (false, (f (r.2.1 + 1)).2.1, [])) else r) = tot := ht
        refine XW_t4 [12, 38, 52] 60 okTe_both ?_
        refine ite_t (by omega) ?_
        refine c_passes hR2 (by decide) (fun q h3 hf3 hp3 hs3 => ?_) (fun q => ?_)
        · rw [if_pos q] at ht
          have l1 := ch_lt t4 (p := r.2.1) (by rw [q]; decide)
          have hR3 := hR2.of hf3 hp3 hs3
          obtain ⟨i1, i2, i3⟩ := hgd (r.2.1 + 1) (by omega)
          refine hf (r.2.1 + 1) (e ++ r.2.2) h3 al _ (by omega) (by omega) hR3 fun h4 hf4 hp4 hs4 => ?_
          by_cases hk2 : (f (r.2.1 + 1)).1 = true
          · rw [if_pos hk2] at ht
            obtain ⟨j1, j2, j3⟩ := i3 hk2
            have hs4 := hs4 hk2
            have hR4 := hR3.of hf4 hp4 hs4
            obtain ⟨hW4, -, ⟨-, e34⟩, -, -⟩ := id hR4
            have hvf := hW4.vf hv
            have hlen : ((e ++ r.2.2) ++ (f (r.2.1 + 1)).2.2).length < 100 := by
              rw [List.length_append]
              omega
            refine ite_f (show ¬ bI (f (r.2.1 + 1)).1 = 0 by rw [show bI (f (r.2.1 + 1)).1 = 1 from if_pos hk2]; decide) ?_
            refine XW_getR okTe_both rfl rfl e34 ?_
            refine XW_t4 [12] 40 okTe_both ?_
            refine cond_i (by show (Nat.beq (kd vn) 7 && _) = true; rw [v0]; rfl) ?_
            refine c_Vjoin (sg := (2, 0, 0, 0)) hvf hv hs4 hlen rfl fun h5 hf5 hp5 hs5 => ?_
            have ea : ((e ++ r.2.2) ++ (f (r.2.1 + 1)).2.2) ++ [(2, 0, 0, 0)] = e ++ (r.2.2 ++ (f (r.2.1 + 1)).2.2 ++ [(2, 0, 0, 0)]) := by simp only [List.append_assoc]
            rw [ea] at hs5
            have t := ih (n + 1) (true, (f (r.2.1 + 1)).2.1, r.2.2 ++ (f (r.2.1 + 1)).2.2 ++ [(2, 0, 0, 0)]) h5 (by omega) rfl i2 (by
              show (e ++ (r.2.2 ++ (f (r.2.1 + 1)).2.2 ++ [(2, 0, 0, 0)])).length ≤ (f (r.2.1 + 1)).2.1
              rw [← ea]
              rw [List.length_append] at hre
              simp only [List.length_append, List.length_cons, List.length_nil]
              omega) (((hf2.trans hf3).trans hf4).trans hf5) (hR4.of hf5 (hp5.trans hp4) hs5) ht
            rw [← nS n (by omega)] at t
            exact t
          · rw [if_neg hk2] at ht
            subst ht
            refine ite_t (show bI (f (r.2.1 + 1)).1 = 0 from if_neg hk2) ?_
            exact ⟨Or.inl rfl, hK h4 ((hf2.trans hf3).trans hf4) hp4 fun q => by cases q⟩
        · rw [if_neg q] at ht
          subst ht
          have done := hK h2 hf2 hR2.2.2.2.1 fun _ => hR2.2.2.2.2
          rw [show bI r.1 = 1 from if_pos hr] at done
          refine XW_t4 [] 40 okTe_both ?_
          exact ⟨Or.inr rfl, done⟩
    refine cof ocTe_both rfl (XW_t4 [12] 60 okTe_both ?_)
    refine hf p e h al _ hp he hR fun h2 hf2 hp2 hs2 => ?_
    refine ite_f (show ¬ bI (f p).1 = 0 by rw [show bI (f p).1 = 1 from if_pos hk1]; decide) ?_
    refine loop 100 0 (true, (f p).2.1, (f p).2.2) h2 rfl rfl f2 ?_ hf2 (hR.of hf2 hp2 (hs2 hk1)) htot
    show (e ++ (f p).2.2).length ≤ (f p).2.1
    rw [List.length_append]
    omega
  · rw [if_neg hk1] at hK
    refine cof ocTe_both rfl (XW_t4 [12] 60 okTe_both ?_)
    refine hf p e h al _ hp he hR fun h2 hf2 hp2 hs2 => ?_
    refine ite_t (show bI (f p).1 = 0 from if_neg hk1) ?_
    exact ⟨Or.inl rfl, hK h2 hf2 hp2 fun q => by cases q⟩
set_option maxRecDepth 8000 in
theorem c_either {a b : Int} {bd : Nat} {f0 : Nat → PR} (hab : a = b) (hgd : gdF N bd (boS ch f0)) (hf : CCf g (d + 5) ch N vn yTe_both [xi a] (boS ch f0)) : CCf g (d + 6) ch N vn yTe_either [xi b] (eiS ch f0) := by
  subst hab
  intro p e h al K hp he hR hK
  obtain ⟨hW, ⟨t1, t2, t3, t4, t5⟩, ⟨hv, e3⟩, e2, hs⟩ := id hR
  have v0 := hv.k.1
  unfold eiS at hK
  generalize boS ch f0 = f at hgd hf hK
  obtain ⟨f1, f2, f3⟩ := hgd p hp
  by_cases hk1 : (f p).1 = true
  · rw [if_pos hk1] at hK
    obtain ⟨g1, g2, g3⟩ := f3 hk1
    generalize htot : lpS ch f 124 (3, 0, 0, 0) 100 (true, (f p).2.1, (f p).2.2) = tot at hK
    have loop : ∀ (m n : Nat) (r : PR) (h2 : HH), n + m = 100 → r.1 = true → r.2.1 ≤ N → (e ++ r.2.2).length ≤ r.2.1 → FV vn h h2 → RD ch N vn h2 r.2.1 (e ++ r.2.2) → lpS ch f 124 (3, 0, 0, 0) m r = tot → XW g (d + 5) mTe_either K 12 [some (xr 40), some (xi a), some (xi (n : Int))] [] h2 al := by
      intro m
      induction m with
      | zero =>
        intro n r h2 hn hr hrN hre hf2 hR2 ht
        have ht : r = tot := ht
        subst ht
        have en : n = 100 := by omega
        have done := hK h2 hf2 hR2.2.2.2.1 fun _ => hR2.2.2.2.2
        rw [show bI r.1 = 1 from if_pos hr] at done
        refine XW_t4 [12] 40 okTe_either ?_
        refine ite_f (by omega) ?_
        exact ⟨Or.inr rfl, done⟩
      | succ m ih =>
        intro n r h2 hn hr hrN hre hf2 hR2 ht
        have ht : (if ch r.2.1 = 124 then (if (f (r.2.1 + 1)).1 = true then lpS ch f 124 (3, 0, 0, 0) m (true, (f (r.2.1 + 1)).2.1, r.2.2 ++ (f (r.2.1 + 1)).2.2 ++ [(3, 0, 0, 0)]) else (false, (f (r.2.1 + 1)).2.1, [])) else r) = tot := ht
        refine XW_t4 [12, 38, 52] 60 okTe_either ?_
        refine ite_t (by omega) ?_
        refine c_passes hR2 (by decide) (fun q h3 hf3 hp3 hs3 => ?_) (fun q => ?_)
        · rw [if_pos q] at ht
          have l1 := ch_lt t4 (p := r.2.1) (by rw [q]; decide)
          have hR3 := hR2.of hf3 hp3 hs3
          obtain ⟨i1, i2, i3⟩ := hgd (r.2.1 + 1) (by omega)
          refine hf (r.2.1 + 1) (e ++ r.2.2) h3 al _ (by omega) (by omega) hR3 fun h4 hf4 hp4 hs4 => ?_
          by_cases hk2 : (f (r.2.1 + 1)).1 = true
          · rw [if_pos hk2] at ht
            obtain ⟨j1, j2, j3⟩ := i3 hk2
            have hs4 := hs4 hk2
            have hR4 := hR3.of hf4 hp4 hs4
            obtain ⟨hW4, -, ⟨-, e34⟩, -, -⟩ := id hR4
            have hvf := hW4.vf hv
            have hlen : ((e ++ r.2.2) ++ (f (r.2.1 + 1)).2.2).length < 100 := by
              rw [List.length_append]
              omega
            refine ite_f (show ¬ bI (f (r.2.1 + 1)).1 = 0 by rw [show bI (f (r.2.1 + 1)).1 = 1 from if_pos hk2]; decide) ?_
            refine XW_getR okTe_either rfl rfl e34 ?_
            refine XW_t4 [12] 40 okTe_either ?_
            refine cond_i (by show (Nat.beq (kd vn) 7 && _) = true; rw [v0]; rfl) ?_
            refine c_Vjoin (sg := (3, 0, 0, 0)) hvf hv hs4 hlen rfl fun h5 hf5 hp5 hs5 => ?_
            have ea : ((e ++ r.2.2) ++ (f (r.2.1 + 1)).2.2) ++ [(3, 0, 0, 0)] = e ++ (r.2.2 ++ (f (r.2.1 + 1)).2.2 ++ [(3, 0, 0, 0)]) := by simp only [List.append_assoc]
            rw [ea] at hs5
            have t := ih (n + 1) (true, (f (r.2.1 + 1)).2.1, r.2.2 ++ (f (r.2.1 + 1)).2.2 ++ [(3, 0, 0, 0)]) h5 (by omega) rfl i2 (by
              show (e ++ (r.2.2 ++ (f (r.2.1 + 1)).2.2 ++ [(3, 0, 0, 0)])).length ≤ (f (r.2.1 + 1)).2.1
              rw [← ea]
              rw [List.length_append] at hre
              simp only [List.length_append, List.length_cons, List.length_nil]
              omega) (((hf2.trans hf3).trans hf4).trans hf5) (hR4.of hf5 (hp5.trans hp4) hs5) ht
            rw [← nS n (by omega)] at t
            exact t
          · rw [if_neg hk2] at ht
            subst ht
            refine ite_t (show bI (f (r.2.1 + 1)).1 = 0 from if_neg hk2) ?_
            exact ⟨Or.inl rfl, hK h4 ((hf2.trans hf3).trans hf4) hp4 fun q => by cases q⟩
        · rw [if_neg q] at ht
          subst ht
          have done := hK h2 hf2 hR2.2.2.2.1 fun _ => hR2.2.2.2.2
          rw [show bI r.1 = 1 from if_pos hr] at done
          refine XW_t4 [] 40 okTe_either ?_
          exact ⟨Or.inr rfl, done⟩
    refine cof ocTe_either rfl (XW_t4 [12] 60 okTe_either ?_)
    refine hf p e h al _ hp he hR fun h2 hf2 hp2 hs2 => ?_
    refine ite_f (show ¬ bI (f p).1 = 0 by rw [show bI (f p).1 = 1 from if_pos hk1]; decide) ?_
    refine loop 100 0 (true, (f p).2.1, (f p).2.2) h2 rfl rfl f2 ?_ hf2 (hR.of hf2 hp2 (hs2 hk1)) htot
    show (e ++ (f p).2.2).length ≤ (f p).2.1
    rw [List.length_append]
    omega
  · rw [if_neg hk1] at hK
    refine cof ocTe_either rfl (XW_t4 [12] 60 okTe_either ?_)
    refine hf p e h al _ hp he hR fun h2 hf2 hp2 hs2 => ?_
    refine ite_t (show bI (f p).1 = 0 from if_neg hk1) ?_
    exact ⟨Or.inl rfl, hK h2 hf2 hp2 fun q => by cases q⟩
set_option maxRecDepth 8000 in
theorem c_single (hch : ∀ p, N ≤ p → ch p = 0) (hN : N ≤ 100) : ∀ k : Nat, k ≤ 4 → ∀ d : Nat, CCf g (d + 3 * k + 6) ch N vn yTe_single [xi (4 - (k : Int))] (sgS ch k) := by
  intro k
  induction k with
  | zero =>
    intro _ d
    show CCf g (d + 6) ch N vn yTe_single [xi (4 - ((0 : Nat) : Int))] (sgS ch 0)
    intro p e h al K hp he hR hK
    unfold sgS at hK
    refine cof ocTe_single rfl (XW_t4 [17, 22] 60 okTe_single ?_)
    refine c_next hR ?_
    have k22 : (ch p = 33 ∨ ch p = 40) → XW g (d + 5) mTe_single K 22 [some (xr 40), some (xi (4 - ((0 : Nat) : Int))), some (xi (ch p))] [] h al := fun q => by
      rw [if_pos q] at hK
      refine XW_t4 [29] 40 okTe_single ?_
      exact ⟨Or.inl rfl, hK h FV.refl hR.2.2.2.1 fun q => by cases q⟩
    refine ite_i (fun q => ?_) (fun q => ?_)
    · exact k22 (Or.inl q)
    · refine ite_i (fun q2 => ?_) (fun q2 => ?_)
      · exact k22 (Or.inr q2)
      · rw [if_neg (fun q3 => q3.elim q q2)] at hK
        refine XW_t4 [] 40 okTe_single ?_
        refine c_test p e h al _ hp he hR fun h2 hf2 hp2 hs2 => ?_
        refine ⟨?_, hK h2 hf2 hp2 hs2⟩
        unfold bI
        split
        · exact Or.inr rfl
        · exact Or.inl rfl
  | succ k ih =>
    intro hk4 d
    have ihn := ih (by omega) (d + 2)
    have ih := ih (by omega) d
    rw [show d + 2 + 3 * k + 6 = d + 3 * k + 8 by omega] at ihn
    rw [show d + 3 * (k + 1) + 6 = d + 3 * k + 9 by omega]
    intro p e h al K hp he hR hK
    have hgd := sgS_ok hch hN k
    obtain ⟨hW, ⟨t1, t2, t3, t4, t5⟩, ⟨hv, e3⟩, e2, hs⟩ := id hR
    have v0 := hv.k.1
    have hR0 := hR
    have ea : wI (4 - ((k + 1 : Nat) : Int) + 1) = 4 - (k : Int) := by rw [wI_id (by omega)]; omega
    have ebo := c_both (g := g) (d := d + 3 * k + 1) (ch := ch) (N := N) (vn := vn) (b := wI (4 - ((k + 1 : Nat) : Int) + 1)) ea.symm hgd ih
    have eei := c_either (g := g) (d := d + 3 * k + 2) (ch := ch) (N := N) (vn := vn) (b := wI (4 - ((k + 1 : Nat) : Int) + 1)) rfl (boS_ok hch hN hgd).1 ebo
    rw [← ea] at ihn
    unfold sgS at hK
    have ey : ch p ≠ 0 → wI (h 40 2 + 1) = ((p + 1 : Nat) : Int) := fun q => by
      have := ch_lt t4 q
      rw [e2, nS p (by omega)]
    have hR1 : ch p ≠ 0 → RD ch N vn (uH h 40 2 (wI (h 40 2 + 1))) (p + 1) e := fun q => hR.of (FV.refl.up (Or.inl rfl)) (by rw [uH_at]; exact ey q) (hs.up hv)
    have hf1 : FV vn h (uH h 40 2 (wI (h 40 2 + 1))) := FV.refl.up (Or.inl rfl)
    obtain ⟨h0, rfl⟩ := hW
    refine cof ocTe_single rfl (XW_t4 [17, 22] 60 okTe_single ?_)
    refine c_next hR0 ?_
    refine ite_i (fun q => ?_) (fun q => ?_)
    · -- not
      have q40 : ¬ ch p = 40 := by omega
      rw [if_neg q40, if_pos q] at hK
      have hR1 := hR1 (by omega)
      have l1 := ch_lt t4 (p := p) (by omega)
      refine XW_t4 [83] 80 okTe_single ?_
      refine ite_t (by omega) ?_
      refine ite_f q40 ?_
      refine ihn (p + 1) e (uH (wr h0) 40 2 (wI (wr h0 40 2 + 1))) al _ (by omega) (by omega) hR1 fun h3 hf3 hp3 hs3 => ?_
      obtain ⟨i1, i2, i3⟩ := hgd (p + 1) (by omega)
      by_cases hk2 : (sgS ch k (p + 1)).1 = true
      · rw [if_pos hk2] at hK
        obtain ⟨j1, j2, j3⟩ := i3 hk2
        have hs3 := hs3 hk2
        have hR3 := hR1.of hf3 hp3 hs3
        obtain ⟨hW3, -, ⟨-, e33⟩, -, -⟩ := id hR3
        have hvf := hW3.vf hv
        refine ite_f (show ¬ bI (sgS ch k (p + 1)).1 = 0 by rw [show bI (sgS ch k (p + 1)).1 = 1 from if_pos hk2]; decide) ?_
        refine XW_getR okTe_single rfl rfl e33 ?_
        refine XW_t4 [] 40 okTe_single ?_
        refine cond_i (by show (Nat.beq (kd vn) 7 && _) = true; rw [v0]; rfl) ?_
        refine c_Vjoin (sg := (1, 0, 0, 0)) hvf hv hs3 (by rw [List.length_append]; omega) rfl fun h5 hf5 hp5 hs5 => ?_
        rw [List.append_assoc] at hs5
        exact ⟨Or.inr rfl, hK h5 ((hf1.trans hf3).trans hf5) (hp5.trans hp3) fun _ => hs5⟩
      · rw [if_neg hk2] at hK
        refine ite_t (show bI (sgS ch k (p + 1)).1 = 0 from if_neg hk2) ?_
        exact ⟨Or.inl rfl, hK h3 (hf1.trans hf3) hp3 fun q => by cases q⟩
    · refine ite_i (fun q2 => ?_) (fun q2 => ?_)
      · -- a bracket
        rw [if_pos q2] at hK
        have hR1 := hR1 (by omega)
        have l1 := ch_lt t4 (p := p) (by omega)
        refine XW_t4 [] 80 okTe_single ?_
        refine ite_t (by omega) ?_
        refine ite_t q2 ?_
        refine eei (p + 1) e (uH (wr h0) 40 2 (wI (wr h0 40 2 + 1))) al _ (by omega) (by omega) hR1 fun h3 hf3 hp3 hs3 => ?_
        obtain ⟨i1, i2, i3⟩ := (eiS_ok hch hN hgd).1 (p + 1) (by omega)
        by_cases hk2 : (eiS ch (sgS ch k) (p + 1)).1 = true
        · rw [if_pos hk2] at hK
          have hs3 := hs3 hk2
          have hR3 := hR1.of hf3 hp3 hs3
          refine ite_f (show ¬ bI (eiS ch (sgS ch k) (p + 1)).1 = 0 by rw [show bI (eiS ch (sgS ch k) (p + 1)).1 = 1 from if_pos hk2]; decide) ?_
          refine c_passes hR3 (by decide) (fun q3 h4 hf4 hp4 hs4 => ?_) (fun q3 => ?_)
          · rw [if_pos q3] at hK
            exact ⟨Or.inr rfl, hK h4 ((hf1.trans hf3).trans hf4) hp4 fun _ => hs4⟩
          · rw [if_neg q3] at hK
            exact ⟨Or.inl rfl, hK h3 (hf1.trans hf3) hp3 fun q => by cases q⟩
        · rw [if_neg hk2] at hK
          refine ite_t (show bI (eiS ch (sgS ch k) (p + 1)).1 = 0 from if_neg hk2) ?_
          exact ⟨Or.inl rfl, hK h3 (hf1.trans hf3) hp3 fun q => by cases q⟩
      · rw [if_neg q2, if_neg q] at hK
        refine XW_t4 [] 40 okTe_single ?_
        refine c_test (g := g) (d := d + 3 * k + 3) p e (wr h0) al _ hp he hR0 fun h2 hf2 hp2 hs2 => ?_
        refine ⟨?_, hK h2 hf2 hp2 hs2⟩
        unfold bI
        split
        · exact Or.inr rfl
        · exact Or.inl rfl
end RE2
