-- the reference reads an E: its one loop
section EM
variable {g : GC} {d : Nat} {hb : HH} {al : AL} {K : KT} {ch : Nat → Int} {N q f v0 : Nat}
def HD (g : GC) (d : Nat) (K : KT) (N q f v0 : Nat) (hb : HH) (al : AL) (w : Int) (W : List Int) (p : Nat) (e : List Sg) : Prop := v0 + e.length + W.length ≤ p → p ≤ N → ∀ (h2 : HH) (x3 : Option XV), MR q (100 * f + v0) hb h2 p W e → XW g (d + 4) mMo_takesE K 22 [some (xr 120), some (xi (q : Int)), some (xi w), x3] [] h2 al
def FLd (K : KT) (q f v0 : Nat) (hb : HH) (al : AL) (p : Nat) : Prop := ∀ h2 : HH, Wd h2 → FE q (100 * f + v0) hb h2 → h2 120 19 = (p : Int) → K (some (xi 0)) h2 al
def END (K : KT) (q f v0 : Nat) (hb : HH) (al : AL) (p : Nat) (e : List Sg) : Prop := ∀ h2 : HH, MR q (100 * f + v0) hb h2 p [] e → h2 135 q = ((100 * f + v0 + e.length : Nat) : Int) → K (some (xi 1)) h2 al
theorem MR.push {s0 p : Nat} {h h2 : HH} {W : List Int} {e : List Sg} {c : Int} (hm : MR q s0 hb h p W e) (hf : ∀ a k, ¬ (a = 120 ∧ (k = 19 ∨ k = 30 ∨ k = 31)) → ¬ (a = 137 ∧ k = W.length) → h2 a k = h a k) (h19 : h2 120 19 = ((p + 1 : Nat) : Int)) (h30 : h2 120 30 = ((W.length + 1 : Nat) : Int)) (h31 : h2 120 31 = (opn (c :: W) : Int)) (h137 : h2 137 W.length = c) : MR q s0 hb h2 (p + 1) (c :: W) e := by
  obtain ⟨m1, m2, m3, m4, ⟨m5, m6⟩, m7, m8⟩ := hm
  refine ⟨?_, m2.trans fun a k e1 e2 e3 e4 => hf a k (by omega) (by omega), h19, (hf _ _ (by omega) (by omega)).trans m4, ⟨h30, h31⟩, ⟨h137, m7.fr fun i hi => hf _ _ (by omega) (by omega)⟩, fun j hj => (hf _ _ (by omega) (by omega)).trans (m8 j hj)⟩
  exact m1.of fun a k hk => hf a k (by rintro ⟨rfl, rfl | rfl | rfl⟩ <;> exact hk (by decide)) (by rintro ⟨rfl, -⟩; exact hk (by show (-9 : Int) < 0; decide))
section EM1
variable {p : Nat} {W : List Int} {e : List Sg}
set_option maxRecDepth 8000 in
theorem E_push (hT : TXm ch N hb) (hc : ch p = 33 ∨ ch p = 40) (ho : opn W < 4) (hk : HD g d K N q f v0 hb al 1 (ch p :: W) (p + 1) e) : HD g d K N q f v0 hb al 1 W p e := by
  intro hl hp h2 x3 hm
  obtain ⟨m1, m2, m3, m4, ⟨m5, m6⟩, m7, m8⟩ := id hm
  have hN := hT.2.1
  have l1 := ch_lt hT.2.2.2 (p := p) (by omega)
  have hTh := hT.fe m2
  have hW2 := m1
  have e31 : opn (ch p :: W) = opn W + 1 := by
    show (if ch p = 33 ∨ ch p = 40 then 1 else 0) + opn W = _
    rw [if_pos hc]
    omega
  have key : ∀ h5 : HH, (∀ a k, ¬ (a = 120 ∧ (k = 19 ∨ k = 30 ∨ k = 31)) → ¬ (a = 137 ∧ k = W.length) → h5 a k = h2 a k) → h5 120 19 = wI (h2 120 19 + 1) → h5 120 30 = wI (h2 120 30 + 1) → h5 120 31 = wI (h2 120 31 + 1) → h5 137 W.length = ch p → ∀ x : Option XV, XW g (d + 4) mMo_takesE K 22 [some (xr 120), some (xi (q : Int)), some (xi 1), x] [] h5 al := fun h5 q1 q2 q3 q4 q5 x => hk (by rw [List.length_cons]; omega) (by omega) h5 x (hm.push q1 (by rw [q2, m3, nS _ (by omega)]) (by rw [q3, m5, nS _ (by omega)]) (by rw [q4, m6, nS _ (by omega), e31]) q5)
  have k43 : ∀ r : Int, r = ch p → XW g (d + 4) mMo_takesE K 43 [some (xr 120), some (xi (q : Int)), some (xi 1), some (xi r)] [] h2 al := by
    intro r er
    subst er
    have lW : W.length < 101 := by omega
    obtain ⟨h2', rfl⟩ := m1
    refine XW_t4 [22] 80 okMo_takesE ?_
    refine ite_f (show ¬ wr h2' 120 31 = 4 by rw [m6]; omega) ?_
    refine ⟨W.length, m5, by show W.length < 101; exact lW, ?_⟩
    refine key (uH (uH (uH (uH (wr h2') 120 31 _) 137 W.length _) 120 30 _) 120 19 _) (fun a k q1 q2 => ?_) ?_ ?_ ?_ ?_ _
    · rw [uH_ne (by omega), uH_ne (by omega), uH_ne (by omega), uH_ne (by omega)]
    · rw [uH_at]
      rfl
    · rw [uH_ne (by omega), uH_at]
      rfl
    · rw [uH_ne (by omega), uH_ne (by omega), uH_ne (by omega), uH_at]
    · rw [uH_ne (by omega), uH_ne (by omega), uH_at]
  obtain ⟨h2', rfl⟩ := m1
  refine XW_t4 [22, 43, 96] 80 okMo_takesE ?_
  refine c_Mnext hW2 hTh m3 fun r hr => ?_
  have er : r = ch p := by unfold nxr at hr; omega
  refine ite_i (fun q1 => ?_) (fun q1 => ?_)
  · exact k43 r er
  · refine ite_i (fun q2 => ?_) (fun q2 => ?_)
    · exact k43 r er
    · have q1 : ¬ r = 33 := q1
      have q2 : ¬ r = 40 := q2
      omega
set_option maxRecDepth 8000 in
theorem E_full (hT : TXm ch N hb) (hc : ch p = 33 ∨ ch p = 40) (ho : opn W = 4) (hk : FLd K q f v0 hb al p) : HD g d K N q f v0 hb al 1 W p e := by
  intro hl hp h2 x3 hm
  obtain ⟨m1, m2, m3, m4, ⟨m5, m6⟩, m7, m8⟩ := id hm
  have hTh := hT.fe m2
  have hW2 := m1
  have fin := hk h2 m1 m2 m3
  have k43 : ∀ r : Int, XW g (d + 4) mMo_takesE K 43 [some (xr 120), some (xi (q : Int)), some (xi 1), some (xi r)] [] h2 al := by
    intro r
    obtain ⟨h2', rfl⟩ := m1
    refine XW_t4 [53] 80 okMo_takesE ?_
    refine ite_t (show wr h2' 120 31 = 4 by rw [m6, ho]; rfl) ?_
    exact ⟨Or.inl rfl, fin⟩
  obtain ⟨h2', rfl⟩ := m1
  refine XW_t4 [22, 43, 96] 80 okMo_takesE ?_
  refine c_Mnext hW2 hTh m3 fun r hr => ?_
  have er : r = ch p := by unfold nxr at hr; omega
  refine ite_i (fun q1 => ?_) (fun q1 => ?_)
  · exact k43 r
  · refine ite_i (fun q2 => ?_) (fun q2 => ?_)
    · exact k43 r
    · have q1 : ¬ r = 33 := q1
      have q2 : ¬ r = 40 := q2
      omega
set_option maxRecDepth 8000 in
theorem E_test (hT : TXm ch N hb) (hf4 : f ≤ 4) (hc : ¬ (ch p = 33 ∨ ch p = 40)) (hok : (teS ch p).1 = true → HD g d K N q f v0 hb al 0 (stp W) (teS ch p).2.1 ((e ++ (teS ch p).2.2) ++ nts W)) (hno : (teS ch p).1 = false → FLd K q f v0 hb al (teS ch p).2.1) : HD g d K N q f v0 hb al 1 W p e := by
  intro hl hp h2 x3 hm
  obtain ⟨m1, m2, m3, m4, ⟨m5, m6⟩, m7, m8⟩ := id hm
  have hTh := hT.fe m2
  have hW2 := m1
  have hm2 := hm
  obtain ⟨a1, a2, a3⟩ := teS_ok hT.2.2.2 p hp
  have k96 : ∀ r : Int, XW g (d + 4) mMo_takesE K 96 [some (xr 120), some (xi (q : Int)), some (xi 1), some (xi r)] [] h2 al := by
    intro r
    obtain ⟨h2', rfl⟩ := m1
    refine XW_t4 [22] 80 okMo_takesE ?_
    refine c_takesTest hT hf4 hl hp hm2 (fun q1 h3 hm3 => ?_) (fun q1 h3 w1 w2 w3 => ?_)
    · obtain ⟨b1, b2, -⟩ := a3 q1
      refine hok q1 ?_ a2 h3 _ hm3
      have := stp_len W
      rw [List.length_append, List.length_append]
      omega
    · exact ⟨Or.inl rfl, hno q1 h3 w1 w2 w3⟩
  obtain ⟨h2', rfl⟩ := m1
  refine XW_t4 [22, 43, 96] 80 okMo_takesE ?_
  refine c_Mnext hW2 hTh m3 fun r hr => ?_
  have er : ¬ r = 33 ∧ ¬ r = 40 := by unfold nxr at hr; omega
  refine ite_f er.1 ?_
  refine ite_f er.2 ?_
  exact k96 r
set_option maxRecDepth 8000 in
theorem E_op {b : Int} (hT : TXm ch N hb) (hf4 : f ≤ 4) (hc : ch p = b) (hb2 : b = 38 ∨ b = 124) (hk : HD g d K N q f v0 hb al 1 (b :: stW b W) (p + 1) (e ++ stO b W)) : HD g d K N q f v0 hb al 0 W p e := by
  intro hl hp h2 x3 hm
  obtain ⟨m1, m2, m3, m4, ⟨m5, m6⟩, m7, m8⟩ := id hm
  have hN := hT.2.1
  have l1 := ch_lt hT.2.2.2 (p := p) (by omega)
  have hTh := hT.fe m2
  have hW2 := m1
  have hm2 := hm
  have hsl := stW_len b W
  have e31 : opn (b :: stW b W) = opn (stW b W) := by
    show (if b = 33 ∨ b = 40 then 1 else 0) + opn (stW b W) = _
    rw [if_neg (by omega)]
    omega
  have k122 : ∀ r : Int, r = b → XW g (d + 4) mMo_takesE K 122 [some (xr 120), some (xi (q : Int)), some (xi 0), some (xi r)] [] h2 al := by
    intro r er
    subst er
    refine XW_t4 [22] 100 okMo_takesE ?_
    refine c_settle (by omega) hm2 fun h3 hm3 => ?_
    obtain ⟨w1, w2, w3, w4, ⟨w5, w6⟩, -⟩ := id hm3
    have lW : (stW r W).length < 101 := by omega
    have key : ∀ h5 : HH, (∀ a k, ¬ (a = 120 ∧ (k = 19 ∨ k = 30 ∨ k = 31)) → ¬ (a = 137 ∧ k = (stW r W).length) → h5 a k = h3 a k) → h5 120 19 = wI (h3 120 19 + 1) → h5 120 30 = wI (h3 120 30 + 1) → h5 120 31 = h3 120 31 → h5 137 (stW r W).length = r → ∀ x : Option XV, XW g (d + 4) mMo_takesE K 22 [some (xr 120), some (xi (q : Int)), some (xi 1), x] [] h5 al := fun h5 q1 q2 q3 q4 q5 x => hk (by rw [List.length_append, List.length_cons]; omega) (by omega) h5 x (hm3.push q1 (by rw [q2, w3, nS _ (by omega)]) (by rw [q3, w5, nS _ (by omega)]) (by rw [q4, w6, e31]) q5)
    obtain ⟨h3', rfl⟩ := w1
    refine ⟨(stW r W).length, w5, by show (stW r W).length < 101; exact lW, ?_⟩
    refine key (uH (uH (uH (wr h3') 137 (stW r W).length _) 120 30 _) 120 19 _) (fun a k q1 q2 => ?_) ?_ ?_ ?_ ?_ _
    · rw [uH_ne (by omega), uH_ne (by omega), uH_ne (by omega)]
    · rw [uH_at]
      rfl
    · rw [uH_ne (by omega), uH_at]
      rfl
    · rw [uH_ne (by omega), uH_ne (by omega), uH_ne (by omega)]
    · rw [uH_ne (by omega), uH_ne (by omega), uH_at]
  obtain ⟨h2', rfl⟩ := m1
  refine XW_t4 [22, 122, 162] 80 okMo_takesE ?_
  refine c_Mnext hW2 hTh m3 fun r hr => ?_
  have er : r = b := by unfold nxr at hr; omega
  refine ite_i (fun q1 => ?_) (fun q1 => ?_)
  · exact k122 r er
  · refine ite_i (fun q2 => ?_) (fun q2 => ?_)
    · exact k122 r er
    · have q1 : ¬ r = 38 := q1
      have q2 : ¬ r = 124 := q2
      omega
theorem MR.to {s0 : Nat} {h : HH} {z : Int} (hm : MR q s0 hb h p W e) : MR q s0 hb (uH h 135 q z) p W e := by
  obtain ⟨m1, m2, m3, m4, ⟨m5, m6⟩, m7, m8⟩ := hm
  have u : ∀ a k, a ≠ 135 → uH h 135 q z a k = h a k := fun a k e => uH_ne fun q => e q.1
  exact ⟨m1.upA rfl, m2.up (by omega), (u _ _ (by decide)).trans m3, (u _ _ (by decide)).trans m4, ⟨(u _ _ (by decide)).trans m5, (u _ _ (by decide)).trans m6⟩, m7.fr fun i _ => u _ _ (by decide), fun j hj => (u _ _ (by decide)).trans (m8 j hj)⟩
set_option maxRecDepth 8000 in
theorem E_end (hT : TXm ch N hb) (hf4 : f ≤ 4) (hq : q < 50) (hc : ¬ ch p = 38 ∧ ¬ ch p = 124) (hs : stW 124 W = []) (hk : END K q f v0 hb al p (e ++ stO 124 W)) : HD g d K N q f v0 hb al 0 W p e := by
  intro hl hp h2 x3 hm
  obtain ⟨m1, m2, m3, m4, ⟨m5, m6⟩, m7, m8⟩ := id hm
  have hN := hT.2.1
  have hTh := hT.fe m2
  have hW2 := m1
  have hm2 := hm
  have k162 : ∀ r : Int, XW g (d + 4) mMo_takesE K 162 [some (xr 120), some (xi (q : Int)), some (xi 0), some (xi r)] [] h2 al := by
    intro r
    refine XW_t4 [187] 100 okMo_takesE ?_
    refine c_settle (by omega) hm2 fun h3 hm3 => ?_
    rw [hs] at hm3
    obtain ⟨w1, w2, w3, w4, ⟨w5, w6⟩, -⟩ := id hm3
    have fin := hk (uH h3 135 q (h3 120 29)) hm3.to (by rw [uH_at]; exact w4)
    obtain ⟨h3', rfl⟩ := w1
    refine ⟨q, rfl, by show q < 50; exact hq, ?_⟩
    refine ite_t (show uH (wr h3') 135 q (wr h3' 120 29) 120 30 = 0 from w5) ?_
    exact ⟨Or.inr rfl, fin⟩
  obtain ⟨h2', rfl⟩ := m1
  refine XW_t4 [22, 122, 162] 80 okMo_takesE ?_
  refine c_Mnext hW2 hTh m3 fun r hr => ?_
  have er : ¬ r = 38 ∧ ¬ r = 124 := by unfold nxr at hr; omega
  refine ite_f er.1 ?_
  refine ite_f er.2 ?_
  exact k162 r
set_option maxRecDepth 8000 in
theorem E_close {W2 : List Int} (hT : TXm ch N hb) (hf4 : f ≤ 4) (hq : q < 50) (hc : ¬ ch p = 38 ∧ ¬ ch p = 124) (hs : stW 124 W = 40 :: W2) (hok : ch p = 41 → HD g d K N q f v0 hb al 0 (stp W2) (p + 1) ((e ++ stO 124 W) ++ nts W2)) (hno : ch p ≠ 41 → FLd K q f v0 hb al p) : HD g d K N q f v0 hb al 0 W p e := by
  intro hl hp h2 x3 hm
  obtain ⟨m1, m2, m3, m4, ⟨m5, m6⟩, m7, m8⟩ := id hm
  have hN := hT.2.1
  have hTh := hT.fe m2
  have hW2 := m1
  have hm2 := hm
  have hsl := stW_len 124 W
  rw [hs, List.length_cons] at hsl
  have hs2 := stp_len W2
  have k162 : ∀ r : Int, nxr r (ch p) → XW g (d + 4) mMo_takesE K 162 [some (xr 120), some (xi (q : Int)), some (xi 0), some (xi r)] [] h2 al := by
    intro r hr
    refine XW_t4 [22, 195] 100 okMo_takesE ?_
    refine c_settle (by omega) hm2 fun h3 hm3 => ?_
    rw [hs] at hm3
    have hm4 := hm3.to (z := h3 120 29)
    obtain ⟨w1, w2, w3, w4, ⟨w5, w6⟩, w7, -⟩ := id hm4
    rw [List.length_cons] at w5
    have eo : opn (40 :: W2) = opn W2 + 1 := by
      show (if (40 : Int) = 33 ∨ (40 : Int) = 40 then 1 else 0) + opn W2 = _
      rw [if_pos (by decide)]
      omega
    rw [eo] at w6
    have hop := opn_le W2
    have k195 : ch p = 41 → XW g (d + 4) mMo_takesE K 195 [some (xr 120), some (xi (q : Int)), some (xi 0), some (xi r)] [] (uH h3 135 q (h3 120 29)) al := by
      intro q41
      have l1 := ch_lt hT.2.2.2 (p := p) (by omega)
      generalize uH h3 135 q (h3 120 29) = h4 at hm4 w1 w3 w5 w6 ⊢
      have hm5 : MR q (100 * f + v0) hb (uH (uH (uH h4 120 30 (wI (h4 120 30 - 1))) 120 31 (wI (h4 120 31 - 1))) 120 19 (wI (h4 120 19 + 1))) (p + 1) W2 (e ++ stO 124 W) := (hm4.pop (by rw [w5, wI_id (by omega)]; omega) (by rw [w6, wI_id (by omega)]; omega)).fn (FN.refl.up (Or.inl rfl)) (by rw [uH_at, w3, nS _ (by omega)])
      obtain ⟨h4', rfl⟩ := w1
      refine XW_t4 [22] 100 okMo_takesE ?_
      refine c_whole (h := uH (uH (uH (wr h4') 120 30 (wI (wr h4' 120 30 - 1))) 120 31 (wI (wr h4' 120 31 - 1))) 120 19 (wI (wr h4' 120 19 + 1))) (by rw [List.length_append]; omega) hm5 fun h6 hm6 => ?_
      exact hok q41 (by rw [List.length_append, List.length_append]; omega) (by omega) h6 _ hm6
    have w1' : Wd h3 := hm3.1
    have fin := fun q41 => hno q41 (uH h3 135 q (h3 120 29)) w1 w2 w3
    obtain ⟨h3', rfl⟩ := w1'
    refine ⟨q, rfl, by show q < 50; exact hq, ?_⟩
    refine ite_f (show ¬ uH (wr h3') 135 q (wr h3' 120 29) 120 30 = 0 by rw [w5]; omega) ?_
    refine ite_i (fun q1 => ?_) (fun q1 => ?_)
    · have q1 : r = 41 := q1
      exact k195 (by unfold nxr at hr; omega)
    · have q1 : ¬ r = 41 := q1
      exact ⟨Or.inl rfl, fin (by unfold nxr at hr; omega)⟩
  obtain ⟨h2', rfl⟩ := m1
  refine XW_t4 [22, 122, 162] 80 okMo_takesE ?_
  refine c_Mnext hW2 hTh m3 fun r hr => ?_
  have er : ¬ r = 38 ∧ ¬ r = 124 := by unfold nxr at hr; omega
  refine ite_f er.1 ?_
  refine ite_f er.2 ?_
  exact k162 r hr
end EM1
-- the loop as a reader
def tpB (W : List Int) : Prop := stp W = W ∧ nts W = [] ∧ stW 38 W = W ∧ stO 38 W = []
/-- a reader of a SINGLE, as the loop goes -/
def EMs (g : GC) (d : Nat) (K : KT) (N q f v0 : Nat) (hb : HH) (al : AL) (k : Nat) (F : Nat → PR) : Prop := ∀ (W : List Int) (p : Nat) (e : List Sg), opn W + k = 4 → p ≤ N → ((F p).1 = true → HD g d K N q f v0 hb al 0 (stp W) (F p).2.1 ((e ++ (F p).2.2) ++ nts W)) → ((F p).1 = false → FLd K q f v0 hb al (F p).2.1) → HD g d K N q f v0 hb al 1 W p e
theorem tp_cons {c : Int} {W : List Int} (h1 : c ≠ 33) (h2 : c ≠ 38) : tpB (c :: W) := by
  refine ⟨?_, ?_, ?_, ?_⟩
  · show (if c = 33 then stp W else c :: W) = _
    rw [if_neg h1]
  · show (if c = 33 then (1, 0, 0, 0) :: nts W else []) = _
    rw [if_neg h1]
  · show (if c = 38 ∨ (c = 124 ∧ (38 : Int) ≠ 38) then stW 38 W else c :: W) = _
    rw [if_neg (fun q => q.elim h2 (fun q => q.2 rfl))]
  · show (if c = 38 ∨ (c = 124 ∧ (38 : Int) ≠ 38) then opS c :: stO 38 W else []) = _
    rw [if_neg (fun q => q.elim h2 (fun q => q.2 rfl))]
theorem bfl {b : Bool} (h : ¬ b = true) : b = false := by
  cases b with
  | true => exact absurd rfl h
  | false => rfl
theorem E_both {k : Nat} {F : Nat → PR} {bd : Nat} (hT : TXm ch N hb) (hf4 : f ≤ 4) (hgd : gdF N bd F) (hs : EMs g d K N q f v0 hb al k F) {W : List Int} {p : Nat} {e : List Sg} (ho : opn W + k = 4) (hp : p ≤ N) (hW : tpB W)
    (hok : (boS ch F p).1 = true → ∀ W2 e1, stW 38 W2 = W → e1 ++ stO 38 W2 = e ++ (boS ch F p).2.2 → (W2 = W ∨ W2 = 38 :: W) → HD g d K N q f v0 hb al 0 W2 (boS ch F p).2.1 e1) (hno : (boS ch F p).1 = false → FLd K q f v0 hb al (boS ch F p).2.1) : HD g d K N q f v0 hb al 1 W p e := by
  obtain ⟨w1, w2, w3, w4⟩ := hW
  unfold boS at hok hno
  have o38 : opn (38 :: W) = opn W := by
    show (if (38 : Int) = 33 ∨ (38 : Int) = 40 then 1 else 0) + opn W = _
    rw [if_neg (by decide)]
    omega
  obtain ⟨f1, f2, f3⟩ := hgd p hp
  refine hs W p e ho hp (fun h1 => ?_) (fun h1 => ?_)
  · rw [if_pos h1] at hok hno
    rw [w1, w2, List.append_nil]
    generalize htot : lpS ch F 38 (2, 0, 0, 0) 100 (true, (F p).2.1, (F p).2.2) = tot at hok hno
    have loop : ∀ (n : Nat) (r : PR) (W2 : List Int) (e1 : List Sg), r.1 = true → r.2.1 ≤ N → stW 38 W2 = W → e1 ++ stO 38 W2 = e ++ r.2.2 → (W2 = W ∨ W2 = 38 :: W) → lpS ch F 38 (2, 0, 0, 0) n r = tot → HD g d K N q f v0 hb al 0 W2 r.2.1 e1 := by
      intro n
      induction n with
      | zero =>
        intro r W2 e1 hr hrN s1 s2 s3 ht
        have ht : r = tot := ht
        subst ht
        exact hok hr W2 e1 s1 s2 s3
      | succ n ih =>
        intro r W2 e1 hr hrN s1 s2 s3 ht
        have ht : (if ch r.2.1 = 38 then (if (F (r.2.1 + 1)).1 = true then lpS ch F 38 (2, 0, 0, 0) n (true, (F (r.2.1 + 1)).2.1, r.2.2 ++ (F (r.2.1 + 1)).2.2 ++ [(2, 0, 0, 0)]) else (false, (F (r.2.1 + 1)).2.1, [])) else r) = tot := ht
        by_cases q1 : ch r.2.1 = 38
        · rw [if_pos q1] at ht
          have l1 := ch_lt hT.2.2.2 (p := r.2.1) (by rw [q1]; decide)
          obtain ⟨i1, i2, i3⟩ := hgd (r.2.1 + 1) (by omega)
          refine E_op hT hf4 q1 (Or.inl rfl) ?_
          rw [s1, s2]
          refine hs (38 :: W) (r.2.1 + 1) (e ++ r.2.2) (by omega) (by omega) (fun q2 => ?_) (fun q2 => ?_)
          · rw [if_pos q2] at ht
            have e38 : stp (38 :: W) = 38 :: W := by
              show (if (38 : Int) = 33 then stp W else 38 :: W) = _
              rw [if_neg (by decide)]
            have n38 : nts (38 :: W) = [] := by
              show (if (38 : Int) = 33 then (1, 0, 0, 0) :: nts W else []) = _
              rw [if_neg (by decide)]
            rw [e38, n38, List.append_nil]
            refine ih (true, (F (r.2.1 + 1)).2.1, r.2.2 ++ (F (r.2.1 + 1)).2.2 ++ [(2, 0, 0, 0)]) (38 :: W) _ rfl i2 ?_ ?_ (Or.inr rfl) ht
            · show (if (38 : Int) = 38 ∨ ((38 : Int) = 124 ∧ (38 : Int) ≠ 38) then stW 38 W else 38 :: W) = W
              rw [if_pos (Or.inl rfl), w3]
            · have : stO 38 (38 :: W) = [(2, 0, 0, 0)] := by
                show (if (38 : Int) = 38 ∨ ((38 : Int) = 124 ∧ (38 : Int) ≠ 38) then opS 38 :: stO 38 W else []) = _
                rw [if_pos (Or.inl rfl), w4]
                rfl
              rw [this]
              simp only [List.append_assoc]
          · rw [if_neg (by rw [q2]; decide)] at ht
            subst ht
            exact hno rfl
        · rw [if_neg q1] at ht
          subst ht
          exact hok hr W2 e1 s1 s2 s3
    refine loop 100 (true, (F p).2.1, (F p).2.2) W _ rfl f2 w3 ?_ (Or.inl rfl) htot
    rw [w4, List.append_nil]
  · rw [if_neg (by rw [h1]; decide)] at hno
    exact hno rfl
/-- a reader of an EITHER in brackets, or of all -/
theorem E_either {k : Nat} {F : Nat → PR} {bd : Nat} (hT : TXm ch N hb) (hf4 : f ≤ 4) (hgd : gdF N bd F) (hs : EMs g d K N q f v0 hb al k F) {W : List Int} {p : Nat} {e : List Sg} (ho : opn W + k = 4) (hp : p ≤ N) (hW : W = [] ∨ ∃ W', W = 40 :: W')
    (hok : (eiS ch F p).1 = true → ∀ W2 e1, stW 124 W2 = W → e1 ++ stO 124 W2 = e ++ (eiS ch F p).2.2 → HD g d K N q f v0 hb al 0 W2 (eiS ch F p).2.1 e1) (hno : (eiS ch F p).1 = false → FLd K q f v0 hb al (eiS ch F p).2.1) : HD g d K N q f v0 hb al 1 W p e := by
  have hN := hT.2.1
  have hgb := (boS_ok hT.2.2.2 hN hgd).1
  have htp : tpB W := by
    rcases hW with rfl | ⟨W', rfl⟩
    · exact ⟨rfl, rfl, rfl, rfl⟩
    · exact tp_cons (by decide) (by decide)
  have s124 : stW 124 W = W ∧ stO 124 W = [] := by
    rcases hW with rfl | ⟨W', rfl⟩
    · exact ⟨rfl, rfl⟩
    · refine ⟨?_, ?_⟩
      · show (if (40 : Int) = 38 ∨ ((40 : Int) = 124 ∧ (124 : Int) ≠ 38) then stW 124 W' else 40 :: W') = _
        rw [if_neg (by decide)]
      · show (if (40 : Int) = 38 ∨ ((40 : Int) = 124 ∧ (124 : Int) ≠ 38) then opS 40 :: stO 124 W' else []) = _
        rw [if_neg (by decide)]
  have a38 : ∀ X : List Int, stW 124 (38 :: X) = stW 124 X ∧ stO 124 (38 :: X) = (2, 0, 0, 0) :: stO 124 X := fun X => by
    refine ⟨?_, ?_⟩
    · show (if (38 : Int) = 38 ∨ ((38 : Int) = 124 ∧ (124 : Int) ≠ 38) then stW 124 X else 38 :: X) = _
      rw [if_pos (Or.inl rfl)]
    · show (if (38 : Int) = 38 ∨ ((38 : Int) = 124 ∧ (124 : Int) ≠ 38) then opS 38 :: stO 124 X else []) = _
      rw [if_pos (Or.inl rfl)]
      rfl
  have a124 : ∀ X : List Int, stW 124 (124 :: X) = stW 124 X ∧ stO 124 (124 :: X) = (3, 0, 0, 0) :: stO 124 X := fun X => by
    refine ⟨?_, ?_⟩
    · show (if (124 : Int) = 38 ∨ ((124 : Int) = 124 ∧ (124 : Int) ≠ 38) then stW 124 X else 124 :: X) = _
      rw [if_pos (by decide)]
    · show (if (124 : Int) = 38 ∨ ((124 : Int) = 124 ∧ (124 : Int) ≠ 38) then opS 124 :: stO 124 X else []) = _
      rw [if_pos (by decide)]
      rfl
  have b38 : ∀ X : List Int, stO 38 (38 :: X) = (2, 0, 0, 0) :: stO 38 X := fun X => by
    show (if (38 : Int) = 38 ∨ ((38 : Int) = 124 ∧ (38 : Int) ≠ 38) then opS 38 :: stO 38 X else []) = _
    rw [if_pos (Or.inl rfl)]
    rfl
  -- what a BOTH leaves, for the sign that ends it
  have conv : ∀ (X W2 : List Int) (e1 E : List Sg), stO 38 X = [] → (W2 = X ∨ W2 = 38 :: X) → e1 ++ stO 38 W2 = E → stW 124 W2 = stW 124 X ∧ e1 ++ stO 124 W2 = E ++ stO 124 X := by
    intro X W2 e1 E hX hW2 he
    rcases hW2 with rfl | rfl
    · rw [hX, List.append_nil] at he
      rw [he]
      exact ⟨rfl, rfl⟩
    · rw [b38, hX] at he
      rw [(a38 X).1, (a38 X).2, ← he]
      refine ⟨rfl, ?_⟩
      simp only [List.append_assoc, List.cons_append, List.nil_append]
  unfold eiS at hok hno
  obtain ⟨f1, f2, f3⟩ := hgb p hp
  refine E_both hT hf4 hgd hs ho hp htp (fun h1 W2 e1 t1 t2 t3 => ?_) (fun h1 => ?_)
  · rw [if_pos h1] at hok hno
    generalize htot : lpS ch (boS ch F) 124 (3, 0, 0, 0) 100 (true, (boS ch F p).2.1, (boS ch F p).2.2) = tot at hok hno
    have loop : ∀ (n : Nat) (r : PR) (W2 : List Int) (e1 : List Sg), r.1 = true → r.2.1 ≤ N → stW 124 W2 = W → e1 ++ stO 124 W2 = e ++ r.2.2 → lpS ch (boS ch F) 124 (3, 0, 0, 0) n r = tot → HD g d K N q f v0 hb al 0 W2 r.2.1 e1 := by
      intro n
      induction n with
      | zero =>
        intro r W2 e1 hr hrN s1 s2 ht
        have ht : r = tot := ht
        subst ht
        exact hok hr W2 e1 s1 s2
      | succ n ih =>
        intro r W2 e1 hr hrN s1 s2 ht
        have ht : (if ch r.2.1 = 124 then (if (boS ch F (r.2.1 + 1)).1 = true then lpS ch (boS ch F) 124 (3, 0, 0, 0) n (true, (boS ch F (r.2.1 + 1)).2.1, r.2.2 ++ (boS ch F (r.2.1 + 1)).2.2 ++ [(3, 0, 0, 0)]) else (false, (boS ch F (r.2.1 + 1)).2.1, [])) else r) = tot := ht
        by_cases q1 : ch r.2.1 = 124
        · rw [if_pos q1] at ht
          have l1 := ch_lt hT.2.2.2 (p := r.2.1) (by rw [q1]; decide)
          obtain ⟨i1, i2, i3⟩ := hgb (r.2.1 + 1) (by omega)
          refine E_op hT hf4 q1 (Or.inr rfl) ?_
          rw [s1, s2]
          have o124 : opn (124 :: W) = opn W := by
            show (if (124 : Int) = 33 ∨ (124 : Int) = 40 then 1 else 0) + opn W = _
            rw [if_neg (by decide)]
            omega
          refine E_both hT hf4 hgd hs (by omega) (by omega) (tp_cons (by decide) (by decide)) (fun q2 W3 e3 u1 u2 u3 => ?_) (fun q2 => ?_)
          · rw [if_pos q2] at ht
            obtain ⟨c1, c2⟩ := conv (124 :: W) W3 e3 _ (tp_cons (by decide) (by decide)).2.2.2 u3 u2
            rw [(a124 W).1, s124.1] at c1
            rw [(a124 W).2, s124.2] at c2
            refine ih (true, (boS ch F (r.2.1 + 1)).2.1, r.2.2 ++ (boS ch F (r.2.1 + 1)).2.2 ++ [(3, 0, 0, 0)]) W3 e3 rfl i2 c1 ?_ ht
            rw [c2]
            simp only [List.append_assoc]
          · rw [if_neg (by rw [q2]; decide)] at ht
            subst ht
            exact hno rfl
        · rw [if_neg q1] at ht
          subst ht
          exact hok hr W2 e1 s1 s2
    obtain ⟨c1, c2⟩ := conv W W2 e1 _ htp.2.2.2 t3 t2
    rw [s124.1] at c1
    rw [s124.2, List.append_nil] at c2
    exact loop 100 (true, (boS ch F p).2.1, (boS ch F p).2.2) W2 e1 rfl f2 c1 c2 htot
  · rw [if_neg (by rw [h1]; decide)] at hno
    exact hno rfl
theorem E_single (hT : TXm ch N hb) (hf4 : f ≤ 4) (hq : q < 50) : ∀ k : Nat, k ≤ 4 → EMs g d K N q f v0 hb al k (sgS ch k) := by
  intro k
  induction k with
  | zero =>
    intro _ W p e ho hp hok hno
    unfold sgS at hok hno
    by_cases h1 : ch p = 33 ∨ ch p = 40
    · rw [if_pos h1] at hno
      exact E_full hT h1 (by omega) (hno rfl)
    · rw [if_neg h1] at hok hno
      exact E_test hT hf4 h1 hok hno
  | succ k ih =>
    intro hk W p e ho hp hok hno
    have ih := ih (by omega)
    have hN := hT.2.1
    have hgd := sgS_ok hT.2.2.2 hN k
    unfold sgS at hok hno
    by_cases h1 : ch p = 40
    · rw [if_pos h1] at hok hno
      have l1 := ch_lt hT.2.2.2 (p := p) (by omega)
      refine E_push hT (Or.inr h1) (by omega) ?_
      rw [h1]
      have o40 : opn (40 :: W) = opn W + 1 := by
        show (if (40 : Int) = 33 ∨ (40 : Int) = 40 then 1 else 0) + opn W = _
        rw [if_pos (by decide)]
        omega
      refine E_either hT hf4 hgd ih (by omega) (by omega) (Or.inr ⟨W, rfl⟩) (fun h2 W2 e1 s1 s2 => ?_) (fun h2 => ?_)
      · rw [if_pos h2] at hok hno
        obtain ⟨c1, c2⟩ := (eiS_ok hT.2.2.2 hN hgd).2 (p + 1) (by omega) h2
        refine E_close hT hf4 hq ⟨c2, c1⟩ s1 (fun h3 => ?_) (fun h3 => ?_)
        · rw [if_pos h3] at hok
          rw [s2]
          exact hok rfl
        · rw [if_neg h3] at hno
          exact hno rfl
      · rw [if_neg (by rw [h2]; decide)] at hno
        exact hno rfl
    · rw [if_neg h1] at hok hno
      by_cases h2 : ch p = 33
      · rw [if_pos h2] at hok hno
        have l1 := ch_lt hT.2.2.2 (p := p) (by omega)
        refine E_push hT (Or.inl h2) (by omega) ?_
        rw [h2]
        have o33 : opn (33 :: W) = opn W + 1 := by
          show (if (33 : Int) = 33 ∨ (33 : Int) = 40 then 1 else 0) + opn W = _
          rw [if_pos (by decide)]
          omega
        refine ih (33 :: W) (p + 1) e (by omega) (by omega) (fun h3 => ?_) (fun h3 => ?_)
        · rw [if_pos h3] at hok
          have hok := hok rfl
          have e33 : stp (33 :: W) = stp W := by
            show (if (33 : Int) = 33 then stp W else 33 :: W) = _
            rw [if_pos rfl]
          have n33 : nts (33 :: W) = (1, 0, 0, 0) :: nts W := by
            show (if (33 : Int) = 33 then (1, 0, 0, 0) :: nts W else []) = _
            rw [if_pos rfl]
          rw [e33, n33]
          have ea : (e ++ (sgS ch k (p + 1)).2.2) ++ (1, 0, 0, 0) :: nts W = (e ++ ((sgS ch k (p + 1)).2.2 ++ [(1, 0, 0, 0)])) ++ nts W := by simp only [List.append_assoc, List.cons_append, List.nil_append]
          rw [ea]
          exact hok
        · rw [if_neg (by rw [h3]; decide)] at hno
          exact hno rfl
      · rw [if_neg h2] at hok hno
        exact E_test hT hf4 (by omega) hok hno
/-- all of an E -/
theorem E_all (hT : TXm ch N hb) (hf4 : f ≤ 4) (hq : q < 50) {p : Nat} (hp : p ≤ N) (hv : v0 ≤ p) (hm : MR q (100 * f + v0) hb hb p [] []) (hok : (eiS ch (sgS ch 4) p).1 = true → END K q f v0 hb al (eiS ch (sgS ch 4) p).2.1 (eiS ch (sgS ch 4) p).2.2) (hno : (eiS ch (sgS ch 4) p).1 = false → FLd K q f v0 hb al (eiS ch (sgS ch 4) p).2.1) (x3 : Option XV) : XW g (d + 4) mMo_takesE K 22 [some (xr 120), some (xi (q : Int)), some (xi 1), x3] [] hb al := by
  have hN := hT.2.1
  have hgd := sgS_ok hT.2.2.2 hN 4
  refine E_either (e := []) (W := []) hT hf4 hgd (E_single hT hf4 hq 4 (Nat.le_refl _)) rfl hp (Or.inl rfl) (fun h1 W2 e1 s1 s2 => ?_) hno (by show v0 + 0 + 0 ≤ p; omega) hp hb x3 hm
  obtain ⟨c1, c2⟩ := (eiS_ok hT.2.2.2 hN hgd).2 p hp h1
  refine E_end hT hf4 hq ⟨c2, c1⟩ s1 ?_
  rw [s2, List.nil_append]
  exact hok h1
end EM
