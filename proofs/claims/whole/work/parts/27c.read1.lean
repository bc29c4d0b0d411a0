-- the class reads a text: leaves
def FV (vn : Nat) (h h2 : HH) : Prop := ∀ a k, ¬ (a = 40 ∧ (k = 2 ∨ k = 4)) → ¬ (a = vn ∧ k = 6) → a ≠ vn + 4 → h2 a k = h a k
def CS (h : HH) (vn : Nat) (e : List Sg) : Prop := h vn 6 = (e.length : Int) ∧ ∀ j, j < e.length → h (vn + 4) j = cS (e.getD j z4)
def TXt (ch : Nat → Int) (N : Nat) (h : HH) : Prop := h 40 1 = (N : Int) ∧ N ≤ 100 ∧ (∀ k, k < N → h 41 k = ch k) ∧ (∀ k, N ≤ k → ch k = 0) ∧ ∀ k, 0 ≤ ch k ∧ ch k < 256
def RD (ch : Nat → Int) (N vn : Nat) (h : HH) (p : Nat) (e : List Sg) : Prop := Wd h ∧ TXt ch N h ∧ (VN vn ∧ h 40 3 = (vn : Int)) ∧ h 40 2 = (p : Int) ∧ CS h vn e
abbrev bI (b : Bool) : Int := if b = true then 1 else 0
theorem VN.b2 {vn : Nat} (h : VN vn) : 80 ≤ vn ∧ vn ≤ 110 := by rcases h with rfl | rfl | rfl | rfl | rfl | rfl <;> decide
theorem VN.wl5 {vn k : Nat} (h : VN vn) (hk : 5 ≤ k) : (wl vn).getD k (-9) < 0 := by
  have e : (wl vn).length = 5 := by rcases h with rfl | rfl | rfl | rfl | rfl | rfl <;> rfl
  rw [List.getD_eq_getElem?_getD, List.getElem?_eq_none (by omega)]
  decide
theorem VN.wl4 {vn a : Nat} (h : VN vn) (h1 : vn + 1 ≤ a) (h2 : a ≤ vn + 5) : wl a = [] := by
  have c : ck 230 (fun a => decide (((81 ≤ a ∧ a ≤ 85) ∨ (87 ≤ a ∧ a ≤ 91) ∨ (93 ≤ a ∧ a ≤ 97) ∨ (99 ≤ a ∧ a ≤ 103) ∨ (105 ≤ a ∧ a ≤ 109) ∨ (111 ≤ a ∧ a ≤ 115)) → wl a = [])) = true := by decide +kernel
  refine of_decide_eq_true (ck_of c (show a < 230 by have := h.b2; omega)) ?_
  rcases h with rfl | rfl | rfl | rfl | rfl | rfl <;> omega
theorem FV.refl {vn : Nat} {h : HH} : FV vn h h := fun _ _ _ _ _ => rfl
theorem FV.trans {vn : Nat} {h h2 h3 : HH} (a : FV vn h h2) (b : FV vn h2 h3) : FV vn h h3 := fun q k e1 e2 e3 => (b q k e1 e2 e3).trans (a q k e1 e2 e3)
theorem FV.wd {vn : Nat} {h h2 : HH} (hf : FV vn h h2) (hv : VN vn) (hW : Wd h) : Wd h2 := hW.of fun a k hk => hf a k (by
  rintro ⟨rfl, rfl | rfl⟩ <;> exact hk (by decide)) (by
  rintro ⟨rfl, rfl⟩
  exact hk (hv.wl5 (by decide))) (by
  rintro rfl
  rw [hv.wl4 (by omega) (by omega)] at hk
  exact hk (by show (-9 : Int) < 0; decide))
theorem TXt.fv {ch : Nat → Int} {N vn : Nat} {h h2 : HH} (hT : TXt ch N h) (hv : VN vn) (hf : FV vn h h2) : TXt ch N h2 := by
  obtain ⟨t1, t2, t3, t4⟩ := hT
  have := hv.b2
  exact ⟨(hf 40 1 (by omega) (by omega) (by omega)).trans t1, t2, fun k hk => (hf 41 k (by omega) (by omega) (by omega)).trans (t3 k hk), t4⟩
theorem RD.of {ch : Nat → Int} {N vn p p2 : Nat} {h h2 : HH} {e e2 : List Sg} (hR : RD ch N vn h p e) (hf : FV vn h h2) (hp : h2 40 2 = (p2 : Int)) (hs : CS h2 vn e2) : RD ch N vn h2 p2 e2 := by
  obtain ⟨r1, r2, ⟨r3, r4⟩, -, -⟩ := hR
  have := r3.b2
  exact ⟨hf.wd r3 r1, r2.fv r3 hf, ⟨r3, (hf 40 3 (by omega) (by omega) (by omega)).trans r4⟩, hp, hs⟩
theorem CS.up {h : HH} {vn : Nat} {e : List Sg} {k : Nat} {z : Int} (hs : CS h vn e) (hv : VN vn) : CS (uH h 40 k z) vn e := by
  have := hv.b2
  exact ⟨(uH_ne (by omega)).trans hs.1, fun j hj => (uH_ne (by omega)).trans (hs.2 j hj)⟩
theorem FV.up {h h2 : HH} {vn k : Nat} {z : Int} (hf : FV vn h h2) (hk : k = 2 ∨ k = 4) : FV vn h (uH h2 40 k z) := fun a j e1 e2 e3 => by
  rw [uH_ne (by omega)]
  exact hf a j e1 e2 e3
section RE1
variable {g : GC} {d : Nat} {h : HH} {al : AL} {K : KT} {ch : Nat → Int} {N vn p : Nat} {e : List Sg}
theorem c_next (hR : RD ch N vn h p e) (hK : K (some (xi (ch p))) h al) : Call g (d + 1) yTe_next [xr 40] h al K := by
  obtain ⟨hW, ⟨t1, t2, t3, t4, t5⟩, -, e2, -⟩ := id hR
  obtain ⟨h0, rfl⟩ := hW
  refine cof ocTe_next rfl (XW_t4 [] 40 okTe_next ?_)
  refine ite_f (show ¬ wr h0 40 2 < 0 by omega) ?_
  by_cases q : p < N
  · refine ite_t (show wr h0 40 2 < wr h0 40 1 by omega) ?_
    refine ite_t (show wr h0 40 2 < 100 by omega) ?_
    exact ⟨p, e2, by show p < 100; omega, _, t3 p q, hK⟩
  · refine ite_f (show ¬ wr h0 40 2 < wr h0 40 1 by omega) ?_
    rw [t4 p (by omega)] at hK
    exact hK
theorem c_passes {c : Int} (hR : RD ch N vn h p e) (hc : c ≠ 0) (ht : ch p = c → ∀ h2 : HH, FV vn h h2 → h2 40 2 = ((p + 1 : Nat) : Int) → CS h2 vn e → K (some (xi 1)) h2 al) (hf : ch p ≠ c → K (some (xi 0)) h al) : Call g (d + 2) yTe_passes [xr 40, xi c] h al K := by
  obtain ⟨hW, ⟨t1, t2, t3, t4, t5⟩, ⟨hv, e3⟩, e2, hs⟩ := id hR
  have hR2 := hR
  obtain ⟨h0, rfl⟩ := hW
  refine cof ocTe_passes rfl (XW_t4 [] 40 okTe_passes ?_)
  refine c_next hR2 ?_
  refine ite_i (fun q => ?_) (fun q => ?_)
  · have l1 := ch_lt t4 (p := p) (by rw [q]; exact hc)
    refine ⟨Or.inr rfl, ht q _ (FV.refl.up (Or.inl rfl)) ?_ (hs.up hv)⟩
    rw [uH_at]
    show wI (wr h0 40 2 + 1) = _
    rw [e2, nS p (by omega)]
  · exact ⟨Or.inl rfl, hf q⟩
theorem c_pNum (hR : RD ch N vn h p e) (hp : p ≤ N) (hK : ∀ h2 : HH, FV vn h h2 → h2 40 2 = ((nuS ch p).2.1 : Int) → CS h2 vn e → ((nuS ch p).1 = true → h2 40 4 = ((nuS ch p).2.2 : Int)) → K (some (xi (bI (nuS ch p).1))) h2 al) : Call g (d + 2) yTe_passesNumber [xr 40] h al K := by
  obtain ⟨hW, ⟨t1, t2, t3, t4, t5⟩, ⟨hv, e3⟩, e2, hs⟩ := id hR
  have hR2 := hR
  have c0 := t5 p
  have c1 := t5 (p + 1)
  unfold nuS at hK
  obtain ⟨h0, rfl⟩ := hW
  refine cof ocTe_passesNumber rfl (XW_t4 [] 100 okTe_passesNumber ?_)
  refine c_next hR2 ?_
  refine c_within (fun q => ?_) (fun q => ?_)
  · rw [if_pos q] at hK
    have l1 := ch_lt t4 (p := p) (by omega)
    refine c_next hR2 ?_
    have ea : wI (ch p - 48) = ch p - 48 := wI_id (by omega)
    have hRn : ∀ (z y : Int), z = ch p - 48 → y = ((p + 1 : Nat) : Int) → RD ch N vn (uH (uH (wr h0) 40 4 z) 40 2 y) (p + 1) e := fun z y ez ey => hR2.of ((FV.refl.up (Or.inr rfl)).up (Or.inl rfl)) (by rw [uH_at]; exact ey) ((hs.up hv).up hv)
    have ey : wI (wr h0 40 2 + 1) = ((p + 1 : Nat) : Int) := by rw [e2, nS p (by omega)]
    have hRn2 := hRn _ _ ea ey
    refine c_next (h := uH (uH (wr h0) 40 4 (wI (ch p - 48))) 40 2 (wI (wr h0 40 2 + 1))) hRn2 ?_
    refine c_within (fun q2 => ?_) (fun q2 => ?_)
    · rw [if_pos q2] at hK
      have l2 := ch_lt t4 (p := p + 1) (by omega)
      refine c_next (h := uH (uH (wr h0) 40 4 (wI (ch p - 48))) 40 2 (wI (wr h0 40 2 + 1))) hRn2 ?_
      refine ⟨Or.inr rfl, hK _ ((((FV.refl.up (Or.inr rfl)).up (Or.inl rfl)).up (Or.inr rfl)).up (Or.inl rfl)) ?_ ((((hs.up hv).up hv).up hv).up hv) fun _ => ?_⟩
      · rw [uH_at]
        show wI (wI (wr h0 40 2 + 1) + 1) = ((p + 2 : Nat) : Int)
        rw [ey, nS (p + 1) (by omega)]
      · rw [uH_ne (by omega), uH_at]
        show wI (wI (wI (wI (ch p - 48) * 10) + ch (p + 1)) - 48) = (((10 * (ch p - 48) + (ch (p + 1) - 48)).toNat : Nat) : Int)
        rw [ea, wI_id (z := (ch p - 48) * 10) (by omega), wI_id (z := (ch p - 48) * 10 + ch (p + 1)) (by omega), wI_id (by omega)]
        omega
    · rw [if_neg q2] at hK
      refine ⟨Or.inr rfl, hK _ ((FV.refl.up (Or.inr rfl)).up (Or.inl rfl)) ?_ ((hs.up hv).up hv) fun _ => ?_⟩
      · rw [uH_at]
        exact ey
      · rw [uH_ne (by omega), uH_at]
        show wI (ch p - 48) = (((ch p - 48).toNat : Nat) : Int)
        rw [ea]
        omega
  · rw [if_neg q] at hK
    exact ⟨Or.inl rfl, hK _ FV.refl e2 hs fun q => by cases q⟩
theorem c_wordOf {w : Nat} (hw : w ≤ 4) (hK : K (some (xr (Int.ofNat (183 + (3 + w))))) h al) : Call g (d + 1) yTe_wordOf [xi (w : Int)] h al K := by
  have : w = 0 ∨ w = 1 ∨ w = 2 ∨ w = 3 ∨ w = 4 := by omega
  rcases this with rfl | rfl | rfl | rfl | rfl <;> exact cof ocTe_wordOf rfl (XW_t4 [] 40 okTe_wordOf hK)
theorem wdS_b {w : Nat} (hw : w ≤ 4) : (wdS w).length = sn (3 + w) ∧ ∀ j, j < sn (3 + w) → (wdS w).drop j = sb (3 + w) j :: (wdS w).drop (j + 1) := by
  have c : ck 5 (fun w => decide ((wdS w).length = sn (3 + w)) && ck 10 (fun j => decide (j < sn (3 + w) → (wdS w).drop j = sb (3 + w) j :: (wdS w).drop (j + 1)))) = true := by decide +kernel
  have c2 := ck_of c (show w < 5 by omega)
  rw [Bool.and_eq_true] at c2
  exact ⟨of_decide_eq_true c2.1, fun j hj => of_decide_eq_true (ck_of c2.2 (show j < 10 by have := sn_lt (i := 3 + w) (by omega); omega)) hj⟩
theorem c_pWord {w : Nat} (hw : w ≤ 4) (hR : RD ch N vn h p e) (hp : p ≤ N) (hK : ∀ h2 : HH, FV vn h h2 → h2 40 2 = ((lwS ch (wdS w) p).2 : Int) → CS h2 vn e → K (some (xi (bI (lwS ch (wdS w) p).1))) h2 al) : Call g (d + 5) yTe_passesWord [xr 40, xr (Int.ofNat (183 + (3 + w)))] h al K := by
  obtain ⟨b1, b2⟩ := wdS_b hw
  have hi : 3 + w < 8 := by omega
  have hsn := sn_lt hi
  have loop : ∀ (m j p2 : Nat) (h2 : HH), j + m = sn (3 + w) → FV vn h h2 → RD ch N vn h2 p2 e → lwS ch (wdS w) p = lwS ch ((wdS w).drop j) p2 → XW g (d + 4) mTe_passesWord K 2 [some (xr 40), some (xr (Int.ofNat (183 + (3 + w)))), some (xi (j : Int))] [] h2 al := by
    intro m
    induction m with
    | zero =>
      intro j p2 h2 hj hf hR2 hl
      have ed : (wdS w).drop j = [] := List.drop_eq_nil_of_le (by omega)
      rw [ed] at hl
      rw [hl] at hK
      refine XW_t4 [2] 40 okTe_passesWord ?_
      refine cond_i (by show (Nat.beq (kd (183 + (3 + w))) 90 && _) = true; rw [kd_st hi]; rfl) ?_
      refine c_slen hi ?_
      refine ite_f (by omega) ?_
      exact ⟨Or.inr rfl, hK h2 hf hR2.2.2.2.1 hR2.2.2.2.2⟩
    | succ m ih =>
      intro j p2 h2 hj hf hR2 hl
      rw [b2 j (by omega)] at hl
      have e' : lwS ch (sb (3 + w) j :: (wdS w).drop (j + 1)) p2 = if ch p2 = sb (3 + w) j then lwS ch ((wdS w).drop (j + 1)) (p2 + 1) else (false, p2) := rfl
      rw [e'] at hl
      have hc0 : sb (3 + w) j ≠ 0 := by
        refine wdS_0 w _ ?_
        have := b2 j (by omega)
        exact List.mem_of_mem_drop (by rw [this]; exact List.mem_cons_self)
      refine XW_t4 [2] 60 okTe_passesWord ?_
      refine cond_i (by show (Nat.beq (kd (183 + (3 + w))) 90 && _) = true; rw [kd_st hi]; rfl) ?_
      refine c_slen hi ?_
      refine ite_t (by omega) ?_
      refine cond_i (by show (Nat.beq (kd (183 + (3 + w))) 90 && _) = true; rw [kd_st hi]; rfl) ?_
      refine c_charAt hi (by omega) ?_
      refine c_passes hR2 hc0 (fun q h3 hf3 hp3 hs3 => ?_) (fun q => ?_)
      · rw [if_pos q] at hl
        have t := ih (j + 1) (p2 + 1) h3 (by omega) (hf.trans hf3) (hR2.of hf3 hp3 hs3) hl
        rw [← nS j (by omega)] at t
        exact t
      · rw [if_neg q] at hl
        rw [hl] at hK
        exact ⟨Or.inl rfl, hK h2 hf hR2.2.2.2.1 hR2.2.2.2.2⟩
  refine cof ocTe_passesWord rfl ?_
  refine XW_t4 [2] 40 okTe_passesWord ?_
  exact loop (sn (3 + w)) 0 p h (by omega) FV.refl hR rfl
end RE1
