-- the class reads a text: all of it
section RE4
variable {g : GC} {d : Nat} {h : HH} {al : AL} {K : KT} {ch : Nat → Int} {N vn : Nat}
theorem c_clear (hv : VN vn) (hK : K none (uH (uH (uH (uH h vn 5 0) vn 6 0) vn 7 0) vn 8 0) al) : Call g (d + 1) yVa_clear [xr (Int.ofNat vn)] h al K := by
  have v0 := hv.k.1
  refine cof ocVa_clear rfl (XW_t4 [] 60 okVa_clear ?_)
  refine cond_i (by rw [v0]; rfl) ⟨5, rfl, ?_⟩
  refine cond_i (by rw [v0]; rfl) ⟨6, rfl, ?_⟩
  refine cond_i (by rw [v0]; rfl) ⟨7, rfl, ?_⟩
  refine cond_i (by rw [v0]; rfl) ⟨8, rfl, ?_⟩
  exact hK
set_option maxRecDepth 8000 in
theorem c_parse (hW : Wd h) (hTt : TXt ch N h) (hv : VN vn) (hok : (txS ch N 10 0 []).1 = true → ∀ h2 : HH, FV2 vn h h2 → VC h2 vn (txS ch N 10 0 []).2.2 → K (some (xi (-1))) h2 al) (hno : (txS ch N 10 0 []).1 = false → ∀ h2 : HH, FV2 vn h h2 → K (some (xi ((txS ch N 10 0 []).2.1 : Int))) h2 al) : Call g (d + 22) yTe_parse [xr 40, xr (Int.ofNat vn)] h al K := by
  have hb := hv.b2
  have v0 := hv.k.1
  obtain ⟨t1, t2, t3, t4, t5⟩ := id hTt
  generalize htot : txS ch N 10 0 [] = tot at hok hno
  have loop : ∀ (m c p : Nat) (V : List Cl) (e : List Sg) (h2 : HH), c + m = 10 → V.length = c → FV2 vn h h2 → RD ch N vn h2 p e → p ≤ N → VC h2 vn V → e.length = sgl (flt V) → e.length ≤ p → txS ch N m p V = tot → XW g (d + 21) mTe_parse K 16 [some (xr 40), some (xr (Int.ofNat vn)), some (xi (c : Int))] [] h2 al := by
    intro m
    induction m with
    | zero =>
      intro c p V e h2 hc hVc hf hR hp hC he hep ht
      have ht : (false, p, V) = tot := ht
      subst ht
      have t := hno rfl h2 hf
      have t : K (some (xi (p : Int))) h2 al := t
      rw [← hR.2.2.2.1] at t
      obtain ⟨h2', rfl⟩ := hR.1
      refine XW_t4 [16] 40 okTe_parse ?_
      refine ite_f (by omega) ?_
      exact t
    | succ m ih =>
      intro c p V e h2 hc hVc hf hR hp hC he hep ht
      have ht : (if (clS ch p).1 = true then (if N ≤ (clS ch p).2.1 then (true, (clS ch p).2.1, V ++ [(clS ch p).2.2]) else if m = 0 then (false, (clS ch p).2.1, V) else if ch (clS ch p).2.1 = 59 then txS ch N m ((clS ch p).2.1 + 1) (V ++ [(clS ch p).2.2]) else (false, (clS ch p).2.1, V)) else (false, (clS ch p).2.1, V)) = tot := ht
      obtain ⟨a1, a2, a3⟩ := clS_ok t4 t2 hp
      refine XW_t4 [16, 34] 60 okTe_parse ?_
      refine ite_t (by omega) ?_
      refine c_clause hR hp hC he hep (by omega) (fun q h3 e3 hf3 hR3 he3 hC3 => ?_) (fun q h3 hf3 hp3 => ?_)
      · rw [if_pos q] at ht
        obtain ⟨-, b2⟩ := a3 q
        have e23 : h3 40 2 = ((clS ch p).2.1 : Int) := hR3.2.2.2.1
        have e13 : h3 40 1 = (N : Int) := hR3.2.1.1
        have hR3' := hR3
        have hep3 : e3.length ≤ (clS ch p).2.1 := by
          rw [he3, flt_app]
          by_cases q9 : (clS ch p).2.2.1 < 3
          · rw [if_pos q9, sgl_app]
            omega
          · rw [if_neg q9, List.append_nil]
            omega
        obtain ⟨c1, ec1⟩ : ∃ c1, c1 = c + 1 := ⟨_, rfl⟩
        have ew : ∀ _ : Unit, wI ((c : Int) + 1) = (c1 : Int) := fun _ => by rw [ec1]; exact nS c (by omega)
        by_cases q2 : N ≤ (clS ch p).2.1
        · rw [if_pos q2] at ht
          subst ht
          have t := hok rfl h3 (hf.trans hf3) hC3
          obtain ⟨h3', rfl⟩ := hR3.1
          refine XW_t4 [16] 60 okTe_parse ?_
          refine ite_f (show ¬ wr h3' 40 2 < wr h3' 40 1 by rw [e23, e13]; omega) ?_
          exact t
        · rw [if_neg q2] at ht
          have stay : (false, (clS ch p).2.1, V) = tot → XW g (d + 21) mTe_parse K 64 [some (xr 40), some (xr (Int.ofNat vn)), some (xi (c : Int))] [] h3 al := fun ht => by
            subst ht
            have t := hno rfl h3 (hf.trans hf3)
            have t : K (some (xi ((clS ch p).2.1 : Int))) h3 al := t
            rw [← e23] at t
            obtain ⟨h3', rfl⟩ := hR3.1
            refine XW_t4 [] 40 okTe_parse ?_
            exact t
          by_cases q3 : m = 0
          · rw [if_pos q3] at ht
            have s := stay ht
            obtain ⟨h3', rfl⟩ := hR3.1
            refine XW_t4 [16, 52] 60 okTe_parse ?_
            refine ite_t (show wr h3' 40 2 < wr h3' 40 1 by rw [e23, e13]; omega) ?_
            show XW g (d + 21) mTe_parse K 52 [some (xr 40), some (xr (Int.ofNat vn)), some (xi (c : Int))] [xi 10, xi (wI ((c : Int) + 1))] (wr h3') al
            rw [ew ()]
            refine XW_t4 [16, 64] 60 okTe_parse ?_
            refine ite_t (show (c1 : Int) = 10 by omega) ?_
            exact s
          · rw [if_neg q3] at ht
            have go : ch (clS ch p).2.1 = 59 → ∀ h4 : HH, FV vn h3 h4 → h4 40 2 = (((clS ch p).2.1 + 1 : Nat) : Int) → CS h4 vn e3 → XW g (d + 21) mTe_parse K 16 [some (xr 40), some (xr (Int.ofNat vn)), some (xi (wI ((c : Int) + 1)))] [] h4 al := fun q4 h4 hf4 hp4 hs4 => by
              rw [if_pos q4] at ht
              have hlt := flt_le (A := V ++ [(clS ch p).2.2])
              have hC4 : VC h4 vn (V ++ [(clS ch p).2.2]) := by
                obtain ⟨c1, c2, c3, c4⟩ := hC3
                refine ⟨(hf4 _ _ (by omega) (by omega) (by omega)).trans c1, (hf4 _ _ (by omega) (by omega) (by omega)).trans c2, (hf4 _ _ (by omega) (by omega) (by omega)).trans c3, CE_fr2 _ _ _ c4 (fun i _ => ⟨hf4 _ _ (by omega) (by omega) (by omega), hf4 _ _ (by omega) (by omega) (by omega), hf4 _ _ (by omega) (by omega) (by omega)⟩) (fun i hi => ?_)⟩
                rw [hs4.2 i (by omega), hR3.2.2.2.2.2 i (by omega)]
              rw [ew (), ec1]
              exact ih (c + 1) _ _ e3 h4 (by omega) (by rw [List.length_append, hVc]; rfl) ((hf.trans hf3).trans hf4.two) (hR3.of hf4 hp4 hs4) (by omega) hC4 he3 (by omega) ht
            have no : ch (clS ch p).2.1 ≠ 59 → (false, (clS ch p).2.1, V) = tot := fun q4 => by
              rw [if_neg q4] at ht
              exact ht
            obtain ⟨h3', rfl⟩ := id hR3.1
            refine XW_t4 [16, 52] 80 okTe_parse ?_
            refine ite_t (show wr h3' 40 2 < wr h3' 40 1 by rw [e23, e13]; omega) ?_
            show XW g (d + 21) mTe_parse K 52 [some (xr 40), some (xr (Int.ofNat vn)), some (xi (c : Int))] [xi 10, xi (wI ((c : Int) + 1))] (wr h3') al
            rw [ew ()]
            refine XW_t4 [16, 64] 60 okTe_parse ?_
            refine ite_f (show ¬ (c1 : Int) = 10 by omega) ?_
            refine c_passes hR3' (by decide) (fun q4 h4 hf4 hp4 hs4 => ?_) (fun q4 => ?_)
            · exact go q4 h4 hf4 hp4 hs4
            · exact stay (no q4)
      · rw [if_neg (by rw [q]; decide)] at ht
        subst ht
        have t := hno rfl h3 (hf.trans hf3)
        have t : K (some (xi ((clS ch p).2.1 : Int))) h3 al := t
        rw [← hp3] at t
        obtain ⟨h3', rfl⟩ := hf3.wd hv hR.1
        exact t
  have h1f : ∀ a k, ¬ (a = 40 ∧ 2 ≤ k) → ¬ (a = vn ∧ 5 ≤ k) → uH (uH (uH (uH (uH (uH h vn 5 0) vn 6 0) vn 7 0) vn 8 0) 40 3 (vn : Int)) 40 2 0 a k = h a k := fun a k q1 q2 => by
    rw [uH_ne (by omega), uH_ne (by omega), uH_ne (by omega), uH_ne (by omega), uH_ne (by omega), uH_ne (by omega)]
  have hf1 : FV2 vn h (uH (uH (uH (uH (uH (uH h vn 5 0) vn 6 0) vn 7 0) vn 8 0) 40 3 (vn : Int)) 40 2 0) := fun a k q1 q2 _ => h1f a k q1 q2
  have hR1 : RD ch N vn (uH (uH (uH (uH (uH (uH h vn 5 0) vn 6 0) vn 7 0) vn 8 0) 40 3 (vn : Int)) 40 2 0) 0 [] := by
    refine ⟨hf1.wd hv hW, hTt.fv2 hv hf1, ⟨hv, ?_⟩, uH_at, ?_, fun j hj => absurd hj (Nat.not_lt_zero _)⟩
    · rw [uH_ne (by omega), uH_at]
    · rw [uH_ne (by omega), uH_ne (by omega), uH_ne (by omega), uH_ne (by omega), uH_at]
      rfl
  have hC1 : VC (uH (uH (uH (uH (uH (uH h vn 5 0) vn 6 0) vn 7 0) vn 8 0) 40 3 (vn : Int)) 40 2 0) vn [] := by
    refine ⟨?_, ?_, ?_, trivial⟩
    · rw [uH_ne (by omega), uH_ne (by omega), uH_ne (by omega), uH_ne (by omega), uH_ne (by omega), uH_at]
      rfl
    · rw [uH_ne (by omega), uH_ne (by omega), uH_ne (by omega), uH_at]
      rfl
    · rw [uH_ne (by omega), uH_ne (by omega), uH_at]
      rfl
  have t := loop 10 0 0 [] [] _ rfl rfl hf1 hR1 (Nat.zero_le _) hC1 rfl (Nat.le_refl _) htot
  refine cof ocTe_parse rfl (XW_t4 [16] 60 okTe_parse ?_)
  refine cond_i (by show (Nat.beq (kd vn) 7 && _) = true; rw [v0]; rfl) ?_
  refine c_clear hv ?_
  exact t
end RE4
