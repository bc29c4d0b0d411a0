-- the class reads a text: clauses, all of it
def FV2 (vn : Nat) (h h2 : HH) : Prop := ∀ a k, ¬ (a = 40 ∧ 2 ≤ k) → ¬ (a = vn ∧ 5 ≤ k) → ¬ (vn + 1 ≤ a ∧ a ≤ vn + 4) → h2 a k = h a k
theorem FV2.refl {vn : Nat} {h : HH} : FV2 vn h h := fun _ _ _ _ _ => rfl
theorem FV2.trans {vn : Nat} {h h2 h3 : HH} (a : FV2 vn h h2) (b : FV2 vn h2 h3) : FV2 vn h h3 := fun q k e1 e2 e3 => (b q k e1 e2 e3).trans (a q k e1 e2 e3)
theorem FV.two {vn : Nat} {h h2 : HH} (a : FV vn h h2) : FV2 vn h h2 := fun q k e1 e2 e3 => a q k (by omega) (by omega) (by omega)
theorem wl40 {k : Nat} (hk : 1 ≤ k) : (wl 40).getD k (-9) < 0 := by
  rw [show wl 40 = [41] from rfl, List.getD_eq_getElem?_getD, List.getElem?_eq_none (show 1 ≤ k from hk)]
  decide
theorem FV2.wd {vn : Nat} {h h2 : HH} (hf : FV2 vn h h2) (hv : VN vn) (hW : Wd h) : Wd h2 := hW.of fun a k hk => hf a k (by
  rintro ⟨rfl, q⟩
  exact hk (wl40 (by omega))) (by
  rintro ⟨rfl, q⟩
  exact hk (hv.wl5 q)) (by
  rintro ⟨q1, q2⟩
  rw [hv.wl4 q1 (by omega)] at hk
  exact hk (by show (-9 : Int) < 0; decide))
theorem TXt.fv2 {ch : Nat → Int} {N vn : Nat} {h h2 : HH} (hT : TXt ch N h) (hv : VN vn) (hf : FV2 vn h h2) : TXt ch N h2 := by
  obtain ⟨t1, t2, t3, t4⟩ := hT
  have := hv.b2
  exact ⟨(hf 40 1 (by omega) (by omega) (by omega)).trans t1, t2, fun k hk => (hf 41 k (by omega) (by omega) (by omega)).trans (t3 k hk), t4⟩
theorem CE_fr2 {h h2 : HH} {vn : Nat} : ∀ (A : List Cl) (j e0 : Nat), CE h vn A j e0 → (∀ i, i < j + A.length → h2 (vn + 1) i = h (vn + 1) i ∧ h2 (vn + 2) i = h (vn + 2) i ∧ h2 (vn + 3) i = h (vn + 3) i) → (∀ i, i < e0 + sgl A → h2 (vn + 4) i = h (vn + 4) i) → CE h2 vn A j e0 := by
  intro A
  induction A with
  | nil => exact fun _ _ _ _ _ => trivial
  | cons c A ih =>
    intro j e0 hC h1 h4
    obtain ⟨c1, c2, c3, c4, c5⟩ := hC
    rw [List.length_cons] at h1
    have es : sgl (c :: A) = c.2.2.length + sgl A := rfl
    rw [es] at h4
    obtain ⟨a1, a2, a3⟩ := h1 j (by omega)
    exact ⟨a1.trans c1, a2.trans c2, a3.trans c3, fun k hk => (h4 _ (by omega)).trans (c4 k hk), ih (j + 1) _ c5 (fun i hi => h1 i (by omega)) (fun i hi => h4 i (by omega))⟩
theorem CE_app {h : HH} {vn : Nat} {c : Cl} : ∀ (A : List Cl) (j e0 : Nat), CE h vn A j e0 → CE h vn [c] (j + A.length) (e0 + sgl A) → CE h vn (A ++ [c]) j e0 := by
  intro A
  induction A with
  | nil => exact fun _ _ _ h => h
  | cons a A ih =>
    intro j e0 hC h1
    obtain ⟨c1, c2, c3, c4, c5⟩ := hC
    rw [List.length_cons] at h1
    have es : sgl (a :: A) = a.2.2.length + sgl A := rfl
    rw [es] at h1
    refine ⟨c1, c2, c3, c4, ih (j + 1) _ c5 ?_⟩
    rw [show j + 1 + A.length = j + (A.length + 1) by omega, show e0 + a.2.2.length + sgl A = e0 + (a.2.2.length + sgl A) by omega]
    exact h1
theorem lastL_app {A : List Cl} {c : Cl} {w : Nat} : ∀ z : Int, lastL (A ++ [c]) w z = if c.1 = w then (c.2.1 : Int) else lastL A w z := by
  induction A with
  | nil => intro z; rfl
  | cons a A ih =>
    intro z
    show lastL (A ++ [c]) w (if a.1 = w then (a.2.1 : Int) else z) = if c.1 = w then (c.2.1 : Int) else lastL A w (if a.1 = w then (a.2.1 : Int) else z)
    exact ih _
theorem flt_app {A : List Cl} {c : Cl} : flt (A ++ [c]) = flt A ++ (if c.1 < 3 then [c] else []) := by
  unfold flt
  rw [List.filter_append]
  congr 1
  by_cases q : c.1 < 3
  · rw [if_pos q, List.filter_cons, if_pos (decide_eq_true q)]
    rfl
  · rw [if_neg q, List.filter_cons, if_neg (by rw [decide_eq_false q]; decide)]
    rfl
theorem flt_le {A : List Cl} : (flt A).length ≤ A.length := List.length_filter_le _ _
/-- what the class knows of the clauses so far -/
def VC (h : HH) (vn : Nat) (V : List Cl) : Prop := h vn 5 = ((flt V).length : Int) ∧ h vn 7 = lastL V 3 0 ∧ h vn 8 = lastL V 4 0 ∧ CE h vn (flt V) 0 0
section RE3
variable {g : GC} {d : Nat} {h : HH} {al : AL} {K : KT} {ch : Nat → Int} {N vn p : Nat} {e : List Sg} {V : List Cl}
theorem c_tells {w n nC eL : Nat} (hvf : VF h vn) (hv : VN vn) (hw : w ≤ 4) (h5 : h vn 5 = (nC : Int)) (hn : nC < 10) (h6 : h vn 6 = (eL : Int)) (k0 : w < 3 → K none (uH (uH (uH (uH h (vn + 1) nC (w : Int)) (vn + 2) nC (n : Int)) (vn + 3) nC (eL : Int)) vn 5 ((nC + 1 : Nat) : Int)) al) (k3 : w = 3 → K none (uH h vn 7 (n : Int)) al) (k4 : w = 4 → K none (uH h vn 8 (n : Int)) al) : Call g (d + 2) yVa_tells [xr (Int.ofNat vn), xi (w : Int), xi (n : Int)] h al K := by
  obtain ⟨v0, v1, v2, v3, -⟩ := hv.k
  obtain ⟨l1, l2, l3, -⟩ := hv.l g
  have hb := hv.b2
  have en := nS nC (by omega)
  refine cof ocVa_tells rfl (XW_t4 [] 80 okVa_tells ?_)
  refine ite_i (fun q => ?_) (fun q => ?_)
  · have q : (w : Int) < 3 := q
    have k0 := k0 (by omega)
    rw [← en] at k0
    refine cond_i (by rw [v0]; rfl) ⟨_, hvf.1, ?_⟩
    refine cond_i (by rw [v0]; rfl) ⟨_, h5, ?_⟩
    refine c_putE (o := vn + 1) (j := nC) v1 rfl (by rw [l1]; exact hn) ?_
    refine cond_i (by rw [v0]; rfl) ⟨((vn + 2 : Nat) : Int), (uH_ne (by omega)).trans hvf.2.1, ?_⟩
    refine cond_i (by rw [v0]; rfl) ⟨(nC : Int), (uH_ne (by omega)).trans h5, ?_⟩
    refine c_putE (o := vn + 2) (j := nC) v2 rfl (by rw [l2]; exact hn) ?_
    refine cond_i (by rw [v0]; rfl) ⟨((vn + 3 : Nat) : Int), (uH_ne (by omega)).trans ((uH_ne (by omega)).trans hvf.2.2.1), ?_⟩
    refine cond_i (by rw [v0]; rfl) ⟨(nC : Int), (uH_ne (by omega)).trans ((uH_ne (by omega)).trans h5), ?_⟩
    refine cond_i (by rw [v0]; rfl) ⟨(eL : Int), (uH_ne (by omega)).trans ((uH_ne (by omega)).trans h6), ?_⟩
    refine c_putE (o := vn + 3) (j := nC) v3 rfl (by rw [l3]; exact hn) ?_
    refine cond_i (by rw [v0]; rfl) ⟨(nC : Int), (uH_ne (by omega)).trans ((uH_ne (by omega)).trans ((uH_ne (by omega)).trans h5)), ?_⟩
    refine cond_i (by rw [v0]; rfl) ⟨5, rfl, ?_⟩
    exact k0
  · have q : ¬ (w : Int) < 3 := q
    refine ite_i (fun q2 => ?_) (fun q2 => ?_)
    · have q2 : (w : Int) = 3 := q2
      refine cond_i (by rw [v0]; rfl) ⟨7, rfl, ?_⟩
      exact k3 (by omega)
    · have q2 : ¬ (w : Int) = 3 := q2
      refine cond_i (by rw [v0]; rfl) ⟨8, rfl, ?_⟩
      exact k4 (by omega)
theorem c_either4 (hch : ∀ p, N ≤ p → ch p = 0) (hN : N ≤ 100) : CCf g (d + 20) ch N vn yTe_either [xi 0] (eiS ch (sgS ch 4)) := by
  have hgd := sgS_ok hch hN 4
  have h1 : CCf g (d + 18) ch N vn yTe_single [xi 0] (sgS ch 4) := c_single hch hN 4 (Nat.le_refl _) d
  have h2 : CCf g (d + 19) ch N vn yTe_both [xi 0] (boS ch (sgS ch 4)) := c_both (d := d + 13) rfl hgd h1
  exact c_either (d := d + 14) rfl (boS_ok hch hN hgd).1 h2
/-- a clause is told -/
theorem VC.tell {h2 h3 : HH} {s : List Sg} {c : Cl} (hv : VN vn) (hC : VC h vn V) (hs : CS h vn e) (he : e.length = sgl (flt V)) (hf : FV vn h h2) (hs2 : CS h2 vn (e ++ s)) (hc : c.2.2 = s) (h9 : V.length < 10)
    (q0 : c.1 < 3 → h3 = uH (uH (uH (uH h2 (vn + 1) (flt V).length (c.1 : Int)) (vn + 2) (flt V).length (c.2.1 : Int)) (vn + 3) (flt V).length ((e ++ s).length : Int)) vn 5 (((flt V).length + 1 : Nat) : Int)) (q3 : c.1 = 3 → h3 = uH h2 vn 7 (c.2.1 : Int)) (q4 : c.1 = 4 → h3 = uH h2 vn 8 (c.2.1 : Int)) (hc4 : c.1 ≤ 4) : FV2 vn h h3 ∧ h3 40 2 = h2 40 2 ∧ h3 40 3 = h 40 3 ∧ CS h3 vn (e ++ s) ∧ VC h3 vn (V ++ [c]) := by
  have hb := hv.b2
  obtain ⟨c1, c2, c3, c4⟩ := hC
  have hfl := flt_le (A := V)
  -- signs that stood stay
  have old : ∀ i, i < e.length → h2 (vn + 4) i = h (vn + 4) i := fun i hi => by
    rw [hs2.2 i (by rw [List.length_append]; omega), hs.2 i hi, List.getD_eq_getElem?_getD, List.getElem?_append_left hi, ← List.getD_eq_getElem?_getD]
  have f1 : ∀ i, h2 (vn + 1) i = h (vn + 1) i ∧ h2 (vn + 2) i = h (vn + 2) i ∧ h2 (vn + 3) i = h (vn + 3) i := fun i => ⟨hf _ _ (by omega) (by omega) (by omega), hf _ _ (by omega) (by omega) (by omega), hf _ _ (by omega) (by omega) (by omega)⟩
  have hCE2 : CE h2 vn (flt V) 0 0 := CE_fr2 _ _ _ c4 (fun i _ => f1 i) (fun i hi => old i (by omega))
  have g5 : h2 vn 5 = ((flt V).length : Int) := (hf _ _ (by omega) (by omega) (by omega)).trans c1
  have g7 : h2 vn 7 = lastL V 3 0 := (hf _ _ (by omega) (by omega) (by omega)).trans c2
  have g8 : h2 vn 8 = lastL V 4 0 := (hf _ _ (by omega) (by omega) (by omega)).trans c3
  have g3 : h2 40 3 = h 40 3 := hf _ _ (by omega) (by omega) (by omega)
  have cse : c.1 < 3 ∨ c.1 = 3 ∨ c.1 = 4 := by omega
  unfold VC
  rw [flt_app, lastL_app, lastL_app]
  rcases cse with q | q | q
  · have e3 := q0 q
    subst e3
    rw [if_pos q, if_neg (show ¬ c.1 = 3 by omega), if_neg (show ¬ c.1 = 4 by omega)]
    have u : ∀ a k, a < vn + 1 ∨ vn + 3 < a → ¬ (a = vn ∧ k = 5) → uH (uH (uH (uH h2 (vn + 1) (flt V).length (c.1 : Int)) (vn + 2) (flt V).length (c.2.1 : Int)) (vn + 3) (flt V).length ((e ++ s).length : Int)) vn 5 (((flt V).length + 1 : Nat) : Int) a k = h2 a k := fun a k e1 e2 => by
      rw [uH_ne e2, uH_ne (by omega), uH_ne (by omega), uH_ne (by omega)]
    refine ⟨fun a k e1 e2 e3 => ?_, u _ _ (by omega) (by omega), (u _ _ (by omega) (by omega)).trans g3, ⟨(u _ _ (by omega) (by omega)).trans hs2.1, fun j hj => (u _ _ (by omega) (by omega)).trans (hs2.2 j hj)⟩, ?_, (u _ _ (by omega) (by omega)).trans g7, (u _ _ (by omega) (by omega)).trans g8, ?_⟩
    · rw [u a k (by omega) (by omega)]
      exact hf a k (by omega) (by omega) (by omega)
    · rw [uH_at, List.length_append]
      rfl
    · refine CE_app _ _ _ (CE_fr2 _ _ _ hCE2 (fun i hi => ⟨?_, ?_, ?_⟩) (fun i _ => u _ _ (by omega) (by omega))) ⟨?_, ?_, ?_, fun k hk => ?_, trivial⟩
      · rw [uH_ne (by omega), uH_ne (by omega), uH_ne (by omega), uH_ne (by omega)]
      · rw [uH_ne (by omega), uH_ne (by omega), uH_ne (by omega), uH_ne (by omega)]
      · rw [uH_ne (by omega), uH_ne (by omega), uH_ne (by omega), uH_ne (by omega)]
      · rw [Nat.zero_add, uH_ne (by omega), uH_ne (by omega), uH_ne (by omega), uH_at]
      · rw [Nat.zero_add, uH_ne (by omega), uH_ne (by omega), uH_at]
      · rw [Nat.zero_add, Nat.zero_add, uH_ne (by omega), uH_at, List.length_append, he, hc]
      · rw [u _ _ (by omega) (by omega), Nat.zero_add, ← he]
        rw [hc] at hk ⊢
        rw [hs2.2 _ (by rw [List.length_append]; omega), List.getD_eq_getElem?_getD, List.getElem?_append_right (by omega), List.getD_eq_getElem?_getD]
        rw [show e.length + k - e.length = k by omega]
  · have e3 := q3 q
    subst e3
    rw [if_neg (show ¬ c.1 < 3 by omega), if_pos q, if_neg (show ¬ c.1 = 4 by omega), List.append_nil]
    have u : ∀ a k, ¬ (a = vn ∧ k = 7) → uH h2 vn 7 (c.2.1 : Int) a k = h2 a k := fun a k e => uH_ne e
    refine ⟨fun a k e1 e2 e3 => (u a k (by omega)).trans (hf a k (by omega) (by omega) (by omega)), u _ _ (by omega), (u _ _ (by omega)).trans g3, ⟨(u _ _ (by omega)).trans hs2.1, fun j hj => (u _ _ (by omega)).trans (hs2.2 j hj)⟩, (u _ _ (by omega)).trans g5, uH_at, (u _ _ (by omega)).trans g8, ?_⟩
    exact CE_fr2 _ _ _ hCE2 (fun i _ => ⟨u _ _ (by omega), u _ _ (by omega), u _ _ (by omega)⟩) (fun i _ => u _ _ (by omega))
  · have e3 := q4 q
    subst e3
    rw [if_neg (show ¬ c.1 < 3 by omega), if_neg (show ¬ c.1 = 3 by omega), if_pos q, List.append_nil]
    have u : ∀ a k, ¬ (a = vn ∧ k = 8) → uH h2 vn 8 (c.2.1 : Int) a k = h2 a k := fun a k e => uH_ne e
    refine ⟨fun a k e1 e2 e3 => (u a k (by omega)).trans (hf a k (by omega) (by omega) (by omega)), u _ _ (by omega), (u _ _ (by omega)).trans g3, ⟨(u _ _ (by omega)).trans hs2.1, fun j hj => (u _ _ (by omega)).trans (hs2.2 j hj)⟩, (u _ _ (by omega)).trans g5, (u _ _ (by omega)).trans g7, uH_at, ?_⟩
    exact CE_fr2 _ _ _ hCE2 (fun i _ => ⟨u _ _ (by omega), u _ _ (by omega), u _ _ (by omega)⟩) (fun i _ => u _ _ (by omega))
theorem bgS_lt {x : Int} (h : ¬ bgS x = 5) : bgS x ≤ 4 := by
  have := bgS_le (x := x)
  omega
set_option maxRecDepth 8000 in
theorem c_clause (hR : RD ch N vn h p e) (hp : p ≤ N) (hC : VC h vn V) (he : e.length = sgl (flt V)) (hep : e.length ≤ p) (h9 : V.length < 10)
    (hok : (clS ch p).1 = true → ∀ (h2 : HH) (e2 : List Sg), FV2 vn h h2 → RD ch N vn h2 (clS ch p).2.1 e2 → e2.length = sgl (flt (V ++ [(clS ch p).2.2])) → VC h2 vn (V ++ [(clS ch p).2.2]) → K (some (xi 1)) h2 al)
    (hno : (clS ch p).1 = false → ∀ h2 : HH, FV2 vn h h2 → h2 40 2 = ((clS ch p).2.1 : Int) → K (some (xi 0)) h2 al) : Call g (d + 21) yTe_clause [xr 40] h al K := by
  obtain ⟨hW, hTt, ⟨hv, e3⟩, e2, hs⟩ := id hR
  obtain ⟨t1, t2, t3, t4, t5⟩ := id hTt
  have hR0 := hR
  have v0 := hv.k.1
  unfold clS at hok hno
  by_cases h1 : bgS (ch p) = 5
  · rw [if_pos h1] at hno
    obtain ⟨h0, rfl⟩ := hW
    refine cof ocTe_clause rfl (XW_t4 [] 60 okTe_clause ?_)
    refine c_next hR0 ?_
    refine c_indexOfW (i := 0) (v := -1) (by decide) (by decide) (t5 p) (by rw [ix_bg, if_pos h1]) ?_
    exact ⟨Or.inl rfl, hno rfl _ FV2.refl e2⟩
  · rw [if_neg h1] at hok hno
    have hw := bgS_lt h1
    generalize ew : bgS (ch p) = w at h1 hw hok hno
    obtain ⟨a1, a2, a3⟩ := lwS_ok t4 (wdS w) p (wdS_0 w) hp
    -- behind the number
    have k35 : ∀ (h4 : HH) (p4 n : Nat), FV vn h h4 → RD ch N vn h4 p4 e → p ≤ p4 → p4 ≤ N → n ≤ 99 → h4 40 4 = (n : Int) → ((c2S ch w p4 n).1 = true → ∀ (h2 : HH) (e2 : List Sg), FV2 vn h h2 → RD ch N vn h2 (c2S ch w p4 n).2.1 e2 → e2.length = sgl (flt (V ++ [(c2S ch w p4 n).2.2])) → VC h2 vn (V ++ [(c2S ch w p4 n).2.2]) → K (some (xi 1)) h2 al) → ((c2S ch w p4 n).1 = false → ∀ h2 : HH, FV2 vn h h2 → h2 40 2 = ((c2S ch w p4 n).2.1 : Int) → K (some (xi 0)) h2 al) →
        XW g (d + 20) mTe_clause K 35 [some (xr 40), some (xi (w : Int)), none] [] h4 al := by
      intro h4 p4 n hf4 hR4 hp4 hpN4 hn h44 hok hno
      obtain ⟨hW4, -, ⟨-, e34⟩, e24, hs4⟩ := id hR4
      have hR4' := hR4
      unfold c2S at hok hno
      -- telling
      have k65 : ∀ (h5 : HH) (p5 : Nat) (s : List Sg), FV vn h h5 → RD ch N vn h5 p5 (e ++ s) → (3 ≤ w → s = []) → (∀ (h2 : HH) (e2 : List Sg), FV2 vn h h2 → RD ch N vn h2 p5 e2 → e2.length = sgl (flt (V ++ [(w, n, s)])) → VC h2 vn (V ++ [(w, n, s)]) → K (some (xi 1)) h2 al) → XW g (d + 20) mTe_clause K 64 [some (xr 40), some (xi (w : Int)), some (xi (n : Int))] [] h5 al := by
        intro h5 p5 s hf5 hR5 h3s go
        obtain ⟨hW5, hT5, ⟨-, e35⟩, e25, hs5⟩ := id hR5
        have hvf := hW5.vf hv
        have hfl := flt_le (A := V)
        have g5 : h5 vn 5 = ((flt V).length : Int) := (hf5 _ _ (by have := hv.b2; omega) (by omega) (by omega)).trans hC.1
        have fin : ∀ h6 : HH, (w < 3 → h6 = uH (uH (uH (uH h5 (vn + 1) (flt V).length (w : Int)) (vn + 2) (flt V).length (n : Int)) (vn + 3) (flt V).length ((e ++ s).length : Int)) vn 5 (((flt V).length + 1 : Nat) : Int)) → (w = 3 → h6 = uH h5 vn 7 (n : Int)) → (w = 4 → h6 = uH h5 vn 8 (n : Int)) → K (some (xi 1)) h6 al := by
          intro h6 q0 q3 q4
          obtain ⟨r1, r2, r3, r4, r5⟩ := VC.tell (c := (w, n, s)) hv hC hs he hf5 hs5 rfl h9 q0 q3 q4 hw
          refine go h6 (e ++ s) r1 ⟨r1.wd hv hW, hTt.fv2 hv r1, ⟨hv, r3.trans e3⟩, r2.trans e25, r4⟩ ?_ r5
          rw [flt_app, List.length_append, he]
          by_cases q : w < 3
          · rw [if_pos (show ((w, n, s) : Cl).1 < 3 from q), sgl_app]
          · rw [if_neg (show ¬ ((w, n, s) : Cl).1 < 3 from q), List.append_nil, h3s (by omega)]
            rfl
        refine XW_t4 [65] 40 okTe_clause ?_
        refine XW_getR okTe_clause rfl rfl e35 ?_
        refine XW_t4 [] 40 okTe_clause ?_
        refine cond_i (by show (Nat.beq (kd vn) 7 && _) = true; rw [v0]; rfl) ?_
        refine c_tells (nC := (flt V).length) (eL := (e ++ s).length) hvf hv hw g5 (by omega) hs5.1 (fun q => ?_) (fun q => ?_) (fun q => ?_)
        · exact ⟨Or.inr rfl, fin _ (fun _ => rfl) (fun q2 => absurd q (by omega)) (fun q2 => absurd q (by omega))⟩
        · exact ⟨Or.inr rfl, fin _ (fun q2 => absurd q (by omega)) (fun _ => rfl) (fun q2 => absurd q (by omega))⟩
        · exact ⟨Or.inr rfl, fin _ (fun q2 => absurd q (by omega)) (fun q2 => absurd q (by omega)) (fun _ => rfl)⟩
      have h44' := h44
      by_cases h3 : w < 3
      · rw [if_pos h3] at hok hno
        have kE : ch p4 = 32 → ∀ h5 : HH, FV vn h4 h5 → h5 40 2 = ((p4 + 1 : Nat) : Int) → CS h5 vn e → XW g (d + 20) mTe_clause K 54 [some (xr 40), some (xi (w : Int)), some (xi (n : Int))] [] h5 al := by
          intro q5 h5 hf5 hp5 hs5
          rw [if_pos q5] at hok hno
          have l1 := ch_lt t4 (p := p4) (by omega)
          have hR5 := hR4.of hf5 hp5 hs5
          refine XW_t4 [64] 40 okTe_clause ?_
          refine c_either4 t4 t2 (p4 + 1) e h5 al _ (by omega) (by omega) hR5 fun h6 hf6 hp6 hs6 => ?_
          by_cases q6 : (eiS ch (sgS ch 4) (p4 + 1)).1 = true
          · rw [if_pos q6] at hok
            refine ite_f (show ¬ bI (eiS ch (sgS ch 4) (p4 + 1)).1 = 0 by rw [show bI (eiS ch (sgS ch 4) (p4 + 1)).1 = 1 from if_pos q6]; decide) ?_
            exact k65 h6 _ _ ((hf4.trans hf5).trans hf6) (hR5.of hf6 hp6 (hs6 q6)) (fun q => absurd q (by omega)) (hok rfl)
          · rw [if_neg q6] at hno
            refine ite_t (show bI (eiS ch (sgS ch 4) (p4 + 1)).1 = 0 from if_neg q6) ?_
            exact ⟨Or.inl rfl, hno rfl h6 ((hf4.trans hf5).trans hf6).two hp6⟩
        obtain ⟨h4', rfl⟩ := id hW4
        have h44'' : wr h4' 40 4 = (n : Int) := h44
        have base : XW g (d + 20) mTe_clause K 40 [some (xr 40), some (xi (w : Int)), some (xi (n : Int))] [] (wr h4') al := by
          refine XW_t4 [54, 64] 40 okTe_clause ?_
          refine ite_t (show (w : Int) < 3 by omega) ?_
          refine c_passes hR4' (by decide) (fun q5 h5 hf5 hp5 hs5 => kE q5 h5 hf5 hp5 hs5) (fun q5 => ?_)
          rw [if_neg q5] at hno
          exact ⟨Or.inl rfl, hno rfl (wr h4') hf4.two e24⟩
        rw [← h44''] at base
        refine XW_t4 [40] 40 okTe_clause ?_
        exact base
      · rw [if_neg h3] at hok
        have base : XW g (d + 20) mTe_clause K 40 [some (xr 40), some (xi (w : Int)), some (xi (n : Int))] [] h4 al := by
          refine XW_t4 [64] 40 okTe_clause ?_
          refine ite_f (show ¬ (w : Int) < 3 by omega) ?_
          refine k65 h4 p4 [] hf4 (by rw [List.append_nil]; exact hR4) (fun _ => rfl) (hok rfl)
        rw [← h44'] at base
        obtain ⟨h4', rfl⟩ := id hW4
        refine XW_t4 [40] 40 okTe_clause ?_
        exact base
    -- word and number
    have k15 : XW g (d + 20) mTe_clause K 15 [some (xr 40), some (xi (w : Int)), none] [] h al := by
      refine XW_t4 [35] 60 okTe_clause ?_
      refine c_wordOf hw ?_
      refine c_pWord hw hR hp fun h2 hf2 hp2 hs2 => ?_
      have hR2 := hR.of hf2 hp2 hs2
      by_cases q1 : (lwS ch (wdS w) p).1 = true
      · rw [if_pos q1] at hok hno
        refine ite_f (show ¬ bI (lwS ch (wdS w) p).1 = 0 by rw [show bI (lwS ch (wdS w) p).1 = 1 from if_pos q1]; decide) ?_
        refine c_pNum hR2 a2 fun h4 hf4 hp4 hs4 hn4 => ?_
        obtain ⟨b1, b2, b3, b4⟩ := nuS_ok t4 (p := (lwS ch (wdS w) p).2) a2
        by_cases q2 : (nuS ch (lwS ch (wdS w) p).2).1 = true
        · rw [if_pos q2] at hok hno
          refine ite_f (show ¬ bI (nuS ch (lwS ch (wdS w) p).2).1 = 0 by rw [show bI (nuS ch (lwS ch (wdS w) p).2).1 = 1 from if_pos q2]; decide) ?_
          exact k35 h4 _ _ (hf2.trans hf4) (hR2.of hf4 hp4 hs4) (by omega) b2 (b3 q2).2 (hn4 q2) hok hno
        · rw [if_neg q2] at hno
          refine ite_t (show bI (nuS ch (lwS ch (wdS w) p).2).1 = 0 from if_neg q2) ?_
          exact ⟨Or.inl rfl, hno rfl h4 (hf2.trans hf4).two hp4⟩
      · rw [if_neg q1] at hno
        refine ite_t (show bI (lwS ch (wdS w) p).1 = 0 from if_neg q1) ?_
        exact ⟨Or.inl rfl, hno rfl h2 hf2.two hp2⟩
    obtain ⟨h0, rfl⟩ := hW
    refine cof ocTe_clause rfl (XW_t4 [15] 60 okTe_clause ?_)
    refine c_next hR0 ?_
    refine c_indexOfW (i := 0) (v := (w : Int)) (by decide) (by decide) (t5 p) (by rw [ix_bg, ew, if_neg h1]) ?_
    exact k15
end RE3
