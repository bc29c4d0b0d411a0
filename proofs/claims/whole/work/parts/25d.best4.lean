-- best: the reference, all codes
section BS3
variable {g : GC} {d : Nat} {al : AL} {K : KT}
variable {VL : List Cl} {nP rd : Nat} {S : Nat → Nat} {P k v : Nat → Int} {st : Nat → Nat → Int}
set_option maxRecDepth 8000 in
/-- what a lot comes to -/
theorem l_bestS {h : HH} {B L : Nat} {q cs c r u fl : Int} {f : Nat → Nat} {s : SB} (hb : BSB h B nP rd S P) (hB6 : B ≤ 6) (hL : L ≤ 6) (hLP : L ≤ nP) (hf6 : ∀ i, i < L → f i < B)
    (go : ∀ (h4 : HH), FXB VL nP P k v st h h4 → RSB h4 L s → (∀ i, i < L → h4 154 i = (f i : Int)) → XW g (d + 8) mMo_best K 206 [some (xr 120), some (xi q), some (xi (L : Int)), some (xi cs), some (xi (flB s)), some (xi s.2.1), some (xi c), some (xi r), some (xi u), some (xi fl), some (xi (tsB (wtB VL rd S P k v st) f L)), some (xi (L : Int))] [] h4 al) :
    ∀ (m i : Nat) (h3 : HH), i + m = L → FXB VL nP P k v st h h3 → RSB h3 L s → (∀ i, i < L → h3 154 i = (f i : Int)) →
      XW g (d + 8) mMo_best K 176 [some (xr 120), some (xi q), some (xi (L : Int)), some (xi cs), some (xi (flB s)), some (xi s.2.1), some (xi c), some (xi r), some (xi u), some (xi fl), some (xi (tsB (wtB VL rd S P k v st) f i)), some (xi (i : Int))] [] h3 al := by
  intro m
  induction m with
  | zero =>
    intro i h3 hi hf hs h154
    have ei : i = L := by omega
    subst ei
    have t := go h3 hf hs h154
    obtain ⟨h3', rfl⟩ := (hb.at hf).1
    refine XW_t4 [176, 206] 40 okMo_best ?_
    refine ite_f (by omega) ?_
    exact t
  | succ m ih =>
    intro i h3 hi hf hs h154
    have hi6 : i < 6 := by omega
    have hiL : i < L := by omega
    obtain ⟨hW3, e0, e2, hr, eS, hPI⟩ := hb.at hf
    have nx := fun h4 a b c => ih (i + 1) h4 (by omega) a b c
    have e154 := h154 i hiL
    have hfi := hf6 i hiL
    obtain ⟨h3', rfl⟩ := id hW3
    refine XW_t4 [176, 206] 60 okMo_best ?_
    refine ite_t (by omega) ?_
    refine ⟨i, rfl, by show i < 6; exact hi6, _, e154, ?_⟩
    refine c_worthNow (VL := VL) (k := k) (v := v) (st := st) (nP := nP) (rd := rd) (S := S) (P := P) (p := i) (i := f i) hW3 hf.2.1 hf.2.2.1 (by omega) (by omega) rfl rfl e2 hr (eS _ hfi) (hf.2.2.2 i (by omega)) (hPI i (by omega)) fun h4 hm4 hM4 => ?_
    have t := nx h4 (hf.mf hm4 hM4) (fun e i2 hi2 => (hm4 155 i2 (by decide) (by decide)).trans (hs e i2 hi2)) (fun i2 hi2 => (hm4 154 i2 (by decide) (by decide)).trans (h154 i2 hi2))
    rw [← nS i (by omega)] at t
    exact t
set_option maxRecDepth 8000 in
/-- the best lot is kept -/
theorem l_bestC {h : HH} {B L : Nat} {q cs c r u fl so mo su : Int} {f : Nat → Nat} (hb : BSB h B nP rd S P) (hL : L ≤ 6)
    (go : ∀ (h4 : HH), FXB VL nP P k v st h h4 → (∀ i, i < L → h4 155 i = (f i : Int)) → XW g (d + 8) mMo_best K 257 [some (xr 120), some (xi q), some (xi (L : Int)), some (xi cs), some (xi so), some (xi mo), some (xi c), some (xi r), some (xi u), some (xi fl), some (xi su), some (xi (L : Int))] [] h4 al) :
    ∀ (m i : Nat) (h3 : HH), i + m = L → FXB VL nP P k v st h h3 → (∀ i, i < L → h3 154 i = (f i : Int)) → (∀ i2, i2 < i → h3 155 i2 = (f i2 : Int)) →
      XW g (d + 8) mMo_best K 231 [some (xr 120), some (xi q), some (xi (L : Int)), some (xi cs), some (xi so), some (xi mo), some (xi c), some (xi r), some (xi u), some (xi fl), some (xi su), some (xi (i : Int))] [] h3 al := by
  intro m
  induction m with
  | zero =>
    intro i h3 hi hf h154 h155
    have ei : i = L := by omega
    subst ei
    have t := go h3 hf h155
    obtain ⟨h3', rfl⟩ := (hb.at hf).1
    refine XW_t4 [231, 257] 40 okMo_best ?_
    refine ite_f (by omega) ?_
    exact t
  | succ m ih =>
    intro i h3 hi hf h154 h155
    have hi6 : i < 6 := by omega
    have hiL : i < L := by omega
    have hW3 := (hb.at hf).1
    have e154 := h154 i hiL
    have t := ih (i + 1) (uH h3 155 i (f i : Int)) (by omega) (hf.up (Or.inr rfl)) (fun i2 hi2 => by rw [uH_ne (fun q => absurd q.1 (by decide))]; exact h154 i2 hi2) (fun i2 hi2 => by
      by_cases e : i2 = i
      · rw [e, uH_at]
      · rw [uH_ne (fun q => e q.2)]
        exact h155 i2 (by omega))
    rw [← nS i (by omega)] at t
    obtain ⟨h3', rfl⟩ := id hW3
    refine XW_t4 [231, 257] 60 okMo_best ?_
    refine ite_t (by omega) ?_
    refine ⟨i, rfl, by show i < 6; exact hi6, _, e154, ?_⟩
    refine ⟨i, rfl, by show i < 6; exact hi6, ?_⟩
    exact t
set_option maxRecDepth 8000 in
/-- all codes, one after the other -/
theorem l_bestO {h : HH} {B L N : Nat} {q : Int} (hb : BSB h B nP rd S P) (hB6 : B ≤ 6) (hL : L ≤ 6) (hLP : L ≤ nP) (hLB : L ≤ B) (hN : N < 50000)
    (go : ∀ (h4 : HH) (x7 x8 x9 x10 x11 : Option XV), FXB VL nP P k v st h h4 → RSB h4 L (GB (wtB VL rd S P k v st) B L N) → XW g (d + 8) mMo_best K 263 [some (xr 120), some (xi q), some (xi (L : Int)), some (xi (N : Int)), some (xi (flB (GB (wtB VL rd S P k v st) B L N))), some (xi (GB (wtB VL rd S P k v st) B L N).2.1), some (xi (N : Int)), x7, x8, x9, x10, x11] [] h4 al) :
    ∀ (m c : Nat) (h3 : HH) (x7 x8 x9 x10 x11 : Option XV), c + m = N → FXB VL nP P k v st h h3 → RSB h3 L (GB (wtB VL rd S P k v st) B L c) →
      XW g (d + 8) mMo_best K 66 [some (xr 120), some (xi q), some (xi (L : Int)), some (xi (N : Int)), some (xi (flB (GB (wtB VL rd S P k v st) B L c))), some (xi (GB (wtB VL rd S P k v st) B L c).2.1), some (xi (c : Int)), x7, x8, x9, x10, x11] [] h3 al := by
  intro m
  induction m with
  | zero =>
    intro c h3 x7 x8 x9 x10 x11 hc hf hs
    have ec : c = N := by omega
    subst ec
    have t := go h3 x7 x8 x9 x10 x11 hf hs
    obtain ⟨h3', rfl⟩ := (hb.at hf).1
    refine XW_t4 [66, 263] 40 okMo_best ?_
    refine ite_f (by omega) ?_
    exact t
  | succ m ih =>
    intro c h3 x7 x8 x9 x10 x11 hc hf hs
    have hfl01 : ∀ s : SB, flB s = 0 ∧ s.1 = false ∨ flB s = 1 ∧ s.1 = true := fun s => by
      cases e : s.1 with
      | true => exact Or.inr ⟨if_pos e, rfl⟩
      | false => exact Or.inl ⟨if_neg (by rw [e]; decide), rfl⟩
    obtain ⟨s, es⟩ : ∃ s, s = GB (wtB VL rd S P k v st) B L c := ⟨_, rfl⟩
    have eN : GB (wtB VL rd S P k v st) B L (c + 1) = stB (wtB VL rd S P k v st) B L c s := by rw [es]; rfl
    rw [← es] at hs ⊢
    -- to the next code
    have nx : ∀ (h4 : HH) (s2 : SB) (x7 x8 x9 x10 x11 : Option XV), s2 = stB (wtB VL rd S P k v st) B L c s → FXB VL nP P k v st h h4 → RSB h4 L s2 → XW g (d + 8) mMo_best K 257 [some (xr 120), some (xi q), some (xi (L : Int)), some (xi (N : Int)), some (xi (flB s2)), some (xi s2.2.1), some (xi (c : Int)), x7, x8, x9, x10, x11] [] h4 al := by
      intro h4 s2 x7 x8 x9 x10 x11 e2 hf4 hs4
      have t := ih (c + 1) h4 x7 x8 x9 x10 x11 (by omega) hf4 (by rw [eN, ← e2]; exact hs4)
      rw [eN, ← e2, ← nS c (by omega)] at t
      obtain ⟨h4', rfl⟩ := (hb.at hf4).1
      refine XW_t4 [66] 40 okMo_best ?_
      exact t
    -- a lot is there
    have k162 : ∀ (h4 : HH) (fl us r : Int), FXB VL nP P k v st h h4 → RSB h4 L s → (∀ i, i < L → h4 154 i = (dgB B L c i : Int)) → fl = (if dsB B L c then 1 else 0) → XW g (d + 8) mMo_best K 162 [some (xr 120), some (xi q), some (xi (L : Int)), some (xi (N : Int)), some (xi (flB s)), some (xi s.2.1), some (xi (c : Int)), some (xi r), some (xi us), some (xi fl), some (xi (-1)), x11] [] h4 al := by
      intro h4 fl us r hf4 hs4 h154 efl
      by_cases hd : dsB B L c
      · rw [if_pos hd] at efl
        subst efl
        -- the sum is known
        have k206 : ∀ (h5 : HH), FXB VL nP P k v st h h5 → RSB h5 L s → (∀ i, i < L → h5 154 i = (dgB B L c i : Int)) → XW g (d + 8) mMo_best K 206 [some (xr 120), some (xi q), some (xi (L : Int)), some (xi (N : Int)), some (xi (flB s)), some (xi s.2.1), some (xi (c : Int)), some (xi r), some (xi us), some (xi 1), some (xi (tsB (wtB VL rd S P k v st) (dgB B L c) L)), some (xi (L : Int))] [] h5 al := by
          intro h5 hf5 hs5 h1545
          obtain ⟨T, eT⟩ : ∃ T, T = tsB (wtB VL rd S P k v st) (dgB B L c) L := ⟨_, rfl⟩
          rw [← eT]
          have take : (s.1 = true → s.2.1 < T) → XW g (d + 8) mMo_best K 221 [some (xr 120), some (xi q), some (xi (L : Int)), some (xi (N : Int)), some (xi (flB s)), some (xi s.2.1), some (xi (c : Int)), some (xi r), some (xi us), some (xi 1), some (xi T), some (xi (L : Int))] [] h5 al := by
            intro q3
            have e2 : stB (wtB VL rd S P k v st) B L c s = (true, T, dgB B L c) := by
              unfold stB
              rw [← eT, if_pos ⟨hd, q3⟩]
            have t := l_bestC (VL := VL) (k := k) (v := v) (st := st) (g := g) (d := d) (al := al) (K := K) (q := q) (cs := (N : Int)) (c := (c : Int)) (r := r) (u := us) (fl := 1) (so := 1) (mo := T) (su := T) (f := dgB B L c) hb hL (fun h6 hf6 h155 => by
              have t2 := nx h6 (true, T, dgB B L c) (some (xi r)) (some (xi us)) (some (xi 1)) (some (xi T)) (some (xi (L : Int))) e2.symm hf6 (fun _ i hi => h155 i hi)
              exact t2) L 0 h5 (by omega) hf5 h1545 (fun i hi => absurd hi (Nat.not_lt_zero _))
            obtain ⟨h5', rfl⟩ := (hb.at hf5).1
            refine XW_t4 [231] 40 okMo_best ?_
            exact t
          have stay : s.1 = true → ¬ s.2.1 < T → XW g (d + 8) mMo_best K 257 [some (xr 120), some (xi q), some (xi (L : Int)), some (xi (N : Int)), some (xi (flB s)), some (xi s.2.1), some (xi (c : Int)), some (xi r), some (xi us), some (xi 1), some (xi T), some (xi (L : Int))] [] h5 al := by
            intro q3 q4
            refine nx h5 s _ _ _ _ _ ?_ hf5 hs5
            unfold stB
            rw [← eT, if_neg fun q5 => q4 (q5.2 q3)]
          obtain ⟨h5', rfl⟩ := (hb.at hf5).1
          refine XW_t4 [221, 257] 40 okMo_best ?_
          refine ite_i (fun q5 => ?_) (fun q5 => ?_)
          · have q5 : flB s = 0 := q5
            refine take fun q6 => ?_
            rcases hfl01 s with ⟨-, q7⟩ | ⟨q7, -⟩
            · rw [q7] at q6; cases q6
            · omega
          · have q5 : ¬ flB s = 0 := q5
            have q6 : s.1 = true := by
              rcases hfl01 s with ⟨q7, -⟩ | ⟨-, q7⟩
              · exact absurd q7 q5
              · exact q7
            refine ite_i (fun q7 => ?_) (fun q7 => ?_)
            · exact take fun _ => q7
            · exact stay q6 q7
        have t := l_bestS (VL := VL) (k := k) (v := v) (st := st) (g := g) (d := d) (al := al) (K := K) (q := q) (cs := (N : Int)) (c := (c : Int)) (r := r) (u := us) (fl := 1) (f := dgB B L c) (s := s) hb hB6 hL hLP (fun i hi => dgB_lt (by omega)) k206 L 0 h4 (by omega) hf4 hs4 h154
        obtain ⟨h4', rfl⟩ := (hb.at hf4).1
        refine XW_t4 [176, 257] 40 okMo_best ?_
        exact t
      · rw [if_neg hd] at efl
        subst efl
        have t := nx h4 s (some (xi r)) (some (xi us)) (some (xi 0)) (some (xi (-1))) x11 (by unfold stB; rw [if_neg fun q3 => hd q3.1]) hf4 hs4
        obtain ⟨h4', rfl⟩ := (hb.at hf4).1
        refine XW_t4 [176, 257] 40 okMo_best ?_
        exact t
    have t := l_bestD (VL := VL) (k := k) (v := v) (st := st) (g := g) (d := d) (al := al) (K := K) (q := q) (cs := (N : Int)) (x11 := x11) (s := s) (c := c) hb hB6 hL hLB (by omega) k162 L 0 0 h3 1 (by omega) hf hs (fun i q1 q2 => absurd q1 (by omega)) (by decide) (fun b hb2 => ⟨fun q3 => (by rw [Nat.zero_testBit] at q3; cases q3), fun ⟨i, q1, q2, _⟩ => absurd q1 (by omega)⟩) (Or.inl ⟨rfl, fun b hb2 a ha hab => absurd ha (by omega)⟩)
    rw [Nat.pow_zero, Nat.div_one, show (L : Int) - 1 - ((0 : Nat) : Int) = wI ((L : Int) - 1) by rw [wI_id (by omega)]; omega] at t
    obtain ⟨h3', rfl⟩ := (hb.at hf).1
    refine XW_t4 [66, 87] 60 okMo_best ?_
    refine ite_t (by omega) ?_
    exact t
theorem mulB {B i : Nat} (hB : B ≤ 6) (hi : i < 6) : wI (((B ^ i : Nat) : Int) * (B : Int)) = ((B ^ (i + 1) : Nat) : Int) := by
  have h1 := pow6 hB (show i + 1 ≤ 6 by omega)
  have h2 : ((B ^ i : Nat) : Int) * (B : Int) = ((B ^ (i + 1) : Nat) : Int) := by rw [Nat.pow_succ]; exact (Int.natCast_mul _ _).symm
  rw [h2]
  generalize B ^ (i + 1) = x at h1 ⊢
  exact wI_id (by omega)
set_option maxRecDepth 8000 in
/-- how many codes there are, then all of them -/
theorem l_bestN {h : HH} {B L : Nat} {q : Int} (hb : BSB h B nP rd S P) (hB6 : B ≤ 6) (hL : L ≤ 6) (hLP : L ≤ nP) (hLB : L ≤ B) (hf : FXB VL nP P k v st h h)
    (go : ∀ (h4 : HH) (x6 x7 x8 x9 x10 x11 : Option XV), FXB VL nP P k v st h h4 → RSB h4 L (GB (wtB VL rd S P k v st) B L (B ^ L)) → ∀ cs : Int, XW g (d + 8) mMo_best K 263 [some (xr 120), some (xi q), some (xi (L : Int)), some (xi cs), some (xi (flB (GB (wtB VL rd S P k v st) B L (B ^ L)))), some (xi (GB (wtB VL rd S P k v st) B L (B ^ L)).2.1), x6, x7, x8, x9, x10, x11] [] h4 al) :
    ∀ m i : Nat, i + m = L → XW g (d + 8) mMo_best K 38 [some (xr 120), some (xi q), some (xi (L : Int)), some (xi ((B ^ i : Nat) : Int)), some (xi (i : Int)), none, none, none, none, none, none, none] [] h al := by
  intro m
  induction m with
  | zero =>
    intro i hi
    have ei : i = L := by omega
    subst ei
    have hp := pow6 hB6 hL
    have t := l_bestO (VL := VL) (k := k) (v := v) (st := st) (g := g) (d := d) (al := al) (K := K) (q := q) (N := B ^ i) hb hB6 hL hLP hLB (by omega) (fun h4 x7 x8 x9 x10 x11 a b => go h4 _ x7 x8 x9 x10 x11 a b _) (B ^ i) 0 h none none none none none (by omega) hf (fun q => by cases q)
    obtain ⟨h', rfl⟩ := id hb.1
    refine XW_t4 [38, 66] 40 okMo_best ?_
    refine ite_f (by omega) ?_
    exact t
  | succ m ih =>
    intro i hi
    have t := ih (i + 1) (by omega)
    have e0 := hb.2.1
    have em := mulB hB6 (show i < 6 by omega)
    rw [← em, ← e0, ← nS i (by omega)] at t
    clear em
    obtain ⟨h', rfl⟩ := id hb.1
    refine XW_t4 [38, 66] 40 okMo_best ?_
    refine ite_t (by omega) ?_
    exact t
end BS3
