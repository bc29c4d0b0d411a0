-- grounds of the class, and the valley that holds
theorem vz_vnm {z : Int} (hz : -1 ≤ z ∧ z < 5) : vz (vnm z) = z := by
  unfold vz vnm
  by_cases q : 0 ≤ z ∧ z < 5
  · rw [if_pos q, if_neg (by omega)]
    omega
  · rw [if_neg q, if_pos (show ((80 : Nat) : Int) = 80 from rfl)]
    omega
theorem vnm_VN (z : Int) : VN (vnm z) := by
  unfold vnm
  by_cases q : 0 ≤ z ∧ z < 5
  · rw [if_pos q]
    unfold VN
    omega
  · rw [if_neg q]
    exact Or.inl rfl
theorem CVs.at {h : HH} {V : Nat → List Cl} {nV z : Int} (hC : CVs h V nV) (hz : -1 ≤ z ∧ z < nV) (h5 : nV ≤ 5) : VCl h (vnm z) (Vw V z) := by
  unfold vnm Vw
  by_cases q : 0 ≤ z ∧ z < 5
  · rw [if_pos q, if_pos q]
    exact hC.2 z.toNat (by omega) (by omega)
  · rw [if_neg q, if_neg q]
    exact hC.1
theorem GT.fr {h h2 : HH} {gn : Nat} {T : TB} (hT : GT h gn T) (hq : ∀ a k, gn ≤ a → a ≤ gn + 6 → h2 a k = h a k) : GT h2 gn T := fun w l s q1 q2 q3 q4 => (hq _ _ (by omega) (by omega)).trans (hT w l s q1 q2 q3 q4)
theorem GF.fr {h h2 : HH} {gn : Nat} (hT : GF h gn) (hq : ∀ k, h2 gn k = h gn k) : GF h2 gn := by
  unfold GF at hT ⊢
  rw [hq, hq, hq, hq, hq, hq]
  exact hT
theorem GPl.fr {h h2 : HH} {gn : Nat} {T : TB} (hT : GPl h gn T) (hq : ∀ a k, gn ≤ a → a ≤ gn + 6 → h2 a k = h a k) : GPl h2 gn T := by
  obtain ⟨h1, h3⟩ := hT
  have e : ∀ k, h2 gn k = h gn k := fun k => hq gn k (by omega) (by omega)
  refine ⟨by rw [e]; exact h1, fun l s q1 q2 => ?_⟩
  rw [e] at q2
  rw [hq (gn + 4) _ (by omega) (by omega), hq (gn + 5) _ (by omega) (by omega), e]
  exact h3 l s q1 q2
theorem tbG_fr {h h2 : HH} {V : Nat → List Cl} {p : Nat} (hq : h2 (230 + 8 * p) 8 = h (230 + 8 * p) 8) : tbG h2 V p = tbG h V p := by
  unfold tbG gV
  rw [hq]
theorem GS.fr {h h2 : HH} {V : Nat → List Cl} {nV : Int} {p : Nat} (hS : GS h V nV p) (hq : ∀ a k, 230 + 8 * p ≤ a → a ≤ 230 + 8 * p + 6 → h2 a k = h a k) : GS h2 V nV p := by
  have e : ∀ k, h2 (230 + 8 * p) k = h (230 + 8 * p) k := fun k => hq _ k (by omega) (by omega)
  obtain ⟨s1, s2, s3, s4, s5, s6, s7⟩ := hS
  refine ⟨s1.fr e, (e 0).trans s2, (e 1).trans s3, by rw [e]; exact s4, ?_, ?_, ?_⟩
  · unfold gV
    rw [e, e]
    exact s5
  · rw [tbG_fr (e 8)]
    exact s6.fr hq
  · rw [tbG_fr (e 8)]
    exact s7.fr hq
theorem GV.fr {h h2 : HH} {al al2 : AL} {V : Nat → List Cl} {nV : Int} {p : Nat} (hS : GV h al V nV p) (h5 : h2 5 p = h 5 p) (ha : ∀ j, j < 7 → al2 (230 + 8 * p + j) = al (230 + 8 * p + j)) (hq : ∀ a k, 230 + 8 * p ≤ a → a ≤ 230 + 8 * p + 6 → h2 a k = h a k) : GV h2 al2 V nV p := by
  rcases hS with ⟨s1, s2⟩ | ⟨s1, s2⟩
  · exact Or.inl ⟨h5.trans s1, fun j hj => (ha j hj).trans (s2 j hj)⟩
  · exact Or.inr ⟨h5.trans s1, s2.fr hq⟩
/-- what asking the class may change -/
def tG (a : Nat) : Bool := Nat.beq a 5 || Nat.ble 230 a || (Nat.ble 85 a && Nat.ble a 115 && Nat.beq ((a - 85) % 6) 0)
def CF (h : HH) (al : AL) (h2 : HH) (al2 : AL) : Prop := (∀ a k, tG a = false → h2 a k = h a k) ∧ ∀ a, a < 230 → al2 a = al a
theorem CF.refl {h : HH} {al : AL} : CF h al h al := ⟨fun _ _ _ => rfl, fun _ _ => rfl⟩
theorem CF.trans {h h2 h3 : HH} {al al2 al3 : AL} (a : CF h al h2 al2) (b : CF h2 al2 h3 al3) : CF h al h3 al3 := ⟨fun q k e => (b.1 q k e).trans (a.1 q k e), fun q e => (b.2 q e).trans (a.2 q e)⟩
theorem wlG {a : Nat} (ha : 230 ≤ a) : wl a = [] := by
  by_cases h : a < 240
  · have c : ck 240 (fun a => decide (230 ≤ a → wl a = [])) = true := by decide +kernel
    exact of_decide_eq_true (ck_of c h) ha
  · unfold wl
    rw [show wlT.getD (a / 16) [] = [] from by
      rw [List.getD_eq_getElem?_getD, List.getElem?_eq_none (show wlT.length ≤ a / 16 by show 15 ≤ a / 16; omega)]
      rfl]
    rfl
theorem tG_wl {a : Nat} (ha : tG a = true) : wl a = [] := by
  by_cases h : a < 230
  · have c : ck 230 (fun a => decide (tG a = true → wl a = [])) = true := by decide +kernel
    exact of_decide_eq_true (ck_of c h) ha
  · exact wlG (by omega)
theorem tG_g {a : Nat} (h1 : tG a = false) : a < 230 ∧ a ≠ 5 := by
  unfold tG at h1
  simp only [Bool.or_eq_false_iff] at h1
  obtain ⟨⟨h2, h3⟩, -⟩ := h1
  refine ⟨?_, fun q => ?_⟩
  · have : ¬ Nat.ble 230 a = true := by rw [h3]; decide
    rw [Nat.ble_eq] at this
    omega
  · rw [q] at h2
    cases h2
theorem tG_v {a vn : Nat} (hv : VN vn) (h1 : tG a = false) : a ≠ vn + 5 := by
  intro q
  subst q
  rcases hv with rfl | rfl | rfl | rfl | rfl | rfl <;> cases h1
theorem CF.wd {h h2 : HH} {al al2 : AL} (hc : CF h al h2 al2) (hW : Wd h) : Wd h2 := hW.of fun a k hk => hc.1 a k (by
  cases e : tG a with
  | false => rfl
  | true => exact absurd (by rw [tG_wl e]; show (-9 : Int) < 0; decide) hk)
theorem CVs.cf {h h2 : HH} {al al2 : AL} {V : Nat → List Cl} {nV : Int} (hC : CVs h V nV) (hc : CF h al h2 al2) : CVs h2 V nV := by
  have c : ck 6 (fun f => ck 5 (fun j => !tG (80 + 6 * f + j))) = true := by decide +kernel
  have c2 : ∀ f j, f < 6 → j < 5 → tG (80 + 6 * f + j) = false := fun f j hf hj => by
    have := ck_of (ck_of c hf) hj
    cases e : tG (80 + 6 * f + j) with
    | false => rfl
    | true => rw [e] at this; cases this
  have go : ∀ f, f < 6 → (∀ a k, 80 + 6 * f + 1 ≤ a → a ≤ 80 + 6 * f + 4 → h2 a k = h a k) ∧ ∀ k, h2 (80 + 6 * f) k = h (80 + 6 * f) k := fun f hf =>
    ⟨fun a k q1 q2 => hc.1 a k (by have := c2 f (a - (80 + 6 * f)) hf (by omega); rwa [show 80 + 6 * f + (a - (80 + 6 * f)) = a by omega] at this), fun k => hc.1 _ k (c2 f 0 hf (by decide))⟩
  refine ⟨hC.1.fr (go 0 (by decide)).1 (go 0 (by decide)).2, fun f hf hf2 => ?_⟩
  have := go (f + 1) (by omega)
  rw [show 80 + 6 * (f + 1) = 86 + 6 * f by omega] at this
  exact (hC.2 f hf hf2).fr this.1 this.2
/-- a ground goes on planning -/
theorem CGs.sp {h h2 : HH} {al : AL} {V : Nat → List Cl} {nV : Int} {p : Nat} (hC : CGs h al V nV) (hp : p < 42) (h5 : h 5 p = ((230 + 8 * p : Nat) : Int)) (hS : SP2 h h2 (230 + 8 * p)) (hP : GPl h2 (230 + 8 * p) (tbG h V p)) : CF h al h2 al ∧ CGs h2 al V nV := by
  have hc : CF h al h2 al := ⟨fun a k e => by have := tG_g e; exact hS.1 a k (by omega) (by omega) (by omega) (by omega), fun _ _ => rfl⟩
  refine ⟨hc, ⟨hC.1.1, hC.1.2.cf hc⟩, fun q hq => ?_⟩
  have f5 : h2 5 q = h 5 q := hS.1 5 q (by omega) (by omega) (by omega) (by omega)
  by_cases e : q = p
  · subst e
    rcases hC.2 q hq with ⟨s1, s2⟩ | ⟨s1, s2⟩
    · rw [s1] at h5
      omega
    · obtain ⟨t1, t2, t3, t4, t5, t6, t7⟩ := s2
      have e8 := hS.2 8 (by decide) (by decide)
      refine Or.inr ⟨f5.trans s1, hS.gf t1, (hS.2 0 (by decide) (by decide)).trans t2, (hS.2 1 (by decide) (by decide)).trans t3, by rw [e8]; exact t4, ?_, ?_, ?_⟩
      · unfold gV
        rw [e8, hS.2 9 (by decide) (by decide)]
        exact t5
      · rw [tbG_fr e8]
        exact hS.gt t6
      · rw [tbG_fr e8]
        exact hP
  · exact (hC.2 q hq).fr f5 (fun _ _ => rfl) fun a k q1 q2 => hS.1 a k (by omega) (by omega) (by omega) (by omega)
section GR
variable {g : GC} {d : Nat} {h : HH} {al : AL} {K : KT}
theorem c_floorMod {i : Nat} (hi : i < 6) (hK : K (some (xi (i : Int))) h al) : Call g (d + 1) yJ9_floorMod_7cf53 [xi (i : Int), xi 6] h al K := by
  have c : ck 6 (fun i => decide (0 ≤ eI (i : Int) 6)) = true := by decide +kernel
  have e := of_decide_eq_true (ck_of c hi)
  have e2 : (i : Int).tmod 6 = (i : Int) := by
    show ((i % 6 : Nat) : Int) = (i : Int)
    rw [Nat.mod_eq_of_lt hi]
  refine cof ocJ9_floorMod_7cf53 rfl (XW_t4 [] 40 okJ9_floorMod_7cf53 ?_)
  refine ⟨by decide, ?_⟩
  refine ite_f (by omega) ?_
  show K (some (xi ((i : Int).tmod 6))) h al
  rw [e2]
  exact hK
theorem c_Grinit {gn : Nat} {x y : Int} (hg : GN gn) (h0 : h gn 8 = -1) (hal : ∀ j, 1 ≤ j → j < 7 → al (gn + j) = false)
    (hK : ∀ (h2 : HH) (al2 : AL), (∀ a k, a < gn ∨ gn + 6 < a → h2 a k = h a k) → (∀ a, a < gn + 1 ∨ gn + 6 < a → al2 a = al a) → GF h2 gn → h2 gn 0 = x → h2 gn 1 = y → h2 gn 8 = -1 → h2 gn 11 = -1 → K none h2 al2) :
    Call g (d + 1) yGr_init [xr (Int.ofNat gn), xi x, xi y] h al K := by
  obtain ⟨k0, k1, k2, k3, k4, k5, k6⟩ := hg.k
  obtain ⟨l1, l2, l3, l4, l5, l6⟩ := hg.l g
  refine cof ocGr_init rfl (XW_t4 [] 80 okGr_init ?_)
  refine ⟨gn + 1, k1, hal 1 (by decide) (by decide), by rw [l1]; rfl, ?_⟩
  refine cond_i (by rw [k0]; rfl) ⟨2, rfl, ?_⟩
  refine ⟨gn + 2, k2, (upA_ne (by omega)).trans (hal 2 (by decide) (by decide)), by rw [l2]; rfl, ?_⟩
  refine cond_i (by rw [k0]; rfl) ⟨3, rfl, ?_⟩
  refine ⟨gn + 3, k3, (upA_ne (by omega)).trans ((upA_ne (by omega)).trans (hal 3 (by decide) (by decide))), by rw [l3]; rfl, ?_⟩
  refine cond_i (by rw [k0]; rfl) ⟨4, rfl, ?_⟩
  refine ⟨gn + 4, k4, (upA_ne (by omega)).trans ((upA_ne (by omega)).trans ((upA_ne (by omega)).trans (hal 4 (by decide) (by decide)))), by rw [l4]; rfl, ?_⟩
  refine cond_i (by rw [k0]; rfl) ⟨5, rfl, ?_⟩
  refine ⟨gn + 5, k5, (upA_ne (by omega)).trans ((upA_ne (by omega)).trans ((upA_ne (by omega)).trans ((upA_ne (by omega)).trans (hal 5 (by decide) (by decide))))), by rw [l5]; rfl, ?_⟩
  refine cond_i (by rw [k0]; rfl) ⟨6, rfl, ?_⟩
  refine ⟨gn + 6, k6, (upA_ne (by omega)).trans ((upA_ne (by omega)).trans ((upA_ne (by omega)).trans ((upA_ne (by omega)).trans ((upA_ne (by omega)).trans (hal 6 (by decide) (by decide)))))), by rw [l6]; rfl, ?_⟩
  refine cond_i (by rw [k0]; rfl) ⟨7, rfl, ?_⟩
  refine cond_i (by rw [k0]; rfl) ⟨11, rfl, ?_⟩
  refine cond_i (by rw [k0]; rfl) ⟨0, rfl, ?_⟩
  refine cond_i (by rw [k0]; rfl) ⟨1, rfl, ?_⟩
  refine hK _ _ (fun a k q => ?_) (fun a q => ?_) ⟨?_, ?_, ?_, ?_, ?_, ?_⟩ ?_ ?_ ?_ ?_
  · rw [uH_ne (by omega), uH_ne (by omega), uH_ne (by omega), uH_ne (by omega), clr_ne (by omega), uH_ne (by omega), clr_ne (by omega), uH_ne (by omega), clr_ne (by omega), uH_ne (by omega), clr_ne (by omega), uH_ne (by omega), clr_ne (by omega), uH_ne (by omega), clr_ne (by omega)]
  · rw [upA_ne (by omega), upA_ne (by omega), upA_ne (by omega), upA_ne (by omega), upA_ne (by omega), upA_ne (by omega)]
  · rw [uH_ne (by omega), uH_ne (by omega), uH_ne (by omega), uH_ne (by omega), clr_ne (by omega), uH_ne (by omega), clr_ne (by omega), uH_ne (by omega), clr_ne (by omega), uH_ne (by omega), clr_ne (by omega), uH_ne (by omega), clr_ne (by omega), uH_at]; rfl
  · rw [uH_ne (by omega), uH_ne (by omega), uH_ne (by omega), uH_ne (by omega), clr_ne (by omega), uH_ne (by omega), clr_ne (by omega), uH_ne (by omega), clr_ne (by omega), uH_ne (by omega), clr_ne (by omega), uH_at]; rfl
  · rw [uH_ne (by omega), uH_ne (by omega), uH_ne (by omega), uH_ne (by omega), clr_ne (by omega), uH_ne (by omega), clr_ne (by omega), uH_ne (by omega), clr_ne (by omega), uH_at]; rfl
  · rw [uH_ne (by omega), uH_ne (by omega), uH_ne (by omega), uH_ne (by omega), clr_ne (by omega), uH_ne (by omega), clr_ne (by omega), uH_at]; rfl
  · rw [uH_ne (by omega), uH_ne (by omega), uH_ne (by omega), uH_ne (by omega), clr_ne (by omega), uH_at]; rfl
  · rw [uH_ne (by omega), uH_ne (by omega), uH_ne (by omega), uH_at]; rfl
  · rw [uH_ne (by omega), uH_at]
  · rw [uH_at]
  · rw [uH_ne (by omega), uH_ne (by omega), uH_ne (by omega), uH_ne (by omega), clr_ne (by omega), uH_ne (by omega), clr_ne (by omega), uH_ne (by omega), clr_ne (by omega), uH_ne (by omega), clr_ne (by omega), uH_ne (by omega), clr_ne (by omega), uH_ne (by omega), clr_ne (by omega)]
    exact h0
  · rw [uH_ne (by omega), uH_ne (by omega), uH_at]
end GR
