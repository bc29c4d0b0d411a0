-- act
section Q24
variable {g : GC} {d : Nat} {h h2 : HH} {al : AL} {K : KT} {pn c wn nN : Nat} {v x : Int}
theorem acL (hc : c < 7) (hw : wn < 3) : (acB wn c c).length ≤ 20 := by
  have e : c = 0 ∨ c = 1 ∨ c = 2 ∨ c = 3 ∨ c = 4 ∨ c = 5 ∨ c = 6 := by omega
  have e2 : wn = 0 ∨ wn = 1 ∨ wn = 2 := by omega
  rcases e with rfl | rfl | rfl | rfl | rfl | rfl | rfl <;> rcases e2 with rfl | rfl | rfl <;> decide
def XQ (h h2 : HH) : Prop := ∀ a k, ¬ (a = 61 ∨ a = 162 ∨ (a = 60 ∧ 1 ≤ k ∧ k ≤ 4) ∨ (a = 120 ∧ k = 69)) → h2 a k = h a k
theorem XQ.wd (f : XQ h h2) (hW : Wd h) : Wd h2 := hW.of fun a k hk => f a k (by
  rintro (rfl | rfl | ⟨rfl, q⟩ | ⟨rfl, rfl⟩)
  · exact hk (by show (-9 : Int) < 0; decide)
  · exact hk (by show (-9 : Int) < 0; decide)
  · have : k = 1 ∨ k = 2 ∨ k = 3 ∨ k = 4 := by omega
    rcases this with rfl | rfl | rfl | rfl <;> exact hk (by decide)
  · exact hk (by decide))
theorem Sim.act (hS : Sim h al) (f : XQ h h2) (hC : C0 h2) : Sim h2 al := by
  refine hS.mk2 (f.wd hS.1) (Or.inr fun a k hk => f a k ?_) (Or.inr fun a k hk => f a k ?_) (Or.inr ⟨fun a k hk => f a k ?_, fun _ _ _ => rfl⟩) (Or.inr fun a k hk => f a k ?_) (Or.inr fun a k hk => f a k ?_) (Or.inl hC) (fun a k hk => f a k ?_) (Or.inr ⟨fun a k hk => f a k ?_, fun _ _ => rfl⟩)
  · unfold pN at hk; omega
  · unfold pI at hk; omega
  · unfold pH at hk; omega
  · unfold pT at hk; omega
  · unfold pP at hk; omega
  · unfold pK at hk; omega
  · unfold pV at hk; omega
theorem c_begin {ho : Nat} (hW : Wd h) (hh : HN ho) (f0 : h ho 0 = (pn : Int)) (f1 : h ho 1 = (c : Int)) (f2 : h ho 2 = v) (hr : h 60 1 = 0) (hka : ∀ j : Nat, j < 7 → h 181 j = kaT.getD j 0) (hbo : ∀ j : Nat, j < 21 → h 182 j = boT.getD j 0) (hc : c < 7) (hw : wn < 3) (hK : ∀ h3 : HH, LGr 61 60 1 (uH (uH (uH h 60 2 (c : Int)) 60 3 (pn : Int)) 60 4 v) h3 0 (acB wn c c) → K (some (xi (acV wn c c x (pn : Int) v))) h3 al) : Call g (d + 19) yAc_begin [xr 60, xr (Int.ofNat ho), xi (wn : Int), xi x] h al K := by
  obtain ⟨k0, -⟩ := hh.k
  obtain ⟨i, hi, e⟩ := hh
  have f : XQ h (uH (uH (uH h 60 2 (c : Int)) 60 3 (pn : Int)) 60 4 v) := fun a k hk => by rw [uH_ne (by omega), uH_ne (by omega), uH_ne (by omega)]
  have hA : AcF (uH (uH (uH h 60 2 (c : Int)) 60 3 (pn : Int)) 60 4 v) c (pn : Int) v := ⟨f.wd hW, ⟨by rw [uH_ne (by omega), uH_ne (by omega), uH_at], by rw [uH_ne (by omega), uH_at], by rw [uH_at]⟩, fun j hj => (f _ _ (by omega)).trans (hka j hj), fun j hj => (f _ _ (by omega)).trans (hbo j hj)⟩
  have t := fun K2 => ac_all (g := g) hc wn hw d x _ al K2 0 hA ((show uH (uH (uH h 60 2 (c : Int)) 60 3 (pn : Int)) 60 4 v 60 1 = h 60 1 by rw [uH_ne (by omega), uH_ne (by omega), uH_ne (by omega)]).trans hr) (by have := acL hc hw; omega)
  have e2 : uH (uH (uH h 60 2 (c : Int)) 60 3 (pn : Int)) 60 4 v 60 2 = (c : Int) := hA.2.1.1
  have g0 : uH h 60 2 (c : Int) ho 0 = (pn : Int) := by rw [uH_ne (by omega)]; exact f0
  have g2 : uH (uH h 60 2 (c : Int)) 60 3 (pn : Int) ho 2 = v := by rw [uH_ne (by omega), uH_ne (by omega)]; exact f2
  refine cof ocAc_begin rfl (XW_t4 [5, 13, 21, 29] 60 okAc_begin ?_)
  refine cond_i (by rw [k0]; rfl) ⟨_, f1, ?_⟩
  refine XW_t4 [13, 21, 29] 60 okAc_begin ?_
  refine cond_i (by rw [k0]; rfl) ⟨_, g0, ?_⟩
  refine XW_t4 [21, 29] 60 okAc_begin ?_
  refine cond_i (by rw [k0]; rfl) ⟨_, g2, ?_⟩
  refine XW_t4 [29] 60 okAc_begin ?_
  show XW g (d + 18) mAc_begin _ 29 [some (xr 60), some (xr (Int.ofNat ho)), some (xi (wn : Int)), some (xi x)] [xi (uH (uH (uH h 60 2 (c : Int)) 60 3 (pn : Int)) 60 4 v 60 2), xr 60] (uH (uH (uH h 60 2 (c : Int)) 60 3 (pn : Int)) 60 4 v) al
  rw [e2]
  refine XW_t4 [] 60 okAc_begin ?_
  refine t _ fun h3 q => ?_
  exact hK _ q
end Q24
