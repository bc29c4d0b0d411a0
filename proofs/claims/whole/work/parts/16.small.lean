-- fixed references: what stands where for ever
def wlT : List (List (List Int)) := [[[1, 10, 20, 30, -9, 40, 50, 60, 65, 78], [2, 3, 4, 80, 5], [], [], [86, 92, 98, 104, 110], [], [], [], [], [], [11, 12, 13, 14, 15], [], [], [], [], []],
  [[], [], [], [], [21, 22, 23, 24, 25], [], [], [], [], [], [], [], [], [], [31, 32, 33, 34, 35], []],
  [[], [], [], [], [], [], [], [], [41], [], [], [], [], [], [], []],
  [[], [], [51, 52, 53], [], [], [], [], [], [], [], [], [], [61], [], [], []],
  [[], [66, 68, 70, 72, 74, 76], [67], [], [69], [], [71], [], [73], [], [75], [], [77], [], [], []],
  [[81, 82, 83, 84, 85], [], [], [], [], [], [87, 88, 89, 90, 91], [], [], [], [], [], [93, 94, 95, 96, 97], [], [], []],
  [[], [], [99, 100, 101, 102, 103], [], [], [], [], [], [105, 106, 107, 108, 109], [], [], [], [], [], [111, 112, 113, 114, 115], []],
  [[], [], [], [], [], [], [], [], [-9, -9, -9, -9, -9, -9, -9, 121, 122, 123, 124, 125, 126, 127, 128, 129, -9, -9, -9, -9, -9, 130, 131, 132, 133, 134, 135, 136, 137, -9, -9, -9, 138, 139, -9, -9, -9, 140, 141, 142, 143, 144, 145, 146, 147, 148, 149, 150, 151, 152, -9, 153, 154, 155, -9, -9, -9, -9, -9, -9, -9, -9, -9, 156, 157, 158, 159, 160, 161, -9, 162, 163, 164, 165, 166], [], [], [], [], [], [], []],
  [[], [], [], [], [], [], [], [], [], [], [], [], [], [], [], []],
  [[], [], [], [], [], [], [], [], [], [], [], [], [], [], [], []],
  [[], [], [], [], [], [], [], [], [], [], [], [], [], [], [], []],
  [[], [], [], [], [], [], [], [], [], [], [], [], [], [], [], []],
  [[], [], [], [], [], [], [], [], [], [], [], [], [], [], [], []],
  [[], [], [], [], [], [], [], [], [], [], [], [], [], [], [], []],
  [[], [], [], [], [], [], [], [], [], [], [], [], [], [], [], []]]
def wl (a : Nat) : List Int := (wlT.getD (a / 16) []).getD (a % 16) []
def wz (n : Int) (z : Int) : Int := match n with
  | .ofNat n => .ofNat n
  | .negSucc _ => z
/-- the heap with its fixed references -/
def wr (h : HH) : HH := fun a k => wz ((wl a).getD k (-9)) (h a k)
def Wd (h : HH) : Prop := ∃ h0, h = wr h0
theorem wz_wz (n z : Int) : wz n (wz n z) = wz n z := by cases n <;> rfl
theorem wz_n {n z : Int} (hn : n < 0) : wz n z = z := by
  cases n with
  | ofNat n => exact absurd hn (by simp)
  | negSucc n => rfl
theorem wz_p {n z z2 : Int} (hn : ¬ n < 0) : wz n z = wz n z2 := by
  cases n with
  | ofNat n => rfl
  | negSucc n => exact absurd (Int.negSucc_lt_zero n) hn
theorem Wd.eq {h : HH} (hW : Wd h) : wr h = h := by
  obtain ⟨h0, rfl⟩ := hW
  funext a k
  exact wz_wz _ _
theorem wr_up {h : HH} {a k : Nat} {z : Int} (hn : (wl a).getD k (-9) < 0) : uH (wr h) a k z = wr (uH h a k z) := by
  funext a' k'
  by_cases e : a' = a ∧ k' = k
  · obtain ⟨rfl, rfl⟩ := e
    rw [uH_at]
    unfold wr
    rw [wz_n hn, uH_at]
  · rw [uH_ne e]
    unfold wr
    rw [uH_ne e]
theorem Wd.up {h : HH} {a k : Nat} {z : Int} (hW : Wd h) (hn : (wl a).getD k (-9) < 0) : Wd (uH h a k z) := by
  obtain ⟨h0, rfl⟩ := hW
  exact ⟨_, wr_up hn⟩
/-- an array of numbers has no fixed references -/
theorem Wd.upA {h : HH} {a k : Nat} {z : Int} (hW : Wd h) (hn : wl a = []) : Wd (uH h a k z) := hW.up (by rw [hn]; show (-9 : Int) < 0; decide)
theorem Wd.of {h h' : HH} (hW : Wd h) (hq : ∀ a k, ¬ (wl a).getD k (-9) < 0 → h' a k = h a k) : Wd h' := by
  refine ⟨h', ?_⟩
  have e := hW.eq
  funext a k
  by_cases q : (wl a).getD k (-9) < 0
  · exact (wz_n q).symm
  · have e2 := congrFun (congrFun e a) k
    rw [hq a k q, ← e2]
    exact wz_p q
abbrev KT : Type := Option XV → HH → AL → Prop
-- small ones
def atV (g : GC) (h : HH) (o : Nat) (i : Int) : Int := if 0 ≤ i ∧ i < (ln g o : Int) then h o i.toNat else 0
def putV (g : GC) (h : HH) (o : Nat) (i z : Int) : HH := if 0 ≤ i ∧ i < (ln g o : Int) then uH h o i.toNat z else h
theorem atV_in {g : GC} {h : HH} {o : Nat} {i : Int} (hi : 0 ≤ i ∧ i < (ln g o : Int)) : atV g h o i = h o i.toNat := if_pos hi
theorem putV_in {g : GC} {h : HH} {o : Nat} {i z : Int} (hi : 0 ≤ i ∧ i < (ln g o : Int)) : putV g h o i z = uH h o i.toNat z := if_pos hi
theorem isA_len {o : Nat} (ho : isA 0 o = true) : (Nat.ble 50 (kd o) && Nat.ble (kd o) 80) = true := by
  unfold isA at ho
  rw [Bool.or_eq_true, Bool.and_eq_true] at ho
  rcases ho with q | q
  · rw [Nat.eq_of_beq_eq_true q]; rfl
  · rw [Nat.eq_of_beq_eq_true q.2]; rfl
section SM
variable {g : GC} {d : Nat} {h : HH} {al : AL} {K : KT}
theorem c_within {n a b : Int} (ht : a ≤ n ∧ n ≤ b → K (some (xi 1)) h al) (hf : ¬ (a ≤ n ∧ n ≤ b) → K (some (xi 0)) h al) : Call g (d + 1) yBy_within [xi n, xi a, xi b] h al K := by
  refine cof ocBy_within rfl (XW_to [] 30 okBy_within ?_)
  refine ite_i (fun h1 => ⟨Or.inl rfl, hf (by omega)⟩) (fun h1 => ?_)
  exact ite_i (fun h2 => ⟨Or.inl rfl, hf (by omega)⟩) (fun h2 => ⟨Or.inr rfl, ht (by omega)⟩)
theorem c_at {o : Nat} {i : Int} (ho : isA 0 o = true) (hK : K (some (xi (atV g h o i))) h al) : Call g (d + 1) yBy_at [xr (Int.ofNat o), xi i] h al K := by
  refine cof ocBy_at rfl (XW_to [] 30 okBy_at ?_)
  unfold atV at hK
  refine ite_i (fun h1 => ?_) (fun h1 => ?_)
  · rw [if_neg (by omega)] at hK; exact hK
  · refine cond_i (isA_len ho) ?_
    refine ite_i (fun h2 => ?_) (fun h2 => ?_)
    · rw [if_pos ⟨by omega, h2⟩] at hK
      exact cond_i ho ⟨⟨by omega, h2⟩, hK⟩
    · rw [if_neg (by omega)] at hK; exact hK
theorem c_put {o : Nat} {i z : Int} (ho : kd o = 50) (hK : K none (putV g h o i z) al) : Call g (d + 1) yBy_put [xr (Int.ofNat o), xi i, xi z] h al K := by
  refine cof ocBy_put rfl (XW_to [] 30 okBy_put ?_)
  unfold putV at hK
  refine ite_i (fun h1 => ?_) (fun h1 => ?_)
  · rw [if_neg (by omega)] at hK; exact hK
  · refine cond_i (by rw [ho]; rfl) ?_
    refine ite_i (fun h2 => ?_) (fun h2 => ?_)
    · rw [if_pos ⟨by omega, h2⟩] at hK
      exact cond_i (by rw [ho]; rfl) ⟨⟨by omega, h2⟩, hK⟩
    · rw [if_neg (by omega)] at hK; exact hK
theorem c_max {a b : Int} (hK : K (some (xi (if a < b then b else a))) h al) : Call g (d + 1) yJ9_max_7cf53 [xi a, xi b] h al K := by
  refine cof ocJ9_max_7cf53 rfl (XW_to [] 30 okJ9_max_7cf53 ?_)
  refine ite_i (fun h1 => ?_) (fun h1 => ?_)
  · rw [if_pos h1] at hK; exact hK
  · rw [if_neg h1] at hK; exact hK
theorem c_min {a b : Int} (hK : K (some (xi (if b < a then b else a))) h al) : Call g (d + 1) yJ9_min_7cf53 [xi a, xi b] h al K := by
  refine cof ocJ9_min_7cf53 rfl (XW_to [] 30 okJ9_min_7cf53 ?_)
  refine ite_i (fun h1 => ?_) (fun h1 => ?_)
  · rw [if_pos h1] at hK; exact hK
  · rw [if_neg h1] at hK; exact hK
theorem c_abs {a : Int} (hK : K (some (xi (if a < 0 then wI (-a) else a))) h al) : Call g (d + 1) yJ9_abs_0f7a4 [xi a] h al K := by
  refine cof ocJ9_abs_0f7a4 rfl (XW_to [] 30 okJ9_abs_0f7a4 ?_)
  refine ite_i (fun h1 => ?_) (fun h1 => ?_)
  · rw [if_pos h1] at hK; exact hK
  · rw [if_neg h1] at hK; exact hK
theorem c_in {n a b : Int} (ht : a ≤ n ∧ n ≤ b → K (some (xi 1)) h al) (hf : ¬ (a ≤ n ∧ n ≤ b) → K (some (xi 0)) h al) : Call g (d + 1) yMo_in [xr 120, xi n, xi a, xi b] h al K := by
  refine cof ocMo_in rfl (XW_to [] 30 okMo_in ?_)
  refine ite_i (fun h1 => ⟨Or.inl rfl, hf (by omega)⟩) (fun h1 => ?_)
  exact ite_i (fun h2 => ⟨Or.inl rfl, hf (by omega)⟩) (fun h2 => ⟨Or.inr rfl, ht (by omega)⟩)
theorem c_Momin {a b : Int} (hK : K (some (xi (if a < b then a else b))) h al) : Call g (d + 1) yMo_min [xr 120, xi a, xi b] h al K := by
  refine cof ocMo_min rfl (XW_to [] 30 okMo_min ?_)
  refine ite_i (fun h1 => ?_) (fun h1 => ?_)
  · rw [if_pos h1] at hK; exact hK
  · rw [if_neg h1] at hK; exact hK
theorem c_isHolding {n : Int} (hr : 0 ≤ h 120 0 ∧ h 120 0 ≤ 6) (ht : 0 ≤ n ∧ n < h 120 0 → K (some (xi 1)) h al) (hf : ¬ (0 ≤ n ∧ n < h 120 0) → K (some (xi 0)) h al) : Call g (d + 2) yMo_isHolding [xr 120, xi n] h al K := by
  refine cof ocMo_isHolding rfl (XW_to [] 30 okMo_isHolding ?_)
  have e : wI (h 120 0 - 1) = h 120 0 - 1 := wI_id (by omega)
  exact c_in (fun q => by simp only [e] at q; exact ⟨Or.inr rfl, ht (by omega)⟩) (fun q => by simp only [e] at q; exact ⟨Or.inl rfl, hf (by omega)⟩)
theorem c_isHolder {n : Int} (hr : 0 ≤ h 120 1 ∧ h 120 1 ≤ 6) (ht : 0 ≤ n ∧ n < h 120 1 → K (some (xi 1)) h al) (hf : ¬ (0 ≤ n ∧ n < h 120 1) → K (some (xi 0)) h al) : Call g (d + 2) yMo_isHolder [xr 120, xi n] h al K := by
  refine cof ocMo_isHolder rfl (XW_to [] 30 okMo_isHolder ?_)
  have e : wI (h 120 1 - 1) = h 120 1 - 1 := wI_id (by omega)
  exact c_in (fun q => by simp only [e] at q; exact ⟨Or.inr rfl, ht (by omega)⟩) (fun q => by simp only [e] at q; exact ⟨Or.inl rfl, hf (by omega)⟩)
theorem c_hasHolding {n : Int} (ht : 0 ≤ n ∧ n < h 1 6 → K (some (xi 1)) h al) (hf : ¬ (0 ≤ n ∧ n < h 1 6) → K (some (xi 0)) h al) : Call g (d + 1) yLa_hasHolding [xr 1, xi n] h al K := by
  refine cof ocLa_hasHolding rfl (XW_to [] 30 okLa_hasHolding ?_)
  refine ite_i (fun h1 => ⟨Or.inl rfl, hf (by omega)⟩) (fun h1 => ?_)
  exact ite_i (fun h2 => by simp only [] at h2; exact ⟨Or.inr rfl, ht (by omega)⟩) (fun h2 => by simp only [] at h2; exact ⟨Or.inl rfl, hf (by omega)⟩)
theorem c_holderAt {n : Int} (hW : Wd h) (ht : 0 ≤ n ∧ n < 6 → K (some (xr (h 2 n.toNat))) h al) (hf : ¬ (0 ≤ n ∧ n < 6) → K (some (xr (-1))) h al) : Call g (d + 1) yLa_holderAt [xr 1, xi n] h al K := by
  obtain ⟨h, rfl⟩ := hW
  refine cof ocLa_holderAt rfl (XW_to [] 30 okLa_holderAt ?_)
  refine ite_i (fun h1 => hf (by omega)) (fun h1 => ?_)
  refine ite_i (fun h2 => ?_) (fun h2 => hf (by omega))
  exact ⟨⟨by omega, h2⟩, ht (by omega)⟩
end SM
