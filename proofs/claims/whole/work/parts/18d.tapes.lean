-- tapes
section TP
variable {g : GC} {d : Nat} {h : HH} {al : AL} {K : KT}
theorem c_tapeAt {t : Int} (hW : Wd h) (h0 : t = 0 → K (some (xr 66)) h al) (h1 : t = 1 → K (some (xr 68)) h al) (h2 : t = 2 → K (some (xr 70)) h al) (h3 : t = 3 → K (some (xr 72)) h al) (h4 : t = 4 → K (some (xr 74)) h al) (h5 : t = 5 → K (some (xr 76)) h al) (hn : ¬ (0 ≤ t ∧ t < 6) → K (some (xr (-1))) h al) : Call g (d + 1) yBy_tapeAt [xr 0, xi t] h al K := by
  obtain ⟨h, rfl⟩ := hW
  refine cof ocBy_tapeAt rfl (XW_to [] 40 okBy_tapeAt ?_)
  refine ite_i (fun q => hn (by omega)) (fun q => ?_)
  have el : ((ln g 65 : Nat) : Int) = 6 := rfl
  refine ite_i (fun q2 => ?_) (fun q2 => ?_)
  · simp only [el] at q2
    have e : t = 0 ∨ t = 1 ∨ t = 2 ∨ t = 3 ∨ t = 4 ∨ t = 5 := by omega
    rcases e with e | e | e | e | e | e
    · have := h0 e; subst e; exact ⟨⟨by decide, by show (0 : Int) < 6; decide⟩, this⟩
    · have := h1 e; subst e; exact ⟨⟨by decide, by show (1 : Int) < 6; decide⟩, this⟩
    · have := h2 e; subst e; exact ⟨⟨by decide, by show (2 : Int) < 6; decide⟩, this⟩
    · have := h3 e; subst e; exact ⟨⟨by decide, by show (3 : Int) < 6; decide⟩, this⟩
    · have := h4 e; subst e; exact ⟨⟨by decide, by show (4 : Int) < 6; decide⟩, this⟩
    · have := h5 e; subst e; exact ⟨⟨by decide, by show (5 : Int) < 6; decide⟩, this⟩
  · simp only [el] at q2
    exact hn (by omega)
theorem c_isTape {t : Int} (ht : 0 ≤ t ∧ t ≤ 5 → K (some (xi 1)) h al) (hf : ¬ (0 ≤ t ∧ t ≤ 5) → K (some (xi 0)) h al) : Call g (d + 2) yMo_isTape [xr 120, xi t] h al K := by
  refine cof ocMo_isTape rfl (XW_to [] 30 okMo_isTape ?_)
  exact c_in (fun q => ⟨Or.inr rfl, ht q⟩) (fun q => ⟨Or.inl rfl, hf q⟩)
/-- what is written of a long into a tape of a sort -/
def narV (s v : Int) : Int := if s = 0 then wB (wI v) else if s = 1 then wS (wI v) else if s = 2 then wI v else if s = 3 then v else if v = 0 then 0 else 1
theorem c_Monarrow {s v : Int} (hs : 0 ≤ s ∧ s ≤ 4) (hK : K (some (xl (narV s v))) h al) : Call g (d + 1) yMo_narrow [xr 120, xi s, xl v] h al K := by
  refine cof ocMo_narrow rfl (XW_to [] 40 okMo_narrow ?_)
  unfold narV at hK
  refine ite_i (fun e0 => by rw [if_pos e0] at hK; exact hK) (fun e0 => ?_)
  rw [if_neg e0] at hK
  refine ite_i (fun e1 => by rw [if_pos e1] at hK; exact hK) (fun e1 => ?_)
  rw [if_neg e1] at hK
  refine ite_i (fun e2 => by rw [if_pos e2] at hK; exact hK) (fun e2 => ?_)
  rw [if_neg e2] at hK
  refine ite_i (fun e4 => ?_) (fun e4 => ?_)
  · rw [if_neg (by omega)] at hK
    have ec : cmpL v 0 = 0 ↔ v = 0 := by
      unfold cmpL
      split
      · omega
      · split <;> omega
    refine ite_i (fun e5 => ?_) (fun e5 => ?_)
    · rw [if_pos (ec.mp e5)] at hK; exact hK
    · rw [if_neg (fun q => e5 (ec.mpr q))] at hK; exact hK
  · rw [if_pos (by omega)] at hK; exact hK
theorem c_become0 {s n : Int} (hW : Wd h) (hn : 0 ≤ n ∧ n ≤ 60) (hK : ∀ f : Nat → Int, (∀ k, k < 60 → f k = 0) → K none (rowU (uH (uH h 66 1 s) 66 2 n) 67 f) al) : Call g (d + 3) yTa_become [xr 66, xi s, xi n] h al K := by
  obtain ⟨h, rfl⟩ := hW
  refine cof ocTa_become rfl (XW_to [] 40 okTa_become ?_)
  refine c_min ?_
  refine c_max ?_
  have e : (if (0 : Int) < (if (60 : Int) < n then 60 else n) then (if (60 : Int) < n then 60 else n) else 0) = n := by
    split <;> split at * <;> omega
  simp only [e]
  refine c_fillJ rfl (by show (60 : Nat) < 100000; decide) fun f f1 f2 => hK f f1
theorem c_narrowed0 {v : Int} (hW : Wd h) (hs : 0 ≤ h 66 1 ∧ h 66 1 ≤ 4) (hK : K (some (xl (narV (h 66 1) v))) h al) : Call g (d + 1) yTa_narrowed [xr 66, xl v] h al K := by
  obtain ⟨h, rfl⟩ := hW
  refine cof ocTa_narrowed rfl (XW_to [] 40 okTa_narrowed ?_)
  unfold narV at hK
  refine ite_i (fun e0 => by rw [if_pos e0] at hK; exact hK) (fun e0 => ?_)
  simp only [] at e0
  rw [if_neg e0] at hK
  refine ite_i (fun e1 => by rw [if_pos (show wr h 66 1 = 1 from e1)] at hK; exact hK) (fun e1 => ?_)
  rw [if_neg (show ¬ wr h 66 1 = 1 from e1)] at hK
  refine ite_i (fun e2 => by rw [if_pos (show wr h 66 1 = 2 from e2)] at hK; exact hK) (fun e2 => ?_)
  rw [if_neg (show ¬ wr h 66 1 = 2 from e2)] at hK
  refine ite_i (fun e3 => by rw [if_pos (show wr h 66 1 = 3 from e3)] at hK; exact hK) (fun e3 => ?_)
  rw [if_neg (show ¬ wr h 66 1 = 3 from e3)] at hK
  have ec : cmpL v 0 = 0 ↔ v = 0 := by
    unfold cmpL
    split
    · omega
    · split <;> omega
  refine ite_i (fun e5 => ?_) (fun e5 => ?_)
  · rw [if_pos (ec.mp e5)] at hK; exact hK
  · rw [if_neg (fun q => e5 (ec.mpr q))] at hK; exact hK
theorem c_write0 {i v : Int} (hW : Wd h) (hs : 0 ≤ h 66 1 ∧ h 66 1 ≤ 4) (hz : h 66 2 ≤ 60) (ht : 0 ≤ i ∧ i < h 66 2 → K (some (xi 1)) (uH h 67 i.toNat (narV (h 66 1) v)) al) (hf : ¬ (0 ≤ i ∧ i < h 66 2) → K (some (xi 0)) h al) : Call g (d + 2) yTa_write [xr 66, xi i, xl v] h al K := by
  have hW0 := hW
  obtain ⟨h, rfl⟩ := hW
  refine cof ocTa_write rfl (XW_to [] 40 okTa_write ?_)
  refine ite_i (fun q => ⟨Or.inl rfl, hf (by omega)⟩) (fun q => ?_)
  refine ite_i (fun q2 => ?_) (fun q2 => ⟨Or.inl rfl, hf (by simp only [] at q2; omega)⟩)
  simp only [] at q2
  refine ite_t (by omega) ?_
  refine c_narrowed0 hW0 hs ?_
  exact ⟨⟨by omega, by show i < 60; omega⟩, Or.inr rfl, ht (by omega)⟩
theorem c_itemAt0 {i : Int} (hW : Wd h) (hi : 0 ≤ i ∧ i < 60) (hK : K (some (xl (h 67 i.toNat))) h al) : Call g (d + 1) yTa_itemAt [xr 66, xi i] h al K := by
  obtain ⟨h, rfl⟩ := hW
  refine cof ocTa_itemAt rfl (XW_to [] 40 okTa_itemAt ?_)
  refine ite_f (by omega) (ite_t (by omega) ?_)
  exact ⟨⟨by omega, by show i < 60; omega⟩, hK⟩
theorem c_holds0 {i n : Int} (hb : (-2147483648 ≤ i ∧ i < 2147483648) ∧ (-2147483648 ≤ n ∧ n < 2147483648)) (ht : 0 ≤ i ∧ 0 ≤ n ∧ i + n ≤ h 66 2 → K (some (xi 1)) h al) (hf : ¬ (0 ≤ i ∧ 0 ≤ n ∧ i + n ≤ h 66 2) → K (some (xi 0)) h al) : Call g (d + 1) yTa_holds [xr 66, xi i, xi n] h al K := by
  refine cof ocTa_holds rfl (XW_to [] 40 okTa_holds ?_)
  refine ite_i (fun q => ⟨Or.inl rfl, hf (by omega)⟩) (fun q => ?_)
  refine ite_i (fun q2 => ⟨Or.inl rfl, hf (by omega)⟩) (fun q2 => ?_)
  have ew : wL (i + n) = i + n := wL_id (by omega)
  have ec : ∀ y : Int, 0 < cmpL (wL (i + n)) y ↔ y < i + n := by
    intro y
    rw [ew]
    unfold cmpL
    split
    · omega
    · split <;> omega
  refine ite_i (fun q3 => ⟨Or.inl rfl, hf ?_⟩) (fun q3 => ⟨Or.inr rfl, ht ?_⟩)
  · have q4 : h 66 2 < i + n := (ec (h 66 2)).mp q3
    omega
  · have q4 : ¬ h 66 2 < i + n := fun z => q3 ((ec (h 66 2)).mpr z)
    omega
theorem c_become1 {s n : Int} (hW : Wd h) (hn : 0 ≤ n ∧ n ≤ 60) (hK : ∀ f : Nat → Int, (∀ k, k < 60 → f k = 0) → K none (rowU (uH (uH h 68 1 s) 68 2 n) 69 f) al) : Call g (d + 3) yTa_become [xr 68, xi s, xi n] h al K := by
  obtain ⟨h, rfl⟩ := hW
  refine cof ocTa_become rfl (XW_to [] 40 okTa_become ?_)
  refine c_min ?_
  refine c_max ?_
  have e : (if (0 : Int) < (if (60 : Int) < n then 60 else n) then (if (60 : Int) < n then 60 else n) else 0) = n := by
    split <;> split at * <;> omega
  simp only [e]
  refine c_fillJ rfl (by show (60 : Nat) < 100000; decide) fun f f1 f2 => hK f f1
theorem c_narrowed1 {v : Int} (hW : Wd h) (hs : 0 ≤ h 68 1 ∧ h 68 1 ≤ 4) (hK : K (some (xl (narV (h 68 1) v))) h al) : Call g (d + 1) yTa_narrowed [xr 68, xl v] h al K := by
  obtain ⟨h, rfl⟩ := hW
  refine cof ocTa_narrowed rfl (XW_to [] 40 okTa_narrowed ?_)
  unfold narV at hK
  refine ite_i (fun e0 => by rw [if_pos e0] at hK; exact hK) (fun e0 => ?_)
  simp only [] at e0
  rw [if_neg e0] at hK
  refine ite_i (fun e1 => by rw [if_pos (show wr h 68 1 = 1 from e1)] at hK; exact hK) (fun e1 => ?_)
  rw [if_neg (show ¬ wr h 68 1 = 1 from e1)] at hK
  refine ite_i (fun e2 => by rw [if_pos (show wr h 68 1 = 2 from e2)] at hK; exact hK) (fun e2 => ?_)
  rw [if_neg (show ¬ wr h 68 1 = 2 from e2)] at hK
  refine ite_i (fun e3 => by rw [if_pos (show wr h 68 1 = 3 from e3)] at hK; exact hK) (fun e3 => ?_)
  rw [if_neg (show ¬ wr h 68 1 = 3 from e3)] at hK
  have ec : cmpL v 0 = 0 ↔ v = 0 := by
    unfold cmpL
    split
    · omega
    · split <;> omega
  refine ite_i (fun e5 => ?_) (fun e5 => ?_)
  · rw [if_pos (ec.mp e5)] at hK; exact hK
  · rw [if_neg (fun q => e5 (ec.mpr q))] at hK; exact hK
theorem c_write1 {i v : Int} (hW : Wd h) (hs : 0 ≤ h 68 1 ∧ h 68 1 ≤ 4) (hz : h 68 2 ≤ 60) (ht : 0 ≤ i ∧ i < h 68 2 → K (some (xi 1)) (uH h 69 i.toNat (narV (h 68 1) v)) al) (hf : ¬ (0 ≤ i ∧ i < h 68 2) → K (some (xi 0)) h al) : Call g (d + 2) yTa_write [xr 68, xi i, xl v] h al K := by
  have hW0 := hW
  obtain ⟨h, rfl⟩ := hW
  refine cof ocTa_write rfl (XW_to [] 40 okTa_write ?_)
  refine ite_i (fun q => ⟨Or.inl rfl, hf (by omega)⟩) (fun q => ?_)
  refine ite_i (fun q2 => ?_) (fun q2 => ⟨Or.inl rfl, hf (by simp only [] at q2; omega)⟩)
  simp only [] at q2
  refine ite_t (by omega) ?_
  refine c_narrowed1 hW0 hs ?_
  exact ⟨⟨by omega, by show i < 60; omega⟩, Or.inr rfl, ht (by omega)⟩
theorem c_itemAt1 {i : Int} (hW : Wd h) (hi : 0 ≤ i ∧ i < 60) (hK : K (some (xl (h 69 i.toNat))) h al) : Call g (d + 1) yTa_itemAt [xr 68, xi i] h al K := by
  obtain ⟨h, rfl⟩ := hW
  refine cof ocTa_itemAt rfl (XW_to [] 40 okTa_itemAt ?_)
  refine ite_f (by omega) (ite_t (by omega) ?_)
  exact ⟨⟨by omega, by show i < 60; omega⟩, hK⟩
theorem c_holds1 {i n : Int} (hb : (-2147483648 ≤ i ∧ i < 2147483648) ∧ (-2147483648 ≤ n ∧ n < 2147483648)) (ht : 0 ≤ i ∧ 0 ≤ n ∧ i + n ≤ h 68 2 → K (some (xi 1)) h al) (hf : ¬ (0 ≤ i ∧ 0 ≤ n ∧ i + n ≤ h 68 2) → K (some (xi 0)) h al) : Call g (d + 1) yTa_holds [xr 68, xi i, xi n] h al K := by
  refine cof ocTa_holds rfl (XW_to [] 40 okTa_holds ?_)
  refine ite_i (fun q => ⟨Or.inl rfl, hf (by omega)⟩) (fun q => ?_)
  refine ite_i (fun q2 => ⟨Or.inl rfl, hf (by omega)⟩) (fun q2 => ?_)
  have ew : wL (i + n) = i + n := wL_id (by omega)
  have ec : ∀ y : Int, 0 < cmpL (wL (i + n)) y ↔ y < i + n := by
    intro y
    rw [ew]
    unfold cmpL
    split
    · omega
    · split <;> omega
  refine ite_i (fun q3 => ⟨Or.inl rfl, hf ?_⟩) (fun q3 => ⟨Or.inr rfl, ht ?_⟩)
  · have q4 : h 68 2 < i + n := (ec (h 68 2)).mp q3
    omega
  · have q4 : ¬ h 68 2 < i + n := fun z => q3 ((ec (h 68 2)).mpr z)
    omega
theorem c_become2 {s n : Int} (hW : Wd h) (hn : 0 ≤ n ∧ n ≤ 60) (hK : ∀ f : Nat → Int, (∀ k, k < 60 → f k = 0) → K none (rowU (uH (uH h 70 1 s) 70 2 n) 71 f) al) : Call g (d + 3) yTa_become [xr 70, xi s, xi n] h al K := by
  obtain ⟨h, rfl⟩ := hW
  refine cof ocTa_become rfl (XW_to [] 40 okTa_become ?_)
  refine c_min ?_
  refine c_max ?_
  have e : (if (0 : Int) < (if (60 : Int) < n then 60 else n) then (if (60 : Int) < n then 60 else n) else 0) = n := by
    split <;> split at * <;> omega
  simp only [e]
  refine c_fillJ rfl (by show (60 : Nat) < 100000; decide) fun f f1 f2 => hK f f1
theorem c_narrowed2 {v : Int} (hW : Wd h) (hs : 0 ≤ h 70 1 ∧ h 70 1 ≤ 4) (hK : K (some (xl (narV (h 70 1) v))) h al) : Call g (d + 1) yTa_narrowed [xr 70, xl v] h al K := by
  obtain ⟨h, rfl⟩ := hW
  refine cof ocTa_narrowed rfl (XW_to [] 40 okTa_narrowed ?_)
  unfold narV at hK
  refine ite_i (fun e0 => by rw [if_pos e0] at hK; exact hK) (fun e0 => ?_)
  simp only [] at e0
  rw [if_neg e0] at hK
  refine ite_i (fun e1 => by rw [if_pos (show wr h 70 1 = 1 from e1)] at hK; exact hK) (fun e1 => ?_)
  rw [if_neg (show ¬ wr h 70 1 = 1 from e1)] at hK
  refine ite_i (fun e2 => by rw [if_pos (show wr h 70 1 = 2 from e2)] at hK; exact hK) (fun e2 => ?_)
  rw [if_neg (show ¬ wr h 70 1 = 2 from e2)] at hK
  refine ite_i (fun e3 => by rw [if_pos (show wr h 70 1 = 3 from e3)] at hK; exact hK) (fun e3 => ?_)
  rw [if_neg (show ¬ wr h 70 1 = 3 from e3)] at hK
  have ec : cmpL v 0 = 0 ↔ v = 0 := by
    unfold cmpL
    split
    · omega
    · split <;> omega
  refine ite_i (fun e5 => ?_) (fun e5 => ?_)
  · rw [if_pos (ec.mp e5)] at hK; exact hK
  · rw [if_neg (fun q => e5 (ec.mpr q))] at hK; exact hK
theorem c_write2 {i v : Int} (hW : Wd h) (hs : 0 ≤ h 70 1 ∧ h 70 1 ≤ 4) (hz : h 70 2 ≤ 60) (ht : 0 ≤ i ∧ i < h 70 2 → K (some (xi 1)) (uH h 71 i.toNat (narV (h 70 1) v)) al) (hf : ¬ (0 ≤ i ∧ i < h 70 2) → K (some (xi 0)) h al) : Call g (d + 2) yTa_write [xr 70, xi i, xl v] h al K := by
  have hW0 := hW
  obtain ⟨h, rfl⟩ := hW
  refine cof ocTa_write rfl (XW_to [] 40 okTa_write ?_)
  refine ite_i (fun q => ⟨Or.inl rfl, hf (by omega)⟩) (fun q => ?_)
  refine ite_i (fun q2 => ?_) (fun q2 => ⟨Or.inl rfl, hf (by simp only [] at q2; omega)⟩)
  simp only [] at q2
  refine ite_t (by omega) ?_
  refine c_narrowed2 hW0 hs ?_
  exact ⟨⟨by omega, by show i < 60; omega⟩, Or.inr rfl, ht (by omega)⟩
theorem c_itemAt2 {i : Int} (hW : Wd h) (hi : 0 ≤ i ∧ i < 60) (hK : K (some (xl (h 71 i.toNat))) h al) : Call g (d + 1) yTa_itemAt [xr 70, xi i] h al K := by
  obtain ⟨h, rfl⟩ := hW
  refine cof ocTa_itemAt rfl (XW_to [] 40 okTa_itemAt ?_)
  refine ite_f (by omega) (ite_t (by omega) ?_)
  exact ⟨⟨by omega, by show i < 60; omega⟩, hK⟩
theorem c_holds2 {i n : Int} (hb : (-2147483648 ≤ i ∧ i < 2147483648) ∧ (-2147483648 ≤ n ∧ n < 2147483648)) (ht : 0 ≤ i ∧ 0 ≤ n ∧ i + n ≤ h 70 2 → K (some (xi 1)) h al) (hf : ¬ (0 ≤ i ∧ 0 ≤ n ∧ i + n ≤ h 70 2) → K (some (xi 0)) h al) : Call g (d + 1) yTa_holds [xr 70, xi i, xi n] h al K := by
  refine cof ocTa_holds rfl (XW_to [] 40 okTa_holds ?_)
  refine ite_i (fun q => ⟨Or.inl rfl, hf (by omega)⟩) (fun q => ?_)
  refine ite_i (fun q2 => ⟨Or.inl rfl, hf (by omega)⟩) (fun q2 => ?_)
  have ew : wL (i + n) = i + n := wL_id (by omega)
  have ec : ∀ y : Int, 0 < cmpL (wL (i + n)) y ↔ y < i + n := by
    intro y
    rw [ew]
    unfold cmpL
    split
    · omega
    · split <;> omega
  refine ite_i (fun q3 => ⟨Or.inl rfl, hf ?_⟩) (fun q3 => ⟨Or.inr rfl, ht ?_⟩)
  · have q4 : h 70 2 < i + n := (ec (h 70 2)).mp q3
    omega
  · have q4 : ¬ h 70 2 < i + n := fun z => q3 ((ec (h 70 2)).mpr z)
    omega
theorem c_become3 {s n : Int} (hW : Wd h) (hn : 0 ≤ n ∧ n ≤ 60) (hK : ∀ f : Nat → Int, (∀ k, k < 60 → f k = 0) → K none (rowU (uH (uH h 72 1 s) 72 2 n) 73 f) al) : Call g (d + 3) yTa_become [xr 72, xi s, xi n] h al K := by
  obtain ⟨h, rfl⟩ := hW
  refine cof ocTa_become rfl (XW_to [] 40 okTa_become ?_)
  refine c_min ?_
  refine c_max ?_
  have e : (if (0 : Int) < (if (60 : Int) < n then 60 else n) then (if (60 : Int) < n then 60 else n) else 0) = n := by
    split <;> split at * <;> omega
  simp only [e]
  refine c_fillJ rfl (by show (60 : Nat) < 100000; decide) fun f f1 f2 => hK f f1
theorem c_narrowed3 {v : Int} (hW : Wd h) (hs : 0 ≤ h 72 1 ∧ h 72 1 ≤ 4) (hK : K (some (xl (narV (h 72 1) v))) h al) : Call g (d + 1) yTa_narrowed [xr 72, xl v] h al K := by
  obtain ⟨h, rfl⟩ := hW
  refine cof ocTa_narrowed rfl (XW_to [] 40 okTa_narrowed ?_)
  unfold narV at hK
  refine ite_i (fun e0 => by rw [if_pos e0] at hK; exact hK) (fun e0 => ?_)
  simp only [] at e0
  rw [if_neg e0] at hK
  refine ite_i (fun e1 => by rw [if_pos (show wr h 72 1 = 1 from e1)] at hK; exact hK) (fun e1 => ?_)
  rw [if_neg (show ¬ wr h 72 1 = 1 from e1)] at hK
  refine ite_i (fun e2 => by rw [if_pos (show wr h 72 1 = 2 from e2)] at hK; exact hK) (fun e2 => ?_)
  rw [if_neg (show ¬ wr h 72 1 = 2 from e2)] at hK
  refine ite_i (fun e3 => by rw [if_pos (show wr h 72 1 = 3 from e3)] at hK; exact hK) (fun e3 => ?_)
  rw [if_neg (show ¬ wr h 72 1 = 3 from e3)] at hK
  have ec : cmpL v 0 = 0 ↔ v = 0 := by
    unfold cmpL
    split
    · omega
    · split <;> omega
  refine ite_i (fun e5 => ?_) (fun e5 => ?_)
  · rw [if_pos (ec.mp e5)] at hK; exact hK
  · rw [if_neg (fun q => e5 (ec.mpr q))] at hK; exact hK
theorem c_write3 {i v : Int} (hW : Wd h) (hs : 0 ≤ h 72 1 ∧ h 72 1 ≤ 4) (hz : h 72 2 ≤ 60) (ht : 0 ≤ i ∧ i < h 72 2 → K (some (xi 1)) (uH h 73 i.toNat (narV (h 72 1) v)) al) (hf : ¬ (0 ≤ i ∧ i < h 72 2) → K (some (xi 0)) h al) : Call g (d + 2) yTa_write [xr 72, xi i, xl v] h al K := by
  have hW0 := hW
  obtain ⟨h, rfl⟩ := hW
  refine cof ocTa_write rfl (XW_to [] 40 okTa_write ?_)
  refine ite_i (fun q => ⟨Or.inl rfl, hf (by omega)⟩) (fun q => ?_)
  refine ite_i (fun q2 => ?_) (fun q2 => ⟨Or.inl rfl, hf (by simp only [] at q2; omega)⟩)
  simp only [] at q2
  refine ite_t (by omega) ?_
  refine c_narrowed3 hW0 hs ?_
  exact ⟨⟨by omega, by show i < 60; omega⟩, Or.inr rfl, ht (by omega)⟩
theorem c_itemAt3 {i : Int} (hW : Wd h) (hi : 0 ≤ i ∧ i < 60) (hK : K (some (xl (h 73 i.toNat))) h al) : Call g (d + 1) yTa_itemAt [xr 72, xi i] h al K := by
  obtain ⟨h, rfl⟩ := hW
  refine cof ocTa_itemAt rfl (XW_to [] 40 okTa_itemAt ?_)
  refine ite_f (by omega) (ite_t (by omega) ?_)
  exact ⟨⟨by omega, by show i < 60; omega⟩, hK⟩
theorem c_holds3 {i n : Int} (hb : (-2147483648 ≤ i ∧ i < 2147483648) ∧ (-2147483648 ≤ n ∧ n < 2147483648)) (ht : 0 ≤ i ∧ 0 ≤ n ∧ i + n ≤ h 72 2 → K (some (xi 1)) h al) (hf : ¬ (0 ≤ i ∧ 0 ≤ n ∧ i + n ≤ h 72 2) → K (some (xi 0)) h al) : Call g (d + 1) yTa_holds [xr 72, xi i, xi n] h al K := by
  refine cof ocTa_holds rfl (XW_to [] 40 okTa_holds ?_)
  refine ite_i (fun q => ⟨Or.inl rfl, hf (by omega)⟩) (fun q => ?_)
  refine ite_i (fun q2 => ⟨Or.inl rfl, hf (by omega)⟩) (fun q2 => ?_)
  have ew : wL (i + n) = i + n := wL_id (by omega)
  have ec : ∀ y : Int, 0 < cmpL (wL (i + n)) y ↔ y < i + n := by
    intro y
    rw [ew]
    unfold cmpL
    split
    · omega
    · split <;> omega
  refine ite_i (fun q3 => ⟨Or.inl rfl, hf ?_⟩) (fun q3 => ⟨Or.inr rfl, ht ?_⟩)
  · have q4 : h 72 2 < i + n := (ec (h 72 2)).mp q3
    omega
  · have q4 : ¬ h 72 2 < i + n := fun z => q3 ((ec (h 72 2)).mpr z)
    omega
theorem c_become4 {s n : Int} (hW : Wd h) (hn : 0 ≤ n ∧ n ≤ 60) (hK : ∀ f : Nat → Int, (∀ k, k < 60 → f k = 0) → K none (rowU (uH (uH h 74 1 s) 74 2 n) 75 f) al) : Call g (d + 3) yTa_become [xr 74, xi s, xi n] h al K := by
  obtain ⟨h, rfl⟩ := hW
  refine cof ocTa_become rfl (XW_to [] 40 okTa_become ?_)
  refine c_min ?_
  refine c_max ?_
  have e : (if (0 : Int) < (if (60 : Int) < n then 60 else n) then (if (60 : Int) < n then 60 else n) else 0) = n := by
    split <;> split at * <;> omega
  simp only [e]
  refine c_fillJ rfl (by show (60 : Nat) < 100000; decide) fun f f1 f2 => hK f f1
theorem c_narrowed4 {v : Int} (hW : Wd h) (hs : 0 ≤ h 74 1 ∧ h 74 1 ≤ 4) (hK : K (some (xl (narV (h 74 1) v))) h al) : Call g (d + 1) yTa_narrowed [xr 74, xl v] h al K := by
  obtain ⟨h, rfl⟩ := hW
  refine cof ocTa_narrowed rfl (XW_to [] 40 okTa_narrowed ?_)
  unfold narV at hK
  refine ite_i (fun e0 => by rw [if_pos e0] at hK; exact hK) (fun e0 => ?_)
  simp only [] at e0
  rw [if_neg e0] at hK
  refine ite_i (fun e1 => by rw [if_pos (show wr h 74 1 = 1 from e1)] at hK; exact hK) (fun e1 => ?_)
  rw [if_neg (show ¬ wr h 74 1 = 1 from e1)] at hK
  refine ite_i (fun e2 => by rw [if_pos (show wr h 74 1 = 2 from e2)] at hK; exact hK) (fun e2 => ?_)
  rw [if_neg (show ¬ wr h 74 1 = 2 from e2)] at hK
  refine ite_i (fun e3 => by rw [if_pos (show wr h 74 1 = 3 from e3)] at hK; exact hK) (fun e3 => ?_)
  rw [if_neg (show ¬ wr h 74 1 = 3 from e3)] at hK
  have ec : cmpL v 0 = 0 ↔ v = 0 := by
    unfold cmpL
    split
    · omega
    · split <;> omega
  refine ite_i (fun e5 => ?_) (fun e5 => ?_)
  · rw [if_pos (ec.mp e5)] at hK; exact hK
  · rw [if_neg (fun q => e5 (ec.mpr q))] at hK; exact hK
theorem c_write4 {i v : Int} (hW : Wd h) (hs : 0 ≤ h 74 1 ∧ h 74 1 ≤ 4) (hz : h 74 2 ≤ 60) (ht : 0 ≤ i ∧ i < h 74 2 → K (some (xi 1)) (uH h 75 i.toNat (narV (h 74 1) v)) al) (hf : ¬ (0 ≤ i ∧ i < h 74 2) → K (some (xi 0)) h al) : Call g (d + 2) yTa_write [xr 74, xi i, xl v] h al K := by
  have hW0 := hW
  obtain ⟨h, rfl⟩ := hW
  refine cof ocTa_write rfl (XW_to [] 40 okTa_write ?_)
  refine ite_i (fun q => ⟨Or.inl rfl, hf (by omega)⟩) (fun q => ?_)
  refine ite_i (fun q2 => ?_) (fun q2 => ⟨Or.inl rfl, hf (by simp only [] at q2; omega)⟩)
  simp only [] at q2
  refine ite_t (by omega) ?_
  refine c_narrowed4 hW0 hs ?_
  exact ⟨⟨by omega, by show i < 60; omega⟩, Or.inr rfl, ht (by omega)⟩
theorem c_itemAt4 {i : Int} (hW : Wd h) (hi : 0 ≤ i ∧ i < 60) (hK : K (some (xl (h 75 i.toNat))) h al) : Call g (d + 1) yTa_itemAt [xr 74, xi i] h al K := by
  obtain ⟨h, rfl⟩ := hW
  refine cof ocTa_itemAt rfl (XW_to [] 40 okTa_itemAt ?_)
  refine ite_f (by omega) (ite_t (by omega) ?_)
  exact ⟨⟨by omega, by show i < 60; omega⟩, hK⟩
theorem c_holds4 {i n : Int} (hb : (-2147483648 ≤ i ∧ i < 2147483648) ∧ (-2147483648 ≤ n ∧ n < 2147483648)) (ht : 0 ≤ i ∧ 0 ≤ n ∧ i + n ≤ h 74 2 → K (some (xi 1)) h al) (hf : ¬ (0 ≤ i ∧ 0 ≤ n ∧ i + n ≤ h 74 2) → K (some (xi 0)) h al) : Call g (d + 1) yTa_holds [xr 74, xi i, xi n] h al K := by
  refine cof ocTa_holds rfl (XW_to [] 40 okTa_holds ?_)
  refine ite_i (fun q => ⟨Or.inl rfl, hf (by omega)⟩) (fun q => ?_)
  refine ite_i (fun q2 => ⟨Or.inl rfl, hf (by omega)⟩) (fun q2 => ?_)
  have ew : wL (i + n) = i + n := wL_id (by omega)
  have ec : ∀ y : Int, 0 < cmpL (wL (i + n)) y ↔ y < i + n := by
    intro y
    rw [ew]
    unfold cmpL
    split
    · omega
    · split <;> omega
  refine ite_i (fun q3 => ⟨Or.inl rfl, hf ?_⟩) (fun q3 => ⟨Or.inr rfl, ht ?_⟩)
  · have q4 : h 74 2 < i + n := (ec (h 74 2)).mp q3
    omega
  · have q4 : ¬ h 74 2 < i + n := fun z => q3 ((ec (h 74 2)).mpr z)
    omega
theorem c_become5 {s n : Int} (hW : Wd h) (hn : 0 ≤ n ∧ n ≤ 60) (hK : ∀ f : Nat → Int, (∀ k, k < 60 → f k = 0) → K none (rowU (uH (uH h 76 1 s) 76 2 n) 77 f) al) : Call g (d + 3) yTa_become [xr 76, xi s, xi n] h al K := by
  obtain ⟨h, rfl⟩ := hW
  refine cof ocTa_become rfl (XW_to [] 40 okTa_become ?_)
  refine c_min ?_
  refine c_max ?_
  have e : (if (0 : Int) < (if (60 : Int) < n then 60 else n) then (if (60 : Int) < n then 60 else n) else 0) = n := by
    split <;> split at * <;> omega
  simp only [e]
  refine c_fillJ rfl (by show (60 : Nat) < 100000; decide) fun f f1 f2 => hK f f1
theorem c_narrowed5 {v : Int} (hW : Wd h) (hs : 0 ≤ h 76 1 ∧ h 76 1 ≤ 4) (hK : K (some (xl (narV (h 76 1) v))) h al) : Call g (d + 1) yTa_narrowed [xr 76, xl v] h al K := by
  obtain ⟨h, rfl⟩ := hW
  refine cof ocTa_narrowed rfl (XW_to [] 40 okTa_narrowed ?_)
  unfold narV at hK
  refine ite_i (fun e0 => by rw [if_pos e0] at hK; exact hK) (fun e0 => ?_)
  simp only [] at e0
  rw [if_neg e0] at hK
  refine ite_i (fun e1 => by rw [if_pos (show wr h 76 1 = 1 from e1)] at hK; exact hK) (fun e1 => ?_)
  rw [if_neg (show ¬ wr h 76 1 = 1 from e1)] at hK
  refine ite_i (fun e2 => by rw [if_pos (show wr h 76 1 = 2 from e2)] at hK; exact hK) (fun e2 => ?_)
  rw [if_neg (show ¬ wr h 76 1 = 2 from e2)] at hK
  refine ite_i (fun e3 => by rw [if_pos (show wr h 76 1 = 3 from e3)] at hK; exact hK) (fun e3 => ?_)
  rw [if_neg (show ¬ wr h 76 1 = 3 from e3)] at hK
  have ec : cmpL v 0 = 0 ↔ v = 0 := by
    unfold cmpL
    split
    · omega
    · split <;> omega
  refine ite_i (fun e5 => ?_) (fun e5 => ?_)
  · rw [if_pos (ec.mp e5)] at hK; exact hK
  · rw [if_neg (fun q => e5 (ec.mpr q))] at hK; exact hK
theorem c_write5 {i v : Int} (hW : Wd h) (hs : 0 ≤ h 76 1 ∧ h 76 1 ≤ 4) (hz : h 76 2 ≤ 60) (ht : 0 ≤ i ∧ i < h 76 2 → K (some (xi 1)) (uH h 77 i.toNat (narV (h 76 1) v)) al) (hf : ¬ (0 ≤ i ∧ i < h 76 2) → K (some (xi 0)) h al) : Call g (d + 2) yTa_write [xr 76, xi i, xl v] h al K := by
  have hW0 := hW
  obtain ⟨h, rfl⟩ := hW
  refine cof ocTa_write rfl (XW_to [] 40 okTa_write ?_)
  refine ite_i (fun q => ⟨Or.inl rfl, hf (by omega)⟩) (fun q => ?_)
  refine ite_i (fun q2 => ?_) (fun q2 => ⟨Or.inl rfl, hf (by simp only [] at q2; omega)⟩)
  simp only [] at q2
  refine ite_t (by omega) ?_
  refine c_narrowed5 hW0 hs ?_
  exact ⟨⟨by omega, by show i < 60; omega⟩, Or.inr rfl, ht (by omega)⟩
theorem c_itemAt5 {i : Int} (hW : Wd h) (hi : 0 ≤ i ∧ i < 60) (hK : K (some (xl (h 77 i.toNat))) h al) : Call g (d + 1) yTa_itemAt [xr 76, xi i] h al K := by
  obtain ⟨h, rfl⟩ := hW
  refine cof ocTa_itemAt rfl (XW_to [] 40 okTa_itemAt ?_)
  refine ite_f (by omega) (ite_t (by omega) ?_)
  exact ⟨⟨by omega, by show i < 60; omega⟩, hK⟩
theorem c_holds5 {i n : Int} (hb : (-2147483648 ≤ i ∧ i < 2147483648) ∧ (-2147483648 ≤ n ∧ n < 2147483648)) (ht : 0 ≤ i ∧ 0 ≤ n ∧ i + n ≤ h 76 2 → K (some (xi 1)) h al) (hf : ¬ (0 ≤ i ∧ 0 ≤ n ∧ i + n ≤ h 76 2) → K (some (xi 0)) h al) : Call g (d + 1) yTa_holds [xr 76, xi i, xi n] h al K := by
  refine cof ocTa_holds rfl (XW_to [] 40 okTa_holds ?_)
  refine ite_i (fun q => ⟨Or.inl rfl, hf (by omega)⟩) (fun q => ?_)
  refine ite_i (fun q2 => ⟨Or.inl rfl, hf (by omega)⟩) (fun q2 => ?_)
  have ew : wL (i + n) = i + n := wL_id (by omega)
  have ec : ∀ y : Int, 0 < cmpL (wL (i + n)) y ↔ y < i + n := by
    intro y
    rw [ew]
    unfold cmpL
    split
    · omega
    · split <;> omega
  refine ite_i (fun q3 => ⟨Or.inl rfl, hf ?_⟩) (fun q3 => ⟨Or.inr rfl, ht ?_⟩)
  · have q4 : h 76 2 < i + n := (ec (h 76 2)).mp q3
    omega
  · have q4 : ¬ h 76 2 < i + n := fun z => q3 ((ec (h 76 2)).mpr z)
    omega
end TP
