-- whole numbers in place of ints and longs
theorem ofI_toI (z : Int) : (Int32.ofInt z).toInt = wI z := by
  rw [Int32.toInt_ofInt]
  unfold wI
  simp only [Int.bmod, Int32.size]
  omega
theorem ofL_toI (z : Int) : (Int64.ofInt z).toInt = wL z := by
  rw [Int64.toInt_ofInt]
  unfold wL
  simp only [Int.bmod, Int64.size]
  omega
theorem wI_id {z : Int} (h : -2147483648 ≤ z ∧ z < 2147483648) : wI z = z := by unfold wI; omega
theorem wL_id {z : Int} (h : -9223372036854775808 ≤ z ∧ z < 9223372036854775808) : wL z = z := by unfold wL; omega
theorem wI_rg (z : Int) : -2147483648 ≤ wI z ∧ wI z < 2147483648 := by unfold wI; omega
theorem wL_rg (z : Int) : -9223372036854775808 ≤ wL z ∧ wL z < 9223372036854775808 := by unfold wL; omega
theorem wI_ww (z : Int) : wI (wI z) = wI z := wI_id (wI_rg z)
theorem wL_ww (z : Int) : wL (wL z) = wL z := wL_id (wL_rg z)
theorem ofI_w (z : Int) : Int32.ofInt (wI z) = Int32.ofInt z := by
  apply Int32.toInt_inj.mp; rw [ofI_toI, ofI_toI, wI_ww]
theorem ofL_w (z : Int) : Int64.ofInt (wL z) = Int64.ofInt z := by
  apply Int64.toInt_inj.mp; rw [ofL_toI, ofL_toI, wL_ww]
theorem rI {z : Int} (h : -2147483648 ≤ z ∧ z < 2147483648) : (Int32.ofInt z).toInt = z := by rw [ofI_toI, wI_id h]
theorem rL {z : Int} (h : -9223372036854775808 ≤ z ∧ z < 9223372036854775808) : (Int64.ofInt z).toInt = z := by rw [ofL_toI, wL_id h]
theorem toI_rg (x : Int32) : -2147483648 ≤ x.toInt ∧ x.toInt < 2147483648 := by
  have h1 := Int32.le_toInt x
  have h2 := Int32.toInt_lt x
  omega
theorem toL_rg (x : Int64) : -9223372036854775808 ≤ x.toInt ∧ x.toInt < 9223372036854775808 := by
  have h1 := Int64.le_toInt x
  have h2 := Int64.toInt_lt x
  omega
theorem a_add (x y : Int) : Int32.ofInt (wI (x + y)) = Int32.ofInt x + Int32.ofInt y := by rw [ofI_w, Int32.ofInt_add]
theorem a_mul (x y : Int) : Int32.ofInt (wI (x * y)) = Int32.ofInt x * Int32.ofInt y := by rw [ofI_w, Int32.ofInt_mul]
theorem a_neg (x : Int) : Int32.ofInt (wI (-x)) = -Int32.ofInt x := by rw [ofI_w, Int32.ofInt_neg]
theorem a_sub (x y : Int) : Int32.ofInt (wI (x - y)) = Int32.ofInt x - Int32.ofInt y := by
  rw [ofI_w, Int.sub_eq_add_neg, Int32.ofInt_add, Int32.ofInt_neg, Int32.sub_eq_add_neg]
theorem l_add (x y : Int) : Int64.ofInt (wL (x + y)) = Int64.ofInt x + Int64.ofInt y := by rw [ofL_w, Int64.ofInt_add]
theorem l_neg (x : Int) : Int64.ofInt (wL (-x)) = -Int64.ofInt x := by rw [ofL_w, Int64.ofInt_neg]
theorem ofI_lt {x y : Int} (hx : -2147483648 ≤ x ∧ x < 2147483648) (hy : -2147483648 ≤ y ∧ y < 2147483648) : Int32.ofInt x < Int32.ofInt y ↔ x < y := by
  rw [Int32.lt_iff_toInt_lt, rI hx, rI hy]
theorem ofI_le {x y : Int} (hx : -2147483648 ≤ x ∧ x < 2147483648) (hy : -2147483648 ≤ y ∧ y < 2147483648) : Int32.ofInt x ≤ Int32.ofInt y ↔ x ≤ y := by
  rw [Int32.le_iff_toInt_le, rI hx, rI hy]
theorem ofI_eq {x y : Int} (hx : -2147483648 ≤ x ∧ x < 2147483648) (hy : -2147483648 ≤ y ∧ y < 2147483648) : Int32.ofInt x = Int32.ofInt y ↔ x = y := by
  constructor
  · intro h; rw [← rI hx, ← rI hy, h]
  · intro h; rw [h]
theorem ofL_lt {x y : Int} (hx : -9223372036854775808 ≤ x ∧ x < 9223372036854775808) (hy : -9223372036854775808 ≤ y ∧ y < 9223372036854775808) : Int64.ofInt x < Int64.ofInt y ↔ x < y := by
  rw [Int64.lt_iff_toInt_lt, rL hx, rL hy]
theorem ofL_eq {x y : Int} (hx : -9223372036854775808 ≤ x ∧ x < 9223372036854775808) (hy : -9223372036854775808 ≤ y ∧ y < 9223372036854775808) : Int64.ofInt x = Int64.ofInt y ↔ x = y := by
  constructor
  · intro h; rw [← rL hx, ← rL hy, h]
  · intro h; rw [h]
theorem a_div {x y : Int} (hx : -2147483648 ≤ x ∧ x < 2147483648) (hy : -2147483648 ≤ y ∧ y < 2147483648) : Int32.ofInt (wI (x.tdiv y)) = Int32.ofInt x / Int32.ofInt y := by
  apply Int32.toInt_inj.mp
  rw [ofI_w, Int32.toInt_div, rI hx, rI hy, Int32.toInt_ofInt]
theorem a_rem {x y : Int} (hx : -2147483648 ≤ x ∧ x < 2147483648) (hy : -2147483648 ≤ y ∧ y < 2147483648) : Int32.ofInt (x.tmod y) = Int32.ofInt x - Int32.ofInt x / Int32.ofInt y * Int32.ofInt y := by
  rw [← a_div hx hy, ofI_w, ← Int32.ofInt_mul, Int32.sub_eq_add_neg, ← Int32.ofInt_neg, ← Int32.ofInt_add]
  congr 1
  rw [Int.tmod_def, Int.mul_comm, Int.sub_eq_add_neg]
theorem l_div {x y : Int} (hx : -9223372036854775808 ≤ x ∧ x < 9223372036854775808) (hy : -9223372036854775808 ≤ y ∧ y < 9223372036854775808) : Int64.ofInt (wL (x.tdiv y)) = Int64.ofInt x / Int64.ofInt y := by
  apply Int64.toInt_inj.mp
  rw [ofL_w, Int64.toInt_div, rL hx, rL hy, Int64.toInt_ofInt]
theorem l_rem {x y : Int} (hx : -9223372036854775808 ≤ x ∧ x < 9223372036854775808) (hy : -9223372036854775808 ≤ y ∧ y < 9223372036854775808) : Int64.ofInt (x.tmod y) = Int64.ofInt x - Int64.ofInt x / Int64.ofInt y * Int64.ofInt y := by
  rw [← l_div hx hy, ofL_w, ← Int64.ofInt_mul, Int64.sub_eq_add_neg, ← Int64.ofInt_neg, ← Int64.ofInt_add]
  congr 1
  rw [Int.tmod_def, Int.mul_comm, Int.sub_eq_add_neg]
theorem tmod_rg {x y a b : Int} (hx : a ≤ x ∧ x < b) (h0 : a ≤ 0) (hb : 0 < b) : a ≤ x.tmod y ∧ x.tmod y < b := by
  have e := Int.natAbs_tmod x y
  have e2 := Nat.mod_le x.natAbs y.natAbs
  rcases Int.le_total 0 x with h | h
  · have h1 := Int.tmod_nonneg y h
    omega
  · have h1 : (-x).tmod y = -(x.tmod y) := Int.neg_tmod ..
    have h3 := Int.tmod_nonneg (a := -x) y (by omega)
    omega
theorem a_i2l {x : Int} (hx : -2147483648 ≤ x ∧ x < 2147483648) : (Int32.ofInt x).toInt64 = Int64.ofInt x := by
  apply Int64.toInt_inj.mp
  rw [Int32.toInt_toInt64, rI hx, rL (by omega)]
theorem a_l2i {x : Int} (hx : -9223372036854775808 ≤ x ∧ x < 9223372036854775808) : (Int64.ofInt x).toInt32 = Int32.ofInt (wI x) := by
  apply Int32.toInt_inj.mp
  rw [Int64.toInt_toInt32, rL hx, ofI_w, Int32.toInt_ofInt]
theorem a_i2b {x : Int} (hx : -2147483648 ≤ x ∧ x < 2147483648) : (Int32.ofInt x).toInt8.toInt32 = Int32.ofInt (wB x) := by
  have hb : -2147483648 ≤ wB x ∧ wB x < 2147483648 := by unfold wB; omega
  apply Int32.toInt_inj.mp
  rw [lg_i2b_toInt, rI hx, rI hb]
  unfold wB
  simp only [Int.bmod]
  omega
theorem a_i2s {x : Int} (hx : -2147483648 ≤ x ∧ x < 2147483648) : (Int32.ofInt x).toInt16.toInt32 = Int32.ofInt (wS x) := by
  have hb : -2147483648 ≤ wS x ∧ wS x < 2147483648 := by unfold wS; omega
  apply Int32.toInt_inj.mp
  rw [lg_i2s_toInt, rI hx, rI hb]
  unfold wS
  simp only [Int.bmod]
  omega
theorem a_i2c {x : Int} (hx : -2147483648 ≤ x ∧ x < 2147483648) : ((Int32.ofInt x).toUInt32 % 65536).toInt32 = Int32.ofInt (wC x) := by
  have hb : -2147483648 ≤ wC x ∧ wC x < 2147483648 := by unfold wC; omega
  apply Int32.toInt_inj.mp
  rw [lg_i2c_nf, lg_i2c_toInt, rI hx, rI hb]
  rfl
theorem a_cmp {x y : Int} (hx : -9223372036854775808 ≤ x ∧ x < 9223372036854775808) (hy : -9223372036854775808 ≤ y ∧ y < 9223372036854775808) : lg_cmp (Int64.ofInt x) (Int64.ofInt y) = Int32.ofInt (cmpL x y) := by
  unfold lg_cmp cmpL
  simp only [gt_iff_lt, ofL_lt hy hx, ofL_eq hx hy]
  split
  · rfl
  · split <;> rfl
theorem cmp_rg (x y : Int) : -2147483648 ≤ cmpL x y ∧ cmpL x y < 2147483648 := by
  unfold cmpL
  split
  · omega
  · split <;> omega
theorem clampI {j : Int} (h : 0 ≤ j) (h2 : j < 2147483648) : (Int32.ofInt j).toNatClampNeg = j.toNat := by
  show (Int32.ofInt j).toInt.toNat = _
  rw [rI (by omega)]
theorem ofI0 {j : Int} (h : 0 ≤ j) (h2 : j < 2147483648) : ¬ Int32.ofInt j < 0 := by
  rw [show (0 : Int32) = Int32.ofInt 0 from rfl, ofI_lt (by omega) (by omega)]; omega
theorem ixok {j : Int} {n : Nat} (h : 0 ≤ j ∧ j < (n : Int)) (h2 : j < 2147483648) : ¬ (Int32.ofInt j < 0 ∨ n ≤ (Int32.ofInt j).toNatClampNeg) := by
  rw [clampI h.1 h2]
  intro q
  rcases q with q | q
  · exact ofI0 h.1 h2 q
  · omega
