-- ten bits
theorem i32n {a : Nat} (ha : a < 1024) : (Int32.ofInt (a : Int)).toBitVec = BitVec.ofNat 32 a := by
  show BitVec.ofInt 32 (a : Int) = BitVec.ofNat 32 a
  exact BitVec.ofInt_natCast 32 a
theorem aI_n {a b : Nat} (ha : a < 1024) (hb : b < 1024) : aI a b = ((a &&& b : Nat) : Int) := by
  have hab : a &&& b < 1024 := Nat.and_lt_two_pow (n := 10) a hb
  unfold aI
  show ((Int32.ofInt (a : Int) &&& Int32.ofInt (b : Int)).toBitVec).toInt = _
  rw [Int32.toBitVec_and, i32n ha, i32n hb, BitVec.toInt_eq_toNat_of_lt]
  · rw [BitVec.toNat_and, BitVec.toNat_ofNat, BitVec.toNat_ofNat, Nat.mod_eq_of_lt (by omega), Nat.mod_eq_of_lt (by omega)]
  · rw [BitVec.toNat_and, BitVec.toNat_ofNat, BitVec.toNat_ofNat, Nat.mod_eq_of_lt (by omega), Nat.mod_eq_of_lt (by omega)]; omega
theorem oI_n {a b : Nat} (ha : a < 1024) (hb : b < 1024) : oI a b = ((a ||| b : Nat) : Int) := by
  have hab : a ||| b < 1024 := Nat.or_lt_two_pow (n := 10) ha hb
  unfold oI
  show ((Int32.ofInt (a : Int) ||| Int32.ofInt (b : Int)).toBitVec).toInt = _
  rw [Int32.toBitVec_or, i32n ha, i32n hb, BitVec.toInt_eq_toNat_of_lt]
  · rw [BitVec.toNat_or, BitVec.toNat_ofNat, BitVec.toNat_ofNat, Nat.mod_eq_of_lt (by omega), Nat.mod_eq_of_lt (by omega)]
  · rw [BitVec.toNat_or, BitVec.toNat_ofNat, BitVec.toNat_ofNat, Nat.mod_eq_of_lt (by omega), Nat.mod_eq_of_lt (by omega)]; omega
def ck (n : Nat) (p : Nat → Bool) : Bool := Nat.rec true (fun k r => r && p k) n
theorem ck_of {n : Nat} {p : Nat → Bool} (h : ck n p = true) {k : Nat} (hk : k < n) : p k = true := by
  induction n with
  | zero => omega
  | succ n ih =>
    have h2 : (ck n p && p n) = true := h
    rw [Bool.and_eq_true] at h2
    by_cases e : k = n
    · rw [e]; exact h2.2
    · exact ih h2.1 (by omega)
theorem notI_n {a : Nat} (ha : a < 1024) : aI 1023 (eI a (-1)) = ((1023 - a : Nat) : Int) := by
  have h : ck 1024 (fun a => decide (aI 1023 (eI (a : Int) (-1)) = ((1023 - a : Nat) : Int))) = true := by decide +kernel
  exact of_decide_eq_true (ck_of h ha)
theorem shl_n {s : Nat} (hs : s < 10) : shlI 1 s = ((2 ^ s : Nat) : Int) := by
  have h : ck 10 (fun s => decide (shlI 1 (s : Int) = ((2 ^ s : Nat) : Int))) = true := by decide +kernel
  exact of_decide_eq_true (ck_of h hs)
theorem bit_n {a s : Nat} (ha : a < 1024) (hs : s < 10) : aI (shrI a s) 1 = if a.testBit s then 1 else 0 := by
  have h : ck 10 (fun s => ck 1024 (fun a => decide (aI (shrI (a : Int) (s : Int)) 1 = if a.testBit s then 1 else 0))) = true := by decide +kernel
  exact of_decide_eq_true (ck_of (ck_of h hs) ha)
theorem not_bit {a s : Nat} (ha : a < 1024) (hs : s < 10) : (1023 - a).testBit s = !a.testBit s := by
  have e : 1023 - a = 2 ^ 10 - (a + 1) := by omega
  rw [e, Nat.testBit_two_pow_sub_succ (n := 10) (by omega)]
  rw [decide_eq_true hs, Bool.true_and]
theorem two_bit {s t : Nat} : (2 ^ s).testBit t = decide (s = t) := Nat.testBit_two_pow
