-- the texts' members: contracts
def ixS (i : Nat) (c : Int) : Nat → Nat → Int
  | 0, _ => -1
  | m + 1, j => if sb i j = c then (j : Int) else ixS i c m (j + 1)
theorem kd_st {i : Nat} (hi : i < 8) : kd (183 + i) = 90 := by
  have h : ck 8 (fun i => decide (kd (183 + i) = 90)) = true := by decide +kernel
  exact of_decide_eq_true (ck_of h hi)
theorem sb_rg {i j : Nat} (hi : i < 8) (hj : j < 10) : 0 ≤ sb i j ∧ sb i j < 128 := by
  have h : ck 8 (fun i => ck 10 (fun j => decide (0 ≤ sb i j ∧ sb i j < 128))) = true := by decide +kernel
  exact of_decide_eq_true (ck_of (ck_of h hi) hj)
theorem shr_z {n : Nat} (hn : n < 10) : shrI (n : Int) 0 = (n : Int) := by
  have h : ck 10 (fun n => decide (shrI (n : Int) 0 = (n : Int))) = true := by decide +kernel
  exact of_decide_eq_true (ck_of h hn)
section ST2
variable {g : GC} {d : Nat} {h : HH} {al : AL} {K : KT}
theorem c_chk {k n : Nat} (hk : k < n) (hn : n < 1000) (hK : K none h al) : Call g (d + 2) yJ0_checkIndex_df160 [xi (k : Int), xi (n : Int)] h al K := by
  refine cof ocJ0_checkIndex_df160 rfl (XW_t4 [2] 30 okJ0_checkIndex_df160 ?_)
  refine XW_fmtS (As := [xi (k : Int), xi (n : Int)]) (r := []) (M2 := mJ3_checkIndex_8e157) (ix := 1053) (ix2 := 1059) (n := 3) (by decide +kernel) w_fmt (by decide +kernel) ocJ3_checkIndex_8e157 rfl (show 3 ≤ 3 from Nat.le_refl _) (by decide +kernel) (by decide) (by decide +kernel) (by decide +kernel) (by decide +kernel) (by decide) ?_
  refine XW_t4 [] 30 okJ3_checkIndex_8e157 ?_
  refine ite_t (by omega) ?_
  refine XW_t4 [] 30 okJ0_checkIndex_df160 ?_
  exact hK
theorem c_coder {i : Nat} (hi : i < 8) (hK : K (some (xi 0)) h al) : Call g (d + 1) yJ0_coder_7d493 [xr (Int.ofNat (183 + i))] h al K := by
  refine cof ocJ0_coder_7d493 rfl ?_
  refine XW_scmp (ix := 38) (by decide +kernel) w_cmp ?_
  refine XW_t4 [7] 30 okJ0_coder_7d493 ?_
  refine XW_scod (ix := 15) hi (by decide +kernel) w_cod ?_
  refine XW_t4 [] 30 okJ0_coder_7d493 ?_
  exact ⟨by decide, hK⟩
theorem c_isLatin1 {i : Nat} (hi : i < 8) (hK : K (some (xi 1)) h al) : Call g (d + 1) yJ0_isLatin1_aae02 [xr (Int.ofNat (183 + i))] h al K := by
  refine cof ocJ0_isLatin1_aae02 rfl ?_
  refine XW_scmp (ix := 38) (by decide +kernel) w_cmp ?_
  refine XW_t4 [7] 30 okJ0_isLatin1_aae02 ?_
  refine XW_scod (ix := 15) hi (by decide +kernel) w_cod ?_
  refine XW_t4 [] 30 okJ0_isLatin1_aae02 ?_
  exact ⟨Or.inr rfl, hK⟩
theorem c_slen {i : Nat} (hi : i < 8) (hK : K (some (xi (sn i : Int))) h al) : Call g (d + 2) yJ0_length_8abf5 [xr (Int.ofNat (183 + i))] h al K := by
  have hn := sn_lt hi
  refine cof ocJ0_length_8abf5 rfl ?_
  refine XW_t4 [1] 30 okJ0_length_8abf5 ?_
  refine XW_sval (ix := 9) hi (by decide +kernel) w_val ?_
  refine XW_slen hi (by decide +kernel) ?_
  refine XW_t4 [] 30 okJ0_length_8abf5 ?_
  refine cond_i (by show (Nat.beq (kd (183 + i)) 90 && _) = true; rw [kd_st hi]; rfl) ?_
  refine c_coder hi ?_
  rw [← shr_z hn] at hK
  exact hK
theorem c_charAtL {i k : Nat} (hi : i < 8) (hk : k < sn i) (hK : K (some (xi (sb i k))) h al) : Call g (d + 3) yJ1_charAt_3b067 [xr (Int.ofNat (191 + i)), xi (k : Int)] h al K := by
  have hn := sn_lt hi
  have hb := sb_rg hi (show k < 10 by omega)
  have e : wC (aI (sb i k) 255) = sb i k := by
    rw [aI_255]
    unfold wC
    omega
  refine cof ocJ1_charAt_3b067 rfl ?_
  refine XW_t4 [2] 30 okJ1_charAt_3b067 ?_
  refine XW_slen hi (by decide +kernel) ?_
  refine XW_t4 [8] 30 okJ1_charAt_3b067 ?_
  refine c_chk hk (by omega) ?_
  refine XW_sbald hi hk (by decide +kernel) ?_
  refine XW_t4 [] 30 okJ1_charAt_3b067 ?_
  rw [← e] at hK
  refine ⟨?_, hK⟩
  rw [e]
  omega
theorem c_charAt {i k : Nat} (hi : i < 8) (hk : k < sn i) (hK : K (some (xi (sb i k))) h al) : Call g (d + 4) yJ0_charAt_5068e [xr (Int.ofNat (183 + i)), xi (k : Int)] h al K := by
  have hn := sn_lt hi
  have hb := sb_rg hi (show k < 10 by omega)
  refine cof ocJ0_charAt_5068e rfl ?_
  refine XW_t4 [8] 30 okJ0_charAt_5068e ?_
  refine cond_i (by show (Nat.beq (kd (183 + i)) 90 && _) = true; rw [kd_st hi]; rfl) ?_
  refine c_isLatin1 hi ?_
  refine XW_sval (ix := 9) hi (by decide +kernel) w_val ?_
  refine XW_t4 [] 30 okJ0_charAt_5068e ?_
  refine c_charAtL hi hk ?_
  exact ⟨by omega, hK⟩
theorem c_canEncode {c : Int} (hc : 0 ≤ c ∧ c < 256) (hK : K (some (xi 1)) h al) : Call g (d + 1) yJ1_canEncode_9a6ad [xi c] h al K := by
  refine cof ocJ1_canEncode_9a6ad rfl ?_
  refine XW_t4 [] 30 okJ1_canEncode_9a6ad ?_
  refine ite_f (by omega) ?_
  refine ite_f (by omega) ?_
  exact ⟨Or.inr rfl, hK⟩
theorem c_indexOfChar {i : Nat} {c : Int} (hi : i < 8) (hc : 0 ≤ c ∧ c < 256) (hK : K (some (xi (ixS i c (sn i) 0))) h al) : Call g (d + 1) yJ1_indexOfChar_4cfef [xr (Int.ofNat (191 + i)), xi c, xi 0, xi (sn i : Int)] h al K := by
  have hn := sn_lt hi
  have loop : ∀ m j : Nat, j + m = sn i → ixS i c (sn i) 0 = ixS i c m j → XW g d mJ1_indexOfChar_4cfef K 7 [some (xr (Int.ofNat (191 + i))), some (xi c), some (xi 0), some (xi (sn i : Int)), some (xi (wB c)), some (xi (j : Int))] [] h al := by
    intro m
    induction m with
    | zero =>
      intro j hj e
      rw [e] at hK
      refine XW_t4 [7] 30 okJ1_indexOfChar_4cfef ?_
      refine ite_f (by omega) ?_
      exact hK
    | succ m ih =>
      intro j hj e
      have hb := sb_rg hi (show j < 10 by omega)
      have eq : (sb i j = wB c) ↔ (sb i j = c) := by
        unfold wB
        omega
      have e' : ixS i c (m + 1) j = if sb i j = c then (j : Int) else ixS i c m (j + 1) := rfl
      refine XW_t4 [7, 16] 30 okJ1_indexOfChar_4cfef ?_
      refine ite_t (by omega) ?_
      refine XW_sbald hi (by omega) (by decide +kernel) ?_
      refine XW_t4 [7] 30 okJ1_indexOfChar_4cfef ?_
      refine ite_i (fun q => ?_) (fun q => ?_)
      · have q : sb i j = wB c := q
        rw [e', if_pos (eq.mp q)] at e
        rw [e] at hK
        exact hK
      · have q : ¬ sb i j = wB c := q
        rw [e', if_neg (fun q2 => q (eq.mpr q2))] at e
        have t := ih (j + 1) (by omega) e
        rw [← nS j (by omega)] at t
        exact t
  refine cof ocJ1_indexOfChar_4cfef rfl ?_
  refine XW_t4 [7] 30 okJ1_indexOfChar_4cfef ?_
  exact loop (sn i) 0 (by omega) rfl
theorem c_indexOfL {i : Nat} {c : Int} (hi : i < 8) (hn0 : 0 < sn i) (hc : 0 ≤ c ∧ c < 256) (hK : K (some (xi (ixS i c (sn i) 0))) h al) : Call g (d + 2) yJ1_indexOf_4cfef [xr (Int.ofNat (191 + i)), xi c, xi 0, xi (sn i : Int)] h al K := by
  have hn := sn_lt hi
  have k29 : XW g (d + 1) mJ1_indexOf_4cfef K 22 [some (xr (Int.ofNat (191 + i))), some (xi c), some (xi 0), some (xi (sn i : Int))] [] h al := by
    refine XW_t4 [29] 30 okJ1_indexOf_4cfef ?_
    refine ite_t (by omega) ?_
    refine XW_t4 [] 30 okJ1_indexOf_4cfef ?_
    exact c_indexOfChar hi hc hK
  refine cof ocJ1_indexOf_4cfef rfl ?_
  refine XW_t4 [17] 30 okJ1_indexOf_4cfef ?_
  refine c_canEncode hc ?_
  refine c_max ?_
  show XW g (d + 1) mJ1_indexOf_4cfef K 17 [some (xr (Int.ofNat (191 + i))), some (xi c), some (xi 0), some (xi (sn i : Int))] [xr (Int.ofNat (191 + i)), xi (sn i : Int)] h al
  refine XW_slen hi (by decide +kernel) ?_
  refine XW_t4 [22] 30 okJ1_indexOf_4cfef ?_
  refine c_min ?_
  show XW g (d + 1) mJ1_indexOf_4cfef K 22 [some (xr (Int.ofNat (191 + i))), some (xi c), some (xi 0), some (xi (if (sn i : Int) < (sn i : Int) then (sn i : Int) else (sn i : Int)))] [] h al
  rw [ite_self]
  exact k29
theorem c_indexOf2 {i : Nat} {c : Int} (hi : i < 8) (hn0 : 0 < sn i) (hc : 0 ≤ c ∧ c < 256) (hK : K (some (xi (ixS i c (sn i) 0))) h al) : Call g (d + 3) yJ0_indexOf_7cf53 [xr (Int.ofNat (183 + i)), xi c, xi 0] h al K := by
  refine cof ocJ0_indexOf_7cf53 rfl ?_
  refine XW_t4 [8] 30 okJ0_indexOf_7cf53 ?_
  refine cond_i (by show (Nat.beq (kd (183 + i)) 90 && _) = true; rw [kd_st hi]; rfl) ?_
  refine c_isLatin1 hi ?_
  refine XW_sval (ix := 9) hi (by decide +kernel) w_val ?_
  refine XW_t4 [] 30 okJ0_indexOf_7cf53 ?_
  refine cond_i (by show (Nat.beq (kd (183 + i)) 90 && _) = true; rw [kd_st hi]; rfl) ?_
  refine c_slen hi ?_
  exact c_indexOfL hi hn0 hc hK
theorem c_indexOf {i : Nat} {c : Int} (hi : i < 8) (hn0 : 0 < sn i) (hc : 0 ≤ c ∧ c < 256) (hK : K (some (xi (ixS i c (sn i) 0))) h al) : Call g (d + 4) yJ0_indexOf_0f7a4 [xr (Int.ofNat (183 + i)), xi c] h al K := by
  refine cof ocJ0_indexOf_0f7a4 rfl ?_
  refine XW_t4 [] 30 okJ0_indexOf_0f7a4 ?_
  refine cond_i (by show (Nat.beq (kd (183 + i)) 90 && _) = true; rw [kd_st hi]; rfl) ?_
  exact c_indexOf2 hi hn0 hc hK
end ST2
