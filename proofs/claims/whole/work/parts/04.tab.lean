-- the abstract state beside the machine's
def gT : List Cond := lw_tbl.filter goodWord
def isNest : Cond → Bool
  | .fieldLinkNest .. => true
  | .methodLinkNest .. => true
  | _ => false
def nT : List Cond := lw_tbl.filter isNest
def RR : Nat → String
  | 0 => RX0 | 1 => RX1 | 2 => RX2 | 3 => RX3 | 4 => RX4 | 5 => RX5 | 6 => RX6 | 7 => RX7 | 8 => RX8 | 9 => RX9 | _ => RX10
def TT : Nat → u_T
  | 0 => TX0 | 1 => TX1 | 2 => TX2 | 3 => TX3 | 4 => TX4 | 5 => TX5 | 6 => TX6 | 7 => TX7 | 8 => TX8 | 9 => TX9 | _ => TX10
def TYs : Nat → Nat → FieldType
  | 0 => tyX0 | 1 => tyX1 | 2 => tyX2 | 3 => tyX3 | 4 => tyX4 | 5 => tyX5 | 6 => tyX6 | 7 => tyX7 | 8 => tyX8 | 9 => tyX9 | _ => tyX10
def NF (c : Nat) : Nat := (ftl c).length
def xcl : List vw_C := [(RX0, TX0, 5), (RX1, TX1, 7), (RX2, TX2, 12), (RX3, TX3, 4), (RX4, TX4, 8), (RX5, TX5, 3), (RX6, TX6, 5), (RX7, TX7, 9), (RX8, TX8, 11), (RX9, TX9, 10), (RX10, TX10, 75)]
theorem xcl_at : ∀ c, c < 11 → xcl[c]? = some (RR c, TT c, NF c) := by
  intro c hc
  match c, hc with
  | 0, _ => rfl
  | 1, _ => rfl
  | 2, _ => rfl
  | 3, _ => rfl
  | 4, _ => rfl
  | 5, _ => rfl
  | 6, _ => rfl
  | 7, _ => rfl
  | 8, _ => rfl
  | 9, _ => rfl
  | 10, _ => rfl
theorem c11 {P : Nat → Prop} (h0 : P 0) (h1 : P 1) (h2 : P 2) (h3 : P 3) (h4 : P 4) (h5 : P 5) (h6 : P 6) (h7 : P 7) (h8 : P 8) (h9 : P 9) (h10 : P 10) : ∀ c, c < 11 → P c := by
  intro c hc
  match c, hc with
  | 0, _ => exact h0
  | 1, _ => exact h1
  | 2, _ => exact h2
  | 3, _ => exact h3
  | 4, _ => exact h4
  | 5, _ => exact h5
  | 6, _ => exact h6
  | 7, _ => exact h7
  | 8, _ => exact h8
  | 9, _ => exact h9
  | 10, _ => exact h10
theorem TY_ok : ∀ c, c < 11 → ∀ k, k < NF c → parseFieldDescriptor (TT c k).2.2.1 = some (TYs c k) := c11 tyX0_ok tyX1_ok tyX2_ok tyX3_ok tyX4_ok tyX5_ok tyX6_ok tyX7_ok tyX8_ok tyX9_ok tyX10_ok
theorem NM_ok : ∀ c, c < 11 → ∀ a, a < NF c → ∀ b, b < NF c → a ≠ b → (TT c a).2.1 ≠ (TT c b).2.1 := c11 nmX0 nmX1 nmX2 nmX3 nmX4 nmX5 nmX6 nmX7 nmX8 nmX9 nmX10
theorem own_ok : ∀ c, c < 11 → ∀ k, k < NF c → (TT c k).1 = RR c := by
  refine c11 ?_ ?_ ?_ ?_ ?_ ?_ ?_ ?_ ?_ ?_ ?_ <;> decide +kernel
/-- a field's type as a number -/
def tcd : FieldType → Nat
  | .int => 0
  | .long => 1
  | .boolean => 3
  | .object _ => 2
  | .array _ => 2
  | _ => 9
theorem tc_ok : ∀ c, c < 11 → ∀ k, k < NF c → tcd (TYs c k) = fty c k := by
  refine c11 ?_ ?_ ?_ ?_ ?_ ?_ ?_ ?_ ?_ ?_ ?_ <;> decide +kernel
theorem lay_in : ∀ c, c < 11 → ∀ w ∈ u_ws (RR c) (TT c) (NF c), w ∈ gT := by
  refine c11 ?_ ?_ ?_ ?_ ?_ ?_ ?_ ?_ ?_ ?_ ?_ <;> decide +kernel
def aCl : Nat → String
  | 3 => RX3 | 4 => RX7 | 5 => RX2 | _ => RX5
def aty : Nat → FieldType
  | 0 => .int | 1 => .long | 2 => .boolean | t => .object (aCl t)
def xtys (g : GC) : List (ClassId × FieldType) := [(g.2.2.1 0, aty 0), (g.2.2.1 1, aty 1), (g.2.2.1 2, aty 2), (g.2.2.1 3, aty 3), (g.2.2.1 4, aty 4), (g.2.2.1 5, aty 5), (g.2.2.1 6, aty 6)]
theorem xtys_at (g : GC) : ∀ t, t < 7 → (xtys g)[t]? = some (g.2.2.1 t, aty t) := by
  intro t ht
  match t, ht with
  | 0, _ => rfl
  | 1, _ => rfl
  | 2, _ => rfl
  | 3, _ => rfl
  | 4, _ => rfl
  | 5, _ => rfl
  | 6, _ => rfl
