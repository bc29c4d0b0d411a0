-- valleys and grounds: what their cells tell
def z4 : Sg := (0, 0, 0, 0)
def c00 : Cl := (0, 0, [])
def MCl (h : HH) (q : Nat) (cl : Cl) : Prop := h 132 q = (cl.1 : Int) ∧ h 133 q = (cl.2.1 : Int) ∧ (cl.1 < 3 → ∃ a : Nat, a + cl.2.2.length ≤ 500 ∧ h 134 q = (a : Int) ∧ h 135 q = ((a + cl.2.2.length : Nat) : Int) ∧ ∀ j, j < cl.2.2.length → h 136 (a + j) = mS (cl.2.2.getD j z4))
def sgl : List Cl → Nat
  | [] => 0
  | c :: r => c.2.2.length + sgl r
def CE (h : HH) (vn : Nat) : List Cl → Nat → Nat → Prop
  | [], _, _ => True
  | c :: r, j, e0 => h (vn + 1) j = (c.1 : Int) ∧ h (vn + 2) j = (c.2.1 : Int) ∧ h (vn + 3) j = ((e0 + c.2.2.length : Nat) : Int) ∧ (∀ k, k < c.2.2.length → h (vn + 4) (e0 + k) = cS (c.2.2.getD k z4)) ∧ CE h vn r (j + 1) (e0 + c.2.2.length)
def flt (V : List Cl) : List Cl := V.filter fun c => decide (c.1 < 3)
def VCl (h : HH) (vn : Nat) (V : List Cl) : Prop := h vn 5 = ((flt V).length : Int) ∧ h vn 7 = lastL V 3 0 ∧ h vn 8 = lastL V 4 0 ∧ gdV V ∧ sgl (flt V) ≤ 100 ∧ CE h vn (flt V) 0 0
def GF (h : HH) (gn : Nat) : Prop := h gn 2 = ((gn + 1 : Nat) : Int) ∧ h gn 3 = ((gn + 2 : Nat) : Int) ∧ h gn 4 = ((gn + 3 : Nat) : Int) ∧ h gn 5 = ((gn + 4 : Nat) : Int) ∧ h gn 6 = ((gn + 5 : Nat) : Int) ∧ h gn 7 = ((gn + 6 : Nat) : Int)
def GT (h : HH) (gn : Nat) (T : TB) : Prop := ∀ w l s : Nat, w < 3 → 1 ≤ l → l ≤ 18 → s < 10 → h (gn + 1 + w) (10 * l + s) = T w l s
def GPl (h : HH) (gn : Nat) (T : TB) : Prop := (-1 ≤ h gn 11 ∧ h gn 11 ≤ 18) ∧ ∀ l s : Nat, s < 10 → (l : Int) ≤ h gn 11 → h (gn + 4) (10 * l + s) = (bsf T (h gn 10) l s).2 ∧ (1 ≤ l → h (gn + 5) (10 * l + s) = ((bsf T (h gn 10) l s).1 : Int))
def vnm (z : Int) : Nat := if 0 ≤ z ∧ z < 5 then 86 + 6 * z.toNat else 80
def vz (n : Int) : Int := if n = 80 then -1 else (n - 86) / 6
def Vw (V : Nat → List Cl) (z : Int) : List Cl := if 0 ≤ z ∧ z < 5 then V z.toNat else []
def CVs (h : HH) (V : Nat → List Cl) (nV : Int) : Prop := VCl h 80 [] ∧ ∀ f : Nat, f < 5 → (f : Int) < nV → VCl h (86 + 6 * f) (V f)
def hnm (p : Nat) : Int := if p = 6 then 99 else (p : Int)
def gV (h : HH) (V : Nat → List Cl) (gn : Nat) : List Cl := Vw V (vz (h gn 8))
def tbG (h : HH) (V : Nat → List Cl) (p : Nat) : TB := tbl (gV h V (230 + 8 * p)) ((p / 7 : Nat) : Int) (hnm (p % 7))
def GS (h : HH) (V : Nat → List Cl) (nV : Int) (p : Nat) : Prop := GF h (230 + 8 * p) ∧ h (230 + 8 * p) 0 = ((p / 7 : Nat) : Int) ∧ h (230 + 8 * p) 1 = hnm (p % 7) ∧ (∃ z : Int, -1 ≤ z ∧ z < nV ∧ h (230 + 8 * p) 8 = (vnm z : Int)) ∧ h (230 + 8 * p) 9 = lastL (gV h V (230 + 8 * p)) 3 0 ∧ GT h (230 + 8 * p) (tbG h V p) ∧ GPl h (230 + 8 * p) (tbG h V p)
def GV (h : HH) (al : AL) (V : Nat → List Cl) (nV : Int) (p : Nat) : Prop :=
  (h 5 p = -1 ∧ ∀ j, j < 7 → al (230 + 8 * p + j) = false) ∨ (h 5 p = ((230 + 8 * p : Nat) : Int) ∧ GS h V nV p)
def CGs (h : HH) (al : AL) (V : Nat → List Cl) (nV : Int) : Prop := (nV ≤ 5 ∧ CVs h V nV) ∧ ∀ p, p < 42 → GV h al V nV p
/-- the VALLEYS of the reference tell V -/
def MVs (h : HH) (V : Nat → List Cl) (nV : Int) : Prop := ∀ f : Nat, f < 5 → (f : Int) < nV → h 131 f = ((V f).length : Int) ∧ gdV (V f) ∧ ∀ j, j < (V f).length → MCl h (10 * f + j) ((V f).getD j c00) ∧ (((V f).getD j c00).1 < 3 → h 135 (10 * f + j) ≤ ((100 * (f + 1) : Nat) : Int))
def VGx (h : HH) (al : AL) (nV : Int) : Prop := ∃ V : Nat → List Cl, CGs h al V nV ∧ MVs h V nV
