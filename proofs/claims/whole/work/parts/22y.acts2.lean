-- acts: run
def ActC (g : GC) (d : Nat) (y : MethodName) (args : List XV) (c : Nat) (n v : Int) (bs : List Int) (z : Int) : Prop := ∀ (h : HH) (al : AL) (K : KT) (r : Nat), AcF h c n v → h 60 1 = (r : Int) → r + bs.length ≤ 20 → (∀ h3 : HH, LGr 61 60 1 h h3 r bs → K (some (xi z)) h3 al) → Call g d y args h al K
section Q21
variable {g : GC} {d : Nat} {c dep : Nat} {n v x z z1 z2 ab : Int} {bs b1 b2 : List Int}
theorem fr_0_0 (hdep : dep ≤ 30) (hR : ActC g (d + 1) yAc_run [xr 60, xi 10, xi (-1), xi x, xi ((dep + 1 : Nat) : Int)] c n v bs z) : ActC g (d + 1 + 1) yAc_from [xr 60, xi 0, xi 0, xi x, xi (dep : Int)] c n v (10 :: bs) z := by
  intro h al K r hA hr hl hK
  have hl2 : bs.length + 1 = (10 :: bs : List Int).length := rfl
  refine c_fr_0_0 (P := fun h3 => LGr 61 60 1 h h3 r (10 :: bs)) hA hr (by omega) hdep (fun h2 K2 a k => hR h2 al K2 (r + 1) (hA.lg a) a.2.1 (by omega) fun h3 q => k h3 (a.trans (bs := [10]) (cs := bs) q)) hK
theorem fr_0_1 (hdep : dep ≤ 30) (hR : ActC g (d + 1) yAc_run [xr 60, xi 11, xi (-1), xi x, xi ((dep + 1 : Nat) : Int)] c n v bs z) : ActC g (d + 1 + 1) yAc_from [xr 60, xi 0, xi 1, xi x, xi (dep : Int)] c n v (11 :: bs) z := by
  intro h al K r hA hr hl hK
  have hl2 : bs.length + 1 = (11 :: bs : List Int).length := rfl
  refine c_fr_0_1 (P := fun h3 => LGr 61 60 1 h h3 r (11 :: bs)) hA hr (by omega) hdep (fun h2 K2 a k => hR h2 al K2 (r + 1) (hA.lg a) a.2.1 (by omega) fun h3 q => k h3 (a.trans (bs := [11]) (cs := bs) q)) hK
theorem fr_0_2 (hdep : dep ≤ 30) (hR : ActC g (d + 1) yAc_run [xr 60, xi 12, xi (-1), xi x, xi ((dep + 1 : Nat) : Int)] c n v bs z) : ActC g (d + 1 + 1) yAc_from [xr 60, xi 0, xi 2, xi x, xi (dep : Int)] c n v (12 :: bs) z := by
  intro h al K r hA hr hl hK
  have hl2 : bs.length + 1 = (12 :: bs : List Int).length := rfl
  refine c_fr_0_2 (P := fun h3 => LGr 61 60 1 h h3 r (12 :: bs)) hA hr (by omega) hdep (fun h2 K2 a k => hR h2 al K2 (r + 1) (hA.lg a) a.2.1 (by omega) fun h3 q => k h3 (a.trans (bs := [12]) (cs := bs) q)) hK
theorem fr_1_0 (hdep : dep ≤ 30) (hR : ActC g (d + 1) yAc_run [xr 60, xi 10, xi (-1), xi x, xi ((dep + 1 : Nat) : Int)] c n v bs z) : ActC g (d + 1 + 1) yAc_from [xr 60, xi 1, xi 0, xi x, xi (dep : Int)] c n v (10 :: bs) z := by
  intro h al K r hA hr hl hK
  have hl2 : bs.length + 1 = (10 :: bs : List Int).length := rfl
  refine c_fr_1_0 (P := fun h3 => LGr 61 60 1 h h3 r (10 :: bs)) hA hr (by omega) hdep (fun h2 K2 a k => hR h2 al K2 (r + 1) (hA.lg a) a.2.1 (by omega) fun h3 q => k h3 (a.trans (bs := [10]) (cs := bs) q)) hK
theorem fr_1_1 (hdep : dep ≤ 30) (hR : ActC g (d + 1) yAc_run [xr 60, xi 20, xi (0), xi x, xi ((dep + 1 : Nat) : Int)] c n v bs z) : ActC g (d + 1 + 1) yAc_from [xr 60, xi 1, xi 1, xi x, xi (dep : Int)] c n v (20 :: bs) z := by
  intro h al K r hA hr hl hK
  have hl2 : bs.length + 1 = (20 :: bs : List Int).length := rfl
  refine c_fr_1_1 (P := fun h3 => LGr 61 60 1 h h3 r (20 :: bs)) hA hr (by omega) hdep (fun h2 K2 a k => hR h2 al K2 (r + 1) (hA.lg a) a.2.1 (by omega) fun h3 q => k h3 (a.trans (bs := [20]) (cs := bs) q)) hK
theorem fr_1_2 (hdep : dep ≤ 30) (hR : ActC g (d + 1) yAc_run [xr 60, xi 12, xi (-1), xi x, xi ((dep + 1 : Nat) : Int)] c n v bs z) : ActC g (d + 1 + 1) yAc_from [xr 60, xi 1, xi 2, xi x, xi (dep : Int)] c n v (12 :: bs) z := by
  intro h al K r hA hr hl hK
  have hl2 : bs.length + 1 = (12 :: bs : List Int).length := rfl
  refine c_fr_1_2 (P := fun h3 => LGr 61 60 1 h h3 r (12 :: bs)) hA hr (by omega) hdep (fun h2 K2 a k => hR h2 al K2 (r + 1) (hA.lg a) a.2.1 (by omega) fun h3 q => k h3 (a.trans (bs := [12]) (cs := bs) q)) hK
theorem fr_2_0 (hdep : dep ≤ 30) (hR : ActC g (d + 1) yAc_run [xr 60, xi 30, xi (0), xi x, xi ((dep + 1 : Nat) : Int)] c n v bs z) : ActC g (d + 1 + 1) yAc_from [xr 60, xi 2, xi 0, xi x, xi (dep : Int)] c n v (30 :: bs) z := by
  intro h al K r hA hr hl hK
  have hl2 : bs.length + 1 = (30 :: bs : List Int).length := rfl
  refine c_fr_2_0 (P := fun h3 => LGr 61 60 1 h h3 r (30 :: bs)) hA hr (by omega) hdep (fun h2 K2 a k => hR h2 al K2 (r + 1) (hA.lg a) a.2.1 (by omega) fun h3 q => k h3 (a.trans (bs := [30]) (cs := bs) q)) hK
theorem fr_2_1 (hdep : dep ≤ 30) (hR : ActC g (d + 1) yAc_run [xr 60, xi 11, xi (-1), xi x, xi ((dep + 1 : Nat) : Int)] c n v bs z) : ActC g (d + 1 + 1) yAc_from [xr 60, xi 2, xi 1, xi x, xi (dep : Int)] c n v (11 :: bs) z := by
  intro h al K r hA hr hl hK
  have hl2 : bs.length + 1 = (11 :: bs : List Int).length := rfl
  refine c_fr_2_1 (P := fun h3 => LGr 61 60 1 h h3 r (11 :: bs)) hA hr (by omega) hdep (fun h2 K2 a k => hR h2 al K2 (r + 1) (hA.lg a) a.2.1 (by omega) fun h3 q => k h3 (a.trans (bs := [11]) (cs := bs) q)) hK
theorem fr_2_2 (hdep : dep ≤ 30) (hR : ActC g (d + 1) yAc_run [xr 60, xi 12, xi (-1), xi x, xi ((dep + 1 : Nat) : Int)] c n v bs z) : ActC g (d + 1 + 1) yAc_from [xr 60, xi 2, xi 2, xi x, xi (dep : Int)] c n v (12 :: bs) z := by
  intro h al K r hA hr hl hK
  have hl2 : bs.length + 1 = (12 :: bs : List Int).length := rfl
  refine c_fr_2_2 (P := fun h3 => LGr 61 60 1 h h3 r (12 :: bs)) hA hr (by omega) hdep (fun h2 K2 a k => hR h2 al K2 (r + 1) (hA.lg a) a.2.1 (by omega) fun h3 q => k h3 (a.trans (bs := [12]) (cs := bs) q)) hK
theorem fr_3_0 (hdep : dep ≤ 30) (hR : ActC g (d + 1) yAc_run [xr 60, xi 10, xi (-1), xi x, xi ((dep + 1 : Nat) : Int)] c n v bs z) : ActC g (d + 1 + 1) yAc_from [xr 60, xi 3, xi 0, xi x, xi (dep : Int)] c n v (10 :: bs) z := by
  intro h al K r hA hr hl hK
  have hl2 : bs.length + 1 = (10 :: bs : List Int).length := rfl
  refine c_fr_3_0 (P := fun h3 => LGr 61 60 1 h h3 r (10 :: bs)) hA hr (by omega) hdep (fun h2 K2 a k => hR h2 al K2 (r + 1) (hA.lg a) a.2.1 (by omega) fun h3 q => k h3 (a.trans (bs := [10]) (cs := bs) q)) hK
theorem fr_3_1 (hdep : dep ≤ 30) (hR : ActC g (d + 1) yAc_run [xr 60, xi 20, xi (0), xi x, xi ((dep + 1 : Nat) : Int)] c n v bs z) : ActC g (d + 1 + 1) yAc_from [xr 60, xi 3, xi 1, xi x, xi (dep : Int)] c n v (20 :: bs) z := by
  intro h al K r hA hr hl hK
  have hl2 : bs.length + 1 = (20 :: bs : List Int).length := rfl
  refine c_fr_3_1 (P := fun h3 => LGr 61 60 1 h h3 r (20 :: bs)) hA hr (by omega) hdep (fun h2 K2 a k => hR h2 al K2 (r + 1) (hA.lg a) a.2.1 (by omega) fun h3 q => k h3 (a.trans (bs := [20]) (cs := bs) q)) hK
theorem fr_3_2 (hdep : dep ≤ 30) (hR : ActC g (d + 1) yAc_run [xr 60, xi 40, xi (1), xi x, xi ((dep + 1 : Nat) : Int)] c n v bs z) : ActC g (d + 1 + 1) yAc_from [xr 60, xi 3, xi 2, xi x, xi (dep : Int)] c n v (40 :: bs) z := by
  intro h al K r hA hr hl hK
  have hl2 : bs.length + 1 = (40 :: bs : List Int).length := rfl
  refine c_fr_3_2 (P := fun h3 => LGr 61 60 1 h h3 r (40 :: bs)) hA hr (by omega) hdep (fun h2 K2 a k => hR h2 al K2 (r + 1) (hA.lg a) a.2.1 (by omega) fun h3 q => k h3 (a.trans (bs := [40]) (cs := bs) q)) hK
theorem fr_4_0 (hdep : dep ≤ 30) (hR : ActC g (d + 1) yAc_run [xr 60, xi 50, xi (1), xi x, xi ((dep + 1 : Nat) : Int)] c n v bs z) : ActC g (d + 1 + 1) yAc_from [xr 60, xi 4, xi 0, xi x, xi (dep : Int)] c n v (50 :: bs) z := by
  intro h al K r hA hr hl hK
  have hl2 : bs.length + 1 = (50 :: bs : List Int).length := rfl
  refine c_fr_4_0 (P := fun h3 => LGr 61 60 1 h h3 r (50 :: bs)) hA hr (by omega) hdep (fun h2 K2 a k => hR h2 al K2 (r + 1) (hA.lg a) a.2.1 (by omega) fun h3 q => k h3 (a.trans (bs := [50]) (cs := bs) q)) hK
theorem fr_4_1 (hdep : dep ≤ 30) (hR : ActC g (d + 1) yAc_run [xr 60, xi 51, xi (1), xi x, xi ((dep + 1 : Nat) : Int)] c n v bs z) : ActC g (d + 1 + 1) yAc_from [xr 60, xi 4, xi 1, xi x, xi (dep : Int)] c n v (51 :: bs) z := by
  intro h al K r hA hr hl hK
  have hl2 : bs.length + 1 = (51 :: bs : List Int).length := rfl
  refine c_fr_4_1 (P := fun h3 => LGr 61 60 1 h h3 r (51 :: bs)) hA hr (by omega) hdep (fun h2 K2 a k => hR h2 al K2 (r + 1) (hA.lg a) a.2.1 (by omega) fun h3 q => k h3 (a.trans (bs := [51]) (cs := bs) q)) hK
theorem fr_4_2 (hdep : dep ≤ 30) (hR : ActC g (d + 1) yAc_run [xr 60, xi 12, xi (-1), xi x, xi ((dep + 1 : Nat) : Int)] c n v bs z) : ActC g (d + 1 + 1) yAc_from [xr 60, xi 4, xi 2, xi x, xi (dep : Int)] c n v (12 :: bs) z := by
  intro h al K r hA hr hl hK
  have hl2 : bs.length + 1 = (12 :: bs : List Int).length := rfl
  refine c_fr_4_2 (P := fun h3 => LGr 61 60 1 h h3 r (12 :: bs)) hA hr (by omega) hdep (fun h2 K2 a k => hR h2 al K2 (r + 1) (hA.lg a) a.2.1 (by omega) fun h3 q => k h3 (a.trans (bs := [12]) (cs := bs) q)) hK
theorem fr_5_0 (hdep : dep ≤ 30) (hR : ActC g (d + 1) yAc_run [xr 60, xi 10, xi (-1), xi x, xi ((dep + 1 : Nat) : Int)] c n v bs z) : ActC g (d + 1 + 1) yAc_from [xr 60, xi 5, xi 0, xi x, xi (dep : Int)] c n v (10 :: bs) z := by
  intro h al K r hA hr hl hK
  have hl2 : bs.length + 1 = (10 :: bs : List Int).length := rfl
  refine c_fr_5_0 (P := fun h3 => LGr 61 60 1 h h3 r (10 :: bs)) hA hr (by omega) hdep (fun h2 K2 a k => hR h2 al K2 (r + 1) (hA.lg a) a.2.1 (by omega) fun h3 q => k h3 (a.trans (bs := [10]) (cs := bs) q)) hK
theorem fr_5_1 (hdep : dep ≤ 30) (hR : ActC g (d + 1) yAc_run [xr 60, xi 20, xi (0), xi x, xi ((dep + 1 : Nat) : Int)] c n v bs z) : ActC g (d + 1 + 1) yAc_from [xr 60, xi 5, xi 1, xi x, xi (dep : Int)] c n v (20 :: bs) z := by
  intro h al K r hA hr hl hK
  have hl2 : bs.length + 1 = (20 :: bs : List Int).length := rfl
  refine c_fr_5_1 (P := fun h3 => LGr 61 60 1 h h3 r (20 :: bs)) hA hr (by omega) hdep (fun h2 K2 a k => hR h2 al K2 (r + 1) (hA.lg a) a.2.1 (by omega) fun h3 q => k h3 (a.trans (bs := [20]) (cs := bs) q)) hK
theorem fr_5_2 (hdep : dep ≤ 30) (hR : ActC g (d + 1) yAc_run [xr 60, xi 60, xi (1), xi x, xi ((dep + 1 : Nat) : Int)] c n v bs z) : ActC g (d + 1 + 1) yAc_from [xr 60, xi 5, xi 2, xi x, xi (dep : Int)] c n v (60 :: bs) z := by
  intro h al K r hA hr hl hK
  have hl2 : bs.length + 1 = (60 :: bs : List Int).length := rfl
  refine c_fr_5_2 (P := fun h3 => LGr 61 60 1 h h3 r (60 :: bs)) hA hr (by omega) hdep (fun h2 K2 a k => hR h2 al K2 (r + 1) (hA.lg a) a.2.1 (by omega) fun h3 q => k h3 (a.trans (bs := [60]) (cs := bs) q)) hK
theorem fr_6_0 (hdep : dep ≤ 30) (hR : ActC g (d + 1) yAc_run [xr 60, xi 71, xi (2), xi x, xi ((dep + 1 : Nat) : Int)] c n v bs z) : ActC g (d + 1 + 1) yAc_from [xr 60, xi 6, xi 0, xi x, xi (dep : Int)] c n v (71 :: bs) z := by
  intro h al K r hA hr hl hK
  have hl2 : bs.length + 1 = (71 :: bs : List Int).length := rfl
  refine c_fr_6_0 (P := fun h3 => LGr 61 60 1 h h3 r (71 :: bs)) hA hr (by omega) hdep (fun h2 K2 a k => hR h2 al K2 (r + 1) (hA.lg a) a.2.1 (by omega) fun h3 q => k h3 (a.trans (bs := [71]) (cs := bs) q)) hK
theorem fr_6_1 (hdep : dep ≤ 30) (hR : ActC g (d + 1) yAc_run [xr 60, xi 70, xi (2), xi x, xi ((dep + 1 : Nat) : Int)] c n v bs z) : ActC g (d + 1 + 1) yAc_from [xr 60, xi 6, xi 1, xi x, xi (dep : Int)] c n v (70 :: bs) z := by
  intro h al K r hA hr hl hK
  have hl2 : bs.length + 1 = (70 :: bs : List Int).length := rfl
  refine c_fr_6_1 (P := fun h3 => LGr 61 60 1 h h3 r (70 :: bs)) hA hr (by omega) hdep (fun h2 K2 a k => hR h2 al K2 (r + 1) (hA.lg a) a.2.1 (by omega) fun h3 q => k h3 (a.trans (bs := [70]) (cs := bs) q)) hK
theorem fr_6_2 (hdep : dep ≤ 30) (hR : ActC g (d + 1) yAc_run [xr 60, xi 12, xi (-1), xi x, xi ((dep + 1 : Nat) : Int)] c n v bs z) : ActC g (d + 1 + 1) yAc_from [xr 60, xi 6, xi 2, xi x, xi (dep : Int)] c n v (12 :: bs) z := by
  intro h al K r hA hr hl hK
  have hl2 : bs.length + 1 = (12 :: bs : List Int).length := rfl
  refine c_fr_6_2 (P := fun h3 => LGr 61 60 1 h h3 r (12 :: bs)) hA hr (by omega) hdep (fun h2 K2 a k => hR h2 al K2 (r + 1) (hA.lg a) a.2.1 (by omega) fun h3 q => k h3 (a.trans (bs := [12]) (cs := bs) q)) hK
theorem run_10  : ActC g (d + 1) yAc_run [xr 60, xi 10, xi ab, xi x, xi (dep : Int)] c n v [] (wI (x + n)) := by
  intro h al K r hA hr hl hK
  have hW := hA.1
  obtain ⟨h0, rfl⟩ := id hW
  have t : K (some (xi (wI (x + wr h0 60 3)))) (wr h0) al := by
    rw [hA.2.1.2.1]
    exact hK _ ⟨fun _ _ _ _ => rfl, hr, fun i hi => absurd hi (by show ¬ i < 0; omega), fun _ _ => rfl⟩
  refine cof ocAc_run rfl (XW_t4 [] 60 okAc_run ?_)
  exact t
theorem run_11 (hF : ActC g d yAc_own [xr 60, xi 0, xi (x), xi (dep : Int)] c n v bs z) : ActC g (d + 1) yAc_run [xr 60, xi 11, xi ab, xi x, xi (dep : Int)] c n v bs (wI (z - v)) := by
  intro h al K r hA hr hl hK
  have hW := hA.1
  obtain ⟨h0, rfl⟩ := id hW
  refine cof ocAc_run rfl (XW_t4 [] 60 okAc_run ?_)
  refine hF _ _ _ r hA hr hl fun h3 q => ?_
  have hB := hA.lg q
  obtain ⟨h4, rfl⟩ := id hB.1
  have t : K (some (xi (wI (z - wr h4 60 4)))) (wr h4) al := by
    rw [hB.2.1.2.2]
    exact hK _ q
  exact t
theorem run_12 (hF : ActC g d yAc_own [xr 60, xi 1, xi (x), xi (dep : Int)] c n v bs z) : ActC g (d + 1) yAc_run [xr 60, xi 12, xi ab, xi x, xi (dep : Int)] c n v bs (wI (z * 2)) := by
  intro h al K r hA hr hl hK
  have hW := hA.1
  obtain ⟨h0, rfl⟩ := id hW
  refine cof ocAc_run rfl (XW_t4 [] 60 okAc_run ?_)
  refine hF _ _ _ r hA hr hl fun h3 q => ?_
  exact hK _ q
theorem run_20 (hF : ActC g d yAc_from [xr 60, xi ab, xi 1, xi (x), xi (dep : Int)] c n v bs z) : ActC g (d + 1) yAc_run [xr 60, xi 20, xi ab, xi x, xi (dep : Int)] c n v bs (eI z 6) := by
  intro h al K r hA hr hl hK
  have hW := hA.1
  obtain ⟨h0, rfl⟩ := id hW
  refine cof ocAc_run rfl (XW_t4 [] 60 okAc_run ?_)
  refine hF _ _ _ r hA hr hl fun h3 q => ?_
  exact hK _ q
theorem run_30 (hF : ActC g d yAc_from [xr 60, xi ab, xi 0, xi (wI (x * 3)), xi (dep : Int)] c n v bs z) : ActC g (d + 1) yAc_run [xr 60, xi 30, xi ab, xi x, xi (dep : Int)] c n v bs (z) := by
  intro h al K r hA hr hl hK
  have hW := hA.1
  obtain ⟨h0, rfl⟩ := id hW
  refine cof ocAc_run rfl (XW_t4 [] 60 okAc_run ?_)
  refine hF _ _ _ r hA hr hl fun h3 q => ?_
  exact hK _ q
theorem run_50 (hF : ActC g d yAc_from [xr 60, xi ab, xi 0, xi (x), xi (dep : Int)] c n v bs z) : ActC g (d + 1) yAc_run [xr 60, xi 50, xi ab, xi x, xi (dep : Int)] c n v bs (wI (-z)) := by
  intro h al K r hA hr hl hK
  have hW := hA.1
  obtain ⟨h0, rfl⟩ := id hW
  refine cof ocAc_run rfl (XW_t4 [] 60 okAc_run ?_)
  refine hF _ _ _ r hA hr hl fun h3 q => ?_
  exact hK _ q
theorem run_51 (hF : ActC g d yAc_from [xr 60, xi ab, xi 1, xi (wI (x + 1)), xi (dep : Int)] c n v bs z) : ActC g (d + 1) yAc_run [xr 60, xi 51, xi ab, xi x, xi (dep : Int)] c n v bs (z) := by
  intro h al K r hA hr hl hK
  have hW := hA.1
  obtain ⟨h0, rfl⟩ := id hW
  refine cof ocAc_run rfl (XW_t4 [] 60 okAc_run ?_)
  refine hF _ _ _ r hA hr hl fun h3 q => ?_
  exact hK _ q
theorem run_71 (hF : ActC g d yAc_from [xr 60, xi ab, xi 0, xi (x), xi (dep : Int)] c n v bs z) : ActC g (d + 1) yAc_run [xr 60, xi 71, xi ab, xi x, xi (dep : Int)] c n v bs (eI z v) := by
  intro h al K r hA hr hl hK
  have hW := hA.1
  obtain ⟨h0, rfl⟩ := id hW
  refine cof ocAc_run rfl (XW_t4 [] 60 okAc_run ?_)
  refine hF _ _ _ r hA hr hl fun h3 q => ?_
  have hB := hA.lg q
  obtain ⟨h4, rfl⟩ := id hB.1
  have t : K (some (xi (eI z (wr h4 60 4)))) (wr h4) al := by
    rw [hB.2.1.2.2]
    exact hK _ q
  exact t
theorem run_40 (hF : ActC g d yAc_from [xr 60, xi ab, xi 2, xi (x), xi (dep : Int)] c n v b1 z1) (hG : ActC g d yAc_own [xr 60, xi 1, xi (1), xi (dep : Int)] c n v b2 z2) : ActC g (d + 1) yAc_run [xr 60, xi 40, xi ab, xi x, xi (dep : Int)] c n v (b1 ++ b2) (wI (z1 + z2)) := by
  intro h al K r hA hr hl hK
  have hW := hA.1
  obtain ⟨h0, rfl⟩ := id hW
  rw [List.length_append] at hl
  refine cof ocAc_run rfl (XW_t4 [] 60 okAc_run ?_)
  refine hF _ _ _ r hA hr (by omega) fun h3 q => ?_
  have hB := hA.lg q
  obtain ⟨h4, rfl⟩ := id hB.1
  refine hG _ _ _ (r + b1.length) hB q.2.1 (by omega) fun h5 q2 => ?_
  exact hK _ (q.trans q2)
theorem run_70 (hF : ActC g d yAc_from [xr 60, xi ab, xi 1, xi (x), xi (dep : Int)] c n v b1 z1) (hG : ActC g d yAc_from [xr 60, xi ab, xi 0, xi (2), xi (dep : Int)] c n v b2 z2) : ActC g (d + 1) yAc_run [xr 60, xi 70, xi ab, xi x, xi (dep : Int)] c n v (b1 ++ b2) (wI (z1 + z2)) := by
  intro h al K r hA hr hl hK
  have hW := hA.1
  obtain ⟨h0, rfl⟩ := id hW
  rw [List.length_append] at hl
  refine cof ocAc_run rfl (XW_t4 [] 60 okAc_run ?_)
  refine hF _ _ _ r hA hr (by omega) fun h3 q => ?_
  have hB := hA.lg q
  obtain ⟨h4, rfl⟩ := id hB.1
  refine hG _ _ _ (r + b1.length) hB q.2.1 (by omega) fun h5 q2 => ?_
  exact hK _ (q.trans q2)
theorem run_60 (hF : ActC g d yAc_from [xr 60, xi ab, xi 2, xi (wI (x - n)), xi (dep : Int)] c n v bs z) : ActC g (d + 1) yAc_run [xr 60, xi 60, xi ab, xi x, xi (dep : Int)] c n v bs (z) := by
  intro h al K r hA hr hl hK
  have hW := hA.1
  obtain ⟨h0, rfl⟩ := id hW
  have t := fun K2 => hF (wr h0) al K2 r hA hr hl
  rw [← hA.2.1.2.1] at t
  refine cof ocAc_run rfl (XW_t4 [] 60 okAc_run ?_)
  refine t _ fun h3 q => ?_
  exact hK _ q
theorem own_c {w : Int} (hF : ActC g d yAc_from [xr 60, xi (c : Int), xi w, xi x, xi (dep : Int)] c n v bs z) : ActC g (d + 1) yAc_own [xr 60, xi w, xi x, xi (dep : Int)] c n v bs z := by
  intro h al K r hA hr hl hK
  have hW := hA.1
  obtain ⟨h0, rfl⟩ := id hW
  have t := fun K2 => hF (wr h0) al K2 r hA hr hl
  rw [← hA.2.1.1] at t
  refine cof ocAc_own rfl (XW_t4 [] 60 okAc_own ?_)
  refine t _ fun h3 q => ?_
  exact hK _ q
end Q21
