-- a text read: clauses
section SP2
variable {ch : Nat → Int} {N : Nat}
theorem lwS_ok (hch : ∀ p, N ≤ p → ch p = 0) : ∀ (w : List Int) (p : Nat), (∀ c ∈ w, c ≠ 0) → p ≤ N → p ≤ (lwS ch w p).2 ∧ (lwS ch w p).2 ≤ N ∧ ((lwS ch w p).1 = true → (lwS ch w p).2 = p + w.length) := by
  intro w
  induction w with
  | nil => exact fun p _ hp => ⟨Nat.le_refl _, hp, fun _ => rfl⟩
  | cons c w ih =>
    intro p hw hp
    unfold lwS
    by_cases e : ch p = c
    · rw [if_pos e]
      have l1 := ch_lt hch (p := p) (by rw [e]; exact hw c List.mem_cons_self)
      obtain ⟨a1, a2, a3⟩ := ih (p + 1) (fun x hx => hw x (List.mem_cons_of_mem _ hx)) (by omega)
      refine ⟨by omega, a2, fun q => ?_⟩
      rw [a3 q, List.length_cons]
      omega
    · rw [if_neg e]
      exact ⟨Nat.le_refl _, hp, fun q => by cases q⟩
theorem wdS_0 : ∀ w, ∀ c ∈ wdS w, c ≠ 0 := by
  intro w
  match w with
  | 0 => decide
  | 1 => decide
  | 2 => decide
  | 3 => decide
  | _ + 4 => exact (by decide : ∀ c ∈ ([107, 101, 101, 112, 32] : List Int), c ≠ 0)
theorem bgS_le {x : Int} : bgS x ≤ 5 := by
  unfold bgS
  split
  · omega
  · split
    · omega
    · split
      · omega
      · split
        · omega
        · split <;> omega
theorem c2S_ok (hch : ∀ p, N ≤ p → ch p = 0) (hN : N ≤ 100) {w p n : Nat} (hp : p ≤ N) (hw : w ≤ 4) (hn : n ≤ 99) : p ≤ (c2S ch w p n).2.1 ∧ (c2S ch w p n).2.1 ≤ N ∧ ((c2S ch w p n).1 = true → gdC (c2S ch w p n).2.2 ∧ p + (c2S ch w p n).2.2.2.2.length ≤ (c2S ch w p n).2.1 ∧ (c2S ch w p n).2.2.1 = w ∧ (c2S ch w p n).2.2.2.1 = n) := by
  unfold c2S
  by_cases h1 : w < 3
  · rw [if_pos h1]
    by_cases h2 : ch p = 32
    · rw [if_pos h2]
      have l1 := ch_lt hch (p := p) (by omega)
      obtain ⟨f1, f2, f3⟩ := (eiS_ok hch hN (sgS_ok hch hN 4)).1 (p + 1) (by omega)
      by_cases h3 : (eiS ch (sgS ch 4) (p + 1)).1 = true
      · rw [if_pos h3]
        obtain ⟨g1, g2, g3⟩ := f3 h3
        refine ⟨by show p ≤ (eiS ch (sgS ch 4) (p + 1)).2.1; omega, f2, fun _ => ⟨⟨hw, hn, fun _ => wfr_S (g3 0 (by decide)), fun q => ?_⟩, ?_, rfl, rfl⟩⟩
        · have q : 3 ≤ w := q
          omega
        · show p + (eiS ch (sgS ch 4) (p + 1)).2.2.length ≤ (eiS ch (sgS ch 4) (p + 1)).2.1
          omega
      · rw [if_neg h3]
        exact ⟨by show p ≤ (eiS ch (sgS ch 4) (p + 1)).2.1; omega, f2, fun q => by cases q⟩
    · rw [if_neg h2]
      exact ⟨Nat.le_refl _, hp, fun q => by cases q⟩
  · rw [if_neg h1]
    exact ⟨Nat.le_refl _, hp, fun _ => ⟨⟨hw, hn, fun q => absurd q h1, fun _ => rfl⟩, Nat.le_refl _, rfl, rfl⟩⟩
theorem clS_ok (hch : ∀ p, N ≤ p → ch p = 0) (hN : N ≤ 100) {p : Nat} (hp : p ≤ N) : p ≤ (clS ch p).2.1 ∧ (clS ch p).2.1 ≤ N ∧ ((clS ch p).1 = true → gdC (clS ch p).2.2 ∧ p + (clS ch p).2.2.2.2.length ≤ (clS ch p).2.1) := by
  unfold clS
  by_cases h1 : bgS (ch p) = 5
  · rw [if_pos h1]
    exact ⟨Nat.le_refl _, hp, fun q => by cases q⟩
  · rw [if_neg h1]
    obtain ⟨a1, a2, a3⟩ := lwS_ok hch (wdS (bgS (ch p))) p (wdS_0 _) hp
    by_cases h2 : (lwS ch (wdS (bgS (ch p))) p).1 = true
    · rw [if_pos h2]
      obtain ⟨b1, b2, b3, b4⟩ := nuS_ok hch (p := (lwS ch (wdS (bgS (ch p))) p).2) a2
      by_cases h3 : (nuS ch (lwS ch (wdS (bgS (ch p))) p).2).1 = true
      · rw [if_pos h3]
        have hb := bgS_le (x := ch p)
        obtain ⟨c1, c2, c3⟩ := c2S_ok hch hN (w := bgS (ch p)) b2 (by omega) (b3 h3).2
        refine ⟨by omega, c2, fun q => ?_⟩
        obtain ⟨d1, d2, -⟩ := c3 q
        exact ⟨d1, by omega⟩
      · rw [if_neg h3]
        exact ⟨by show p ≤ (nuS ch (lwS ch (wdS (bgS (ch p))) p).2).2.1; omega, b2, fun q => by cases q⟩
    · rw [if_neg h2]
      exact ⟨a1, a2, fun q => by cases q⟩
theorem sgl_app {A : List Cl} {c : Cl} : sgl (A ++ [c]) = sgl A + c.2.2.length := by
  induction A with
  | nil => show c.2.2.length + 0 = 0 + _; omega
  | cons a A ih =>
    show a.2.2.length + sgl (A ++ [c]) = a.2.2.length + sgl A + _
    rw [ih]
    omega
theorem sgl_flt {A : List Cl} : sgl (flt A) ≤ sgl A := by
  induction A with
  | nil => exact Nat.le_refl _
  | cons a A ih =>
    unfold flt at ih ⊢
    rw [List.filter_cons]
    split
    · show a.2.2.length + sgl _ ≤ a.2.2.length + sgl A
      omega
    · show sgl _ ≤ a.2.2.length + sgl A
      omega
theorem txS_ok (hch : ∀ p, N ≤ p → ch p = 0) (hN : N ≤ 100) : ∀ (m p : Nat) (V : List Cl), p ≤ N → V.length + m ≤ 10 → (∀ c ∈ V, gdC c) → sgl V ≤ p → (txS ch N m p V).2.1 ≤ N ∧ ((txS ch N m p V).1 = true → gdV (txS ch N m p V).2.2 ∧ sgl (txS ch N m p V).2.2 ≤ 100) := by
  intro m
  induction m with
  | zero => exact fun p V hp _ _ _ => ⟨hp, fun q => by cases q⟩
  | succ m ih =>
    intro p V hp hl hg hs
    obtain ⟨a1, a2, a3⟩ := clS_ok hch hN hp
    unfold txS
    by_cases h1 : (clS ch p).1 = true
    · rw [if_pos h1]
      obtain ⟨b1, b2⟩ := a3 h1
      have hg2 : ∀ c ∈ V ++ [(clS ch p).2.2], gdC c := fun c hc => by
        rcases List.mem_append.mp hc with q | q
        · exact hg c q
        · rw [List.mem_singleton.mp q]; exact b1
      have hs2 : sgl (V ++ [(clS ch p).2.2]) ≤ (clS ch p).2.1 := by rw [sgl_app]; omega
      have hl2 : (V ++ [(clS ch p).2.2]).length = V.length + 1 := by rw [List.length_append]; rfl
      by_cases h2 : N ≤ (clS ch p).2.1
      · rw [if_pos h2]
        refine ⟨a2, fun _ => ⟨⟨?_, hg2⟩, ?_⟩⟩
        · show (V ++ [(clS ch p).2.2]).length ≤ 10
          omega
        · show sgl (V ++ [(clS ch p).2.2]) ≤ 100
          omega
      · rw [if_neg h2]
        by_cases h3 : m = 0
        · rw [if_pos h3]
          exact ⟨a2, fun q => by cases q⟩
        · rw [if_neg h3]
          by_cases h4 : ch (clS ch p).2.1 = 59
          · rw [if_pos h4]
            exact ih _ _ (by omega) (by omega) hg2 (by omega)
          · rw [if_neg h4]
            exact ⟨a2, fun q => by cases q⟩
    · rw [if_neg h1]
      exact ⟨a2, fun q => by cases q⟩
end SP2
