/-! ranks of doubled width -/
def zt_W (g : Nat → Nat) (w i j : Nat) : Prop := ∃ s, s < w ∧ (∀ q, q < s → g (i + q) = g (j + q)) ∧ g (i + s) < g (j + s)
def zt_E (g : Nat → Nat) (w i j : Nat) : Prop := ∀ q, q < w → g (i + q) = g (j + q)
theorem zt_W_tri (g : Nat → Nat) (w i j : Nat) : zt_W g w i j ∨ zt_W g w j i ∨ zt_E g w i j := by
  by_cases e : ∃ s, s < w ∧ g (i + s) ≠ g (j + s)
  · obtain ⟨s, ⟨h1, h2⟩, h3⟩ := zt_least _ e
    have h4 : ∀ q, q < s → g (i + q) = g (j + q) := fun q hq => Classical.byContradiction fun c => h3 q hq ⟨by omega, c⟩
    rcases Nat.lt_or_gt_of_ne h2 with a | a
    · exact Or.inl ⟨s, h1, h4, a⟩
    · exact Or.inr (Or.inl ⟨s, h1, fun q hq => (h4 q hq).symm, a⟩)
  · exact Or.inr (Or.inr fun q hq => Classical.byContradiction fun c => e ⟨q, hq, c⟩)
theorem zt_W_2 {g : Nat → Nat} {w i j : Nat} : zt_W g (w * 2) i j ↔ zt_W g w i j ∨ (zt_E g w i j ∧ zt_W g w (i + w) (j + w)) := by
  constructor
  · rintro ⟨s, h1, h2, h3⟩
    by_cases e : s < w
    · exact Or.inl ⟨s, e, h2, h3⟩
    · refine Or.inr ⟨fun q hq => h2 q (by omega), s - w, by omega, fun q hq => ?_, ?_⟩
      · have := h2 (w + q) (by omega)
        rw [Nat.add_assoc, Nat.add_assoc]; exact this
      · have e1 : i + w + (s - w) = i + s := by omega
        have e2 : j + w + (s - w) = j + s := by omega
        rw [e1, e2]; exact h3
  · rintro (⟨s, h1, h2, h3⟩ | ⟨h0, s, h1, h2, h3⟩)
    · exact ⟨s, by omega, h2, h3⟩
    · refine ⟨w + s, by omega, fun q hq => ?_, ?_⟩
      · by_cases e : q < w
        · exact h0 q e
        · have := h2 (q - w) (by omega)
          have e1 : i + w + (q - w) = i + q := by omega
          have e2 : j + w + (q - w) = j + q := by omega
          rw [e1, e2] at this; exact this
      · rw [← Nat.add_assoc, ← Nat.add_assoc]; exact h3
def zt_K (g : Nat → Nat) (L w : Nat) (r : Nat → Nat) : Prop := ∀ i j, i < L → j < L → (r i < r j ↔ zt_W g w i j)
theorem zt_W_as {g : Nat → Nat} {w i j : Nat} (h : zt_W g w i j) (h2 : zt_W g w j i) : False := by
  obtain ⟨s, _, a, b⟩ := h
  obtain ⟨r, _, c, d⟩ := h2
  exact zt_T_as (g := g) (i := i) (j := j) ⟨s, a, b⟩ ⟨r, c, d⟩
theorem zt_E_W {g : Nat → Nat} {w i j : Nat} (h : zt_E g w i j) (h2 : zt_W g w i j) : False := by
  obtain ⟨s, h1, _, h3⟩ := h2
  have := h s h1
  omega
theorem zt_K_e {g : Nat → Nat} {L w : Nat} {r : Nat → Nat} (h : zt_K g L w r) {i j : Nat} (hi : i < L) (hj : j < L) : r i = r j ↔ zt_E g w i j := by
  constructor
  · intro e
    rcases zt_W_tri g w i j with a | a | a
    · have := (h i j hi hj).2 a; omega
    · have := (h j i hj hi).2 a; omega
    · exact a
  · intro a
    have h1 : ¬ r i < r j := fun c => zt_E_W a ((h i j hi hj).1 c)
    have h2 : ¬ r j < r i := fun c => zt_E_W (fun q hq => (a q hq).symm) ((h j i hj hi).1 c)
    omega
theorem zt_K_0 {g : Nat → Nat} {L : Nat} {r : Nat → Nat} (h : ∀ i, i < L → g i = r i + 1) : zt_K g L 1 r := by
  intro i j hi hj
  constructor
  · intro e
    refine ⟨0, by omega, fun q hq => by omega, ?_⟩
    show g i < g j
    rw [h i hi, h j hj]; omega
  · rintro ⟨s, h1, _, h3⟩
    have : s = 0 := by omega
    subst this
    have h3' : g i < g j := h3
    rw [h i hi, h j hj] at h3'
    omega
def zt_2 (L w : Nat) (r : Nat → Nat) (i : Nat) : Nat := if i + w < L then r (i + w) + 1 else 0
theorem zt_K_2 {g : Nat → Nat} {L w : Nat} {r : Nat → Nat} (hz : zt_Z g L) (hw : 0 < w) (h : zt_K g L w r) (hr : ∀ i, i < L → r i < 40) : zt_K g L (w * 2) (fun i => r i * 41 + zt_2 L w r i) := by
  intro i j hi hj
  have s2 : zt_2 L w r i < zt_2 L w r j ↔ zt_W g w (i + w) (j + w) := by
    unfold zt_2
    by_cases a : i + w < L
    · by_cases b : j + w < L
      · rw [if_pos a, if_pos b, ← h _ _ a b]; omega
      · rw [if_pos a, if_neg b]
        refine ⟨fun c => by omega, fun ⟨s, _, _, c⟩ => ?_⟩
        have := (hz (j + w + s)).2 (by omega)
        omega
    · by_cases b : j + w < L
      · rw [if_neg a, if_pos b]
        refine ⟨fun _ => ⟨0, hw, fun q hq => by omega, ?_⟩, fun _ => by omega⟩
        have h1 := (hz (i + w + 0)).2 (by omega)
        have h2 : ¬ g (j + w + 0) = 0 := fun c => by
          have := (hz (j + w + 0)).1 c
          omega
        omega
      · rw [if_neg a, if_neg b]
        refine ⟨fun c => by omega, fun ⟨s, _, _, c⟩ => ?_⟩
        have := (hz (j + w + s)).2 (by omega)
        omega
  have bi : zt_2 L w r i ≤ 40 := by
    unfold zt_2; split
    · have := hr (i + w) (by assumption); omega
    · omega
  have bj : zt_2 L w r j ≤ 40 := by
    unfold zt_2; split
    · have := hr (j + w) (by assumption); omega
    · omega
  show r i * 41 + zt_2 L w r i < r j * 41 + zt_2 L w r j ↔ _
  rw [zt_W_2, ← h i j hi hj, ← zt_K_e h hi hj, ← s2]
  generalize zt_2 L w r i = x at *
  generalize zt_2 L w r j = y at *
  omega
theorem zt_K_r {g : Nat → Nat} {L w : Nat} {p : Nat → Nat} (h : zt_K g L w p) : zt_K g L w (fun i => zt_c (fun j => p j < p i) L) := by
  intro i j hi hj
  rw [← h i j hi hj]
  constructor
  · intro c
    refine Classical.byContradiction fun n => ?_
    have : zt_c (fun x => p x < p j) L ≤ zt_c (fun x => p x < p i) L := zt_cle L fun x _ hx => by omega
    have c' : zt_c (fun x => p x < p i) L < zt_c (fun x => p x < p j) L := c
    omega
  · intro c
    exact zt_clt L i (fun x _ hx => by omega) hi (by omega) c
theorem zt_K_T {g : Nat → Nat} {L w i j : Nat} (hz : zt_Z g L) (hw : L < w) (hi : i < L) (hj : j < L) : zt_W g w i j ↔ zt_T g i j := by
  constructor
  · rintro ⟨s, _, a, b⟩; exact ⟨s, a, b⟩
  · rintro ⟨s, a, b⟩
    refine ⟨s, ?_, a, b⟩
    refine Classical.byContradiction fun c => ?_
    have := (hz (j + s)).2 (by omega)
    omega
/-- at the end the rank is the number of tails that come before -/
theorem zt_K_end {g : Nat → Nat} {L w : Nat} {p : Nat → Nat} (hz : zt_Z g L) (hw : L < w) (h : zt_K g L w p) {i : Nat} (hi : i < L) : zt_c (fun j => p j < p i) L = zt_r g L i :=
  zt_cc L fun j hj => (h j i hj hi).trans (zt_K_T hz hw hj hi)
