/-! sorting by insertion, comparing with a pattern, halving -/
def zt_SO (g : Nat → Nat) (n : Nat) (o : Nat → Nat) : Prop := (∀ a, a < n → o a < n) ∧ ∀ a b, a < b → b < n → zt_T g (o a) (o b)
/-- n goes in; the row is free -/
def zt_IS (g : Nat → Nat) (n row : Nat) (o : Nat → Nat) : Prop := row ≤ n ∧ (∀ a, a ≤ n → a ≠ row → o a < n) ∧ (∀ a b, a < b → b ≤ n → a ≠ row → b ≠ row → zt_T g (o a) (o b)) ∧ ∀ b, row < b → b ≤ n → zt_T g n (o b)
theorem zt_IS_0 {g : Nat → Nat} {n : Nat} {o : Nat → Nat} (h : zt_SO g n o) : zt_IS g n n o :=
  ⟨Nat.le_refl _, fun a ha hne => h.1 a (by omega), fun a b hab hb ha hb' => h.2 a b hab (by omega), fun b h1 h2 => by omega⟩
theorem zt_IS_1 {g : Nat → Nat} {n row : Nat} {o : Nat → Nat} (h : zt_IS g n (row + 1) o) (hT : zt_T g n (o row)) : zt_IS g n row (zt_up o (row + 1) (o row)) := by
  obtain ⟨h0, h1, h2, h3⟩ := h
  have or' : o row < n := h1 row (by omega) (by omega)
  refine ⟨by omega, fun a ha hne => ?_, fun a b hab hb ha hb' => ?_, fun b hb hbn => ?_⟩
  · by_cases e : a = row + 1
    · subst e; rw [zt_us]; exact or'
    · rw [zt_un _ _ e]; exact h1 a ha e
  · by_cases e : a = row + 1
    · subst e
      rw [zt_us, zt_un _ _ (by omega)]
      exact h2 row b (by omega) hb (by omega) (by omega)
    · by_cases e2 : b = row + 1
      · subst e2
        rw [zt_us, zt_un _ _ e]
        exact h2 a row (by omega) (by omega) e (by omega)
      · rw [zt_un _ _ e, zt_un _ _ e2]
        exact h2 a b hab hb e e2
  · by_cases e : b = row + 1
    · subst e; rw [zt_us]; exact hT
    · rw [zt_un _ _ e]; exact h3 b (by omega) hbn
theorem zt_IS_2 {g : Nat → Nat} {n row : Nat} {o : Nat → Nat} (h : zt_IS g n row o) (hT : row = 0 ∨ zt_T g (o (row - 1)) n) : zt_SO g (n + 1) (zt_up o row n) := by
  obtain ⟨h0, h1, h2, h3⟩ := h
  refine ⟨fun a ha => ?_, fun a b hab hb => ?_⟩
  · by_cases e : a = row
    · subst e; rw [zt_us]; omega
    · rw [zt_un _ _ e]
      have := h1 a (by omega) e
      omega
  · by_cases e : a = row
    · subst e
      rw [zt_us, zt_un _ _ (by omega)]
      exact h3 b hab (by omega)
    · by_cases e2 : b = row
      · subst e2
        rw [zt_us, zt_un _ _ e]
        rcases hT with z | z
        · omega
        · by_cases e3 : a = b - 1
          · rw [e3]; exact z
          · exact zt_T_tr (h2 a (b - 1) (by omega) (by omega) e (by omega)) z
      · rw [zt_un _ _ e, zt_un _ _ e2]
        exact h2 a b hab (by omega) e e2
theorem zt_SO_O {g : Nat → Nat} {L : Nat} {o : Nat → Nat} (h : zt_SO g L o) : zt_O g L o := zt_O_of h.1 h.2
/-- by the letters where they part -/
theorem zt_before {g : Nat → Nat} {L i j : Nat} (hz : zt_Z g L) (hi : i < L) (hj : j < L) (ne : i ≠ j) : (L ≤ i + zt_N g L i j ∨ L ≤ j + zt_N g L i j → (zt_T g i j ↔ j < i)) ∧ (i + zt_N g L i j < L → j + zt_N g L i j < L → (zt_T g i j ↔ g (i + zt_N g L i j) < g (j + zt_N g L i j))) := by
  have h := zt_T_N hz (i := i) (j := j) (by omega) (by omega)
  have a := zt_N_i (g := g) (L := L) (i := i) (j := j) (by omega) (by omega)
  have b := zt_N_j (g := g) (L := L) (i := i) (j := j) (by omega) (by omega)
  constructor
  · intro c
    rw [h]
    constructor
    · rintro (d | d) <;> omega
    · intro d
      left
      omega
  · intro c d
    rw [h]
    constructor
    · rintro (e | e)
      · omega
      · exact e.2.2
    · intro e
      exact Or.inr ⟨c, d, e⟩
/-- a tail against a pattern: before it, beginning with it, after it -/
def zt_lo (g pat : Nat → Nat) (m i : Nat) : Prop := ∃ s, s < m ∧ (∀ q, q < s → g (i + q) = pat q + 1) ∧ g (i + s) < pat s + 1
def zt_oc (g pat : Nat → Nat) (m i : Nat) : Prop := ∀ q, q < m → g (i + q) = pat q + 1
def zt_hi (g pat : Nat → Nat) (m i : Nat) : Prop := ∃ s, s < m ∧ (∀ q, q < s → g (i + q) = pat q + 1) ∧ pat s + 1 < g (i + s)
theorem zt_lo_oc {g pat : Nat → Nat} {m i : Nat} (h : zt_lo g pat m i) (h2 : zt_oc g pat m i) : False := by
  obtain ⟨s, a, _, c⟩ := h
  have := h2 s a
  omega
theorem zt_lo_hi {g pat : Nat → Nat} {m i : Nat} (h : zt_lo g pat m i) (h2 : zt_hi g pat m i) : False := by
  obtain ⟨s, a, b, c⟩ := h
  obtain ⟨r, d, e, f⟩ := h2
  by_cases h1 : s < r
  · have := e s h1; omega
  · by_cases h3 : r < s
    · have := b r h3; omega
    · have : s = r := by omega
      subst this
      omega
theorem zt_hi_oc {g pat : Nat → Nat} {m i : Nat} (h : zt_hi g pat m i) (h2 : zt_oc g pat m i) : False := by
  obtain ⟨s, a, _, c⟩ := h
  have := h2 s a
  omega
theorem zt_lo_dn {g pat : Nat → Nat} {m i j : Nat} (hT : zt_T g i j) (h : zt_lo g pat m j) : zt_lo g pat m i := by
  obtain ⟨s, a, b, c⟩ := h
  obtain ⟨d, e, f⟩ := hT
  by_cases h1 : d < s
  · exact ⟨d, by omega, fun q hq => (e q hq).trans (b q (by omega)), by rw [← b d h1]; exact f⟩
  · refine ⟨s, a, fun q hq => (e q (by omega)).trans (b q hq), ?_⟩
    by_cases h2 : d = s
    · subst h2; omega
    · rw [e s (by omega)]; exact c
theorem zt_hi_up {g pat : Nat → Nat} {m i j : Nat} (hT : zt_T g i j) (h : zt_hi g pat m i) : zt_hi g pat m j := by
  obtain ⟨s, a, b, c⟩ := h
  obtain ⟨d, e, f⟩ := hT
  by_cases h1 : d < s
  · exact ⟨d, by omega, fun q hq => (e q hq).symm.trans (b q (by omega)), by rw [← b d h1]; exact f⟩
  · refine ⟨s, a, fun q hq => (e q (by omega)).symm.trans (b q hq), ?_⟩
    by_cases h2 : d = s
    · subst h2; omega
    · rw [← e s (by omega)]; exact c
theorem zt_oc_L {g pat : Nat → Nat} {L m i : Nat} (hz : zt_Z g L) (h : zt_oc g pat m i) (h0 : 0 < m) : i + m ≤ L := by
  have a := h (m - 1) (by omega)
  refine Classical.byContradiction fun c => ?_
  have := (hz (i + (m - 1))).2 (by omega)
  omega
/-- what the column's search finds -/
def zt_oS (g pat : Nat → Nat) (m st j : Nat) : Prop := ∀ q, st ≤ q → q < m → g (j + (q - st)) = pat q + 1
theorem zt_oS_0 (g pat : Nat → Nat) (m j : Nat) : zt_oS g pat m 0 j ↔ zt_oc g pat m j :=
  ⟨fun h q hq => h q (Nat.zero_le _) hq, fun h q _ hq => h q hq⟩
theorem zt_oS_m (g pat : Nat → Nat) (m j : Nat) : zt_oS g pat m m j := fun q h1 h2 => by omega
theorem zt_oS_1 {g pat : Nat → Nat} {m st j : Nat} (hst : st < m) : zt_oS g pat m st j ↔ g j = pat st + 1 ∧ zt_oS g pat m (st + 1) (j + 1) := by
  constructor
  · intro h
    refine ⟨?_, fun q h1 h2 => ?_⟩
    · have := h st (Nat.le_refl _) hst
      rw [Nat.sub_self] at this
      exact this
    · have := h q (by omega) h2
      have e : j + 1 + (q - (st + 1)) = j + (q - st) := by omega
      rw [e]; exact this
  · rintro ⟨a, b⟩ q h1 h2
    by_cases e : q = st
    · subst e; rw [Nat.sub_self]; exact a
    · have := b q (by omega) h2
      have e : j + 1 + (q - (st + 1)) = j + (q - st) := by omega
      rw [e] at this; exact this
/-- the sets of the search: below, and below or beginning -/
theorem zt_pre_d {g pat : Nat → Nat} {m st : Nat} {A B : Nat → Prop} (hst : st < m) (h : ∀ j, B j ↔ A j ∨ zt_oS g pat m (st + 1) j) (hd : ∀ j, A j → ¬ zt_oS g pat m (st + 1) j) : (∀ j, zt_pre g B (pat st) j ↔ zt_pre g A (pat st) j ∨ zt_oS g pat m st j) ∧ ∀ j, zt_pre g A (pat st) j → ¬ zt_oS g pat m st j := by
  constructor
  · intro j
    unfold zt_pre
    rw [zt_oS_1 hst, h (j + 1)]
    constructor
    · rintro (a | ⟨a, b | b⟩)
      · exact Or.inl (Or.inl a)
      · exact Or.inl (Or.inr ⟨a, b⟩)
      · exact Or.inr ⟨a, b⟩
    · rintro ((a | ⟨a, b⟩) | ⟨a, b⟩)
      · exact Or.inl a
      · exact Or.inr ⟨a, Or.inl b⟩
      · exact Or.inr ⟨a, Or.inr b⟩
  · intro j a b
    rw [zt_oS_1 hst] at b
    rcases a with a | ⟨a, c⟩
    · omega
    · exact hd _ c b.2
