/-! the text with its end, what the tails share by one letter more -/
def zt_g (t : Nat → Nat) (L : Nat) : Nat → Nat := fun i => if i < L then t i + 1 else 0
theorem zt_g_lt {t : Nat → Nat} {L i : Nat} (h : i < L) : zt_g t L i = t i + 1 := if_pos h
theorem zt_g_ge {t : Nat → Nat} {L i : Nat} (h : L ≤ i) : zt_g t L i = 0 := if_neg (by omega)
theorem zt_g_Z (t : Nat → Nat) (L : Nat) : zt_Z (zt_g t L) L := fun i => by
  by_cases h : i < L
  · rw [zt_g_lt h]; omega
  · rw [zt_g_ge (by omega)]; omega
theorem zt_g_4 {t : Nat → Nat} (ht : ∀ i, t i < 4) (L i : Nat) : zt_g t L i ≤ 4 := by
  by_cases h : i < L
  · rw [zt_g_lt h]; have := ht i; omega
  · rw [zt_g_ge (by omega)]; omega
theorem zt_g_eq {t : Nat → Nat} {L i j : Nat} (hi : i < L) (hj : j < L) : zt_g t L i = zt_g t L j ↔ t i = t j := by
  rw [zt_g_lt hi, zt_g_lt hj]; omega
theorem zt_N_rec1 {g : Nat → Nat} {L i j : Nat} (hi : i < L) (hj : j < L) (h : g i = g j) : zt_N g L i j = zt_N g L (i + 1) (j + 1) + 1 := by
  have a := (zt_N_iff (g := g) (L := L) (i := i + 1) (j := j + 1) (by omega) (by omega) _).1 (Nat.le_refl _)
  refine zt_N_un (by omega) (by omega) (by omega) (by omega) (fun q hq => ?_) ?_
  · by_cases e : q = 0
    · subst e; exact h
    · have := a.2.2 (q - 1) (by omega)
      have e1 : i + 1 + (q - 1) = i + q := by omega
      have e2 : j + 1 + (q - 1) = j + q := by omega
      rw [e1, e2] at this; exact this
  · by_cases c1 : i + (zt_N g L (i + 1) (j + 1) + 1) = L
    · exact Or.inl c1
    · by_cases c2 : j + (zt_N g L (i + 1) (j + 1) + 1) = L
      · exact Or.inr (Or.inl c2)
      · refine Or.inr (Or.inr ?_)
        have := zt_N_ne (g := g) (L := L) (i := i + 1) (j := j + 1) (by omega) (by omega) (by omega) (by omega)
        have e1 : i + 1 + zt_N g L (i + 1) (j + 1) = i + (zt_N g L (i + 1) (j + 1) + 1) := by omega
        have e2 : j + 1 + zt_N g L (i + 1) (j + 1) = j + (zt_N g L (i + 1) (j + 1) + 1) := by omega
        rw [e1, e2] at this; exact this
theorem zt_N_rec0 {g : Nat → Nat} {L i j : Nat} (h : L ≤ i ∨ L ≤ j ∨ g i ≠ g j) : zt_N g L i j = 0 := by
  by_cases c : i < L ∧ j < L
  · rcases h with a | a | a
    · omega
    · omega
    · exact zt_N_un (by omega) (by omega) (by omega) (by omega) (fun q hq => by omega) (Or.inr (Or.inr a))
  · unfold zt_N
    have : L - (if i < j then j else i) = 0 := by split <;> omega
    rw [this]; rfl
/-- the length of what two tails share, letter by letter -/
theorem zt_N_go {g : Nat → Nat} {L i j s : Nat} (hi : i ≤ L) (hj : j ≤ L) (h : s ≤ zt_N g L i j) (h1 : i + s < L) (h2 : j + s < L) : (g (i + s) = g (j + s) → s + 1 ≤ zt_N g L i j) ∧ (g (i + s) ≠ g (j + s) → zt_N g L i j = s) := by
  have a := (zt_N_iff (g := g) hi hj s).1 h
  constructor
  · intro e
    refine (zt_N_iff hi hj _).2 ⟨by omega, by omega, fun q hq => ?_⟩
    by_cases c : q = s
    · subst c; exact e
    · exact a.2.2 q (by omega)
  · intro e
    exact zt_N_un hi hj (by omega) (by omega) a.2.2 (Or.inr (Or.inr e))
theorem zt_N_max {g : Nat → Nat} {L i j s : Nat} (hi : i ≤ L) (hj : j ≤ L) (h : s ≤ zt_N g L i j) (h1 : L ≤ i + s ∨ L ≤ j + s) : zt_N g L i j = s := by
  have a := zt_N_i (g := g) hi hj
  have b := zt_N_j (g := g) hi hj
  omega
theorem zt_upc (f : Nat → Nat) {a b : Nat} (x y : Nat) (h : a ≠ b) : zt_up (zt_up f a x) b y = zt_up (zt_up f b y) a x := by
  funext j
  unfold zt_up
  by_cases c : j = a
  · subst c; rw [if_neg h, if_pos rfl, if_pos rfl]
  · rw [if_neg c]
    by_cases d : j = b
    · rw [if_pos d, if_neg c]
    · rw [if_neg d, if_neg c]
theorem zt_upp (f : Nat → Nat) (a x y : Nat) : zt_up (zt_up f a x) a y = zt_up f a y := by
  funext j
  unfold zt_up
  by_cases c : j = a
  · rw [if_pos c, if_pos c]
  · rw [if_neg c, if_neg c, if_neg c]
theorem zt_ups (f : Nat → Nat) (a w : Nat) : (fun v => zt_up f a (w + 1) v - 1) = zt_up (fun v => f v - 1) a w := by
  funext j
  unfold zt_up
  by_cases c : j = a
  · rw [if_pos c, if_pos c]; omega
  · rw [if_neg c, if_neg c]
