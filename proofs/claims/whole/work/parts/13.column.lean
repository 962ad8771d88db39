/-! the column of the letters before the sorted tails p .. L (the empty one too) -/
noncomputable def zt_rk (g : Nat → Nat) (L p i : Nat) : Nat := zt_c (fun j => p ≤ j ∧ zt_T g j i) (L + 1)
section
variable {g : Nat → Nat} {L p : Nat}
theorem zt_rk_n (hp : p ≤ L) : zt_c (fun j => p ≤ j) (L + 1) = L + 1 - p := by
  have h : ∀ d, p ≤ d → zt_c (fun j => p ≤ j) (d + 1) = d + 1 - p := by
    intro d
    induction d with
    | zero =>
      intro h
      rw [zt_ct (p := fun j => p ≤ j) (n := 0) h, zt_c0]; omega
    | succ d ih =>
      intro h
      rw [zt_ct (p := fun j => p ≤ j) (n := d + 1) h]
      by_cases c : p ≤ d
      · rw [ih c]; omega
      · rw [zt_cz (p := fun j => p ≤ j) (d + 1) (fun i hi hh => by omega)]; omega
  exact h L hp
theorem zt_rk_lt {i : Nat} (h1 : p ≤ i) (h2 : i ≤ L) : zt_rk g L p i < L + 1 - p := by
  rw [← zt_rk_n (by omega : p ≤ L)]
  exact zt_clt (L + 1) i (fun j _ h => h.1) (by omega) (fun h => zt_T_ir g i h.2) h1
theorem zt_rk_mono {i j : Nat} (h1 : p ≤ i) (h2 : i ≤ L) (h : zt_T g i j) : zt_rk g L p i < zt_rk g L p j :=
  zt_clt (L + 1) i (fun x _ hx => ⟨hx.1, zt_T_tr hx.2 h⟩) (by omega) (fun h => zt_T_ir g i h.2) ⟨h1, h⟩
theorem zt_rk_inj (hz : zt_Z g L) {i j : Nat} (h1 : p ≤ i) (h2 : i ≤ L) (h3 : p ≤ j) (h4 : j ≤ L) (h : zt_rk g L p i = zt_rk g L p j) : i = j := by
  refine Classical.byContradiction fun e => ?_
  rcases zt_T_to hz h2 h4 e with a | a
  · have := zt_rk_mono h1 h2 a; omega
  · have := zt_rk_mono h3 h4 a; omega
theorem zt_rk_sur (hz : zt_Z g L) {o : Nat} (ho : o < L + 1 - p) : ∃ i, p ≤ i ∧ i ≤ L ∧ zt_rk g L p i = o := by
  obtain ⟨k, hk, e⟩ := zt_sur (f := fun k => zt_rk g L p (p + k)) (n := L + 1 - p) (fun i hi => zt_rk_lt (by omega) (by omega)) (fun i j hi hj e => by
    have := zt_rk_inj hz (by omega) (by omega) (by omega) (by omega) e
    omega) o ho
  exact ⟨p + k, by omega, by omega, e⟩
/-- a set that holds with a tail all that come before it -/
def zt_dn (g : Nat → Nat) (L p : Nat) (S : Nat → Prop) : Prop := ∀ i j, p ≤ i → i ≤ L → p ≤ j → j ≤ L → zt_T g i j → S j → S i
theorem zt_rk_S (hz : zt_Z g L) {S : Nat → Prop} (hS : zt_dn g L p S) {i : Nat} (h1 : p ≤ i) (h2 : i ≤ L) : zt_rk g L p i < zt_c (fun j => p ≤ j ∧ S j) (L + 1) ↔ S i := by
  constructor
  · intro h
    refine Classical.byContradiction fun c => ?_
    have : zt_c (fun j => p ≤ j ∧ S j) (L + 1) ≤ zt_rk g L p i := by
      refine zt_cle (L + 1) fun j hj ⟨a, b⟩ => ⟨a, ?_⟩
      have ne : i ≠ j := fun e => c (e ▸ b)
      rcases zt_T_to hz h2 (by omega) ne with d | d
      · exact absurd (hS i j h1 h2 a (by omega) d b) c
      · exact d
    omega
  · intro h
    exact zt_clt (L + 1) i (fun j hj ⟨a, b⟩ => ⟨a, hS j i a (by omega) h1 h2 b h⟩) (by omega) (fun h => zt_T_ir g i h.2) ⟨h1, h⟩
/-- rows counted as tails -/
theorem zt_RB (hz : zt_Z g L) {S : Nat → Prop} (hS : zt_dn g L p S) {col h : Nat → Nat} (hc : ∀ i, p ≤ i → i ≤ L → col (zt_rk g L p i) = h i) (c : Nat) : zt_c (fun o => (0 < col o ∧ col o < c + 1) ∨ (col o = c + 1 ∧ o < zt_c (fun j => p ≤ j ∧ S j) (L + 1))) (L + 1 - p) = zt_c (fun i => p ≤ i ∧ ((0 < h i ∧ h i < c + 1) ∨ (h i = c + 1 ∧ S i))) (L + 1) := by
  symm
  refine zt_bij (fun i => zt_rk g L p i) (L + 1) (L + 1 - p) (fun i hi hq => ?_) (fun i j hi hj qi qj e => zt_rk_inj hz qi.1 (by omega) qj.1 (by omega) e) (fun o ho hq => ?_)
  · refine ⟨zt_rk_lt hq.1 (by omega), ?_⟩
    show (0 < col (zt_rk g L p i) ∧ col (zt_rk g L p i) < c + 1) ∨ _
    rw [hc i hq.1 (by omega)]
    rcases hq.2 with a | a
    · exact Or.inl a
    · exact Or.inr ⟨a.1, (zt_rk_S hz hS hq.1 (by omega)).2 a.2⟩
  · obtain ⟨i, h1, h2, e⟩ := zt_rk_sur hz ho
    subst e
    rw [hc i h1 h2] at hq
    refine ⟨i, by omega, ⟨h1, ?_⟩, rfl⟩
    rcases hq with a | a
    · exact Or.inl a
    · exact Or.inr ⟨a.1, (zt_rk_S hz hS h1 h2).1 a.2⟩
theorem zt_T_cons (i j : Nat) : zt_T g i j ↔ g i < g j ∨ (g i = g j ∧ zt_T g (i + 1) (j + 1)) := by
  constructor
  · rintro ⟨s, a, b⟩
    by_cases e : s = 0
    · subst e; exact Or.inl b
    · refine Or.inr ⟨a 0 (by omega), s - 1, fun q hq => ?_, ?_⟩
      · have := a (q + 1) (by omega)
        have e1 : i + 1 + q = i + (q + 1) := by omega
        have e2 : j + 1 + q = j + (q + 1) := by omega
        rw [e1, e2]; exact this
      · have e1 : i + 1 + (s - 1) = i + s := by omega
        have e2 : j + 1 + (s - 1) = j + s := by omega
        rw [e1, e2]; exact b
  · rintro (h | ⟨h, s, a, b⟩)
    · exact ⟨0, fun q hq => by omega, h⟩
    · refine ⟨s + 1, fun q hq => ?_, ?_⟩
      · by_cases e : q = 0
        · subst e; exact h
        · have := a (q - 1) (by omega)
          have e1 : i + 1 + (q - 1) = i + q := by omega
          have e2 : j + 1 + (q - 1) = j + q := by omega
          rw [e1, e2] at this; exact this
      · have e1 : i + 1 + s = i + (s + 1) := by omega
        have e2 : j + 1 + s = j + (s + 1) := by omega
        rw [e1, e2] at b; exact b
/-- the set with a letter before it -/
def zt_pre (g : Nat → Nat) (S : Nat → Prop) (c : Nat) (j : Nat) : Prop := g j < c + 1 ∨ (g j = c + 1 ∧ S (j + 1))
theorem zt_dn_pre (hz : zt_Z g L) {S : Nat → Prop} {c : Nat} (hS : zt_dn g L (p + 1) S) : zt_dn g L p (zt_pre g S c) := by
  intro i j h1 h2 h3 h4 hT h
  rcases (zt_T_cons i j).1 hT with a | ⟨a, b⟩
  · rcases h with h | h
    · exact Or.inl (by omega)
    · exact Or.inl (by omega)
  · rcases h with h | ⟨h, k⟩
    · exact Or.inl (by omega)
    · refine Or.inr ⟨by omega, hS (i + 1) (j + 1) (by omega) ?_ (by omega) ?_ b k⟩
      · refine Classical.byContradiction fun c => ?_
        have := (hz i).2 (by omega)
        omega
      · refine Classical.byContradiction fun c => ?_
        have := (hz j).2 (by omega)
        omega
theorem zt_dn_T (i0 : Nat) : zt_dn g L p (fun i => zt_T g i i0) := fun _ _ _ _ _ _ hT h => zt_T_tr hT h
theorem zt_dn_0 : zt_dn g L p (fun _ => False) := fun _ _ _ _ _ _ _ h => h
theorem zt_dn_1 : zt_dn g L p (fun _ => True) := fun _ _ _ _ _ _ _ _ => trivial
theorem zt_dn_m {S : Nat → Prop} {q : Nat} (h : zt_dn g L p S) (hq : p ≤ q) : zt_dn g L q S := fun i j a b c d => h i j (by omega) b (by omega) d
/-- the row with a letter before: the column of p .. L, h i the letter before i -/
theorem zt_row (hz : zt_Z g L) {S : Nat → Prop} (hp : p ≤ L) (q : Nat) (hq : q ≤ p) (hpq : p ≤ q + 1) (hS : zt_dn g L p S) {col h : Nat → Nat} (hc : ∀ i, p ≤ i → i ≤ L → col (zt_rk g L p i) = h i) (h1 : ∀ i, q < i → p ≤ i → i ≤ L → h i = g (i - 1)) (h0 : p = q → h p = 0) (c : Nat) : 1 + zt_c (fun o => (0 < col o ∧ col o < c + 1) ∨ (col o = c + 1 ∧ o < zt_c (fun j => p ≤ j ∧ S j) (L + 1))) (L + 1 - p) = zt_c (fun j => q ≤ j ∧ zt_pre g S c j) (L + 1) := by
  rw [zt_RB hz hS hc c]
  have gL : g L = 0 := (hz L).2 (Nat.le_refl _)
  rw [zt_crm (q := fun j => q ≤ j ∧ zt_pre g S c j) (L + 1) L (by omega) ⟨by omega, Or.inl (by omega)⟩]
  have : zt_c (fun i => p ≤ i ∧ ((0 < h i ∧ h i < c + 1) ∨ (h i = c + 1 ∧ S i))) (L + 1) = zt_c (fun x => (q ≤ x ∧ zt_pre g S c x) ∧ x ≠ L) (L + 1) := by
    have pos : ∀ i, p ≤ i → i ≤ L → ((0 < h i ∧ h i < c + 1) ∨ (h i = c + 1 ∧ S i)) → q < i := by
      intro i a b d
      by_cases e : i = q
      · have e2 : p = q := by omega
        have := h0 e2
        have e3 : i = p := by omega
        rw [e3] at d
        omega
      · omega
    refine zt_bij (fun i => i - 1) (L + 1) (L + 1) (fun i hi hh => ?_) (fun i j hi hj qi qj e => ?_) (fun j hj hh => ?_)
    · have l := pos i hh.1 (by omega) hh.2
      have e1 := h1 i l hh.1 (by omega)
      have e2 : i - 1 + 1 = i := by omega
      refine ⟨by show i - 1 < L + 1; omega, ⟨⟨by show q ≤ i - 1; omega, ?_⟩, by show i - 1 ≠ L; omega⟩⟩
      rcases hh.2 with a | a
      · exact Or.inl (by show g (i - 1) < c + 1; omega)
      · exact Or.inr ⟨by show g (i - 1) = c + 1; omega, by rw [e2]; exact a.2⟩
    · have l1 := pos i qi.1 (by omega) qi.2
      have l2 := pos j qj.1 (by omega) qj.2
      have e' : i - 1 = j - 1 := e
      omega
    · obtain ⟨⟨a, b⟩, d⟩ := hh
      have e1 := h1 (j + 1) (by omega) (by omega) (by omega)
      have e2 : j + 1 - 1 = j := by omega
      rw [e2] at e1
      have g0 : ¬ g j = 0 := fun z => by
        have := (hz j).1 z
        omega
      refine ⟨j + 1, by omega, ⟨by omega, ?_⟩, e2⟩
      rw [e1]
      rcases b with b | b
      · exact Or.inl ⟨by omega, b⟩
      · exact Or.inr b
  rw [this]
  omega
/-- the tails before q are those with a letter before -/
theorem zt_pre_T (q c : Nat) (hc : g q = c + 1) (j : Nat) : zt_pre g (fun i => zt_T g i (q + 1)) c j ↔ zt_T g j q := by
  rw [zt_T_cons j q, hc]
  exact Iff.rfl
/-- the next tail goes in at its row -/
theorem zt_rk_ins (hz : zt_Z g L) {i : Nat} (hp : p + 1 ≤ i) (hi : i ≤ L) : (zt_T g p i → zt_rk g L p i = zt_rk g L (p + 1) i + 1 ∧ zt_rk g L p p ≤ zt_rk g L (p + 1) i) ∧ (¬ zt_T g p i → zt_rk g L p i = zt_rk g L (p + 1) i ∧ zt_rk g L (p + 1) i < zt_rk g L p p) := by
  have hpp : zt_rk g L p p = zt_rk g L (p + 1) p := zt_cc (L + 1) fun j _ => ⟨fun ⟨a, b⟩ => ⟨by
    have : j ≠ p := fun e => zt_T_ir g p (e ▸ b)
    omega, b⟩, fun ⟨a, b⟩ => ⟨by omega, b⟩⟩
  constructor
  · intro hT
    constructor
    · unfold zt_rk
      rw [zt_crm (q := fun j => p ≤ j ∧ zt_T g j i) (L + 1) p (by omega) ⟨Nat.le_refl _, hT⟩]
      congr 1
      exact zt_cc (L + 1) fun j _ => ⟨fun ⟨⟨a, b⟩, c⟩ => ⟨by omega, b⟩, fun ⟨a, b⟩ => ⟨⟨by omega, b⟩, by omega⟩⟩
    · rw [hpp]
      exact zt_cle (L + 1) fun j _ ⟨a, b⟩ => ⟨a, zt_T_tr b hT⟩
  · intro hT
    have hT' : zt_T g i p := by
      rcases zt_T_to hz (by omega : p ≤ L) hi (by omega) with a | a
      · exact absurd a hT
      · exact a
    constructor
    · exact zt_cc (L + 1) fun j _ => ⟨fun ⟨a, b⟩ => ⟨by
        have : j ≠ p := fun e => hT (e ▸ b)
        omega, b⟩, fun ⟨a, b⟩ => ⟨by omega, b⟩⟩
    · rw [hpp]
      exact zt_rk_mono hp hi hT'
end
