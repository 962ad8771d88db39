/-! tails of a text g: letters at places below L are not 0, from L on all is 0 -/
def zt_Z (g : Nat → Nat) (L : Nat) : Prop := ∀ i, g i = 0 ↔ L ≤ i
/-- common letters of i and j among the next n -/
def zt_n (g : Nat → Nat) (i j : Nat) : Nat → Nat
  | 0 => 0
  | n + 1 => if zt_n g i j n = n ∧ g (i + n) = g (j + n) then n + 1 else zt_n g i j n
theorem zt_n1 (g : Nat → Nat) (i j n : Nat) : zt_n g i j (n + 1) = if zt_n g i j n = n ∧ g (i + n) = g (j + n) then n + 1 else zt_n g i j n := rfl
theorem zt_n_iff (g : Nat → Nat) (i j n s : Nat) : s ≤ zt_n g i j n ↔ s ≤ n ∧ ∀ q, q < s → g (i + q) = g (j + q) := by
  induction n generalizing s with
  | zero =>
    refine ⟨fun h => ⟨h, fun q hq => ?_⟩, fun h => h.1⟩
    have : s ≤ 0 := h
    omega
  | succ n ih =>
    have hn := ih n
    have hs := ih s
    have hle : zt_n g i j n ≤ n := ((ih (zt_n g i j n)).1 (Nat.le_refl _)).1
    rw [zt_n1]
    split
    · rename_i c
      obtain ⟨c1, c2⟩ := c
      have h1 := (hn.1 (by omega)).2
      refine ⟨fun h => ⟨h, fun q hq => ?_⟩, fun h => h.1⟩
      by_cases e : q = n
      · rw [e]; exact c2
      · exact h1 q (by omega)
    · rename_i c
      rw [hs]
      refine ⟨fun h => ⟨by omega, h.2⟩, fun h => ⟨?_, h.2⟩⟩
      by_cases e : s = n + 1
      · exfalso
        subst e
        refine c ⟨?_, h.2 n (by omega)⟩
        have := hn.2 ⟨Nat.le_refl _, fun q hq => h.2 q (by omega)⟩
        omega
      · omega
/-- how many letters the tails i and j share -/
def zt_N (g : Nat → Nat) (L i j : Nat) : Nat := zt_n g i j (L - (if i < j then j else i))
theorem zt_N_iff {g : Nat → Nat} {L i j : Nat} (hi : i ≤ L) (hj : j ≤ L) (s : Nat) : s ≤ zt_N g L i j ↔ i + s ≤ L ∧ j + s ≤ L ∧ ∀ q, q < s → g (i + q) = g (j + q) := by
  unfold zt_N
  rw [zt_n_iff]
  split
  · exact ⟨fun h => ⟨by omega, by omega, h.2⟩, fun h => ⟨by omega, h.2.2⟩⟩
  · exact ⟨fun h => ⟨by omega, by omega, h.2⟩, fun h => ⟨by omega, h.2.2⟩⟩
theorem zt_N_i {g : Nat → Nat} {L i j : Nat} (hi : i ≤ L) (hj : j ≤ L) : i + zt_N g L i j ≤ L := ((zt_N_iff hi hj _).1 (Nat.le_refl _)).1
theorem zt_N_j {g : Nat → Nat} {L i j : Nat} (hi : i ≤ L) (hj : j ≤ L) : j + zt_N g L i j ≤ L := ((zt_N_iff hi hj _).1 (Nat.le_refl _)).2.1
theorem zt_N_e {g : Nat → Nat} {L i j : Nat} (hi : i ≤ L) (hj : j ≤ L) {q : Nat} (hq : q < zt_N g L i j) : g (i + q) = g (j + q) := ((zt_N_iff hi hj _).1 (Nat.le_refl _)).2.2 q hq
theorem zt_N_un {g : Nat → Nat} {L i j s : Nat} (hi : i ≤ L) (hj : j ≤ L) (h1 : i + s ≤ L) (h2 : j + s ≤ L) (h3 : ∀ q, q < s → g (i + q) = g (j + q)) (h4 : i + s = L ∨ j + s = L ∨ g (i + s) ≠ g (j + s)) : zt_N g L i j = s := by
  refine Nat.le_antisymm ?_ ((zt_N_iff hi hj s).2 ⟨h1, h2, h3⟩)
  refine Classical.byContradiction fun hn => ?_
  have h5 := (zt_N_iff (g := g) hi hj (s + 1)).1 (by omega)
  have h6 := h5.2.2 s (by omega)
  rcases h4 with e | e | e
  · omega
  · omega
  · exact e h6
theorem zt_N_ne {g : Nat → Nat} {L i j : Nat} (hi : i ≤ L) (hj : j ≤ L) (h1 : i + zt_N g L i j < L) (h2 : j + zt_N g L i j < L) : g (i + zt_N g L i j) ≠ g (j + zt_N g L i j) := by
  intro e
  have : zt_N g L i j + 1 ≤ zt_N g L i j := (zt_N_iff hi hj _).2 ⟨by omega, by omega, fun q hq => by
    by_cases c : q = zt_N g L i j
    · rw [c]; exact e
    · exact zt_N_e hi hj (by omega)⟩
  omega
theorem zt_N_c {g : Nat → Nat} {L i j : Nat} (hi : i ≤ L) (hj : j ≤ L) : zt_N g L i j = zt_N g L j i := by
  apply Nat.le_antisymm
  · have h := (zt_N_iff (g := g) hi hj _).1 (Nat.le_refl _)
    exact (zt_N_iff hj hi _).2 ⟨h.2.1, h.1, fun q hq => (h.2.2 q hq).symm⟩
  · have h := (zt_N_iff (g := g) hj hi _).1 (Nat.le_refl _)
    exact (zt_N_iff hi hj _).2 ⟨h.2.1, h.1, fun q hq => (h.2.2 q hq).symm⟩
theorem zt_N_s {g : Nat → Nat} {L i : Nat} (hi : i ≤ L) : zt_N g L i i = L - i := zt_N_un hi hi (by omega) (by omega) (fun _ _ => rfl) (Or.inl (by omega))
theorem zt_N_u {g : Nat → Nat} {L i j k s : Nat} (hi : i ≤ L) (hj : j ≤ L) (hk : k ≤ L) (h1 : s ≤ zt_N g L i j) (h2 : s ≤ zt_N g L j k) : s ≤ zt_N g L i k := by
  have a := (zt_N_iff (g := g) hi hj s).1 h1
  have b := (zt_N_iff (g := g) hj hk s).1 h2
  exact (zt_N_iff hi hk s).2 ⟨a.1, b.2.1, fun q hq => (a.2.2 q hq).trans (b.2.2 q hq)⟩
theorem zt_N_suc {g : Nat → Nat} {L i j s : Nat} (hi : i + 1 ≤ L) (hj : j + 1 ≤ L) (h : s + 1 ≤ zt_N g L i j) : s ≤ zt_N g L (i + 1) (j + 1) := by
  have a := (zt_N_iff (g := g) (by omega) (by omega) (s + 1)).1 h
  refine (zt_N_iff hi hj s).2 ⟨by omega, by omega, fun q hq => ?_⟩
  have := a.2.2 (q + 1) (by omega)
  have e1 : i + 1 + q = i + (q + 1) := by omega
  have e2 : j + 1 + q = j + (q + 1) := by omega
  rw [e1, e2]; exact this
/-- the tail i comes before the tail j -/
def zt_T (g : Nat → Nat) (i j : Nat) : Prop := ∃ s, (∀ q, q < s → g (i + q) = g (j + q)) ∧ g (i + s) < g (j + s)
theorem zt_T_ir (g : Nat → Nat) (i : Nat) : ¬ zt_T g i i := fun ⟨_, _, h⟩ => Nat.lt_irrefl _ h
theorem zt_T_tr {g : Nat → Nat} {i j k : Nat} (h1 : zt_T g i j) (h2 : zt_T g j k) : zt_T g i k := by
  obtain ⟨s, a, b⟩ := h1
  obtain ⟨r, c, d⟩ := h2
  by_cases e : s < r
  · exact ⟨s, fun q hq => (a q hq).trans (c q (by omega)), by rw [← c s e]; exact b⟩
  · by_cases e2 : r < s
    · exact ⟨r, fun q hq => (a q (by omega)).trans (c q hq), by rw [a r e2]; exact d⟩
    · have : s = r := by omega
      subst this
      exact ⟨s, fun q hq => (a q hq).trans (c q hq), Nat.lt_trans b d⟩
theorem zt_T_as {g : Nat → Nat} {i j : Nat} (h1 : zt_T g i j) (h2 : zt_T g j i) : False := zt_T_ir g i (zt_T_tr h1 h2)
theorem zt_T_d {g : Nat → Nat} {i j : Nat} (h : ∃ s, g (i + s) ≠ g (j + s)) : zt_T g i j ∨ zt_T g j i := by
  obtain ⟨s, h1, h2⟩ := zt_least _ h
  have h3 : ∀ q, q < s → g (i + q) = g (j + q) := fun q hq => Classical.byContradiction (h2 q hq)
  rcases Nat.lt_or_gt_of_ne h1 with e | e
  · exact Or.inl ⟨s, h3, e⟩
  · exact Or.inr ⟨s, fun q hq => (h3 q hq).symm, e⟩
theorem zt_T_to {g : Nat → Nat} {L i j : Nat} (hz : zt_Z g L) (hi : i ≤ L) (hj : j ≤ L) (h : i ≠ j) : zt_T g i j ∨ zt_T g j i := by
  apply zt_T_d
  by_cases e : i < j
  · refine ⟨L - j, fun c => ?_⟩
    have h1 : g (j + (L - j)) = 0 := (hz _).2 (by omega)
    have h2 := (hz (i + (L - j))).1 (by rw [c]; exact h1)
    omega
  · refine ⟨L - i, fun c => ?_⟩
    have h1 : g (i + (L - i)) = 0 := (hz _).2 (by omega)
    have h2 := (hz (j + (L - i))).1 (by rw [← c]; exact h1)
    omega
/-- by the first letter that differs -/
theorem zt_T_N {g : Nat → Nat} {L i j : Nat} (hz : zt_Z g L) (hi : i ≤ L) (hj : j ≤ L) : zt_T g i j ↔ (i + zt_N g L i j = L ∧ j + zt_N g L i j < L) ∨ (i + zt_N g L i j < L ∧ j + zt_N g L i j < L ∧ g (i + zt_N g L i j) < g (j + zt_N g L i j)) := by
  have h0 := zt_N_i (g := g) hi hj
  have h1 := zt_N_j (g := g) hi hj
  have h2 : ∀ q, q < zt_N g L i j → g (i + q) = g (j + q) := fun q hq => zt_N_e hi hj hq
  have key : zt_T g i j ↔ g (i + zt_N g L i j) < g (j + zt_N g L i j) := by
    constructor
    · rintro ⟨s, a, b⟩
      have c : s = zt_N g L i j := by
        by_cases e : s < zt_N g L i j
        · have := h2 s e; omega
        · by_cases e2 : zt_N g L i j < s
          · exfalso
            have c1 := a _ e2
            by_cases f1 : i + zt_N g L i j < L
            · by_cases f2 : j + zt_N g L i j < L
              · exact zt_N_ne hi hj f1 f2 c1
              · have z1 := (hz (j + zt_N g L i j)).2 (by omega)
                have z2 := (hz (i + zt_N g L i j)).1 (by rw [c1]; exact z1)
                omega
            · have z1 : g (i + s) = 0 := (hz (i + s)).2 (by omega)
              have z2 := (hz (i + zt_N g L i j)).2 (by omega)
              have z3 := (hz (j + zt_N g L i j)).1 (by rw [← c1]; exact z2)
              have z4 : g (j + s) = 0 := (hz (j + s)).2 (by omega)
              omega
          · omega
      rw [← c]; exact b
    · intro h; exact ⟨_, h2, h⟩
  rw [key]
  constructor
  · intro h
    have z := hz (j + zt_N g L i j)
    have f2 : j + zt_N g L i j < L := by
      refine Classical.byContradiction fun c => ?_
      have := z.2 (by omega)
      omega
    by_cases f1 : i + zt_N g L i j < L
    · exact Or.inr ⟨f1, f2, h⟩
    · exact Or.inl ⟨by omega, f2⟩
  · rintro (⟨a, b⟩ | ⟨_, _, c⟩)
    · have z1 := (hz (i + zt_N g L i j)).2 (by omega)
      have z2 : ¬ g (j + zt_N g L i j) = 0 := fun c => by
        have := (hz (j + zt_N g L i j)).1 c
        omega
      omega
    · exact c
/-- what lies between shares as much -/
theorem zt_T_b {g : Nat → Nat} {L i j k s : Nat} (hi : i ≤ L) (hj : j ≤ L) (hk : k ≤ L) (hz : zt_Z g L) (h1 : zt_T g i j) (h2 : zt_T g j k) (h : s ≤ zt_N g L i k) : s ≤ zt_N g L j k := by
  have a := (zt_N_iff (g := g) hi hk s).1 h
  obtain ⟨d, b, c⟩ := h2
  have hd : s ≤ d := by
    refine Classical.byContradiction fun hn => ?_
    refine zt_T_as h1 ⟨d, fun q hq => ?_, ?_⟩
    · rw [a.2.2 q (by omega)]; exact b q hq
    · rw [a.2.2 d (by omega)]; exact c
  refine (zt_N_iff hj hk s).2 ⟨?_, a.2.1, fun q hq => b q (by omega)⟩
  by_cases e : s = 0
  · omega
  · have e1 := b (s - 1) (by omega)
    have z1 : ¬ g (k + (s - 1)) = 0 := fun c => by
      have := (hz (k + (s - 1))).1 c
      omega
    have z2 : ¬ L ≤ j + (s - 1) := fun c => by
      have := (hz (j + (s - 1))).2 c
      omega
    omega
/-- the number of tails below n that come before i -/
noncomputable def zt_r (g : Nat → Nat) (n i : Nat) : Nat := zt_c (fun j => zt_T g j i) n
theorem zt_r_lt {g : Nat → Nat} {n i : Nat} (hi : i < n) : zt_r g n i < n := by
  have h1 := zt_clt (p := fun j => zt_T g j i) (q := fun _ => True) n i (fun _ _ _ => trivial) hi (zt_T_ir g i) trivial
  have h2 : zt_c (fun _ => True) n = n := zt_call n (fun _ _ => trivial)
  unfold zt_r
  omega
theorem zt_r_mono {g : Nat → Nat} {n i j : Nat} (hi : i < n) (h : zt_T g i j) : zt_r g n i < zt_r g n j :=
  zt_clt n i (fun _ _ hq => zt_T_tr hq h) hi (zt_T_ir g i) h
theorem zt_r_iff {g : Nat → Nat} {L i j : Nat} (hz : zt_Z g L) (hi : i < L) (hj : j < L) : zt_r g L i < zt_r g L j ↔ zt_T g i j := by
  refine ⟨fun h => ?_, zt_r_mono hi⟩
  by_cases e : i = j
  · subst e; omega
  · rcases zt_T_to hz (by omega) (by omega) e with a | a
    · exact a
    · have := zt_r_mono (n := L) hj a
      omega
theorem zt_r_inj {g : Nat → Nat} {L i j : Nat} (hz : zt_Z g L) (hi : i < L) (hj : j < L) (h : zt_r g L i = zt_r g L j) : i = j := by
  refine Classical.byContradiction fun e => ?_
  rcases zt_T_to hz (by omega) (by omega) e with a | a
  · have := zt_r_mono (n := L) hi a; omega
  · have := zt_r_mono (n := L) hj a; omega
theorem zt_r_sur {g : Nat → Nat} {L : Nat} (hz : zt_Z g L) (k : Nat) (hk : k < L) : ∃ i, i < L ∧ zt_r g L i = k :=
  zt_sur (fun _ hi => zt_r_lt hi) (fun _ _ hi hj h => zt_r_inj hz hi hj h) k hk
/-- o lists the tails in order -/
def zt_O (g : Nat → Nat) (L : Nat) (o : Nat → Nat) : Prop := ∀ k, k < L → o k < L ∧ zt_r g L (o k) = k
theorem zt_O_of {g : Nat → Nat} {L : Nat} {o : Nat → Nat} (hb : ∀ k, k < L → o k < L) (hs : ∀ a b, a < b → b < L → zt_T g (o a) (o b)) : zt_O g L o :=
  fun k hk => ⟨hb k hk, zt_id (f := fun k => zt_r g L (o k)) (fun k hk => zt_r_lt (hb k hk)) (fun a b hab hb' => zt_r_mono (hb a (by omega)) (hs a b hab hb')) k hk⟩
theorem zt_O_of2 {g : Nat → Nat} {L : Nat} {o : Nat → Nat} (hz : zt_Z g L) (h : ∀ i, i < L → o (zt_r g L i) = i) : zt_O g L o := by
  intro k hk
  obtain ⟨i, hi, e⟩ := zt_r_sur hz k hk
  rw [← e, h i hi]
  exact ⟨hi, rfl⟩
theorem zt_O_r {g : Nat → Nat} {L : Nat} {o : Nat → Nat} (hz : zt_Z g L) (h : zt_O g L o) {i : Nat} (hi : i < L) : o (zt_r g L i) = i := by
  have a := h (zt_r g L i) (zt_r_lt hi)
  exact zt_r_inj hz a.1 hi a.2
theorem zt_O_T {g : Nat → Nat} {L : Nat} {o : Nat → Nat} (hz : zt_Z g L) (h : zt_O g L o) {a b : Nat} (ha : a < L) (hb : b < L) : zt_T g (o a) (o b) ↔ a < b := by
  rw [← zt_r_iff hz (h a ha).1 (h b hb).1, (h a ha).2, (h b hb).2]
theorem zt_O_un {g : Nat → Nat} {L : Nat} {o o' : Nat → Nat} (hz : zt_Z g L) (h : zt_O g L o) (h' : zt_O g L o') {k : Nat} (hk : k < L) : o k = o' k :=
  zt_r_inj hz (h k hk).1 (h' k hk).1 ((h k hk).2.trans (h' k hk).2.symm)
/-- the neighbour before shares the most of all that come before -/
theorem zt_O_nb {g : Nat → Nat} {L : Nat} {o : Nat → Nat} (hz : zt_Z g L) (h : zt_O g L o) {k j : Nat} (hk : k + 1 < L) (hj : j < L) (hT : zt_T g j (o (k + 1))) : zt_N g L j (o (k + 1)) ≤ zt_N g L (o k) (o (k + 1)) := by
  have a := h k (by omega)
  have b := h (k + 1) hk
  by_cases e : j = o k
  · subst e; exact Nat.le_refl _
  · have h1 := zt_r_mono (n := L) hj hT
    rw [b.2] at h1
    have h2 : zt_r g L j < k := by
      have : zt_r g L j ≠ k := fun c => e (zt_r_inj hz hj a.1 (c.trans a.2.symm))
      omega
    have h3 : zt_T g j (o k) := (zt_r_iff hz hj a.1).1 (by rw [a.2]; exact h2)
    have h4 : zt_T g (o k) (o (k + 1)) := (zt_O_T hz h (by omega) hk).2 (by omega)
    exact zt_T_b (by omega) (by omega) (by omega) hz h3 h4 (Nat.le_refl _)
