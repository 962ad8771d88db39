/-! the number of different pieces, counted along any order of the places (rh gives each place its rank) -/
def zt_Q (g : Nat → Nat) (L : Nat) (rh : Nat → Nat) (i s : Nat) : Prop := i + (s + 1) ≤ L ∧ ∀ j, j < L → rh j < rh i → zt_N g L j i < s + 1
def zt_I (L : Nat) (rh : Nat → Nat) : Prop := ∀ i j, i < L → j < L → rh i = rh j → i = j
noncomputable def zt_D (g : Nat → Nat) (L : Nat) (rh : Nat → Nat) : Nat := zt_s (fun i => zt_c (fun s => zt_Q g L rh i s) L) L
theorem zt_Q_le {g : Nat → Nat} {L : Nat} {rh rk : Nat → Nat} (h : zt_I L rh) (s : Nat) : zt_c (fun i => zt_Q g L rh i s) L ≤ zt_c (fun i => zt_Q g L rk i s) L := by
  have ex : ∀ i, i < L → i + (s + 1) ≤ L → ∃ f, f < L ∧ s + 1 ≤ zt_N g L f i ∧ ∀ j, j < L → s + 1 ≤ zt_N g L j i → rk f ≤ rk j := by
    intro i hi his
    obtain ⟨k, ⟨f, hf, hN, hk⟩, hm⟩ := zt_least (fun k => ∃ f, f < L ∧ s + 1 ≤ zt_N g L f i ∧ rk f = k) ⟨rk i, i, hi, by rw [zt_N_s (by omega)]; omega, rfl⟩
    refine ⟨f, hf, hN, fun j hj hjN => ?_⟩
    refine Classical.byContradiction fun c => ?_
    exact hm (rk j) (by omega) ⟨j, hj, hjN, rfl⟩
  have hf : ∃ f : Nat → Nat, ∀ i, i < L → i + (s + 1) ≤ L → f i < L ∧ s + 1 ≤ zt_N g L (f i) i ∧ ∀ j, j < L → s + 1 ≤ zt_N g L j i → rk (f i) ≤ rk j :=
    ⟨fun i => Classical.epsilon (fun f => f < L ∧ s + 1 ≤ zt_N g L f i ∧ ∀ j, j < L → s + 1 ≤ zt_N g L j i → rk f ≤ rk j), fun i hi his => Classical.epsilon_spec (ex i hi his)⟩
  obtain ⟨f, hf⟩ := hf
  refine zt_inj f L L _ (fun i hi hq => ?_) (fun i j hi hj hqi hqj e => ?_)
  · have a := hf i hi hq.1
    have b := (zt_N_iff (g := g) (by omega) (by omega) (s + 1)).1 a.2.1
    refine ⟨a.1, b.1, fun j hj hr => ?_⟩
    refine Classical.byContradiction fun c => ?_
    have := a.2.2 j hj (zt_N_u (by omega) (by omega) (by omega) (by omega) a.2.1)
    omega
  · have a := hf i hi hqi.1
    have b := hf j hj hqj.1
    have c : s + 1 ≤ zt_N g L i j := by
      refine zt_N_u (j := f i) (by omega) (by omega) (by omega) ?_ ?_
      · rw [zt_N_c (by omega) (by omega)]; exact a.2.1
      · rw [e]; exact b.2.1
    refine Classical.byContradiction fun ne => ?_
    rcases Nat.lt_or_gt_of_ne (fun e => ne (h i j hi hj e)) with d | d
    · have := hqj.2 i hi d
      omega
    · have := hqi.2 j hj d
      rw [zt_N_c (by omega) (by omega)] at this
      omega
theorem zt_Q_eq {g : Nat → Nat} {L : Nat} {rh rk : Nat → Nat} (h : zt_I L rh) (h' : zt_I L rk) (s : Nat) : zt_c (fun i => zt_Q g L rh i s) L = zt_c (fun i => zt_Q g L rk i s) L :=
  Nat.le_antisymm (zt_Q_le h s) (zt_Q_le h' s)
theorem zt_D_s (g : Nat → Nat) (L : Nat) (rh : Nat → Nat) : zt_D g L rh = zt_s (fun s => zt_c (fun i => zt_Q g L rh i s) L) L := zt_dc _ L L
theorem zt_D_eq {g : Nat → Nat} {L : Nat} {rh rk : Nat → Nat} (h : zt_I L rh) (h' : zt_I L rk) : zt_D g L rh = zt_D g L rk := by
  rw [zt_D_s, zt_D_s]
  exact zt_sc L fun s _ => zt_Q_eq h h' s
/-- what place i adds -/
theorem zt_Q_row {g : Nat → Nat} {L : Nat} {rh : Nat → Nat} {i m : Nat} (hi : i < L) (h1 : ∀ j, j < L → rh j < rh i → zt_N g L j i ≤ m) (h2 : m = 0 ∨ ∃ j, j < L ∧ rh j < rh i ∧ zt_N g L j i = m) : zt_c (fun s => zt_Q g L rh i s) L = L - i - m := by
  have hm : i + m ≤ L := by
    rcases h2 with e | ⟨j, hj, _, e⟩
    · omega
    · have := zt_N_j (g := g) (L := L) (i := j) (j := i) (by omega) (by omega)
      omega
  have e : zt_c (fun s => zt_Q g L rh i s) L = zt_c (fun s => zt_Q g L rh i s) (L - i) := by
    have key : ∀ d, L - i + d ≤ L → zt_c (fun s => zt_Q g L rh i s) (L - i + d) = zt_c (fun s => zt_Q g L rh i s) (L - i) := by
      intro d
      induction d with
      | zero => intro _; rfl
      | succ d ih =>
        intro hd
        have e1 : L - i + (d + 1) = (L - i + d) + 1 := by omega
        rw [e1, zt_cf (p := fun s => zt_Q g L rh i s) (n := L - i + d) (fun hq => by have := hq.1; omega), ih (by omega)]
    have := key i (by omega)
    have e2 : L - i + i = L := by omega
    rw [e2] at this
    exact this
  rw [e]
  refine zt_c_gt (L - i) m _ (fun s hs => ⟨fun hq => ?_, fun hq => ⟨by omega, fun j hj hr => ?_⟩⟩) (by omega)
  · rcases h2 with e | ⟨j, hj, hr, e⟩
    · omega
    · have := hq.2 j hj hr
      omega
  · have := h1 j hj hr
    omega
/-- the longest shared beginning of two different tails -/
def zt_G (g : Nat → Nat) (L m : Nat) : Prop := (∀ i j, i < L → j < L → i ≠ j → zt_N g L i j ≤ m) ∧ (m = 0 ∨ ∃ i j, i < L ∧ j < L ∧ i ≠ j ∧ zt_N g L i j = m)
theorem zt_G_un {g : Nat → Nat} {L m m' : Nat} (h : zt_G g L m) (h' : zt_G g L m') : m = m' := by
  apply Nat.le_antisymm
  · rcases h.2 with e | ⟨i, j, hi, hj, ne, e⟩
    · omega
    · rw [← e]; exact h'.1 i j hi hj ne
  · rcases h'.2 with e | ⟨i, j, hi, hj, ne, e⟩
    · omega
    · rw [← e]; exact h.1 i j hi hj ne
/-- along the rows of an order -/
theorem zt_O_nb' {g : Nat → Nat} {L : Nat} {o : Nat → Nat} (hz : zt_Z g L) (h : zt_O g L o) {k : Nat} (hk : k < L) {m : Nat} (hm : m = if k = 0 then 0 else zt_N g L (o (k - 1)) (o k)) : zt_c (fun s => zt_Q g L (zt_r g L) (o k) s) L = L - o k - m := by
  refine zt_Q_row (h k hk).1 (fun j hj hr => ?_) ?_
  · have hT := (zt_r_iff hz hj (h k hk).1).1 hr
    rw [(h k hk).2] at hr
    rw [if_neg (by omega)] at hm
    obtain ⟨k', rfl⟩ : ∃ k', k = k' + 1 := ⟨k - 1, by omega⟩
    rw [hm]
    exact zt_O_nb hz h hk hj hT
  · by_cases e : k = 0
    · rw [if_pos e] at hm; exact Or.inl hm
    · rw [if_neg e] at hm
      refine Or.inr ⟨o (k - 1), (h (k - 1) (by omega)).1, ?_, hm.symm⟩
      rw [(h (k - 1) (by omega)).2, (h k hk).2]; omega
theorem zt_D_rows {g : Nat → Nat} {L : Nat} {o : Nat → Nat} (hz : zt_Z g L) (h : zt_O g L o) : zt_s (fun k => L - o k - (if k = 0 then 0 else zt_N g L (o (k - 1)) (o k))) L = zt_D g L (zt_r g L) := by
  rw [zt_D_s, ← zt_sc L (f := fun k => zt_c (fun s => zt_Q g L (zt_r g L) (o k) s) L) (fun k hk => zt_O_nb' hz h hk rfl), zt_dc (fun k s => zt_Q g L (zt_r g L) (o k) s)]
  refine zt_sc L fun s _ => ?_
  refine zt_bij o L L (fun k hk hq => ⟨(h k hk).1, hq⟩) (fun a b ha hb _ _ e => ?_) (fun i hi hq => ⟨zt_r g L i, zt_r_lt hi, ?_, zt_O_r hz h hi⟩)
  · have := (h a ha).2
    rw [e, (h b hb).2] at this
    exact this.symm
  · rw [zt_O_r hz h hi]; exact hq
theorem zt_D_places {g : Nat → Nat} {L : Nat} {o : Nat → Nat} (hz : zt_Z g L) (h : zt_O g L o) : zt_s (fun i => L - i - (if zt_r g L i = 0 then 0 else zt_N g L (o (zt_r g L i - 1)) i)) L = zt_D g L (zt_r g L) := by
  refine zt_sc L fun i hi => ?_
  have := zt_O_nb' hz h (zt_r_lt (g := g) hi) rfl
  rw [zt_O_r hz h hi] at this
  exact this.symm
/-- the longest one lies between neighbours -/
theorem zt_G_rows {g : Nat → Nat} {L : Nat} {o : Nat → Nat} (hz : zt_Z g L) (h : zt_O g L o) {m : Nat} (h1 : ∀ k, k + 1 < L → zt_N g L (o k) (o (k + 1)) ≤ m) (h2 : m = 0 ∨ ∃ k, k + 1 < L ∧ zt_N g L (o k) (o (k + 1)) = m) : zt_G g L m := by
  have key : ∀ i j, i < L → j < L → zt_T g i j → zt_N g L i j ≤ m := by
    intro i j hi hj hT
    have a := zt_r_mono (n := L) hi hT
    obtain ⟨k, hk⟩ : ∃ k, zt_r g L j = k + 1 := ⟨zt_r g L j - 1, by omega⟩
    have b := zt_r_lt (g := g) hj
    have c := zt_O_nb hz h (k := k) (j := i) (by omega) hi (by rw [← hk, zt_O_r hz h hj]; exact hT)
    rw [← hk, zt_O_r hz h hj] at c
    have d := h1 k (by omega)
    rw [← hk, zt_O_r hz h hj] at d
    omega
  refine ⟨fun i j hi hj ne => ?_, ?_⟩
  · rcases zt_T_to hz (by omega) (by omega) ne with a | a
    · exact key i j hi hj a
    · rw [zt_N_c (by omega) (by omega)]; exact key j i hj hi a
  · rcases h2 with e | ⟨k, hk, e⟩
    · exact Or.inl e
    · refine Or.inr ⟨o k, o (k + 1), (h k (by omega)).1, (h (k + 1) hk).1, fun c => ?_, e⟩
      have a := (h k (by omega)).2
      rw [c, (h (k + 1) hk).2] at a
      omega
/-- by places: the next tail shares at most one letter less -/
theorem zt_kasai {g : Nat → Nat} {L : Nat} {o : Nat → Nat} (hz : zt_Z g L) (h : zt_O g L o) {i : Nat} (hi : i + 1 < L) (h0 : 0 < zt_r g L i) (h1 : 2 ≤ zt_N g L (o (zt_r g L i - 1)) i) : 0 < zt_r g L (i + 1) ∧ zt_N g L (o (zt_r g L i - 1)) i - 1 ≤ zt_N g L (o (zt_r g L (i + 1) - 1)) (i + 1) := by
  have hr := zt_r_lt (g := g) (n := L) (i := i) (by omega)
  have a := h (zt_r g L i - 1) (by omega)
  generalize hp : o (zt_r g L i - 1) = p at *
  have hT : zt_T g p i := (zt_r_iff hz a.1 (by omega)).1 (by omega)
  have b := (zt_N_iff (g := g) (L := L) (i := p) (j := i) (by omega) (by omega) _).1 (Nat.le_refl _)
  have hpL : p + 1 < L := by omega
  have hT' : zt_T g (p + 1) (i + 1) := by
    obtain ⟨s, c, d⟩ := hT
    have hs : s ≠ 0 := fun e => by
      subst e
      have := b.2.2 0 (by omega)
      omega
    obtain ⟨s', rfl⟩ : ∃ s', s = s' + 1 := ⟨s - 1, by omega⟩
    refine ⟨s', fun q hq => ?_, ?_⟩
    · have := c (q + 1) (by omega)
      have e1 : p + 1 + q = p + (q + 1) := by omega
      have e2 : i + 1 + q = i + (q + 1) := by omega
      rw [e1, e2]; exact this
    · have e1 : p + 1 + s' = p + (s' + 1) := by omega
      have e2 : i + 1 + s' = i + (s' + 1) := by omega
      rw [e1, e2]; exact d
  have hr1 := zt_r_mono (n := L) hpL hT'
  refine ⟨by omega, ?_⟩
  obtain ⟨k, hk⟩ : ∃ k, zt_r g L (i + 1) = k + 1 := ⟨zt_r g L (i + 1) - 1, by omega⟩
  have hr2 := zt_r_lt (g := g) (n := L) (i := i + 1) hi
  have c := zt_O_nb hz h (k := k) (j := p + 1) (by omega) hpL (by rw [← hk, zt_O_r hz h hi]; exact hT')
  rw [← hk, zt_O_r hz h hi] at c
  have e : zt_r g L (i + 1) - 1 = k := by omega
  rw [e]
  have d := zt_N_suc (g := g) (L := L) (i := p) (j := i) (s := zt_N g L p i - 1) (by omega) (by omega) (by omega)
  omega
