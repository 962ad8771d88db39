/-! what the reference counts -/
theorem zt_c_int {p : Nat → Prop} (n a : Nat) : ∀ b, a ≤ b → b ≤ n → (∀ s, s < n → (p s ↔ a ≤ s ∧ s < b)) → zt_c p n = b - a := by
  induction n with
  | zero => intro b h1 h2 _; rw [zt_c0]; omega
  | succ n ih =>
    intro b h1 h2 h
    by_cases e : b = n + 1
    · by_cases e2 : a = b
      · rw [zt_cz (n + 1) (fun i hi c => by have := (h i hi).1 c; omega)]; omega
      · rw [zt_ct ((h n (by omega)).2 ⟨by omega, by omega⟩), ih n (by omega) (Nat.le_refl _) (fun s hs => by
          rw [h s (by omega)]
          exact ⟨fun x => ⟨x.1, hs⟩, fun x => ⟨x.1, by omega⟩⟩)]
        omega
    · rw [zt_cf (fun c => by have := (h n (by omega)).1 c; omega)]
      exact ih b h1 (by omega) (fun s hs => h s (by omega))
/-- at how many places the s letters of i stand -/
noncomputable def zt_w (g : Nat → Nat) (L i s : Nat) : Nat := zt_c (fun j => s ≤ zt_N g L i j) L
noncomputable def zt_RP (g : Nat → Nat) (L t : Nat) : Nat := zt_s (fun i => zt_c (fun s => zt_Q g L (fun i => i) i s ∧ t ≤ zt_w g L i (s + 1)) L) L
theorem zt_w_mono {g : Nat → Nat} {L i s s' : Nat} (h : s ≤ s') : zt_w g L i s' ≤ zt_w g L i s := zt_cle L fun j _ hj => by omega
theorem zt_w_pos {g : Nat → Nat} {L i s : Nat} (hi : i < L) (h : i + s ≤ L) : 1 ≤ zt_w g L i s :=
  zt_cge1 (p := fun j => s ≤ zt_N g L i j) L i hi (by rw [zt_N_s (by omega)]; omega)
theorem zt_RP_1 (g : Nat → Nat) (L : Nat) : zt_RP g L 1 = zt_D g L (fun i => i) := by
  refine zt_sc L fun i hi => zt_cc L fun s hs => ⟨fun h => h.1, fun h => ⟨h, zt_w_pos hi h.1⟩⟩
theorem zt_Q_m {g : Nat → Nat} {L i s : Nat} (hi : i < L) : zt_Q g L (fun i => i) i s ↔ i + (s + 1) ≤ L ∧ zt_m (fun j => zt_N g L j i) i < s + 1 := by
  constructor
  · intro h
    refine ⟨h.1, ?_⟩
    rcases zt_m_is (fun j => zt_N g L j i) i with e | ⟨j, hj, e⟩
    · omega
    · rw [← e]; exact h.2 j (by omega) hj
  · intro h
    refine ⟨h.1, fun j hj hr => ?_⟩
    have := zt_m_ge (f := fun j => zt_N g L j i) (n := i) (i := j) hr
    have h2 := h.2
    omega
theorem zt_RP_row {g : Nat → Nat} {L i m b t : Nat} (hi : i < L) (hm : zt_m (fun j => zt_N g L j i) i = m) (h0 : m ≤ b) (hb : i + b ≤ L) (h1 : ∀ s, m ≤ s → s < b → t ≤ zt_w g L i (s + 1)) (h2 : i + b = L ∨ ¬ t ≤ zt_w g L i (b + 1)) : zt_c (fun s => zt_Q g L (fun i => i) i s ∧ t ≤ zt_w g L i (s + 1)) L = b - m := by
  refine zt_c_int L m b h0 (by omega) fun s hs => ?_
  rw [zt_Q_m hi, hm]
  constructor
  · rintro ⟨⟨a1, a2⟩, a3⟩
    refine ⟨by omega, ?_⟩
    refine Classical.byContradiction fun c => ?_
    rcases h2 with e | e
    · omega
    · have := zt_w_mono (g := g) (L := L) (i := i) (s := b + 1) (s' := s + 1) (by omega)
      omega
  · rintro ⟨a1, a2⟩
    exact ⟨⟨by omega, by omega⟩, h1 s a1 a2⟩
/-- from the least place on -/
theorem zt_w_from {g : Nat → Nat} {L i s : Nat} (hi : i < L) (hm : zt_m (fun j => zt_N g L j i) i < s) : zt_c (fun j => i ≤ j ∧ s ≤ zt_N g L j i) L = zt_w g L i s := by
  refine zt_cc L fun j hj => ?_
  rw [zt_N_c (i := i) (by omega) (by omega)]
  refine ⟨fun h => h.2, fun h => ⟨?_, h⟩⟩
  refine Classical.byContradiction fun c => ?_
  have := zt_m_ge (f := fun j => zt_N g L j i) (n := i) (i := j) (by omega)
  omega
/-- the most shared with the others -/
def zt_ms (g : Nat → Nat) (L i n : Nat) : Nat := zt_m (fun j => if j = i then 0 else zt_N g L j i) n
theorem zt_ms_i (g : Nat → Nat) (L i : Nat) : zt_ms g L i i = zt_m (fun j => zt_N g L j i) i :=
  zt_m_c i fun j hj => if_neg (by omega)
theorem zt_ms_le {g : Nat → Nat} {L i n : Nat} (hi : i ≤ L) (hn : n ≤ L) : i + zt_ms g L i n ≤ L := by
  have : zt_ms g L i n ≤ L - i := zt_m_le fun j hj => by
    split
    · omega
    · have := zt_N_j (g := g) (L := L) (i := j) (j := i) (by omega) hi
      omega
  omega
/-- the longest by places -/
theorem zt_G_pl {g : Nat → Nat} {L : Nat} {m : Nat} (h1 : ∀ i j, i < L → j < i → zt_N g L i j ≤ m) (h2 : m = 0 ∨ ∃ i j, i < L ∧ j < i ∧ zt_N g L i j = m) : zt_G g L m := by
  refine ⟨fun i j hi hj ne => ?_, ?_⟩
  · by_cases c : j < i
    · exact h1 i j hi c
    · rw [zt_N_c (by omega) (by omega)]; exact h1 j i hj (by omega)
  · rcases h2 with e | ⟨i, j, hi, hj, e⟩
    · exact Or.inl e
    · exact Or.inr ⟨i, j, hi, by omega, by omega, e⟩
