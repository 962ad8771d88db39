/-! what is answered, without the way to it -/
def zt_occ (g pat : Nat → Nat) (m i : Nat) : Prop := 0 < m ∧ zt_oc g pat m i
/-- the place of the k-th -/
def zt_first (occ : Nat → Prop) (L : Nat) (k r : Int32) : Prop := (∃ i, i < L ∧ occ i ∧ nI (zt_c occ i) = k ∧ r = nI i) ∨ ((∀ i, i < L → occ i → ¬ nI (zt_c occ i) = k) ∧ r = -1)
theorem zt_first_un {occ : Nat → Prop} {L : Nat} {k r r' : Int32} (hL : L ≤ 40) (h : zt_first occ L k r) (h' : zt_first occ L k r') : r' = r := by
  rcases h with ⟨i, hi, oi, ei, rfl⟩ | ⟨h1, rfl⟩
  · rcases h' with ⟨j, hj, oj, ej, rfl⟩ | ⟨h2, rfl⟩
    · have e : nI (zt_c occ i) = nI (zt_c occ j) := ei.trans ej.symm
      have bi := zt_cn occ i
      have bj := zt_cn occ j
      rw [nI_eq (by omega) (by omega)] at e
      have : i = j := by
        rcases Nat.lt_trichotomy i j with c | c | c
        · have h1 := zt_cmono occ (n := i + 1) (m := j) (by omega)
          rw [zt_ct oi] at h1
          omega
        · exact c
        · have h1 := zt_cmono occ (n := j + 1) (m := i) (by omega)
          rw [zt_ct oj] at h1
          omega
      rw [this]
    · exact absurd ei (h2 i hi oi)
  · rcases h' with ⟨j, hj, oj, ej, rfl⟩ | ⟨h2, rfl⟩
    · exact absurd ej (h1 j hj oj)
    · rfl
/-- the tail of the k-th row -/
def zt_tail (g : Nat → Nat) (L : Nat) (k r : Int32) : Prop := (∃ i, i < L ∧ nI (zt_r g L i) = k ∧ r = nI i) ∨ ((∀ i, i < L → ¬ nI (zt_r g L i) = k) ∧ r = -1)
theorem zt_tail_un {g : Nat → Nat} {L : Nat} {k r r' : Int32} (hz : zt_Z g L) (hL : L ≤ 40) (h : zt_tail g L k r) (h' : zt_tail g L k r') : r' = r := by
  rcases h with ⟨i, hi, ei, rfl⟩ | ⟨h1, rfl⟩
  · rcases h' with ⟨j, hj, ej, rfl⟩ | ⟨h2, rfl⟩
    · have e : nI (zt_r g L i) = nI (zt_r g L j) := ei.trans ej.symm
      have bi := zt_r_lt (g := g) hi
      have bj := zt_r_lt (g := g) hj
      rw [nI_eq (by omega) (by omega)] at e
      rw [zt_r_inj hz hi hj e]
    · exact absurd ei (h2 i hi)
  · rcases h' with ⟨j, hj, ej, rfl⟩ | ⟨h2, rfl⟩
    · exact absurd ej (h1 j hj)
    · rfl
/-- what the calls write -/
def zt_wr (t : Nat → Nat) (L c : Nat) : Nat → Nat → Nat
  | 0 => t
  | k + 1 => zt_up (zt_wr t L c k) (L + k) c
def zt_ag (t : Nat → Nat) (L back : Nat) : Nat → Nat → Nat
  | 0 => t
  | k + 1 => zt_up (zt_ag t L back k) (L + k) (zt_ag t L back k (L + k - back))
def zt_cy (pat t : Nat → Nat) (i : Nat) : Nat → Nat → Nat
  | 0 => pat
  | k + 1 => zt_up (zt_cy pat t i k) k (t (i + k))
theorem zt_up4 {f : Nat → Nat} {k x : Nat} (h : ∀ i, f i < 4) (hx : x < 4) (i : Nat) : zt_up f k x i < 4 := by
  unfold zt_up
  split
  · exact hx
  · exact h i
theorem zt_wr4 {t : Nat → Nat} {L c : Nat} (h : ∀ i, t i < 4) (hc : c < 4) (k : Nat) : ∀ i, zt_wr t L c k i < 4 := by
  induction k with
  | zero => exact h
  | succ k ih => exact zt_up4 ih hc
theorem zt_ag4 {t : Nat → Nat} {L back : Nat} (h : ∀ i, t i < 4) (k : Nat) : ∀ i, zt_ag t L back k i < 4 := by
  induction k with
  | zero => exact h
  | succ k ih => exact zt_up4 ih (ih _)
theorem zt_cy4 {pat t : Nat → Nat} {i : Nat} (h : ∀ j, pat j < 4) (ht : ∀ j, t j < 4) (k : Nat) : ∀ j, zt_cy pat t i k j < 4 := by
  induction k with
  | zero => exact h
  | succ k ih => exact zt_up4 ih (ht _)
/-- the reference's table -/
def zt_sh (t : Nat → Nat) (L : Nat) (sh : Nat → Int32) : Prop := ∀ i j, i ≤ 40 → j ≤ 40 → sh (41 * i + j) = nI (zt_N (zt_g t L) L i j)
/-- the least place of a piece -/
def zt_lp (g : Nat → Nat) (L i s r : Nat) : Prop := r ≤ i ∧ s ≤ zt_N g L i r ∧ ∀ j, j < r → zt_N g L i j < s
theorem zt_lp_un {g : Nat → Nat} {L i s r r' : Nat} (h : zt_lp g L i s r) (h' : zt_lp g L i s r') : r' = r := by
  rcases Nat.lt_trichotomy r r' with c | c | c
  · have := h'.2.2 r c
    have := h.2.1
    omega
  · exact c.symm
  · have := h.2.2 r' c
    have := h'.2.1
    omega
theorem zt_lp_i {g : Nat → Nat} {L i s : Nat} (hi : i < L) (hs : i + (s + 1) ≤ L) {r : Nat} (h : zt_lp g L i (s + 1) r) : r = i ↔ zt_Q g L (fun i => i) i s := by
  constructor
  · intro e
    subst e
    refine ⟨hs, fun j hj hr => ?_⟩
    rw [zt_N_c (by omega) (by omega)]
    exact h.2.2 j hr
  · intro q
    refine Classical.byContradiction fun c => ?_
    have a := q.2 r (by have := h.1; omega) (by have := h.1; show r < i; omega)
    rw [zt_N_c (by have := h.1; omega) (by omega)] at a
    have := h.2.1
    omega
