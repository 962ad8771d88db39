/-! the tree with k tails hung -/
def zt_nt (g : Nat → Nat) (L k n : Nat) (E l nt : Nat → Nat) : Prop := ∀ v i, v < n → (nt v = i + 1 ↔ (i < k ∧ l v = L - i ∧ l v ≤ zt_N g L (E v) i))
/-- with strings S, and a sum of edges sg -/
def zt_J (g : Nat → Nat) (L k n : Nat) (S : Nat → Nat → Prop) (E l p b nt : Nat → Nat) (sg : Nat) : Prop :=
  zt_B (zt_N g L) (zt_P L k) S (fun v => v < n) E l p ∧ zt_R g n E l p b ∧ zt_nt g L k n E l nt ∧ zt_s (fun v => l v - l (p v)) n = sg
def zt_sg (g : Nat → Nat) (L k : Nat) : Nat := zt_s (fun i => L - i - zt_m (fun j => zt_N g L j i) i) k
def zt_H (g : Nat → Nat) (L k n : Nat) (E l p b nt : Nat → Nat) : Prop :=
  zt_J g L k n (zt_S (zt_N g L) (zt_P L k)) E l p b nt (zt_sg g L k) ∧ n ≤ 2 * k + 1
/-- the strings after q = k has come, seen from the others -/
def zt_SQ (g : Nat → Nat) (L k r m : Nat) : Nat → Nat → Prop := zt_S1 (zt_N g L) (zt_S (zt_N g L) (zt_P L k)) r m
theorem zt_J_mid {g : Nat → Nat} {L k n : Nat} {E l p b nt b' nt' : Nat → Nat} {x v c d m sg : Nat} (hk : k ≤ L) (h : zt_J g L k n (zt_S (zt_N g L) (zt_P L k)) E l p b nt sg) (x0 : 0 < x) (hx : x < n) (hv : p x = v) (hc : c < 4) (hd : d < 4) (h1 : l v < m) (h2 : m < l x) (hb : b (v * 4 + c) = x) (g1 : g (E x + l v) = c + 1) (g2 : g (E x + m) = d + 1) (b1 : b' (v * 4 + c) = n) (b2 : b' (n * 4 + d) = x) (b0 : ∀ c', c' < 4 → c' ≠ d → b' (n * 4 + c') = 0) (b3 : ∀ w c', w < n → c' < 4 → (w ≠ v ∨ c' ≠ c) → b' (w * 4 + c') = b (w * 4 + c')) (n0 : nt' n = 0) (n1 : ∀ u, u < n → nt' u = nt u) : zt_J g L k (n + 1) (zt_SQ g L k (E x) m) (zt_up E n (E x)) (zt_up l n m) (zt_up (zt_up p n v) x n) b' nt' sg := by
  obtain ⟨hB, hR, hN, hs⟩ := h
  have hU := zt_U_P g hk
  have hF := zt_F_S hU
  have hp : ∀ u, 0 < u → u < n → p u < n := fun u u0 hu => (hB.2.2.2.2 u u0 hu).1
  have hA := hB.2.1
  have hC := hB.2.2.2.2
  subst hv
  refine ⟨?_, zt_R_mid hR hp x0 hx rfl (hp x x0 hx) hc hd g1 g2 hb b1 b2 b0 b3, fun u i hu => ?_, ?_⟩
  · refine zt_B_V (zt_B_mid hU hF hB x0 hx (y := n) (by omega) (by omega) h1 h2) (fun u => ?_)
    show u < n ∨ u = n ↔ u < n + 1
    omega
  · by_cases e : u = n
    · subst e
      rw [n0, zt_us, zt_us]
      refine ⟨fun h => by omega, fun ⟨i1, i2, i3⟩ => ?_⟩
      exfalso
      have pi : zt_P L k i := Or.inl i1
      have px := (hA x hx).1
      have f1 := hF.2 i i pi pi
      rw [zt_N_s (by omega)] at f1
      have f2 := hF.1 i (E x) _ pi px f1 (by rw [hU.1 _ _ pi px]; omega)
      have := (hC x x0 hx).2.2.2 _ f2 (by omega)
      omega
    · rw [n1 u (by omega), zt_un l m e, zt_un E _ e]
      exact hN u i (by omega)
  · rw [← hs]
    exact zt_sm_mid hB.1.2 hp x0 hx h1 h2
theorem zt_J_old {g : Nat → Nat} {L k n : Nat} {E l p b nt : Nat → Nat} {w r sg : Nat} (hk : k ≤ L) (h : zt_J g L k n (zt_S (zt_N g L) (zt_P L k)) E l p b nt sg) (hw : w < n) (hr : zt_P L k r) (h1 : l w ≤ zt_N g L (E w) r) : zt_J g L k n (zt_SQ g L k r (l w)) E l p b nt sg :=
  ⟨zt_B_S h.1 (zt_S1_old (zt_U_P g hk) (zt_F_S (zt_U_P g hk)) h.1 hw rfl hr h1), h.2⟩
theorem zt_sg_1 {g : Nat → Nat} {L k r m : Nat} (hk : k ≤ L) (hr : zt_P L k r) (hm : zt_N g L k r = m) (hmax : ∀ e, zt_P L k e → zt_N g L k e ≤ m) : zt_sg g L (k + 1) = zt_sg g L k + (L - k - m) := by
  unfold zt_sg
  rw [zt_s1]
  have : zt_m (fun j => zt_N g L j k) k = m := by
    refine Nat.le_antisymm (zt_m_le fun j hj => ?_) ?_
    · show zt_N g L j k ≤ m
      rw [zt_N_c (by omega) (by omega)]
      exact hmax j (Or.inl hj)
    · rcases hr with a | a
      · have := zt_m_ge (f := fun j => zt_N g L j k) a
        have e : zt_N g L r k = m := by rw [zt_N_c (by omega) (by omega)]; exact hm
        rw [← e]; exact this
      · have := zt_N_j (g := g) (L := L) (i := k) (j := r) (by omega) (by omega)
        omega
  rw [this]
theorem zt_J_leaf {g : Nat → Nat} {L k n : Nat} {E l p b nt b' nt' : Nat → Nat} {r m w c : Nat} (hk : k < L) (h : zt_J g L k n (zt_SQ g L k r m) E l p b nt (zt_sg g L k)) (hr : zt_P L k r) (hm : zt_N g L k r = m) (hmax : ∀ e, zt_P L k e → zt_N g L k e ≤ m) (hw : w < n) (hl : l w = m) (hM : m ≤ zt_N g L (E w) k) (hlt : m < L - k) (hc : c < 4) (hq : g (k + m) = c + 1) (h0 : b (w * 4 + c) = 0) (b0 : ∀ c', c' < 4 → b' (n * 4 + c') = 0) (b1 : b' (w * 4 + c) = n) (b2 : ∀ v c', v < n → c' < 4 → (v ≠ w ∨ c' ≠ c) → b' (v * 4 + c') = b (v * 4 + c')) (n0 : nt' n = k + 1) (n1 : ∀ u, u < n → nt' u = nt u) (hn : n ≤ 2 * k + 2) : zt_H g L (k + 1) (n + 1) (zt_up E n k) (zt_up l n (L - k)) (zt_up p n w) b' nt' := by
  obtain ⟨hB, hR, hN, hs⟩ := h
  subst hl
  have hU' := zt_U_P g (L := L) (k := k + 1) (by omega)
  have hP := zt_P_1 L k
  have hp : ∀ u, 0 < u → u < n → p u < n := fun u u0 hu => (hB.2.2.2.2 u u0 hu).1
  have hA := hB.2.1
  have kk : zt_N g L k k = L - k := zt_N_s (by omega)
  have pw := (hA w hw).1
  refine ⟨⟨?_, zt_R_leaf hR hp hw hc hB.1.1 hq h0 b0 b1 b2, fun u i hu => ?_, ?_⟩, by omega⟩
  · have a := zt_B_leaf (q := k) (w := w) (z := n) (P' := zt_P L (k + 1)) (S' := zt_S (zt_N g L) (zt_P L (k + 1))) hU' hP hB hw (by omega) hM hmax (by omega)
      (fun e s he => zt_S_old hU' hP hr hm hmax s he)
      (fun s => zt_S_new hU' hP hr hm hmax pw hM s)
    rw [kk] at a
    refine zt_B_V a (fun u => ?_)
    show u < n ∨ u = n ↔ u < n + 1
    omega
  · by_cases e : u = n
    · subst e
      rw [n0, zt_us, zt_us]
      refine ⟨fun h => ?_, fun ⟨i1, i2, i3⟩ => by omega⟩
      have : i = k := by omega
      subst this
      exact ⟨by omega, rfl, by rw [kk]; omega⟩
    · rw [n1 u (by omega), zt_un l _ e, zt_un E _ e, hN u i (by omega)]
      refine ⟨fun ⟨i1, i2, i3⟩ => ⟨by omega, i2, i3⟩, fun ⟨i1, i2, i3⟩ => ⟨?_, i2, i3⟩⟩
      refine Classical.byContradiction fun cn => ?_
      have : i = k := by omega
      subst this
      have pu := (hA u (by omega)).1
      have := hmax _ pu
      rw [zt_N_c (by omega) (zt_P_L (by omega) pu)] at this
      omega
  · rw [zt_sm_leaf hB.1.2 hp hw, hs, zt_sg_1 (by omega) hr hm hmax]
theorem zt_J_end {g : Nat → Nat} {L k n : Nat} {E l p b nt nt' : Nat → Nat} {r m w : Nat} (hk : k < L) (h : zt_J g L k n (zt_SQ g L k r m) E l p b nt (zt_sg g L k)) (hr : zt_P L k r) (hm : zt_N g L k r = m) (hmax : ∀ e, zt_P L k e → zt_N g L k e ≤ m) (hw : w < n) (hl : l w = m) (hM : m ≤ zt_N g L (E w) k) (heq : m = L - k) (n0 : nt' w = k + 1) (n1 : ∀ u, u < n → u ≠ w → nt' u = nt u) (hn : n ≤ 2 * k + 3) : zt_H g L (k + 1) n E l p b nt' := by
  obtain ⟨hB, hR, hN, hs⟩ := h
  subst hl
  have hU' := zt_U_P g (L := L) (k := k + 1) (by omega)
  have hP := zt_P_1 L k
  have hA := hB.2.1
  have kk : zt_N g L k k = L - k := zt_N_s (by omega)
  have pw := (hA w hw).1
  have pwL := zt_P_L (by omega) pw
  refine ⟨⟨?_, hR, fun u i hu => ?_, ?_⟩, by omega⟩
  · refine zt_B_end (q := k) (w := w) (P' := zt_P L (k + 1)) (S' := zt_S (zt_N g L) (zt_P L (k + 1))) hU' hP hB hw hM (fun e s he => zt_S_old hU' hP hr hm hmax s he) (fun s => ?_)
    rw [zt_S_new hU' hP hr hm hmax pw hM s, kk]
    refine ⟨fun a => ?_, Or.inr⟩
    rcases a with a | a
    · refine ⟨by omega, ?_⟩
      have : s = l w := by omega
      rw [this]
      exact (hA w hw).2.2
    · exact a
  · by_cases e : u = w
    · subst e
      rw [n0]
      refine ⟨fun h => ?_, fun ⟨i1, i2, i3⟩ => by omega⟩
      have : i = k := by omega
      subst this
      exact ⟨by omega, by omega, hM⟩
    · rw [n1 u hu e, hN u i hu]
      refine ⟨fun ⟨i1, i2, i3⟩ => ⟨by omega, i2, i3⟩, fun ⟨i1, i2, i3⟩ => ⟨?_, i2, i3⟩⟩
      refine Classical.byContradiction fun cn => ?_
      have : i = k := by omega
      subst this
      have puL := zt_P_L (by omega) (hA u hu).1
      refine e (hB.2.2.2.1 u w hu hw (by omega) ?_)
      exact zt_N_u puL (by omega) pwL i3 (by rw [zt_N_c (by omega) pwL]; omega)
  · rw [hs, zt_sg_1 (by omega) hr hm hmax]
    omega
/-- the empty tree -/
theorem zt_H_0 {g : Nat → Nat} {L : Nat} {E l p b nt : Nat → Nat} (hE : E 0 = L) (hl : l 0 = 0) (hb : ∀ c, c < 4 → b (0 * 4 + c) = 0) (hn : nt 0 = 0) : zt_H g L 0 1 E l p b nt := by
  have z : ∀ e, zt_P L 0 e → e = L := fun e he => by
    rcases he with h | h
    · omega
    · exact h
  have NL : ∀ e, zt_P L 0 e → zt_N g L e e = 0 := fun e he => by rw [z e he, zt_N_s (Nat.le_refl _)]; omega
  refine ⟨⟨⟨⟨by omega, hl⟩, fun v hv => ?_, fun e s he hs => ?_, fun v w hv hw _ _ => ?_, fun v v0 hv => ?_⟩, ⟨fun v c hv hc hne => ?_, fun w w0 hw => ?_⟩, fun v i hv => ?_, ?_⟩, by omega⟩
  · have e : v = 0 := by omega
    subst e
    rw [hE, hl]
    exact ⟨Or.inr rfl, by omega, L, Or.inr rfl, NL L (Or.inr rfl)⟩
  · obtain ⟨x, hx, e1⟩ := hs
    rw [z e he] at e1 ⊢
    rw [z x hx, NL L (Or.inr rfl)] at e1
    exact ⟨0, by omega, by omega, by omega⟩
  · have h1 : v < 1 := hv
    have h2 : w < 1 := hw
    omega
  · have h1 : v < 1 := hv
    omega
  · have e : v = 0 := by omega
    subst e
    exact absurd (hb c hc) hne
  · omega
  · have e : v = 0 := by omega
    subst e
    rw [hn]
    exact ⟨fun h => by omega, fun h => by omega⟩
  · rw [zt_s1, zt_s0, hl]
    show 0 + (0 - l (p 0)) = zt_sg g L 0
    unfold zt_sg
    rw [zt_s0]; omega
/-- what the sum of all edges is -/
theorem zt_sg_D (g : Nat → Nat) (L : Nat) : zt_sg g L L = zt_D g L (fun i => i) := by
  refine zt_sc L fun i hi => ?_
  symm
  refine zt_Q_row hi (fun j hj hr => zt_m_ge (f := fun j => zt_N g L j i) hr) ?_
  rcases zt_m_is (fun j => zt_N g L j i) i with e | ⟨j, hj, e⟩
  · exact Or.inl e
  · exact Or.inr ⟨j, by omega, hj, e⟩
