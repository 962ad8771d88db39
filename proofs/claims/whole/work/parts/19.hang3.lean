/-! hanging a tail, step by step: A on the way down, B where the tail leaves the others, C at its end -/
def zt_hA (g : Nat → Nat) (L k n : Nat) (E l p b nt : Nat → Nat) (v : Nat) : Prop := zt_H g L k n E l p b nt ∧ v < n ∧ l v ≤ zt_N g L (E v) k
def zt_hB (g : Nat → Nat) (L k n : Nat) (E l p b nt : Nat → Nat) (v : Nat) : Prop := ∃ r, zt_J g L k n (zt_SQ g L k r (l v)) E l p b nt (zt_sg g L k) ∧ n ≤ 2 * k + 2 ∧ zt_P L k r ∧ zt_N g L k r = l v ∧ (∀ e, zt_P L k e → zt_N g L k e ≤ l v) ∧ v < n ∧ l v ≤ zt_N g L (E v) k ∧ ∀ c, g (k + l v) = c + 1 → b (v * 4 + c) = 0
def zt_hC (g : Nat → Nat) (L k n : Nat) (E l p b nt : Nat → Nat) (v : Nat) : Prop := v < n ∧ n ≤ 2 * k + 3 ∧ k + l v = L ∧ ∀ nt', nt' v = k + 1 → (∀ u, u < n → u ≠ v → nt' u = nt u) → zt_H g L (k + 1) n E l p b nt'
section
variable {g : Nat → Nat} {L k n : Nat} {E l p b nt b' nt' : Nat → Nat} {v : Nat}
theorem zt_hA_B (hz : zt_Z g L) (hk : k < L) (h : zt_hA g L k n E l p b nt v) (hc : k + l v = L ∨ ∃ c, g (k + l v) = c + 1 ∧ b (v * 4 + c) = 0) : zt_hB g L k n E l p b nt v := by
  obtain ⟨⟨hJ, hn⟩, hv, hM⟩ := h
  have hU := zt_U_P g (L := L) (k := k) (by omega)
  have hF := zt_F_S hU
  have hA := hJ.1.2.1
  have pv := (hA v hv).1
  have pvL := zt_P_L (by omega) pv
  have hmax : ∀ e, zt_P L k e → zt_N g L k e ≤ l v := by
    intro e he
    rcases hc with a | ⟨c, a1, a2⟩
    · have := zt_N_i (g := g) (L := L) (i := k) (j := e) (by omega) (zt_P_L (by omega) he)
      omega
    · exact zt_h0 (by omega) hF hJ.1 hJ.2.1 hv (by omega) hM a1 a2 e he
  have rv : zt_N g L k (E v) = l v := Nat.le_antisymm (hmax _ pv) (by rw [zt_N_c (by omega) pvL]; exact hM)
  refine ⟨E v, zt_J_old (by omega) hJ hv pv (hA v hv).2.1, by omega, pv, rv, hmax, hv, hM, fun c hc' => ?_⟩
  rcases hc with a | ⟨c1, a1, a2⟩
  · have := (hz (k + l v)).2 (by omega)
    omega
  · have : c = c1 := by omega
    subst this
    exact a2
theorem zt_hB_leaf (hk : k < L) (h : zt_hB g L k n E l p b nt v) (hlt : k + l v < L) {c : Nat} (hc : c < 4) (hq : g (k + l v) = c + 1) (b0 : ∀ c', c' < 4 → b' (n * 4 + c') = 0) (b1 : b' (v * 4 + c) = n) (b2 : ∀ w c', w < n → c' < 4 → (w ≠ v ∨ c' ≠ c) → b' (w * 4 + c') = b (w * 4 + c')) (n1 : ∀ u, u < n → nt' u = nt u) : zt_hC g L k (n + 1) (zt_up E n k) (zt_up l n (L - k)) (zt_up p n v) b' nt' n := by
  obtain ⟨r, hJ, hn, hr, hm, hmax, hv, hM, hno⟩ := h
  refine ⟨by omega, by omega, by rw [zt_us]; omega, fun nt2 e1 e2 => ?_⟩
  exact zt_J_leaf hk hJ hr hm hmax hv rfl hM (by omega) hc hq (hno c hq) b0 b1 b2 e1 (fun u hu => (e2 u (by omega) (by omega)).trans (n1 u hu)) (by omega)
theorem zt_hB_end (hk : k < L) (h : zt_hB g L k n E l p b nt v) (heq : k + l v = L) : zt_hC g L k n E l p b nt v := by
  obtain ⟨r, hJ, hn, hr, hm, hmax, hv, hM, hno⟩ := h
  exact ⟨hv, by omega, heq, fun nt2 e1 e2 => zt_J_end hk hJ hr hm hmax hv rfl hM (by omega) e1 e2 (by omega)⟩
/-- the way down -/
theorem zt_hA_x (hk : k < L) (h : zt_hA g L k n E l p b nt v) (hlt : k + l v < L) {c : Nat} (hc : c < 4) (hq : g (k + l v) = c + 1) (x0 : b (v * 4 + c) ≠ 0) : b (v * 4 + c) < n ∧ E (b (v * 4 + c)) + l (b (v * 4 + c)) ≤ L ∧ l v < l (b (v * 4 + c)) ∧ l v < zt_N g L (E (b (v * 4 + c))) k ∧ p (b (v * 4 + c)) = v := by
  obtain ⟨⟨hJ, hn⟩, hv, hM⟩ := h
  have hF := zt_F_S (zt_U_P g (L := L) (k := k) (by omega))
  obtain ⟨a1, a2, a3, a4, a5, a6⟩ := zt_h1 (by omega) hF hJ.1 hJ.2.1 hv hc hk hlt hM hq x0
  have hA := hJ.1.2.1 _ a2
  have pL := zt_P_L (by omega) hA.1
  have lx := hA.2.1
  rw [zt_N_s pL] at lx
  exact ⟨a2, by omega, a4, a5, a3⟩
theorem zt_hA_dn (hk : k < L) (h : zt_hA g L k n E l p b nt v) (hlt : k + l v < L) {c : Nat} (hc : c < 4) (hq : g (k + l v) = c + 1) (x0 : b (v * 4 + c) ≠ 0) (hs : l (b (v * 4 + c)) ≤ zt_N g L (E (b (v * 4 + c))) k) : zt_hA g L k n E l p b nt (b (v * 4 + c)) :=
  ⟨h.1, (zt_hA_x hk h hlt hc hq x0).1, hs⟩
theorem zt_hA_mid (hz : zt_Z g L) (h4 : ∀ i, g i ≤ 4) (hk : k < L) (h : zt_hA g L k n E l p b nt v) (hlt : k + l v < L) {c x s d : Nat} (hc : c < 4) (hq : g (k + l v) = c + 1) (hx : b (v * 4 + c) = x) (x0 : x ≠ 0) (hs : zt_N g L (E x) k = s) (hsl : s < l x) (hd : d < 4) (g2 : g (E x + s) = d + 1) (b1 : b' (v * 4 + c) = n) (b2 : b' (n * 4 + d) = x) (b0 : ∀ c', c' < 4 → c' ≠ d → b' (n * 4 + c') = 0) (b3 : ∀ w c', w < n → c' < 4 → (w ≠ v ∨ c' ≠ c) → b' (w * 4 + c') = b (w * 4 + c')) (n0 : nt' n = 0) (n1 : ∀ u, u < n → nt' u = nt u) : zt_hB g L k (n + 1) (zt_up E n (E x)) (zt_up l n s) (zt_up (zt_up p n v) x n) b' nt' n := by
  obtain ⟨⟨hJ, hn⟩, hv, hM⟩ := h
  have hF := zt_F_S (zt_U_P g (L := L) (k := k) (by omega))
  have a := zt_h1 (by omega) hF hJ.1 hJ.2.1 hv hc hk hlt hM hq (by omega)
  rw [hx] at a
  obtain ⟨a1, a2, a3, a4, a5, a6⟩ := a
  have hA := hJ.1.2.1 _ a2
  have pL := zt_P_L (by omega) hA.1
  have r3 := (hJ.2.1.1 v c hv hc (by omega)).2.2
  rw [hx] at r3
  have hm : zt_N g L k (E x) = s := by rw [zt_N_c (by omega) pL]; exact hs
  have J := zt_J_mid (m := s) (by omega) hJ a1 a2 a3 hc hd (by omega) hsl hx r3 g2 b1 b2 b0 b3 n0 n1
  have el : zt_up l n s n = s := zt_us _ _ _
  have eE : zt_up E n (E x) n = E x := zt_us _ _ _
  unfold zt_hB
  rw [el, eE]
  refine ⟨E x, J, by omega, hA.1, hm, fun e he => ?_, by omega, by omega, fun c' hc' => ?_⟩
  · have := a6 (by omega) e he
    omega
  · by_cases e : c' = d
    · exfalso
      subst e
      have l1 : ¬ L ≤ E x + s := fun z => by
        have := (hz (E x + s)).2 z
        omega
      have l2 : ¬ L ≤ k + s := fun z => by
        have := (hz (k + s)).2 z
        omega
      have := zt_N_ne (g := g) (L := L) (i := E x) (j := k) pL (by omega) (by omega) (by omega)
      rw [hs] at this
      omega
    · exact b0 c' (by have := h4 (k + s); omega) e
end
