/-! the tails hung into a tree: points are the places below k, and L for the empty tail -/
def zt_P (L k e : Nat) : Prop := e < k ∨ e = L
theorem zt_P_L {L k e : Nat} (hk : k ≤ L) (h : zt_P L k e) : e ≤ L := by
  rcases h with h | h <;> omega
theorem zt_P_1 (L k e : Nat) : zt_P L (k + 1) e ↔ zt_P L k e ∨ e = k := by
  unfold zt_P
  constructor
  · rintro (h | h)
    · by_cases c : e = k
      · exact Or.inr c
      · exact Or.inl (Or.inl (by omega))
    · exact Or.inl (Or.inr h)
  · rintro ((h | h) | h)
    · exact Or.inl (by omega)
    · exact Or.inr h
    · exact Or.inl (by omega)
theorem zt_U_N (g : Nat → Nat) (L : Nat) : zt_U (zt_N g L) (fun i => i ≤ L) :=
  ⟨fun _ _ hi hj => zt_N_c hi hj, fun _ _ _ _ hi hj hk => zt_N_u hi hj hk⟩
theorem zt_U_P (g : Nat → Nat) {L k : Nat} (hk : k ≤ L) : zt_U (zt_N g L) (zt_P L k) := zt_U_m (zt_U_N g L) (fun _ h => zt_P_L hk h)
/-- branches: b (v * 4 + c) is the child of v whose way goes on with the letter c, 0 for none -/
def zt_R (g : Nat → Nat) (n : Nat) (E l p b : Nat → Nat) : Prop :=
  (∀ v c, v < n → c < 4 → b (v * 4 + c) ≠ 0 → b (v * 4 + c) < n ∧ p (b (v * 4 + c)) = v ∧ g (E (b (v * 4 + c)) + l v) = c + 1) ∧
  ∀ w, 0 < w → w < n → ∃ c, c < 4 ∧ g (E w + l (p w)) = c + 1 ∧ b (p w * 4 + c) = w
section
variable {g : Nat → Nat} {L k n : Nat} {S : Nat → Nat → Prop} {E l p b : Nat → Nat}
theorem zt_ch (hk : k ≤ L) (hF : zt_F (zt_N g L) (zt_P L k) S) (hB : zt_B (zt_N g L) (zt_P L k) S (fun v => v < n) E l p) (hR : zt_R g n E l p b) {v e c : Nat} (hv : v < n) (he : zt_P L k e) (h1 : l v ≤ zt_N g L (E v) e) (h2 : e + l v < L) (h3 : g (e + l v) = c + 1) : c < 4 ∧ 0 < b (v * 4 + c) ∧ b (v * 4 + c) < n ∧ p (b (v * 4 + c)) = v ∧ l v < l (b (v * 4 + c)) ∧ l (b (v * 4 + c)) ≤ zt_N g L (E (b (v * 4 + c))) e := by
  have hU := zt_U_P g hk
  have heL := zt_P_L hk he
  obtain ⟨u, u0, hu, a1, a2, a3⟩ := zt_B_anc hU hF hB (d := l v) he (by rw [zt_N_s heL]; omega)
  obtain ⟨_, hA, _, hB2, hC⟩ := hB
  have pv := (hA v hv).1
  have pu := (hA u hu).1
  have cu := hC u u0 hu
  have ppu := (hA _ cu.1).1
  have vu : l v ≤ zt_N g L (E v) (E u) := hU.2 _ e _ _ pv he pu h1 (by rw [hU.1 _ _ he pu]; omega)
  have b1 := cu.2.2.2 (l v) (hF.1 _ _ _ pv pu (hA v hv).2.2 vu) a2
  have b2 : p u = v := by
    refine hB2 _ _ cu.1 hv (by omega) ?_
    refine hU.2 _ (E u) _ _ ppu pu pv cu.2.2.1 ?_
    rw [hU.1 _ _ pu pv]; omega
  obtain ⟨c', d1, d2, d3⟩ := hR.2 u u0 hu
  rw [b2] at d2 d3
  have d4 : g (E u + l v) = g (e + l v) := zt_N_e (zt_P_L hk pu) heL (by omega)
  have d5 : c' = c := by omega
  subst d5
  rw [d3]
  exact ⟨d1, u0, hu, b2, a2, a3⟩
/-- no branch: here q leaves all the others -/
theorem zt_h0 (hk : k ≤ L) (hF : zt_F (zt_N g L) (zt_P L k) S) (hB : zt_B (zt_N g L) (zt_P L k) S (fun v => v < n) E l p) (hR : zt_R g n E l p b) {v q c : Nat} (hv : v < n) (hq : q ≤ L) (h1 : l v ≤ zt_N g L (E v) q) (h3 : g (q + l v) = c + 1) (h0 : b (v * 4 + c) = 0) (e : Nat) (he : zt_P L k e) : zt_N g L q e ≤ l v := by
  refine Classical.byContradiction fun cn => ?_
  have heL := zt_P_L hk he
  have pv := zt_P_L hk (hB.2.1 v hv).1
  have a := (zt_N_iff (g := g) hq heL (l v + 1)).1 (by omega)
  have a1 := a.2.2 (l v) (by omega)
  have := zt_ch hk hF hB hR hv he (zt_N_u pv hq heL h1 (by omega)) (by omega) (by rw [← a1]; exact h3)
  omega
/-- a branch that q leaves inside its edge -/
theorem zt_h1 (hk : k ≤ L) (hF : zt_F (zt_N g L) (zt_P L k) S) (hB : zt_B (zt_N g L) (zt_P L k) S (fun v => v < n) E l p) (hR : zt_R g n E l p b) {v q c : Nat} (hv : v < n) (hc : c < 4) (hq : q < L) (hqk : q + l v < L) (h1 : l v ≤ zt_N g L (E v) q) (h3 : g (q + l v) = c + 1) (h0 : b (v * 4 + c) ≠ 0) : 0 < b (v * 4 + c) ∧ b (v * 4 + c) < n ∧ p (b (v * 4 + c)) = v ∧ l v < l (b (v * 4 + c)) ∧ l v < zt_N g L (E (b (v * 4 + c))) q ∧ (zt_N g L (E (b (v * 4 + c))) q < l (b (v * 4 + c)) → ∀ e, zt_P L k e → zt_N g L q e ≤ zt_N g L (E (b (v * 4 + c))) q) := by
  obtain ⟨r1, r2, r3⟩ := hR.1 v c hv hc h0
  generalize b (v * 4 + c) = u at *
  have u0 : 0 < u := by omega
  obtain ⟨_, hA, _, _, hC⟩ := hB
  have cu := hC u u0 r1
  rw [r2] at cu
  have pv := zt_P_L hk (hA v hv).1
  have pu := zt_P_L hk (hA u r1).1
  have lu := (hA u r1).2.1
  rw [zt_N_s pu] at lu
  have m1 : l v ≤ zt_N g L (E u) q := zt_N_u pu pv (by omega) (by rw [zt_N_c pu pv]; exact cu.2.2.1) h1
  have m2 : l v + 1 ≤ zt_N g L (E u) q := by
    have a := (zt_N_iff (g := g) pu (by omega) _).1 m1
    refine (zt_N_iff pu (by omega) _).2 ⟨by omega, by omega, fun x hx => ?_⟩
    by_cases ex : x = l v
    · rw [ex, r3, h3]
    · exact a.2.2 x (by omega)
  refine ⟨u0, r1, r2, cu.2.1, by omega, fun hlt e he => ?_⟩
  refine Classical.byContradiction fun cn => ?_
  have heL := zt_P_L hk he
  have e1 := zt_U_eq (zt_U_N g L) (i := E u) (j := q) (k := e) pu (by omega) heL rfl (by omega)
  have := cu.2.2.2 _ (hF.2 (E u) e (hA u r1).1 he) (by omega)
  omega
end
theorem zt_R_leaf {g : Nat → Nat} {n : Nat} {E l p b b' : Nat → Nat} {q w c m : Nat} (hR : zt_R g n E l p b) (hp : ∀ v, 0 < v → v < n → p v < n) (hw : w < n) (hc : c < 4) (hn : 0 < n) (hq : g (q + l w) = c + 1) (h0 : b (w * 4 + c) = 0) (b0 : ∀ c', c' < 4 → b' (n * 4 + c') = 0) (b1 : b' (w * 4 + c) = n) (b2 : ∀ v c', v < n → c' < 4 → (v ≠ w ∨ c' ≠ c) → b' (v * 4 + c') = b (v * 4 + c')) : zt_R g (n + 1) (zt_up E n q) (zt_up l n m) (zt_up p n w) b' := by
  have ol : ∀ v, v < n → zt_up l n m v = l v := fun v hv => zt_un l _ (by omega)
  have oE : ∀ v, v < n → zt_up E n q v = E v := fun v hv => zt_un E _ (by omega)
  have op : ∀ v, v < n → zt_up p n w v = p v := fun v hv => zt_un p _ (by omega)
  have nE : zt_up E n q n = q := zt_us _ _ _
  have np : zt_up p n w n = w := zt_us _ _ _
  constructor
  · intro v c' hv hc' hb
    by_cases e : v = n
    · subst e; exact absurd (b0 c' hc') hb
    · by_cases e2 : v = w ∧ c' = c
      · obtain ⟨e3, e4⟩ := e2
        subst e3; subst e4
        rw [b1, np, nE, ol v hw]
        exact ⟨by omega, rfl, hq⟩
      · have e3 : b' (v * 4 + c') = b (v * 4 + c') := b2 v c' (by omega) hc' (by omega)
        rw [e3] at hb ⊢
        obtain ⟨r1, r2, r3⟩ := hR.1 v c' (by omega) hc' hb
        rw [op _ r1, oE _ r1, ol v (by omega)]
        exact ⟨by omega, r2, r3⟩
  · intro u u0 hu
    by_cases e : u = n
    · subst e
      rw [np, nE, ol w hw]
      exact ⟨c, hc, hq, b1⟩
    · have hu' : u < n := by omega
      obtain ⟨c', d1, d2, d3⟩ := hR.2 u u0 hu'
      have pu := hp u u0 hu'
      rw [op u hu', oE u hu', ol _ pu]
      refine ⟨c', d1, d2, ?_⟩
      rw [b2 _ c' pu d1 ?_]
      · exact d3
      · by_cases f : p u = w ∧ c' = c
        · exfalso
          rw [f.1, f.2] at d3
          omega
        · omega
theorem zt_R_mid {g : Nat → Nat} {n : Nat} {E l p b b' : Nat → Nat} {x v c d m : Nat} (hR : zt_R g n E l p b) (hp : ∀ v, 0 < v → v < n → p v < n) (x0 : 0 < x) (hx : x < n) (hv : p x = v) (hvn : v < n) (hc : c < 4) (hd : d < 4) (g1 : g (E x + l v) = c + 1) (g2 : g (E x + m) = d + 1) (hb : b (v * 4 + c) = x) (b1 : b' (v * 4 + c) = n) (b2 : b' (n * 4 + d) = x) (b0 : ∀ c', c' < 4 → c' ≠ d → b' (n * 4 + c') = 0) (b3 : ∀ w c', w < n → c' < 4 → (w ≠ v ∨ c' ≠ c) → b' (w * 4 + c') = b (w * 4 + c')) : zt_R g (n + 1) (zt_up E n (E x)) (zt_up l n m) (zt_up (zt_up p n (p x)) x n) b' := by
  have ol : ∀ v, v < n → zt_up l n m v = l v := fun v hv => zt_un l _ (by omega)
  have oE : ∀ v, v < n → zt_up E n (E x) v = E v := fun v hv => zt_un E _ (by omega)
  have nl : zt_up l n m n = m := zt_us _ _ _
  have nE : zt_up E n (E x) n = E x := zt_us _ _ _
  have px : zt_up (zt_up p n (p x)) x n x = n := zt_us _ _ _
  have pn : zt_up (zt_up p n (p x)) x n n = v := by rw [zt_un _ _ (by omega), zt_us]; exact hv
  have op : ∀ u, u < n → u ≠ x → zt_up (zt_up p n (p x)) x n u = p u := fun u hu hne => by rw [zt_un _ _ hne, zt_un _ _ (by omega)]
  have un : ∀ w c', w < n → c' < 4 → b (w * 4 + c') = x → w = v ∧ c' = c := by
    intro w c' hw hc' e
    obtain ⟨_, r2, r3⟩ := hR.1 w c' hw hc' (by omega)
    rw [e] at r2 r3
    have : w = v := by omega
    subst this
    exact ⟨rfl, by omega⟩
  constructor
  · intro w c' hw hc' hne
    by_cases e : w = n
    · subst e
      by_cases f : c' = d
      · subst f
        rw [b2, px, nl, oE x hx]
        exact ⟨by omega, rfl, g2⟩
      · exact absurd (b0 c' hc' f) hne
    · by_cases e2 : w = v ∧ c' = c
      · obtain ⟨e3, e4⟩ := e2
        subst e3; subst e4
        rw [b1, pn, nE, ol w hvn]
        exact ⟨by omega, rfl, g1⟩
      · have e3 : b' (w * 4 + c') = b (w * 4 + c') := b3 w c' (by omega) hc' (by omega)
        rw [e3] at hne ⊢
        obtain ⟨r1, r2, r3⟩ := hR.1 w c' (by omega) hc' hne
        have nx : b (w * 4 + c') ≠ x := fun f => e2 (un w c' (by omega) hc' f)
        rw [op _ r1 nx, oE _ r1, ol w (by omega)]
        exact ⟨by omega, r2, r3⟩
  · intro u u0 hu
    by_cases e : u = n
    · subst e
      rw [pn, nE, ol v hvn]
      exact ⟨c, hc, g1, b1⟩
    · by_cases e2 : u = x
      · subst e2
        rw [px, nl, oE u hx]
        exact ⟨d, hd, g2, b2⟩
      · have hu' : u < n := by omega
        obtain ⟨c', d1, d2, d3⟩ := hR.2 u u0 hu'
        have pu := hp u u0 hu'
        rw [op u hu' e2, oE u hu', ol _ pu]
        refine ⟨c', d1, d2, ?_⟩
        rw [b3 _ c' pu d1 ?_]
        · exact d3
        · by_cases f : p u = v ∧ c' = c
          · exfalso
            rw [f.1, f.2] at d3
            omega
          · omega
/-- sums of the edges -/
theorem zt_s_d {f f' : Nat → Nat} {n x d : Nat} (hx : x < n) (h : ∀ v, v < n → v ≠ x → f' v = f v) (hd : f' x + d = f x) : zt_s f' n + d = zt_s f n := by
  induction n with
  | zero => omega
  | succ n ih =>
    rw [zt_s1, zt_s1]
    by_cases e : x = n
    · subst e
      rw [zt_sc (f := f') (g := f) x (fun i hi => h i (by omega) (by omega))]
      omega
    · have := ih (by omega) (fun v hv => h v (by omega))
      have := h n (by omega) (fun c => e c.symm)
      omega
theorem zt_sm_leaf {l p : Nat → Nat} {n m w : Nat} (h0 : l 0 = 0) (hp : ∀ v, 0 < v → v < n → p v < n) (hw : w < n) : zt_s (fun v => zt_up l n m v - zt_up l n m (zt_up p n w v)) (n + 1) = zt_s (fun v => l v - l (p v)) n + (m - l w) := by
  rw [zt_s1, zt_us, zt_us, zt_un l m (by omega)]
  congr 1
  refine zt_sc n fun v hv => ?_
  show zt_up l n m v - zt_up l n m (zt_up p n w v) = l v - l (p v)
  rw [zt_un l m (by omega), zt_un p w (by omega)]
  by_cases e : v = 0
  · subst e; omega
  · rw [zt_un l m (by have := hp v (by omega) hv; omega)]
theorem zt_sm_mid {l p : Nat → Nat} {n m x : Nat} (h0 : l 0 = 0) (hp : ∀ v, 0 < v → v < n → p v < n) (x0 : 0 < x) (hx : x < n) (h1 : l (p x) < m) (h2 : m < l x) : zt_s (fun v => zt_up l n m v - zt_up l n m (zt_up (zt_up p n (p x)) x n v)) (n + 1) = zt_s (fun v => l v - l (p v)) n := by
  have px := hp x x0 hx
  have e1 : zt_up (zt_up p n (p x)) x n n = p x := by rw [zt_un _ _ (by omega), zt_us]
  rw [zt_s1]
  show zt_s _ n + (zt_up l n m n - zt_up l n m (zt_up (zt_up p n (p x)) x n n)) = _
  rw [e1, zt_us, zt_un l m (by omega)]
  refine zt_s_d hx (fun v hv hne => ?_) ?_
  · show zt_up l n m v - zt_up l n m (zt_up (zt_up p n (p x)) x n v) = l v - l (p v)
    rw [zt_un _ _ hne, zt_un p _ (by omega), zt_un l m (by omega)]
    by_cases e : v = 0
    · subst e; omega
    · rw [zt_un l m (by have := hp v (by omega) hv; omega)]
  · show zt_up l n m x - zt_up l n m (zt_up (zt_up p n (p x)) x n x) + (m - l (p x)) = l x - l (p x)
    rw [zt_us, zt_us, zt_un l m (by omega)]
    omega
