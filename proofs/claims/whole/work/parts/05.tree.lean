/-! points with a shared length M, and the tree of their branchings: a node v stands for the first l v letters of the point E v -/
def zt_U (M : Nat → Nat → Nat) (U : Nat → Prop) : Prop := (∀ i j, U i → U j → M i j = M j i) ∧ ∀ i j k s, U i → U j → U k → s ≤ M i j → s ≤ M j k → s ≤ M i k
theorem zt_U_m {M : Nat → Nat → Nat} {U V : Nat → Prop} (h : zt_U M U) (hv : ∀ i, V i → U i) : zt_U M V :=
  ⟨fun i j a b => h.1 i j (hv i a) (hv j b), fun i j k s a b c => h.2 i j k s (hv i a) (hv j b) (hv k c)⟩
theorem zt_U_self {M : Nat → Nat → Nat} {U : Nat → Prop} (h : zt_U M U) {i j : Nat} (hi : U i) (hj : U j) : M i j ≤ M i i :=
  h.2 i j i _ hi hj hi (Nat.le_refl _) (by rw [h.1 j i hj hi]; exact Nat.le_refl _)
/-- where two differ earlier than the one of them and a third -/
theorem zt_U_eq {M : Nat → Nat → Nat} {U : Nat → Prop} (h : zt_U M U) {i j k s : Nat} (hi : U i) (hj : U j) (hk : U k) (h1 : M i j = s) (h2 : s < M j k) : M i k = s := by
  have a := h.2 i j k s hi hj hk (by omega) (by omega)
  refine Nat.le_antisymm ?_ a
  refine Classical.byContradiction fun c => ?_
  have b := h.2 i k j (s + 1) hi hk hj (by omega) (by rw [h.1 k j hk hj]; omega)
  omega
/-- lengths at which the point e branches (or ends) among the points -/
def zt_S (M : Nat → Nat → Nat) (P : Nat → Prop) (e s : Nat) : Prop := ∃ e', P e' ∧ M e e' = s
def zt_F (M : Nat → Nat → Nat) (P : Nat → Prop) (S : Nat → Nat → Prop) : Prop := (∀ e e' s, P e → P e' → S e s → s ≤ M e e' → S e' s) ∧ ∀ e e', P e → P e' → S e (M e e')
theorem zt_F_S {M : Nat → Nat → Nat} {P : Nat → Prop} (h : zt_U M P) : zt_F M P (zt_S M P) := by
  refine ⟨fun e e' s he he' hs hle => ?_, fun e e' _ he' => ⟨e', he', rfl⟩⟩
  obtain ⟨x, hx, e1⟩ := hs
  by_cases c : s < M e e'
  · refine ⟨x, hx, ?_⟩
    rw [h.1 e' x he' hx]
    exact zt_U_eq h hx he he' (by rw [h.1 x e hx he]; exact e1) c
  · exact ⟨e, he, by rw [h.1 e' e he' he]; omega⟩
def zt_B (M : Nat → Nat → Nat) (P : Nat → Prop) (S : Nat → Nat → Prop) (V : Nat → Prop) (E l p : Nat → Nat) : Prop :=
  (V 0 ∧ l 0 = 0) ∧
  (∀ v, V v → P (E v) ∧ l v ≤ M (E v) (E v) ∧ S (E v) (l v)) ∧
  (∀ e s, P e → S e s → ∃ v, V v ∧ l v = s ∧ s ≤ M (E v) e) ∧
  (∀ v w, V v → V w → l v = l w → l v ≤ M (E v) (E w) → v = w) ∧
  (∀ v, 0 < v → V v → V (p v) ∧ l (p v) < l v ∧ l (p v) ≤ M (E (p v)) (E v) ∧ ∀ s, S (E v) s → s < l v → s ≤ l (p v))
theorem zt_B_S {M : Nat → Nat → Nat} {P : Nat → Prop} {S S' : Nat → Nat → Prop} {V : Nat → Prop} {E l p : Nat → Nat} (h : zt_B M P S V E l p) (e : ∀ x s, P x → (S x s ↔ S' x s)) : zt_B M P S' V E l p := by
  obtain ⟨h0, hA, hB, hB2, hC⟩ := h
  refine ⟨h0, fun v hv => ⟨(hA v hv).1, (hA v hv).2.1, (e _ _ (hA v hv).1).1 (hA v hv).2.2⟩, fun x s hx hs => hB x s hx ((e _ _ hx).2 hs), hB2, fun v h0 hv => ?_⟩
  have := hC v h0 hv
  exact ⟨this.1, this.2.1, this.2.2.1, fun s hs => this.2.2.2 s ((e _ _ (hA v hv).1).2 hs)⟩
theorem zt_B_V {M : Nat → Nat → Nat} {P : Nat → Prop} {S : Nat → Nat → Prop} {V V' : Nat → Prop} {E l p : Nat → Nat} (h : zt_B M P S V E l p) (e : ∀ v, V v ↔ V' v) : zt_B M P S V' E l p := by
  have : V = V' := funext fun v => propext (e v)
  exact this ▸ h
/-- the node through which the first d + 1 letters of e go -/
theorem zt_B_anc {M : Nat → Nat → Nat} {P : Nat → Prop} {S : Nat → Nat → Prop} {V : Nat → Prop} {E l p : Nat → Nat} (hU : zt_U M P) (hF : zt_F M P S) (h : zt_B M P S V E l p) {e d : Nat} (he : P e) (hd : d < M e e) : ∃ u, 0 < u ∧ V u ∧ l (p u) ≤ d ∧ d < l u ∧ l u ≤ M (E u) e := by
  obtain ⟨h0, hA, hB, hB2, hC⟩ := h
  obtain ⟨u0, a, b, c⟩ := hB e _ he (hF.2 e e he he)
  obtain ⟨k, ⟨u, hu, h1, h2, h3⟩, hm⟩ := zt_least (fun k => ∃ u, V u ∧ l u = k ∧ d < k ∧ k ≤ M (E u) e) ⟨_, u0, a, b, hd, c⟩
  have hu0 : 0 < u := by
    refine Nat.pos_of_ne_zero fun z => ?_
    rw [z, h0.2] at h1
    omega
  have c := hC u hu0 hu
  refine ⟨u, hu0, hu, ?_, by omega, by omega⟩
  refine Classical.byContradiction fun hn => ?_
  refine hm (l (p u)) (by omega) ⟨p u, c.1, rfl, by omega, ?_⟩
  exact hU.2 _ (E u) _ _ (hA _ c.1).1 (hA u hu).1 he c.2.2.1 (by omega)
/-- a node's strings: s between the parent's length and its own leads to the same points -/
theorem zt_B_same {M : Nat → Nat → Nat} {P : Nat → Prop} {S : Nat → Nat → Prop} {V : Nat → Prop} {E l p : Nat → Nat} (hF : zt_F M P S) (h : zt_B M P S V E l p) {u e s : Nat} (h0 : 0 < u) (hu : V u) (he : P e) (hs : l (p u) < s) (hM : s ≤ M (E u) e) : l u ≤ M (E u) e := by
  obtain ⟨_, hA, _, _, hC⟩ := h
  refine Classical.byContradiction fun c => ?_
  have := (hC u h0 hu).2.2.2 _ (hF.2 (E u) e (hA u hu).1 he) (by omega)
  omega
/-- the node of a string is one -/
theorem zt_B_one {M : Nat → Nat → Nat} {P : Nat → Prop} {S : Nat → Nat → Prop} {V : Nat → Prop} {E l p : Nat → Nat} (hU : zt_U M P) (hF : zt_F M P S) (h : zt_B M P S V E l p) {u w e s : Nat} (h0 : 0 < u) (hu : V u) (k0 : 0 < w) (hw : V w) (he : P e) (h1 : l (p u) < s) (h2 : s ≤ l u) (h3 : s ≤ M (E u) e) (k1 : l (p w) < s) (k2 : s ≤ l w) (k3 : s ≤ M (E w) e) : u = w := by
  obtain ⟨_, hA, _, hB2, hC⟩ := h
  have e1 := hU.1 _ _ (hA u hu).1 (hA w hw).1
  have c := hU.2 (E u) e (E w) s (hA u hu).1 he (hA w hw).1 h3 (by rw [hU.1 _ _ he (hA w hw).1]; exact k3)
  have a2 : l u ≤ M (E u) (E w) := by
    refine Classical.byContradiction fun n => ?_
    have := (hC u h0 hu).2.2.2 _ (hF.2 (E u) (E w) (hA u hu).1 (hA w hw).1) (by omega)
    omega
  have b2 : l w ≤ M (E w) (E u) := by
    refine Classical.byContradiction fun n => ?_
    have := (hC w k0 hw).2.2.2 _ (hF.2 (E w) (E u) (hA w hw).1 (hA u hu).1) (by omega)
    omega
  refine hB2 u w hu hw ?_ a2
  refine Nat.le_antisymm ?_ ?_
  · refine Classical.byContradiction fun c1 => ?_
    have := (hC u h0 hu).2.2.2 (l w) (hF.1 (E w) (E u) _ (hA w hw).1 (hA u hu).1 (hA w hw).2.2 b2) (by omega)
    omega
  · refine Classical.byContradiction fun c1 => ?_
    have := (hC w k0 hw).2.2.2 (l u) (hF.1 (E u) (E w) _ (hA u hu).1 (hA w hw).1 (hA u hu).2.2 a2) (by omega)
    omega
def zt_up (f : Nat → Nat) (k x : Nat) : Nat → Nat := fun j => if j = k then x else f j
theorem zt_us (f : Nat → Nat) (k x : Nat) : zt_up f k x k = x := if_pos rfl
theorem zt_un (f : Nat → Nat) {k j : Nat} (x : Nat) (h : j ≠ k) : zt_up f k x j = f j := if_neg h
/-- the strings with one more: the first m letters of the point q -/
def zt_S1 (M : Nat → Nat → Nat) (S : Nat → Nat → Prop) (q m : Nat) (e s : Nat) : Prop := S e s ∨ (s = m ∧ m ≤ M e q)
theorem zt_F_1 {M : Nat → Nat → Nat} {P : Nat → Prop} {S : Nat → Nat → Prop} {q m : Nat} (hU : zt_U M P) (hF : zt_F M P S) (hq : P q) : zt_F M P (zt_S1 M S q m) := by
  refine ⟨fun e e' s he he' hs hle => ?_, fun e e' he he' => Or.inl (hF.2 e e' he he')⟩
  rcases hs with a | ⟨a, b⟩
  · exact Or.inl (hF.1 e e' s he he' a hle)
  · subst a
    exact Or.inr ⟨rfl, hU.2 e' e q _ he' he hq (by rw [hU.1 e' e he' he]; exact hle) b⟩
/-- the edge above x is cut at m by a new node y -/
theorem zt_B_mid {M : Nat → Nat → Nat} {P : Nat → Prop} {S : Nat → Nat → Prop} {V : Nat → Prop} {E l p : Nat → Nat} (hU : zt_U M P) (hF : zt_F M P S) (h : zt_B M P S V E l p) {x y m : Nat} (x0 : 0 < x) (hx : V x) (y0 : 0 < y) (hy : ¬ V y) (h1 : l (p x) < m) (h2 : m < l x) : zt_B M P (zt_S1 M S (E x) m) (fun v => V v ∨ v = y) (zt_up E y (E x)) (zt_up l y m) (zt_up (zt_up p y (p x)) x y) := by
  obtain ⟨h0, hA, hB, hB2, hC⟩ := h
  have ny : ∀ v, V v → v ≠ y := fun v hv e => hy (e ▸ hv)
  have ol : ∀ v, V v → zt_up l y m v = l v := fun v hv => zt_un l m (ny v hv)
  have oE : ∀ v, V v → zt_up E y (E x) v = E v := fun v hv => zt_un E _ (ny v hv)
  have nl : zt_up l y m y = m := zt_us _ _ _
  have nE : zt_up E y (E x) y = E x := zt_us _ _ _
  have hAx := hA x hx
  have cx := hC x x0 hx
  have key : ∀ v, V v → l v = m → m ≤ M (E v) (E x) → False := by
    intro v hv c1 c2
    have a := hA v hv
    have b := hF.1 (E v) (E x) (l v) a.1 hAx.1 a.2.2 (by omega)
    have := cx.2.2.2 (l v) b (by omega)
    omega
  refine ⟨⟨Or.inl h0.1, ?_⟩, fun v hv => ?_, fun e s he hs => ?_, fun v w hv hw e1 e2 => ?_, fun v v0 hv => ?_⟩
  · rw [ol 0 h0.1]; exact h0.2
  · rcases hv with hv | hv
    · rw [ol v hv, oE v hv]
      have a := hA v hv
      exact ⟨a.1, a.2.1, Or.inl a.2.2⟩
    · subst hv
      rw [nl, nE]
      exact ⟨hAx.1, by omega, Or.inr ⟨rfl, by omega⟩⟩
  · rcases hs with a | ⟨a, b⟩
    · obtain ⟨v, c1, c2, c3⟩ := hB e s he a
      exact ⟨v, Or.inl c1, by rw [ol v c1]; exact c2, by rw [oE v c1]; exact c3⟩
    · subst a
      exact ⟨y, Or.inr rfl, nl, by rw [nE, hU.1 _ _ hAx.1 he]; exact b⟩
  · rcases hv with hv | hv
    · rcases hw with hw | hw
      · rw [ol v hv, ol w hw] at e1
        rw [ol v hv, oE v hv, oE w hw] at e2
        exact hB2 v w hv hw e1 e2
      · exfalso
        subst hw
        rw [nl, ol v hv] at e1
        rw [nE, ol v hv, oE v hv] at e2
        exact key v hv e1 (by omega)
    · rcases hw with hw | hw
      · exfalso
        subst hv
        rw [nl, ol w hw] at e1
        rw [nl, nE, oE w hw] at e2
        exact key w hw e1.symm (by rw [hU.1 _ _ (hA w hw).1 hAx.1]; exact e2)
      · exact hv.trans hw.symm
  · rcases hv with hv | hv
    · by_cases d : v = x
      · subst d
        rw [zt_us, nl, nE, ol v hv, oE v hv]
        refine ⟨Or.inr rfl, h2, by omega, fun s hs hlt => ?_⟩
        rcases hs with a | ⟨a, _⟩
        · have := cx.2.2.2 s a hlt
          omega
        · omega
      · have cv := hC v v0 hv
        have e1 : zt_up (zt_up p y (p x)) x y v = p v := by rw [zt_un _ _ d, zt_un _ _ (ny v hv)]
        rw [e1, ol _ cv.1, oE _ cv.1, ol v hv, oE v hv]
        refine ⟨Or.inl cv.1, cv.2.1, cv.2.2.1, fun s hs hlt => ?_⟩
        rcases hs with a | ⟨a, b⟩
        · exact cv.2.2.2 s a hlt
        · refine Classical.byContradiction fun hn => ?_
          have hAv := hA v hv
          refine d (zt_B_one hU hF ⟨h0, hA, hB, hB2, hC⟩ v0 hv x0 hx (e := E x) (s := s) hAx.1 (by omega) (by omega) (by omega) (by omega) (by omega) (by omega))
    · subst hv
      have e1 : zt_up (zt_up p v (p x)) x v v = p x := by rw [zt_un _ _ (fun e => ny x hx e.symm), zt_us]
      rw [e1, ol _ cx.1, oE _ cx.1, nl, nE]
      refine ⟨Or.inl cx.1, h1, cx.2.2.1, fun s hs hlt => ?_⟩
      rcases hs with a | ⟨a, _⟩
      · exact cx.2.2.2 s a (by omega)
      · omega
/-- a new point q hangs by a new leaf z under w, where it leaves the others -/
theorem zt_B_leaf {M : Nat → Nat → Nat} {P P' : Nat → Prop} {S S' : Nat → Nat → Prop} {V : Nat → Prop} {E l p : Nat → Nat} {q w z : Nat} (hU : zt_U M P') (hP : ∀ e, P' e ↔ P e ∨ e = q) (h : zt_B M P S V E l p) (hw : V w) (hz : ¬ V z) (h1 : l w ≤ M (E w) q) (h2 : ∀ e, P e → M q e ≤ l w) (h3 : l w < M q q) (hS : ∀ e s, P e → (S' e s ↔ S e s)) (hS' : ∀ s, S' q s ↔ s = M q q ∨ (s ≤ l w ∧ S (E w) s)) : zt_B M P' S' (fun v => V v ∨ v = z) (zt_up E z q) (zt_up l z (M q q)) (zt_up p z w) := by
  obtain ⟨h0, hA, hB, hB2, hC⟩ := h
  have pq : P' q := (hP q).2 (Or.inr rfl)
  have pp : ∀ e, P e → P' e := fun e he => (hP e).2 (Or.inl he)
  have nz : ∀ v, V v → v ≠ z := fun v hv e => hz (e ▸ hv)
  have ol : ∀ v, V v → zt_up l z (M q q) v = l v := fun v hv => zt_un l _ (nz v hv)
  have oE : ∀ v, V v → zt_up E z q v = E v := fun v hv => zt_un E _ (nz v hv)
  have op : ∀ v, V v → zt_up p z w v = p v := fun v hv => zt_un p _ (nz v hv)
  have nl : zt_up l z (M q q) z = M q q := zt_us _ _ _
  have nE : zt_up E z q z = q := zt_us _ _ _
  have np : zt_up p z w z = w := zt_us _ _ _
  refine ⟨⟨Or.inl h0.1, ?_⟩, fun v hv => ?_, fun e s he hs => ?_, fun v u hv hu e1 e2 => ?_, fun v v0 hv => ?_⟩
  · rw [ol 0 h0.1]; exact h0.2
  · rcases hv with hv | hv
    · rw [ol v hv, oE v hv]
      have a := hA v hv
      exact ⟨pp _ a.1, a.2.1, (hS _ _ a.1).2 a.2.2⟩
    · subst hv
      rw [nl, nE]
      exact ⟨pq, Nat.le_refl _, (hS' _).2 (Or.inl rfl)⟩
  · have old : P e → ∃ v, (V v ∨ v = z) ∧ zt_up l z (M q q) v = s ∧ s ≤ M (zt_up E z q v) e := by
      intro he
      obtain ⟨v, c1, c2, c3⟩ := hB e s he ((hS e s he).1 hs)
      exact ⟨v, Or.inl c1, by rw [ol v c1]; exact c2, by rw [oE v c1]; exact c3⟩
    rcases (hP e).1 he with a | a
    · exact old a
    · subst a
      rcases (hS' s).1 hs with b | ⟨b1, b2⟩
      · exact ⟨z, Or.inr rfl, by rw [nl]; exact b.symm, by rw [nE]; omega⟩
      · obtain ⟨v, c1, c2, c3⟩ := hB (E w) s (hA w hw).1 b2
        refine ⟨v, Or.inl c1, by rw [ol v c1]; exact c2, ?_⟩
        rw [oE v c1]
        exact hU.2 _ (E w) _ _ (pp _ (hA v c1).1) (pp _ (hA w hw).1) pq c3 (by omega)
  · rcases hv with hv | hv
    · rcases hu with hu | hu
      · rw [ol v hv, ol u hu] at e1
        rw [ol v hv, oE v hv, oE u hu] at e2
        exact hB2 v u hv hu e1 e2
      · exfalso
        subst hu
        rw [nl, ol v hv] at e1
        rw [nE, ol v hv, oE v hv, hU.1 _ _ (pp _ (hA v hv).1) pq] at e2
        have := h2 _ (hA v hv).1
        omega
    · rcases hu with hu | hu
      · exfalso
        subst hv
        rw [nl, nE, oE u hu] at e2
        have := h2 _ (hA u hu).1
        omega
      · exact hv.trans hu.symm
  · rcases hv with hv | hv
    · have cv := hC v v0 hv
      rw [op v hv, ol _ cv.1, oE _ cv.1, ol v hv, oE v hv]
      exact ⟨Or.inl cv.1, cv.2.1, cv.2.2.1, fun s hs => cv.2.2.2 s ((hS _ _ (hA v hv).1).1 hs)⟩
    · subst hv
      rw [np, nl, nE, ol w hw, oE w hw]
      refine ⟨Or.inl hw, h3, h1, fun s hs hlt => ?_⟩
      rcases (hS' s).1 hs with b | b
      · omega
      · exact b.1
/-- the same without a leaf: the point q ends at the node w -/
theorem zt_B_end {M : Nat → Nat → Nat} {P P' : Nat → Prop} {S S' : Nat → Nat → Prop} {V : Nat → Prop} {E l p : Nat → Nat} {q w : Nat} (hU : zt_U M P') (hP : ∀ e, P' e ↔ P e ∨ e = q) (h : zt_B M P S V E l p) (hw : V w) (h1 : l w ≤ M (E w) q) (hS : ∀ e s, P e → (S' e s ↔ S e s)) (hS' : ∀ s, S' q s ↔ s ≤ l w ∧ S (E w) s) : zt_B M P' S' V E l p := by
  obtain ⟨h0, hA, hB, hB2, hC⟩ := h
  have pq : P' q := (hP q).2 (Or.inr rfl)
  have pp : ∀ e, P e → P' e := fun e he => (hP e).2 (Or.inl he)
  refine ⟨h0, fun v hv => ?_, fun e s he hs => ?_, hB2, fun v v0 hv => ?_⟩
  · have a := hA v hv
    exact ⟨pp _ a.1, a.2.1, (hS _ _ a.1).2 a.2.2⟩
  · rcases (hP e).1 he with a | a
    · exact hB e s a ((hS e s a).1 hs)
    · subst a
      have b := (hS' s).1 hs
      obtain ⟨v, c1, c2, c3⟩ := hB (E w) s (hA w hw).1 b.2
      exact ⟨v, c1, c2, hU.2 _ (E w) _ _ (pp _ (hA v c1).1) (pp _ (hA w hw).1) pq c3 (by omega)⟩
  · have cv := hC v v0 hv
    exact ⟨cv.1, cv.2.1, cv.2.2.1, fun s hs => cv.2.2.2 s ((hS _ _ (hA v hv).1).1 hs)⟩
/-- the strings of the points with q -/
theorem zt_S_old {M : Nat → Nat → Nat} {P P' : Nat → Prop} {q r m : Nat} (hU : zt_U M P') (hP : ∀ e, P' e ↔ P e ∨ e = q) (hr : P r) (hm : M q r = m) (hmax : ∀ e, P e → M q e ≤ m) {e : Nat} (s : Nat) (he : P e) : zt_S M P' e s ↔ zt_S1 M (zt_S M P) r m e s := by
  have pq : P' q := (hP q).2 (Or.inr rfl)
  have pp : ∀ e, P e → P' e := fun e he => (hP e).2 (Or.inl he)
  have sy := hU.1 e q (pp e he) pq
  constructor
  · rintro ⟨x, hx, e1⟩
    rcases (hP x).1 hx with a | a
    · exact Or.inl ⟨x, a, e1⟩
    · subst a
      have b := hmax e he
      by_cases c : s < m
      · exact Or.inl ⟨r, hr, zt_U_eq hU (pp e he) pq (pp r hr) e1 (by omega)⟩
      · refine Or.inr ⟨by omega, hU.2 e x r _ (pp e he) pq (pp r hr) (by omega) (by omega)⟩
  · rintro (⟨x, hx, e1⟩ | ⟨a, b⟩)
    · exact ⟨x, pp x hx, e1⟩
    · refine ⟨q, pq, ?_⟩
      have c := hmax e he
      have d := hU.2 e r q m (pp e he) (pp r hr) pq b (by rw [hU.1 _ _ (pp r hr) pq]; omega)
      omega
theorem zt_S_new {M : Nat → Nat → Nat} {P P' : Nat → Prop} {q r m w : Nat} (hU : zt_U M P') (hP : ∀ e, P' e ↔ P e ∨ e = q) (hr : P r) (hm : M q r = m) (hmax : ∀ e, P e → M q e ≤ m) (hw : P w) (hwm : m ≤ M w q) (s : Nat) : zt_S M P' q s ↔ s = M q q ∨ (s ≤ m ∧ zt_S1 M (zt_S M P) r m w s) := by
  have pq : P' q := (hP q).2 (Or.inr rfl)
  have pp : ∀ e, P e → P' e := fun e he => (hP e).2 (Or.inl he)
  have wq := hU.1 w q (pp w hw) pq
  have wr : m ≤ M w r := hU.2 w q r m (pp w hw) pq (pp r hr) hwm (by omega)
  constructor
  · rintro ⟨x, hx, e1⟩
    rcases (hP x).1 hx with a | a
    · refine Or.inr ⟨by have := hmax x a; omega, ?_⟩
      by_cases c : s < m
      · refine Or.inl ⟨x, a, ?_⟩
        rw [hU.1 w x (pp w hw) (pp x a)]
        exact zt_U_eq hU (pp x a) pq (pp w hw) (by rw [hU.1 x q (pp x a) pq]; exact e1) (by omega)
      · exact Or.inr ⟨by have := hmax x a; omega, wr⟩
    · subst a; exact Or.inl e1.symm
  · rintro (a | ⟨a, ⟨x, hx, e1⟩ | ⟨b, _⟩⟩)
    · exact ⟨q, pq, a.symm⟩
    · by_cases c : s < m
      · refine ⟨x, pp x hx, ?_⟩
        rw [hU.1 q x pq (pp x hx)]
        exact zt_U_eq hU (pp x hx) (pp w hw) pq (by rw [hU.1 x w (pp x hx) (pp w hw)]; exact e1) (by omega)
      · exact ⟨r, pp r hr, by omega⟩
    · exact ⟨r, pp r hr, by omega⟩
/-- nothing new where a node stands already -/
theorem zt_S1_old {M : Nat → Nat → Nat} {P : Nat → Prop} {S : Nat → Nat → Prop} {V : Nat → Prop} {E l p : Nat → Nat} {w r m : Nat} (hU : zt_U M P) (hF : zt_F M P S) (h : zt_B M P S V E l p) (hw : V w) (hl : l w = m) (hr : P r) (h1 : m ≤ M (E w) r) (e s : Nat) (he : P e) : S e s ↔ zt_S1 M S r m e s := by
  refine ⟨Or.inl, fun a => ?_⟩
  rcases a with a | ⟨a, b⟩
  · exact a
  · subst a
    have c := h.2.1 w hw
    refine hF.1 (E w) e _ c.1 he (hl ▸ c.2.2) ?_
    exact hU.2 _ r _ _ c.1 hr he h1 (by rw [hU.1 _ _ hr he]; exact b)
