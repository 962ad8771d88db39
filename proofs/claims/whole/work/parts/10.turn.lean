/-! the branches after a new letter -/
/-- v stands on the way of the beginning k -/
def zt_On (t : Nat → Nat) (L k : Nat) (E l : Nat → Nat) (v : Nat) : Prop := l v ≤ zt_V t L (E v) k
section
variable {t : Nat → Nat} {L k n : Nat} {E l p b b' : Nat → Nat} {e0 m : Nat}
theorem zt_dl_leaf {w : Nat} (hk : k < L) (hB : zt_BV t L k n E l p) (hD : zt_dl t L k n E l p b) (hw : w < n) (hl : l w = m)
    (hr : m = 0 ∨ (e0 < k ∧ t e0 = t k ∧ m = zt_V t L k e0 + 1))
    (b0 : ∀ c, c < 4 → b' (n * 4 + c) = 0)
    (b1 : ∀ u, u < n → zt_On t L k E l u → m ≤ l u → b' (u * 4 + t k) = n)
    (b2 : ∀ u c, u < n → c < 4 → ¬ (c = t k ∧ zt_On t L k E l u ∧ m ≤ l u) → b' (u * 4 + c) = b (u * 4 + c))
    (ht : ∀ i, t i < 4) :
    zt_dl t L (k + 1) (n + 1) (zt_up E n (k + 1)) (zt_up l n (k + 1)) (zt_up p n w) b' := by
  have hA := hB.2.1
  have hC := hB.2.2.2.2
  have ol : ∀ v, v < n → zt_up l n (k + 1) v = l v := fun v hv => zt_un l _ (by omega)
  have oE : ∀ v, v < n → zt_up E n (k + 1) v = E v := fun v hv => zt_un E _ (by omega)
  have op : ∀ v, v < n → zt_up p n w v = p v := fun v hv => zt_un p _ (by omega)
  have nl : zt_up l n (k + 1) n = k + 1 := zt_us _ _ _
  have nE : zt_up E n (k + 1) n = k + 1 := zt_us _ _ _
  have np : zt_up p n w n = w := zt_us _ _ _
  have tr : ∀ x e s, zt_nd t L n E l p x e s → zt_nd t L (n + 1) (zt_up E n (k + 1)) (zt_up l n (k + 1)) (zt_up p n w) x e s := by
    rintro x e s ⟨a1, a2, a3, a4, a5⟩
    have := (hC x a1 a2).1
    exact ⟨a1, by omega, by rw [op x a2, ol _ this]; exact a3, by rw [ol x a2]; exact a4, by rw [oE x a2]; exact a5⟩
  constructor
  · intro v e hv he hle
    by_cases ev : v = n
    · subst ev
      rw [nl, nE] at hle
      have := zt_V_r (t := t) (L := L) (e := k + 1) (f := e) (by omega) (by omega)
      omega
    · have hv' : v < n := by omega
      have vL : E v ≤ k := (hA v hv').1
      rw [ol v hv', oE v hv'] at hle
      rw [ol v hv']
      by_cases ca : t e = t k ∧ zt_On t L k E l v ∧ m ≤ l v
      · obtain ⟨c1, c2, c3⟩ := ca
        rw [c1, b1 v hv' c2 c3]
        have lk : l v ≤ k := Nat.le_trans c2 (zt_V_r (by omega) (by omega))
        refine ⟨by have := hB.1.1; omega, by omega, by rw [np, ol w hw, hl]; omega, by rw [nl]; omega, ?_⟩
        rw [nE]
        refine (zt_V_suc hk (by omega)).2 ⟨c1.symm, ?_⟩
        exact zt_V_u (by rw [zt_V_c]; exact c2) hle
      · rw [b2 v (t e) hv' (ht e) ca]
        by_cases ek : e = k
        · subst ek
          have on : zt_On t L e E l v := hle
          have lt : l v < m := by
            refine Classical.byContradiction fun cn => ca ⟨rfl, on, by omega⟩
          rcases hr with z | ⟨q1, q2, q3⟩
          · omega
          · have h1 : l v ≤ zt_V t L (E v) e0 := zt_V_u on (by omega)
            have h2 := hD.1 v e0 hv' q1 h1
            rw [q2] at h2
            refine tr _ _ _ (zt_nd_e h2 ?_)
            refine (zt_V_suc (by omega) hk).2 ⟨q2, ?_⟩
            rw [zt_V_c]; omega
        · exact tr _ _ _ (hD.1 v e hv' (by omega) hle)
  · intro v c hv hc hb
    by_cases ev : v = n
    · subst ev; exact absurd (b0 c hc) hb
    · have hv' : v < n := by omega
      rw [ol v hv', oE v hv']
      by_cases ca : c = t k ∧ zt_On t L k E l v ∧ m ≤ l v
      · exact ⟨k, by omega, ca.1.symm, ca.2.1⟩
      · rw [b2 v c hv' hc ca] at hb
        obtain ⟨e, h1, h2, h3⟩ := hD.2 v c hv' hc hb
        exact ⟨e, by omega, h2, h3⟩
theorem zt_dl_twin {x : Nat} (hk : k < L) (hB : zt_BV t L k n E l p) (hD : zt_dl t L k n E l p b)
    (hB' : zt_BV t L (k + 1) (n + 2) (zt_up (zt_up E (n + 1) (E x)) n (k + 1)) (zt_up (zt_up l (n + 1) m) n (k + 1)) (zt_up (zt_up (zt_up p (n + 1) (p x)) x (n + 1)) n (n + 1)))
    (x0 : 0 < x) (hx : x < n) (h1 : l (p x) < m) (h2 : m < l x)
    (q1 : e0 < k) (q2 : t e0 = t k) (q3 : m = zt_V t L k e0 + 1) (hxe : m ≤ zt_V t L (E x) (e0 + 1))
    (b0 : ∀ c, c < 4 → b' (n * 4 + c) = 0)
    (b1 : ∀ u, u < n → zt_On t L k E l u → m ≤ l u → b' (u * 4 + t k) = n)
    (bt : ∀ u, u < n → zt_On t L k E l u → l u < m → b (u * 4 + t k) = x → b' (u * 4 + t k) = n + 1)
    (b2 : ∀ u c, u < n → c < 4 → ¬ (c = t k ∧ zt_On t L k E l u ∧ (m ≤ l u ∨ b (u * 4 + c) = x)) → b' (u * 4 + c) = b (u * 4 + c))
    (b3 : ∀ c, c < 4 → b' ((n + 1) * 4 + c) = b' (x * 4 + c))
    (ht : ∀ i, t i < 4) :
    zt_dl t L (k + 1) (n + 2) (zt_up (zt_up E (n + 1) (E x)) n (k + 1)) (zt_up (zt_up l (n + 1) m) n (k + 1)) (zt_up (zt_up (zt_up p (n + 1) (p x)) x (n + 1)) n (n + 1)) b' := by
  have hU := zt_U_Vk t (L := L) (k := k) (by omega)
  have hF := zt_F_S hU
  have hU' := zt_U_Vk t (L := L) (k := k + 1) (by omega)
  have hF' := zt_F_S hU'
  have hA := hB.2.1
  have hC := hB.2.2.2.2
  have same := fun e s he ha hb => zt_B_same (u := x) (e := e) (s := s) hF hB x0 hx he ha hb
  generalize hE' : zt_up (zt_up E (n + 1) (E x)) n (k + 1) = E' at *
  generalize hl' : zt_up (zt_up l (n + 1) m) n (k + 1) = l' at *
  generalize hp' : zt_up (zt_up (zt_up p (n + 1) (p x)) x (n + 1)) n (n + 1) = p' at *
  have ol : ∀ v, v < n → l' v = l v := fun v hv => by rw [← hl', zt_un _ _ (by omega), zt_un _ _ (by omega)]
  have oE : ∀ v, v < n → E' v = E v := fun v hv => by rw [← hE', zt_un _ _ (by omega), zt_un _ _ (by omega)]
  have op : ∀ v, v < n → v ≠ x → p' v = p v := fun v hv hne => by rw [← hp', zt_un _ _ (by omega), zt_un _ _ hne, zt_un _ _ (by omega)]
  have px : p' x = n + 1 := by rw [← hp', zt_un _ _ (by omega), zt_us]
  have pn : p' n = n + 1 := by rw [← hp', zt_us]
  have pt : p' (n + 1) = p x := by rw [← hp', zt_un _ _ (by omega), zt_un _ _ (by omega), zt_us]
  have nl : l' n = k + 1 := by rw [← hl', zt_us]
  have nE : E' n = k + 1 := by rw [← hE', zt_us]
  have tl : l' (n + 1) = m := by rw [← hl', zt_un _ _ (by omega), zt_us]
  have tE : E' (n + 1) = E x := by rw [← hE', zt_un _ _ (by omega), zt_us]
  have cx := hC x x0 hx
  -- old states in the new tree
  have tr : ∀ y e s, zt_nd t L n E l p y e s → (y ≠ x ∨ m < s) → zt_nd t L (n + 2) E' l' p' y e s := by
    rintro y e s ⟨a1, a2, a3, a4, a5⟩ hne
    have := (hC y a1 a2).1
    by_cases yx : y = x
    · subst yx
      exact ⟨a1, by omega, by rw [px, tl]; omega, by rw [ol y a2]; exact a4, by rw [oE y a2]; exact a5⟩
    · exact ⟨a1, by omega, by rw [op y a2 yx, ol _ this]; exact a3, by rw [ol y a2]; exact a4, by rw [oE y a2]; exact a5⟩
  have t0 : ∀ v, v < n → zt_On t L k E l v → l v < m → l v ≤ zt_V t L (E v) e0 := fun v hv on lt => zt_V_u on (by omega)
  have ek1 : m ≤ zt_V t L (e0 + 1) (k + 1) := by
    have : (m - 1) + 1 ≤ zt_V t L (e0 + 1) (k + 1) := (zt_V_suc (by omega) hk).2 ⟨q2, by rw [zt_V_c]; omega⟩
    omega
  have d1 : ∀ v e, v < n → e < k + 1 → l v ≤ zt_V t L (E v) e → zt_nd t L (n + 2) E' l' p' (b' (v * 4 + t e)) (e + 1) (l v + 1) := by
    intro v e hv he hle
    have vL : E v ≤ k := (hA v hv).1
    by_cases ca : t e = t k ∧ zt_On t L k E l v ∧ m ≤ l v
    · obtain ⟨c1, c2, c3⟩ := ca
      rw [c1, b1 v hv c2 c3]
      have lk : l v ≤ k := Nat.le_trans c2 (zt_V_r (by omega) (by omega))
      refine ⟨by omega, by omega, by rw [pn, tl]; omega, by rw [nl]; omega, ?_⟩
      rw [nE]
      refine (zt_V_suc hk (by omega)).2 ⟨c1.symm, ?_⟩
      exact zt_V_u (by rw [zt_V_c]; exact c2) hle
    · by_cases cb : t e = t k ∧ zt_On t L k E l v ∧ b (v * 4 + t k) = x
      · obtain ⟨c1, c2, c3⟩ := cb
        have lt : l v < m := Classical.byContradiction fun cn => ca ⟨c1, c2, by omega⟩
        rw [c1, bt v hv c2 lt c3]
        have f1 := t0 v hv c2 lt
        have f2 := hD.1 v e0 hv q1 f1
        rw [q2, c3] at f2
        refine ⟨by omega, by omega, ?_, by rw [tl]; omega, ?_⟩
        · rw [pt, ol _ cx.1]; exact f2.2.2.1
        · rw [tE]
          refine zt_V_u f2.2.2.2.2 ((zt_V_suc (by omega) (by omega)).2 ⟨by omega, ?_⟩)
          exact zt_V_u (by rw [zt_V_c]; exact f1) hle
      · have eb : b' (v * 4 + t e) = b (v * 4 + t e) := by
          refine b2 v (t e) hv (ht e) fun cn => ?_
          rcases cn.2.2 with c | c
          · exact ca ⟨cn.1, cn.2.1, c⟩
          · rw [cn.1] at c
            exact cb ⟨cn.1, cn.2.1, c⟩
        rw [eb]
        by_cases ek : e = k
        · subst ek
          have on : zt_On t L e E l v := hle
          have lt : l v < m := Classical.byContradiction fun cn => ca ⟨rfl, on, by omega⟩
          have f2 := hD.1 v e0 hv q1 (t0 v hv on lt)
          rw [q2] at f2
          refine tr _ _ _ (zt_nd_e f2 (by omega)) (Or.inl fun c => cb ⟨rfl, on, c⟩)
        · have f2 := hD.1 v e hv (by omega) hle
          refine tr _ _ _ f2 ?_
          by_cases yx : b (v * 4 + t e) = x
          · right
            refine Classical.byContradiction fun cn => ?_
            rw [yx] at f2
            have g1 : l v + 1 ≤ zt_V t L (e + 1) (e0 + 1) := zt_V_u (by rw [zt_V_c]; exact f2.2.2.2.2) (by omega)
            have g2 := (zt_V_suc (by omega) (by omega)).1 g1
            have g3 : l v ≤ zt_V t L e0 k := by rw [zt_V_c]; omega
            have on : zt_On t L k E l v := zt_V_u hle (zt_V_u g2.2 g3)
            have te : t e = t k := g2.1.trans q2
            rw [te] at yx
            exact cb ⟨te, on, yx⟩
          · exact Or.inl yx
  have d2 : ∀ v c, v < n → c < 4 → b' (v * 4 + c) ≠ 0 → ∃ e, e < k + 1 ∧ t e = c ∧ l v ≤ zt_V t L (E v) e := by
    intro v c hv hc hb
    by_cases ca : c = t k ∧ zt_On t L k E l v ∧ (m ≤ l v ∨ b (v * 4 + c) = x)
    · exact ⟨k, by omega, ca.1.symm, ca.2.1⟩
    · rw [b2 v c hv hc ca] at hb
      obtain ⟨e, a1, a2, a3⟩ := hD.2 v c hv hc hb
      exact ⟨e, by omega, a2, a3⟩
  constructor
  · intro v e hv he hle
    by_cases ev : v = n
    · subst ev
      rw [nl, nE] at hle
      have := zt_V_r (t := t) (L := L) (e := k + 1) (f := e) (by omega) (by omega)
      omega
    · by_cases et : v = n + 1
      · subst et
        rw [tl, tE] at hle
        rw [tl, b3 _ (ht e)]
        have sx := same e m (by omega) h1 hle
        obtain ⟨y0, y1, y2, y3, y4⟩ := d1 x e hx he sx
        generalize b' (x * 4 + t e) = y at *
        refine ⟨y0, y1, ?_, by omega, by omega⟩
        refine Classical.byContradiction fun cn => ?_
        have cy := hB'.2.2.2.2 y y0 y1
        have sp := hB'.2.1 _ cy.1
        have yE := (hB'.2.1 y y1).1
        have s1 : zt_S (zt_V t L) (fun e => e ≤ k + 1) (e + 1) (l' (p' y)) := by
          refine hF'.1 _ (e + 1) _ sp.1 (by omega) sp.2.2 ?_
          exact zt_V_u cy.2.2.1 (by omega)
        obtain ⟨z, hz, ez⟩ := s1
        have hz' : z ≤ k + 1 := hz
        have zr := zt_V_r (t := t) (L := L) (e := e + 1) (f := z) (by omega) (by omega)
        obtain ⟨z', rfl⟩ : ∃ z', z = z' + 1 := ⟨z - 1, by omega⟩
        have z1 := (zt_V_suc (t := t) (L := L) (e := e) (f := z') (s := l' (p' y) - 1) (by omega) (by omega)).1 (by omega)
        have z2 : zt_V t L e z' = l' (p' y) - 1 := by
          refine Nat.le_antisymm ?_ z1.2
          refine Classical.byContradiction fun c2 => ?_
          have := (zt_V_suc (t := t) (L := L) (e := e) (f := z') (s := l' (p' y)) (by omega) (by omega)).2 ⟨z1.1, by omega⟩
          omega
        have s2 : zt_S (zt_V t L) (fun e => e ≤ k) (E x) (l' (p' y) - 1) := by
          refine hF.1 e (E x) _ (by omega) (hA x hx).1 ⟨z', by omega, z2⟩ ?_
          rw [zt_V_c]; omega
        have := cx.2.2.2 _ s2 (by omega)
        omega
      · have hv' : v < n := by omega
        rw [ol v hv', oE v hv'] at hle
        rw [ol v hv']
        exact d1 v e hv' he hle
  · intro v c hv hc hb
    by_cases ev : v = n
    · subst ev; exact absurd (b0 c hc) hb
    · by_cases et : v = n + 1
      · subst et
        rw [b3 c hc] at hb
        obtain ⟨e, a1, a2, a3⟩ := d2 x c hx hc hb
        rw [tl, tE]
        exact ⟨e, a1, a2, by omega⟩
      · have hv' : v < n := by omega
        rw [ol v hv', oE v hv']
        exact d2 v c hv' hc hb
end
