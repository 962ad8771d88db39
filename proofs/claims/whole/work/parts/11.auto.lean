/-! the automaton with k letters read; en v = i + 1 where v is the state of the first i + 1 letters, 0 else -/
def zt_en (t : Nat → Nat) (L k n : Nat) (E l en : Nat → Nat) : Prop := ∀ v i, v < n → (en v = i + 1 ↔ (i < k ∧ l v = i + 1 ∧ i + 1 ≤ zt_V t L (E v) (i + 1)))
def zt_sv (t : Nat → Nat) (L k : Nat) : Nat := zt_s (fun e => e + 1 - zt_m (fun f => zt_V t L (e + 1) f) (e + 1)) k
def zt_M (t : Nat → Nat) (L k n : Nat) (E l p b en : Nat → Nat) (la : Nat) : Prop :=
  zt_BV t L k n E l p ∧ zt_dl t L k n E l p b ∧ zt_en t L k n E l en ∧ zt_s (fun v => l v - l (p v)) n = zt_sv t L k ∧ (la < n ∧ l la = k ∧ E la = k) ∧ k + 1 ≤ n ∧ n ≤ 2 * k + 1
section
variable {t : Nat → Nat} {L k n : Nat} {E l p b en b' en' : Nat → Nat} {la : Nat}
theorem zt_sv_1 {r m : Nat} (hk : k < L) (hr : r ≤ k) (hm : zt_V t L (k + 1) r = m) (hmax : ∀ e, e ≤ k → zt_V t L (k + 1) e ≤ m) : zt_sv t L (k + 1) = zt_sv t L k + (k + 1 - m) := by
  unfold zt_sv
  rw [zt_s1]
  have : zt_m (fun f => zt_V t L (k + 1) f) (k + 1) = m := by
    refine Nat.le_antisymm (zt_m_le fun j hj => hmax j (by omega)) ?_
    have := zt_m_ge (f := fun f => zt_V t L (k + 1) f) (n := k + 1) (i := r) (by omega)
    rw [← hm]; exact this
  rw [this]
theorem zt_M_leaf {r m w : Nat} (hk : k < L) (h : zt_M t L k n E l p b en la) (hr : r ≤ k) (hm : zt_V t L (k + 1) r = m) (hmax : ∀ e, e ≤ k → zt_V t L (k + 1) e ≤ m) (hw : w < n) (hl : l w = m) (hM : m ≤ zt_V t L (E w) (k + 1))
    (hr0 : m = 0 ∨ ∃ e0, e0 < k ∧ t e0 = t k ∧ m = zt_V t L k e0 + 1)
    (b0 : ∀ c, c < 4 → b' (n * 4 + c) = 0)
    (b1 : ∀ u, u < n → zt_On t L k E l u → m ≤ l u → b' (u * 4 + t k) = n)
    (b2 : ∀ u c, u < n → c < 4 → ¬ (c = t k ∧ zt_On t L k E l u ∧ m ≤ l u) → b' (u * 4 + c) = b (u * 4 + c))
    (ht : ∀ i, t i < 4) (n0 : en' n = k + 1) (n1 : ∀ u, u < n → en' u = en u) :
    zt_M t L (k + 1) (n + 1) (zt_up E n (k + 1)) (zt_up l n (k + 1)) (zt_up p n w) b' en' n := by
  obtain ⟨hB, hD, hN, hs, hla, hn1, hn2⟩ := h
  have hp : ∀ u, 0 < u → u < n → p u < n := fun u u0 hu => (hB.2.2.2.2 u u0 hu).1
  have kk : zt_V t L (k + 1) (k + 1) = k + 1 := zt_V_s (by omega)
  refine ⟨zt_BV_leaf hk hB hr hm hmax hw hl hM, ?_, fun u i hu => ?_, ?_, ⟨by omega, zt_us _ _ _, zt_us _ _ _⟩, by omega, by omega⟩
  · rcases hr0 with z | ⟨e0, q⟩
    · exact zt_dl_leaf (e0 := 0) hk hB hD hw hl (Or.inl z) b0 b1 b2 ht
    · exact zt_dl_leaf (e0 := e0) hk hB hD hw hl (Or.inr q) b0 b1 b2 ht
  · by_cases e : u = n
    · subst e
      rw [n0, zt_us, zt_us]
      refine ⟨fun h => ?_, fun ⟨i1, i2, i3⟩ => by omega⟩
      have : i = k := by omega
      subst this
      exact ⟨by omega, rfl, by rw [kk]; omega⟩
    · rw [n1 u (by omega), zt_un l _ e, zt_un E _ e, hN u i (by omega)]
      refine ⟨fun ⟨i1, i2, i3⟩ => ⟨by omega, i2, i3⟩, fun ⟨i1, i2, i3⟩ => ⟨?_, i2, i3⟩⟩
      refine Classical.byContradiction fun cn => ?_
      have pu : E u ≤ k := (hB.2.1 u (by omega)).1
      have := zt_V_l (t := t) (L := L) (e := E u) (f := i + 1) (by omega) (by omega)
      omega
  · rw [zt_sm_leaf hB.1.2 hp hw, hs, zt_sv_1 hk hr hm hmax, hl]
theorem zt_M_twin {x e0 m : Nat} (hk : k < L) (h : zt_M t L k n E l p b en la) (hmax : ∀ e, e ≤ k → zt_V t L (k + 1) e ≤ m)
    (x0 : 0 < x) (hx : x < n) (h1 : l (p x) < m) (h2 : m < l x)
    (q1 : e0 < k) (q2 : t e0 = t k) (q3 : m = zt_V t L k e0 + 1) (hxe : m ≤ zt_V t L (E x) (e0 + 1))
    (b0 : ∀ c, c < 4 → b' (n * 4 + c) = 0)
    (b1 : ∀ u, u < n → zt_On t L k E l u → m ≤ l u → b' (u * 4 + t k) = n)
    (bt : ∀ u, u < n → zt_On t L k E l u → l u < m → b (u * 4 + t k) = x → b' (u * 4 + t k) = n + 1)
    (b2 : ∀ u c, u < n → c < 4 → ¬ (c = t k ∧ zt_On t L k E l u ∧ (m ≤ l u ∨ b (u * 4 + c) = x)) → b' (u * 4 + c) = b (u * 4 + c))
    (b3 : ∀ c, c < 4 → b' ((n + 1) * 4 + c) = b' (x * 4 + c))
    (ht : ∀ i, t i < 4) (n0 : en' n = k + 1) (n2 : en' (n + 1) = 0) (n1 : ∀ u, u < n → en' u = en u) :
    zt_M t L (k + 1) (n + 2) (zt_up (zt_up E (n + 1) (E x)) n (k + 1)) (zt_up (zt_up l (n + 1) m) n (k + 1)) (zt_up (zt_up (zt_up p (n + 1) (p x)) x (n + 1)) n (n + 1)) b' en' n := by
  obtain ⟨hB, hD, hN, hs, hla, hn1, hn2⟩ := h
  have hU := zt_U_Vk t (L := L) (k := k) (by omega)
  have hF := zt_F_S hU
  have hp : ∀ u, 0 < u → u < n → p u < n := fun u u0 hu => (hB.2.2.2.2 u u0 hu).1
  have kk : zt_V t L (k + 1) (k + 1) = k + 1 := zt_V_s (by omega)
  have ek1 : zt_V t L (k + 1) (e0 + 1) = m := by
    refine Nat.le_antisymm (hmax _ (by omega)) ?_
    have : (m - 1) + 1 ≤ zt_V t L (k + 1) (e0 + 1) := (zt_V_suc hk (by omega)).2 ⟨q2.symm, by omega⟩
    omega
  have hB' := zt_BV_twin hk hB (r := e0 + 1) (by omega) ek1 hmax x0 hx h1 h2 hxe
  refine ⟨hB', zt_dl_twin hk hB hD hB' x0 hx h1 h2 q1 q2 q3 hxe b0 b1 bt b2 b3 ht, fun u i hu => ?_, ?_, ⟨by omega, zt_us _ _ _, zt_us _ _ _⟩, by omega, by omega⟩
  · by_cases e : u = n
    · subst e
      rw [n0, zt_us, zt_us]
      refine ⟨fun h => ?_, fun ⟨i1, i2, i3⟩ => by omega⟩
      have : i = k := by omega
      subst this
      exact ⟨by omega, rfl, by rw [kk]; omega⟩
    · by_cases e2 : u = n + 1
      · subst e2
        rw [n2, zt_un _ _ e, zt_un _ _ e, zt_us, zt_us]
        refine ⟨fun h => by omega, fun ⟨i1, i2, i3⟩ => ?_⟩
        exfalso
        have pxL : E x ≤ k := (hB.2.1 x hx).1
        have i4 := zt_V_l (t := t) (L := L) (e := E x) (f := i + 1) (by omega) (by omega)
        have f1 : zt_S (zt_V t L) (fun e => e ≤ k) (i + 1) (i + 1) := ⟨i + 1, by omega, zt_V_s (by omega)⟩
        have f2 := hF.1 (i + 1) (E x) _ (by omega) (hB.2.1 x hx).1 f1 (by rw [zt_V_c]; exact i3)
        have := (hB.2.2.2.2 x x0 hx).2.2.2 _ f2 (by omega)
        omega
      · rw [n1 u (by omega), zt_un _ _ e, zt_un _ _ e, zt_un _ _ e2, zt_un _ _ e2, hN u i (by omega)]
        refine ⟨fun ⟨i1, i2, i3⟩ => ⟨by omega, i2, i3⟩, fun ⟨i1, i2, i3⟩ => ⟨?_, i2, i3⟩⟩
        refine Classical.byContradiction fun cn => ?_
        have pu : E u ≤ k := (hB.2.1 u (by omega)).1
        have := zt_V_l (t := t) (L := L) (e := E u) (f := i + 1) (by omega) (by omega)
        omega
  · have px := hp x x0 hx
    rw [zt_sv_1 hk (r := e0 + 1) (by omega) ek1 hmax, ← hs]
    rw [zt_s1, zt_s1]
    have e1 : zt_up (zt_up (zt_up p (n + 1) (p x)) x (n + 1)) n (n + 1) n = n + 1 := zt_us _ _ _
    have e2 : zt_up (zt_up (zt_up p (n + 1) (p x)) x (n + 1)) n (n + 1) (n + 1) = p x := by rw [zt_un _ _ (by omega), zt_un _ _ (by omega), zt_us]
    have l1 : zt_up (zt_up l (n + 1) m) n (k + 1) n = k + 1 := zt_us _ _ _
    have l2 : zt_up (zt_up l (n + 1) m) n (k + 1) (n + 1) = m := by rw [zt_un _ _ (by omega), zt_us]
    have l3 : ∀ v, v < n → zt_up (zt_up l (n + 1) m) n (k + 1) v = l v := fun v hv => by rw [zt_un _ _ (by omega), zt_un _ _ (by omega)]
    have key := zt_s_d (f := fun v => l v - l (p v)) (f' := fun v => zt_up (zt_up l (n + 1) m) n (k + 1) v - zt_up (zt_up l (n + 1) m) n (k + 1) (zt_up (zt_up (zt_up p (n + 1) (p x)) x (n + 1)) n (n + 1) v)) (n := n) (x := x) (d := m - l (p x)) hx
      (fun v hv hne => by
        show zt_up (zt_up l (n + 1) m) n (k + 1) v - zt_up (zt_up l (n + 1) m) n (k + 1) (zt_up (zt_up (zt_up p (n + 1) (p x)) x (n + 1)) n (n + 1) v) = l v - l (p v)
        have e3 : zt_up (zt_up (zt_up p (n + 1) (p x)) x (n + 1)) n (n + 1) v = p v := by rw [zt_un _ _ (by omega), zt_un _ _ hne, zt_un _ _ (by omega)]
        rw [e3, l3 v hv]
        by_cases z : v = 0
        · subst z
          have := hB.1.2
          omega
        · rw [l3 _ (hp v (by omega) hv)])
      (by
        show zt_up (zt_up l (n + 1) m) n (k + 1) x - zt_up (zt_up l (n + 1) m) n (k + 1) (zt_up (zt_up (zt_up p (n + 1) (p x)) x (n + 1)) n (n + 1) x) + (m - l (p x)) = l x - l (p x)
        have e3 : zt_up (zt_up (zt_up p (n + 1) (p x)) x (n + 1)) n (n + 1) x = n + 1 := by rw [zt_un _ _ (by omega), zt_us]
        rw [e3, l2, l3 x hx]
        omega)
    show zt_s _ n + (zt_up (zt_up l (n + 1) m) n (k + 1) n - zt_up (zt_up l (n + 1) m) n (k + 1) (zt_up (zt_up (zt_up p (n + 1) (p x)) x (n + 1)) n (n + 1) n)) + (zt_up (zt_up l (n + 1) m) n (k + 1) (n + 1) - zt_up (zt_up l (n + 1) m) n (k + 1) (zt_up (zt_up (zt_up p (n + 1) (p x)) x (n + 1)) n (n + 1) (n + 1))) = _
    rw [e1, e2, l1, l2, l3 _ px, ← key]
    omega
end
theorem zt_M_0 {t : Nat → Nat} {L : Nat} {E l p b en : Nat → Nat} (hE : E 0 = 0) (hl : l 0 = 0) (hb : ∀ c, c < 4 → b (0 * 4 + c) = 0) (hn : en 0 = 0) : zt_M t L 0 1 E l p b en 0 := by
  have V0 : zt_V t L 0 0 = 0 := by
    have := zt_V_l (t := t) (L := L) (e := 0) (f := 0) (by omega) (by omega)
    omega
  refine ⟨⟨⟨by omega, hl⟩, fun v hv => ?_, fun e s he hs => ?_, fun v w hv hw _ _ => ?_, fun v v0 hv => ?_⟩, ⟨fun v e _ he _ => by omega, fun v c hv hc hne => ?_⟩, fun v i hv => ?_, ?_, ⟨by omega, hl, hE⟩, by omega, by omega⟩
  · have h1 : v < 1 := hv
    have e : v = 0 := by omega
    subst e
    rw [hE, hl]
    exact ⟨Nat.le_refl _, by omega, 0, Nat.le_refl _, V0⟩
  · obtain ⟨x, hx, e1⟩ := hs
    have h1 : e ≤ 0 := he
    have h2 : x ≤ 0 := hx
    have h3 : e = 0 := by omega
    have h4 : x = 0 := by omega
    subst h3; subst h4
    exact ⟨0, by show 0 < 1; omega, by omega, by omega⟩
  · have h1 : v < 1 := hv
    have h2 : w < 1 := hw
    omega
  · have h1 : v < 1 := hv
    omega
  · have e : v = 0 := by omega
    subst e
    exact absurd (hb c hc) hne
  · have e : v = 0 := by omega
    subst e
    rw [hn]
    exact ⟨fun h => by omega, fun h => by omega⟩
  · rw [zt_s1, zt_s0, hl]
    show 0 + (0 - l (p 0)) = zt_sv t L 0
    unfold zt_sv
    rw [zt_s0]; omega
/-- the sum of the edges is the number of pieces -/
theorem zt_sv_D {t g : Nat → Nat} {L : Nat} (hg : ∀ i, i < L → g i = t i + 1) : zt_sv t L L = zt_D g L (fun i => i) := by
  have row : ∀ e, e < L → e + 1 - zt_m (fun f => zt_V t L (e + 1) f) (e + 1) = zt_c (fun s => s + 1 ≤ e + 1 ∧ ∀ f, f < e + 1 → zt_V t L (e + 1) f < s + 1) L := by
    intro e he
    have hm : zt_m (fun f => zt_V t L (e + 1) f) (e + 1) ≤ e := zt_m_le fun f hf => by
      have := zt_V_r (t := t) (L := L) (e := e + 1) (f := f) (by omega) (by omega)
      show zt_V t L (e + 1) f ≤ e
      omega
    have cut : zt_c (fun s => s + 1 ≤ e + 1 ∧ ∀ f, f < e + 1 → zt_V t L (e + 1) f < s + 1) L = zt_c (fun s => s + 1 ≤ e + 1 ∧ ∀ f, f < e + 1 → zt_V t L (e + 1) f < s + 1) (e + 1) := by
      have key : ∀ d, e + 1 + d ≤ L → zt_c (fun s => s + 1 ≤ e + 1 ∧ ∀ f, f < e + 1 → zt_V t L (e + 1) f < s + 1) (e + 1 + d) = zt_c (fun s => s + 1 ≤ e + 1 ∧ ∀ f, f < e + 1 → zt_V t L (e + 1) f < s + 1) (e + 1) := by
        intro d
        induction d with
        | zero => intro _; rfl
        | succ d ih =>
          intro hd
          have e1 : e + 1 + (d + 1) = (e + 1 + d) + 1 := by omega
          rw [e1, zt_cf (p := fun s => s + 1 ≤ e + 1 ∧ ∀ f, f < e + 1 → zt_V t L (e + 1) f < s + 1) (n := e + 1 + d) (fun hq => by have := hq.1; omega), ih (by omega)]
      have := key (L - (e + 1)) (by omega)
      have e2 : e + 1 + (L - (e + 1)) = L := by omega
      rw [e2] at this
      exact this
    rw [cut]
    symm
    refine zt_c_gt (e + 1) _ _ (fun s hs => ⟨fun hq => ?_, fun hq => ⟨by omega, fun f hf => ?_⟩⟩) (by omega)
    · rcases zt_m_is (fun f => zt_V t L (e + 1) f) (e + 1) with z | ⟨f, hf, z⟩
      · omega
      · have := hq.2 f hf
        rw [← z]; exact this
    · have := zt_m_ge (f := fun f => zt_V t L (e + 1) f) hf
      have this' : zt_V t L (e + 1) f ≤ zt_m (fun f => zt_V t L (e + 1) f) (e + 1) := this
      omega
  unfold zt_sv
  rw [zt_sc L row, zt_dc (fun e s => s + 1 ≤ e + 1 ∧ ∀ f, f < e + 1 → zt_V t L (e + 1) f < s + 1), zt_D_s]
  refine zt_sc L fun s hs => ?_
  refine zt_bij (fun e => e - s) L L (fun e he hq => ?_) (fun a c ha hc qa qc ee => ?_) (fun i hi hq => ?_)
  · show e - s < L ∧ zt_Q g L (fun i => i) (e - s) s
    refine ⟨by omega, by have := hq.1; omega, fun j hj hr => ?_⟩
    have hr' : j < e - s := hr
    refine Classical.byContradiction fun cn => ?_
    have q2 := hq.2 (j + (s + 1)) (by omega)
    have q3 := (zt_V_N (t := t) hg (e := e + 1) (f := j + (s + 1)) (s := s + 1) (by omega) (by omega) (by omega) (by omega)).2 (by
      have e1 : e + 1 - (s + 1) = e - s := by omega
      have e2 : j + (s + 1) - (s + 1) = j := by omega
      rw [e1, e2, zt_N_c (by omega) (by omega)]
      omega)
    omega
  · have h1 := qa.1
    have h2 := qc.1
    have ee' : a - s = c - s := ee
    omega
  · have h1 := hq.1
    refine ⟨i + s, by omega, ⟨by omega, fun f hf => ?_⟩, by show i + s - s = i; omega⟩
    refine Classical.byContradiction fun cn => ?_
    have fr := zt_V_r (t := t) (L := L) (e := i + s + 1) (f := f) (by omega) (by omega)
    have q3 := (zt_V_N (t := t) hg (e := i + s + 1) (f := f) (s := s + 1) (by omega) (by omega) (by omega) (by omega)).1 (by omega)
    have e1 : i + s + 1 - (s + 1) = i := by omega
    rw [e1] at q3
    have hj : f - (s + 1) < i := by omega
    have := hq.2 (f - (s + 1)) (by omega) hj
    rw [zt_N_c (by omega) (by omega)] at this
    omega
