/-! a letter read: the branches turned along the links -/
section
variable {t : Nat → Nat} {L k n e : Nat} {E l p b b' : Nat → Nat}
theorem zt_T_next (hk : k ≤ L) (hB : zt_BV t L k n E l p) (he : e ≤ k) {v : Nat} (hv : v < n) (on : zt_On t L e E l v) : (v = 0 → ∀ u, u < n → zt_On t L e E l u → l v + 1 ≤ l u ∨ u = v) ∧ (0 < v → p v < n ∧ zt_On t L e E l (p v) ∧ l (p v) < l v ∧ ∀ u, u < n → zt_On t L e E l u → l (p v) + 1 ≤ l u → l v + 1 ≤ l u ∨ u = v) := by
  constructor
  · intro z u hu onu
    subst z
    by_cases c : l 0 + 1 ≤ l u
    · exact Or.inl c
    · right
      have h0 := hB.1.2
      exact hB.2.2.2.1 u 0 hu hv (by omega) (by omega)
  · intro v0
    have a := zt_chain_p hB v0 hv on
    refine ⟨a.1, a.2.2, a.2.1, fun u hu onu hl => ?_⟩
    by_cases c : l v + 1 ≤ l u
    · exact Or.inl c
    · right
      by_cases d : l u < l v
      · have := (zt_chain hk hB he v0 hv hu on onu d).1
        omega
      · exact hB.2.2.2.1 u v hu hv (by omega) (zt_V_u onu (by rw [zt_V_c]; have : l v ≤ zt_V t L (E v) e := on; omega))
/-- the first turning: all on the way of k with d letters or more are done -/
def zt_T1 (t : Nat → Nat) (L k n : Nat) (E l b : Nat → Nat) (d : Nat) (b' : Nat → Nat) : Prop :=
  (∀ c, c < 4 → b' (n * 4 + c) = 0) ∧ (∀ u, u < n → zt_On t L k E l u → d ≤ l u → b (u * 4 + t k) = 0 ∧ b' (u * 4 + t k) = n) ∧ ∀ u c, u < n → c < 4 → ¬ (c = t k ∧ zt_On t L k E l u ∧ d ≤ l u) → b' (u * 4 + c) = b (u * 4 + c)
theorem zt_T1_0 (hk : k ≤ L) (hB : zt_BV t L k n E l p) {d : Nat} (hd : k < d) (h0 : ∀ c, c < 4 → b' (n * 4 + c) = 0) (h1 : ∀ u c, u < n → c < 4 → b' (u * 4 + c) = b (u * 4 + c)) : zt_T1 t L k n E l b d b' :=
  ⟨h0, fun u hu on hd' => by
    have a : l u ≤ zt_V t L (E u) k := on
    have b1 : E u ≤ k := (hB.2.1 u hu).1
    have := zt_V_r (t := t) (L := L) (e := E u) (f := k) (by omega) hk
    omega, fun u c hu hc _ => h1 u c hu hc⟩
theorem zt_T1_1 (ht : ∀ i, t i < 4) {v d : Nat} (hv : v < n) (h : zt_T1 t L k n E l b (l v + 1) b') (hz : b' (v * 4 + t k) = 0) (hd : d ≤ l v) (hn : ∀ u, u < n → zt_On t L k E l u → d ≤ l u → l v + 1 ≤ l u ∨ u = v) (on : zt_On t L k E l v) : zt_T1 t L k n E l b d (zt_up b' (v * 4 + t k) n) := by
  obtain ⟨h0, h1, h2⟩ := h
  have tk := ht k
  refine ⟨fun c hc => ?_, fun u hu onu hl => ?_, fun u c hu hc hne => ?_⟩
  · rw [zt_un _ _ (by omega)]; exact h0 c hc
  · rcases hn u hu onu hl with a | a
    · by_cases c : u = v
      · subst c; omega
      · rw [zt_un _ _ (by omega)]; exact h1 u hu onu a
    · subst a
      rw [zt_us]
      refine ⟨?_, rfl⟩
      rw [← h2 u (t k) hu tk (fun x => by omega)]
      exact hz
  · have ne : ¬ (u = v ∧ c = t k) := fun x => hne ⟨x.2, by rw [x.1]; exact on, by rw [x.1]; exact hd⟩
    rw [zt_un _ _ (by omega)]
    exact h2 u c hu hc (fun x => hne ⟨x.1, x.2.1, by omega⟩)
/-- nothing found -/
theorem zt_T1_none {en en' : Nat → Nat} {la : Nat} (ht : ∀ i, t i < 4) (hk : k < L) (h : zt_M t L k n E l p b en la) (hT : zt_T1 t L k n E l b 0 b') (n0 : en' n = k + 1) (n1 : ∀ u, u < n → en' u = en u) : zt_M t L (k + 1) (n + 1) (zt_up E n (k + 1)) (zt_up l n (k + 1)) (zt_up p n 0) b' en' n := by
  have hB := h.1
  have hD := h.2.1
  obtain ⟨h0, h1, h2⟩ := hT
  have ss := zt_ss hk hB hD (d := 0) (fun u hu on _ => (h1 u hu on (Nat.zero_le _)).1)
  have r0 : zt_V t L (k + 1) 0 = 0 := by
    have := ss 0 (Nat.zero_le _)
    omega
  exact zt_M_leaf hk h (r := 0) (m := 0) (w := 0) (Nat.zero_le _) r0 ss hB.1.1 hB.1.2 (Nat.zero_le _) (Or.inl rfl) h0 (fun u hu on _ => (h1 u hu on (Nat.zero_le _)).2) (fun u c hu hc hne => h2 u c hu hc hne) ht n0 n1
/-- what is known where it stops: at v, with the branch x -/
theorem zt_T1_stop (ht : ∀ i, t i < 4) (hk : k < L) (hB : zt_BV t L k n E l p) (hD : zt_dl t L k n E l p b) {v : Nat} (hv : v < n) (on : zt_On t L k E l v) (hT : zt_T1 t L k n E l b (l v + 1) b') (hx : b' (v * 4 + t k) ≠ 0) : b' (v * 4 + t k) = b (v * 4 + t k) ∧ (∀ e, e ≤ k → zt_V t L (k + 1) e ≤ l v + 1) ∧ ∃ e0, e0 < k ∧ t e0 = t k ∧ l v + 1 = zt_V t L k e0 + 1 ∧ zt_V t L (k + 1) (e0 + 1) = l v + 1 ∧ zt_nd t L n E l p (b (v * 4 + t k)) (e0 + 1) (l v + 1) := by
  obtain ⟨h0, h1, h2⟩ := hT
  have e1 := h2 v (t k) hv (ht k) (fun x => by omega)
  have ss := zt_ss hk hB hD (d := l v + 1) (fun u hu onu hd => (h1 u hu onu hd).1)
  refine ⟨e1, ss, ?_⟩
  rw [e1] at hx
  obtain ⟨e0, q1, q2, q3⟩ := hD.2 v (t k) hv (ht k) hx
  have nd := hD.1 v e0 hv q1 q3
  rw [q2] at nd
  have a : l v ≤ zt_V t L k e0 := zt_V_u (by rw [zt_V_c]; exact on) q3
  have c := (zt_V_suc (t := t) (L := L) (e := k) (f := e0) (s := zt_V t L k e0) hk (by omega)).2 ⟨q2.symm, Nat.le_refl _⟩
  have d := ss (e0 + 1) (by omega)
  exact ⟨e0, q1, q2, by omega, by omega, nd⟩
/-- the branch is the longest of its state already -/
theorem zt_T1_leaf {en en' : Nat → Nat} {la : Nat} (ht : ∀ i, t i < 4) (hk : k < L) (h : zt_M t L k n E l p b en la) {v x : Nat} (hv : v < n) (on : zt_On t L k E l v) (hT : zt_T1 t L k n E l b (l v + 1) b') (hx : b' (v * 4 + t k) = x) (x0 : x ≠ 0) (hl : l x = l v + 1) (n0 : en' n = k + 1) (n1 : ∀ u, u < n → en' u = en u) : zt_M t L (k + 1) (n + 1) (zt_up E n (k + 1)) (zt_up l n (k + 1)) (zt_up p n x) b' en' n := by
  obtain ⟨e1, ss, e0, q1, q2, q3, q4, nd⟩ := zt_T1_stop ht hk h.1 h.2.1 hv on hT (by omega)
  rw [← e1, hx] at nd
  obtain ⟨h0, h1, h2⟩ := hT
  refine zt_M_leaf hk h (r := e0 + 1) (m := l v + 1) (w := x) (by omega) q4 ss nd.2.1 hl ?_ (Or.inr ⟨e0, q1, q2, q3⟩) h0 (fun u hu onu hd => (h1 u hu onu hd).2) (fun u c hu hc hne => h2 u c hu hc hne) ht n0 n1
  exact zt_V_u nd.2.2.2.2 (by rw [zt_V_c]; omega)
/-- the second turning, from x to its twin -/
def zt_T2 (t : Nat → Nat) (L k n : Nat) (E l b : Nat → Nat) (x m : Nat) (b1 : Nat → Nat) (d : Nat) (b' : Nat → Nat) : Prop :=
  (∀ u, u < n → zt_On t L k E l u → d ≤ l u → l u < m → b (u * 4 + t k) = x ∧ b' (u * 4 + t k) = n + 1) ∧ ∀ u c, u < n + 2 → c < 4 → ¬ (u < n ∧ c = t k ∧ zt_On t L k E l u ∧ d ≤ l u ∧ l u < m) → b' (u * 4 + c) = b1 (u * 4 + c)
theorem zt_T2_0 {x m : Nat} {b1 : Nat → Nat} : zt_T2 t L k n E l b x m b1 m b1 := ⟨fun u _ _ h1 h2 => by omega, fun _ _ _ _ _ => rfl⟩
theorem zt_T2_1 (ht : ∀ i, t i < 4) {x m v d : Nat} {b1 : Nat → Nat} (hv : v < n) (hb1 : ∀ u c, u < n → c < 4 → ¬ (c = t k ∧ zt_On t L k E l u ∧ m ≤ l u) → b1 (u * 4 + c) = b (u * 4 + c)) (hvm : l v < m) (h : zt_T2 t L k n E l b x m b1 (l v + 1) b') (hz : b' (v * 4 + t k) = x) (hd : d ≤ l v) (hn : ∀ u, u < n → zt_On t L k E l u → d ≤ l u → l v + 1 ≤ l u ∨ u = v) (on : zt_On t L k E l v) : zt_T2 t L k n E l b x m b1 d (zt_up b' (v * 4 + t k) (n + 1)) := by
  obtain ⟨h1, h2⟩ := h
  have tk := ht k
  refine ⟨fun u hu onu hl hm => ?_, fun u c hu hc hne => ?_⟩
  · rcases hn u hu onu hl with a | a
    · by_cases c : u = v
      · subst c; omega
      · rw [zt_un _ _ (by omega)]; exact h1 u hu onu a hm
    · subst a
      rw [zt_us]
      refine ⟨?_, rfl⟩
      rw [← hb1 u (t k) hu tk (fun y => by omega), ← h2 u (t k) (by omega) tk (fun y => by omega)]
      exact hz
  · have ne : ¬ (u = v ∧ c = t k) := fun y => hne ⟨by omega, y.2, by rw [y.1]; exact on, by rw [y.1]; exact hd, by rw [y.1]; exact hvm⟩
    rw [zt_un _ _ (by omega)]
    exact h2 u c hu hc (fun y => hne ⟨y.1, y.2.1, y.2.2.1, by omega, y.2.2.2.2⟩)
/-- the branches into x lie together -/
theorem zt_T2_c (ht : ∀ i, t i < 4) (hk : k < L) (hB : zt_BV t L k n E l p) (hD : zt_dl t L k n E l p b) {v x e0 u u' : Nat} (q1 : e0 < k) (q2 : t e0 = t k) (q3 : l v + 1 = zt_V t L k e0 + 1) (nd : zt_nd t L n E l p x (e0 + 1) (l v + 1)) (hu : u < n) (hu' : u' < n) (on : zt_On t L k E l u) (on' : zt_On t L k E l u') (h1 : l u < l u') (h2 : l u' ≤ l v) (hx : b (u * 4 + t k) = x) : b (u' * 4 + t k) = x := by
  have hU := zt_U_Vk t (L := L) (k := k) (by omega)
  have hF := zt_F_S hU
  have a := hD.1 u e0 hu q1 (zt_V_u on (by omega))
  have a' := hD.1 u' e0 hu' q1 (zt_V_u on' (by omega))
  rw [q2] at a a'
  rw [hx] at a
  obtain ⟨a1, a2, a3, a4, a5⟩ := a
  obtain ⟨c1, c2, c3, c4, c5⟩ := a'
  obtain ⟨d1, d2, d3, d4, d5⟩ := nd
  exact zt_B_one hU hF hB c1 c2 d1 d2 (e := e0 + 1) (s := l u' + 1) (by omega) c3 c4 c5 (by omega) (by omega) (by omega)
theorem zt_T2_end {en en' : Nat → Nat} {la : Nat} (ht : ∀ i, t i < 4) (hk : k < L) (h : zt_M t L k n E l p b en la) {v x : Nat} {b0 b1 : Nat → Nat} (hv : v < n) (on : zt_On t L k E l v) (hT : zt_T1 t L k n E l b (l v + 1) b0) (hx : b0 (v * 4 + t k) = x) (x0 : x ≠ 0) (hl : l x ≠ l v + 1)
    (hb1 : ∀ u c, u < n + 1 → c < 4 → b1 (u * 4 + c) = b0 (u * 4 + c)) (hb2 : ∀ c, c < 4 → b1 ((n + 1) * 4 + c) = b0 (x * 4 + c))
    {d : Nat} (hT2 : zt_T2 t L k n E l b x (l v + 1) b1 d b') (hd : d = 0 ∨ ∃ w, w < n ∧ zt_On t L k E l w ∧ l w ≤ l v ∧ d = l w + 1 ∧ b' (w * 4 + t k) ≠ x)
    (n0 : en' n = k + 1) (n2 : en' (n + 1) = 0) (n1 : ∀ u, u < n → en' u = en u) : zt_M t L (k + 1) (n + 2) (zt_up (zt_up E (n + 1) (E x)) n (k + 1)) (zt_up (zt_up l (n + 1) (l v + 1)) n (k + 1)) (zt_up (zt_up (zt_up p (n + 1) (p x)) x (n + 1)) n (n + 1)) b' en' n := by
  obtain ⟨e1, ss, e0, q1, q2, q3, q4, nd⟩ := zt_T1_stop ht hk h.1 h.2.1 hv on hT (by omega)
  rw [← e1, hx] at nd
  have hc := fun u u' hu hu' on on' => zt_T2_c ht hk h.1 h.2.1 (u := u) (u' := u') q1 q2 q3 nd hu hu' on on'
  obtain ⟨h0, h1, h2⟩ := hT
  obtain ⟨g1, g2⟩ := hT2
  obtain ⟨y1, y2, y3, y4, y5⟩ := nd
  have tk := ht k
  have o1 : ∀ u c, u < n → c < 4 → ¬ (c = t k ∧ zt_On t L k E l u ∧ l v + 1 ≤ l u) → b1 (u * 4 + c) = b (u * 4 + c) := fun u c hu hc' hne => (hb1 u c (by omega) hc').trans (h2 u c hu hc' hne)
  refine zt_M_twin hk h (e0 := e0) (m := l v + 1) ss y1 y2 y3 (by omega) q1 q2 q3 y5 (fun c hc' => ?_) (fun u hu onu hm => ?_) (fun u hu onu hm hbx => ?_) (fun u c hu hc' hne => ?_) (fun c hc' => ?_) ht n0 n2 n1
  · rw [g2 n c (by omega) hc' (fun y => by omega), hb1 n c (by omega) hc']; exact h0 c hc'
  · rw [g2 u (t k) (by omega) tk (fun y => by omega), hb1 u _ (by omega) tk]; exact (h1 u hu onu hm).2
  · by_cases du : d ≤ l u
    · exact (g1 u hu onu du hm).2
    · exfalso
      rcases hd with z | ⟨w, hw, onw, lw, dw, ne⟩
      · omega
      · have ew : b' (w * 4 + t k) = b (w * 4 + t k) := by
          rw [g2 w (t k) (by omega) tk (fun y => by omega)]
          exact o1 w (t k) hw tk (fun y => by omega)
        by_cases c : l u < l w
        · exact ne (ew.trans (hc u w hu hw onu onw c lw hbx))
        · have e : u = w := h.1.2.2.2.1 u w hu hw (by omega) (zt_V_u onu (by rw [zt_V_c]; have : l w ≤ zt_V t L (E w) k := onw; omega))
          subst e
          exact ne (ew.trans hbx)
  · rw [g2 u c (by omega) hc' (fun y => hne ⟨y.2.1, y.2.2.1, Or.inr (by rw [y.2.1]; exact (g1 u hu y.2.2.1 y.2.2.2.1 y.2.2.2.2).1)⟩)]
    exact o1 u c hu hc' (fun y => hne ⟨y.1, y.2.1, Or.inl y.2.2⟩)
  · rw [g2 (n + 1) c (by omega) hc' (fun y => by omega), hb2 c hc', g2 x c (by omega) hc' (fun y => by omega), hb1 x c (by omega) hc']
end
