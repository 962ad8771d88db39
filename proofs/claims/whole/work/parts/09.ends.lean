/-! the automaton: points are the ends e of the beginnings of the text, V e f how many last letters they share -/
def zt_V (t : Nat → Nat) (L e f : Nat) : Nat := zt_N (fun x => t (L - 1 - x)) L (L - e) (L - f)
section
variable {t : Nat → Nat} {L : Nat}
theorem zt_V_iff {e f : Nat} (he : e ≤ L) (hf : f ≤ L) (s : Nat) : s ≤ zt_V t L e f ↔ s ≤ e ∧ s ≤ f ∧ ∀ q, q < s → t (e - 1 - q) = t (f - 1 - q) := by
  unfold zt_V
  rw [zt_N_iff (by omega) (by omega)]
  constructor
  · rintro ⟨a, b, c⟩
    refine ⟨by omega, by omega, fun q hq => ?_⟩
    have := c q hq
    have e1 : L - 1 - (L - e + q) = e - 1 - q := by omega
    have e2 : L - 1 - (L - f + q) = f - 1 - q := by omega
    rw [e1, e2] at this
    exact this
  · rintro ⟨a, b, c⟩
    refine ⟨by omega, by omega, fun q hq => ?_⟩
    have e1 : L - 1 - (L - e + q) = e - 1 - q := by omega
    have e2 : L - 1 - (L - f + q) = f - 1 - q := by omega
    rw [e1, e2]
    exact c q hq
theorem zt_U_V (t : Nat → Nat) (L : Nat) : zt_U (zt_V t L) (fun e => e ≤ L) :=
  ⟨fun _ _ _ _ => zt_N_c (by omega) (by omega), fun _ _ _ _ _ _ _ => zt_N_u (by omega) (by omega) (by omega)⟩
theorem zt_U_Vk (t : Nat → Nat) {L k : Nat} (hk : k ≤ L) : zt_U (zt_V t L) (fun e => e ≤ k) := zt_U_m (zt_U_V t L) (fun _ h => Nat.le_trans h hk)
theorem zt_V_s {e : Nat} (he : e ≤ L) : zt_V t L e e = e := by
  unfold zt_V
  rw [zt_N_s (by omega)]; omega
theorem zt_V_c {e f : Nat} : zt_V t L e f = zt_V t L f e := zt_N_c (by omega) (by omega)
theorem zt_V_l {e f : Nat} (he : e ≤ L) (hf : f ≤ L) : zt_V t L e f ≤ e := ((zt_V_iff he hf _).1 (Nat.le_refl _)).1
theorem zt_V_r {e f : Nat} (he : e ≤ L) (hf : f ≤ L) : zt_V t L e f ≤ f := ((zt_V_iff he hf _).1 (Nat.le_refl _)).2.1
theorem zt_V_u {e f h s : Nat} (h1 : s ≤ zt_V t L e f) (h2 : s ≤ zt_V t L f h) : s ≤ zt_V t L e h := zt_N_u (by omega) (by omega) (by omega) h1 h2
theorem zt_V_suc {e f s : Nat} (he : e < L) (hf : f < L) : s + 1 ≤ zt_V t L (e + 1) (f + 1) ↔ t e = t f ∧ s ≤ zt_V t L e f := by
  rw [zt_V_iff (by omega) (by omega), zt_V_iff (by omega) (by omega)]
  constructor
  · rintro ⟨a, b, c⟩
    refine ⟨by have := c 0 (by omega); exact this, by omega, by omega, fun q hq => ?_⟩
    have := c (q + 1) (by omega)
    have e1 : e + 1 - 1 - (q + 1) = e - 1 - q := by omega
    have e2 : f + 1 - 1 - (q + 1) = f - 1 - q := by omega
    rw [e1, e2] at this
    exact this
  · rintro ⟨h0, a, b, c⟩
    refine ⟨by omega, by omega, fun q hq => ?_⟩
    by_cases z : q = 0
    · subst z; exact h0
    · have := c (q - 1) (by omega)
      have e1 : e + 1 - 1 - q = e - 1 - (q - 1) := by omega
      have e2 : f + 1 - 1 - q = f - 1 - (q - 1) := by omega
      rw [e1, e2]
      exact this
theorem zt_V_N {g : Nat → Nat} (hg : ∀ i, i < L → g i = t i + 1) {e f s : Nat} (he : e ≤ L) (hf : f ≤ L) (hse : s ≤ e) (hsf : s ≤ f) : s ≤ zt_V t L e f ↔ s ≤ zt_N g L (e - s) (f - s) := by
  rw [zt_V_iff he hf, zt_N_iff (by omega) (by omega)]
  constructor
  · rintro ⟨a, b, c⟩
    refine ⟨by omega, by omega, fun q hq => ?_⟩
    have := c (s - 1 - q) (by omega)
    have e1 : e - 1 - (s - 1 - q) = e - s + q := by omega
    have e2 : f - 1 - (s - 1 - q) = f - s + q := by omega
    rw [e1, e2] at this
    rw [hg _ (by omega), hg _ (by omega), this]
  · rintro ⟨a, b, c⟩
    refine ⟨hse, hsf, fun q hq => ?_⟩
    have := c (s - 1 - q) (by omega)
    rw [hg _ (by omega), hg _ (by omega)] at this
    have e1 : e - s + (s - 1 - q) = e - 1 - q := by omega
    have e2 : f - s + (s - 1 - q) = f - 1 - q := by omega
    rw [e1, e2] at this
    omega
end
/-- w is the state of the s letters that end at e -/
def zt_nd (t : Nat → Nat) (L n : Nat) (E l p : Nat → Nat) (w e s : Nat) : Prop := 0 < w ∧ w < n ∧ l (p w) < s ∧ s ≤ l w ∧ s ≤ zt_V t L (E w) e
/-- the branches, k letters read -/
def zt_dl (t : Nat → Nat) (L k n : Nat) (E l p b : Nat → Nat) : Prop :=
  (∀ v e, v < n → e < k → l v ≤ zt_V t L (E v) e → zt_nd t L n E l p (b (v * 4 + t e)) (e + 1) (l v + 1)) ∧
  ∀ v c, v < n → c < 4 → b (v * 4 + c) ≠ 0 → ∃ e, e < k ∧ t e = c ∧ l v ≤ zt_V t L (E v) e
def zt_BV (t : Nat → Nat) (L k n : Nat) (E l p : Nat → Nat) : Prop := zt_B (zt_V t L) (fun e => e ≤ k) (zt_S (zt_V t L) (fun e => e ≤ k)) (fun v => v < n) E l p
section
variable {t : Nat → Nat} {L k n : Nat} {E l p b : Nat → Nat}
theorem zt_nd_e {w e f s : Nat} (h : zt_nd t L n E l p w e s) (h1 : s ≤ zt_V t L e f) : zt_nd t L n E l p w f s :=
  ⟨h.1, h.2.1, h.2.2.1, h.2.2.2.1, zt_V_u h.2.2.2.2 h1⟩
/-- above d no state of the beginning k has a branch: then nothing longer than d comes again -/
theorem zt_ss (hk : k < L) (hB : zt_BV t L k n E l p) (hD : zt_dl t L k n E l p b) {d : Nat} (h : ∀ u, u < n → l u ≤ zt_V t L (E u) k → d ≤ l u → b (u * 4 + t k) = 0) (e : Nat) (he : e ≤ k) : zt_V t L (k + 1) e ≤ d := by
  refine Classical.byContradiction fun c => ?_
  have hr := zt_V_r (t := t) (L := L) (e := k + 1) (f := e) (by omega) (by omega)
  obtain ⟨f, rfl⟩ : ∃ f, e = f + 1 := ⟨e - 1, by omega⟩
  have a := (zt_V_suc (t := t) (L := L) (e := k) (f := f) (s := d) hk (by omega)).1 (by omega)
  obtain ⟨u, hu, e1, e2⟩ := hB.2.2.1 k (zt_V t L k f) (Nat.le_refl _) ⟨f, by omega, rfl⟩
  have b1 := h u hu (by omega) (by omega)
  have b2 := hD.1 u f hu (by omega) (by rw [e1]; exact zt_V_u e2 (Nat.le_refl _))
  rw [← a.1, b1] at b2
  exact absurd b2.1 (by omega)
/-- the chain of the links: what lies below v on the way of e -/
theorem zt_chain (hk : k ≤ L) (hB : zt_BV t L k n E l p) {v u e : Nat} (he : e ≤ k) (v0 : 0 < v) (hv : v < n) (hu : u < n) (h1 : l v ≤ zt_V t L (E v) e) (h2 : l u ≤ zt_V t L (E u) e) (h3 : l u < l v) : l u ≤ l (p v) ∧ (l u = l (p v) → u = p v) := by
  have hU := zt_U_Vk t hk
  have hF := zt_F_S hU
  obtain ⟨_, hA, _, hB2, hC⟩ := hB
  have cv := hC v v0 hv
  have uv : l u ≤ zt_V t L (E u) (E v) := zt_V_u h2 (by rw [zt_V_c]; omega)
  refine ⟨cv.2.2.2 _ (hF.1 (E u) (E v) _ (hA u hu).1 (hA v hv).1 (hA u hu).2.2 uv) h3, fun e1 => ?_⟩
  refine hB2 u (p v) hu cv.1 e1 (zt_V_u uv ?_)
  rw [zt_V_c, e1]
  exact cv.2.2.1
theorem zt_chain_p (hB : zt_BV t L k n E l p) {v e : Nat} (v0 : 0 < v) (hv : v < n) (h1 : l v ≤ zt_V t L (E v) e) : p v < n ∧ l (p v) < l v ∧ l (p v) ≤ zt_V t L (E (p v)) e := by
  have cv := hB.2.2.2.2 v v0 hv
  exact ⟨cv.1, cv.2.1, zt_V_u cv.2.2.1 (by omega)⟩
/-- the branch of v leads where all of v's ends with that letter go -/
theorem zt_nd_iff (hk : k ≤ L) (hB : zt_BV t L k n E l p) (hD : zt_dl t L k n E l p b) {v c : Nat} (hv : v < n) (hc : c < 4) (hb : b (v * 4 + c) ≠ 0) (e : Nat) (he : e < k) : l (b (v * 4 + c)) ≤ zt_V t L (E (b (v * 4 + c))) (e + 1) ↔ t e = c ∧ l v ≤ zt_V t L (E v) e := by
  have hF := zt_F_S (zt_U_Vk t hk)
  obtain ⟨f, hf, f1, f2⟩ := hD.2 v c hv hc hb
  have a := hD.1 v f hv hf f2
  rw [f1] at a
  constructor
  · intro h
    have h1 : l v + 1 ≤ zt_V t L (f + 1) (e + 1) := zt_V_u (by rw [zt_V_c]; exact a.2.2.2.2) (by have := a.2.2.2.1; omega)
    have h2 := (zt_V_suc (by omega) (by omega)).1 h1
    exact ⟨by omega, zt_V_u f2 h2.2⟩
  · rintro ⟨h1, h2⟩
    have h3 := hD.1 v e hv he h2
    rw [h1] at h3
    exact zt_B_same hF hB h3.1 h3.2.1 (by omega) h3.2.2.1 h3.2.2.2.2
theorem zt_nd_z (hk : k ≤ L) (hD : zt_dl t L k n E l p b) {v c : Nat} (hv : v < n) (hb : b (v * 4 + c) = 0) (e : Nat) (he : e < k) (h1 : t e = c) : ¬ l v ≤ zt_V t L (E v) e := by
  intro h
  have := (hD.1 v e hv he h).1
  rw [h1, hb] at this
  omega
end
/-- a new letter, without a twin -/
theorem zt_BV_leaf {t : Nat → Nat} {L k n : Nat} {E l p : Nat → Nat} {r m w : Nat} (hk : k < L) (hB : zt_BV t L k n E l p) (hr : r ≤ k) (hm : zt_V t L (k + 1) r = m) (hmax : ∀ e, e ≤ k → zt_V t L (k + 1) e ≤ m) (hw : w < n) (hl : l w = m) (hM : m ≤ zt_V t L (E w) (k + 1)) : zt_BV t L (k + 1) (n + 1) (zt_up E n (k + 1)) (zt_up l n (k + 1)) (zt_up p n w) := by
  have hU' := zt_U_Vk t (L := L) (k := k + 1) (by omega)
  have hU := zt_U_Vk t (L := L) (k := k) (by omega)
  have hP : ∀ e, e ≤ k + 1 ↔ e ≤ k ∨ e = k + 1 := fun e => by omega
  have kk : zt_V t L (k + 1) (k + 1) = k + 1 := zt_V_s (by omega)
  have pw := (hB.2.1 w hw).1
  have hB' := zt_B_S hB (zt_S1_old hU (zt_F_S hU) hB hw hl hr (zt_V_u hM (by omega)))
  subst hl
  have a := zt_B_leaf (q := k + 1) (w := w) (z := n) (P' := fun e => e ≤ k + 1) (S' := zt_S (zt_V t L) (fun e => e ≤ k + 1)) hU' hP hB' hw (by omega) hM hmax (by have := zt_V_r (t := t) (L := L) (e := k + 1) (f := r) (by omega) (by omega); omega)
    (fun e s he => zt_S_old hU' hP hr hm hmax s he)
    (fun s => zt_S_new hU' hP hr hm hmax pw hM s)
  rw [kk] at a
  refine zt_B_V a (fun u => ?_)
  show u < n ∨ u = n ↔ u < n + 1
  omega
/-- with a twin of x -/
theorem zt_BV_twin {t : Nat → Nat} {L k n : Nat} {E l p : Nat → Nat} {r m x : Nat} (hk : k < L) (hB : zt_BV t L k n E l p) (hr : r ≤ k) (hm : zt_V t L (k + 1) r = m) (hmax : ∀ e, e ≤ k → zt_V t L (k + 1) e ≤ m) (x0 : 0 < x) (hx : x < n) (h1 : l (p x) < m) (h2 : m < l x) (h3 : m ≤ zt_V t L (E x) r) : zt_BV t L (k + 1) (n + 2) (zt_up (zt_up E (n + 1) (E x)) n (k + 1)) (zt_up (zt_up l (n + 1) m) n (k + 1)) (zt_up (zt_up (zt_up p (n + 1) (p x)) x (n + 1)) n (n + 1)) := by
  have hU' := zt_U_Vk t (L := L) (k := k + 1) (by omega)
  have hU := zt_U_Vk t (L := L) (k := k) (by omega)
  have hP : ∀ e, e ≤ k + 1 ↔ e ≤ k ∨ e = k + 1 := fun e => by omega
  have kk : zt_V t L (k + 1) (k + 1) = k + 1 := zt_V_s (by omega)
  have px := (hB.2.1 x hx).1
  have hmx : m ≤ zt_V t L (E x) (k + 1) := zt_V_u h3 (by rw [zt_V_c]; omega)
  have hB1 := zt_B_mid hU (zt_F_S hU) hB x0 hx (y := n + 1) (m := m) (by omega) (by omega) h1 h2
  have hS : ∀ e s, e ≤ k → (zt_S1 (zt_V t L) (zt_S (zt_V t L) (fun e => e ≤ k)) (E x) m e s ↔ zt_S1 (zt_V t L) (zt_S (zt_V t L) (fun e => e ≤ k)) r m e s) := by
    intro e s he
    unfold zt_S1
    refine ⟨fun a => a.imp id (fun b => ⟨b.1, zt_V_u b.2 h3⟩), fun a => a.imp id (fun b => ⟨b.1, zt_V_u b.2 (by rw [zt_V_c]; exact h3)⟩)⟩
  have hB2 := zt_B_S hB1 hS
  have lw : zt_up l (n + 1) m (n + 1) = m := zt_us _ _ _
  have Ew : zt_up E (n + 1) (E x) (n + 1) = E x := zt_us _ _ _
  have a := zt_B_leaf (q := k + 1) (w := n + 1) (z := n) (P' := fun e => e ≤ k + 1) (S' := zt_S (zt_V t L) (fun e => e ≤ k + 1)) hU' hP hB2 (Or.inr rfl) (by omega) (by rw [lw, Ew]; exact hmx) (by rw [lw]; exact hmax) (by rw [lw]; have := zt_V_r (t := t) (L := L) (e := k + 1) (f := r) (by omega) (by omega); omega)
    (fun e s he => zt_S_old hU' hP hr hm hmax s he)
    (fun s => by rw [lw, Ew]; exact zt_S_new hU' hP hr hm hmax px hmx s)
  rw [kk] at a
  refine zt_B_V a (fun u => ?_)
  show (u < n ∨ u = n + 1) ∨ u = n ↔ u < n + 2
  omega
