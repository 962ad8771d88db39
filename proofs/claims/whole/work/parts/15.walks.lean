/-! the listing of the tree by a stack, the node of a pattern, the state of a pattern -/
/-- st 0 .. h - 1 wait, found are listed, vis are visited -/
def zt_ST (cA off sub : Nat → Nat) (n base tot stot : Nat) (st : Nat → Nat) (h found vis : Nat) : Prop :=
  (∀ i, i < h → st i < n) ∧ (∀ i, i < h → off (st i) + zt_s (fun j => cA (st j)) (i + 1) = base + tot) ∧ zt_s (fun j => cA (st j)) h + found = tot ∧ zt_s (fun j => sub (st j)) h + vis = stot
/-- while the children of v are put down, those from the letter c on -/
def zt_SP (cA off sub : Nat → Nat) (n base tot stot : Nat) (C X : Nat → Nat) (ov : Nat) (st : Nat → Nat) (h c found vis : Nat) : Prop :=
  (∀ i, i < h → st i < n) ∧ (∀ i, i < h → off (st i) + zt_s (fun j => cA (st j)) (i + 1) = base + tot) ∧ zt_s (fun j => cA (st j)) h + found + zt_s C c = tot ∧ zt_s (fun j => sub (st j)) h + vis + zt_s X c = stot ∧ ov + zt_s C c + zt_s (fun j => cA (st j)) h = base + tot
theorem zt_SP_0 {cA off sub : Nat → Nat} {n base tot stot : Nat} {C X : Nat → Nat} {ov : Nat} {st : Nat → Nat} {h found vis : Nat} (H : zt_SP cA off sub n base tot stot C X ov st h 0 found vis) : zt_ST cA off sub n base tot stot st h found vis := by
  obtain ⟨h1, h2, h3, h4, h5⟩ := H
  rw [zt_s0] at h3 h4
  exact ⟨h1, h2, by omega, by omega⟩
/-- taking v up: d tails of its own, C its tails by letter, X its nodes by letter -/
theorem zt_ST_pop {cA off sub : Nat → Nat} {n base tot stot : Nat} {C X : Nat → Nat} {st : Nat → Nat} {h found vis d : Nat} (H : zt_ST cA off sub n base tot stot st (h + 1) found vis) (hc : cA (st h) = d + zt_s C 4) (hs : sub (st h) = 1 + zt_s X 4) : off (st h) = base + found ∧ zt_SP cA off sub n base tot stot C X (off (st h) + d) st h 4 (found + d) (vis + 1) := by
  obtain ⟨h1, h2, h3, h4⟩ := H
  have a := h2 h (by omega)
  rw [zt_s1] at a h3 h4
  refine ⟨by omega, fun i hi => h1 i (by omega), fun i hi => h2 i (by omega), by omega, by omega, by omega⟩
/-- no child with the letter c -/
theorem zt_SP_no {cA off sub : Nat → Nat} {n base tot stot : Nat} {C X : Nat → Nat} {ov : Nat} {st : Nat → Nat} {h c found vis : Nat} (H : zt_SP cA off sub n base tot stot C X ov st h (c + 1) found vis) (hC : C c = 0) (hX : X c = 0) : zt_SP cA off sub n base tot stot C X ov st h c found vis := by
  obtain ⟨h1, h2, h3, h4, h5⟩ := H
  rw [zt_s1] at h3 h4 h5
  exact ⟨h1, h2, by omega, by omega, by omega⟩
theorem zt_SP_ch {cA off sub : Nat → Nat} {n base tot stot : Nat} {C X : Nat → Nat} {ov : Nat} {st : Nat → Nat} {h c found vis u : Nat} (H : zt_SP cA off sub n base tot stot C X ov st h (c + 1) found vis) (hu : u < n) (hC : C c = cA u) (hX : X c = sub u) (ho : off u = ov + zt_s C c) : zt_SP cA off sub n base tot stot C X ov (zt_up st h u) (h + 1) c found vis := by
  obtain ⟨h1, h2, h3, h4, h5⟩ := H
  rw [zt_s1] at h3 h4 h5
  have old : ∀ i, i < h → zt_up st h u i = st i := fun i hi => zt_un st u (by omega)
  have sA : ∀ i, i ≤ h → zt_s (fun j => cA (zt_up st h u j)) i = zt_s (fun j => cA (st j)) i := fun i hi => zt_sc i fun j hj => by
    show cA (zt_up st h u j) = cA (st j)
    rw [old j (by omega)]
  have sS : ∀ i, i ≤ h → zt_s (fun j => sub (zt_up st h u j)) i = zt_s (fun j => sub (st j)) i := fun i hi => zt_sc i fun j hj => by
    show sub (zt_up st h u j) = sub (st j)
    rw [old j (by omega)]
  have nu : zt_up st h u h = u := zt_us _ _ _
  refine ⟨fun i hi => ?_, fun i hi => ?_, ?_, ?_, ?_⟩
  · by_cases e : i = h
    · subst e; rw [nu]; exact hu
    · rw [old i (by omega)]; exact h1 i (by omega)
  · by_cases e : i = h
    · subst e
      rw [zt_s1, sA i (Nat.le_refl _), nu]
      omega
    · rw [old i (by omega), sA (i + 1) (by omega)]; exact h2 i (by omega)
  · rw [zt_s1, sA h (Nat.le_refl _), nu]; omega
  · rw [zt_s1, sS h (Nat.le_refl _), nu]; omega
  · rw [zt_s1, sA h (Nat.le_refl _), nu]; omega
section
variable {g pat : Nat → Nat} {L n m : Nat} {E l p b nt : Nat → Nat}
/-- the node v stands for letters of the pattern, as far as both go -/
def zt_np (g pat : Nat → Nat) (m n : Nat) (E l p : Nat → Nat) (v : Nat) : Prop := v < n ∧ (∀ q, q < l v → q < m → g (E v + q) = pat q + 1) ∧ (v = 0 ∨ (0 < v ∧ l (p v) < m))
theorem zt_np_A (hz : zt_Z g L) (h : zt_H g L L n E l p b nt) {v i : Nat} (hv : zt_np g pat m n E l p v) (h1 : l v ≤ m) (hi : i ≤ L) (ho : zt_oc g pat m i) (m0 : 0 < m) : zt_A g L E l v i := by
  have hA := h.1.1.2.1 v hv.1
  have vL := zt_P_L (Nat.le_refl _) hA.1
  have lv := hA.2.1
  rw [zt_N_s vL] at lv
  have iL := zt_oc_L hz ho m0
  refine (zt_N_iff vL hi _).2 ⟨by omega, by omega, fun q hq => ?_⟩
  rw [hv.2.1 q hq (by omega), ho q (by omega)]
theorem zt_np_no (hz : zt_Z g L) (h : zt_H g L L n E l p b nt) {v : Nat} (hv : zt_np g pat m n E l p v) (h1 : l v < m) (hb : b (v * 4 + pat (l v)) = 0) (i : Nat) (hi : i ≤ L) : ¬ zt_oc g pat m i := by
  intro ho
  exact zt_A_no hz h hv.1 hb i hi (zt_np_A hz h hv (by omega) hi ho (by omega)) (ho (l v) h1)
theorem zt_np_u (hz : zt_Z g L) (hp : ∀ q, pat q < 4) (h : zt_H g L L n E l p b nt) {v : Nat} (hv : zt_np g pat m n E l p v) (h1 : l v < m) (hb : b (v * 4 + pat (l v)) ≠ 0) (i : Nat) (hi : i ≤ L) (ho : zt_oc g pat m i) : zt_A g L E l (b (v * 4 + pat (l v))) i :=
  (zt_A_ch hz h hv.1 (hp _) hb i hi).2 ⟨zt_np_A hz h hv (by omega) hi ho (by omega), ho (l v) h1⟩
theorem zt_np_mis (hz : zt_Z g L) (hp : ∀ q, pat q < 4) (h : zt_H g L L n E l p b nt) {v q : Nat} (hv : zt_np g pat m n E l p v) (h1 : l v < m) (hb : b (v * 4 + pat (l v)) ≠ 0) (hq : q < l (b (v * 4 + pat (l v)))) (hm : q < m) (hne : g (E (b (v * 4 + pat (l v))) + q) ≠ pat q + 1) (i : Nat) (hi : i ≤ L) : ¬ zt_oc g pat m i := by
  intro ho
  have a := zt_np_u hz hp h hv h1 hb i hi ho
  have u1 := (h.1.2.1.1 v _ hv.1 (hp _) hb).1
  have uL := zt_P_L (Nat.le_refl _) (h.1.1.2.1 _ u1).1
  unfold zt_A at a
  have := zt_N_e (g := g) uL hi (q := q) (by omega)
  rw [ho q hm] at this
  exact hne this
theorem zt_np_1 (hp : ∀ q, pat q < 4) (h : zt_H g L L n E l p b nt) {v : Nat} (hv : zt_np g pat m n E l p v) (h1 : l v < m) (hb : b (v * 4 + pat (l v)) ≠ 0) (hq : ∀ q, l v ≤ q → q < l (b (v * 4 + pat (l v))) → q < m → g (E (b (v * 4 + pat (l v))) + q) = pat q + 1) : zt_np g pat m n E l p (b (v * 4 + pat (l v))) ∧ l v < l (b (v * 4 + pat (l v))) := by
  obtain ⟨u1, u2, u3⟩ := h.1.2.1.1 v _ hv.1 (hp _) hb
  have hB := h.1.1
  have cu := hB.2.2.2.2 _ (by omega) u1
  rw [u2] at cu
  have uL := zt_P_L (Nat.le_refl _) (hB.2.1 _ u1).1
  have vL := zt_P_L (Nat.le_refl _) (hB.2.1 v hv.1).1
  refine ⟨⟨u1, fun q h2 h3 => ?_, Or.inr ⟨by omega, by rw [u2]; exact h1⟩⟩, cu.2.1⟩
  by_cases e : q < l v
  · rw [← hv.2.1 q e h3]
    exact (zt_N_e vL uL (by omega)).symm
  · exact hq q (by omega) h2 h3
theorem zt_np_end (hz : zt_Z g L) (h : zt_H g L L n E l p b nt) {v : Nat} (hv : zt_np g pat m n E l p v) (m0 : 0 < m) (h1 : m ≤ l v) (i : Nat) (hi : i ≤ L) : zt_oc g pat m i ↔ zt_A g L E l v i := by
  have hB := h.1.1
  have vL := zt_P_L (Nat.le_refl _) (hB.2.1 v hv.1).1
  have lv := (hB.2.1 v hv.1).2.1
  rw [zt_N_s vL] at lv
  constructor
  · intro ho
    have iL := zt_oc_L hz ho m0
    rcases hv.2.2 with z | ⟨v0, hlt⟩
    · have := hB.1.2
      rw [z] at h1
      omega
    · refine zt_B_same (zt_F_S (zt_U_P g (Nat.le_refl _))) hB v0 hv.1 (zt_P_full hi) hlt ?_
      refine (zt_N_iff vL hi _).2 ⟨by omega, by omega, fun q hq => ?_⟩
      rw [hv.2.1 q (by omega) hq, ho q hq]
  · intro a q hq
    rw [← hv.2.1 q (by omega) hq]
    unfold zt_A at a
    exact (zt_N_e vL hi (by omega)).symm
end
section
variable {t g pat : Nat → Nat} {L n : Nat} {E l p b en : Nat → Nat} {la : Nat}
/-- the first s letters of the pattern lead to v -/
def zt_ap (t pat : Nat → Nat) (L : Nat) (E l : Nat → Nat) (v s : Nat) : Prop := ∀ e, e ≤ L → (l v ≤ zt_V t L (E v) e ↔ s ≤ e ∧ ∀ q, q < s → t (e - s + q) = pat q)
theorem zt_ap_0 (h : zt_M t L L n E l p b en la) : zt_ap t pat L E l 0 0 := fun e _ => by
  rw [h.1.1.2]
  exact ⟨fun _ => ⟨Nat.zero_le _, fun q hq => by omega⟩, fun _ => Nat.zero_le _⟩
theorem zt_ap_no (h : zt_M t L L n E l p b en la) {v s : Nat} (hv : v < n) (ha : zt_ap t pat L E l v s) (hb : b (v * 4 + pat s) = 0) (e : Nat) (he : e ≤ L) : ¬ (s + 1 ≤ e ∧ ∀ q, q < s + 1 → t (e - (s + 1) + q) = pat q) := by
  rintro ⟨h1, h2⟩
  obtain ⟨f, rfl⟩ : ∃ f, e = f + 1 := ⟨e - 1, by omega⟩
  have tf : t f = pat s := by
    have := h2 s (by omega)
    have e1 : f + 1 - (s + 1) + s = f := by omega
    rw [e1] at this; exact this
  refine zt_nd_z (Nat.le_refl _) h.2.1 hv hb f (by omega) tf ((ha f (by omega)).2 ⟨by omega, fun q hq => ?_⟩)
  have := h2 q (by omega)
  have e1 : f + 1 - (s + 1) + q = f - s + q := by omega
  rw [e1] at this; exact this
theorem zt_ap_1 (hp : ∀ q, pat q < 4) (h : zt_M t L L n E l p b en la) {v s : Nat} (hv : v < n) (ha : zt_ap t pat L E l v s) (hb : b (v * 4 + pat s) ≠ 0) : 0 < b (v * 4 + pat s) ∧ b (v * 4 + pat s) < n ∧ zt_ap t pat L E l (b (v * 4 + pat s)) (s + 1) := by
  obtain ⟨hB, hD, hN, hs, hla, hn1, hn2⟩ := h
  obtain ⟨f, f1, f2, f3⟩ := hD.2 v _ hv (hp s) hb
  have nd := hD.1 v f hv f1 f3
  rw [f2] at nd
  refine ⟨nd.1, nd.2.1, fun e he => ?_⟩
  by_cases e0 : e = 0
  · subst e0
    have r1 := zt_V_r (t := t) (L := L) (e := E (b (v * 4 + pat s))) (f := 0) (hB.2.1 _ nd.2.1).1 (by omega)
    have := nd.2.2.2.1
    omega
  · obtain ⟨x, rfl⟩ : ∃ x, e = x + 1 := ⟨e - 1, by omega⟩
    rw [zt_nd_iff (Nat.le_refl _) hB hD hv (hp s) hb x (by omega), ha x (by omega)]
    constructor
    · rintro ⟨a, c, d⟩
      refine ⟨by omega, fun q hq => ?_⟩
      by_cases eq : q = s
      · have e1 : x + 1 - (s + 1) + q = x := by omega
        rw [e1, a, eq]
      · have e1 : x + 1 - (s + 1) + q = x - s + q := by omega
        rw [e1]; exact d q (by omega)
    · rintro ⟨c, d⟩
      refine ⟨?_, by omega, fun q hq => ?_⟩
      · have := d s (by omega)
        have e1 : x + 1 - (s + 1) + s = x := by omega
        rw [e1] at this; exact this
      · have := d q (by omega)
        have e1 : x + 1 - (s + 1) + q = x - s + q := by omega
        rw [e1] at this; exact this
end
