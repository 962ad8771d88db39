/-! the whole automaton: its counts, its tails in order -/
theorem zt_c2 {p : Nat → Prop} {n i j : Nat} (hi : i < n) (hj : j < n) (ne : i ≠ j) (pi : p i) (pj : p j) : 2 ≤ zt_c p n := by
  rw [zt_crm n i hi pi]
  have := zt_cge1 (p := fun x => p x ∧ x ≠ i) n j hj ⟨pj, fun e => ne e.symm⟩
  omega
theorem zt_c2' {p : Nat → Prop} {n : Nat} (h : 2 ≤ zt_c p n) : ∃ i j, i < n ∧ j < n ∧ i ≠ j ∧ p i ∧ p j := by
  obtain ⟨i, hi, pi⟩ := zt_cpos n (by omega : 0 < zt_c p n)
  rw [zt_crm n i hi pi] at h
  obtain ⟨j, hj, pj, ne⟩ := zt_cpos (p := fun x => p x ∧ x ≠ i) n (by omega)
  exact ⟨i, j, hi, hj, fun e => ne e.symm, pi, pj⟩
/-- at how many places the letters of v end -/
noncomputable def zt_tl (t : Nat → Nat) (L : Nat) (E l : Nat → Nat) (v : Nat) : Nat := zt_c (fun e => l v ≤ zt_V t L (E v) (e + 1)) L
noncomputable def zt_X (t : Nat → Nat) (L : Nat) (E l : Nat → Nat) (v c : Nat) : Nat := zt_c (fun e => l v ≤ zt_V t L (E v) e ∧ t e = c) L
section
variable {t g : Nat → Nat} {L n : Nat} {E l p b en : Nat → Nat} {la : Nat}
theorem zt_en_0 (h : zt_M t L L n E l p b en la) : en 0 = 0 := by
  obtain ⟨hB, hD, hN, hs, hla, hn1, hn2⟩ := h
  refine Classical.byContradiction fun c => ?_
  obtain ⟨i, hi⟩ : ∃ i, en 0 = i + 1 := ⟨en 0 - 1, by omega⟩
  have := (hN 0 i (by omega)).1 hi
  have := hB.1.2
  omega
theorem zt_tl_en (h : zt_M t L L n E l p b en la) (v : Nat) : zt_c (fun f => en f ≠ 0 ∧ l v ≤ zt_V t L (E v) (en f)) n = zt_tl t L E l v := by
  obtain ⟨hB, hD, hN, hs, hla, hn1, hn2⟩ := h
  refine zt_bij (fun f => en f - 1) n L (fun f hf hq => ?_) (fun a c ha hc qa qc ee => ?_) (fun e he hq => ?_)
  · obtain ⟨i, hi⟩ : ∃ i, en f = i + 1 := ⟨en f - 1, by have := hq.1; omega⟩
    have a := (hN f i hf).1 hi
    have q2 := hq.2
    show en f - 1 < L ∧ l v ≤ zt_V t L (E v) (en f - 1 + 1)
    have e1 : en f - 1 + 1 = en f := by omega
    rw [e1]
    exact ⟨by omega, q2⟩
  · have ee' : en a - 1 = en c - 1 := ee
    obtain ⟨i, hi⟩ : ∃ i, en a = i + 1 := ⟨en a - 1, by have := qa.1; omega⟩
    have hc' : en c = i + 1 := by have := qc.1; omega
    have x := (hN a i ha).1 hi
    have y := (hN c i hc).1 hc'
    refine hB.2.2.2.1 a c ha hc (by omega) ?_
    rw [x.2.1]
    exact zt_V_u x.2.2 (by rw [zt_V_c]; exact y.2.2)
  · have e1 : zt_V t L (e + 1) (e + 1) = e + 1 := zt_V_s (by omega)
    obtain ⟨f, hf, f1, f2⟩ := hB.2.2.1 (e + 1) (e + 1) (by show e + 1 ≤ L; omega) ⟨e + 1, by show e + 1 ≤ L; omega, e1⟩
    have := (hN f e hf).2 ⟨he, f1, f2⟩
    refine ⟨f, hf, ⟨by omega, by rw [this]; exact hq⟩, by show en f - 1 = e; omega⟩
theorem zt_M_G (hg : ∀ i, i < L → g i = t i + 1) (h : zt_M t L L n E l p b en la) {m : Nat} (h1 : ∀ v, 0 < v → v < n → 2 ≤ zt_tl t L E l v → l v ≤ m) (h2 : m = 0 ∨ ∃ v, 0 < v ∧ v < n ∧ 2 ≤ zt_tl t L E l v ∧ l v = m) : zt_G g L m := by
  obtain ⟨hB, hD, hN, hs, hla, hn1, hn2⟩ := h
  have key : ∀ i j, i < L → j < L → i ≠ j → zt_N g L i j ≤ m := by
    intro i j hi hj ne
    by_cases s0 : zt_N g L i j = 0
    · omega
    · have ai := zt_N_i (g := g) (L := L) (i := i) (j := j) (by omega) (by omega)
      have aj := zt_N_j (g := g) (L := L) (i := i) (j := j) (by omega) (by omega)
      generalize hsn : zt_N g L i j = s at *
      have vs := (zt_V_N (t := t) hg (e := i + s) (f := j + s) (s := s) ai aj (by omega) (by omega)).2 (by
        have e1 : i + s - s = i := by omega
        have e2 : j + s - s = j := by omega
        rw [e1, e2]; omega)
      obtain ⟨v, hv, e1, e2⟩ := hB.2.2.1 (i + s) (zt_V t L (i + s) (j + s)) ai ⟨j + s, aj, rfl⟩
      have v0 : 0 < v := by
        refine Nat.pos_of_ne_zero fun z => ?_
        subst z
        have := hB.1.2
        omega
      have e3 : l v ≤ zt_V t L (E v) (j + s) := by rw [e1]; exact zt_V_u e2 (Nat.le_refl _)
      have c2 : 2 ≤ zt_tl t L E l v := by
        refine zt_c2 (i := i + s - 1) (j := j + s - 1) (by omega) (by omega) (by omega) ?_ ?_
        · have e4 : i + s - 1 + 1 = i + s := by omega
          show l v ≤ zt_V t L (E v) (i + s - 1 + 1)
          rw [e4]; omega
        · have e4 : j + s - 1 + 1 = j + s := by omega
          show l v ≤ zt_V t L (E v) (j + s - 1 + 1)
          rw [e4]; exact e3
      have := h1 v v0 hv c2
      omega
  refine ⟨key, ?_⟩
  by_cases m0 : m = 0
  · exact Or.inl m0
  · rcases h2 with z | ⟨v, v0, hv, c2, e⟩
    · exact Or.inl z
    · right
      obtain ⟨x, y, hx, hy, ne, px, py⟩ := zt_c2' c2
      have vs : m ≤ zt_V t L (x + 1) (y + 1) := zt_V_u (by rw [zt_V_c]; omega) (by omega : m ≤ zt_V t L (E v) (y + 1))
      have l1 := zt_V_l (t := t) (L := L) (e := x + 1) (f := y + 1) (by omega) (by omega)
      have l2 := zt_V_r (t := t) (L := L) (e := x + 1) (f := y + 1) (by omega) (by omega)
      have vn := (zt_V_N (t := t) hg (e := x + 1) (f := y + 1) (s := m) (by omega) (by omega) (by omega) (by omega)).1 vs
      refine ⟨x + 1 - m, y + 1 - m, by omega, by omega, by omega, ?_⟩
      have := key (x + 1 - m) (y + 1 - m) (by omega) (by omega) (by omega)
      omega
theorem zt_X_b (h : zt_M t L L n E l p b en la) {v c : Nat} (hv : v < n) (hc : c < 4) : zt_X t L E l v c = if b (v * 4 + c) = 0 then 0 else zt_tl t L E l (b (v * 4 + c)) := by
  obtain ⟨hB, hD, hN, hs, hla, hn1, hn2⟩ := h
  split
  · rename_i hb
    exact zt_cz L fun e he a => zt_nd_z (Nat.le_refl _) hD hv hb e he a.2 a.1
  · rename_i hb
    exact zt_cc L fun e he => ⟨fun a => (zt_nd_iff (Nat.le_refl _) hB hD hv hc hb e he).2 ⟨a.2, a.1⟩, fun a => by
      have := (zt_nd_iff (Nat.le_refl _) hB hD hv hc hb e he).1 a
      exact ⟨this.2, this.1⟩⟩
/-- v is where the s letters from i on lead -/
def zt_at (t : Nat → Nat) (L : Nat) (E l : Nat → Nat) (v s i : Nat) : Prop := ∀ e, e ≤ L → (l v ≤ zt_V t L (E v) e ↔ s ≤ zt_V t L (i + s) e)
theorem zt_at_0 (h : zt_M t L L n E l p b en la) (i : Nat) : zt_at t L E l 0 0 i := fun e _ => by
  have := h.1.1.2
  rw [this]
  exact ⟨fun _ => Nat.zero_le _, fun _ => Nat.zero_le _⟩
theorem zt_at_1 (ht : ∀ i, t i < 4) (h : zt_M t L L n E l p b en la) {v s i : Nat} (hv : v < n) (hi : i + s < L) (ha : zt_at t L E l v s i) : 0 < b (v * 4 + t (i + s)) ∧ b (v * 4 + t (i + s)) < n ∧ zt_at t L E l (b (v * 4 + t (i + s))) (s + 1) i := by
  obtain ⟨hB, hD, hN, hs, hla, hn1, hn2⟩ := h
  have on : l v ≤ zt_V t L (E v) (i + s) := (ha (i + s) (by omega)).2 (by rw [zt_V_s (by omega)]; omega)
  have nd := hD.1 v (i + s) hv hi on
  refine ⟨nd.1, nd.2.1, fun e he => ?_⟩
  by_cases e0 : e = 0
  · subst e0
    have r1 := zt_V_r (t := t) (L := L) (e := E (b (v * 4 + t (i + s)))) (f := 0) (hB.2.1 _ nd.2.1).1 (by omega)
    have r2 := zt_V_r (t := t) (L := L) (e := i + (s + 1)) (f := 0) (by omega) (by omega)
    have := nd.2.2.2.1
    omega
  · obtain ⟨f, rfl⟩ : ∃ f, e = f + 1 := ⟨e - 1, by omega⟩
    rw [zt_nd_iff (Nat.le_refl _) hB hD hv (ht _) (by have := nd.1; omega) f (by omega), ha f (by omega)]
    have e1 : i + (s + 1) = i + s + 1 := by omega
    rw [e1, zt_V_suc (by omega) (by omega)]
    exact ⟨fun a => ⟨a.1.symm, a.2⟩, fun a => ⟨a.1.symm, a.2⟩⟩
/-- in tails -/
theorem zt_at_N (hg : ∀ i, i < L → g i = t i + 1) {v s i : Nat} (hi : i + s ≤ L) (ha : zt_at t L E l v s i) {j : Nat} (hj : j + s ≤ L) : l v ≤ zt_V t L (E v) (j + s) ↔ s ≤ zt_N g L j i := by
  rw [ha (j + s) hj, zt_V_N (t := t) hg hi hj (by omega) (by omega)]
  have e1 : i + s - s = i := by omega
  have e2 : j + s - s = j := by omega
  rw [e1, e2, zt_N_c (by omega) (by omega)]
/-- tails before i that share s letters with it -/
noncomputable def zt_lf (g : Nat → Nat) (L i s : Nat) : Nat := zt_c (fun j => zt_T g j i ∧ s ≤ zt_N g L j i) L
theorem zt_at_le {v s i : Nat} (hi : i + s ≤ L) (ha : zt_at t L E l v s i) {e : Nat} (he : e ≤ L) (h : l v ≤ zt_V t L (E v) e) : s ≤ e :=
  Nat.le_trans ((ha e he).1 h) (zt_V_r hi he)
theorem zt_X_N (hz : zt_Z g L) (hg : ∀ i, i < L → g i = t i + 1) {v s i : Nat} (hi : i + s ≤ L) (ha : zt_at t L E l v s i) (c : Nat) : zt_X t L E l v c = zt_c (fun j => s ≤ zt_N g L j i ∧ g (j + s) = c + 1) L := by
  refine zt_bij (fun e => e - s) L L (fun e he hq => ?_) (fun x y hx hy qx qy ee => ?_) (fun j hj hq => ?_)
  · have se := zt_at_le hi ha (e := e) (by omega) hq.1
    have e1 : e - s + s = e := by omega
    refine ⟨by show e - s < L; omega, (zt_at_N hg hi ha (j := e - s) (by omega)).1 (by rw [e1]; exact hq.1), ?_⟩
    show g (e - s + s) = c + 1
    rw [e1, hg e he, hq.2]
  · have s1 := zt_at_le hi ha (e := x) (by omega) qx.1
    have s2 := zt_at_le hi ha (e := y) (by omega) qy.1
    have ee' : x - s = y - s := ee
    omega
  · have hlt : j + s < L := by
      refine Classical.byContradiction fun cn => ?_
      have := (hz (j + s)).2 (by omega)
      have := hq.2
      omega
    refine ⟨j + s, hlt, ⟨(zt_at_N hg hi ha (by omega)).2 hq.1, ?_⟩, by show j + s - s = j; omega⟩
    have := hg _ hlt
    have := hq.2
    omega
theorem zt_tl_N (hg : ∀ i, i < L → g i = t i + 1) {v s i : Nat} (hi : i + s ≤ L) (hiL : i < L) (ha : zt_at t L E l v s i) : zt_tl t L E l v = zt_c (fun j => s ≤ zt_N g L j i) L := by
  by_cases s0 : s = 0
  · subst s0
    unfold zt_tl
    rw [zt_call (p := fun e => l v ≤ zt_V t L (E v) (e + 1)) L (fun e he => (ha (e + 1) (by omega)).2 (Nat.zero_le _)), zt_call (p := fun j => 0 ≤ zt_N g L j i) L (fun j _ => Nat.zero_le _)]
  · refine zt_bij (fun e => e + 1 - s) L L (fun e he hq => ?_) (fun x y hx hy qx qy ee => ?_) (fun j hj hq => ?_)
    · have se := zt_at_le hi ha (e := e + 1) (by omega) hq
      have e1 : e + 1 - s + s = e + 1 := by omega
      exact ⟨by show e + 1 - s < L; omega, (zt_at_N hg hi ha (j := e + 1 - s) (by omega)).1 (by rw [e1]; exact hq)⟩
    · have s1 := zt_at_le hi ha (e := x + 1) (by omega) qx
      have s2 := zt_at_le hi ha (e := y + 1) (by omega) qy
      have ee' : x + 1 - s = y + 1 - s := ee
      omega
    · have jl := ((zt_N_iff (g := g) (L := L) (i := j) (j := i) (by omega) (by omega) s).1 hq).1
      have e1 : j + s - 1 + 1 = j + s := by omega
      refine ⟨j + s - 1, by omega, ?_, by show j + s - 1 + 1 - s = j; omega⟩
      show l v ≤ zt_V t L (E v) (j + s - 1 + 1)
      rw [e1]
      exact (zt_at_N hg hi ha jl).2 hq
/-- the tails that end here -/
noncomputable def zt_Y (g : Nat → Nat) (L i s : Nat) : Nat := zt_c (fun j => s ≤ zt_N g L j i ∧ g (j + s) = 0) L
theorem zt_tl_Y (hz : zt_Z g L) (hg : ∀ i, i < L → g i = t i + 1) (h4 : ∀ i, g i ≤ 4) {v s i : Nat} (hi : i + s ≤ L) (hiL : i < L) (ha : zt_at t L E l v s i) : zt_tl t L E l v = zt_Y g L i s + zt_X t L E l v 0 + zt_X t L E l v 1 + zt_X t L E l v 2 + zt_X t L E l v 3 := by
  rw [zt_tl_N hg hi hiL ha, zt_X_N hz hg hi ha, zt_X_N hz hg hi ha, zt_X_N hz hg hi ha, zt_X_N hz hg hi ha]
  exact zt_c5 (f := fun j => g (j + s)) L (fun _ => h4 _)
end
section
variable {g : Nat → Nat} {L : Nat}
theorem zt_lf_0 {i : Nat} : zt_lf g L i 0 = zt_r g L i := zt_cc L fun _ _ => ⟨fun a => a.1, fun a => ⟨a, Nat.zero_le _⟩⟩
theorem zt_lf_end (hz : zt_Z g L) {i s : Nat} (hi : i < L) (h : i + s = L) : zt_lf g L i s = 0 ∧ zt_Y g L i s = 1 := by
  constructor
  · refine zt_cz L fun j hj a => ?_
    have b := (zt_N_iff (g := g) (L := L) (i := j) (j := i) (by omega) (by omega) s).1 a.2
    obtain ⟨d, d1, d2⟩ := a.1
    by_cases c : d < s
    · have := b.2.2 d c
      omega
    · have := (hz (i + d)).2 (by omega)
      omega
  · refine zt_c1 L i hi ⟨by rw [zt_N_s (by omega)]; omega, (hz _).2 (by omega)⟩ fun j hj a => ?_
    have b := (zt_N_iff (g := g) (L := L) (i := j) (j := i) (by omega) (by omega) s).1 a.1
    have := (hz _).1 a.2
    omega
theorem zt_lf_1 (hz : zt_Z g L) {i s c : Nat} (hi : i < L) (h : i + s < L) (hc : g (i + s) = c + 1) : zt_lf g L i s = zt_Y g L i s + zt_s (fun x => zt_c (fun j => s ≤ zt_N g L j i ∧ g (j + s) = x + 1) L) c + zt_lf g L i (s + 1) := by
  have e0 : zt_s (fun x => zt_c (fun j => s ≤ zt_N g L j i ∧ g (j + s) = x) L) (c + 1) = zt_Y g L i s + zt_s (fun x => zt_c (fun j => s ≤ zt_N g L j i ∧ g (j + s) = x + 1) L) c := by
    clear hc
    induction c with
    | zero => rw [zt_s1, zt_s0, zt_s0]; unfold zt_Y; omega
    | succ c ih => rw [zt_s1, ih, zt_s1]; omega
  rw [← e0, ← zt_cltx (A := fun j => s ≤ zt_N g L j i) (f := fun j => g (j + s))]
  unfold zt_lf
  have es := zt_cor (p := fun j => s ≤ zt_N g L j i ∧ g (j + s) < c + 1) (q := fun j => zt_T g j i ∧ s + 1 ≤ zt_N g L j i) L (fun j hj a1 a2 => by
    have b := zt_N_e (g := g) (L := L) (i := j) (j := i) (by omega) (by omega) (q := s) (by have := a2.2; omega)
    have := a1.2
    omega)
  rw [← es]
  refine zt_cc L fun j hj => ⟨fun ⟨a1, a2⟩ => ?_, fun a => ?_⟩
  · by_cases f : s + 1 ≤ zt_N g L j i
    · exact Or.inr ⟨a1, f⟩
    · left
      refine ⟨a2, ?_⟩
      have b := (zt_N_iff (g := g) (L := L) (i := j) (j := i) (by omega) (by omega) s).1 a2
      obtain ⟨d, d1, d2⟩ := a1
      by_cases c1 : d < s
      · have := b.2.2 d c1
        omega
      · by_cases c2 : d = s
        · rw [c2, hc] at d2; exact d2
        · exfalso
          refine f ((zt_N_iff (by omega) (by omega) _).2 ⟨?_, by omega, fun q hq => d1 q (by omega)⟩)
          refine Classical.byContradiction fun c3 => ?_
          have z := (hz (j + s)).2 (by omega)
          have := d1 s (by omega)
          omega
  · rcases a with ⟨a1, a2⟩ | ⟨a1, a2⟩
    · exact ⟨⟨s, fun q hq => zt_N_e (L := L) (by omega) (by omega) (by omega), by rw [hc]; exact a2⟩, a1⟩
    · exact ⟨a1, by omega⟩
end
