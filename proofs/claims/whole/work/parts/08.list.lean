/-! the whole tree: its measures, its tails in order, the node of a pattern -/
def zt_A (g : Nat → Nat) (L : Nat) (E l : Nat → Nat) (v i : Nat) : Prop := l v ≤ zt_N g L (E v) i
noncomputable def zt_cA (g : Nat → Nat) (L : Nat) (E l : Nat → Nat) (v : Nat) : Nat := zt_c (fun i => zt_A g L E l v i) L
noncomputable def zt_C (g : Nat → Nat) (L : Nat) (E l : Nat → Nat) (v x : Nat) : Nat := zt_c (fun i => zt_A g L E l v i ∧ g (i + l v) = x) L
noncomputable def zt_off (g : Nat → Nat) (L : Nat) (E l : Nat → Nat) (v : Nat) : Nat := zt_c (fun j => zt_T g j (E v) ∧ zt_N g L (E v) j < l v) L
noncomputable def zt_sub (g : Nat → Nat) (L n : Nat) (E l : Nat → Nat) (v : Nat) : Nat := zt_c (fun w => l v ≤ l w ∧ l v ≤ zt_N g L (E v) (E w)) n
/-- a first difference before s is one from every point that shares s letters -/
theorem zt_T_sh {g : Nat → Nat} {L j e e' s : Nat} (hz : zt_Z g L) (hj : j ≤ L) (he : e ≤ L) (he' : e' ≤ L) (h1 : s ≤ zt_N g L e e') (h2 : zt_N g L e j < s) (hT : zt_T g j e) : zt_T g j e' := by
  obtain ⟨d, a, b⟩ := hT
  have c := (zt_N_iff (g := g) he he' s).1 h1
  by_cases hd : d < s
  · exact ⟨d, fun q hq => (a q hq).trans (c.2.2 q (by omega)), by rw [← c.2.2 d hd]; exact b⟩
  · exfalso
    have : s ≤ zt_N g L e j := by
      refine (zt_N_iff he hj s).2 ⟨c.1, ?_, fun q hq => (a q (by omega)).symm⟩
      by_cases e0 : s = 0
      · omega
      · have h3 := a (s - 1) (by omega)
        have h4 : ¬ g (e + (s - 1)) = 0 := fun z => by
          have := (hz (e + (s - 1))).1 z
          omega
        refine Classical.byContradiction fun cn => ?_
        have := (hz (j + (s - 1))).2 (by omega)
        omega
    omega
section
variable {g : Nat → Nat} {L n : Nat} {E l p b nt : Nat → Nat}
theorem zt_H_G (h : zt_H g L L n E l p b nt) {m : Nat} (h1 : ∀ v, 0 < v → v < n → l (p v) ≤ m) (h2 : m = 0 ∨ ∃ v, 0 < v ∧ v < n ∧ l (p v) = m) : zt_G g L m := by
  obtain ⟨⟨hB, _, _, _⟩, _⟩ := h
  have hU := zt_U_P g (L := L) (k := L) (Nat.le_refl _)
  have hF := zt_F_S hU
  obtain ⟨h0, hA, hB1, hB2, hC⟩ := hB
  have key : ∀ i j, i < j → j < L → zt_N g L i j ≤ m := by
    intro i j hij hj
    have pi : zt_P L L i := Or.inl (by omega)
    have pj : zt_P L L j := Or.inl hj
    have a := zt_N_j (g := g) (L := L) (i := i) (j := j) (by omega) (by omega)
    obtain ⟨u, hu, e1, e2⟩ := hB1 i _ pi (hF.2 i i pi pi)
    rw [zt_N_s (by omega)] at e1 e2
    have hu' : u < n := hu
    have u0 : 0 < u := by
      refine Nat.pos_of_ne_zero fun z => ?_
      subst z
      omega
    have pu := (hA u hu).1
    have s1 := hF.1 i (E u) _ pi pu (hF.2 i j pi pj) (by rw [hU.1 _ _ pi pu]; omega)
    have := (hC u u0 hu).2.2.2 _ s1 (by omega)
    have := h1 u u0 hu'
    omega
  refine ⟨fun i j hi hj ne => ?_, ?_⟩
  · by_cases c : i < j
    · exact key i j c hj
    · rw [zt_N_c (by omega) (by omega)]
      exact key j i (by omega) hi
  · by_cases m0 : m = 0
    · exact Or.inl m0
    · rcases h2 with e | ⟨v, v0, hv, e⟩
      · exact Or.inl e
      · right
        have cv := hC v v0 hv
        have pv := (hA v hv).1
        have pp := (hA _ cv.1).1
        have lv := (hA v hv).2.1
        have pvL := zt_P_L (Nat.le_refl _) pv
        rw [zt_N_s pvL] at lv
        obtain ⟨x, hx, e1⟩ := hF.1 _ (E v) _ pp pv (hA _ cv.1).2.2 cv.2.2.1
        have hxL := zt_P_L (Nat.le_refl _) hx
        have a := zt_N_j (g := g) pvL hxL
        refine ⟨E v, x, by omega, by omega, fun c => ?_, by omega⟩
        subst c
        rw [zt_N_s pvL] at e1
        omega
theorem zt_P_full {i : Nat} (hi : i ≤ L) : zt_P L L i := by
  by_cases c : i < L
  · exact Or.inl c
  · exact Or.inr (by omega)
/-- the child by the letter c -/
theorem zt_A_ch (hz : zt_Z g L) (h : zt_H g L L n E l p b nt) {v c : Nat} (hv : v < n) (hc : c < 4) (hb : b (v * 4 + c) ≠ 0) (i : Nat) (hi : i ≤ L) : zt_A g L E l (b (v * 4 + c)) i ↔ zt_A g L E l v i ∧ g (i + l v) = c + 1 := by
  obtain ⟨⟨hB, hR, _, _⟩, _⟩ := h
  have hF := zt_F_S (zt_U_P g (L := L) (k := L) (Nat.le_refl _))
  obtain ⟨r1, r2, r3⟩ := hR.1 v c hv hc hb
  have cu := hB.2.2.2.2 _ (by omega) r1
  rw [r2] at cu
  have pv := zt_P_L (Nat.le_refl _) (hB.2.1 v hv).1
  have pu := zt_P_L (Nat.le_refl _) (hB.2.1 _ r1).1
  unfold zt_A
  constructor
  · intro a
    refine ⟨zt_N_u pv pu hi cu.2.2.1 (by omega), ?_⟩
    rw [← r3]
    exact (zt_N_e pu hi (by omega)).symm
  · rintro ⟨a1, a2⟩
    have hlt : i + l v < L := by
      refine Classical.byContradiction fun cn => ?_
      have := (hz (i + l v)).2 (by omega)
      omega
    exact (zt_ch (Nat.le_refl L) hF hB hR hv (zt_P_full hi) a1 hlt a2).2.2.2.2.2
theorem zt_A_no (hz : zt_Z g L) (h : zt_H g L L n E l p b nt) {v c : Nat} (hv : v < n) (hb : b (v * 4 + c) = 0) (i : Nat) (hi : i ≤ L) (ha : zt_A g L E l v i) : ¬ g (i + l v) = c + 1 := by
  obtain ⟨⟨hB, hR, _, _⟩, _⟩ := h
  have hF := zt_F_S (zt_U_P g (L := L) (k := L) (Nat.le_refl _))
  intro a2
  have hlt : i + l v < L := by
    refine Classical.byContradiction fun cn => ?_
    have := (hz (i + l v)).2 (by omega)
    omega
  have := (zt_ch (Nat.le_refl L) hF hB hR hv (zt_P_full hi) ha hlt a2).2.1
  omega
theorem zt_C_ch (hz : zt_Z g L) (h : zt_H g L L n E l p b nt) {v c : Nat} (hv : v < n) (hc : c < 4) : zt_C g L E l v (c + 1) = if b (v * 4 + c) = 0 then 0 else zt_cA g L E l (b (v * 4 + c)) := by
  split
  · rename_i hb
    exact zt_cz L fun i hi a => zt_A_no hz h hv hb i (by omega) a.1 a.2
  · rename_i hb
    exact zt_cc L fun i hi => (zt_A_ch hz h hv hc hb i (by omega)).symm
theorem zt_C_0 (hz : zt_Z g L) (h : zt_H g L L n E l p b nt) {v : Nat} (hv : v < n) : zt_C g L E l v 0 = if nt v = 0 then 0 else 1 := by
  obtain ⟨⟨hB, hR, hN, _⟩, _⟩ := h
  have pv := zt_P_L (Nat.le_refl _) (hB.2.1 v hv).1
  have key : ∀ j, j < L → zt_A g L E l v j → g (j + l v) = 0 → l v = L - j := by
    intro j hj a1 a2
    have a3 := (hz (j + l v)).1 a2
    have a4 := (zt_N_iff (g := g) pv (by omega) _).1 a1
    omega
  split
  · rename_i e
    refine zt_cz L fun j hj a => ?_
    have := (hN v j hv).2 ⟨hj, key j hj a.1 a.2, a.1⟩
    omega
  · rename_i e
    obtain ⟨i, ei⟩ : ∃ i, nt v = i + 1 := ⟨nt v - 1, by omega⟩
    obtain ⟨i1, i2, i3⟩ := (hN v i hv).1 ei
    refine zt_c1 L i i1 ⟨i3, (hz _).2 (by omega)⟩ fun j hj a => ?_
    have := key j hj a.1 a.2
    omega
theorem zt_cA_5 (hg : ∀ i, g i ≤ 4) (v : Nat) : zt_cA g L E l v = zt_C g L E l v 0 + zt_C g L E l v 1 + zt_C g L E l v 2 + zt_C g L E l v 3 + zt_C g L E l v 4 := zt_c5 (f := fun i => g (i + l v)) L (fun _ => hg _)
theorem zt_off_ch (hz : zt_Z g L) (h : zt_H g L L n E l p b nt) {v c : Nat} (hv : v < n) (hc : c < 4) (hb : b (v * 4 + c) ≠ 0) : zt_off g L E l (b (v * 4 + c)) = zt_off g L E l v + zt_c (fun i => zt_A g L E l v i ∧ g (i + l v) < c + 1) L := by
  have ch := zt_A_ch hz h hv hc hb
  obtain ⟨⟨hB, hR, _, _⟩, _⟩ := h
  obtain ⟨r1, r2, r3⟩ := hR.1 v c hv hc hb
  have cu := hB.2.2.2.2 _ (by omega) r1
  rw [r2] at cu
  have pv := zt_P_L (Nat.le_refl _) (hB.2.1 v hv).1
  have pu := zt_P_L (Nat.le_refl _) (hB.2.1 _ r1).1
  generalize b (v * 4 + c) = u at *
  unfold zt_off
  have es := zt_cor (p := fun j => zt_T g j (E v) ∧ zt_N g L (E v) j < l v) (q := fun i => zt_A g L E l v i ∧ g (i + l v) < c + 1) L (fun j _ a1 a2 => by
    have h1 := a2.1
    have h2 := a1.2
    unfold zt_A at h1
    omega)
  rw [← es]
  refine zt_cc L fun j hj => ⟨fun ⟨a1, a2⟩ => ?_, fun a => ?_⟩
  · by_cases e : zt_N g L (E v) j < l v
    · left
      refine ⟨zt_T_sh hz (by omega) pu pv (by rw [zt_N_c pu pv]; exact cu.2.2.1) ?_ a1, e⟩
      refine Classical.byContradiction fun cn => ?_
      have := zt_N_u (g := g) pv pu (k := j) (s := l v) (by omega) cu.2.2.1 (by omega)
      omega
    · right
      have av : zt_A g L E l v j := by unfold zt_A; omega
      refine ⟨av, ?_⟩
      have ne : ¬ g (j + l v) = c + 1 := fun cn => by
        have := (ch j (by omega)).2 ⟨av, cn⟩
        unfold zt_A at this
        omega
      have ju : l v ≤ zt_N g L (E u) j := zt_N_u pu pv (by omega) (by rw [zt_N_c pu pv]; exact cu.2.2.1) av
      obtain ⟨d, d1, d2⟩ := a1
      by_cases f : d < l v
      · have := zt_N_e (g := g) pu (by omega : j ≤ L) (q := d) (by omega)
        omega
      · by_cases f2 : d = l v
        · rw [f2, r3] at d2; exact d2
        · have := d1 (l v) (by omega)
          omega
  · rcases a with ⟨a1, a2⟩ | ⟨a1, a2⟩
    · refine ⟨zt_T_sh hz (by omega) pv pu cu.2.2.1 a2 a1, ?_⟩
      refine Classical.byContradiction fun cn => ?_
      have := zt_N_u (g := g) pv pu (k := j) (s := l v) (by omega) cu.2.2.1 (by omega)
      omega
    · have ju : l v ≤ zt_N g L (E u) j := zt_N_u pu pv (by omega) (by rw [zt_N_c pu pv]; exact cu.2.2.1) a1
      refine ⟨⟨l v, fun q hq => (zt_N_e pu (by omega) (by omega)).symm, by rw [r3]; exact a2⟩, ?_⟩
      refine Classical.byContradiction fun cn => ?_
      have := ((ch j (by omega)).1 (by unfold zt_A; omega)).2
      omega
theorem zt_r_off (hz : zt_Z g L) (h : zt_H g L L n E l p b nt) {v i : Nat} (hv : v < n) (hi : nt v = i + 1) : i < L ∧ zt_A g L E l v i ∧ zt_r g L i = zt_off g L E l v := by
  obtain ⟨⟨hB, hR, hN, _⟩, _⟩ := h
  have pv := zt_P_L (Nat.le_refl _) (hB.2.1 v hv).1
  obtain ⟨i1, i2, i3⟩ := (hN v i hv).1 hi
  refine ⟨i1, i3, zt_cc L fun j hj => ⟨fun a => ?_, fun a => ?_⟩⟩
  · obtain ⟨d, d1, d2⟩ := a
    have dl : d < l v := by
      refine Classical.byContradiction fun cn => ?_
      have := (hz (i + d)).2 (by omega)
      omega
    have e1 : g (E v + d) = g (i + d) := zt_N_e pv (by omega) (by omega)
    refine ⟨⟨d, fun q hq => ?_, by rw [e1]; exact d2⟩, ?_⟩
    · rw [d1 q hq]
      exact (zt_N_e pv (by omega) (by omega)).symm
    · refine Classical.byContradiction fun cn => ?_
      have := zt_N_e (g := g) pv (by omega : j ≤ L) (q := d) (by omega)
      omega
  · exact zt_T_sh hz (by omega) pv (by omega) i3 a.2 a.1
/-- nodes under a node -/
theorem zt_sub_ch (hz : zt_Z g L) (hg : ∀ i, g i ≤ 4) (h : zt_H g L L n E l p b nt) {v : Nat} (hv : v < n) : zt_sub g L n E l v = 1 + (if b (v * 4 + 0) = 0 then 0 else zt_sub g L n E l (b (v * 4 + 0))) + (if b (v * 4 + 1) = 0 then 0 else zt_sub g L n E l (b (v * 4 + 1))) + (if b (v * 4 + 2) = 0 then 0 else zt_sub g L n E l (b (v * 4 + 2))) + (if b (v * 4 + 3) = 0 then 0 else zt_sub g L n E l (b (v * 4 + 3))) := by
  have ch := fun c hc hb => zt_A_ch hz h hv (c := c) hc hb
  have no := fun c hb => zt_A_no hz h hv (c := c) hb
  obtain ⟨⟨hB, hR, _, _⟩, _⟩ := h
  have hU := zt_U_P g (L := L) (k := L) (Nat.le_refl _)
  have hF := zt_F_S hU
  have hA := hB.2.1
  have hB2 := hB.2.2.2.1
  have hC := hB.2.2.2.2
  have pL : ∀ w, w < n → E w ≤ L := fun w hw => zt_P_L (Nat.le_refl _) (hA w hw).1
  have vv : l v ≤ zt_N g L (E v) (E v) := (hA v hv).2.1
  have nn : ∀ w, w < n → l v ≤ l w → l v ≤ zt_N g L (E v) (E w) → w ≠ v → l v < l w := by
    intro w hw a1 a2 ne
    refine Classical.byContradiction fun cn => ?_
    exact ne (hB2 v w hv hw (by omega) a2).symm
  have X : ∀ c, c < 4 → zt_c (fun w => ((l v ≤ l w ∧ l v ≤ zt_N g L (E v) (E w)) ∧ w ≠ v) ∧ g (E w + l v) = c + 1) n = if b (v * 4 + c) = 0 then 0 else zt_sub g L n E l (b (v * 4 + c)) := by
    intro c hc
    split
    · rename_i hb
      exact zt_cz n fun w hw a => no c hb (E w) (pL w hw) a.1.1.2 a.2
    · rename_i hb
      obtain ⟨r1, r2, r3⟩ := hR.1 v c hv hc hb
      have cu := hC _ (by omega) r1
      rw [r2] at cu
      refine zt_cc n fun w hw => ⟨fun ⟨⟨⟨a1, a2⟩, a3⟩, a4⟩ => ?_, fun ⟨a1, a2⟩ => ?_⟩
      · have f1 := (ch c hc hb (E w) (pL w hw)).2 ⟨a2, a4⟩
        refine ⟨?_, f1⟩
        have f2 := nn w hw a1 a2 a3
        refine Classical.byContradiction fun cn => ?_
        have f3 := hF.1 (E w) (E (b (v * 4 + c))) _ (hA w hw).1 (hA _ r1).1 (hA w hw).2.2 (by rw [hU.1 _ _ (hA w hw).1 (hA _ r1).1]; unfold zt_A at f1; omega)
        have := cu.2.2.2 _ f3 (by omega)
        omega
      · have f1 := (ch c hc hb (E w) (pL w hw)).1 a2
        refine ⟨⟨⟨by omega, f1.1⟩, fun e => ?_⟩, f1.2⟩
        subst e
        omega
  have S0 : zt_c (fun w => ((l v ≤ l w ∧ l v ≤ zt_N g L (E v) (E w)) ∧ w ≠ v) ∧ g (E w + l v) = 0) n = 0 := by
    refine zt_cz n fun w hw a => ?_
    have f2 := nn w hw a.1.1.1 a.1.1.2 a.1.2
    have f3 := (hA w hw).2.1
    rw [zt_N_s (pL w hw)] at f3
    have f4 := pL w hw
    have := (hz _).1 a.2
    omega
  have T := zt_c5 (A := fun w => (l v ≤ l w ∧ l v ≤ zt_N g L (E v) (E w)) ∧ w ≠ v) (f := fun w => g (E w + l v)) n (fun _ => hg _)
  have R := zt_crm (q := fun w => l v ≤ l w ∧ l v ≤ zt_N g L (E v) (E w)) n v hv ⟨Nat.le_refl _, vv⟩
  have X0 := X 0 (by omega)
  have X1 := X 1 (by omega)
  have X2 := X 2 (by omega)
  have X3 := X 3 (by omega)
  unfold zt_sub at *
  rw [R, T, S0, X0, X1, X2, X3]
  omega
end
