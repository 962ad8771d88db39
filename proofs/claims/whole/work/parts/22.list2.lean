/-! the listing of the tree: ranks under a node, the stack -/
theorem zt_A_rk {g : Nat → Nat} {L : Nat} {E l : Nat → Nat} {v : Nat} (hz : zt_Z g L) (hE : E v ≤ L) (hl : E v + l v ≤ L) {i : Nat} (hi : i < L) : (zt_A g L E l v i → zt_off g L E l v ≤ zt_r g L i ∧ zt_r g L i < zt_off g L E l v + zt_cA g L E l v) ∧ (¬ zt_A g L E l v i → zt_r g L i < zt_off g L E l v ∨ zt_off g L E l v + zt_cA g L E l v ≤ zt_r g L i) := by
  constructor
  · intro a
    have a' : l v ≤ zt_N g L (E v) i := a
    have e : zt_r g L i = zt_off g L E l v + zt_c (fun j => zt_A g L E l v j ∧ zt_T g j i) L := by
      unfold zt_r zt_off
      rw [← zt_cor (p := fun j => zt_T g j (E v) ∧ zt_N g L (E v) j < l v) (q := fun j => zt_A g L E l v j ∧ zt_T g j i) L (fun j _ h1 h2 => by
        have h3 := h1.2
        have h4 : l v ≤ zt_N g L (E v) j := h2.1
        omega)]
      refine zt_cc L fun j hj => ⟨fun hT => ?_, fun h => ?_⟩
      · by_cases c : zt_N g L (E v) j < l v
        · refine Or.inl ⟨zt_T_sh (e := i) (s := l v) hz (by omega) (by omega) hE (by rw [zt_N_c (by omega) hE]; exact a') ?_ hT, c⟩
          refine Classical.byContradiction fun cn => ?_
          have := zt_N_u (g := g) (L := L) (i := E v) (j := i) (k := j) (s := l v) hE (by omega) (by omega) a' (by omega)
          omega
        · exact Or.inr ⟨by unfold zt_A; omega, hT⟩
      · rcases h with ⟨h1, h2⟩ | ⟨h1, h2⟩
        · exact zt_T_sh hz (by omega) hE (by omega) a' h2 h1
        · exact h2
    have lt : zt_c (fun j => zt_A g L E l v j ∧ zt_T g j i) L < zt_cA g L E l v := zt_clt L i (fun j _ h => h.1) hi (fun h => zt_T_ir g i h.2) a
    omega
  · intro a
    have a' : ¬ l v ≤ zt_N g L (E v) i := a
    by_cases hT : zt_T g i (E v)
    · left
      refine zt_clt L i (fun j hj h => ⟨zt_T_tr h hT, ?_⟩) hi (zt_T_ir g i) ⟨hT, by omega⟩
      refine Classical.byContradiction fun cn => ?_
      have := zt_T_b (g := g) (L := L) (i := j) (j := i) (k := E v) (s := l v) (by omega) (by omega) hE hz h hT (by rw [zt_N_c (by omega) hE]; omega)
      rw [zt_N_c (by omega) hE] at this
      omega
    · right
      have ne : E v ≠ i := fun c => by
        rw [c, zt_N_s (by omega)] at a'
        rw [c] at hl
        omega
      have hT2 : zt_T g (E v) i := by
        rcases zt_T_to hz hE (by omega : i ≤ L) ne with c | c
        · exact c
        · exact absurd c hT
      unfold zt_off zt_cA zt_r
      rw [← zt_cor (p := fun j => zt_T g j (E v) ∧ zt_N g L (E v) j < l v) (q := fun j => zt_A g L E l v j) L (fun j _ h1 h2 => by
        have h3 := h1.2
        have h4 : l v ≤ zt_N g L (E v) j := h2
        omega)]
      refine zt_cle L fun j hj h => ?_
      rcases h with h | h
      · exact zt_T_tr h.1 hT2
      · have h' : l v ≤ zt_N g L (E v) j := h
        have nj : j ≠ i := fun c => a' (c ▸ h')
        rcases zt_T_to hz (by omega : j ≤ L) (by omega : i ≤ L) nj with c | c
        · exact c
        · exfalso
          have b1 := zt_T_b (g := g) (L := L) (i := E v) (j := i) (k := j) (s := l v) hE (by omega) (by omega) hz hT2 c h'
          exact a' (zt_N_u hE (by omega) (by omega) h' (by rw [zt_N_c (by omega) (by omega)]; exact b1))
section
variable {g : Nat → Nat} {L n : Nat} {E l p b nt : Nat → Nat}
noncomputable def zt_Cc (g : Nat → Nat) (L : Nat) (E l : Nat → Nat) (v c : Nat) : Nat := zt_C g L E l v (c + 1)
noncomputable def zt_Xc (g : Nat → Nat) (L n : Nat) (E l b : Nat → Nat) (v c : Nat) : Nat := if b (v * 4 + c) = 0 then 0 else zt_sub g L n E l (b (v * 4 + c))
def zt_dt (nt : Nat → Nat) (v : Nat) : Nat := if nt v = 0 then 0 else 1
theorem zt_cA_s (hz : zt_Z g L) (h4 : ∀ i, g i ≤ 4) (h : zt_H g L L n E l p b nt) {v : Nat} (hv : v < n) : zt_cA g L E l v = zt_dt nt v + zt_s (zt_Cc g L E l v) 4 := by
  rw [zt_cA_5 h4, zt_C_0 hz h hv, zt_s1, zt_s1, zt_s1, zt_s1, zt_s0]
  have e0 : zt_Cc g L E l v 0 = zt_C g L E l v 1 := rfl
  have e1 : zt_Cc g L E l v 1 = zt_C g L E l v 2 := rfl
  have e2 : zt_Cc g L E l v 2 = zt_C g L E l v 3 := rfl
  have e3 : zt_Cc g L E l v 3 = zt_C g L E l v 4 := rfl
  unfold zt_dt
  omega
theorem zt_sub_s (hz : zt_Z g L) (h4 : ∀ i, g i ≤ 4) (h : zt_H g L L n E l p b nt) {v : Nat} (hv : v < n) : zt_sub g L n E l v = 1 + zt_s (zt_Xc g L n E l b v) 4 := by
  rw [zt_sub_ch hz h4 h hv, zt_s1, zt_s1, zt_s1, zt_s1, zt_s0]
  unfold zt_Xc
  omega
theorem zt_Cc_s (v c : Nat) : zt_c (fun i => zt_A g L E l v i ∧ g (i + l v) < c + 1) L = zt_C g L E l v 0 + zt_s (zt_Cc g L E l v) c := by
  rw [zt_cltx (A := fun i => zt_A g L E l v i) (f := fun i => g (i + l v))]
  show zt_s (fun x => zt_C g L E l v x) (c + 1) = _
  induction c with
  | zero => rw [zt_s1, zt_s0, zt_s0]; omega
  | succ c ih => rw [zt_s1, ih, zt_s1]; unfold zt_Cc; omega
theorem zt_off_s (hz : zt_Z g L) (h : zt_H g L L n E l p b nt) {v c : Nat} (hv : v < n) (hc : c < 4) (hb : b (v * 4 + c) ≠ 0) : zt_off g L E l (b (v * 4 + c)) = zt_off g L E l v + zt_dt nt v + zt_s (zt_Cc g L E l v) c := by
  rw [zt_off_ch hz h hv hc hb, zt_Cc_s, zt_C_0 hz h hv]
  unfold zt_dt
  omega
theorem zt_sub_1 (h : zt_H g L L n E l p b nt) {v : Nat} (hv : v < n) : 1 ≤ zt_sub g L n E l v :=
  zt_cge1 (p := fun w => l v ≤ l w ∧ l v ≤ zt_N g L (E v) (E w)) n v hv ⟨Nat.le_refl _, (h.1.1.2.1 v hv).2.1⟩
theorem zt_sub_n (v : Nat) : zt_sub g L n E l v ≤ n := zt_cn _ _
theorem zt_s_ge (f : Nat → Nat) (n : Nat) (h : ∀ i, i < n → 1 ≤ f i) : n ≤ zt_s f n := by
  induction n with
  | zero => exact Nat.zero_le _
  | succ n ih =>
    rw [zt_s1]
    have a := ih (fun i hi => h i (by omega))
    have b := h n (by omega)
    omega
/-- the stack over the tree under the node v0 -/
def zt_SS (g : Nat → Nat) (L n : Nat) (E l : Nat → Nat) (v0 : Nat) (st : Nat → Nat) (h found vis : Nat) : Prop := zt_ST (zt_cA g L E l) (zt_off g L E l) (zt_sub g L n E l) n (zt_off g L E l v0) (zt_cA g L E l v0) (zt_sub g L n E l v0) st h found vis
def zt_SQ' (g : Nat → Nat) (L n : Nat) (E l b nt : Nat → Nat) (v0 v : Nat) (st : Nat → Nat) (h c found vis : Nat) : Prop := zt_SP (zt_cA g L E l) (zt_off g L E l) (zt_sub g L n E l) n (zt_off g L E l v0) (zt_cA g L E l v0) (zt_sub g L n E l v0) (zt_Cc g L E l v) (zt_Xc g L n E l b v) (zt_off g L E l v + zt_dt nt v) st h c found vis
theorem zt_SS_0 {v0 : Nat} (hv : v0 < n) {st : Nat → Nat} (h0 : st 0 = v0) : zt_SS g L n E l v0 st 1 0 0 := by
  refine ⟨fun i hi => ?_, fun i hi => ?_, ?_, ?_⟩
  · have : i = 0 := by omega
    subst this; rw [h0]; exact hv
  · have : i = 0 := by omega
    subst this
    rw [zt_s1, zt_s0, h0]; omega
  · rw [zt_s1, zt_s0, h0]; omega
  · rw [zt_s1, zt_s0, h0]; omega
theorem zt_SS_pop (hz : zt_Z g L) (h4 : ∀ i, g i ≤ 4) (H : zt_H g L L n E l p b nt) {v0 h found vis : Nat} {st : Nat → Nat} (S : zt_SS g L n E l v0 st (h + 1) found vis) : st h < n ∧ vis < n ∧ h < n ∧ zt_off g L E l (st h) = zt_off g L E l v0 + found ∧ zt_SQ' g L n E l b nt v0 (st h) st h 4 (found + zt_dt nt (st h)) (vis + 1) := by
  have hv := S.1 h (by omega)
  have a := zt_ST_pop (C := zt_Cc g L E l (st h)) (X := zt_Xc g L n E l b (st h)) (d := zt_dt nt (st h)) S (zt_cA_s hz h4 H hv) (zt_sub_s hz h4 H hv)
  have s4 := S.2.2.2
  have s5 := zt_s_ge (fun j => zt_sub g L n E l (st j)) (h + 1) (fun i hi => zt_sub_1 H (S.1 i hi))
  have s6 := zt_sub_n (g := g) (L := L) (n := n) (E := E) (l := l) v0
  exact ⟨hv, by omega, by omega, a.1, a.2⟩
theorem zt_SS_no (hz : zt_Z g L) (H : zt_H g L L n E l p b nt) {v0 v h c found vis : Nat} {st : Nat → Nat} (hv : v < n) (hc : c < 4) (hb : b (v * 4 + c) = 0) (S : zt_SQ' g L n E l b nt v0 v st h (c + 1) found vis) : zt_SQ' g L n E l b nt v0 v st h c found vis :=
  zt_SP_no S (by unfold zt_Cc; rw [zt_C_ch hz H hv hc, if_pos hb]) (by unfold zt_Xc; rw [if_pos hb])
theorem zt_SS_ch (hz : zt_Z g L) (H : zt_H g L L n E l p b nt) {v0 v h c found vis : Nat} {st : Nat → Nat} (hv : v < n) (hc : c < 4) (hb : b (v * 4 + c) ≠ 0) (S : zt_SQ' g L n E l b nt v0 v st h (c + 1) found vis) : h < n ∧ zt_SQ' g L n E l b nt v0 v (zt_up st h (b (v * 4 + c))) (h + 1) c found vis := by
  have u1 := (H.1.2.1.1 v c hv hc hb).1
  have S' := zt_SP_ch (u := b (v * 4 + c)) S u1 (by unfold zt_Cc; rw [zt_C_ch hz H hv hc, if_neg hb]) (by unfold zt_Xc; rw [if_neg hb]) (zt_off_s hz H hv hc hb)
  have s4 := S'.2.2.2.1
  have s5 := zt_s_ge (fun j => zt_sub g L n E l (zt_up st h (b (v * 4 + c)) j)) (h + 1) (fun i hi => zt_sub_1 H (S'.1 i hi))
  have s6 := zt_sub_n (g := g) (L := L) (n := n) (E := E) (l := l) v0
  exact ⟨by omega, S'⟩
theorem zt_SS_c0 {v0 v h found vis : Nat} {st : Nat → Nat} (S : zt_SQ' g L n E l b nt v0 v st h 0 found vis) : zt_SS g L n E l v0 st h found vis := zt_SP_0 S
theorem zt_SS_end {v0 h found vis : Nat} {st : Nat → Nat} (H : zt_H g L L n E l p b nt) (S : zt_SS g L n E l v0 st h found vis) (hh : h = 0 ∨ n ≤ vis) : found = zt_cA g L E l v0 := by
  have s3 := S.2.2.1
  have s4 := S.2.2.2
  have s5 := zt_s_ge (fun j => zt_sub g L n E l (st j)) h (fun i hi => zt_sub_1 H (S.1 i hi))
  have s6 := zt_sub_n (g := g) (L := L) (n := n) (E := E) (l := l) v0
  have : h = 0 := by omega
  subst this
  rw [zt_s0] at s3
  omega
theorem zt_cA_L (v : Nat) : zt_cA g L E l v ≤ L := zt_cn _ _
theorem zt_SS_f (hz : zt_Z g L) (h4 : ∀ i, g i ≤ 4) (H : zt_H g L L n E l p b nt) {v0 h found vis : Nat} {st : Nat → Nat} (S : zt_SS g L n E l v0 st (h + 1) found vis) : found + zt_dt nt (st h) ≤ L := by
  have a := (zt_SS_pop hz h4 H S).2.2.2.2.2.2.1
  have b1 := zt_cA_L (g := g) (L := L) (E := E) (l := l) v0
  omega
/-- what has been listed -/
def zt_ls (g : Nat → Nat) (L base found : Nat) (o : Nat → Nat) : Prop := ∀ f, f < found → o f < L ∧ zt_r g L (o f) = base + f
theorem zt_ls_1 {base found i : Nat} {o : Nat → Nat} (h : zt_ls g L base found o) (hi : i < L) (hr : zt_r g L i = base + found) : zt_ls g L base (found + 1) (zt_up o found i) := by
  intro f hf
  by_cases e : f = found
  · subst e; rw [zt_us]; exact ⟨hi, hr⟩
  · rw [zt_un _ _ e]; exact h f (by omega)
theorem zt_ls_O {o : Nat → Nat} (h : zt_ls g L 0 L o) : zt_O g L o := fun k hk => ⟨(h k hk).1, by have := (h k hk).2; omega⟩
theorem zt_off_0 (H : zt_H g L L n E l p b nt) : zt_off g L E l 0 = 0 := zt_cz L fun j _ h => by
  have := H.1.1.1.2
  have h2 := h.2
  omega
theorem zt_cA_0 (H : zt_H g L L n E l p b nt) : zt_cA g L E l 0 = L := zt_call L fun j _ => by
  have := H.1.1.1.2
  show l 0 ≤ _
  omega
theorem zt_ls_A (hz : zt_Z g L) (H : zt_H g L L n E l p b nt) {v : Nat} (hv : v < n) {o : Nat → Nat} (h : zt_ls g L (zt_off g L E l v) (zt_cA g L E l v) o) {i : Nat} (hi : i < L) : zt_A g L E l v i ↔ ∃ f, f < zt_cA g L E l v ∧ o f = i := by
  have hA := H.1.1.2.1 v hv
  have vL := zt_P_L (Nat.le_refl _) hA.1
  have lv := hA.2.1
  rw [zt_N_s vL] at lv
  have rk := fun i hi => zt_A_rk (g := g) (L := L) (E := E) (l := l) (v := v) hz vL (by omega) (i := i) hi
  constructor
  · intro a
    have r1 := (rk i hi).1 a
    have h1 := h (zt_r g L i - zt_off g L E l v) (by omega)
    exact ⟨_, by omega, zt_r_inj hz h1.1 hi (by omega)⟩
  · rintro ⟨f, hf, e⟩
    subst e
    refine Classical.byContradiction fun c => ?_
    have r1 := (rk _ hi).2 c
    have h1 := h f hf
    omega
/-- the measures -/
theorem zt_H_m (H : zt_H g L L n E l p b nt) : zt_G g L (zt_m (fun v => if v = 0 then 0 else l (p v)) n) := by
  refine zt_H_G H (fun v v0 hv => ?_) ?_
  · have := zt_m_ge (f := fun v => if v = 0 then 0 else l (p v)) hv
    rw [if_neg (by omega)] at this
    exact this
  · rcases zt_m_is (fun v => if v = 0 then 0 else l (p v)) n with e | ⟨v, hv, e⟩
    · exact Or.inl e
    · by_cases z : v = 0
      · rw [if_pos z] at e
        exact Or.inl e.symm
      · rw [if_neg z] at e
        exact Or.inr ⟨v, by omega, hv, e⟩
end
