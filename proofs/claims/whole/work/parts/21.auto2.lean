/-! walking along the links from a whole beginning; tails by the automaton -/
section
variable {t g : Nat → Nat} {L n : Nat} {E l p b en : Nat → Nat} {la : Nat}
/-- the state of the first e letters -/
theorem zt_en_on (h : zt_M t L L n E l p b en la) {f : Nat} (hf : f < n) (h0 : en f ≠ 0) : en f ≤ L ∧ l f = en f ∧ zt_On t L (en f) E l f := by
  obtain ⟨i, hi⟩ : ∃ i, en f = i + 1 := ⟨en f - 1, by omega⟩
  have a := (h.2.2.1 f i hf).1 hi
  rw [hi]
  exact ⟨by omega, a.2.1, by show l f ≤ _; rw [a.2.1]; exact a.2.2⟩
theorem zt_On_le (h : zt_M t L L n E l p b en la) {e u : Nat} (he : e ≤ L) (hu : u < n) (on : zt_On t L e E l u) : l u ≤ e := by
  have a : l u ≤ zt_V t L (E u) e := on
  have b1 : E u ≤ L := (h.1.2.1 u hu).1
  have := zt_V_r (t := t) (L := L) (e := E u) (f := e) b1 he
  omega
/-- all with d letters or more have been counted once -/
def zt_T3 (t : Nat → Nat) (L e n : Nat) (E l tl : Nat → Nat) (d : Nat) (tl' : Nat → Nat) : Prop := ∀ u, u < n → (zt_On t L e E l u ∧ d ≤ l u → tl' u = tl u + 1) ∧ (¬ (zt_On t L e E l u ∧ d ≤ l u) → tl' u = tl u)
theorem zt_T3_0 (h : zt_M t L L n E l p b en la) {e d : Nat} (he : e ≤ L) (hd : e < d) (tl : Nat → Nat) : zt_T3 t L e n E l tl d tl := fun u hu => ⟨fun x => by
  have := zt_On_le h he hu x.1
  omega, fun _ => rfl⟩
theorem zt_T3_1 {e v d : Nat} {tl tl' : Nat → Nat} (hv : v < n) (on : zt_On t L e E l v) (hd : d ≤ l v) (hn : ∀ u, u < n → zt_On t L e E l u → d ≤ l u → l v + 1 ≤ l u ∨ u = v) (H : zt_T3 t L e n E l tl (l v + 1) tl') : zt_T3 t L e n E l tl d (zt_up tl' v (tl' v + 1)) := by
  intro u hu
  by_cases c : u = v
  · subst c
    rw [zt_us]
    have := (H u hu).2 (fun x => by omega)
    exact ⟨fun _ => by omega, fun x => absurd ⟨on, hd⟩ x⟩
  · rw [zt_un _ _ c]
    refine ⟨fun x => (H u hu).1 ⟨x.1, ?_⟩, fun x => (H u hu).2 (fun y => x ⟨y.1, by omega⟩)⟩
    rcases hn u hu x.1 x.2 with a | a
    · exact a
    · exact absurd a c
def zt_TC (t : Nat → Nat) (L n : Nat) (E l en : Nat → Nat) (F : Nat) (tl : Nat → Nat) : Prop := ∀ u, u < n → tl u = zt_c (fun f => en f ≠ 0 ∧ l u ≤ zt_V t L (E u) (en f)) F
theorem zt_TC_no {F : Nat} {tl : Nat → Nat} (h0 : en F = 0) (H : zt_TC t L n E l en F tl) : zt_TC t L n E l en (F + 1) tl := fun u hu => by
  rw [zt_cf (p := fun f => en f ≠ 0 ∧ l u ≤ zt_V t L (E u) (en f)) (fun x => x.1 h0)]
  exact H u hu
theorem zt_TC_1 {F : Nat} {tl tl' : Nat → Nat} (h0 : en F ≠ 0) (H : zt_TC t L n E l en F tl) (H3 : zt_T3 t L (en F) n E l tl 0 tl') : zt_TC t L n E l en (F + 1) tl' := fun u hu => by
  by_cases c : l u ≤ zt_V t L (E u) (en F)
  · rw [zt_ct (p := fun f => en f ≠ 0 ∧ l u ≤ zt_V t L (E u) (en f)) ⟨h0, c⟩, (H3 u hu).1 ⟨c, Nat.zero_le _⟩, H u hu]
  · rw [zt_cf (p := fun f => en f ≠ 0 ∧ l u ≤ zt_V t L (E u) (en f)) (fun x => c x.2), (H3 u hu).2 (fun x => c x.1), H u hu]
theorem zt_TC_end (h : zt_M t L L n E l p b en la) {tl : Nat → Nat} (H : zt_TC t L n E l en n tl) {u : Nat} (hu : u < n) : tl u = zt_tl t L E l u := (H u hu).trans (zt_tl_en h u)
/-- where the tail i stands after s letters -/
theorem zt_lf_lt {i s : Nat} (hi : i < L) (h : i + s ≤ L) : zt_lf g L i s < zt_c (fun j => s ≤ zt_N g L j i) L :=
  zt_clt L i (fun j _ x => x.2) hi (fun x => zt_T_ir g i x.1) (by show s ≤ zt_N g L i i; rw [zt_N_s (by omega)]; omega)
/-- a pattern's place by its end -/
theorem zt_ap_oc (hg : ∀ i, i < L → g i = t i + 1) (hz : zt_Z g L) {pat : Nat → Nat} {goal m : Nat} (m0 : 0 < m) (ha : zt_ap t pat L E l goal m) {i : Nat} (hi : i ≤ L) : zt_oc g pat m i ↔ i + m ≤ L ∧ l goal ≤ zt_V t L (E goal) (i + m) := by
  constructor
  · intro ho
    have iL := zt_oc_L hz ho m0
    refine ⟨iL, (ha (i + m) iL).2 ⟨by omega, fun q hq => ?_⟩⟩
    have e1 : i + m - m + q = i + q := by omega
    rw [e1]
    have := ho q hq
    rw [hg _ (by omega)] at this
    omega
  · rintro ⟨iL, h⟩ q hq
    have := ((ha (i + m) iL).1 h).2 q hq
    have e1 : i + m - m + q = i + q := by omega
    rw [e1] at this
    rw [hg _ (by omega), this]
end
