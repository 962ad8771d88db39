/-! the column as it grows, and the search in it -/
def zt_CO (g : Nat → Nat) (L p : Nat) (col : Nat → Nat) : Prop := ∀ i, p ≤ i → i ≤ L → col (zt_rk g L p i) = if i = p then 0 else g (i - 1)
section
variable {g : Nat → Nat} {L : Nat} {col col' col'' : Nat → Nat}
theorem zt_rk_LL : zt_rk g L L L = 0 := by
  have := zt_rk_lt (g := g) (p := L) (i := L) (L := L) (Nat.le_refl _) (Nat.le_refl _)
  omega
theorem zt_CO_0 (h : col 0 = 0) : zt_CO g L L col := by
  intro i h1 h2
  have : i = L := by omega
  subst this
  rw [zt_rk_LL, if_pos rfl]; exact h
theorem zt_CO_u (hz : zt_Z g L) {q c : Nat} (hq : q + 1 ≤ L) (h : zt_CO g L (q + 1) col) (hc : g q = c + 1) (i : Nat) (h1 : q + 1 ≤ i) (h2 : i ≤ L) : zt_up col (zt_rk g L (q + 1) (q + 1)) (c + 1) (zt_rk g L (q + 1) i) = g (i - 1) := by
  by_cases e : i = q + 1
  · subst e
    rw [zt_us, Nat.add_sub_cancel, hc]
  · rw [zt_un _ _ (fun x => e (zt_rk_inj hz h1 h2 (Nat.le_refl _) hq x)), h i h1 h2, if_neg e]
theorem zt_CO_w (hz : zt_Z g L) {q c : Nat} (hq : q + 1 ≤ L) (h : zt_CO g L (q + 1) col) (hc : g q = c + 1) : 1 + zt_c (fun o => (0 < zt_up col (zt_rk g L (q + 1) (q + 1)) (c + 1) o ∧ zt_up col (zt_rk g L (q + 1) (q + 1)) (c + 1) o < c + 1) ∨ (zt_up col (zt_rk g L (q + 1) (q + 1)) (c + 1) o = c + 1 ∧ o < zt_rk g L (q + 1) (q + 1))) (L + 1 - (q + 1)) = zt_rk g L q q := by
  have a := zt_row (g := g) (L := L) (p := q + 1) hz (S := fun i => zt_T g i (q + 1)) hq q (by omega) (by omega) (zt_dn_T (q + 1)) (h := fun i => g (i - 1)) (zt_CO_u hz hq h hc) (fun i _ _ _ => rfl) (fun e => by omega) c
  refine a.trans (zt_cc (L + 1) fun j _ => ?_)
  exact ⟨fun x => ⟨x.1, (zt_pre_T q c hc j).1 x.2⟩, fun x => ⟨x.1, (zt_pre_T q c hc j).2 x.2⟩⟩
theorem zt_CO_1 (hz : zt_Z g L) {q c : Nat} (hq : q + 1 ≤ L) (h : zt_CO g L (q + 1) col) (hc : g q = c + 1) (h1 : ∀ o, o < zt_rk g L q q → col' o = zt_up col (zt_rk g L (q + 1) (q + 1)) (c + 1) o) (h2 : col' (zt_rk g L q q) = 0) (h3 : ∀ o, zt_rk g L q q ≤ o → o < L + 1 - (q + 1) → col' (o + 1) = zt_up col (zt_rk g L (q + 1) (q + 1)) (c + 1) o) : zt_CO g L q col' := by
  intro i a1 a2
  by_cases e : i = q
  · subst e; rw [if_pos rfl]; exact h2
  · rw [if_neg e, ← zt_CO_u hz hq h hc i (by omega) a2]
    have b := zt_rk_ins (g := g) (L := L) (p := q) hz (i := i) (by omega) a2
    by_cases f : zt_T g q i
    · obtain ⟨b1, b2⟩ := b.1 f
      rw [b1]
      exact h3 _ b2 (zt_rk_lt (by omega) a2)
    · obtain ⟨b1, b2⟩ := b.2 f
      rw [b1]
      exact h1 _ b2
theorem zt_CO_S (hz : zt_Z g L) (h : zt_CO g L 0 col) {S : Nat → Prop} (hS : zt_dn g L 0 S) (c : Nat) : 1 + zt_c (fun o => (0 < col o ∧ col o < c + 1) ∨ (col o = c + 1 ∧ o < zt_c (fun j => 0 ≤ j ∧ S j) (L + 1))) (L + 1) = zt_c (fun j => 0 ≤ j ∧ zt_pre g S c j) (L + 1) :=
  zt_row (g := g) (L := L) (p := 0) hz (Nat.zero_le _) 0 (Nat.le_refl _) (by omega) hS (h := fun i => if i = 0 then 0 else g (i - 1)) (fun i _ hi => h i (Nat.zero_le _) hi) (fun i h0 _ _ => if_neg (by omega)) (fun _ => rfl) c
theorem zt_CO_p (hz : zt_Z g L) (h : zt_CO g L 0 col) {i c : Nat} (hi : i + 1 ≤ L) (hc : g i = c + 1) : 1 + zt_c (fun o => (0 < col o ∧ col o < c + 1) ∨ (col o = c + 1 ∧ o < zt_rk g L 0 (i + 1))) (L + 1) = zt_rk g L 0 i := by
  have a := zt_CO_S hz h (S := fun j => zt_T g j (i + 1)) (zt_dn_T (i + 1)) c
  refine a.trans (zt_cc (L + 1) fun j _ => ?_)
  exact ⟨fun x => ⟨x.1, (zt_pre_T i c hc j).1 x.2⟩, fun x => ⟨x.1, (zt_pre_T i c hc j).2 x.2⟩⟩
/-- the sets of the search -/
def zt_AB (g pat : Nat → Nat) (L m st fr to : Nat) : Prop := ∃ A B : Nat → Prop, zt_dn g L 0 A ∧ zt_dn g L 0 B ∧ fr = zt_c (fun j => 0 ≤ j ∧ A j) (L + 1) ∧ to = zt_c (fun j => 0 ≤ j ∧ B j) (L + 1) ∧ (∀ j, B j ↔ A j ∨ zt_oS g pat m st j) ∧ ∀ j, A j → ¬ zt_oS g pat m st j
theorem zt_AB_0 {pat : Nat → Nat} {m : Nat} : zt_AB g pat L m m 0 (L + 1) :=
  ⟨fun _ => False, fun _ => True, zt_dn_0, zt_dn_1, (zt_cz (L + 1) fun _ _ h => h.2).symm, (zt_call (L + 1) fun _ _ => ⟨Nat.zero_le _, trivial⟩).symm, fun j => ⟨fun _ => Or.inr (zt_oS_m g pat m j), fun _ => trivial⟩, fun _ h => h.elim⟩
theorem zt_AB_1 {pat : Nat → Nat} (hz : zt_Z g L) (h : zt_CO g L 0 col) {m st fr to : Nat} (hst : st < m) (H : zt_AB g pat L m (st + 1) fr to) : zt_AB g pat L m st (1 + zt_c (fun o => (0 < col o ∧ col o < pat st + 1) ∨ (col o = pat st + 1 ∧ o < fr)) (L + 1)) (1 + zt_c (fun o => (0 < col o ∧ col o < pat st + 1) ∨ (col o = pat st + 1 ∧ o < to)) (L + 1)) := by
  obtain ⟨A, B, dA, dB, eA, eB, hd, he⟩ := H
  subst eA
  subst eB
  have := zt_pre_d (g := g) (pat := pat) hst hd he
  exact ⟨zt_pre g A (pat st), zt_pre g B (pat st), zt_dn_pre hz (zt_dn_m dA (by omega)), zt_dn_pre hz (zt_dn_m dB (by omega)), zt_CO_S hz h dA (pat st), zt_CO_S hz h dB (pat st), this.1, this.2⟩
theorem zt_AB_le {pat : Nat → Nat} {m st fr to : Nat} (H : zt_AB g pat L m st fr to) : fr ≤ to ∧ to ≤ L + 1 := by
  obtain ⟨A, B, dA, dB, eA, eB, hd, he⟩ := H
  subst eA
  subst eB
  exact ⟨zt_cle (L + 1) fun j _ x => ⟨x.1, (hd j).2 (Or.inl x.2)⟩, zt_cn _ _⟩
theorem zt_AB_f {pat : Nat → Nat} (hz : zt_Z g L) {m fr to : Nat} (H : zt_AB g pat L m 0 fr to) {i : Nat} (hi : i ≤ L) : fr ≤ zt_rk g L 0 i ∧ zt_rk g L 0 i < to ↔ zt_oc g pat m i := by
  obtain ⟨A, B, dA, dB, eA, eB, hd, he⟩ := H
  have a := zt_rk_S hz dA (i := i) (Nat.zero_le _) hi
  have b := zt_rk_S hz dB (i := i) (Nat.zero_le _) hi
  rw [← eA] at a
  rw [← eB] at b
  rw [b, hd i, zt_oS_0]
  constructor
  · rintro ⟨x, y | y⟩
    · have := a.2 y
      omega
    · exact y
  · intro y
    refine ⟨?_, Or.inr y⟩
    refine Classical.byContradiction fun c => ?_
    exact he i (a.1 (by omega)) ((zt_oS_0 g pat m i).2 y)
end
