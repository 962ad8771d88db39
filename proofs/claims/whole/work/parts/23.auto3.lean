/-! the tail of a row by the automaton -/
section
variable {t g : Nat → Nat} {L n : Nat} {E l p b en : Nat → Nat} {la : Nat}
theorem zt_s_mono (f : Nat → Nat) {n m : Nat} (h : n ≤ m) : zt_s f n ≤ zt_s f m := by
  induction m with
  | zero => have : n = 0 := by omega
            rw [this]; exact Nat.le_refl _
  | succ m ih =>
    by_cases e : n = m + 1
    · rw [e]; exact Nat.le_refl _
    · have := ih (by omega)
      rw [zt_s1]; omega
/-- before the letters of the next place are looked at -/
theorem zt_TA_0 (hz : zt_Z g L) (hg : ∀ i, i < L → g i = t i + 1) {v s i : Nat} (hi : i + s < L) (ha : zt_at t L E l v s i) : zt_lf g L i s = zt_Y g L i s + (zt_s (zt_X t L E l v) (t (i + s)) + zt_lf g L i (s + 1)) := by
  rw [zt_lf_1 hz (by omega) hi (hg _ hi)]
  have e : zt_s (zt_X t L E l v) (t (i + s)) = zt_s (fun x => zt_c (fun j => s ≤ zt_N g L j i ∧ g (j + s) = x + 1) L) (t (i + s)) := zt_sc _ fun x _ => zt_X_N hz hg (by omega) ha x
  rw [e]; omega
/-- a letter that is less -/
theorem zt_TA_1 {v s i x left : Nat} (hx : x < t (i + s)) (h : left + zt_s (zt_X t L E l v) x = zt_s (zt_X t L E l v) (t (i + s)) + zt_lf g L i (s + 1)) : zt_X t L E l v x ≤ left ∧ (left - zt_X t L E l v x) + zt_s (zt_X t L E l v) (x + 1) = zt_s (zt_X t L E l v) (t (i + s)) + zt_lf g L i (s + 1) := by
  have a := zt_s_mono (zt_X t L E l v) (n := x + 1) (m := t (i + s)) (by omega)
  rw [zt_s1] at a
  rw [zt_s1]
  omega
/-- the letter itself -/
theorem zt_TA_2 (hz : zt_Z g L) (hg : ∀ i, i < L → g i = t i + 1) (ht : ∀ i, t i < 4) (h : zt_M t L L n E l p b en la) {v s i : Nat} (hv : v < n) (hi : i + s < L) (ha : zt_at t L E l v s i) : zt_lf g L i (s + 1) < zt_tl t L E l (b (v * 4 + t (i + s))) := by
  have a := zt_at_1 ht h hv hi ha
  rw [zt_tl_N hg (s := s + 1) (i := i) (by omega) (by omega) a.2.2]
  exact zt_lf_lt (by omega) (by omega)
theorem zt_Y_b (hz : zt_Z g L) (hg : ∀ i, i < L → g i = t i + 1) (h4 : ∀ i, g i ≤ 4) (h : zt_M t L L n E l p b en la) {v s i : Nat} (hi : i + s ≤ L) (hiL : i < L) (ha : zt_at t L E l v s i) : zt_tl t L E l v = zt_Y g L i s + zt_s (zt_X t L E l v) 4 := by
  rw [zt_tl_Y hz hg h4 hi hiL ha, zt_s1, zt_s1, zt_s1, zt_s1, zt_s0]
  omega
/-- the measures -/
theorem zt_M_m (hg : ∀ i, i < L → g i = t i + 1) (h : zt_M t L L n E l p b en la) {tl : Nat → Nat} (ht : ∀ u, u < n → tl u = zt_tl t L E l u) : zt_G g L (zt_m (fun v => if v ≠ 0 ∧ 2 ≤ tl v then l v else 0) n) := by
  refine zt_M_G hg h (fun v v0 hv h2 => ?_) ?_
  · have := zt_m_ge (f := fun v => if v ≠ 0 ∧ 2 ≤ tl v then l v else 0) hv
    rw [if_pos ⟨by omega, by rw [ht v hv]; exact h2⟩] at this
    exact this
  · rcases zt_m_is (fun v => if v ≠ 0 ∧ 2 ≤ tl v then l v else 0) n with e | ⟨v, hv, e⟩
    · exact Or.inl e
    · by_cases z : v ≠ 0 ∧ 2 ≤ tl v
      · rw [if_pos z] at e
        exact Or.inr ⟨v, by omega, hv, by rw [← ht v hv]; exact z.2, e⟩
      · rw [if_neg z] at e
        exact Or.inl e.symm
end
/-! the longest by rows and by places -/
theorem zt_G_mr {g : Nat → Nat} {L : Nat} {o : Nat → Nat} (hz : zt_Z g L) (h : zt_O g L o) : zt_G g L (zt_m (fun k => if k = 0 then 0 else zt_N g L (o (k - 1)) (o k)) L) := by
  refine zt_G_rows hz h (fun k hk => ?_) ?_
  · have := zt_m_ge (f := fun k => if k = 0 then 0 else zt_N g L (o (k - 1)) (o k)) hk
    rw [if_neg (by omega), Nat.add_sub_cancel] at this
    exact this
  · rcases zt_m_is (fun k => if k = 0 then 0 else zt_N g L (o (k - 1)) (o k)) L with e | ⟨k, hk, e⟩
    · exact Or.inl e
    · by_cases z : k = 0
      · rw [if_pos z] at e
        exact Or.inl e.symm
      · rw [if_neg z] at e
        obtain ⟨k', rfl⟩ : ∃ k', k = k' + 1 := ⟨k - 1, by omega⟩
        rw [Nat.add_sub_cancel] at e
        exact Or.inr ⟨k', hk, e⟩
theorem zt_G_mp {g : Nat → Nat} {L : Nat} {o : Nat → Nat} (hz : zt_Z g L) (h : zt_O g L o) : zt_G g L (zt_m (fun i => if zt_r g L i = 0 then 0 else zt_N g L (o (zt_r g L i - 1)) i) L) := by
  refine zt_G_rows hz h (fun k hk => ?_) ?_
  · have := zt_m_ge (f := fun i => if zt_r g L i = 0 then 0 else zt_N g L (o (zt_r g L i - 1)) i) (h (k + 1) hk).1
    rw [(h (k + 1) hk).2, if_neg (by omega), Nat.add_sub_cancel] at this
    exact this
  · rcases zt_m_is (fun i => if zt_r g L i = 0 then 0 else zt_N g L (o (zt_r g L i - 1)) i) L with e | ⟨i, hi, e⟩
    · exact Or.inl e
    · by_cases z : zt_r g L i = 0
      · rw [if_pos z] at e
        exact Or.inl e.symm
      · rw [if_neg z] at e
        have r1 := zt_r_lt (g := g) hi
        refine Or.inr ⟨zt_r g L i - 1, by omega, ?_⟩
        have e1 : zt_r g L i - 1 + 1 = zt_r g L i := by omega
        rw [e1, zt_O_r hz h hi]
        exact e
/-- the next known beginning -/
noncomputable def zt_kn (g : Nat → Nat) (L : Nat) (o : Nat → Nat) (i : Nat) : Nat := if zt_r g L i = 0 then 0 else zt_N g L (o (zt_r g L i - 1)) i
