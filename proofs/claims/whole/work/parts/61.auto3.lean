/-! engine 3: counts, tails in order, measures, the pattern -/
def zt_J3 (t : Nat → Nat) (L e n : Nat) (E l tl : Nat → Nat) (i s : Nat) (tl' : Nat → Nat) : Prop := (s = 0 ∧ zt_T3 t L e n E l tl 0 tl') ∨ ∃ v, s = v + 1 ∧ v < n ∧ zt_On t L e E l v ∧ zt_T3 t L e n E l tl (l v + 1) tl' ∧ i + l v ≤ e
def zt_J4 (t : Nat → Nat) (L e n : Nat) (E l : Nat → Nat) (goal i s : Nat) : Prop := (s = 0 ∧ ∀ u, u < n → zt_On t L e E l u → u ≠ goal) ∨ ∃ v, s = v + 1 ∧ v < n ∧ zt_On t L e E l v ∧ (∀ u, u < n → zt_On t L e E l u → l v + 1 ≤ l u → u ≠ goal) ∧ i + l v ≤ e
section
variable {t g : Nat → Nat} {L n : Nat} {E l lk b en : Nat → Nat} {la : Nat}
theorem zt_J3_s (h : zt_M t L L n E l (fun v => lk v - 1) b en la) (l0 : lk 0 = 0) (lp : ∀ v, 0 < v → v < n → 0 < lk v) {e i s : Nat} {tl tl' : Nat → Nat} (he : e ≤ L) (H : zt_J3 t L e n E l tl i (s + 1) tl') : s < n ∧ i ≤ e ∧ lk s ≤ n ∧ zt_J3 t L e n E l tl (i + 1) (lk s) (zt_up tl' s (tl' s + 1)) := by
  rcases H with ⟨z, _⟩ | ⟨v, e1, hv, on, hT, hi⟩
  · omega
  · have e' : v = s := by omega
    subst e'
    have nx := zt_T_next (Nat.le_refl L) h.1 he hv on
    refine ⟨hv, by omega, ?_⟩
    by_cases v0 : v = 0
    · subst v0
      rw [l0]
      exact ⟨Nat.zero_le _, Or.inl ⟨rfl, zt_T3_1 hv on (Nat.zero_le _) (fun u hu onu _ => nx.1 rfl u hu onu) hT⟩⟩
    · obtain ⟨a1, a2, a3, a4⟩ := nx.2 (by omega)
      have lpv := lp v (by omega) hv
      have a1' : lk v - 1 < n := a1
      have a3' : l (lk v - 1) < l v := a3
      exact ⟨by omega, Or.inr ⟨lk v - 1, by omega, a1, a2, zt_T3_1 hv on (by omega) a4 hT, by omega⟩⟩
theorem zt_J4_s (h : zt_M t L L n E l (fun v => lk v - 1) b en la) (l0 : lk 0 = 0) (lp : ∀ v, 0 < v → v < n → 0 < lk v) {e i s goal : Nat} (he : e ≤ L) (H : zt_J4 t L e n E l goal i (s + 1)) : s < n ∧ i ≤ e ∧ zt_On t L e E l s ∧ (s ≠ goal → lk s ≤ n ∧ zt_J4 t L e n E l goal (i + 1) (lk s)) := by
  rcases H with ⟨z, _⟩ | ⟨v, e1, hv, on, hT, hi⟩
  · omega
  · have e' : v = s := by omega
    subst e'
    have nx := zt_T_next (Nat.le_refl L) h.1 he hv on
    refine ⟨hv, by omega, on, fun ng => ?_⟩
    by_cases v0 : v = 0
    · subst v0
      rw [l0]
      refine ⟨Nat.zero_le _, Or.inl ⟨rfl, fun u hu onu => ?_⟩⟩
      rcases nx.1 rfl u hu onu with c | c
      · exact hT u hu onu c
      · rw [c]; exact ng
    · obtain ⟨a1, a2, a3, a4⟩ := nx.2 (by omega)
      have lpv := lp v (by omega) hv
      have a1' : lk v - 1 < n := a1
      have a3' : l (lk v - 1) < l v := a3
      refine ⟨by omega, Or.inr ⟨lk v - 1, by omega, a1, a2, fun u hu onu hl => ?_, by omega⟩⟩
      rcases a4 u hu onu hl with c | c
      · exact hT u hu onu c
      · rw [c]; exact ng
end
section
variable {f_length f_patternLength f_distinctFound f_longestFound f_nodeCount f_stateCount f_rowCount : Int32} {a_text a_pattern a_order a_occurs a_otherOrder a_rank a_pairRank a_nodePlace a_nodeDepth a_nodeParent a_nodeTail a_nodeBranch a_waitingNodes a_stateLength a_stateLink a_stateEnd a_stateTails a_stateBranch a_lastColumn : Nat → Int32}
variable {t pat : Nat → Nat} {L m n : Nat} {E l lk en tl b : Nat → Nat} {la : Nat}
theorem zt_x_ct28 {post : SX → Prop} {J : _} {F e : Nat} (hL : L ≤ 40) (M : zt_M t L L n E l (fun v => lk v - 1) b en la) (l0 : lk 0 = 0) (lp : ∀ v, 0 < v → v < n → 0 < lk v) (he : e ≤ L) (hJ : ∀ tl' : Nat → Nat, zt_T3 t L e n E l tl 0 tl' → J (nI (F + 1)) (fun j => nI (t j)) a_pattern a_order a_occurs a_otherOrder a_rank a_pairRank a_nodePlace a_nodeDepth a_nodeParent a_nodeTail a_nodeBranch a_waitingNodes (fun j => nI ((l) j)) (fun j => nI ((lk) j) - 1) (fun j => nI ((en) j) - 1) (fun j => nI ((tl') j)) (fun j => nI ((b) j)) a_lastColumn) : ∀ f i s (tl' : Nat → Nat) (x : Int32), n - i < f → i ≤ n → s ≤ 81 → x = nI s - 1 → zt_J3 t L e n E l tl i s tl' → wX_countTailsOfStates_28 post J (nI F) (nI L) f_patternLength f_distinctFound f_longestFound f_nodeCount (nI n) f_rowCount f x (nI i) (fun j => nI (t j)) a_pattern a_order a_occurs a_otherOrder a_rank a_pairRank a_nodePlace a_nodeDepth a_nodeParent a_nodeTail a_nodeBranch a_waitingNodes (fun j => nI ((l) j)) (fun j => nI ((lk) j) - 1) (fun j => nI ((en) j) - 1) (fun j => nI ((tl') j)) (fun j => nI ((b) j)) a_lastColumn := by
  obtain ⟨n1, n2⟩ := M.2.2.2.2.2
  intro f
  induction f with
  | zero => intro i s tl' x hf; omega
  | succ f ih =>
    intro i s tl' x hf hi hs hx H
    by_cases s0 : s = 0
    · subst s0
      subst hx
      have T : zt_T3 t L e n E l tl 0 tl' := by
        rcases H with ⟨_, T⟩ | ⟨v, e1, _⟩
        · exact T
        · omega
      exact pk_le n i (fun _ => nm_r (nI_1 F) (hJ tl' T)) (fun _ => br_t rfl (nm_r (nI_1 F) (hJ tl' T)))
    · obtain ⟨s, rfl⟩ : ∃ s', s = s' + 1 := ⟨s - 1, by omega⟩
      rw [nI_pred] at hx
      subst hx
      obtain ⟨a1, a2, a3, a4⟩ := zt_J3_s M l0 lp he H
      have es : (nI s).toNatClampNeg = s := pk_cl s
      have vs : vp_in (nI s) 81 := pk_in s 81 (by omega)
      refine br_f (nI_ge (by omega) (by omega)) (br_f (zt_ne1 (by omega)) ⟨vs, vs, nm_r (zt_upE s (tl' s + 1) es ?_) ⟨vs, nm_r (e' := nI (lk s) - 1) (by simp only [es]) (nm_r (nI_1 i) (ih (i + 1) (lk s) _ _ (by omega) (by omega) (by omega) rfl a4))⟩⟩)
      simp only [es]
      rw [nI_1]
theorem zt_x_ct2 {post : SX → Prop} (hL : L ≤ 40) (M : zt_M t L L n E l (fun v => lk v - 1) b en la) (l0 : lk 0 = 0) (lp : ∀ v, 0 < v → v < n → 0 < lk v) (h : ∀ tl : Nat → Nat, (∀ u, u < n → tl u = zt_tl t L E l u) → post (nI L, f_patternLength, f_distinctFound, f_longestFound, f_nodeCount, nI (n), f_rowCount, fun j => nI (t j), a_pattern, a_order, a_occurs, a_otherOrder, a_rank, a_pairRank, a_nodePlace, a_nodeDepth, a_nodeParent, a_nodeTail, a_nodeBranch, a_waitingNodes, fun j => nI ((l) j), fun j => nI ((lk) j) - 1, fun j => nI ((en) j) - 1, fun j => nI ((tl) j), fun j => nI ((b) j), a_lastColumn)) : ∀ d F f (tl : Nat → Nat), F + d = n → d < f → zt_TC t L n E l en F tl → wX_countTailsOfStates_2 post (nI L) f_patternLength f_distinctFound f_longestFound f_nodeCount (nI n) f_rowCount f (nI F) (fun j => nI (t j)) a_pattern a_order a_occurs a_otherOrder a_rank a_pairRank a_nodePlace a_nodeDepth a_nodeParent a_nodeTail a_nodeBranch a_waitingNodes (fun j => nI ((l) j)) (fun j => nI ((lk) j) - 1) (fun j => nI ((en) j) - 1) (fun j => nI ((tl) j)) (fun j => nI ((b) j)) a_lastColumn := by
  obtain ⟨n1, n2⟩ := M.2.2.2.2.2
  intro d
  induction d with
  | zero =>
    intro F f tl hF hf H
    obtain ⟨f, rfl⟩ : ∃ m, f = m + 1 := ⟨f - 1, by omega⟩
    have e : F = n := by omega
    subst e
    exact br_t (nI_le (Nat.le_refl _) (by omega)) (h tl (fun u hu => zt_TC_end M H hu))
  | succ d ih =>
    intro F f tl hF hf H
    obtain ⟨f, rfl⟩ : ∃ m, f = m + 1 := ⟨f - 1, by omega⟩
    have eF : (nI F).toNatClampNeg = F := pk_cl F
    have ben : en F ≤ L := by
      by_cases c : en F = 0
      · omega
      · exact (zt_en_on M (by omega) c).1
    refine br_f (nI_ge (by omega) (by omega)) ⟨pk_in F 81 (by omega), ?_⟩
    simp only [eF]
    refine zt_br (zt_nt0 (by omega)) (fun z => ?_) (fun z => ?_)
    · refine ⟨1, br_f (nI_ge (a := 0) (by omega) (by omega)) (br_t rfl (nm_r (nI_1 F) (ih (F + 1) f tl (by omega) (by omega) (zt_TC_no z H))))⟩
    · obtain ⟨a1, a2, a3⟩ := zt_en_on M (by omega : F < n) z
      exact ⟨n + 1, zt_x_ct28 (tl := tl) (e := en F) hL M l0 lp a1 (fun tl' T => ih (F + 1) f tl' (by omega) (by omega) (zt_TC_1 z H T)) (n + 1) 0 (F + 1) tl _ (by omega) (by omega) (by omega) (zt_I1 F) (Or.inr ⟨F, rfl, by omega, a3, zt_T3_0 M a1 (by omega) tl, by omega⟩)⟩
theorem zt_x_ct {post : SX → Prop} (hL : L ≤ 40) (M : zt_M t L L n E l (fun v => lk v - 1) b en la) (l0 : lk 0 = 0) (lp : ∀ v, 0 < v → v < n → 0 < lk v) (tz : ∀ v, v < n → tl v = 0) (h : ∀ tl : Nat → Nat, (∀ u, u < n → tl u = zt_tl t L E l u) → post (nI L, f_patternLength, f_distinctFound, f_longestFound, f_nodeCount, nI (n), f_rowCount, fun j => nI (t j), a_pattern, a_order, a_occurs, a_otherOrder, a_rank, a_pairRank, a_nodePlace, a_nodeDepth, a_nodeParent, a_nodeTail, a_nodeBranch, a_waitingNodes, fun j => nI ((l) j), fun j => nI ((lk) j) - 1, fun j => nI ((en) j) - 1, fun j => nI ((tl) j), fun j => nI ((b) j), a_lastColumn)) : wpX_countTailsOfStates post (nI L, f_patternLength, f_distinctFound, f_longestFound, f_nodeCount, nI (n), f_rowCount, fun j => nI (t j), a_pattern, a_order, a_occurs, a_otherOrder, a_rank, a_pairRank, a_nodePlace, a_nodeDepth, a_nodeParent, a_nodeTail, a_nodeBranch, a_waitingNodes, fun j => nI ((l) j), fun j => nI ((lk) j) - 1, fun j => nI ((en) j) - 1, fun j => nI ((tl) j), fun j => nI ((b) j), a_lastColumn) := by
  obtain ⟨n1, n2⟩ := M.2.2.2.2.2
  exact ⟨n, zt_x_ct2 hL M l0 lp h (n - 1) 1 _ tl (by omega) (by omega) (zt_TC_no (zt_en_0 M) (fun u hu => by rw [zt_c0]; exact tz u hu))⟩
theorem zt_x_te9 {post : Int32 → Prop} {v Y : Nat} (hL : L ≤ 40) (M : zt_M t L L n E l (fun v => lk v - 1) b en la) (ht : ∀ u, u < n → tl u = zt_tl t L E l u) (hv : v < n) (h : post (nI Y)) : ∀ d c f, c + d = 4 → d < f → wX_tailsEndingIn_9 post (nI v) (nI L) f_patternLength f_distinctFound f_longestFound f_nodeCount (nI (n)) f_rowCount (fun j => nI (t j)) a_pattern a_order a_occurs a_otherOrder a_rank a_pairRank a_nodePlace a_nodeDepth a_nodeParent a_nodeTail a_nodeBranch a_waitingNodes (fun j => nI ((l) j)) (fun j => nI ((lk) j) - 1) (fun j => nI ((en) j) - 1) (fun j => nI ((tl) j)) (fun j => nI ((b) j)) a_lastColumn f (nI (Y + (zt_s (zt_X t L E l v) 4 - zt_s (zt_X t L E l v) c))) (nI c) := by
  obtain ⟨n1, n2⟩ := M.2.2.2.2.2
  intro d
  induction d with
  | zero =>
    intro c f hc hf
    obtain ⟨f, rfl⟩ : ∃ m, f = m + 1 := ⟨f - 1, by omega⟩
    have e : c = 4 := by omega
    subst e
    rw [Nat.sub_self, Nat.add_zero]
    exact br_t (nI_le (a := 4) (b := 4) (Nat.le_refl _) (by decide)) h
  | succ d ih =>
    intro c f hc hf
    obtain ⟨f, rfl⟩ : ∃ m, f = m + 1 := ⟨f - 1, by omega⟩
    have nx := ih (c + 1) f (by omega) (by omega)
    have ei : (nI v * 4 + nI c).toNatClampNeg = v * 4 + c := pk_cl _ (zt_ix4 v c)
    have mono := zt_s_mono (zt_X t L E l v) (n := c + 1) (m := 4) (by omega)
    rw [zt_s1 _ c] at nx mono
    have xb := zt_X_b M hv (by omega : c < 4)
    refine br_f (nI_ge (b := 4) (by omega) (by decide)) ⟨pk_in (v * 4 + c) 324 (by omega) (zt_ix4 v c), nm_r (e' := nI (b (v * 4 + c))) (by simp only [ei]) ?_⟩
    by_cases e : b (v * 4 + c) = 0
    · rw [if_pos e] at xb
      rw [e]
      rw [xb, Nat.add_zero] at nx
      exact br_t rfl (nm_r (Int32.sub_zero _) (nm_r (nI_1 c) nx))
    · rw [if_neg e] at xb
      obtain ⟨q, q1, q2, q3⟩ := M.2.1.2 v c hv (by omega) e
      have un := (M.2.1.1 v q hv q1 q3).2.1
      rw [q2] at un
      have eu : (nI (b (v * 4 + c))).toNatClampNeg = b (v * 4 + c) := pk_cl _
      refine br_f (nI_ne0 (by omega) (by omega)) ⟨pk_in (b (v * 4 + c)) 81 (by omega), nm_r (e' := nI (Y + (zt_s (zt_X t L E l v) 4 - (zt_s (zt_X t L E l v) c + zt_X t L E l v c)))) ?_ (nm_r (nI_1 c) nx)⟩
      simp only [eu]
      rw [ht _ un, ← xb, pk_sub (by omega)]
      congr 1
      omega
theorem zt_x_te {post : Int32 → Prop} {v Y : Nat} (hL : L ≤ 40) (M : zt_M t L L n E l (fun v => lk v - 1) b en la) (ht : ∀ u, u < n → tl u = zt_tl t L E l u) (hv : v < n) (hY : zt_tl t L E l v = Y + zt_s (zt_X t L E l v) 4) (h : post (nI Y)) : wpX_tailsEndingIn post (nI L, f_patternLength, f_distinctFound, f_longestFound, f_nodeCount, nI (n), f_rowCount, fun j => nI (t j), a_pattern, a_order, a_occurs, a_otherOrder, a_rank, a_pairRank, a_nodePlace, a_nodeDepth, a_nodeParent, a_nodeTail, a_nodeBranch, a_waitingNodes, fun j => nI ((l) j), fun j => nI ((lk) j) - 1, fun j => nI ((en) j) - 1, fun j => nI ((tl) j), fun j => nI ((b) j), a_lastColumn) (nI v) := by
  obtain ⟨n1, n2⟩ := M.2.2.2.2.2
  have ev : (nI v).toNatClampNeg = v := pk_cl v
  exact ⟨pk_in v 81 (by omega), nm_r (e' := nI (Y + (zt_s (zt_X t L E l v) 4 - zt_s (zt_X t L E l v) 0))) (by simp only [ev]; rw [ht v hv, hY, zt_s0, Nat.sub_zero]) ⟨5, zt_x_te9 hL M ht hv h 4 0 5 (by omega) (by omega)⟩⟩
theorem zt_x_ta42 {post : Int32 → Prop} {J : _} {v s i : Nat} (hL : L ≤ 40) (h4 : ∀ i, t i < 4) (M : zt_M t L L n E l (fun v => lk v - 1) b en la) (ht : ∀ u, u < n → tl u = zt_tl t L E l u) (hv : v < n) (his : i + s < L) (ha : zt_at t L E l v s i) (hJ : J (nI (b (v * 4 + t (i + s)))) (nI (zt_lf (zt_g t L) L i (s + 1))) (nI (s + 1))) : ∀ d x f left, x + d = t (i + s) → d + 1 < f → left + zt_s (zt_X t L E l v) x = zt_s (zt_X t L E l v) (t (i + s)) + zt_lf (zt_g t L) L i (s + 1) → wX_tailOfAutomaton_42 post J (nI v) (nI s) (nI L) f_patternLength f_distinctFound f_longestFound f_nodeCount (nI (n)) f_rowCount (fun j => nI (t j)) a_pattern a_order a_occurs a_otherOrder a_rank a_pairRank a_nodePlace a_nodeDepth a_nodeParent a_nodeTail a_nodeBranch a_waitingNodes (fun j => nI ((l) j)) (fun j => nI ((lk) j) - 1) (fun j => nI ((en) j) - 1) (fun j => nI ((tl) j)) (fun j => nI ((b) j)) a_lastColumn f (nI left) 0 (nI x) := by
  have hz := zt_g_Z t L
  have hg : ∀ i, i < L → zt_g t L i = t i + 1 := fun i hi => zt_g_lt hi
  obtain ⟨n1, n2⟩ := M.2.2.2.2.2
  have tc := h4 (i + s)
  have tb : ∀ u, u < n → tl u ≤ L := fun u hu => by rw [ht u hu]; exact zt_cn _ _
  intro d
  induction d with
  | zero =>
    intro x f left hx hf hl
    obtain ⟨f, rfl⟩ : ∃ m, f = m + 1 := ⟨f - 1, by omega⟩
    obtain ⟨f, rfl⟩ : ∃ m, f = m + 1 := ⟨f - 1, by omega⟩
    have e : x = t (i + s) := by omega
    subst e
    have el : left = zt_lf (zt_g t L) L i (s + 1) := by omega
    subst el
    obtain ⟨u0, u1, u2⟩ := zt_at_1 h4 M hv his ha
    have lt := zt_TA_2 hz hg h4 M hv his ha
    have ei : (nI v * 4 + nI (t (i + s))).toNatClampNeg = v * 4 + t (i + s) := pk_cl _ (zt_ix4 _ _)
    have eu : (nI (b (v * 4 + t (i + s)))).toNatClampNeg = b (v * 4 + t (i + s)) := pk_cl _
    have tu := tb _ u1
    rw [← ht _ u1] at lt
    refine br_f (nI_ge (b := 4) (by omega) (by decide)) (br_t rfl ⟨pk_in (v * 4 + t (i + s)) 324 (by omega) (zt_ix4 _ _), nm_r (e' := nI (b (v * 4 + t (i + s)))) (by simp only [ei]) (br_f (nI_ne0 u0 (by omega)) ⟨pk_in (b (v * 4 + t (i + s))) 81 (by omega), br_f ?_ (nm_r (nI_1 _) ?_)⟩)⟩)
    · simp only [eu]
      exact nI_ge lt (by omega)
    · exact pk_le 4 (t (i + s) + 1) (fun _ => nm_r (nI_1 s) hJ) (fun _ => br_f (nI_ne0 u0 (by omega)) (nm_r (nI_1 s) hJ))
  | succ d ih =>
    intro x f left hx hf hl
    obtain ⟨f, rfl⟩ : ∃ m, f = m + 1 := ⟨f - 1, by omega⟩
    obtain ⟨q1, q2⟩ := zt_TA_1 (g := zt_g t L) (s := s) (i := i) (by omega : x < t (i + s)) hl
    have nx := ih (x + 1) f (left - zt_X t L E l v x) (by omega) (by omega) q2
    have ei : (nI v * 4 + nI x).toNatClampNeg = v * 4 + x := pk_cl _ (zt_ix4 _ _)
    have xb := zt_X_b M hv (by omega : x < 4)
    have lb : left ≤ L := by
      have a1 := zt_TA_0 hz hg his ha
      have a2 : zt_lf (zt_g t L) L i s ≤ L := zt_cn _ _
      omega
    refine br_f (nI_ge (b := 4) (by omega) (by decide)) (br_t rfl ⟨pk_in (v * 4 + x) 324 (by omega) (zt_ix4 _ _), nm_r (e' := nI (b (v * 4 + x))) (by simp only [ei]) ?_⟩)
    by_cases e : b (v * 4 + x) = 0
    · rw [if_pos e] at xb
      rw [xb, Nat.sub_zero] at nx
      rw [e]
      exact br_t rfl (br_t rfl (nm_r (nI_1 x) nx))
    · rw [if_neg e] at xb
      obtain ⟨q, r1, r2, r3⟩ := M.2.1.2 v x hv (by omega) e
      have un := (M.2.1.1 v q hv r1 r3).2.1
      rw [r2] at un
      have eu : (nI (b (v * 4 + x))).toNatClampNeg = b (v * 4 + x) := pk_cl _
      have vu : vp_in (nI (b (v * 4 + x))) 81 := pk_in (b (v * 4 + x)) 81 (by omega)
      rw [← ht _ un] at xb
      refine br_f (nI_ne0 (by omega) (by omega)) ⟨vu, br_t ?_ (br_f (nI_ne0 (by omega) (by omega)) ⟨vu, nm_r (e' := nI (left - zt_X t L E l v x)) ?_ (nm_r (nI_1 x) nx)⟩)⟩
      · simp only [eu]
        rw [← xb]
        exact nI_le q1 (by omega)
      · simp only [eu]
        rw [← xb, pk_sub q1]
theorem zt_x_ta7 {post : Int32 → Prop} {i : Nat} (hL : L ≤ 40) (h4 : ∀ i, t i < 4) (M : zt_M t L L n E l (fun v => lk v - 1) b en la) (ht : ∀ u, u < n → tl u = zt_tl t L E l u) (hi : i < L) (h : post (nI i)) : ∀ d s f v, s + d = L → d < f → v < n → i + s ≤ L → zt_at t L E l v s i → wX_tailOfAutomaton_7 post (nI L) f_patternLength f_distinctFound f_longestFound f_nodeCount (nI (n)) f_rowCount (fun j => nI (t j)) a_pattern a_order a_occurs a_otherOrder a_rank a_pairRank a_nodePlace a_nodeDepth a_nodeParent a_nodeTail a_nodeBranch a_waitingNodes (fun j => nI ((l) j)) (fun j => nI ((lk) j) - 1) (fun j => nI ((en) j) - 1) (fun j => nI ((tl) j)) (fun j => nI ((b) j)) a_lastColumn f (nI v) (nI (zt_lf (zt_g t L) L i s)) (nI s) := by
  have hz := zt_g_Z t L
  have hg : ∀ i, i < L → zt_g t L i = t i + 1 := fun i hi => zt_g_lt hi
  have g4 := zt_g_4 h4 L
  obtain ⟨n1, n2⟩ := M.2.2.2.2.2
  intro d
  induction d with
  | zero =>
    intro s f v hs hf hv his ha
    obtain ⟨f, rfl⟩ : ∃ m, f = m + 1 := ⟨f - 1, by omega⟩
    have e : i = 0 := by omega
    subst e
    exact br_t (nI_le (by omega) (by omega)) h
  | succ d ih =>
    intro s f v hs hf hv his ha
    obtain ⟨f, rfl⟩ : ∃ m, f = m + 1 := ⟨f - 1, by omega⟩
    refine br_f (nI_ge (by omega) (by omega)) (zt_x_te hL M ht hv (zt_Y_b hz hg g4 M his hi ha) ?_)
    by_cases c : i + s = L
    · obtain ⟨e1, e2⟩ := zt_lf_end hz hi c
      rw [e1, e2]
      refine nm_e (br_f (by decide) ?_)
      rw [pk_sub (by omega), (by omega : L - s = i)]
      exact h
    · have e1 := zt_TA_0 hz hg (by omega : i + s < L) ha
      have lb : zt_lf (zt_g t L) L i s ≤ L := zt_cn _ _
      obtain ⟨u0, u1, u2⟩ := zt_at_1 h4 M hv (by omega : i + s < L) ha
      refine nm_r (e' := nI (zt_s (zt_X t L E l v) (t (i + s)) + zt_lf (zt_g t L) L i (s + 1))) (by rw [pk_sub (by omega)]; congr 1; omega) (br_t (nI_pos' (by omega)) ⟨6, zt_x_ta42 hL h4 M ht hv (by omega) ha (ih (s + 1) f _ (by omega) (by omega) u1 (by omega) u2) (t (i + s)) 0 6 _ (by omega) (by have := h4 (i + s); omega) (by rw [zt_s0]; omega)⟩)
theorem zt_x_ta {post : Int32 → Prop} {i : Nat} (hL : L ≤ 40) (h4 : ∀ i, t i < 4) (M : zt_M t L L n E l (fun v => lk v - 1) b en la) (ht : ∀ u, u < n → tl u = zt_tl t L E l u) (hi : i < L) (h : post (nI i)) : wpX_tailOfAutomaton post (nI L, f_patternLength, f_distinctFound, f_longestFound, f_nodeCount, nI (n), f_rowCount, fun j => nI (t j), a_pattern, a_order, a_occurs, a_otherOrder, a_rank, a_pairRank, a_nodePlace, a_nodeDepth, a_nodeParent, a_nodeTail, a_nodeBranch, a_waitingNodes, fun j => nI ((l) j), fun j => nI ((lk) j) - 1, fun j => nI ((en) j) - 1, fun j => nI ((tl) j), fun j => nI ((b) j), a_lastColumn) (nI (zt_r (zt_g t L) L i)) := by
  obtain ⟨n1, n2⟩ := M.2.2.2.2.2
  rw [← zt_lf_0]
  exact ⟨L + 1, zt_x_ta7 hL h4 M ht hi h L 0 _ 0 (by omega) (by omega) (by omega) (by omega) (zt_at_0 M i)⟩
theorem zt_x_la2 {post : SX → Prop} (hL : L ≤ 40) (h4 : ∀ i, t i < 4) (M : zt_M t L L n E l (fun v => lk v - 1) b en la) (ht : ∀ u, u < n → tl u = zt_tl t L E l u) (h : ∀ o : Nat → Nat, zt_O (zt_g t L) L o → post (nI L, f_patternLength, f_distinctFound, f_longestFound, f_nodeCount, nI (n), f_rowCount, fun j => nI (t j), a_pattern, fun j => nI (o j), a_occurs, a_otherOrder, a_rank, a_pairRank, a_nodePlace, a_nodeDepth, a_nodeParent, a_nodeTail, a_nodeBranch, a_waitingNodes, fun j => nI ((l) j), fun j => nI ((lk) j) - 1, fun j => nI ((en) j) - 1, fun j => nI ((tl) j), fun j => nI ((b) j), a_lastColumn)) : ∀ d r f (o : Nat → Nat), r + d = L → d < f → (∀ k, k < r → o k < L ∧ zt_r (zt_g t L) L (o k) = k) → wX_listTailsOfAutomaton_2 post (nI L) f_patternLength f_distinctFound f_longestFound f_nodeCount (nI n) f_rowCount f (nI r) (fun j => nI (t j)) a_pattern (fun j => nI (o j)) a_occurs a_otherOrder a_rank a_pairRank a_nodePlace a_nodeDepth a_nodeParent a_nodeTail a_nodeBranch a_waitingNodes (fun j => nI ((l) j)) (fun j => nI ((lk) j) - 1) (fun j => nI ((en) j) - 1) (fun j => nI ((tl) j)) (fun j => nI ((b) j)) a_lastColumn := by
  have hz := zt_g_Z t L
  intro d
  induction d with
  | zero =>
    intro r f o hr hf ho
    obtain ⟨f, rfl⟩ : ∃ m, f = m + 1 := ⟨f - 1, by omega⟩
    exact br_t (nI_le (by omega) (by omega)) (h o (fun k hk => ho k (by omega)))
  | succ d ih =>
    intro r f o hr hf ho
    obtain ⟨f, rfl⟩ : ∃ m, f = m + 1 := ⟨f - 1, by omega⟩
    obtain ⟨i, hi, ei⟩ := zt_r_sur hz r (by omega)
    have P : ∀ post' : Int32 → Prop, post' (nI i) → wpX_tailOfAutomaton post' (nI L, f_patternLength, f_distinctFound, f_longestFound, f_nodeCount, nI (n), f_rowCount, fun j => nI (t j), a_pattern, fun j => nI (o j), a_occurs, a_otherOrder, a_rank, a_pairRank, a_nodePlace, a_nodeDepth, a_nodeParent, a_nodeTail, a_nodeBranch, a_waitingNodes, fun j => nI ((l) j), fun j => nI ((lk) j) - 1, fun j => nI ((en) j) - 1, fun j => nI ((tl) j), fun j => nI ((b) j), a_lastColumn) (nI r) := fun post' hp => by
      rw [← ei]
      exact zt_x_ta hL h4 M ht hi hp
    refine br_f (nI_ge (by omega) (by omega)) (P _ ⟨pk_in r 40 (by omega), nm_r (zt_upE r i (pk_cl r) rfl) (nm_r (nI_1 r) (ih (r + 1) f _ (by omega) (by omega) (fun k hk => ?_)))⟩)
    by_cases c : k = r
    · subst c; rw [zt_us]; exact ⟨hi, ei⟩
    · rw [zt_un _ _ c]; exact ho k (by omega)
theorem zt_x_la {post : SX → Prop} (hL : L ≤ 40) (h4 : ∀ i, t i < 4) (M : zt_M t L L n E l (fun v => lk v - 1) b en la) (ht : ∀ u, u < n → tl u = zt_tl t L E l u) (h : ∀ o : Nat → Nat, zt_O (zt_g t L) L o → post (nI L, f_patternLength, f_distinctFound, f_longestFound, f_nodeCount, nI (n), f_rowCount, fun j => nI (t j), a_pattern, fun j => nI (o j), a_occurs, a_otherOrder, a_rank, a_pairRank, a_nodePlace, a_nodeDepth, a_nodeParent, a_nodeTail, a_nodeBranch, a_waitingNodes, fun j => nI ((l) j), fun j => nI ((lk) j) - 1, fun j => nI ((en) j) - 1, fun j => nI ((tl) j), fun j => nI ((b) j), a_lastColumn)) : wpX_listTailsOfAutomaton post (nI L, f_patternLength, f_distinctFound, f_longestFound, f_nodeCount, nI (n), f_rowCount, fun j => nI (t j), a_pattern, a_order, a_occurs, a_otherOrder, a_rank, a_pairRank, a_nodePlace, a_nodeDepth, a_nodeParent, a_nodeTail, a_nodeBranch, a_waitingNodes, fun j => nI ((l) j), fun j => nI ((lk) j) - 1, fun j => nI ((en) j) - 1, fun j => nI ((tl) j), fun j => nI ((b) j), a_lastColumn) := by
  obtain ⟨o, rfl⟩ := zt_arr a_order
  exact ⟨L + 1, zt_x_la2 hL h4 M ht h L 0 _ o (by omega) (by omega) (fun k hk => by omega)⟩
end
