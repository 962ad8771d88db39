/-! engine 3: the automaton built -/
def zt_AU (t : Nat → Nat) (L k n : Nat) (l lk en tl b : Nat → Nat) (la : Nat) : Prop := (∃ E, zt_M t L k n E l (fun v => lk v - 1) b en la) ∧ lk 0 = 0 ∧ (∀ v, 0 < v → v < n → 0 < lk v) ∧ ∀ v, v < n → tl v = 0
/-- the first turning, step by step; s is the state + 1, 0 for none -/
def zt_J1 (t : Nat → Nat) (L k n : Nat) (E l b : Nat → Nat) (i s : Nat) (b' : Nat → Nat) : Prop := (s = 0 ∧ zt_T1 t L k n E l b 0 b') ∨ ∃ v, s = v + 1 ∧ v < n ∧ zt_On t L k E l v ∧ zt_T1 t L k n E l b (l v + 1) b' ∧ i + l v ≤ k
def zt_J2 (t : Nat → Nat) (L k n : Nat) (E l b : Nat → Nat) (x lv : Nat) (b1 : Nat → Nat) (i s : Nat) (b' : Nat → Nat) : Prop := (s = 0 ∧ zt_T2 t L k n E l b x (lv + 1) b1 0 b') ∨ ∃ w, s = w + 1 ∧ w < n ∧ zt_On t L k E l w ∧ l w ≤ lv ∧ zt_T2 t L k n E l b x (lv + 1) b1 (l w + 1) b' ∧ i + l w ≤ lv
section
variable {t : Nat → Nat} {L k n : Nat} {E l lk b en : Nat → Nat} {la : Nat}
theorem zt_b_lt (ht : ∀ i, t i < 4) (h : zt_M t L k n E l (fun v => lk v - 1) b en la) {v : Nat} (hv : v < n) : b (v * 4 + t k) < n := by
  by_cases c : b (v * 4 + t k) = 0
  · have := h.1.1.1
    have n0 : 0 < n := this
    omega
  · obtain ⟨e, e1, e2, e3⟩ := h.2.1.2 v _ hv (ht k) c
    have := (h.2.1.1 v e hv e1 e3).2.1
    rw [e2] at this
    exact this
theorem zt_J1_s (ht : ∀ i, t i < 4) (hk : k < L) (h : zt_M t L k n E l (fun v => lk v - 1) b en la) (l0 : lk 0 = 0) (lp : ∀ v, 0 < v → v < n → 0 < lk v) {i s : Nat} {b' : Nat → Nat} (H : zt_J1 t L k n E l b i (s + 1) b') : s < n ∧ i ≤ k ∧ zt_On t L k E l s ∧ zt_T1 t L k n E l b (l s + 1) b' ∧ b' (s * 4 + t k) < n ∧ (b' (s * 4 + t k) = 0 → lk s ≤ n ∧ zt_J1 t L k n E l b (i + 1) (lk s) (zt_up b' (s * 4 + t k) n)) := by
  rcases H with ⟨z, _⟩ | ⟨v, e, hv, on, hT, hi⟩
  · omega
  · have e' : v = s := by omega
    subst e'
    have eb := hT.2.2 v (t k) hv (ht k) (fun x => by omega)
    have nx := zt_T_next (by omega) h.1 (Nat.le_refl k) hv on
    refine ⟨hv, by omega, on, hT, by rw [eb]; exact zt_b_lt ht h hv, fun z => ?_⟩
    by_cases v0 : v = 0
    · subst v0
      rw [l0]
      refine ⟨Nat.zero_le _, Or.inl ⟨rfl, zt_T1_1 ht hv hT z (Nat.zero_le _) (fun u hu onu _ => nx.1 rfl u hu onu) on⟩⟩
    · obtain ⟨a1, a2, a3, a4⟩ := nx.2 (by omega)
      have lpv := lp v (by omega) hv
      have a1' : lk v - 1 < n := a1
      have a3' : l (lk v - 1) < l v := a3
      refine ⟨by omega, Or.inr ⟨lk v - 1, by omega, a1, a2, zt_T1_1 ht hv hT z (by omega) a4 on, by omega⟩⟩
theorem zt_J1_0 (hk : k < L) (h : zt_M t L k n E l (fun v => lk v - 1) b en la) {b' : Nat → Nat} (h0 : ∀ c, c < 4 → b' (n * 4 + c) = 0) (h1 : ∀ u c, u < n → c < 4 → b' (u * 4 + c) = b (u * 4 + c)) : zt_J1 t L k n E l b 0 (la + 1) b' := by
  obtain ⟨a1, a2, a3⟩ := h.2.2.2.2.1
  refine Or.inr ⟨la, rfl, a1, ?_, zt_T1_0 (by omega) h.1 (by omega) h0 h1, by omega⟩
  show l la ≤ zt_V t L (E la) k
  rw [a3, zt_V_s (by omega)]; omega
theorem zt_J2_s (ht : ∀ i, t i < 4) (hk : k < L) (h : zt_M t L k n E l (fun v => lk v - 1) b en la) (l0 : lk 0 = 0) (lp : ∀ v, 0 < v → v < n → 0 < lk v) {x lv : Nat} {b1 : Nat → Nat} (hb1 : ∀ u c, u < n → c < 4 → ¬ (c = t k ∧ zt_On t L k E l u ∧ lv + 1 ≤ l u) → b1 (u * 4 + c) = b (u * 4 + c)) {i s : Nat} {b' : Nat → Nat} (H : zt_J2 t L k n E l b x lv b1 i (s + 1) b') : s < n ∧ i ≤ lv ∧ zt_On t L k E l s ∧ l s ≤ lv ∧ zt_T2 t L k n E l b x (lv + 1) b1 (l s + 1) b' ∧ b' (s * 4 + t k) < n ∧ (b' (s * 4 + t k) = x → lk s ≤ n ∧ zt_J2 t L k n E l b x lv b1 (i + 1) (lk s) (zt_up b' (s * 4 + t k) (n + 1))) := by
  rcases H with ⟨z, _⟩ | ⟨v, e, hv, on, hlv, hT, hi⟩
  · omega
  · have e' : v = s := by omega
    subst e'
    have eb := hT.2 v (t k) (by omega) (ht k) (fun x => by omega)
    have eb2 := hb1 v (t k) hv (ht k) (fun x => by omega)
    have nx := zt_T_next (by omega) h.1 (Nat.le_refl k) hv on
    refine ⟨hv, by omega, on, hlv, hT, by rw [eb, eb2]; exact zt_b_lt ht h hv, fun z => ?_⟩
    by_cases v0 : v = 0
    · subst v0
      rw [l0]
      refine ⟨Nat.zero_le _, Or.inl ⟨rfl, zt_T2_1 ht hv hb1 (by omega) hT z (Nat.zero_le _) (fun u hu onu _ => nx.1 rfl u hu onu) on⟩⟩
    · obtain ⟨a1, a2, a3, a4⟩ := nx.2 (by omega)
      have lpv := lp v (by omega) hv
      have a1' : lk v - 1 < n := a1
      have a3' : l (lk v - 1) < l v := a3
      refine ⟨by omega, Or.inr ⟨lk v - 1, by omega, a1, a2, by omega, zt_T2_1 ht hv hb1 (by omega) hT z (by omega) a4 on, by omega⟩⟩
end
def zt_cd (b : Nat → Nat) (n x c : Nat) : Nat → Nat := fun j => if j / 4 = n ∧ j % 4 < c then b (x * 4 + j % 4) else b j
theorem zt_cd_0 (b : Nat → Nat) (n x : Nat) : zt_cd b n x 0 = b := funext fun j => if_neg (by omega)
theorem zt_cd_4 (b : Nat → Nat) (n x : Nat) : zt_cd b n x 4 = zt_cb b n x := funext fun j => by
  unfold zt_cd zt_cb
  by_cases c : j / 4 = n
  · rw [if_pos ⟨c, by omega⟩, if_pos c]
  · rw [if_neg (fun x => c x.1), if_neg c]
theorem zt_cd_x (b : Nat → Nat) {n x : Nat} (c : Nat) {q : Nat} (hx : x ≠ n) (hq : q < 4) : zt_cd b n x c (x * 4 + q) = b (x * 4 + q) := if_neg (by omega)
theorem zt_cd_1 (b : Nat → Nat) {n x : Nat} (c : Nat) (hc : c < 4) : zt_up (zt_cd b n x c) (n * 4 + c) (b (x * 4 + c)) = zt_cd b n x (c + 1) := funext fun j => by
  unfold zt_up zt_cd
  by_cases e : j = n * 4 + c
  · rw [if_pos e, if_pos (by omega)]
    congr 1
    omega
  · rw [if_neg e]
    by_cases f : j / 4 = n ∧ j % 4 < c
    · rw [if_pos f, if_pos (by omega)]
    · rw [if_neg f, if_neg (by omega)]
section
variable {f_length f_patternLength f_distinctFound f_longestFound f_nodeCount f_stateCount f_rowCount : Int32} {a_text a_pattern a_order a_occurs a_otherOrder a_rank a_pairRank a_nodePlace a_nodeDepth a_nodeParent a_nodeTail a_nodeBranch a_waitingNodes a_stateLength a_stateLink a_stateEnd a_stateTails a_stateBranch a_lastColumn : Nat → Int32}
variable {t pat : Nat → Nat} {L m : Nat}
theorem zt_x_ns46 {post : Int32 → SX → Prop} {n : Nat} {b : Nat → Nat} (hn : n < 81) (h : post (nI n) (f_length, f_patternLength, f_distinctFound, f_longestFound, f_nodeCount, f_stateCount, f_rowCount, a_text, a_pattern, a_order, a_occurs, a_otherOrder, a_rank, a_pairRank, a_nodePlace, a_nodeDepth, a_nodeParent, a_nodeTail, a_nodeBranch, a_waitingNodes, a_stateLength, a_stateLink, a_stateEnd, a_stateTails, fun j => nI (zt_zb b n j), a_lastColumn)) : ∀ d c f, c + d = 4 → d < f → wX_newState_46 post (nI n) f_length f_patternLength f_distinctFound f_longestFound f_nodeCount f_stateCount f_rowCount f (nI c) a_text a_pattern a_order a_occurs a_otherOrder a_rank a_pairRank a_nodePlace a_nodeDepth a_nodeParent a_nodeTail a_nodeBranch a_waitingNodes a_stateLength a_stateLink a_stateEnd a_stateTails (fun j => nI (zt_zc b n c j)) a_lastColumn := by
  intro d
  induction d with
  | zero =>
    intro c f hc hf
    obtain ⟨f, rfl⟩ : ∃ m, f = m + 1 := ⟨f - 1, by omega⟩
    have e : c = 4 := by omega
    subst e
    rw [zt_zc_4]
    exact br_t (nI_le (a := 4) (b := 4) (Nat.le_refl _) (by decide)) h
  | succ d ih =>
    intro c f hc hf
    obtain ⟨f, rfl⟩ : ∃ m, f = m + 1 := ⟨f - 1, by omega⟩
    have nx := ih (c + 1) f (by omega) (by omega)
    rw [← zt_zc_1 b n c (by omega)] at nx
    exact br_f (nI_ge (b := 4) (by omega) (by decide)) ⟨pk_in (n * 4 + c) 324 (by omega) (zt_ix4 n c), nm_r (zt_upE (n * 4 + c) 0 (pk_cl _ (zt_ix4 n c)) rfl) (nm_r (nI_1 c) nx)⟩
theorem zt_x_ns {post : Int32 → SX → Prop} {n q e : Nat} {x : Int32} {l lk en tl b : Nat → Nat} (hn : n < 81) (hx : x = nI e - 1) (h : post (nI n) (f_length, f_patternLength, f_distinctFound, f_longestFound, f_nodeCount, nI (n + 1), f_rowCount, a_text, a_pattern, a_order, a_occurs, a_otherOrder, a_rank, a_pairRank, a_nodePlace, a_nodeDepth, a_nodeParent, a_nodeTail, a_nodeBranch, a_waitingNodes, fun j => nI ((zt_up l n q) j), fun j => nI ((zt_up lk n 0) j) - 1, fun j => nI ((zt_up en n e) j) - 1, fun j => nI ((zt_up tl n 0) j), fun j => nI ((zt_zb b n) j), a_lastColumn)) : wpX_newState post (f_length, f_patternLength, f_distinctFound, f_longestFound, f_nodeCount, nI (n), f_rowCount, a_text, a_pattern, a_order, a_occurs, a_otherOrder, a_rank, a_pairRank, a_nodePlace, a_nodeDepth, a_nodeParent, a_nodeTail, a_nodeBranch, a_waitingNodes, fun j => nI ((l) j), fun j => nI ((lk) j) - 1, fun j => nI ((en) j) - 1, fun j => nI ((tl) j), fun j => nI ((b) j), a_lastColumn) (nI q) x := by
  have en' : (nI n).toNatClampNeg = n := pk_cl n
  have vn : vp_in (nI n) 81 := pk_in n 81 hn
  refine nm_r (nI_1 n) ⟨vn, nm_r (zt_upE n q en' rfl) ⟨vn, nm_r (zt_upM n e en' hx) ⟨vn, nm_r (zt_upM n 0 en' zt_Im1) ⟨vn, nm_r (zt_upE n 0 en' rfl) ⟨5, ?_⟩⟩⟩⟩⟩
  have a := zt_x_ns46 (b := b) hn h 4 0 5 (by omega) (by omega)
  rw [zt_zc_0] at a
  exact a
theorem zt_x_tu6 {post : Int32 → SX → Prop} {c old tg sc : Nat} {lk : Nat → Nat} (J : Nat → Nat → (Nat → Nat) → Prop) (hsc : sc ≤ 81) (hc : c < 4) (hold : old < 2 ^ 31) (hs : ∀ i s b, J i (s + 1) b → s < 81 ∧ i < sc ∧ b (s * 4 + c) < 2 ^ 31 ∧ (b (s * 4 + c) = old → lk s ≤ 81 ∧ J (i + 1) (lk s) (zt_up b (s * 4 + c) tg))) (hN : ∀ i b, J i 0 b → post (-1) (f_length, f_patternLength, f_distinctFound, f_longestFound, f_nodeCount, nI sc, f_rowCount, a_text, a_pattern, a_order, a_occurs, a_otherOrder, a_rank, a_pairRank, a_nodePlace, a_nodeDepth, a_nodeParent, a_nodeTail, a_nodeBranch, a_waitingNodes, a_stateLength, fun j => nI (lk j) - 1, a_stateEnd, a_stateTails, fun j => nI (b j), a_lastColumn)) (hR : ∀ i s b, J i (s + 1) b → b (s * 4 + c) ≠ old → post (nI s) (f_length, f_patternLength, f_distinctFound, f_longestFound, f_nodeCount, nI sc, f_rowCount, a_text, a_pattern, a_order, a_occurs, a_otherOrder, a_rank, a_pairRank, a_nodePlace, a_nodeDepth, a_nodeParent, a_nodeTail, a_nodeBranch, a_waitingNodes, a_stateLength, fun j => nI (lk j) - 1, a_stateEnd, a_stateTails, fun j => nI (b j), a_lastColumn)) : ∀ f i s (b : Nat → Nat) (x : Int32), sc - i < f → i ≤ sc → s ≤ 81 → x = nI s - 1 → J i s b → wX_turnBranches_6 post (nI c) (nI old) (nI tg) f_length f_patternLength f_distinctFound f_longestFound f_nodeCount (nI sc) f_rowCount f x (nI i) a_text a_pattern a_order a_occurs a_otherOrder a_rank a_pairRank a_nodePlace a_nodeDepth a_nodeParent a_nodeTail a_nodeBranch a_waitingNodes a_stateLength (fun j => nI (lk j) - 1) a_stateEnd a_stateTails (fun j => nI (b j)) a_lastColumn := by
  intro f
  induction f with
  | zero => intro i s b x hf; omega
  | succ f ih =>
    intro i s b x hf hi hs81 hx H
    by_cases s0 : s = 0
    · subst s0
      subst hx
      exact pk_le sc i (fun _ => hN i b H) (fun _ => br_t rfl (hN i b H))
    · obtain ⟨s, rfl⟩ : ∃ s', s = s' + 1 := ⟨s - 1, by omega⟩
      rw [nI_pred] at hx
      subst hx
      obtain ⟨a1, a2, a3, a4⟩ := hs i s b H
      have ei : (nI s * 4 + nI c).toNatClampNeg = s * 4 + c := pk_cl _ (zt_ix4 s c)
      have vi : vp_in (nI s * 4 + nI c) 324 := pk_in (s * 4 + c) 324 (by omega) (zt_ix4 s c)
      have es : (nI s).toNatClampNeg = s := pk_cl s
      refine br_f (nI_ge a2 (by omega)) (br_f (zt_ne1 (by omega)) ⟨vi, zt_br (d := b (s * 4 + c) = old) ?_ (fun z => ⟨vi, nm_r (zt_upE (s * 4 + c) tg ei rfl) ⟨pk_in s 81 a1, nm_r (e' := nI (lk s) - 1) (by simp only [es]) (nm_r (nI_1 i) (ih (i + 1) (lk s) _ _ (by omega) (by omega) (a4 z).1 rfl (a4 z).2))⟩⟩) (fun z => hR i s b H z)⟩)
      simp only [ei]
      exact nI_eq a3 hold
theorem zt_x_nt22 {post : Int32 → SX → Prop} {n x : Nat} {b : Nat → Nat} (hn : n < 81) (hx : x < n) (h : post (nI n) (f_length, f_patternLength, f_distinctFound, f_longestFound, f_nodeCount, f_stateCount, f_rowCount, a_text, a_pattern, a_order, a_occurs, a_otherOrder, a_rank, a_pairRank, a_nodePlace, a_nodeDepth, a_nodeParent, a_nodeTail, a_nodeBranch, a_waitingNodes, a_stateLength, a_stateLink, a_stateEnd, a_stateTails, fun j => nI (zt_cb b n x j), a_lastColumn)) : ∀ d c f, c + d = 4 → d < f → wX_newTwin_22 post (nI x) (nI n) f_length f_patternLength f_distinctFound f_longestFound f_nodeCount f_stateCount f_rowCount f (nI c) a_text a_pattern a_order a_occurs a_otherOrder a_rank a_pairRank a_nodePlace a_nodeDepth a_nodeParent a_nodeTail a_nodeBranch a_waitingNodes a_stateLength a_stateLink a_stateEnd a_stateTails (fun j => nI (zt_cd b n x c j)) a_lastColumn := by
  intro d
  induction d with
  | zero =>
    intro c f hc hf
    obtain ⟨f, rfl⟩ : ∃ m, f = m + 1 := ⟨f - 1, by omega⟩
    have e : c = 4 := by omega
    subst e
    rw [zt_cd_4]
    exact br_t (nI_le (a := 4) (b := 4) (Nat.le_refl _) (by decide)) h
  | succ d ih =>
    intro c f hc hf
    obtain ⟨f, rfl⟩ : ∃ m, f = m + 1 := ⟨f - 1, by omega⟩
    have nx := ih (c + 1) f (by omega) (by omega)
    rw [← zt_cd_1 b c (by omega)] at nx
    refine br_f (nI_ge (b := 4) (by omega) (by decide)) ⟨pk_in (x * 4 + c) 324 (by omega) (zt_ix4 x c), pk_in (n * 4 + c) 324 (by omega) (zt_ix4 n c), nm_r (zt_upE (n * 4 + c) (b (x * 4 + c)) (pk_cl _ (zt_ix4 n c)) ?_) (nm_r (nI_1 c) nx)⟩
    simp only [pk_cl _ (zt_ix4 x c)]
    rw [zt_cd_x b c (by omega) (by omega)]
theorem zt_x_nt {post : Int32 → SX → Prop} {n x q : Nat} {l lk en tl b : Nat → Nat} (hn : n < 81) (hx : x < n) (h : post (nI n) (f_length, f_patternLength, f_distinctFound, f_longestFound, f_nodeCount, nI (n + 1), f_rowCount, a_text, a_pattern, a_order, a_occurs, a_otherOrder, a_rank, a_pairRank, a_nodePlace, a_nodeDepth, a_nodeParent, a_nodeTail, a_nodeBranch, a_waitingNodes, fun j => nI ((zt_up l n q) j), fun j => nI ((zt_up lk n (lk x)) j) - 1, fun j => nI ((zt_up en n 0) j) - 1, fun j => nI ((zt_up tl n 0) j), fun j => nI ((zt_cb (zt_zb b n) n x) j), a_lastColumn)) : wpX_newTwin post (f_length, f_patternLength, f_distinctFound, f_longestFound, f_nodeCount, nI (n), f_rowCount, a_text, a_pattern, a_order, a_occurs, a_otherOrder, a_rank, a_pairRank, a_nodePlace, a_nodeDepth, a_nodeParent, a_nodeTail, a_nodeBranch, a_waitingNodes, fun j => nI ((l) j), fun j => nI ((lk) j) - 1, fun j => nI ((en) j) - 1, fun j => nI ((tl) j), fun j => nI ((b) j), a_lastColumn) (nI x) (nI q) := by
  have ex : (nI x).toNatClampNeg = x := pk_cl x
  have en' : (nI n).toNatClampNeg = n := pk_cl n
  unfold wpX_newTwin
  refine zt_x_ns (e := 0) hn zt_Im1 ⟨pk_in x 81 (by omega), pk_in n 81 hn, nm_r (zt_upM n (lk x) en' ?_) ⟨5, ?_⟩⟩
  · simp only [ex]
    rw [zt_un _ _ (by omega)]
  · rw [zt_upp]
    have a := zt_x_nt22 (b := zt_zb b n) hn hx h 4 0 5 (by omega) (by omega)
    rw [zt_cd_0] at a
    exact a
end
