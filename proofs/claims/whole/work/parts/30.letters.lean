/-! the component: letters and places, engine 0 -/
theorem zt_br {c d A B : Prop} (e : c ↔ d) (f : d → A) (g : ¬ d → B) : (c → A) ∧ (¬ c → B) := ⟨fun h => f (e.1 h), fun h => g (fun x => h (e.2 x))⟩
theorem zt_31 {a b : Nat} (h : a < b) (hb : b ≤ 1000000 := by omega) : a < 2 ^ 31 := by omega
theorem zt_upE {f : Nat → Nat} {x y : Int32} (k v : Nat) (hx : x.toNatClampNeg = k) (hy : y = nI v) : upd (fun j => nI (f j)) x.toNatClampNeg y = fun j => nI (zt_up f k v j) := by
  rw [hx, hy]; exact zt_upI f k v
theorem zt_upM {f : Nat → Nat} {x y : Int32} (k v : Nat) (hx : x.toNatClampNeg = k) (hy : y = nI v - 1) : upd (fun j => nI (f j) - 1) x.toNatClampNeg y = fun j => nI (zt_up f k v j) - 1 := by
  rw [hx, hy]; exact zt_upN f k v
theorem zt_atI {f : Nat → Nat} {x : Int32} (k : Nat) (hx : x.toNatClampNeg = k) : (fun j => nI (f j)) x.toNatClampNeg = nI (f k) := by
  show nI (f x.toNatClampNeg) = _
  rw [hx]
theorem zt_eqI {a b : Nat} (ha : a < 4) (hb : b < 4) : nI a = nI b ↔ a = b := nI_eq (by omega) (by omega)
section
variable {f_length f_patternLength f_distinctFound f_longestFound f_nodeCount f_stateCount f_rowCount : Int32} {a_text a_pattern a_order a_occurs a_otherOrder a_rank a_pairRank a_nodePlace a_nodeDepth a_nodeParent a_nodeTail a_nodeBranch a_waitingNodes a_stateLength a_stateLink a_stateEnd a_stateTails a_stateBranch a_lastColumn : Nat → Int32}
variable {t : Nat → Nat} {L : Nat}
theorem zt_x_sl20 {post : Int32 → Prop} {i j mx : Nat} (hL : L ≤ 40) (hi : i ≤ L) (hj : j ≤ L) (m1 : i + mx ≤ L) (m2 : j + mx ≤ L) (m3 : L ≤ i + mx ∨ L ≤ j + mx) (h4 : ∀ i, t i < 4) (h : post (nI (zt_N (zt_g t L) L i j))) : ∀ d s n, s + d = mx → d < n → s ≤ zt_N (zt_g t L) L i j → wX_sharedLetters_20 post (nI i) (nI j) (nI mx) (nI L) f_patternLength f_distinctFound f_longestFound f_nodeCount f_stateCount f_rowCount (fun j => nI (t j)) a_pattern a_order a_occurs a_otherOrder a_rank a_pairRank a_nodePlace a_nodeDepth a_nodeParent a_nodeTail a_nodeBranch a_waitingNodes a_stateLength a_stateLink a_stateEnd a_stateTails a_stateBranch a_lastColumn n (nI s) := by
  intro d
  induction d with
  | zero =>
    intro s n hs hn hN
    obtain ⟨n, rfl⟩ : ∃ m, n = m + 1 := ⟨n - 1, by omega⟩
    have e : zt_N (zt_g t L) L i j = s := zt_N_max hi hj hN (by omega)
    rw [e] at h
    exact br_t (nI_le (by omega) (by omega)) h
  | succ d ih =>
    intro s n hs hn hN
    obtain ⟨n, rfl⟩ : ∃ m, n = m + 1 := ⟨n - 1, by omega⟩
    have ei : (nI i + nI s).toNatClampNeg = i + s := pk_cl (i + s) (nI_add i s)
    have ej : (nI j + nI s).toNatClampNeg = j + s := pk_cl (j + s) (nI_add j s)
    have go := zt_N_go (g := zt_g t L) hi hj hN (by omega) (by omega)
    rw [ne_eq, zt_g_eq (by omega) (by omega)] at go
    refine br_f (nI_ge (by omega) (by omega)) ⟨pk_in (i + s) 40 (by omega) (nI_add i s), pk_in (j + s) 40 (by omega) (nI_add j s), zt_br (d := t (i + s) = t (j + s)) ?_ (fun e => ?_) (fun e => ?_)⟩
    · simp only [ei, ej]; exact zt_eqI (h4 _) (h4 _)
    · exact nm_r (nI_1 s) (ih (s + 1) n (by omega) (by omega) (go.1 e))
    · rw [go.2 e] at h; exact h
theorem zt_x_sl {post : Int32 → Prop} {i j : Nat} (k : Nat) (hL : L ≤ 40) (hi : i ≤ L) (hj : j ≤ L) (h4 : ∀ i, t i < 4) (hk : k ≤ zt_N (zt_g t L) L i j) (h : post (nI (zt_N (zt_g t L) L i j))) : wpX_sharedLetters post (nI L, f_patternLength, f_distinctFound, f_longestFound, f_nodeCount, f_stateCount, f_rowCount, fun j => nI (t j), a_pattern, a_order, a_occurs, a_otherOrder, a_rank, a_pairRank, a_nodePlace, a_nodeDepth, a_nodeParent, a_nodeTail, a_nodeBranch, a_waitingNodes, a_stateLength, a_stateLink, a_stateEnd, a_stateTails, a_stateBranch, a_lastColumn) (nI i) (nI j) (nI k) := by
  have a := zt_N_i (g := zt_g t L) hi hj
  have b := zt_N_j (g := zt_g t L) hi hj
  refine pk_le i j (fun c => ?_) (fun c => ?_)
  · exact nm_r (pk_sub hj) ⟨L - j - k + 1, zt_x_sl20 hL hi hj (by omega) (by omega) (by omega) h4 h (L - j - k) k _ (by omega) (by omega) hk⟩
  · exact nm_r (pk_sub hi) ⟨L - i - k + 1, zt_x_sl20 hL hi hj (by omega) (by omega) (by omega) h4 h (L - i - k) k _ (by omega) (by omega) hk⟩
theorem zt_x_cb {post : Int32 → Prop} {i j : Nat} (hL : L ≤ 40) (hi : i < L) (hj : j < L) (ne : i ≠ j) (h4 : ∀ i, t i < 4) (h1 : zt_T (zt_g t L) i j → post 1) (h0 : ¬ zt_T (zt_g t L) i j → post 0) : wpX_comesBefore post (nI L, f_patternLength, f_distinctFound, f_longestFound, f_nodeCount, f_stateCount, f_rowCount, fun j => nI (t j), a_pattern, a_order, a_occurs, a_otherOrder, a_rank, a_pairRank, a_nodePlace, a_nodeDepth, a_nodeParent, a_nodeTail, a_nodeBranch, a_waitingNodes, a_stateLength, a_stateLink, a_stateEnd, a_stateTails, a_stateBranch, a_lastColumn) (nI i) (nI j) := by
  have a := zt_N_i (g := zt_g t L) (L := L) (i := i) (j := j) (by omega) (by omega)
  have b := zt_N_j (g := zt_g t L) (L := L) (i := i) (j := j) (by omega) (by omega)
  have z := zt_before (zt_g_Z t L) hi hj ne
  refine zt_x_sl 0 hL (by omega) (by omega) h4 (Nat.zero_le _) ?_
  generalize zt_N (zt_g t L) L i j = s at *
  have ei : (nI i + nI s).toNatClampNeg = i + s := pk_cl (i + s) (nI_add i s)
  have ej : (nI j + nI s).toNatClampNeg = j + s := pk_cl (j + s) (nI_add j s)
  refine pk_le L (i + s) (fun c => ?_) (fun c => ?_) rfl (nI_add i s)
  · have := z.1 (Or.inl c)
    exact pk_le i j (fun d => h0 (fun x => by have := this.1 x; omega)) (fun d => h1 (this.2 d))
  · refine pk_lt (j + s) L (fun d => ?_) (fun d => ?_) (nI_add j s) rfl
    · refine ⟨pk_in (i + s) 40 (by omega) (nI_add i s), pk_in (j + s) 40 (by omega) (nI_add j s), zt_br (d := t (j + s) ≤ t (i + s)) ?_ (fun e => ?_) (fun e => ?_)⟩
      · simp only [ei, ej]; exact nI_leI (zt_31 (h4 _)) (zt_31 (h4 _))
      · refine h0 (fun x => ?_)
        have := (z.2 c d).1 x
        rw [zt_g_lt c, zt_g_lt d] at this
        omega
      · refine h1 ((z.2 c d).2 ?_)
        rw [zt_g_lt c, zt_g_lt d]
        omega
    · have := z.1 (Or.inr d)
      exact pk_le i j (fun d => h0 (fun x => by have := this.1 x; omega)) (fun d => h1 (this.2 d))
theorem zt_x_so12 {post : SX → Prop} {J : _} {p : Nat} (hL : L ≤ 40) (hp : p < L) (h4 : ∀ i, t i < 4) (hJ : ∀ o, zt_SO (zt_g t L) (p + 1) o → J (nI (p + 1)) (fun j => nI (t j)) a_pattern (fun j => nI (o j)) a_occurs a_otherOrder a_rank a_pairRank a_nodePlace a_nodeDepth a_nodeParent a_nodeTail a_nodeBranch a_waitingNodes a_stateLength a_stateLink a_stateEnd a_stateTails a_stateBranch a_lastColumn) : ∀ row n o, row < n → zt_IS (zt_g t L) p row o → wX_sortByLetters_12 post J (nI p) (nI L) f_patternLength f_distinctFound f_longestFound f_nodeCount f_stateCount f_rowCount n (nI row) (fun j => nI (t j)) a_pattern (fun j => nI (o j)) a_occurs a_otherOrder a_rank a_pairRank a_nodePlace a_nodeDepth a_nodeParent a_nodeTail a_nodeBranch a_waitingNodes a_stateLength a_stateLink a_stateEnd a_stateTails a_stateBranch a_lastColumn := by
  intro row
  induction row with
  | zero =>
    intro n o hn h
    obtain ⟨n, rfl⟩ : ∃ m, n = m + 1 := ⟨n - 1, by omega⟩
    exact br_t (nI_le (a := 0) (b := 0) (Nat.le_refl 0) (by decide)) ⟨pk_in 0 40 (by omega), nm_r (zt_upE 0 p (pk_cl 0) rfl) (nm_r (nI_1 p) (hJ _ (zt_IS_2 h (Or.inl rfl))))⟩
  | succ row ih =>
    intro n o hn h
    obtain ⟨n, rfl⟩ : ∃ m, n = m + 1 := ⟨n - 1, by omega⟩
    have hr := h.1
    have er : nI (row + 1) - 1 = nI row := nI_pred row
    have ec : (nI (row + 1) - 1).toNatClampNeg = row := pk_cl row er
    have or' : o row < p := h.2.1 row (by have := h.1; omega) (by omega)
    refine br_f (nI_nle (by omega) (by omega)) ⟨pk_in row 40 (by omega) er, ?_⟩
    simp only [ec]
    refine zt_x_cb hL (by omega) (by omega) (by omega) h4 (fun hT => ?_) (fun hT => ?_)
    · exact br_f (by decide) ⟨pk_in row 40 (by omega) er, pk_in (row + 1) 40 (by omega), nm_r (zt_upE (row + 1) (o row) (pk_cl (row + 1)) rfl) (nm_r (pk_m1 row) (ih n _ (by omega) (zt_IS_1 h hT)))⟩
    · refine br_t rfl ⟨pk_in (row + 1) 40 (by omega), nm_r (zt_upE (row + 1) p (pk_cl (row + 1)) rfl) (nm_r (nI_1 p) (hJ _ (zt_IS_2 h (Or.inr ?_))))⟩
      rw [Nat.add_sub_cancel]
      rcases zt_T_to (zt_g_Z t L) (by omega : o row ≤ L) (by omega : p ≤ L) (by omega) with c | c
      · exact c
      · exact absurd c hT
theorem zt_x_so2 {post : SX → Prop} (hL : L ≤ 40) (h4 : ∀ i, t i < 4) (h : ∀ o, zt_O (zt_g t L) L o → post (nI L, f_patternLength, f_distinctFound, f_longestFound, f_nodeCount, f_stateCount, f_rowCount, fun j => nI (t j), a_pattern, fun j => nI (o j), a_occurs, a_otherOrder, a_rank, a_pairRank, a_nodePlace, a_nodeDepth, a_nodeParent, a_nodeTail, a_nodeBranch, a_waitingNodes, a_stateLength, a_stateLink, a_stateEnd, a_stateTails, a_stateBranch, a_lastColumn)) : ∀ d p n o, p + d = L → d < n → zt_SO (zt_g t L) p o → wX_sortByLetters_2 post (nI L) f_patternLength f_distinctFound f_longestFound f_nodeCount f_stateCount f_rowCount n (nI p) (fun j => nI (t j)) a_pattern (fun j => nI (o j)) a_occurs a_otherOrder a_rank a_pairRank a_nodePlace a_nodeDepth a_nodeParent a_nodeTail a_nodeBranch a_waitingNodes a_stateLength a_stateLink a_stateEnd a_stateTails a_stateBranch a_lastColumn := by
  intro d
  induction d with
  | zero =>
    intro p n o hp hn hS
    obtain ⟨n, rfl⟩ : ∃ m, n = m + 1 := ⟨n - 1, by omega⟩
    have e : p = L := by omega
    subst e
    exact br_t (nI_le (Nat.le_refl _) (by omega)) (h o (zt_SO_O hS))
  | succ d ih =>
    intro p n o hp hn hS
    obtain ⟨n, rfl⟩ : ∃ m, n = m + 1 := ⟨n - 1, by omega⟩
    exact br_f (nI_ge (by omega) (by omega)) ⟨p + 1, zt_x_so12 hL (by omega) h4 (fun o' h' => ih (p + 1) n o' (by omega) (by omega) h') p _ o (by omega) (zt_IS_0 hS)⟩
theorem zt_x_so {post : SX → Prop} (hL : L ≤ 40) (h4 : ∀ i, t i < 4) (h : ∀ o, zt_O (zt_g t L) L o → post (nI L, f_patternLength, f_distinctFound, f_longestFound, f_nodeCount, f_stateCount, f_rowCount, fun j => nI (t j), a_pattern, fun j => nI (o j), a_occurs, a_otherOrder, a_rank, a_pairRank, a_nodePlace, a_nodeDepth, a_nodeParent, a_nodeTail, a_nodeBranch, a_waitingNodes, a_stateLength, a_stateLink, a_stateEnd, a_stateTails, a_stateBranch, a_lastColumn)) : wpX_sortByLetters post (nI L, f_patternLength, f_distinctFound, f_longestFound, f_nodeCount, f_stateCount, f_rowCount, fun j => nI (t j), a_pattern, a_order, a_occurs, a_otherOrder, a_rank, a_pairRank, a_nodePlace, a_nodeDepth, a_nodeParent, a_nodeTail, a_nodeBranch, a_waitingNodes, a_stateLength, a_stateLink, a_stateEnd, a_stateTails, a_stateBranch, a_lastColumn) := by
  obtain ⟨o, rfl⟩ := zt_arr a_order
  exact ⟨L + 1, zt_x_so2 hL h4 h L 0 _ o (by omega) (by omega) ⟨fun a ha => by omega, fun a b h1 h2 => by omega⟩⟩
theorem zt_x_sw {post : Int32 → Prop} {o : Nat → Nat} {k : Nat} (hL : L ≤ 40) (h4 : ∀ i, t i < 4) (hO : zt_O (zt_g t L) L o) (hk : k < L) (h : post (nI (if k = 0 then 0 else zt_N (zt_g t L) L (o (k - 1)) (o k)))) : wpX_sharedWithRowBefore post (nI L, f_patternLength, f_distinctFound, f_longestFound, f_nodeCount, f_stateCount, f_rowCount, fun j => nI (t j), a_pattern, fun j => nI (o j), a_occurs, a_otherOrder, a_rank, a_pairRank, a_nodePlace, a_nodeDepth, a_nodeParent, a_nodeTail, a_nodeBranch, a_waitingNodes, a_stateLength, a_stateLink, a_stateEnd, a_stateTails, a_stateBranch, a_lastColumn) (nI k) := by
  refine pk_eq k 0 (fun c => ?_) (fun c => ?_)
  · rw [if_pos c] at h; exact h
  · rw [if_neg c] at h
    obtain ⟨k, rfl⟩ : ∃ m, k = m + 1 := ⟨k - 1, by omega⟩
    rw [Nat.add_sub_cancel] at h
    have er : nI (k + 1) - 1 = nI k := nI_pred k
    have ec : (nI (k + 1) - 1).toNatClampNeg = k := pk_cl k er
    have ek : (nI (k + 1)).toNatClampNeg = k + 1 := pk_cl (k + 1)
    have a := (hO k (by omega)).1
    have b := (hO (k + 1) hk).1
    refine ⟨pk_in k 40 (by omega) er, pk_in (k + 1) 40 (by omega), ?_⟩
    simp only [ec, ek]
    exact zt_x_sl 0 hL (by omega) (by omega) h4 (Nat.zero_le _) h
theorem zt_x_nl {post : SX → Prop} {a b : Nat} (ha : a < 2 ^ 31) (hb : b < 2 ^ 31) (h : post (f_length, f_patternLength, f_distinctFound, nI (if b < a then a else b), f_nodeCount, f_stateCount, f_rowCount, a_text, a_pattern, a_order, a_occurs, a_otherOrder, a_rank, a_pairRank, a_nodePlace, a_nodeDepth, a_nodeParent, a_nodeTail, a_nodeBranch, a_waitingNodes, a_stateLength, a_stateLink, a_stateEnd, a_stateTails, a_stateBranch, a_lastColumn)) : wpX_noteLongest post (f_length, f_patternLength, f_distinctFound, nI b, f_nodeCount, f_stateCount, f_rowCount, a_text, a_pattern, a_order, a_occurs, a_otherOrder, a_rank, a_pairRank, a_nodePlace, a_nodeDepth, a_nodeParent, a_nodeTail, a_nodeBranch, a_waitingNodes, a_stateLength, a_stateLink, a_stateEnd, a_stateTails, a_stateBranch, a_lastColumn) (nI a) := by
  refine pk_le a b (fun c => ?_) (fun c => ?_)
  · rw [if_neg (by omega)] at h; exact h
  · rw [if_pos c] at h; exact h
theorem zt_x_mr2 {post : SX → Prop} {o : Nat → Nat} (hL : L ≤ 40) (h4 : ∀ i, t i < 4) (hO : zt_O (zt_g t L) L o) (h : post (nI L, f_patternLength, nI (zt_D (zt_g t L) L (fun i => i)), nI (zt_m (fun k => if k = 0 then 0 else zt_N (zt_g t L) L (o (k - 1)) (o k)) L), f_nodeCount, f_stateCount, f_rowCount, fun j => nI (t j), a_pattern, fun j => nI (o j), a_occurs, a_otherOrder, a_rank, a_pairRank, a_nodePlace, a_nodeDepth, a_nodeParent, a_nodeTail, a_nodeBranch, a_waitingNodes, a_stateLength, a_stateLink, a_stateEnd, a_stateTails, a_stateBranch, a_lastColumn)) : ∀ d k n, k + d = L → d < n → wX_measureRows_2 post n (nI k) (nI L) f_patternLength (nI (zt_s (fun k => L - o k - (if k = 0 then 0 else zt_N (zt_g t L) L (o (k - 1)) (o k))) k)) (nI (zt_m (fun k => if k = 0 then 0 else zt_N (zt_g t L) L (o (k - 1)) (o k)) k)) f_nodeCount f_stateCount f_rowCount (fun j => nI (t j)) a_pattern (fun j => nI (o j)) a_occurs a_otherOrder a_rank a_pairRank a_nodePlace a_nodeDepth a_nodeParent a_nodeTail a_nodeBranch a_waitingNodes a_stateLength a_stateLink a_stateEnd a_stateTails a_stateBranch a_lastColumn := by
  have hz := zt_g_Z t L
  have bd : ∀ k, k < L → (if k = 0 then 0 else zt_N (zt_g t L) L (o (k - 1)) (o k)) + o k ≤ L := by
    intro k hk
    have b := (hO k hk).1
    split
    · omega
    · have a := (hO (k - 1) (by omega)).1
      have := zt_N_j (g := zt_g t L) (L := L) (i := o (k - 1)) (j := o k) (by omega) (by omega)
      omega
  intro d
  induction d with
  | zero =>
    intro k n hk hn
    obtain ⟨n, rfl⟩ : ∃ m, n = m + 1 := ⟨n - 1, by omega⟩
    have e : k = L := by omega
    subst e
    refine br_t (nI_le (Nat.le_refl _) (by omega)) ?_
    rw [zt_D_rows hz hO, zt_D_eq (rk := fun i => i) (fun i j hi hj e => zt_r_inj hz hi hj e) (fun i j _ _ e => e)]
    exact h
  | succ d ih =>
    intro k n hk hn
    obtain ⟨n, rfl⟩ : ∃ m, n = m + 1 := ⟨n - 1, by omega⟩
    have ek : (nI k).toNatClampNeg = k := pk_cl k
    have b := bd k (by omega)
    have b2 : zt_m (fun k => if k = 0 then 0 else zt_N (zt_g t L) L (o (k - 1)) (o k)) k ≤ L := zt_m_le fun i hi => by
      have := bd i (by omega)
      omega
    refine br_f (nI_ge (by omega) (by omega)) (zt_x_sw hL h4 hO (by omega) ⟨pk_in k 40 (by omega), nm_r (e' := nI (zt_s (fun k => L - o k - (if k = 0 then 0 else zt_N (zt_g t L) L (o (k - 1)) (o k))) (k + 1))) ?_ ?_⟩)
    · simp only [ek]
      rw [pk_sub (by omega), pk_sub (by omega), nI_add, zt_s1]
    · exact zt_x_nl (by omega) (by omega) (nm_r (nI_1 k) (ih (k + 1) n (by omega) (by omega)))
theorem zt_x_mr {post : SX → Prop} {o : Nat → Nat} (hL : L ≤ 40) (h4 : ∀ i, t i < 4) (hO : zt_O (zt_g t L) L o) (h : ∀ G, zt_G (zt_g t L) L G → post (nI L, f_patternLength, nI (zt_D (zt_g t L) L (fun i => i)), nI G, f_nodeCount, f_stateCount, f_rowCount, fun j => nI (t j), a_pattern, fun j => nI (o j), a_occurs, a_otherOrder, a_rank, a_pairRank, a_nodePlace, a_nodeDepth, a_nodeParent, a_nodeTail, a_nodeBranch, a_waitingNodes, a_stateLength, a_stateLink, a_stateEnd, a_stateTails, a_stateBranch, a_lastColumn)) : wpX_measureRows post (nI L, f_patternLength, 0, 0, f_nodeCount, f_stateCount, f_rowCount, fun j => nI (t j), a_pattern, fun j => nI (o j), a_occurs, a_otherOrder, a_rank, a_pairRank, a_nodePlace, a_nodeDepth, a_nodeParent, a_nodeTail, a_nodeBranch, a_waitingNodes, a_stateLength, a_stateLink, a_stateEnd, a_stateTails, a_stateBranch, a_lastColumn) :=
  ⟨L + 1, zt_x_mr2 hL h4 hO (h _ (zt_G_mr (zt_g_Z t L) hO)) L 0 _ (by omega) (by omega)⟩
end
