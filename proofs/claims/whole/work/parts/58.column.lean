/-! engine 4: the last column -/
section
variable {f_length f_patternLength f_distinctFound f_longestFound f_nodeCount f_stateCount f_rowCount : Int32} {a_text a_pattern a_order a_occurs a_otherOrder a_rank a_pairRank a_nodePlace a_nodeDepth a_nodeParent a_nodeTail a_nodeBranch a_waitingNodes a_stateLength a_stateLink a_stateEnd a_stateTails a_stateBranch a_lastColumn : Nat → Int32}
variable {t pat : Nat → Nat} {L m : Nat}
theorem zt_x_rw5 {post : Int32 → Prop} {R c r : Nat} {col : Nat → Nat} (hR : R ≤ 41) (hc : c < 4) (hr : r ≤ 41) (hb : ∀ o, o < R → col o ≤ 4) (h : post (nI (1 + zt_c (fun o => (0 < col o ∧ col o < c + 1) ∨ (col o = c + 1 ∧ o < r)) R))) : ∀ d o f, o + d = R → d < f → wX_rowWithLetterBefore_5 post (nI c) (nI r) f_length f_patternLength f_distinctFound f_longestFound f_nodeCount f_stateCount (nI (R)) a_text a_pattern a_order a_occurs a_otherOrder a_rank a_pairRank a_nodePlace a_nodeDepth a_nodeParent a_nodeTail a_nodeBranch a_waitingNodes a_stateLength a_stateLink a_stateEnd a_stateTails a_stateBranch (fun j => nI ((col) j) - 1) f (nI (1 + zt_c (fun o => (0 < col o ∧ col o < c + 1) ∨ (col o = c + 1 ∧ o < r)) o)) (nI o) := by
  intro d
  induction d with
  | zero =>
    intro o f ho hf
    obtain ⟨f, rfl⟩ : ∃ m, f = m + 1 := ⟨f - 1, by omega⟩
    have e : o = R := by omega
    subst e
    exact br_t (nI_le (Nat.le_refl _) (by omega)) h
  | succ d ih =>
    intro o f ho hf
    obtain ⟨f, rfl⟩ : ∃ m, f = m + 1 := ⟨f - 1, by omega⟩
    have nx := ih (o + 1) f (by omega) (by omega)
    have bo := hb o (by omega)
    have eo : (nI o).toNatClampNeg = o := pk_cl o
    have yes : ((0 < col o ∧ col o < c + 1) ∨ (col o = c + 1 ∧ o < r)) → wX_rowWithLetterBefore_5 post (nI c) (nI r) f_length f_patternLength f_distinctFound f_longestFound f_nodeCount f_stateCount (nI (R)) a_text a_pattern a_order a_occurs a_otherOrder a_rank a_pairRank a_nodePlace a_nodeDepth a_nodeParent a_nodeTail a_nodeBranch a_waitingNodes a_stateLength a_stateLink a_stateEnd a_stateTails a_stateBranch (fun j => nI ((col) j) - 1) f (nI (1 + zt_c (fun o => (0 < col o ∧ col o < c + 1) ∨ (col o = c + 1 ∧ o < r)) o + 1)) (nI (o + 1)) := fun y => by
      rw [zt_ct (p := fun o => (0 < col o ∧ col o < c + 1) ∨ (col o = c + 1 ∧ o < r)) y] at nx
      exact nx
    have no : ¬ ((0 < col o ∧ col o < c + 1) ∨ (col o = c + 1 ∧ o < r)) → wX_rowWithLetterBefore_5 post (nI c) (nI r) f_length f_patternLength f_distinctFound f_longestFound f_nodeCount f_stateCount (nI (R)) a_text a_pattern a_order a_occurs a_otherOrder a_rank a_pairRank a_nodePlace a_nodeDepth a_nodeParent a_nodeTail a_nodeBranch a_waitingNodes a_stateLength a_stateLink a_stateEnd a_stateTails a_stateBranch (fun j => nI ((col) j) - 1) f (nI (1 + zt_c (fun o => (0 < col o ∧ col o < c + 1) ∨ (col o = c + 1 ∧ o < r)) o)) (nI (o + 1)) := fun y => by
      rw [zt_cf (p := fun o => (0 < col o ∧ col o < c + 1) ∨ (col o = c + 1 ∧ o < r)) y] at nx
      exact nx
    refine br_f (nI_ge (by omega) (by omega)) ⟨pk_in o 41 (by omega), nm_r (e' := nI (col o) - 1) (by simp only [eo]) ?_⟩
    by_cases z : col o = 0
    · rw [z]
      refine br_t rfl (br_t rfl (br_f (fun e => ?_) (nm_r (nI_1 o) (no (by omega)))))
      exact zt_ne1 (by omega : c < 2 ^ 31) (e.symm.trans rfl)
    · obtain ⟨a, ha⟩ : ∃ a, col o = a + 1 := ⟨col o - 1, by omega⟩
      rw [ha, nI_pred]
      refine br_f (zt_ne1 (by omega)) (pk_le c a (fun d1 => ?_) (fun d1 => ?_))
      · refine br_t rfl (pk_eq a c (fun d2 => pk_le r o (fun d3 => nm_r (nI_1 o) (no (by omega))) (fun d3 => nm_r (nI_1 _) (nm_r (nI_1 o) (yes (by omega))))) (fun d2 => nm_r (nI_1 o) (no (by omega))))
      · exact br_f (by decide) (nm_r (nI_1 _) (nm_r (nI_1 o) (yes (by omega))))
theorem zt_x_rw {post : Int32 → Prop} {R c r : Nat} {col : Nat → Nat} (hR : R ≤ 41) (hc : c < 4) (hr : r ≤ 41) (hb : ∀ o, o < R → col o ≤ 4) (h : post (nI (1 + zt_c (fun o => (0 < col o ∧ col o < c + 1) ∨ (col o = c + 1 ∧ o < r)) R))) : wpX_rowWithLetterBefore post (f_length, f_patternLength, f_distinctFound, f_longestFound, f_nodeCount, f_stateCount, nI (R), a_text, a_pattern, a_order, a_occurs, a_otherOrder, a_rank, a_pairRank, a_nodePlace, a_nodeDepth, a_nodeParent, a_nodeTail, a_nodeBranch, a_waitingNodes, a_stateLength, a_stateLink, a_stateEnd, a_stateTails, a_stateBranch, fun j => nI ((col) j) - 1) (nI c) (nI r) :=
  ⟨R + 1, zt_x_rw5 hR hc hr hb h R 0 _ (by omega) (by omega)⟩
theorem zt_x_bl54 {post : SX → Prop} {J : _} {w R : Nat} {x2 : Int32} {c0 : Nat → Nat} (hR : R ≤ 40) (hw : w ≤ R) (h : ∀ col : Nat → Nat, (∀ o, o < w → col o = c0 o) → col w = 0 → (∀ o, w ≤ o → o < R → col (o + 1) = c0 o) → J (nI w) (x2 - 1) (nI (R + 1)) a_text a_pattern a_order a_occurs a_otherOrder a_rank a_pairRank a_nodePlace a_nodeDepth a_nodeParent a_nodeTail a_nodeBranch a_waitingNodes a_stateLength a_stateLink a_stateEnd a_stateTails a_stateBranch (fun j => nI (col j) - 1)) : ∀ d row f (col : Nat → Nat), w + d = row → row ≤ R → d < f → (∀ o, o ≤ row → col o = c0 o) → (∀ o, row ≤ o → o < R → col (o + 1) = c0 o) → wX_buildLastColumn_54 post J (nI w) x2 f_length f_patternLength f_distinctFound f_longestFound f_nodeCount f_stateCount (nI R) f (nI row) a_text a_pattern a_order a_occurs a_otherOrder a_rank a_pairRank a_nodePlace a_nodeDepth a_nodeParent a_nodeTail a_nodeBranch a_waitingNodes a_stateLength a_stateLink a_stateEnd a_stateTails a_stateBranch (fun j => nI (col j) - 1) := by
  intro d
  induction d with
  | zero =>
    intro row f col hd hrow hf h1 h2
    obtain ⟨f, rfl⟩ : ∃ m, f = m + 1 := ⟨f - 1, by omega⟩
    have e : row = w := by omega
    subst e
    refine br_t (nI_le (Nat.le_refl _) (by omega)) ⟨pk_in row 41 (by omega), nm_r (zt_upM row 0 (pk_cl row) zt_Im1) (nm_r (nI_1 R) (nm_r (zt_m1s _) (h _ (fun o ho => ?_) (zt_us _ _ _) (fun o h3 h5 => ?_))))⟩
    · rw [zt_un _ _ (by omega)]; exact h1 o (by omega)
    · rw [zt_un _ _ (by omega)]; exact h2 o h3 h5
  | succ d ih =>
    intro row f col hd hrow hf h1 h2
    obtain ⟨f, rfl⟩ : ∃ m, f = m + 1 := ⟨f - 1, by omega⟩
    obtain ⟨row, rfl⟩ : ∃ r, row = r + 1 := ⟨row - 1, by omega⟩
    have er : nI (row + 1) - 1 = nI row := nI_pred row
    refine br_f (nI_ge (by omega) (by omega)) ⟨pk_in row 41 (by omega) er, pk_in (row + 1) 41 (by omega), nm_r (zt_upM (row + 1) (col row) (pk_cl (row + 1)) ?_) (nm_r (pk_m1 row) (ih row f _ (by omega) (by omega) (by omega) (fun o ho => ?_) (fun o h3 h5 => ?_)))⟩
    · simp only [pk_cl row er]
    · rw [zt_un _ _ (by omega)]; exact h1 o (by omega)
    · by_cases z : o = row
      · subst z; rw [zt_us]; exact h1 o (by omega)
      · rw [zt_un _ _ (by omega)]; exact h2 o (by omega) h5
theorem zt_x_bl21 {post : SX → Prop} (hL : L ≤ 40) (h4 : ∀ i, t i < 4) (h : ∀ col : Nat → Nat, zt_CO (zt_g t L) L 0 col → (∀ o, o < L + 1 → col o ≤ 4) → post (nI L, f_patternLength, f_distinctFound, f_longestFound, f_nodeCount, f_stateCount, nI (L + 1), fun j => nI (t j), a_pattern, a_order, a_occurs, a_otherOrder, a_rank, a_pairRank, a_nodePlace, a_nodeDepth, a_nodeParent, a_nodeTail, a_nodeBranch, a_waitingNodes, a_stateLength, a_stateLink, a_stateEnd, a_stateTails, a_stateBranch, fun j => nI ((col) j) - 1)) : ∀ p f (col : Nat → Nat) (x : Int32), p ≤ L → p < f → x = nI p - 1 → zt_CO (zt_g t L) L p col → (∀ o, o < L + 1 - p → col o ≤ 4) → wX_buildLastColumn_21 post (nI L) f_patternLength f_distinctFound f_longestFound f_nodeCount f_stateCount f (nI (zt_rk (zt_g t L) L p p)) x (nI (L + 1 - p)) (fun j => nI (t j)) a_pattern a_order a_occurs a_otherOrder a_rank a_pairRank a_nodePlace a_nodeDepth a_nodeParent a_nodeTail a_nodeBranch a_waitingNodes a_stateLength a_stateLink a_stateEnd a_stateTails a_stateBranch (fun j => nI (col j) - 1) := by
  have hz := zt_g_Z t L
  intro p
  induction p with
  | zero =>
    intro f col x hp hf hx hC hb
    obtain ⟨f, rfl⟩ : ∃ m, f = m + 1 := ⟨f - 1, by omega⟩
    subst hx
    exact br_t (by decide) (h col hC (fun o ho => hb o (by omega)))
  | succ q ih =>
    intro f col x hp hf hx hC hb
    obtain ⟨f, rfl⟩ : ∃ m, f = m + 1 := ⟨f - 1, by omega⟩
    rw [nI_pred] at hx
    subst hx
    have eq : (nI q).toNatClampNeg = q := pk_cl q
    have w1 := zt_rk_lt (g := zt_g t L) (L := L) (p := q + 1) (i := q + 1) (Nat.le_refl _) (by omega)
    have w2 := zt_rk_lt (g := zt_g t L) (L := L) (p := q) (i := q) (Nat.le_refl _) (by omega)
    have hq : zt_g t L q = t q + 1 := zt_g_lt (by omega)
    have tq := h4 q
    have cw := zt_CO_w hz (by omega) hC hq
    have c1 := fun (col' : Nat → Nat) => zt_CO_1 (col' := col') hz (by omega) hC hq
    have b1 : ∀ o, o < L + 1 - (q + 1) → zt_up col (zt_rk (zt_g t L) L (q + 1) (q + 1)) (t q + 1) o ≤ 4 := fun o ho => by
      unfold zt_up
      split
      · omega
      · exact hb o ho
    refine br_f (nI_pos (by omega)) ⟨pk_in q 40 (by omega), pk_in (zt_rk (zt_g t L) L (q + 1) (q + 1)) 41 (by omega), nm_r (zt_upM (zt_rk (zt_g t L) L (q + 1) (q + 1)) (t q + 1) (pk_cl _) ?_) ⟨pk_in q 40 (by omega), ?_⟩⟩
    · simp only [eq]; exact zt_I1 _
    · simp only [eq]
      refine zt_x_rw (R := L + 1 - (q + 1)) (by omega) tq (by omega) b1 ?_
      rw [cw]
      refine ⟨L + 1, zt_x_bl54 (c0 := zt_up col (zt_rk (zt_g t L) L (q + 1) (q + 1)) (t q + 1)) (by omega) (by omega) (fun col' d1 d2 d3 => ?_) (L + 1 - (q + 1) - zt_rk (zt_g t L) L q q) (L + 1 - (q + 1)) _ _ (by omega) (by omega) (by omega) (fun o _ => rfl) (fun o h3 h5 => by omega)⟩
      have e1 : L + 1 - (q + 1) + 1 = L + 1 - q := by omega
      rw [e1]
      refine ih f col' _ (by omega) (by omega) rfl (c1 col' d1 d2 d3) (fun o ho => ?_)
      rcases Nat.lt_trichotomy o (zt_rk (zt_g t L) L q q) with z | z | z
      · rw [d1 o z]; exact b1 o (by omega)
      · rw [z, d2]; omega
      · obtain ⟨o, rfl⟩ : ∃ o', o = o' + 1 := ⟨o - 1, by omega⟩
        rw [d3 o (by omega) (by omega)]; exact b1 o (by omega)
theorem zt_x_bl {post : SX → Prop} (hL : L ≤ 40) (h4 : ∀ i, t i < 4) (h : ∀ col : Nat → Nat, zt_CO (zt_g t L) L 0 col → (∀ o, o < L + 1 → col o ≤ 4) → post (nI L, f_patternLength, f_distinctFound, f_longestFound, f_nodeCount, f_stateCount, nI (L + 1), fun j => nI (t j), a_pattern, a_order, a_occurs, a_otherOrder, a_rank, a_pairRank, a_nodePlace, a_nodeDepth, a_nodeParent, a_nodeTail, a_nodeBranch, a_waitingNodes, a_stateLength, a_stateLink, a_stateEnd, a_stateTails, a_stateBranch, fun j => nI ((col) j) - 1)) : wpX_buildLastColumn post (nI L, f_patternLength, f_distinctFound, f_longestFound, f_nodeCount, f_stateCount, f_rowCount, fun j => nI (t j), a_pattern, a_order, a_occurs, a_otherOrder, a_rank, a_pairRank, a_nodePlace, a_nodeDepth, a_nodeParent, a_nodeTail, a_nodeBranch, a_waitingNodes, a_stateLength, a_stateLink, a_stateEnd, a_stateTails, a_stateBranch, a_lastColumn) := by
  obtain ⟨c, rfl⟩ := zt_arrN a_lastColumn
  have e0 := zt_rk_LL (g := zt_g t L) (L := L)
  have e1 : L + 1 - L = 1 := by omega
  have a : wX_buildLastColumn_21 post (nI L) f_patternLength f_distinctFound f_longestFound f_nodeCount f_stateCount (L + 1) (nI (zt_rk (zt_g t L) L L L)) (nI L - 1) (nI (L + 1 - L)) (fun j => nI (t j)) a_pattern a_order a_occurs a_otherOrder a_rank a_pairRank a_nodePlace a_nodeDepth a_nodeParent a_nodeTail a_nodeBranch a_waitingNodes a_stateLength a_stateLink a_stateEnd a_stateTails a_stateBranch (fun j => nI (zt_up c 0 0 j) - 1) := zt_x_bl21 hL h4 h L (L + 1) (zt_up c 0 0) _ (Nat.le_refl _) (by omega) rfl (zt_CO_0 (zt_us _ _ _)) (fun o ho => by
    have : o = 0 := by omega
    subst this
    rw [zt_us]; omega)
  rw [e0, e1] at a
  exact nm_r (zt_upN c 0 0) (nm_e ⟨L + 1, a⟩)
theorem zt_x_po4 {post : Int32 → Prop} {i0 : Nat} {col : Nat → Nat} (hL : L ≤ 40) (h4 : ∀ i, t i < 4) (hC : zt_CO (zt_g t L) L 0 col) (hb : ∀ o, o < L + 1 → col o ≤ 4) (hi : i0 ≤ L) (h : post (nI i0)) : ∀ i pl f, pl + i = i0 → i < f → wX_placeOfRow_4 post (nI L) f_patternLength f_distinctFound f_longestFound f_nodeCount f_stateCount (nI (L + 1)) (fun j => nI (t j)) a_pattern a_order a_occurs a_otherOrder a_rank a_pairRank a_nodePlace a_nodeDepth a_nodeParent a_nodeTail a_nodeBranch a_waitingNodes a_stateLength a_stateLink a_stateEnd a_stateTails a_stateBranch (fun j => nI ((col) j) - 1) f (nI (zt_rk (zt_g t L) L 0 i)) (nI pl) := by
  have hz := zt_g_Z t L
  intro i
  induction i with
  | zero =>
    intro pl f hp hf
    obtain ⟨f, rfl⟩ : ∃ m, f = m + 1 := ⟨f - 1, by omega⟩
    have e : pl = i0 := by omega
    subst e
    have w := zt_rk_lt (g := zt_g t L) (L := L) (p := 0) (i := 0) (Nat.le_refl _) (Nat.zero_le _)
    have c := hC 0 (Nat.le_refl _) (Nat.zero_le _)
    rw [if_pos rfl] at c
    refine pk_le L pl (fun _ => h) (fun _ => ⟨pk_in (zt_rk (zt_g t L) L 0 0) 41 (by omega), br_t ?_ h⟩)
    simp only [pk_cl (zt_rk (zt_g t L) L 0 0)]
    rw [c]; rfl
  | succ i ih =>
    intro pl f hp hf
    obtain ⟨f, rfl⟩ : ∃ m, f = m + 1 := ⟨f - 1, by omega⟩
    have w := zt_rk_lt (g := zt_g t L) (L := L) (p := 0) (i := i + 1) (Nat.zero_le _) (by omega)
    have c := hC (i + 1) (Nat.zero_le _) (by omega)
    have gi : zt_g t L i = t i + 1 := zt_g_lt (by omega)
    rw [if_neg (by omega), Nat.add_sub_cancel, gi] at c
    have cp := zt_CO_p hz hC (by omega : i + 1 ≤ L) gi
    have ti := h4 i
    refine br_f (nI_ge (by omega) (by omega)) ⟨pk_in (zt_rk (zt_g t L) L 0 (i + 1)) 41 (by omega), ?_⟩
    simp only [pk_cl (zt_rk (zt_g t L) L 0 (i + 1))]
    rw [c, nI_pred]
    refine br_f (zt_ne1 (by omega)) ⟨pk_in (zt_rk (zt_g t L) L 0 (i + 1)) 41 (by omega), zt_x_rw (R := L + 1) (by omega) ti (by omega) hb (nm_r (nI_1 pl) ?_)⟩
    rw [cp]
    exact ih (pl + 1) f (by omega) (by omega)
theorem zt_x_mc50 {post : SX → Prop} {fr to : Nat} {col : Nat → Nat} (hL : L ≤ 40) (h4 : ∀ i, t i < 4) (hC : zt_CO (zt_g t L) L 0 col) (hb : ∀ o, o < L + 1 → col o ≤ 4) (hto : to ≤ L + 1) {S : Nat → Prop} (hS : ∀ i, i ≤ L → (fr ≤ zt_rk (zt_g t L) L 0 i ∧ zt_rk (zt_g t L) L 0 i < to ↔ S i)) (hSL : ∀ i, i ≤ L → S i → i < L) (h : ∀ f : Nat → Nat, zt_mk1 S L f → post (nI L, f_patternLength, f_distinctFound, f_longestFound, f_nodeCount, f_stateCount, nI (L + 1), fun j => nI (t j), a_pattern, a_order, fun j => nI (f j), a_otherOrder, a_rank, a_pairRank, a_nodePlace, a_nodeDepth, a_nodeParent, a_nodeTail, a_nodeBranch, a_waitingNodes, a_stateLength, a_stateLink, a_stateEnd, a_stateTails, a_stateBranch, fun j => nI ((col) j) - 1)) : ∀ d r n (f : Nat → Nat), r + d = to → d < n → fr ≤ r → zt_mk1 (fun i => fr ≤ zt_rk (zt_g t L) L 0 i ∧ zt_rk (zt_g t L) L 0 i < r) L f → wX_markByLastColumn_50 post (nI to) (nI L) f_patternLength f_distinctFound f_longestFound f_nodeCount f_stateCount (nI (L + 1)) n (nI r) (fun j => nI (t j)) a_pattern a_order (fun j => nI (f j)) a_otherOrder a_rank a_pairRank a_nodePlace a_nodeDepth a_nodeParent a_nodeTail a_nodeBranch a_waitingNodes a_stateLength a_stateLink a_stateEnd a_stateTails a_stateBranch (fun j => nI (col j) - 1) := by
  have hz := zt_g_Z t L
  intro d
  induction d with
  | zero =>
    intro r n f hr hn hfr hf
    obtain ⟨n, rfl⟩ : ∃ m, n = m + 1 := ⟨n - 1, by omega⟩
    have e : r = to := by omega
    subst e
    exact br_t (nI_le (Nat.le_refl _) (by omega)) (h f (zt_mk1_c hf (fun i hi => (hS i (by omega)).symm)))
  | succ d ih =>
    intro r n f hr hn hfr hf
    obtain ⟨n, rfl⟩ : ∃ m, n = m + 1 := ⟨n - 1, by omega⟩
    obtain ⟨i, i1, i2, ei⟩ := zt_rk_sur (g := zt_g t L) (L := L) (p := 0) hz (o := r) (by omega)
    have iL := hSL i i2 ((hS i i2).1 ⟨by omega, by omega⟩)
    refine br_f (nI_ge (by omega) (by omega)) ?_
    have P : ∀ post' : Int32 → Prop, post' (nI i) → wpX_placeOfRow post' (nI L, f_patternLength, f_distinctFound, f_longestFound, f_nodeCount, f_stateCount, nI (L + 1), fun j => nI (t j), a_pattern, a_order, fun j => nI (f j), a_otherOrder, a_rank, a_pairRank, a_nodePlace, a_nodeDepth, a_nodeParent, a_nodeTail, a_nodeBranch, a_waitingNodes, a_stateLength, a_stateLink, a_stateEnd, a_stateTails, a_stateBranch, fun j => nI ((col) j) - 1) (nI r) := fun post' hp => by
      rw [← ei]
      exact ⟨i + 1, zt_x_po4 hL h4 hC hb i2 hp i 0 _ (by omega) (by omega)⟩
    refine P _ ⟨pk_in i 40 (by omega), nm_r (zt_upE i 1 (pk_cl i) zt_b1) (nm_r (nI_1 r) (ih (r + 1) n _ (by omega) (by omega) (by omega) (zt_mk1_1 hf (fun j hj => ?_))))⟩
    constructor
    · rintro ⟨a, b⟩
      by_cases z : zt_rk (zt_g t L) L 0 j = r
      · exact Or.inr (zt_rk_inj hz (Nat.zero_le _) (by omega) (Nat.zero_le _) i2 (z.trans ei.symm))
      · exact Or.inl ⟨a, by omega⟩
    · rintro (⟨a, b⟩ | z)
      · exact ⟨a, by omega⟩
      · subst z; omega
theorem zt_x_mc14 {post : SX → Prop} {col f0 : Nat → Nat} (hL : L ≤ 40) (hm : m ≤ 10) (m0 : 0 < m) (h4 : ∀ i, t i < 4) (p4 : ∀ i, pat i < 4) (hC : zt_CO (zt_g t L) L 0 col) (hb : ∀ o, o < L + 1 → col o ≤ 4) (hf : ∀ i, i < L → f0 i = 0) (h : ∀ f : Nat → Nat, zt_mk1 (zt_oc (zt_g t L) pat m) L f → post (nI L, nI m, f_distinctFound, f_longestFound, f_nodeCount, f_stateCount, nI (L + 1), fun j => nI (t j), fun j => nI (pat j), a_order, fun j => nI (f j), a_otherOrder, a_rank, a_pairRank, a_nodePlace, a_nodeDepth, a_nodeParent, a_nodeTail, a_nodeBranch, a_waitingNodes, a_stateLength, a_stateLink, a_stateEnd, a_stateTails, a_stateBranch, fun j => nI ((col) j) - 1)) : ∀ st f fr to (x : Int32), st ≤ m → st < f → x = nI st - 1 → zt_AB (zt_g t L) pat L m st fr to → wX_markByLastColumn_14 post (nI L) (nI m) f_distinctFound f_longestFound f_nodeCount f_stateCount (nI (L + 1)) (fun j => nI (t j)) (fun j => nI (pat j)) a_order (fun j => nI (f0 j)) a_otherOrder a_rank a_pairRank a_nodePlace a_nodeDepth a_nodeParent a_nodeTail a_nodeBranch a_waitingNodes a_stateLength a_stateLink a_stateEnd a_stateTails a_stateBranch (fun j => nI ((col) j) - 1) f (nI fr) (nI to) x := by
  have hz := zt_g_Z t L
  intro st
  induction st with
  | zero =>
    intro f fr to x hst hf' hx hA
    obtain ⟨f, rfl⟩ : ∃ m, f = m + 1 := ⟨f - 1, by omega⟩
    subst hx
    have le := zt_AB_le hA
    refine br_t (by decide) ⟨to - fr + 1, zt_x_mc50 (fr := fr) hL h4 hC hb le.2 (S := zt_oc (zt_g t L) pat m) (fun i hi => zt_AB_f hz hA hi) (fun i hi x => by have := zt_oc_L hz x m0; omega) h (to - fr) fr _ f0 (by omega) (by omega) (Nat.le_refl _) (zt_mk1_c (zt_mk1_0 hf) (fun i hi => ⟨fun x => by omega, fun x => x.elim⟩))⟩
  | succ st ih =>
    intro f fr to x hst hf' hx hA
    obtain ⟨f, rfl⟩ : ∃ m, f = m + 1 := ⟨f - 1, by omega⟩
    rw [nI_pred] at hx
    subst hx
    have le := zt_AB_le hA
    have es : (nI st).toNatClampNeg = st := pk_cl st
    refine br_f (nI_pos (by omega)) ⟨pk_in st 10 (by omega), ?_⟩
    simp only [es]
    refine zt_x_rw (R := L + 1) (by omega) (p4 st) (by omega) hb ⟨pk_in st 10 (by omega), zt_x_rw (R := L + 1) (by omega) (p4 st) (by omega) hb (nm_r (zt_m1s _) (ih f _ _ _ (by omega) (by omega) rfl (zt_AB_1 hz hC (by omega) hA)))⟩
theorem zt_x_mc {post : SX → Prop} {col f0 : Nat → Nat} (hL : L ≤ 40) (hm : m ≤ 10) (m0 : 0 < m) (h4 : ∀ i, t i < 4) (p4 : ∀ i, pat i < 4) (hC : zt_CO (zt_g t L) L 0 col) (hb : ∀ o, o < L + 1 → col o ≤ 4) (hf : ∀ i, i < L → f0 i = 0) (h : ∀ f : Nat → Nat, zt_mk1 (zt_oc (zt_g t L) pat m) L f → post (nI L, nI m, f_distinctFound, f_longestFound, f_nodeCount, f_stateCount, nI (L + 1), fun j => nI (t j), fun j => nI (pat j), a_order, fun j => nI (f j), a_otherOrder, a_rank, a_pairRank, a_nodePlace, a_nodeDepth, a_nodeParent, a_nodeTail, a_nodeBranch, a_waitingNodes, a_stateLength, a_stateLink, a_stateEnd, a_stateTails, a_stateBranch, fun j => nI ((col) j) - 1)) : wpX_markByLastColumn post (nI L, nI m, f_distinctFound, f_longestFound, f_nodeCount, f_stateCount, nI (L + 1), fun j => nI (t j), fun j => nI (pat j), a_order, fun j => nI (f0 j), a_otherOrder, a_rank, a_pairRank, a_nodePlace, a_nodeDepth, a_nodeParent, a_nodeTail, a_nodeBranch, a_waitingNodes, a_stateLength, a_stateLink, a_stateEnd, a_stateTails, a_stateBranch, fun j => nI ((col) j) - 1) :=
  nm_e ⟨m + 1, zt_x_mc14 hL hm m0 h4 p4 hC hb hf h m _ 0 (L + 1) _ (Nat.le_refl _) (by omega) rfl zt_AB_0⟩
end
