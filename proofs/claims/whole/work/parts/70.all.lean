/-! the engines together -/
section
variable {f_length f_patternLength f_distinctFound f_longestFound f_nodeCount f_stateCount f_rowCount : Int32} {a_text a_pattern a_order a_occurs a_otherOrder a_rank a_pairRank a_nodePlace a_nodeDepth a_nodeParent a_nodeTail a_nodeBranch a_waitingNodes a_stateLength a_stateLink a_stateEnd a_stateTails a_stateBranch a_lastColumn : Nat → Int32}
variable {t pat : Nat → Nat} {L m : Nat}
theorem zt_x_ar {post : SX → Prop} {e : Nat} (he : e ≤ 3) (hL : L ≤ 40) (h4 : ∀ i, t i < 4) (h : ∀ (f_nodeCount f_stateCount f_rowCount : Int32) (a_rank a_pairRank a_nodePlace a_nodeDepth a_nodeParent a_nodeTail a_nodeBranch a_waitingNodes a_stateLength a_stateLink a_stateEnd a_stateTails a_stateBranch a_lastColumn : Nat → Int32) (o : Nat → Nat) (G : Nat), zt_O (zt_g t L) L o → zt_G (zt_g t L) L G → post (nI L, f_patternLength, nI (zt_D (zt_g t L) L (fun i => i)), nI G, f_nodeCount, f_stateCount, f_rowCount, fun j => nI (t j), a_pattern, fun j => nI (o j), a_occurs, a_otherOrder, a_rank, a_pairRank, a_nodePlace, a_nodeDepth, a_nodeParent, a_nodeTail, a_nodeBranch, a_waitingNodes, a_stateLength, a_stateLink, a_stateEnd, a_stateTails, a_stateBranch, a_lastColumn)) : wpX_arrange post (nI L, f_patternLength, f_distinctFound, f_longestFound, f_nodeCount, f_stateCount, f_rowCount, fun j => nI (t j), a_pattern, a_order, a_occurs, a_otherOrder, a_rank, a_pairRank, a_nodePlace, a_nodeDepth, a_nodeParent, a_nodeTail, a_nodeBranch, a_waitingNodes, a_stateLength, a_stateLink, a_stateEnd, a_stateTails, a_stateBranch, a_lastColumn) (nI e) := by
  refine br_f (nI_pos (by omega)) ?_
  by_cases e3 : e = 3
  · subst e3
    refine br_t (by decide) (zt_x_ba hL h4 (fun n l lk en tl b la A => ?_))
    obtain ⟨⟨E, M⟩, l0, lp, tz⟩ := A
    exact zt_x_ct hL M l0 lp tz (fun tl' ht => zt_x_la hL h4 M ht (fun o hO => zt_x_ma hL M lp ht (fun G hG => h _ _ _ _ _ _ _ _ _ _ _ _ _ _ _ _ _ _ _ hO hG)))
  · refine br_f (nI_nlt (a := 2) (by omega) (by omega)) ?_
    by_cases e0 : e = 0
    · subst e0
      exact br_t rfl (zt_x_so hL h4 (fun o hO => zt_x_mr hL h4 hO (fun G hG => h _ _ _ _ _ _ _ _ _ _ _ _ _ _ _ _ _ _ _ hO hG)))
    · refine br_f (nI_ne0 (by omega) (by omega)) ?_
      by_cases e1 : e = 1
      · subst e1
        exact br_t rfl (zt_x_sd hL h4 (fun r pr o hr hO => zt_x_mp hL h4 hr hO (fun G hG => h _ _ _ _ _ _ _ _ _ _ _ _ _ _ _ _ _ _ _ hO hG)))
      · have e2 : e = 2 := by omega
        subst e2
        refine br_f (by decide) (br_t rfl (zt_x_bt hL h4 (fun n E l p b nt H => zt_x_lu hL h4 H H.1.1.1.1 (fun st o hl => ?_))))
        have hO : zt_O (zt_g t L) L o := by
          rw [zt_off_0 H, zt_cA_0 H] at hl
          exact zt_ls_O hl
        exact zt_x_mt hL H (fun G hG => h _ _ _ _ _ _ _ _ _ _ _ _ _ _ _ _ _ _ _ hO hG)
theorem zt_x_mk2 {post : SX → Prop} {e : Nat} (he : e ≤ 4) (hL : L ≤ 40) (hm : m ≤ 10) (h4 : ∀ i, t i < 4) (p4 : ∀ i, pat i < 4) (h : ∀ (f_distinctFound f_longestFound f_nodeCount f_stateCount f_rowCount : Int32) (a_order a_otherOrder a_rank a_pairRank a_nodePlace a_nodeDepth a_nodeParent a_nodeTail a_nodeBranch a_waitingNodes a_stateLength a_stateLink a_stateEnd a_stateTails a_stateBranch a_lastColumn : Nat → Int32) (f : Nat → Nat), zt_mk1 (zt_occ (zt_g t L) pat m) L f → post (nI L, nI m, f_distinctFound, f_longestFound, f_nodeCount, f_stateCount, f_rowCount, fun j => nI (t j), fun j => nI (pat j), a_order, fun j => nI (f j), a_otherOrder, a_rank, a_pairRank, a_nodePlace, a_nodeDepth, a_nodeParent, a_nodeTail, a_nodeBranch, a_waitingNodes, a_stateLength, a_stateLink, a_stateEnd, a_stateTails, a_stateBranch, a_lastColumn)) : ∀ d k n (f : Nat → Nat), k + d = L → d < n → (∀ i, i < k → f i = 0) → wX_markPattern_2 post (nI e) (nI L) (nI m) f_distinctFound f_longestFound f_nodeCount f_stateCount f_rowCount n (nI k) (fun j => nI (t j)) (fun j => nI (pat j)) a_order (fun j => nI (f j)) a_otherOrder a_rank a_pairRank a_nodePlace a_nodeDepth a_nodeParent a_nodeTail a_nodeBranch a_waitingNodes a_stateLength a_stateLink a_stateEnd a_stateTails a_stateBranch a_lastColumn := by
  intro d
  induction d with
  | zero =>
    intro k n f hk hn hf
    obtain ⟨n, rfl⟩ : ∃ m, n = m + 1 := ⟨n - 1, by omega⟩
    have hf' : ∀ i, i < L → f i = 0 := fun i hi => hf i (by omega)
    refine br_t (nI_le (by omega) (by omega)) (pk_eq m 0 (fun m0 => ?_) (fun m0 => ?_))
    · exact h _ _ _ _ _ _ _ _ _ _ _ _ _ _ _ _ _ _ _ _ _ f (zt_mk1_c (zt_mk1_0 hf') (fun i hi => ⟨fun x => by have := x.1; omega, fun x => x.elim⟩))
    · have up : ∀ f' : Nat → Nat, zt_mk1 (zt_oc (zt_g t L) pat m) L f' → zt_mk1 (zt_occ (zt_g t L) pat m) L f' := fun f' q => zt_mk1_c q (fun i hi => ⟨fun x => x.2, fun x => ⟨by omega, x⟩⟩)
      refine br_f (nI_pos (by omega)) ?_
      by_cases e4 : e = 4
      · subst e4
        exact br_t (by decide) (zt_x_bl hL h4 (fun col hC hb => zt_x_mc hL hm (by omega) h4 p4 hC hb hf' (fun f' q => h _ _ _ _ _ _ _ _ _ _ _ _ _ _ _ _ _ _ _ _ _ f' (up f' q))))
      · refine br_f (nI_nlt (a := 3) (by omega) (by omega)) ?_
        by_cases e0 : e = 0
        · subst e0
          exact br_t rfl (zt_x_ml hL hm h4 p4 (fun f' q => h _ _ _ _ _ _ _ _ _ _ _ _ _ _ _ _ _ _ _ _ _ f' (up f' q)))
        · refine br_f (nI_ne0 (by omega) (by omega)) ?_
          by_cases e1 : e = 1
          · subst e1
            exact br_t rfl (zt_x_sd hL h4 (fun r pr o hr hO => zt_x_mh hL hm h4 p4 hO hf' (fun f' q => h _ _ _ _ _ _ _ _ _ _ _ _ _ _ _ _ _ _ _ _ _ f' (up f' q))))
          · by_cases e2 : e = 2
            · subst e2
              exact br_f (by decide) (br_t rfl (zt_x_bt hL h4 (fun n E l p b nt H => zt_x_mbt hL hm (by omega) h4 p4 H hf' (fun st o f' q => h _ _ _ _ _ _ _ _ _ _ _ _ _ _ _ _ _ _ _ _ _ f' (up f' q)))))
            · have e3 : e = 3 := by omega
              subst e3
              refine br_f (by decide) (br_f (by decide) (br_t rfl (zt_x_ba hL h4 (fun n l lk en tl b la A => ?_))))
              obtain ⟨⟨E, M⟩, l0, lp, tz⟩ := A
              exact zt_x_mm hL hm (by omega) p4 M l0 lp hf' (fun f' q => h _ _ _ _ _ _ _ _ _ _ _ _ _ _ _ _ _ _ _ _ _ f' (up f' q))
  | succ d ih =>
    intro k n f hk hn hf
    obtain ⟨n, rfl⟩ : ∃ m, n = m + 1 := ⟨n - 1, by omega⟩
    refine br_f (nI_ge (by omega) (by omega)) ⟨pk_in k 40 (by omega), nm_r (zt_upE k 0 (pk_cl k) zt_b0) (nm_r (nI_1 k) (ih (k + 1) n _ (by omega) (by omega) (fun i hi => ?_)))⟩
    by_cases c : i = k
    · rw [c, zt_us]
    · rw [zt_un _ _ c]; exact hf i (by omega)
theorem zt_x_mk {post : SX → Prop} {e : Nat} (he : e ≤ 4) (hL : L ≤ 40) (hm : m ≤ 10) (h4 : ∀ i, t i < 4) (p4 : ∀ i, pat i < 4) (h : ∀ (f_distinctFound f_longestFound f_nodeCount f_stateCount f_rowCount : Int32) (a_order a_otherOrder a_rank a_pairRank a_nodePlace a_nodeDepth a_nodeParent a_nodeTail a_nodeBranch a_waitingNodes a_stateLength a_stateLink a_stateEnd a_stateTails a_stateBranch a_lastColumn : Nat → Int32) (f : Nat → Nat), zt_mk1 (zt_occ (zt_g t L) pat m) L f → post (nI L, nI m, f_distinctFound, f_longestFound, f_nodeCount, f_stateCount, f_rowCount, fun j => nI (t j), fun j => nI (pat j), a_order, fun j => nI (f j), a_otherOrder, a_rank, a_pairRank, a_nodePlace, a_nodeDepth, a_nodeParent, a_nodeTail, a_nodeBranch, a_waitingNodes, a_stateLength, a_stateLink, a_stateEnd, a_stateTails, a_stateBranch, a_lastColumn)) : wpX_markPattern post (nI L, nI m, f_distinctFound, f_longestFound, f_nodeCount, f_stateCount, f_rowCount, fun j => nI (t j), fun j => nI (pat j), a_order, a_occurs, a_otherOrder, a_rank, a_pairRank, a_nodePlace, a_nodeDepth, a_nodeParent, a_nodeTail, a_nodeBranch, a_waitingNodes, a_stateLength, a_stateLink, a_stateEnd, a_stateTails, a_stateBranch, a_lastColumn) (nI e) := by
  obtain ⟨f, rfl⟩ := zt_arr a_occurs
  exact ⟨L + 1, zt_x_mk2 he hL hm h4 p4 h L 0 _ f (by omega) (by omega) (fun i hi => by omega)⟩
theorem zt_x_co20 {post : Int32 → SX → Prop} {occ : Nat → Prop} {f : Nat → Nat} (hL : L ≤ 40) (hf : zt_mk1 occ L f) (h : post (nI (zt_c occ L)) (nI L, f_patternLength, f_distinctFound, f_longestFound, f_nodeCount, f_stateCount, f_rowCount, a_text, a_pattern, a_order, fun j => nI (f j), a_otherOrder, a_rank, a_pairRank, a_nodePlace, a_nodeDepth, a_nodeParent, a_nodeTail, a_nodeBranch, a_waitingNodes, a_stateLength, a_stateLink, a_stateEnd, a_stateTails, a_stateBranch, a_lastColumn)) : ∀ d k n, k + d = L → d < n → wX_count_20 post (nI L) f_patternLength f_distinctFound f_longestFound f_nodeCount f_stateCount f_rowCount a_text a_pattern a_order (fun j => nI (f j)) a_otherOrder a_rank a_pairRank a_nodePlace a_nodeDepth a_nodeParent a_nodeTail a_nodeBranch a_waitingNodes a_stateLength a_stateLink a_stateEnd a_stateTails a_stateBranch a_lastColumn n (nI (zt_c occ k)) (nI k) := by
  intro d
  induction d with
  | zero =>
    intro k n hk hn
    obtain ⟨n, rfl⟩ : ∃ m, n = m + 1 := ⟨n - 1, by omega⟩
    have e : k = L := by omega
    subst e
    exact br_t (nI_le (Nat.le_refl _) (by omega)) h
  | succ d ih =>
    intro k n hk hn
    obtain ⟨n, rfl⟩ : ∃ m, n = m + 1 := ⟨n - 1, by omega⟩
    have nx := ih (k + 1) n (by omega) (by omega)
    have ek : (nI k).toNatClampNeg = k := pk_cl k
    have hk' := hf k (by omega)
    refine br_f (nI_ge (by omega) (by omega)) ⟨pk_in k 40 (by omega), ?_⟩
    simp only [ek]
    by_cases c : occ k
    · rw [hk'.1 c]
      rw [zt_ct c, ← nI_1] at nx
      exact br_f (by decide) (nm_e (nm_r (nI_1 k) nx))
    · rw [hk'.2 c]
      rw [zt_cf c] at nx
      exact br_t rfl (nm_r (nI_1 k) nx)
theorem zt_x_wh25 {post : Int32 → SX → Prop} {occ : Nat → Prop} {f : Nat → Nat} {x : Int32} (hL : L ≤ 40) (hf : zt_mk1 occ L f) (h : ∀ r, zt_first occ L x r → post r (nI L, f_patternLength, f_distinctFound, f_longestFound, f_nodeCount, f_stateCount, f_rowCount, a_text, a_pattern, a_order, fun j => nI (f j), a_otherOrder, a_rank, a_pairRank, a_nodePlace, a_nodeDepth, a_nodeParent, a_nodeTail, a_nodeBranch, a_waitingNodes, a_stateLength, a_stateLink, a_stateEnd, a_stateTails, a_stateBranch, a_lastColumn)) : ∀ d k n, k + d = L → d < n → (∀ j, j < k → occ j → ¬ nI (zt_c occ j) = x) → wX_where_25 post x (nI L) f_patternLength f_distinctFound f_longestFound f_nodeCount f_stateCount f_rowCount a_text a_pattern a_order (fun j => nI (f j)) a_otherOrder a_rank a_pairRank a_nodePlace a_nodeDepth a_nodeParent a_nodeTail a_nodeBranch a_waitingNodes a_stateLength a_stateLink a_stateEnd a_stateTails a_stateBranch a_lastColumn n (nI (zt_c occ k)) (nI k) := by
  intro d
  induction d with
  | zero =>
    intro k n hk hn hj
    obtain ⟨n, rfl⟩ : ∃ m, n = m + 1 := ⟨n - 1, by omega⟩
    have e : k = L := by omega
    subst e
    exact br_t (nI_le (Nat.le_refl _) (by omega)) (h _ (Or.inr ⟨hj, rfl⟩))
  | succ d ih =>
    intro k n hk hn hj
    obtain ⟨n, rfl⟩ : ∃ m, n = m + 1 := ⟨n - 1, by omega⟩
    have ek : (nI k).toNatClampNeg = k := pk_cl k
    have hk' := hf k (by omega)
    have nx : (occ k → ¬ nI (zt_c occ k) = x) → wX_where_25 post x (nI L) f_patternLength f_distinctFound f_longestFound f_nodeCount f_stateCount f_rowCount a_text a_pattern a_order (fun j => nI (f j)) a_otherOrder a_rank a_pairRank a_nodePlace a_nodeDepth a_nodeParent a_nodeTail a_nodeBranch a_waitingNodes a_stateLength a_stateLink a_stateEnd a_stateTails a_stateBranch a_lastColumn n (nI (zt_c occ (k + 1))) (nI (k + 1)) := fun hc => ih (k + 1) n (by omega) (by omega) (fun j hj' oj => by
      by_cases c : j = k
      · subst c; exact hc oj
      · exact hj j (by omega) oj)
    refine br_f (nI_ge (by omega) (by omega)) ⟨pk_in k 40 (by omega), ?_⟩
    simp only [ek]
    by_cases c : occ k
    · rw [hk'.1 c]
      refine br_f (by decide) (br_c (fun z => h _ (Or.inl ⟨k, by omega, c, z, rfl⟩)) (fun z => ?_))
      have nx' := nx (fun _ => z)
      rw [zt_ct c, ← nI_1] at nx'
      exact nm_e (nm_r (nI_1 k) nx')
    · rw [hk'.2 c]
      have nx' := nx (fun y => absurd y c)
      rw [zt_cf c] at nx'
      exact br_t rfl (nm_r (nI_1 k) nx')
end
theorem zt_cls4 (x : Int32) (k : Nat) (hk : k < 100) : (∃ e, e ≤ k ∧ x = nI e) ∨ x < 0 ∨ ∃ j, k < j ∧ j < 2 ^ 31 ∧ x = nI j := by
  rcases zt_cls x with c | ⟨j, hj, rfl⟩
  · exact Or.inr (Or.inl c)
  · by_cases d : j ≤ k
    · exact Or.inl ⟨j, d, rfl⟩
    · exact Or.inr (Or.inr ⟨j, by omega, hj, rfl⟩)
theorem zt_nbad {x : Int32} {k : Nat} (hk : k < 100) (h : x < 0 ∨ ∃ j, k < j ∧ j < 2 ^ 31 ∧ x = nI j) : ∀ e, e ≤ k → ¬ x = nI e := by
  intro e he hx
  rcases h with c | ⟨j, hj, hj2, rfl⟩
  · subst hx
    exact nI_pos (by omega) c
  · rw [nI_eq hj2 (by omega)] at hx
    omega
