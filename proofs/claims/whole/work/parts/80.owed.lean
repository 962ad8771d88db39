/-! the questions -/
theorem i_vc_count {k : Nat} {u : SX} {v : SY} (I : i_Rel k u v) (hk : k + 3 ≤ 1536) (v1 : Int32) : wpX_count (fun r u' => wpY_count (fun r' => r' = r ∧ i_Rel (k + 3) u' v) v v1) u v1 := by
  obtain ⟨L, m, t, pat, ⟨hL, hm, h4, p4⟩, ⟨f_distinctFound, f_longestFound, f_nodeCount, f_stateCount, f_rowCount, a_order, a_occurs, a_otherOrder, a_rank, a_pairRank, a_nodePlace, a_nodeDepth, a_nodeParent, a_nodeTail, a_nodeBranch, a_waitingNodes, a_stateLength, a_stateLink, a_stateEnd, a_stateTails, a_stateBranch, a_lastColumn, rfl⟩, sh, hs, rfl⟩ := I
  rcases zt_cls4 v1 4 (by omega) with ⟨e, he, rfl⟩ | bad
  · refine br_f (nI_pos (by omega)) (br_t (nI_le (b := 4) he (by omega)) (zt_x_mk he hL hm h4 p4 ?_))
    intro f_distinctFound f_longestFound f_nodeCount f_stateCount f_rowCount a_order a_otherOrder a_rank a_pairRank a_nodePlace a_nodeDepth a_nodeParent a_nodeTail a_nodeBranch a_waitingNodes a_stateLength a_stateLink a_stateEnd a_stateTails a_stateBranch a_lastColumn f hf
    exact ⟨L + 1, zt_x_co20 hL hf (zt_y_ct hm hL h4 p4 (fun _ _ _ => ⟨rfl, zt_mk hL hm h4 p4 hs⟩) (fun x => absurd rfl (x e he))) L 0 _ (by omega) (by omega)⟩
  · have nb := zt_nbad (by omega) bad
    have Y : wpY_count (fun r' => r' = -1 ∧ i_Rel (k + 3) (nI L, nI m, f_distinctFound, f_longestFound, f_nodeCount, f_stateCount, f_rowCount, fun j => nI (t j), fun j => nI (pat j), a_order, a_occurs, a_otherOrder, a_rank, a_pairRank, a_nodePlace, a_nodeDepth, a_nodeParent, a_nodeTail, a_nodeBranch, a_waitingNodes, a_stateLength, a_stateLink, a_stateEnd, a_stateTails, a_stateBranch, a_lastColumn) (nI L, nI m, (fun j => nI (t j)), (fun j => nI (pat j)), sh)) (nI L, nI m, (fun j => nI (t j)), (fun j => nI (pat j)), sh) v1 :=
      zt_y_ct hm hL h4 p4 (fun e he hx => absurd hx (nb e he)) (fun _ => ⟨rfl, zt_mk hL hm h4 p4 hs⟩)
    rcases bad with c | ⟨j, j1, j2, rfl⟩
    · exact br_t c Y
    · exact br_f (nI_pos j2) (br_f (nI_ge (a := 4) j1 j2) Y)
theorem i_vc_where {k : Nat} {u : SX} {v : SY} (I : i_Rel k u v) (hk : k + 3 ≤ 1536) (v1 : Int32) (v2 : Int32) : wpX_where (fun r u' => wpY_where (fun r' => r' = r ∧ i_Rel (k + 3) u' v) v v1 v2) u v1 v2 := by
  obtain ⟨L, m, t, pat, ⟨hL, hm, h4, p4⟩, ⟨f_distinctFound, f_longestFound, f_nodeCount, f_stateCount, f_rowCount, a_order, a_occurs, a_otherOrder, a_rank, a_pairRank, a_nodePlace, a_nodeDepth, a_nodeParent, a_nodeTail, a_nodeBranch, a_waitingNodes, a_stateLength, a_stateLink, a_stateEnd, a_stateTails, a_stateBranch, a_lastColumn, rfl⟩, sh, hs, rfl⟩ := I
  rcases zt_cls4 v1 4 (by omega) with ⟨e, he, rfl⟩ | bad
  · refine br_f (nI_pos (by omega)) (br_f (nI_nlt (a := 4) he (by omega)) (br_c (fun c => zt_x_mk he hL hm h4 p4 ?_) (fun c => ?_)))
    · intro f_distinctFound f_longestFound f_nodeCount f_stateCount f_rowCount a_order a_otherOrder a_rank a_pairRank a_nodePlace a_nodeDepth a_nodeParent a_nodeTail a_nodeBranch a_waitingNodes a_stateLength a_stateLink a_stateEnd a_stateTails a_stateBranch a_lastColumn f hf
      exact ⟨L + 1, zt_x_wh25 hL hf (fun r hr => zt_y_wh hm hL h4 p4 (fun _ _ _ r' hr' => ⟨zt_first_un hL hr hr', zt_mk hL hm h4 p4 hs⟩) (fun x => absurd rfl (x e he))) L 0 _ (by omega) (by omega) (fun j hj => by omega)⟩
    · refine zt_y_wh hm hL h4 p4 (fun _ _ _ r' hr' => ⟨?_, zt_mk hL hm h4 p4 hs⟩) (fun x => absurd rfl (x e he))
      rcases hr' with ⟨i, hi, oi, ei, _⟩ | ⟨_, er⟩
      · exfalso
        have b := zt_cn (zt_occ (zt_g t L) pat m) i
        rw [← ei] at c
        exact c (nI_pos' (by omega))
      · exact er
  · have nb := zt_nbad (by omega) bad
    have Y : wpY_where (fun r' => r' = -1 ∧ i_Rel (k + 3) (nI L, nI m, f_distinctFound, f_longestFound, f_nodeCount, f_stateCount, f_rowCount, fun j => nI (t j), fun j => nI (pat j), a_order, a_occurs, a_otherOrder, a_rank, a_pairRank, a_nodePlace, a_nodeDepth, a_nodeParent, a_nodeTail, a_nodeBranch, a_waitingNodes, a_stateLength, a_stateLink, a_stateEnd, a_stateTails, a_stateBranch, a_lastColumn) (nI L, nI m, (fun j => nI (t j)), (fun j => nI (pat j)), sh)) (nI L, nI m, (fun j => nI (t j)), (fun j => nI (pat j)), sh) v1 v2 :=
      zt_y_wh hm hL h4 p4 (fun e he hx => absurd hx (nb e he)) (fun _ => ⟨rfl, zt_mk hL hm h4 p4 hs⟩)
    rcases bad with c | ⟨j, j1, j2, rfl⟩
    · exact br_t c Y
    · exact br_f (nI_pos j2) (br_t (nI_lt (a := 4) j1 j2) Y)
theorem i_vc_distinct {k : Nat} {u : SX} {v : SY} (I : i_Rel k u v) (hk : k + 3 ≤ 1536) (v1 : Int32) : wpX_distinct (fun r u' => wpY_distinct (fun r' => r' = r ∧ i_Rel (k + 3) u' v) v v1) u v1 := by
  obtain ⟨L, m, t, pat, ⟨hL, hm, h4, p4⟩, ⟨f_distinctFound, f_longestFound, f_nodeCount, f_stateCount, f_rowCount, a_order, a_occurs, a_otherOrder, a_rank, a_pairRank, a_nodePlace, a_nodeDepth, a_nodeParent, a_nodeTail, a_nodeBranch, a_waitingNodes, a_stateLength, a_stateLink, a_stateEnd, a_stateTails, a_stateBranch, a_lastColumn, rfl⟩, sh, hs, rfl⟩ := I
  unfold wpX_distinct wpY_distinct
  refine zt_x_ia (fun e he hx => ?_) (fun nb => br_t rfl (zt_y_en (k := 3) (by omega) (fun e he hx => absurd hx (nb e he)) (fun _ => br_t rfl ⟨rfl, zt_mk hL hm h4 p4 hs⟩)))
  subst hx
  refine br_f (by decide) (zt_x_ar he hL h4 ?_)
  intro f_nodeCount f_stateCount f_rowCount a_rank a_pairRank a_nodePlace a_nodeDepth a_nodeParent a_nodeTail a_nodeBranch a_waitingNodes a_stateLength a_stateLink a_stateEnd a_stateTails a_stateBranch a_lastColumn o G hO hG
  refine zt_y_en (k := 3) (by omega) (fun _ _ _ => br_f (by decide) (zt_y_rp hL hs (fun T t1 t2 hx => ?_) (fun x => absurd (by decide) x))) (fun x => absurd rfl (x e he))
  have eT : 1 = T := (nI_eq (a := 1) (by omega) t2).1 hx
  subst eT
  rw [zt_RP_1]
  exact ⟨rfl, zt_mk hL hm h4 p4 hs⟩
theorem i_vc_longest {k : Nat} {u : SX} {v : SY} (I : i_Rel k u v) (hk : k + 3 ≤ 1536) (v1 : Int32) : wpX_longest (fun r u' => wpY_longest (fun r' => r' = r ∧ i_Rel (k + 3) u' v) v v1) u v1 := by
  obtain ⟨L, m, t, pat, ⟨hL, hm, h4, p4⟩, ⟨f_distinctFound, f_longestFound, f_nodeCount, f_stateCount, f_rowCount, a_order, a_occurs, a_otherOrder, a_rank, a_pairRank, a_nodePlace, a_nodeDepth, a_nodeParent, a_nodeTail, a_nodeBranch, a_waitingNodes, a_stateLength, a_stateLink, a_stateEnd, a_stateTails, a_stateBranch, a_lastColumn, rfl⟩, sh, hs, rfl⟩ := I
  unfold wpX_longest
  refine zt_x_ia (fun e he hx => ?_) (fun nb => br_t rfl (zt_y_lo hL hs (fun e he hx => absurd hx (nb e he)) (fun _ => ⟨rfl, zt_mk hL hm h4 p4 hs⟩)))
  subst hx
  refine br_f (by decide) (zt_x_ar he hL h4 ?_)
  intro f_nodeCount f_stateCount f_rowCount a_rank a_pairRank a_nodePlace a_nodeDepth a_nodeParent a_nodeTail a_nodeBranch a_waitingNodes a_stateLength a_stateLink a_stateEnd a_stateTails a_stateBranch a_lastColumn o G hO hG
  refine zt_y_lo hL hs (fun _ _ _ G' hG' => ?_) (fun x => absurd rfl (x e he))
  rw [zt_G_un hG' hG]
  exact ⟨rfl, zt_mk hL hm h4 p4 hs⟩
theorem i_vc_tail {k : Nat} {u : SX} {v : SY} (I : i_Rel k u v) (hk : k + 3 ≤ 1536) (v1 : Int32) (v2 : Int32) : wpX_tail (fun r u' => wpY_tail (fun r' => r' = r ∧ i_Rel (k + 3) u' v) v v1 v2) u v1 v2 := by
  obtain ⟨L, m, t, pat, ⟨hL, hm, h4, p4⟩, ⟨f_distinctFound, f_longestFound, f_nodeCount, f_stateCount, f_rowCount, a_order, a_occurs, a_otherOrder, a_rank, a_pairRank, a_nodePlace, a_nodeDepth, a_nodeParent, a_nodeTail, a_nodeBranch, a_waitingNodes, a_stateLength, a_stateLink, a_stateEnd, a_stateTails, a_stateBranch, a_lastColumn, rfl⟩, sh, hs, rfl⟩ := I
  have hz := zt_g_Z t L
  unfold wpX_tail
  refine zt_x_ia (fun e he hx => ?_) (fun nb => br_t rfl (zt_y_ta hL hs h4 (fun e he hx => absurd hx (nb e he)) (fun _ => ⟨rfl, zt_mk hL hm h4 p4 hs⟩)))
  subst hx
  refine br_f (by decide) (zt_x_ip hL (fun i hi hx => ?_) (fun nb => br_t rfl (zt_y_ta hL hs h4 (fun _ _ _ r hr => ⟨?_, zt_mk hL hm h4 p4 hs⟩) (fun x => absurd rfl (x e he)))))
  · subst hx
    refine br_f (by decide) (zt_x_ar he hL h4 ?_)
    intro f_nodeCount f_stateCount f_rowCount a_rank a_pairRank a_nodePlace a_nodeDepth a_nodeParent a_nodeTail a_nodeBranch a_waitingNodes a_stateLength a_stateLink a_stateEnd a_stateTails a_stateBranch a_lastColumn o G hO hG
    have ei : (nI i).toNatClampNeg = i := pk_cl i
    refine ⟨pk_in i 40 (by omega), ?_⟩
    simp only [ei]
    exact zt_y_ta hL hs h4 (fun _ _ _ r hr => ⟨zt_tail_un hz hL (Or.inl ⟨o i, (hO i hi).1, by rw [(hO i hi).2], rfl⟩) hr, zt_mk hL hm h4 p4 hs⟩) (fun x => absurd rfl (x e he))
  · rcases hr with ⟨i, hi, ei, _⟩ | ⟨_, er⟩
    · exact absurd ei.symm (nb _ (zt_r_lt hi))
    · exact er
section
variable {f_length f_patternLength f_distinctFound f_longestFound f_nodeCount f_stateCount f_rowCount : Int32} {a_text a_pattern a_order a_occurs a_otherOrder a_rank a_pairRank a_nodePlace a_nodeDepth a_nodeParent a_nodeTail a_nodeBranch a_waitingNodes a_stateLength a_stateLink a_stateEnd a_stateTails a_stateBranch a_lastColumn : Nat → Int32}
variable {t pat : Nat → Nat} {L m : Nat}
theorem zt_x_ag98 {post : Int32 → SX → Prop} {o o' : Nat → Nat} (hL : L ≤ 40) (ho : ∀ k, k < L → o k < L ∧ o' k = o k) (h : post 1 (nI L, f_patternLength, f_distinctFound, f_longestFound, f_nodeCount, f_stateCount, f_rowCount, a_text, a_pattern, fun j => nI (o j), a_occurs, fun j => nI (o' j), a_rank, a_pairRank, a_nodePlace, a_nodeDepth, a_nodeParent, a_nodeTail, a_nodeBranch, a_waitingNodes, a_stateLength, a_stateLink, a_stateEnd, a_stateTails, a_stateBranch, a_lastColumn)) : ∀ d k n, k + d = L → d < n → wX_agree_98 post (nI L) f_patternLength f_distinctFound f_longestFound f_nodeCount f_stateCount f_rowCount a_text a_pattern (fun j => nI (o j)) a_occurs (fun j => nI (o' j)) a_rank a_pairRank a_nodePlace a_nodeDepth a_nodeParent a_nodeTail a_nodeBranch a_waitingNodes a_stateLength a_stateLink a_stateEnd a_stateTails a_stateBranch a_lastColumn n 1 (nI k) := by
  intro d
  induction d with
  | zero =>
    intro k n hk hn
    obtain ⟨n, rfl⟩ : ∃ m, n = m + 1 := ⟨n - 1, by omega⟩
    exact br_t (nI_le (by omega) (by omega)) ⟨rfl, h⟩
  | succ d ih =>
    intro k n hk hn
    obtain ⟨n, rfl⟩ : ∃ m, n = m + 1 := ⟨n - 1, by omega⟩
    have ek : (nI k).toNatClampNeg = k := pk_cl k
    refine br_f (nI_ge (by omega) (by omega)) (br_f (by decide) ⟨pk_in k 40 (by omega), pk_in k 40 (by omega), br_t ?_ (nm_r (nI_1 k) (ih (k + 1) n (by omega) (by omega)))⟩)
    simp only [ek]
    rw [(ho k (by omega)).2]
theorem zt_x_ag37 {post : Int32 → SX → Prop} {e : Nat} {o1 : Nat → Nat} {x3 x4 : Int32} (hL : L ≤ 40) (h : ∀ o' : Nat → Nat, (∀ k, k < L → o' k = o1 k) → wpX_arrange (fun u => match u with | (f_length, f_patternLength, f_distinctFound, f_longestFound, f_nodeCount, f_stateCount, f_rowCount, a_text, a_pattern, a_order, a_occurs, a_otherOrder, a_rank, a_pairRank, a_nodePlace, a_nodeDepth, a_nodeParent, a_nodeTail, a_nodeBranch, a_waitingNodes, a_stateLength, a_stateLink, a_stateEnd, a_stateTails, a_stateBranch, a_lastColumn) => (((f_distinctFound = x3 → (((f_longestFound = x4 → (∃ n98 : Nat, wX_agree_98 post f_length f_patternLength f_distinctFound f_longestFound f_nodeCount f_stateCount f_rowCount a_text a_pattern a_order a_occurs a_otherOrder a_rank a_pairRank a_nodePlace a_nodeDepth a_nodeParent a_nodeTail a_nodeBranch a_waitingNodes a_stateLength a_stateLink a_stateEnd a_stateTails a_stateBranch a_lastColumn n98 1 0)) ∧ (¬ f_longestFound = x4 → (∃ n98 : Nat, wX_agree_98 post f_length f_patternLength f_distinctFound f_longestFound f_nodeCount f_stateCount f_rowCount a_text a_pattern a_order a_occurs a_otherOrder a_rank a_pairRank a_nodePlace a_nodeDepth a_nodeParent a_nodeTail a_nodeBranch a_waitingNodes a_stateLength a_stateLink a_stateEnd a_stateTails a_stateBranch a_lastColumn n98 0 0))))) ∧ (¬ f_distinctFound = x3 → (∃ n98 : Nat, wX_agree_98 post f_length f_patternLength f_distinctFound f_longestFound f_nodeCount f_stateCount f_rowCount a_text a_pattern a_order a_occurs a_otherOrder a_rank a_pairRank a_nodePlace a_nodeDepth a_nodeParent a_nodeTail a_nodeBranch a_waitingNodes a_stateLength a_stateLink a_stateEnd a_stateTails a_stateBranch a_lastColumn n98 0 0))))) (nI L, f_patternLength, f_distinctFound, f_longestFound, f_nodeCount, f_stateCount, f_rowCount, a_text, a_pattern, fun j => nI (o1 j), a_occurs, fun j => nI (o' j), a_rank, a_pairRank, a_nodePlace, a_nodeDepth, a_nodeParent, a_nodeTail, a_nodeBranch, a_waitingNodes, a_stateLength, a_stateLink, a_stateEnd, a_stateTails, a_stateBranch, a_lastColumn) (nI e)) : ∀ d k n (o' : Nat → Nat), k + d = L → d < n → (∀ q, q < k → o' q = o1 q) → wX_agree_37 post (nI e) x3 x4 (nI L) f_patternLength f_distinctFound f_longestFound f_nodeCount f_stateCount f_rowCount n (nI k) a_text a_pattern (fun j => nI (o1 j)) a_occurs (fun j => nI (o' j)) a_rank a_pairRank a_nodePlace a_nodeDepth a_nodeParent a_nodeTail a_nodeBranch a_waitingNodes a_stateLength a_stateLink a_stateEnd a_stateTails a_stateBranch a_lastColumn := by
  intro d
  induction d with
  | zero =>
    intro k n o' hk hn hq
    obtain ⟨n, rfl⟩ : ∃ m, n = m + 1 := ⟨n - 1, by omega⟩
    exact br_t (nI_le (by omega) (by omega)) (h o' (fun q hq' => hq q (by omega)))
  | succ d ih =>
    intro k n o' hk hn hq
    obtain ⟨n, rfl⟩ : ∃ m, n = m + 1 := ⟨n - 1, by omega⟩
    have ek : (nI k).toNatClampNeg = k := pk_cl k
    refine br_f (nI_ge (by omega) (by omega)) ⟨pk_in k 40 (by omega), pk_in k 40 (by omega), nm_r (zt_upE k (o1 k) ek ?_) (nm_r (nI_1 k) (ih (k + 1) n _ (by omega) (by omega) (fun q hq' => ?_)))⟩
    · simp only [ek]
    · by_cases c : q = k
      · rw [c, zt_us]
      · rw [zt_un _ _ c]; exact hq q (by omega)
end
theorem i_vc_agree {k : Nat} {u : SX} {v : SY} (I : i_Rel k u v) (hk : k + 3 ≤ 1536) (v1 : Int32) (v2 : Int32) : wpX_agree (fun r u' => wpY_agree (fun r' => r' = r ∧ i_Rel (k + 3) u' v) v v1 v2) u v1 v2 := by
  obtain ⟨L, m, t, pat, ⟨hL, hm, h4, p4⟩, ⟨f_distinctFound, f_longestFound, f_nodeCount, f_stateCount, f_rowCount, a_order, a_occurs, a_otherOrder, a_rank, a_pairRank, a_nodePlace, a_nodeDepth, a_nodeParent, a_nodeTail, a_nodeBranch, a_waitingNodes, a_stateLength, a_stateLink, a_stateEnd, a_stateTails, a_stateBranch, a_lastColumn, rfl⟩, sh, hs, rfl⟩ := I
  have hz := zt_g_Z t L
  unfold wpX_agree wpY_agree
  refine zt_x_ia (fun e he hx => ?_) (fun nb => br_t rfl (zt_y_en (k := 3) (by omega) (fun e he hx => absurd hx (nb e he)) (fun _ => br_t rfl ⟨rfl, zt_mk hL hm h4 p4 hs⟩)))
  subst hx
  refine br_f (by decide) (zt_x_ia (fun e2 he2 hx => ?_) (fun nb => br_t rfl (zt_y_en (k := 3) (by omega) (fun _ _ _ => br_f (by decide) (zt_y_en (k := 3) (by omega) (fun e he hx => absurd hx (nb e he)) (fun _ => br_t rfl ⟨rfl, zt_mk hL hm h4 p4 hs⟩))) (fun x => absurd rfl (x e he)))))
  subst hx
  refine br_f (by decide) (zt_x_ar he2 hL h4 ?_)
  intro f_nodeCount f_stateCount f_rowCount a_rank a_pairRank a_nodePlace a_nodeDepth a_nodeParent a_nodeTail a_nodeBranch a_waitingNodes a_stateLength a_stateLink a_stateEnd a_stateTails a_stateBranch a_lastColumn o G hO hG
  obtain ⟨oo, hoo⟩ := zt_arr a_otherOrder
  subst hoo
  refine ⟨L + 1, zt_x_ag37 hL (fun o' ho' => zt_x_ar he hL h4 ?_) L 0 _ oo (by omega) (by omega) (fun q hq => by omega)⟩
  intro f_nodeCount f_stateCount f_rowCount a_rank a_pairRank a_nodePlace a_nodeDepth a_nodeParent a_nodeTail a_nodeBranch a_waitingNodes a_stateLength a_stateLink a_stateEnd a_stateTails a_stateBranch a_lastColumn o2 G2 hO2 hG2
  have eG := zt_G_un hG2 hG
  subst eG
  exact br_t rfl (br_t rfl ⟨L + 1, zt_x_ag98 hL (fun q hq => ⟨(hO2 q hq).1, (ho' q hq).trans (zt_O_un hz hO hO2 hq)⟩) (zt_y_en (k := 3) (by omega) (fun _ _ _ => br_f (by decide) (zt_y_en (k := 3) (by omega) (fun _ _ _ => br_f (by decide) ⟨rfl, zt_mk hL hm h4 p4 hs⟩) (fun x => absurd rfl (x e2 he2)))) (fun x => absurd rfl (x e he))) L 0 _ (by omega) (by omega)⟩)
