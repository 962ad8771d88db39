/-! the relation; the calls that write -/
def zt_XR (L m : Nat) (t pat : Nat → Nat) (u : SX) : Prop := ∃ (f_distinctFound f_longestFound f_nodeCount f_stateCount f_rowCount : Int32) (a_order a_occurs a_otherOrder a_rank a_pairRank a_nodePlace a_nodeDepth a_nodeParent a_nodeTail a_nodeBranch a_waitingNodes a_stateLength a_stateLink a_stateEnd a_stateTails a_stateBranch a_lastColumn : Nat → Int32), u = (nI L, nI m, f_distinctFound, f_longestFound, f_nodeCount, f_stateCount, f_rowCount, fun j => nI (t j), fun j => nI (pat j), a_order, a_occurs, a_otherOrder, a_rank, a_pairRank, a_nodePlace, a_nodeDepth, a_nodeParent, a_nodeTail, a_nodeBranch, a_waitingNodes, a_stateLength, a_stateLink, a_stateEnd, a_stateTails, a_stateBranch, a_lastColumn)
def zt_YR (L m : Nat) (t pat : Nat → Nat) (v : SY) : Prop := ∃ sh, zt_sh t L sh ∧ v = (nI L, nI m, (fun j => nI (t j)), (fun j => nI (pat j)), sh)
/-- same text, same pattern; the table is right; what the component keeps besides is free -/
def i_Rel (_ : Nat) (u : SX) (v : SY) : Prop := ∃ (L m : Nat) (t pat : Nat → Nat), (L ≤ 40 ∧ m ≤ 10 ∧ (∀ i, t i < 4) ∧ (∀ i, pat i < 4)) ∧ zt_XR L m t pat u ∧ zt_YR L m t pat v
theorem i_up {k : Nat} {u : SX} {v : SY} (h : i_Rel k u v) : i_Rel (k + 3) u v := h
section
variable {f_length f_patternLength f_distinctFound f_longestFound f_nodeCount f_stateCount f_rowCount : Int32} {a_text a_pattern a_order a_occurs a_otherOrder a_rank a_pairRank a_nodePlace a_nodeDepth a_nodeParent a_nodeTail a_nodeBranch a_waitingNodes a_stateLength a_stateLink a_stateEnd a_stateTails a_stateBranch a_lastColumn : Nat → Int32}
variable {t pat : Nat → Nat} {L m : Nat} {sh : Nat → Int32}
theorem zt_mk {k : Nat} (hL : L ≤ 40) (hm : m ≤ 10) (h4 : ∀ i, t i < 4) (p4 : ∀ i, pat i < 4) (hs : zt_sh t L sh) : i_Rel k (nI L, nI m, f_distinctFound, f_longestFound, f_nodeCount, f_stateCount, f_rowCount, fun j => nI (t j), fun j => nI (pat j), a_order, a_occurs, a_otherOrder, a_rank, a_pairRank, a_nodePlace, a_nodeDepth, a_nodeParent, a_nodeTail, a_nodeBranch, a_waitingNodes, a_stateLength, a_stateLink, a_stateEnd, a_stateTails, a_stateBranch, a_lastColumn) (nI L, nI m, (fun j => nI (t j)), (fun j => nI (pat j)), sh) :=
  ⟨L, m, t, pat, ⟨hL, hm, h4, p4⟩, ⟨_, _, _, _, _, _, _, _, _, _, _, _, _, _, _, _, _, _, _, _, _, _, rfl⟩, sh, hs, rfl⟩
theorem i_vc0 : wpX_init (fun u => wpY_init (fun v => i_Rel 0 u v)) := by
  refine zt_mk (k := 0) (L := 0) (m := 0) (t := fun _ => 0) (pat := fun _ => 0) (by omega) (by omega) (fun _ => by omega) (fun _ => by omega) (fun i j hi hj => ?_)
  rw [zt_N_rec0 (Or.inl (Nat.zero_le _))]
  rfl
/-- letters, places, engines -/
theorem zt_cls (x : Int32) : x < 0 ∨ ∃ j, j < 2 ^ 31 ∧ x = nI j := by
  by_cases c : x < 0
  · exact Or.inl c
  · exact Or.inr (nI_of c)
theorem zt_lt1 {x : Int32} (h : x < 0) : x < 1 := Int32.lt_trans h (by decide)
theorem zt_x_il {post : Int32 → Prop} {x : Int32} (h1 : ∀ c, c < 4 → x = nI c → post 1) (h0 : (∀ c, c < 4 → ¬ x = nI c) → post 0) : wpX_isLetter post (f_length, f_patternLength, f_distinctFound, f_longestFound, f_nodeCount, f_stateCount, f_rowCount, a_text, a_pattern, a_order, a_occurs, a_otherOrder, a_rank, a_pairRank, a_nodePlace, a_nodeDepth, a_nodeParent, a_nodeTail, a_nodeBranch, a_waitingNodes, a_stateLength, a_stateLink, a_stateEnd, a_stateTails, a_stateBranch, a_lastColumn) x := by
  rcases zt_cls x with c | ⟨j, hj, rfl⟩
  · exact br_t c (h0 fun e he hx => by subst hx; exact nI_pos (by omega) c)
  · refine br_f (nI_pos hj) (pk_le 4 j (fun d => h0 fun e he hx => ?_) (fun d => h1 j d rfl))
    rw [nI_eq hj (by omega)] at hx
    omega
theorem zt_y_il {post : Int32 → Prop} {f_size f_width : Int32} {b_text b_pattern b_shared : Nat → Int32} {x : Int32} (h1 : ∀ c, c < 4 → x = nI c → post 1) (h0 : (∀ c, c < 4 → ¬ x = nI c) → post 0) : wpY_isLetter post (f_size, f_width, b_text, b_pattern, b_shared) x := by
  rcases zt_cls x with c | ⟨j, hj, rfl⟩
  · exact br_t c (h0 fun e he hx => by subst hx; exact nI_pos (by omega) c)
  · refine br_f (nI_pos hj) (pk_lt 3 j (fun d => h0 fun e he hx => ?_) (fun d => h1 j (by omega) rfl))
    rw [nI_eq hj (by omega)] at hx
    omega
theorem zt_x_ip {post : Int32 → Prop} {x : Int32} (hL : L ≤ 40) (h1 : ∀ c, c < L → x = nI c → post 1) (h0 : (∀ c, c < L → ¬ x = nI c) → post 0) : wpX_isPlace post (nI L, f_patternLength, f_distinctFound, f_longestFound, f_nodeCount, f_stateCount, f_rowCount, a_text, a_pattern, a_order, a_occurs, a_otherOrder, a_rank, a_pairRank, a_nodePlace, a_nodeDepth, a_nodeParent, a_nodeTail, a_nodeBranch, a_waitingNodes, a_stateLength, a_stateLink, a_stateEnd, a_stateTails, a_stateBranch, a_lastColumn) x := by
  rcases zt_cls x with c | ⟨j, hj, rfl⟩
  · exact br_t c (h0 fun e he hx => by subst hx; exact nI_pos (by omega) c)
  · refine br_f (nI_pos hj) (pk_le L j (fun d => h0 fun e he hx => ?_) (fun d => h1 j d rfl))
    rw [nI_eq hj (by omega)] at hx
    omega
theorem zt_y_ip {post : Int32 → Prop} {f_width : Int32} {b_text b_pattern b_shared : Nat → Int32} {x : Int32} (hL : L ≤ 40) (h1 : ∀ c, c < L → x = nI c → post 1) (h0 : (∀ c, c < L → ¬ x = nI c) → post 0) : wpY_place post (nI L, f_width, b_text, b_pattern, b_shared) x := by
  rcases zt_cls x with c | ⟨j, hj, rfl⟩
  · exact br_t c (h0 fun e he hx => by subst hx; exact nI_pos (by omega) c)
  · refine br_f (nI_pos hj) (pk_le L j (fun d => h0 fun e he hx => ?_) (fun d => h1 j d rfl))
    rw [nI_eq hj (by omega)] at hx
    omega
theorem zt_y_ma {post : Int32 → Prop} {f_size f_width : Int32} {b_text b_pattern b_shared : Nat → Int32} {x : Int32} (h1 : ∀ c, 1 ≤ c → c ≤ 40 → x = nI c → post 1) (h0 : (∀ c, 1 ≤ c → c ≤ 40 → ¬ x = nI c) → post 0) : wpY_many post (f_size, f_width, b_text, b_pattern, b_shared) x := by
  rcases zt_cls x with c | ⟨j, hj, rfl⟩
  · exact br_t (zt_lt1 c) (h0 fun e _ he hx => by subst hx; exact nI_pos (by omega) c)
  · refine pk_lt j 1 (fun d => h0 fun e e1 he hx => ?_) (fun d => pk_lt 40 j (fun d2 => h0 fun e e1 he hx => ?_) (fun d2 => h1 j d d2 rfl))
    · rw [nI_eq hj (by omega)] at hx
      omega
    · rw [nI_eq hj (by omega)] at hx
      omega
theorem zt_x_ia {post : Int32 → Prop} {x : Int32} (h1 : ∀ c, c ≤ 3 → x = nI c → post 1) (h0 : (∀ c, c ≤ 3 → ¬ x = nI c) → post 0) : wpX_isArranger post (f_length, f_patternLength, f_distinctFound, f_longestFound, f_nodeCount, f_stateCount, f_rowCount, a_text, a_pattern, a_order, a_occurs, a_otherOrder, a_rank, a_pairRank, a_nodePlace, a_nodeDepth, a_nodeParent, a_nodeTail, a_nodeBranch, a_waitingNodes, a_stateLength, a_stateLink, a_stateEnd, a_stateTails, a_stateBranch, a_lastColumn) x := by
  rcases zt_cls x with c | ⟨j, hj, rfl⟩
  · exact br_t c (h0 fun e he hx => by subst hx; exact nI_pos (by omega) c)
  · refine br_f (nI_pos hj) (pk_lt 3 j (fun d => h0 fun e he hx => ?_) (fun d => h1 j d rfl))
    rw [nI_eq hj (by omega)] at hx
    omega
/-- write -/
theorem zt_x_wr37 {post : Int32 → SX → Prop} {c w : Nat} (hL : L ≤ 40) (hw : L + w ≤ 40) (h : post (nI (L + w)) (nI (L + w), f_patternLength, f_distinctFound, f_longestFound, f_nodeCount, f_stateCount, f_rowCount, fun j => nI (zt_wr t L c w j), a_pattern, a_order, a_occurs, a_otherOrder, a_rank, a_pairRank, a_nodePlace, a_nodeDepth, a_nodeParent, a_nodeTail, a_nodeBranch, a_waitingNodes, a_stateLength, a_stateLink, a_stateEnd, a_stateTails, a_stateBranch, a_lastColumn)) : ∀ d k n, k + d = w → d < n → wX_write_37 post (nI c) (nI w) (nI L) f_patternLength f_distinctFound f_longestFound f_nodeCount f_stateCount f_rowCount n (nI k) (fun j => nI (zt_wr t L c k j)) a_pattern a_order a_occurs a_otherOrder a_rank a_pairRank a_nodePlace a_nodeDepth a_nodeParent a_nodeTail a_nodeBranch a_waitingNodes a_stateLength a_stateLink a_stateEnd a_stateTails a_stateBranch a_lastColumn := by
  intro d
  induction d with
  | zero =>
    intro k n hk hn
    obtain ⟨n, rfl⟩ : ∃ m, n = m + 1 := ⟨n - 1, by omega⟩
    have e : k = w := by omega
    subst e
    exact br_t (nI_le (Nat.le_refl _) (by omega)) (nm_r (nI_add L k) h)
  | succ d ih =>
    intro k n hk hn
    obtain ⟨n, rfl⟩ : ∃ m, n = m + 1 := ⟨n - 1, by omega⟩
    exact br_f (nI_ge (by omega) (by omega)) ⟨pk_in (L + k) 40 (by omega) (nI_add L k), nm_r (zt_upE (L + k) c (pk_cl (L + k) (nI_add L k)) rfl) (nm_r (nI_1 k) (ih (k + 1) n (by omega) (by omega)))⟩
theorem zt_y_wr34 {post : Int32 → SY → Prop} {f_width : Int32} {b_pattern b_shared : Nat → Int32} {c w : Nat} (hL : L ≤ 40) (hw : L + w ≤ 40) (h4 : ∀ i, t i < 4) (hc : c < 4) (h : ∀ sh, zt_sh (zt_wr t L c w) (L + w) sh → post (nI (L + w)) (nI (L + w), f_width, (fun j => nI (zt_wr t L c w j)), b_pattern, sh)) : ∀ d k n, k + d = w → d < n → wY_write_34 post (nI c) (nI w) (nI L) f_width n (nI k) (fun j => nI (zt_wr t L c k j)) b_pattern b_shared := by
  intro d
  induction d with
  | zero =>
    intro k n hk hn
    obtain ⟨n, rfl⟩ : ∃ m, n = m + 1 := ⟨n - 1, by omega⟩
    have e : k = w := by omega
    subst e
    exact br_t (nI_le (Nat.le_refl _) (by omega)) (nm_r (nI_add L k) (zt_y_co hw (zt_wr4 h4 hc k) h))
  | succ d ih =>
    intro k n hk hn
    obtain ⟨n, rfl⟩ : ∃ m, n = m + 1 := ⟨n - 1, by omega⟩
    exact br_f (nI_ge (by omega) (by omega)) ⟨pk_in (L + k) 40 (by omega) (nI_add L k), nm_r (zt_upE (L + k) c (pk_cl (L + k) (nI_add L k)) rfl) (nm_r (nI_1 k) (ih (k + 1) n (by omega) (by omega)))⟩
end
theorem i_vc_write {k : Nat} {u : SX} {v : SY} (I : i_Rel k u v) (hk : k + 3 ≤ 1536) (v1 : Int32) (v2 : Int32) : wpX_write (fun r u' => wpY_write (fun r' v' => r' = r ∧ i_Rel (k + 3) u' v') v v1 v2) u v1 v2 := by
  obtain ⟨L, m, t, pat, ⟨hL, hm, h4, p4⟩, ⟨f_distinctFound, f_longestFound, f_nodeCount, f_stateCount, f_rowCount, a_order, a_occurs, a_otherOrder, a_rank, a_pairRank, a_nodePlace, a_nodeDepth, a_nodeParent, a_nodeTail, a_nodeBranch, a_waitingNodes, a_stateLength, a_stateLink, a_stateEnd, a_stateTails, a_stateBranch, a_lastColumn, rfl⟩, sh, hs, rfl⟩ := I
  unfold wpX_write wpY_write
  refine zt_x_il (fun c hc hx => ?_) (fun hx => ?_)
  · subst hx
    refine br_f (by decide) ?_
    by_cases hw : ∃ w, 1 ≤ w ∧ w ≤ 40 ∧ v2 = nI w
    · obtain ⟨w, w1, w2, rfl⟩ := hw
      refine br_f (nI_nlt (b := 1) w1 (by omega)) (br_t (nI_le (b := 40) w2 (by omega)) (pk_le w (40 - L) (fun d => ?_) (fun d => ?_) rfl (pk_sub (a := 40) hL)))
      · exact ⟨w + 1, zt_x_wr37 hL (by omega) (zt_y_il (fun _ _ _ => br_f (by decide) (zt_y_ma (fun _ _ _ _ => br_f (by decide) (br_t (by rw [nI_add]; exact nI_le (b := 40) (by omega) (by omega)) ⟨w + 1, zt_y_wr34 hL (by omega) h4 hc (fun sh' hs' => ⟨rfl, zt_mk (by omega) hm (zt_wr4 h4 hc w) p4 hs'⟩) w 0 _ (by omega) (by omega)⟩)) (fun x => absurd rfl (x w w1 w2)))) (fun x => absurd rfl (x c hc))) w 0 _ (by omega) (by omega)⟩
      · exact zt_y_il (fun _ _ _ => br_f (by decide) (zt_y_ma (fun _ _ _ _ => br_f (by decide) (br_f (by rw [nI_add]; exact nI_ge (a := 40) (by omega) (by omega)) ⟨rfl, zt_mk hL hm h4 p4 hs⟩)) (fun x => absurd rfl (x w w1 w2)))) (fun x => absurd rfl (x c hc))
    · have Y : wpY_write (fun r' v' => r' = -1 ∧ i_Rel (k + 3) (nI L, nI m, f_distinctFound, f_longestFound, f_nodeCount, f_stateCount, f_rowCount, fun j => nI (t j), fun j => nI (pat j), a_order, a_occurs, a_otherOrder, a_rank, a_pairRank, a_nodePlace, a_nodeDepth, a_nodeParent, a_nodeTail, a_nodeBranch, a_waitingNodes, a_stateLength, a_stateLink, a_stateEnd, a_stateTails, a_stateBranch, a_lastColumn) v') (nI L, nI m, (fun j => nI (t j)), (fun j => nI (pat j)), sh) (nI c) v2 := by
        unfold wpY_write
        exact zt_y_il (fun _ _ _ => br_f (by decide) (zt_y_ma (fun w w1 w2 e => absurd ⟨w, w1, w2, e⟩ hw) (fun _ => br_t rfl ⟨rfl, zt_mk hL hm h4 p4 hs⟩))) (fun x => absurd rfl (x c hc))
      rcases zt_cls v2 with d | ⟨j, hj, rfl⟩
      · exact br_t (zt_lt1 d) Y
      · exact pk_lt j 1 (fun _ => Y) (fun d => pk_le j 40 (fun e => absurd ⟨j, d, e, rfl⟩ hw) (fun _ => Y))
  · exact br_t rfl (zt_y_il (fun c hc e => absurd e (hx c hc)) (fun _ => br_t rfl ⟨rfl, zt_mk hL hm h4 p4 hs⟩))
section
variable {f_length f_patternLength f_distinctFound f_longestFound f_nodeCount f_stateCount f_rowCount : Int32} {a_text a_pattern a_order a_occurs a_otherOrder a_rank a_pairRank a_nodePlace a_nodeDepth a_nodeParent a_nodeTail a_nodeBranch a_waitingNodes a_stateLength a_stateLink a_stateEnd a_stateTails a_stateBranch a_lastColumn : Nat → Int32}
variable {t pat : Nat → Nat} {L m : Nat} {sh : Nat → Int32}
theorem zt_x_ag42 {post : Int32 → SX → Prop} {b w : Nat} (hL : L ≤ 40) (hb : 1 ≤ b) (hbL : b ≤ L) (hw : L + w ≤ 40) (h : post (nI (L + w)) (nI (L + w), f_patternLength, f_distinctFound, f_longestFound, f_nodeCount, f_stateCount, f_rowCount, fun j => nI (zt_ag t L b w j), a_pattern, a_order, a_occurs, a_otherOrder, a_rank, a_pairRank, a_nodePlace, a_nodeDepth, a_nodeParent, a_nodeTail, a_nodeBranch, a_waitingNodes, a_stateLength, a_stateLink, a_stateEnd, a_stateTails, a_stateBranch, a_lastColumn)) : ∀ d k n, k + d = w → d < n → wX_again_42 post (nI b) (nI w) (nI L) f_patternLength f_distinctFound f_longestFound f_nodeCount f_stateCount f_rowCount n (nI k) (fun j => nI (zt_ag t L b k j)) a_pattern a_order a_occurs a_otherOrder a_rank a_pairRank a_nodePlace a_nodeDepth a_nodeParent a_nodeTail a_nodeBranch a_waitingNodes a_stateLength a_stateLink a_stateEnd a_stateTails a_stateBranch a_lastColumn := by
  intro d
  induction d with
  | zero =>
    intro k n hk hn
    obtain ⟨n, rfl⟩ : ∃ m, n = m + 1 := ⟨n - 1, by omega⟩
    have e : k = w := by omega
    subst e
    exact br_t (nI_le (Nat.le_refl _) (by omega)) (nm_r (nI_add L k) h)
  | succ d ih =>
    intro k n hk hn
    obtain ⟨n, rfl⟩ : ∃ m, n = m + 1 := ⟨n - 1, by omega⟩
    have e : (nI L + nI k) - nI b = nI (L + k - b) := by rw [nI_add, pk_sub (by omega)]
    refine br_f (nI_ge (by omega) (by omega)) ⟨pk_in (L + k - b) 40 (by omega) e, pk_in (L + k) 40 (by omega) (nI_add L k), nm_r (zt_upE (L + k) (zt_ag t L b k (L + k - b)) (pk_cl (L + k) (nI_add L k)) ?_) (nm_r (nI_1 k) (ih (k + 1) n (by omega) (by omega)))⟩
    simp only [pk_cl (L + k - b) e]
theorem zt_y_ag39 {post : Int32 → SY → Prop} {f_width : Int32} {b_pattern b_shared : Nat → Int32} {b w : Nat} (hL : L ≤ 40) (hb : 1 ≤ b) (hbL : b ≤ L) (hw : L + w ≤ 40) (h4 : ∀ i, t i < 4) (h : ∀ sh, zt_sh (zt_ag t L b w) (L + w) sh → post (nI (L + w)) (nI (L + w), f_width, (fun j => nI (zt_ag t L b w j)), b_pattern, sh)) : ∀ d k n, k + d = w → d < n → wY_again_39 post (nI b) (nI w) f_width n (nI k) (nI (L + k)) (fun j => nI (zt_ag t L b k j)) b_pattern b_shared := by
  intro d
  induction d with
  | zero =>
    intro k n hk hn
    obtain ⟨n, rfl⟩ : ∃ m, n = m + 1 := ⟨n - 1, by omega⟩
    have e : k = w := by omega
    subst e
    exact br_t (nI_le (Nat.le_refl _) (by omega)) (zt_y_co hw (zt_ag4 h4 k) h)
  | succ d ih =>
    intro k n hk hn
    obtain ⟨n, rfl⟩ : ∃ m, n = m + 1 := ⟨n - 1, by omega⟩
    have e : nI (L + k) - nI b = nI (L + k - b) := pk_sub (by omega)
    refine br_f (nI_ge (by omega) (by omega)) ⟨pk_in (L + k - b) 40 (by omega) e, pk_in (L + k) 40 (by omega), nm_r (zt_upE (L + k) (zt_ag t L b k (L + k - b)) (pk_cl (L + k)) ?_) (nm_r (nI_1 (L + k)) (nm_r (nI_1 k) (ih (k + 1) n (by omega) (by omega))))⟩
    simp only [pk_cl (L + k - b) e]
end
theorem i_vc_again {k : Nat} {u : SX} {v : SY} (I : i_Rel k u v) (hk : k + 3 ≤ 1536) (v1 : Int32) (v2 : Int32) : wpX_again (fun r u' => wpY_again (fun r' v' => r' = r ∧ i_Rel (k + 3) u' v') v v1 v2) u v1 v2 := by
  obtain ⟨L, m, t, pat, ⟨hL, hm, h4, p4⟩, ⟨f_distinctFound, f_longestFound, f_nodeCount, f_stateCount, f_rowCount, a_order, a_occurs, a_otherOrder, a_rank, a_pairRank, a_nodePlace, a_nodeDepth, a_nodeParent, a_nodeTail, a_nodeBranch, a_waitingNodes, a_stateLength, a_stateLink, a_stateEnd, a_stateTails, a_stateBranch, a_lastColumn, rfl⟩, sh, hs, rfl⟩ := I
  rcases zt_cls v1 with c | ⟨b, hb, rfl⟩
  · exact br_t (zt_lt1 c) (br_t (zt_lt1 c) ⟨rfl, zt_mk hL hm h4 p4 hs⟩)
  · refine pk_lt b 1 (fun c => br_t (nI_lt (b := 1) c (by omega)) ⟨rfl, zt_mk hL hm h4 p4 hs⟩) (fun b1 => pk_lt L b (fun c => br_f (nI_nlt (b := 1) b1 hb) (br_t (nI_lt c hb) ⟨rfl, zt_mk hL hm h4 p4 hs⟩)) (fun b2 => ?_))
    by_cases hw : ∃ w, 1 ≤ w ∧ w ≤ 40 ∧ v2 = nI w
    · obtain ⟨w, w1, w2, rfl⟩ := hw
      refine br_f (nI_nlt (b := 1) w1 (by omega)) (br_t (nI_le (b := 40) w2 (by omega)) (pk_le w (40 - L) (fun d => ?_) (fun d => ?_) rfl (pk_sub (a := 40) hL)))
      · exact ⟨w + 1, zt_x_ag42 hL b1 b2 (by omega) (br_f (nI_nlt (b := 1) b1 hb) (br_f (nI_nlt b2 (by omega)) (zt_y_ma (fun _ _ _ _ => br_f (by decide) (br_t (by rw [nI_add]; exact nI_le (b := 40) (by omega) (by omega)) ⟨w + 1, zt_y_ag39 hL b1 b2 (by omega) h4 (fun sh' hs' => ⟨rfl, zt_mk (by omega) hm (zt_ag4 h4 w) p4 hs'⟩) w 0 _ (by omega) (by omega)⟩)) (fun x => absurd rfl (x w w1 w2))))) w 0 _ (by omega) (by omega)⟩
      · exact br_f (nI_nlt (b := 1) b1 hb) (br_f (nI_nlt b2 (by omega)) (zt_y_ma (fun _ _ _ _ => br_f (by decide) (br_f (by rw [nI_add]; exact nI_ge (a := 40) (by omega) (by omega)) ⟨rfl, zt_mk hL hm h4 p4 hs⟩)) (fun x => absurd rfl (x w w1 w2))))
    · have Y : wpY_again (fun r' v' => r' = -1 ∧ i_Rel (k + 3) (nI L, nI m, f_distinctFound, f_longestFound, f_nodeCount, f_stateCount, f_rowCount, fun j => nI (t j), fun j => nI (pat j), a_order, a_occurs, a_otherOrder, a_rank, a_pairRank, a_nodePlace, a_nodeDepth, a_nodeParent, a_nodeTail, a_nodeBranch, a_waitingNodes, a_stateLength, a_stateLink, a_stateEnd, a_stateTails, a_stateBranch, a_lastColumn) v') (nI L, nI m, (fun j => nI (t j)), (fun j => nI (pat j)), sh) (nI b) v2 :=
        br_f (nI_nlt (b := 1) b1 hb) (br_f (nI_nlt b2 (by omega)) (zt_y_ma (fun w w1 w2 e => absurd ⟨w, w1, w2, e⟩ hw) (fun _ => br_t rfl ⟨rfl, zt_mk hL hm h4 p4 hs⟩)))
      rcases zt_cls v2 with d | ⟨j, hj, rfl⟩
      · exact br_t (zt_lt1 d) Y
      · exact pk_lt j 1 (fun _ => Y) (fun d => pk_le j 40 (fun e => absurd ⟨j, d, e, rfl⟩ hw) (fun _ => Y))
theorem i_vc_change {k : Nat} {u : SX} {v : SY} (I : i_Rel k u v) (hk : k + 3 ≤ 1536) (v1 : Int32) (v2 : Int32) : wpX_change (fun r u' => wpY_change (fun r' v' => r' = r ∧ i_Rel (k + 3) u' v') v v1 v2) u v1 v2 := by
  obtain ⟨L, m, t, pat, ⟨hL, hm, h4, p4⟩, ⟨f_distinctFound, f_longestFound, f_nodeCount, f_stateCount, f_rowCount, a_order, a_occurs, a_otherOrder, a_rank, a_pairRank, a_nodePlace, a_nodeDepth, a_nodeParent, a_nodeTail, a_nodeBranch, a_waitingNodes, a_stateLength, a_stateLink, a_stateEnd, a_stateTails, a_stateBranch, a_lastColumn, rfl⟩, sh, hs, rfl⟩ := I
  unfold wpX_change wpY_change
  refine zt_x_ip hL (fun i hi hx => ?_) (fun hx => br_t rfl (zt_y_ip hL (fun c hc e => absurd e (hx c hc)) (fun _ => br_t rfl ⟨rfl, zt_mk hL hm h4 p4 hs⟩)))
  subst hx
  refine br_f (by decide) (zt_x_il (fun c hc hx => ?_) (fun hx => br_t rfl (zt_y_ip hL (fun _ _ _ => br_f (by decide) (zt_y_il (fun c hc e => absurd e (hx c hc)) (fun _ => br_t rfl ⟨rfl, zt_mk hL hm h4 p4 hs⟩))) (fun x => absurd rfl (x i hi)))))
  subst hx
  have vi : vp_in (nI i) 40 := pk_in i 40 (by omega)
  refine br_f (by decide) ⟨vi, nm_e ⟨vi, nm_r (zt_upE i c (pk_cl i) rfl) (zt_y_ip hL (fun _ _ _ => br_f (by decide) (zt_y_il (fun _ _ _ => br_f (by decide) ⟨vi, nm_e ⟨vi, nm_r (zt_upE i c (pk_cl i) rfl) (zt_y_co hL (zt_up4 h4 hc) (fun sh' hs' => ⟨rfl, zt_mk hL hm (zt_up4 h4 hc) p4 hs'⟩))⟩⟩) (fun x => absurd rfl (x c hc)))) (fun x => absurd rfl (x i hi)))⟩⟩
theorem i_vc_cut {k : Nat} {u : SX} {v : SY} (I : i_Rel k u v) (hk : k + 3 ≤ 1536) (v1 : Int32) : wpX_cut (fun r u' => wpY_cut (fun r' v' => r' = r ∧ i_Rel (k + 3) u' v') v v1) u v1 := by
  obtain ⟨L, m, t, pat, ⟨hL, hm, h4, p4⟩, ⟨f_distinctFound, f_longestFound, f_nodeCount, f_stateCount, f_rowCount, a_order, a_occurs, a_otherOrder, a_rank, a_pairRank, a_nodePlace, a_nodeDepth, a_nodeParent, a_nodeTail, a_nodeBranch, a_waitingNodes, a_stateLength, a_stateLink, a_stateEnd, a_stateTails, a_stateBranch, a_lastColumn, rfl⟩, sh, hs, rfl⟩ := I
  rcases zt_cls v1 with c | ⟨b, hb, rfl⟩
  · exact br_t c (br_t c ⟨rfl, zt_mk hL hm h4 p4 hs⟩)
  · refine br_f (nI_pos hb) (pk_le b 40 (fun c => pk_le L b (fun d => ?_) (fun d => nm_r (pk_sub (by omega)) ?_)) (fun c => ?_))
    · exact br_f (nI_pos hb) (br_t (nI_le (b := 40) c (by omega)) (br_t (nI_le d hb) (zt_y_co (L := 0) (by omega) h4 (fun sh' hs' => ⟨rfl, zt_mk (L := 0) (by omega) hm h4 p4 hs'⟩))))
    · refine br_f (nI_pos hb) (br_t (nI_le (b := 40) c (by omega)) (br_f (nI_ge d (by omega)) ?_))
      rw [pk_sub (by omega)]
      exact zt_y_co (by omega) h4 (fun sh' hs' => ⟨rfl, zt_mk (by omega) hm h4 p4 hs'⟩)
    · exact br_f (nI_pos hb) (br_f (nI_ge (a := 40) c hb) ⟨rfl, zt_mk hL hm h4 p4 hs⟩)
theorem i_vc_extend {k : Nat} {u : SX} {v : SY} (I : i_Rel k u v) (hk : k + 3 ≤ 1536) (v1 : Int32) : wpX_extend (fun r u' => wpY_extend (fun r' v' => r' = r ∧ i_Rel (k + 3) u' v') v v1) u v1 := by
  obtain ⟨L, m, t, pat, ⟨hL, hm, h4, p4⟩, ⟨f_distinctFound, f_longestFound, f_nodeCount, f_stateCount, f_rowCount, a_order, a_occurs, a_otherOrder, a_rank, a_pairRank, a_nodePlace, a_nodeDepth, a_nodeParent, a_nodeTail, a_nodeBranch, a_waitingNodes, a_stateLength, a_stateLink, a_stateEnd, a_stateTails, a_stateBranch, a_lastColumn, rfl⟩, sh, hs, rfl⟩ := I
  unfold wpX_extend wpY_extend
  refine zt_x_il (fun c hc hx => ?_) (fun hx => br_t rfl (zt_y_il (fun c hc e => absurd e (hx c hc)) (fun _ => br_t rfl ⟨rfl, zt_mk hL hm h4 p4 hs⟩)))
  subst hx
  refine br_f (by decide) (pk_lt m 10 (fun d => ?_) (fun d => ?_))
  · exact ⟨pk_in m 10 d, nm_r (zt_upE m c (pk_cl m) rfl) (nm_r (nI_1 m) (zt_y_il (fun _ _ _ => br_f (by decide) (br_t (nI_lt (b := 10) d (by omega)) ⟨pk_in m 10 d, nm_r (zt_upE m c (pk_cl m) rfl) (nm_r (nI_1 m) ⟨rfl, zt_mk hL (by omega) h4 (zt_up4 p4 hc) hs⟩)⟩)) (fun x => absurd rfl (x c hc))))⟩
  · exact zt_y_il (fun _ _ _ => br_f (by decide) (br_f (nI_nlt (b := 10) d (by omega)) ⟨rfl, zt_mk hL hm h4 p4 hs⟩)) (fun x => absurd rfl (x c hc))
section
variable {f_length f_patternLength f_distinctFound f_longestFound f_nodeCount f_stateCount f_rowCount : Int32} {a_text a_pattern a_order a_occurs a_otherOrder a_rank a_pairRank a_nodePlace a_nodeDepth a_nodeParent a_nodeTail a_nodeBranch a_waitingNodes a_stateLength a_stateLink a_stateEnd a_stateTails a_stateBranch a_lastColumn : Nat → Int32}
variable {t pat : Nat → Nat} {L m : Nat} {sh : Nat → Int32}
theorem zt_x_cy28 {post : Int32 → SX → Prop} {i w : Nat} (hL : L ≤ 40) (hi : i + w ≤ L) (hw : w ≤ 10) (h : post 1 (nI L, nI w, f_distinctFound, f_longestFound, f_nodeCount, f_stateCount, f_rowCount, fun j => nI (t j), fun j => nI (zt_cy pat t i w j), a_order, a_occurs, a_otherOrder, a_rank, a_pairRank, a_nodePlace, a_nodeDepth, a_nodeParent, a_nodeTail, a_nodeBranch, a_waitingNodes, a_stateLength, a_stateLink, a_stateEnd, a_stateTails, a_stateBranch, a_lastColumn)) : ∀ d k n, k + d = w → d < n → wX_copy_28 post (nI i) (nI w) (nI L) f_patternLength f_distinctFound f_longestFound f_nodeCount f_stateCount f_rowCount n (nI k) (fun j => nI (t j)) (fun j => nI (zt_cy pat t i k j)) a_order a_occurs a_otherOrder a_rank a_pairRank a_nodePlace a_nodeDepth a_nodeParent a_nodeTail a_nodeBranch a_waitingNodes a_stateLength a_stateLink a_stateEnd a_stateTails a_stateBranch a_lastColumn := by
  intro d
  induction d with
  | zero =>
    intro k n hk hn
    obtain ⟨n, rfl⟩ : ∃ m, n = m + 1 := ⟨n - 1, by omega⟩
    have e : k = w := by omega
    subst e
    exact br_t (nI_le (Nat.le_refl _) (by omega)) h
  | succ d ih =>
    intro k n hk hn
    obtain ⟨n, rfl⟩ : ∃ m, n = m + 1 := ⟨n - 1, by omega⟩
    refine br_f (nI_ge (by omega) (by omega)) ⟨pk_in (i + k) 40 (by omega) (nI_add i k), pk_in k 10 (by omega), nm_r (zt_upE k (t (i + k)) (pk_cl k) ?_) (nm_r (nI_1 k) (ih (k + 1) n (by omega) (by omega)))⟩
    simp only [pk_cl (i + k) (nI_add i k)]
theorem zt_y_cy28 {post : Int32 → SY → Prop} {f_width : Int32} {b_shared : Nat → Int32} {i w : Nat} (hL : L ≤ 40) (hi : i + w ≤ L) (hw : w ≤ 10) (h : post 1 (nI L, nI w, (fun j => nI (t j)), (fun j => nI (zt_cy pat t i w j)), b_shared)) : ∀ d k n, k + d = w → d < n → wY_copy_28 post (nI i) (nI w) (nI L) f_width n (nI k) (fun j => nI (t j)) (fun j => nI (zt_cy pat t i k j)) b_shared := by
  intro d
  induction d with
  | zero =>
    intro k n hk hn
    obtain ⟨n, rfl⟩ : ∃ m, n = m + 1 := ⟨n - 1, by omega⟩
    have e : k = w := by omega
    subst e
    exact br_t (nI_le (Nat.le_refl _) (by omega)) h
  | succ d ih =>
    intro k n hk hn
    obtain ⟨n, rfl⟩ : ∃ m, n = m + 1 := ⟨n - 1, by omega⟩
    refine br_f (nI_ge (by omega) (by omega)) ⟨pk_in (i + k) 40 (by omega) (nI_add i k), pk_in k 10 (by omega), nm_r (zt_upE k (t (i + k)) (pk_cl k) ?_) (nm_r (nI_1 k) (ih (k + 1) n (by omega) (by omega)))⟩
    simp only [pk_cl (i + k) (nI_add i k)]
end
theorem i_vc_copy {k : Nat} {u : SX} {v : SY} (I : i_Rel k u v) (hk : k + 3 ≤ 1536) (v1 : Int32) (v2 : Int32) : wpX_copy (fun r u' => wpY_copy (fun r' v' => r' = r ∧ i_Rel (k + 3) u' v') v v1 v2) u v1 v2 := by
  obtain ⟨L, m, t, pat, ⟨hL, hm, h4, p4⟩, ⟨f_distinctFound, f_longestFound, f_nodeCount, f_stateCount, f_rowCount, a_order, a_occurs, a_otherOrder, a_rank, a_pairRank, a_nodePlace, a_nodeDepth, a_nodeParent, a_nodeTail, a_nodeBranch, a_waitingNodes, a_stateLength, a_stateLink, a_stateEnd, a_stateTails, a_stateBranch, a_lastColumn, rfl⟩, sh, hs, rfl⟩ := I
  rcases zt_cls v2 with c | ⟨w, hw, rfl⟩
  · exact br_t c (br_t c ⟨rfl, zt_mk hL hm h4 p4 hs⟩)
  · refine br_f (nI_pos hw) (pk_lt 10 w (fun c => br_f (nI_pos hw) (br_t (nI_lt (a := 10) c hw) ⟨rfl, zt_mk hL hm h4 p4 hs⟩)) (fun w1 => ?_))
    rcases zt_cls v1 with c | ⟨i, hi, rfl⟩
    · exact br_t c (br_f (nI_pos hw) (br_f (nI_nlt (a := 10) w1 (by omega)) (br_t c ⟨rfl, zt_mk hL hm h4 p4 hs⟩)))
    · refine br_f (nI_pos hi) (br_c (fun c => ?_) (fun c => br_f (nI_pos hw) (br_f (nI_nlt (a := 10) w1 (by omega)) (br_f (nI_pos hi) (br_f c ⟨rfl, zt_mk hL hm h4 p4 hs⟩)))))
      have hiw : i + w ≤ L := by
        by_cases d : w ≤ L
        · rw [pk_sub d, nI_leI hi (by omega)] at c
          omega
        · exact absurd (Int32.lt_of_le_of_lt c (pk_sneg (by omega) (by omega))) (nI_pos hi)
      exact ⟨w + 1, zt_x_cy28 hL hiw w1 (br_f (nI_pos hw) (br_f (nI_nlt (a := 10) w1 (by omega)) (br_f (nI_pos hi) (br_t c ⟨w + 1, zt_y_cy28 hL hiw w1 ⟨rfl, zt_mk hL w1 h4 (zt_cy4 p4 h4 w) hs⟩ w 0 _ (by omega) (by omega)⟩)))) w 0 _ (by omega) (by omega)⟩
theorem i_vc_common {k : Nat} {u : SX} {v : SY} (I : i_Rel k u v) (hk : k + 3 ≤ 1536) (v1 : Int32) (v2 : Int32) : wpX_common (fun r => wpY_common (fun r' => r' = r ∧ i_Rel (k + 3) u v) v v1 v2) u v1 v2 := by
  obtain ⟨L, m, t, pat, ⟨hL, hm, h4, p4⟩, ⟨f_distinctFound, f_longestFound, f_nodeCount, f_stateCount, f_rowCount, a_order, a_occurs, a_otherOrder, a_rank, a_pairRank, a_nodePlace, a_nodeDepth, a_nodeParent, a_nodeTail, a_nodeBranch, a_waitingNodes, a_stateLength, a_stateLink, a_stateEnd, a_stateTails, a_stateBranch, a_lastColumn, rfl⟩, sh, hs, rfl⟩ := I
  unfold wpX_common wpY_common
  refine zt_x_ip hL (fun i hi hx => ?_) (fun hx => br_t rfl (zt_y_ip hL (fun c hc e => absurd e (hx c hc)) (fun _ => br_t rfl ⟨rfl, zt_mk hL hm h4 p4 hs⟩)))
  subst hx
  refine br_f (by decide) (zt_x_ip hL (fun j hj hx => ?_) (fun hx => br_t rfl (zt_y_ip hL (fun _ _ _ => br_f (by decide) (zt_y_ip hL (fun c hc e => absurd e (hx c hc)) (fun _ => br_t rfl ⟨rfl, zt_mk hL hm h4 p4 hs⟩))) (fun x => absurd rfl (x i hi)))))
  subst hx
  have a := zt_y_at hs (i := i) (j := j) (by omega) (by omega)
  exact br_f (by decide) (zt_x_sl 0 hL (by omega) (by omega) h4 (Nat.zero_le _) (zt_y_ip hL (fun _ _ _ => br_f (by decide) (zt_y_ip hL (fun _ _ _ => br_f (by decide) ⟨a.1, a.2, zt_mk hL hm h4 p4 hs⟩) (fun x => absurd rfl (x j hj)))) (fun x => absurd rfl (x i hi))))
theorem i_vc_repeats {k : Nat} {u : SX} {v : SY} (I : i_Rel k u v) (hk : k + 3 ≤ 1536) (v1 : Int32) : wpX_repeats (fun r => wpY_repeats (fun r' => r' = r ∧ i_Rel (k + 3) u v) v v1) u v1 := by
  obtain ⟨L, m, t, pat, ⟨hL, hm, h4, p4⟩, ⟨f_distinctFound, f_longestFound, f_nodeCount, f_stateCount, f_rowCount, a_order, a_occurs, a_otherOrder, a_rank, a_pairRank, a_nodePlace, a_nodeDepth, a_nodeParent, a_nodeTail, a_nodeBranch, a_waitingNodes, a_stateLength, a_stateLink, a_stateEnd, a_stateTails, a_stateBranch, a_lastColumn, rfl⟩, sh, hs, rfl⟩ := I
  refine zt_x_rp hL h4 (fun T t1 t2 hx => ?_) (fun c => zt_y_rp hL hs (fun T t1 t2 hx => ?_) (fun _ => ⟨rfl, zt_mk hL hm h4 p4 hs⟩))
  · subst hx
    refine zt_y_rp hL hs (fun T' t1' t2' hx => ?_) (fun c => absurd (nI_le (a := 1) t1 t2) c)
    rw [nI_eq t2 t2'] at hx
    subst hx
    exact ⟨rfl, zt_mk hL hm h4 p4 hs⟩
  · subst hx
    exact absurd (nI_le (a := 1) t1 t2) c
theorem i_vc_unique {k : Nat} {u : SX} {v : SY} (I : i_Rel k u v) (hk : k + 3 ≤ 1536) (v1 : Int32) : wpX_unique (fun r => wpY_unique (fun r' => r' = r ∧ i_Rel (k + 3) u v) v v1) u v1 := by
  obtain ⟨L, m, t, pat, ⟨hL, hm, h4, p4⟩, ⟨f_distinctFound, f_longestFound, f_nodeCount, f_stateCount, f_rowCount, a_order, a_occurs, a_otherOrder, a_rank, a_pairRank, a_nodePlace, a_nodeDepth, a_nodeParent, a_nodeTail, a_nodeBranch, a_waitingNodes, a_stateLength, a_stateLink, a_stateEnd, a_stateTails, a_stateBranch, a_lastColumn, rfl⟩, sh, hs, rfl⟩ := I
  unfold wpX_unique wpY_unique
  refine zt_x_ip hL (fun i hi hx => ?_) (fun hx => br_t rfl (zt_y_ip hL (fun c hc e => absurd e (hx c hc)) (fun _ => br_t rfl ⟨rfl, zt_mk hL hm h4 p4 hs⟩)))
  subst hx
  have b1 := zt_ms_le (g := zt_g t L) (L := L) (i := i) (n := L) (by omega) (by omega)
  have Y : wpY_unique (fun r' => r' = nI (if L - i < zt_ms (zt_g t L) L i L + 1 then 0 else zt_ms (zt_g t L) L i L + 1) ∧ i_Rel (k + 3) (nI L, nI m, f_distinctFound, f_longestFound, f_nodeCount, f_stateCount, f_rowCount, fun j => nI (t j), fun j => nI (pat j), a_order, a_occurs, a_otherOrder, a_rank, a_pairRank, a_nodePlace, a_nodeDepth, a_nodeParent, a_nodeTail, a_nodeBranch, a_waitingNodes, a_stateLength, a_stateLink, a_stateEnd, a_stateTails, a_stateBranch, a_lastColumn) (nI L, nI m, (fun j => nI (t j)), (fun j => nI (pat j)), sh)) (nI L, nI m, (fun j => nI (t j)), (fun j => nI (pat j)), sh) (nI i) := by
    unfold wpY_unique
    exact zt_y_ip hL (fun _ _ _ => br_f (by decide) ⟨L + 1, zt_y_un14 hL hs hi ⟨rfl, zt_mk hL hm h4 p4 hs⟩ L 0 _ (by omega) (by omega)⟩) (fun x => absurd rfl (x i hi))
  refine br_f (by decide) (zt_x_ms hL hi (Nat.le_refl _) h4 (nm_r (nI_1 _) (pk_lt (L - i) (zt_ms (zt_g t L) L i L + 1) (fun c => ?_) (fun c => ?_) (pk_sub (by omega)) rfl)))
  · rw [if_pos c] at Y; exact Y
  · rw [if_neg (by omega)] at Y; exact Y
