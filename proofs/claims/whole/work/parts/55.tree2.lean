/-! engine 2: hanging the tails -/
def zt_HI (g : Nat → Nat) (L k n : Nat) (E l p b nt : Nat → Nat) (v : Nat) : Prop := zt_hA g L k n E l p b nt v ∨ zt_hB g L k n E l p b nt v ∨ zt_hC g L k n E l p b nt v
section
variable {g : Nat → Nat} {L k n : Nat} {E l p b nt : Nat → Nat} {v : Nat}
theorem zt_HI_b (hk : k < L) (h : zt_HI g L k n E l p b nt v) : v < n ∧ n ≤ 2 * k + 3 ∧ k + l v ≤ L := by
  rcases h with h | h | h
  · have a := zt_N_j (g := g) (L := L) (i := E v) (j := k) (zt_P_L (by omega) (h.1.1.1.2.1 v h.2.1).1) (by omega)
    have := h.1.2
    have := h.2.2
    exact ⟨h.2.1, by omega, by omega⟩
  · obtain ⟨r, hJ, hn, hr, hm, hmax, hv, hM, hno⟩ := h
    have a := zt_N_j (g := g) (L := L) (i := E v) (j := k) (zt_P_L (by omega) (hJ.1.2.1 v hv).1) (by omega)
    exact ⟨hv, by omega, by omega⟩
  · exact ⟨h.1, h.2.1, by have := h.2.2.1; omega⟩
theorem zt_HI_end (hz : zt_Z g L) (hk : k < L) (h : zt_HI g L k n E l p b nt v) (he : k + l v = L) : zt_hC g L k n E l p b nt v := by
  rcases h with h | h | h
  · exact zt_hB_end hk (zt_hA_B hz hk h (Or.inl he)) he
  · exact zt_hB_end hk h he
  · exact h
theorem zt_HI_0 (hz : zt_Z g L) (hk : k < L) (h : zt_HI g L k n E l p b nt v) (hlt : k + l v < L) {c : Nat} (hq : g (k + l v) = c + 1) (h0 : b (v * 4 + c) = 0) : zt_hB g L k n E l p b nt v := by
  rcases h with h | h | h
  · exact zt_hA_B hz hk h (Or.inr ⟨c, hq, h0⟩)
  · exact h
  · have := h.2.2.1; omega
theorem zt_HI_1 (h : zt_HI g L k n E l p b nt v) (hlt : k + l v < L) {c : Nat} (hq : g (k + l v) = c + 1) (h0 : b (v * 4 + c) ≠ 0) : zt_hA g L k n E l p b nt v := by
  rcases h with h | h | h
  · exact h
  · obtain ⟨r, hJ, hn, hr, hm, hmax, hv, hM, hno⟩ := h
    exact absurd (hno c hq) h0
  · have := h.2.2.1; omega
theorem zt_hB_n (h : zt_hB g L k n E l p b nt v) : n ≤ 2 * k + 2 := by
  obtain ⟨r, hJ, hn, _⟩ := h
  exact hn
end
section
variable {f_length f_patternLength f_distinctFound f_longestFound f_nodeCount f_stateCount f_rowCount : Int32} {a_text a_pattern a_order a_occurs a_otherOrder a_rank a_pairRank a_nodePlace a_nodeDepth a_nodeParent a_nodeTail a_nodeBranch a_waitingNodes a_stateLength a_stateLink a_stateEnd a_stateTails a_stateBranch a_lastColumn : Nat → Int32}
variable {t pat : Nat → Nat} {L m : Nat}
theorem zt_x_ht4 {post : SX → Prop} {k : Nat} (hL : L ≤ 40) (hk : k < L) (h4 : ∀ i, t i < 4) (h : ∀ (n : Nat) (E l p b nt : Nat → Nat), zt_H (zt_g t L) L (k + 1) n (zt_up E 0 L) l p b nt → post (nI L, f_patternLength, f_distinctFound, f_longestFound, nI (n), f_stateCount, f_rowCount, fun j => nI (t j), a_pattern, a_order, a_occurs, a_otherOrder, a_rank, a_pairRank, fun j => nI ((E) j), fun j => nI ((l) j), fun j => nI ((p) j), fun j => nI ((nt) j) - 1, fun j => nI ((b) j), a_waitingNodes, a_stateLength, a_stateLink, a_stateEnd, a_stateTails, a_stateBranch, a_lastColumn)) : ∀ (f st v n : Nat) (E l p b nt : Nat → Nat), L - st < f → st ≤ l v → zt_HI (zt_g t L) L k n (zt_up E 0 L) l p b nt v → wX_hangTail_4 post (nI k) f (nI v) (nI st) (nI L) f_patternLength f_distinctFound f_longestFound (nI (n)) f_stateCount f_rowCount (fun j => nI (t j)) a_pattern a_order a_occurs a_otherOrder a_rank a_pairRank (fun j => nI ((E) j)) (fun j => nI ((l) j)) (fun j => nI ((p) j)) (fun j => nI ((nt) j) - 1) (fun j => nI ((b) j)) a_waitingNodes a_stateLength a_stateLink a_stateEnd a_stateTails a_stateBranch a_lastColumn := by
  have hz := zt_g_Z t L
  have g4 := zt_g_4 h4 L
  intro f
  induction f with
  | zero => intro st v n E l p b nt hf; omega
  | succ f ih =>
    intro st v n E l p b nt hf hst H
    obtain ⟨hv, hn, hlv⟩ := zt_HI_b hk H
    have ev : (nI v).toNatClampNeg = v := pk_cl v
    have vv : vp_in (nI v) 81 := pk_in v 81 (by omega)
    have fin : k + l v = L → post (nI L, f_patternLength, f_distinctFound, f_longestFound, nI (n), f_stateCount, f_rowCount, fun j => nI (t j), a_pattern, a_order, a_occurs, a_otherOrder, a_rank, a_pairRank, fun j => nI ((E) j), fun j => nI ((l) j), fun j => nI ((p) j), fun j => nI ((zt_up nt v (k + 1)) j) - 1, fun j => nI ((b) j), a_waitingNodes, a_stateLength, a_stateLink, a_stateEnd, a_stateTails, a_stateBranch, a_lastColumn) := fun e => by
      have C := zt_HI_end hz hk H e
      exact h n E l p b _ (C.2.2.2 _ (zt_us _ _ _) (fun u _ hu => zt_un _ _ hu))
    have eqk : nI k = nI (k + 1) - 1 := zt_I1 k
    have edd : nI k + nI (l v) = nI (k + l v) := nI_add _ _
    refine pk_le L st (fun c => ⟨vv, nm_r (zt_upM v (k + 1) ev eqk) (fin (by omega))⟩) (fun c => ⟨vv, ?_⟩)
    simp only [ev]
    refine pk_le L (k + l v) (fun c2 => ⟨vv, nm_r (by rw [eqk]; exact zt_upN nt v (k + 1)) (fin (by omega))⟩) (fun c2 => ⟨vv, pk_in (k + l v) 40 (by omega) edd, ?_⟩) rfl edd
    have tc := h4 (k + l v)
    have hq : zt_g t L (k + l v) = t (k + l v) + 1 := zt_g_lt c2
    have eix := zt_ix4 v (t (k + l v))
    refine nm_r (e' := nI (v * 4 + t (k + l v))) (by simp only [pk_cl _ edd]; exact eix) ⟨pk_in (v * 4 + t (k + l v)) 324 (by omega), ?_⟩
    have ei : (nI (v * 4 + t (k + l v))).toNatClampNeg = v * 4 + t (k + l v) := pk_cl _
    refine nm_r (e' := nI (b (v * 4 + t (k + l v)))) (by simp only [ei]) ?_
    by_cases c3 : b (v * 4 + t (k + l v)) = 0
    · -- a new leaf
      have B := zt_HI_0 hz hk H c2 hq c3
      have n2 := zt_hB_n B
      have C := zt_hB_leaf (b' := zt_up (zt_zb b n) (v * 4 + t (k + l v)) n) (nt' := zt_up nt n 0) hk B c2 tc hq (fun c' hc' => by rw [zt_un _ _ (by omega)]; exact zt_zb_n b n hc') (zt_us _ _ _) (fun w c' hw hc' hne => by rw [zt_un _ _ (by omega)]; exact zt_zb_o b (by omega) hc') (fun u hu => zt_un _ _ (by omega))
      rw [zt_upc _ _ _ (by omega : (0 : Nat) ≠ n)] at C
      have e1 : zt_up l n (L - k) v = l v := zt_un _ _ (by omega)
      have e2 : zt_up E n k n = k := zt_us _ _ _
      have e3 : zt_up l n (L - k) n = L - k := zt_us _ _ _
      have en : (nI n).toNatClampNeg = n := pk_cl n
      rw [c3]
      refine br_t rfl ?_
      rw [pk_sub (by omega : k ≤ L)]
      refine zt_x_nn (by omega) ⟨pk_in (v * 4 + t (k + l v)) 324 (by omega), nm_r (zt_upE (v * 4 + t (k + l v)) n ei rfl) ⟨pk_in n 81 (by omega), vv, ?_⟩⟩
      simp only [en, ev, e1, e2]
      have kk : zt_N (zt_g t L) L k k = L - k := zt_N_s (by omega)
      refine zt_x_sl (l v) hL (by omega) (by omega) h4 (by omega) ?_
      rw [kk]
      refine ⟨pk_in n 81 (by omega), ?_⟩
      rw [e3]
      exact br_t (nI_le (Nat.le_refl _) (by omega)) (nm_r (nI_1 st) (ih (st + 1) n (n + 1) _ _ _ _ _ (by omega) (by rw [e3]; omega) (Or.inr (Or.inr C))))
    · have A := zt_HI_1 H c2 hq c3
      have nA := A.1.2
      obtain ⟨x1, x2, x3, x5, x6⟩ := zt_hA_x hk A c2 tc hq c3
      obtain ⟨x, hx⟩ : ∃ x, x = b (v * 4 + t (k + l v)) := ⟨_, rfl⟩
      rw [← hx] at c3 x1 x2 x3 x5 x6 ⊢
      have eE : zt_up E 0 L x = E x := zt_un _ _ c3
      rw [eE] at x2 x5
      have ex : (nI x).toNatClampNeg = x := pk_cl x
      have vx : vp_in (nI x) 81 := pk_in x 81 (by omega)
      refine br_f (nI_ne0 (by omega) (by omega)) ⟨vx, vv, ?_⟩
      simp only [ex, ev]
      have nE := zt_N_i (g := zt_g t L) (L := L) (i := E x) (j := k) (by omega) (by omega)
      refine zt_x_sl (l v) hL (by omega) (by omega) h4 (by omega) ⟨vx, pk_le (l x) (zt_N (zt_g t L) L (E x) k) (fun d => ?_) (fun d => ?_)⟩
      · refine nm_r (nI_1 st) (ih (st + 1) x n E l p b nt (by omega) (by omega) (Or.inl ?_))
        have := zt_hA_dn hk A c2 tc hq (by rw [← hx]; exact c3)
        rw [← hx, eE] at this
        exact this d
      · have td := h4 (E x + zt_N (zt_g t L) L (E x) k)
        have B := zt_hA_mid (b' := zt_up (zt_up (zt_zb b n) (v * 4 + t (k + l v)) n) (n * 4 + t (E x + zt_N (zt_g t L) L (E x) k)) x) (nt' := zt_up nt n 0) (x := x) (s := zt_N (zt_g t L) L (E x) k) hz g4 hk A c2 tc hq hx.symm c3 (by rw [eE]) d td (by rw [eE]; exact zt_g_lt (by omega)) (by rw [zt_un _ _ (by omega), zt_us]) (zt_us _ _ _) (fun c' hc' hne => by rw [zt_un _ _ (by omega), zt_un _ _ (by omega)]; exact zt_zb_n b n hc') (fun w c' hw hc' hne => by rw [zt_un _ _ (by omega), zt_un _ _ (by omega)]; exact zt_zb_o b (by omega) hc') (zt_us _ _ _) (fun u hu => zt_un _ _ (by omega))
        rw [eE, zt_upc _ _ _ (by omega : (0 : Nat) ≠ n)] at B
        refine zt_x_se (by omega) x1 (by omega) (by omega) h4 ?_
        rw [x6]
        exact nm_r (nI_1 st) (ih (st + 1) n (n + 1) _ _ _ _ _ (by omega) (by rw [zt_us]; omega) (Or.inr (Or.inl B)))
theorem zt_x_ht {post : SX → Prop} {k n : Nat} {E l p b nt : Nat → Nat} (hL : L ≤ 40) (hk : k < L) (h4 : ∀ i, t i < 4) (H : zt_H (zt_g t L) L k n (zt_up E 0 L) l p b nt) (h : ∀ (n : Nat) (E l p b nt : Nat → Nat), zt_H (zt_g t L) L (k + 1) n (zt_up E 0 L) l p b nt → post (nI L, f_patternLength, f_distinctFound, f_longestFound, nI (n), f_stateCount, f_rowCount, fun j => nI (t j), a_pattern, a_order, a_occurs, a_otherOrder, a_rank, a_pairRank, fun j => nI ((E) j), fun j => nI ((l) j), fun j => nI ((p) j), fun j => nI ((nt) j) - 1, fun j => nI ((b) j), a_waitingNodes, a_stateLength, a_stateLink, a_stateEnd, a_stateTails, a_stateBranch, a_lastColumn)) : wpX_hangTail post (nI L, f_patternLength, f_distinctFound, f_longestFound, nI (n), f_stateCount, f_rowCount, fun j => nI (t j), a_pattern, a_order, a_occurs, a_otherOrder, a_rank, a_pairRank, fun j => nI ((E) j), fun j => nI ((l) j), fun j => nI ((p) j), fun j => nI ((nt) j) - 1, fun j => nI ((b) j), a_waitingNodes, a_stateLength, a_stateLink, a_stateEnd, a_stateTails, a_stateBranch, a_lastColumn) (nI k) :=
  ⟨L + 1, zt_x_ht4 hL hk h4 h (L + 1) 0 0 n E l p b nt (by omega) (Nat.zero_le _) (Or.inl ⟨H, H.1.1.1.1, by rw [H.1.1.1.2]; exact Nat.zero_le _⟩)⟩
theorem zt_x_bt15 {post : SX → Prop} (hL : L ≤ 40) (h4 : ∀ i, t i < 4) (h : ∀ (n : Nat) (E l p b nt : Nat → Nat), zt_H (zt_g t L) L L n (zt_up E 0 L) l p b nt → post (nI L, f_patternLength, f_distinctFound, f_longestFound, nI (n), f_stateCount, f_rowCount, fun j => nI (t j), a_pattern, a_order, a_occurs, a_otherOrder, a_rank, a_pairRank, fun j => nI ((E) j), fun j => nI ((l) j), fun j => nI ((p) j), fun j => nI ((nt) j) - 1, fun j => nI ((b) j), a_waitingNodes, a_stateLength, a_stateLink, a_stateEnd, a_stateTails, a_stateBranch, a_lastColumn)) : ∀ (d k f n : Nat) (E l p b nt : Nat → Nat), k + d = L → d < f → zt_H (zt_g t L) L k n (zt_up E 0 L) l p b nt → wX_buildTree_15 post f (nI k) (nI L) f_patternLength f_distinctFound f_longestFound (nI (n)) f_stateCount f_rowCount (fun j => nI (t j)) a_pattern a_order a_occurs a_otherOrder a_rank a_pairRank (fun j => nI ((E) j)) (fun j => nI ((l) j)) (fun j => nI ((p) j)) (fun j => nI ((nt) j) - 1) (fun j => nI ((b) j)) a_waitingNodes a_stateLength a_stateLink a_stateEnd a_stateTails a_stateBranch a_lastColumn := by
  intro d
  induction d with
  | zero =>
    intro k f n E l p b nt hk hf H
    obtain ⟨f, rfl⟩ : ∃ m, f = m + 1 := ⟨f - 1, by omega⟩
    have e : k = L := by omega
    subst e
    exact br_t (nI_le (Nat.le_refl _) (by omega)) (h n E l p b nt H)
  | succ d ih =>
    intro k f n E l p b nt hk hf H
    obtain ⟨f, rfl⟩ : ∃ m, f = m + 1 := ⟨f - 1, by omega⟩
    exact br_f (nI_ge (by omega) (by omega)) (zt_x_ht hL (by omega) h4 H (fun n' E' l' p' b' nt' H' => nm_r (nI_1 k) (ih (k + 1) f n' E' l' p' b' nt' (by omega) (by omega) H')))
theorem zt_x_bt {post : SX → Prop} (hL : L ≤ 40) (h4 : ∀ i, t i < 4) (h : ∀ (n : Nat) (E l p b nt : Nat → Nat), zt_H (zt_g t L) L L n (zt_up E 0 L) l p b nt → post (nI L, f_patternLength, f_distinctFound, f_longestFound, nI (n), f_stateCount, f_rowCount, fun j => nI (t j), a_pattern, a_order, a_occurs, a_otherOrder, a_rank, a_pairRank, fun j => nI ((E) j), fun j => nI ((l) j), fun j => nI ((p) j), fun j => nI ((nt) j) - 1, fun j => nI ((b) j), a_waitingNodes, a_stateLength, a_stateLink, a_stateEnd, a_stateTails, a_stateBranch, a_lastColumn)) : wpX_buildTree post (nI L, f_patternLength, f_distinctFound, f_longestFound, f_nodeCount, f_stateCount, f_rowCount, fun j => nI (t j), a_pattern, a_order, a_occurs, a_otherOrder, a_rank, a_pairRank, a_nodePlace, a_nodeDepth, a_nodeParent, a_nodeTail, a_nodeBranch, a_waitingNodes, a_stateLength, a_stateLink, a_stateEnd, a_stateTails, a_stateBranch, a_lastColumn) := by
  obtain ⟨E, rfl⟩ := zt_arr a_nodePlace
  obtain ⟨l, rfl⟩ := zt_arr a_nodeDepth
  obtain ⟨p, rfl⟩ := zt_arr a_nodeParent
  obtain ⟨nt, rfl⟩ := zt_arrN a_nodeTail
  obtain ⟨b, rfl⟩ := zt_arr a_nodeBranch
  unfold wpX_buildTree
  refine zt_x_nn (n := 0) (q0 := 0) (q1 := 0) (q2 := 0) (by omega) ⟨L + 1, zt_x_bt15 hL h4 h L 0 _ 1 _ _ _ _ _ (by omega) (by omega) (zt_H_0 (zt_us _ _ _) (zt_us _ _ _) (fun c hc => zt_zb_n b 0 hc) (zt_us _ _ _))⟩
end
