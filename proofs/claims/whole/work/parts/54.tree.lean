/-! engine 2: the tree -/
theorem zt_ix4 (v c : Nat) : (nI v * 4) + nI c = nI (v * 4 + c) := by
  rw [show (4 : Int32) = nI 4 from rfl, pk_mul, nI_add]
def zt_zc (b : Nat → Nat) (n c : Nat) : Nat → Nat := fun j => if j / 4 = n ∧ j % 4 < c then 0 else b j
theorem zt_zc_0 (b : Nat → Nat) (n : Nat) : zt_zc b n 0 = b := funext fun j => if_neg (by omega)
theorem zt_zc_4 (b : Nat → Nat) (n : Nat) : zt_zc b n 4 = zt_zb b n := funext fun j => by
  unfold zt_zc zt_zb
  by_cases c : j / 4 = n
  · rw [if_pos ⟨c, by omega⟩, if_pos c]
  · rw [if_neg (fun x => c x.1), if_neg c]
theorem zt_zc_1 (b : Nat → Nat) (n c : Nat) (hc : c < 4) : zt_up (zt_zc b n c) (n * 4 + c) 0 = zt_zc b n (c + 1) := funext fun j => by
  unfold zt_up zt_zc
  by_cases e : j = n * 4 + c
  · rw [if_pos e, if_pos (by omega)]
  · rw [if_neg e]
    by_cases f : j / 4 = n ∧ j % 4 < c
    · rw [if_pos f, if_pos (by omega)]
    · rw [if_neg f, if_neg (by omega)]
section
variable {f_length f_patternLength f_distinctFound f_longestFound f_nodeCount f_stateCount f_rowCount : Int32} {a_text a_pattern a_order a_occurs a_otherOrder a_rank a_pairRank a_nodePlace a_nodeDepth a_nodeParent a_nodeTail a_nodeBranch a_waitingNodes a_stateLength a_stateLink a_stateEnd a_stateTails a_stateBranch a_lastColumn : Nat → Int32}
variable {t pat : Nat → Nat} {L m : Nat}
theorem zt_x_nn51 {post : Int32 → SX → Prop} {n : Nat} {b : Nat → Nat} (hn : n < 81) (h : post (nI n) (f_length, f_patternLength, f_distinctFound, f_longestFound, f_nodeCount, f_stateCount, f_rowCount, a_text, a_pattern, a_order, a_occurs, a_otherOrder, a_rank, a_pairRank, a_nodePlace, a_nodeDepth, a_nodeParent, a_nodeTail, fun j => nI (zt_zb b n j), a_waitingNodes, a_stateLength, a_stateLink, a_stateEnd, a_stateTails, a_stateBranch, a_lastColumn)) : ∀ d c f, c + d = 4 → d < f → wX_newNode_51 post (nI n) f_length f_patternLength f_distinctFound f_longestFound f_nodeCount f_stateCount f_rowCount f (nI c) a_text a_pattern a_order a_occurs a_otherOrder a_rank a_pairRank a_nodePlace a_nodeDepth a_nodeParent a_nodeTail (fun j => nI (zt_zc b n c j)) a_waitingNodes a_stateLength a_stateLink a_stateEnd a_stateTails a_stateBranch a_lastColumn := by
  intro d
  induction d with
  | zero =>
    intro c f hc hf
    obtain ⟨f, rfl⟩ : ∃ m, f = m + 1 := ⟨f - 1, by omega⟩
    have e : c = 4 := by omega
    subst e
    rw [zt_zc_4]
    exact br_t (nI_le (a := 4) (b := 4) (Nat.le_refl _) (by decide)) h
  | succ d ih =>
    intro c f hc hf
    obtain ⟨f, rfl⟩ : ∃ m, f = m + 1 := ⟨f - 1, by omega⟩
    have nx := ih (c + 1) f (by omega) (by omega)
    rw [← zt_zc_1 b n c (by omega)] at nx
    exact br_f (nI_ge (b := 4) (by omega) (by decide)) ⟨pk_in (n * 4 + c) 324 (by omega) (zt_ix4 n c), nm_r (zt_upE (n * 4 + c) 0 (pk_cl _ (zt_ix4 n c)) rfl) (nm_r (nI_1 c) nx)⟩
theorem zt_x_nn {post : Int32 → SX → Prop} {n q0 q1 q2 : Nat} {E l p nt b : Nat → Nat} (hn : n < 81) (h : post (nI n) (f_length, f_patternLength, f_distinctFound, f_longestFound, nI (n + 1), f_stateCount, f_rowCount, a_text, a_pattern, a_order, a_occurs, a_otherOrder, a_rank, a_pairRank, fun j => nI ((zt_up E n q1) j), fun j => nI ((zt_up l n q2) j), fun j => nI ((zt_up p n q0) j), fun j => nI ((zt_up nt n 0) j) - 1, fun j => nI ((zt_zb b n) j), a_waitingNodes, a_stateLength, a_stateLink, a_stateEnd, a_stateTails, a_stateBranch, a_lastColumn)) : wpX_newNode post (f_length, f_patternLength, f_distinctFound, f_longestFound, nI (n), f_stateCount, f_rowCount, a_text, a_pattern, a_order, a_occurs, a_otherOrder, a_rank, a_pairRank, fun j => nI ((E) j), fun j => nI ((l) j), fun j => nI ((p) j), fun j => nI ((nt) j) - 1, fun j => nI ((b) j), a_waitingNodes, a_stateLength, a_stateLink, a_stateEnd, a_stateTails, a_stateBranch, a_lastColumn) (nI q0) (nI q1) (nI q2) := by
  have en : (nI n).toNatClampNeg = n := pk_cl n
  have vn : vp_in (nI n) 81 := pk_in n 81 hn
  refine nm_r (nI_1 n) ⟨vn, nm_r (zt_upE n q0 en rfl) ⟨vn, nm_r (zt_upE n q1 en rfl) ⟨vn, nm_r (zt_upE n q2 en rfl) ⟨vn, nm_r (zt_upM n 0 en zt_Im1) ⟨5, ?_⟩⟩⟩⟩⟩
  have a := zt_x_nn51 (b := b) hn h 4 0 5 (by omega) (by omega)
  rw [zt_zc_0] at a
  exact a
theorem zt_x_se {post : Int32 → SX → Prop} {n x ix s : Nat} {E l p nt b : Nat → Nat} (hn : n < 81) (hx : x < n) (hix : ix < 324) (hs : E x + s < 40) (h4 : ∀ i, t i < 4) (h : post (nI n) (nI L, f_patternLength, f_distinctFound, f_longestFound, nI (n + 1), f_stateCount, f_rowCount, fun j => nI (t j), a_pattern, a_order, a_occurs, a_otherOrder, a_rank, a_pairRank, fun j => nI ((zt_up E n (E x)) j), fun j => nI ((zt_up l n s) j), fun j => nI ((zt_up (zt_up p n (p x)) x n) j), fun j => nI ((zt_up nt n 0) j) - 1, fun j => nI ((zt_up (zt_up (zt_zb b n) ix n) (n * 4 + t (E x + s)) x) j), a_waitingNodes, a_stateLength, a_stateLink, a_stateEnd, a_stateTails, a_stateBranch, a_lastColumn)) : wpX_splitEdge post (nI L, f_patternLength, f_distinctFound, f_longestFound, nI (n), f_stateCount, f_rowCount, fun j => nI (t j), a_pattern, a_order, a_occurs, a_otherOrder, a_rank, a_pairRank, fun j => nI ((E) j), fun j => nI ((l) j), fun j => nI ((p) j), fun j => nI ((nt) j) - 1, fun j => nI ((b) j), a_waitingNodes, a_stateLength, a_stateLink, a_stateEnd, a_stateTails, a_stateBranch, a_lastColumn) (nI x) (nI ix) (nI s) := by
  have ex : (nI x).toNatClampNeg = x := pk_cl x
  have ei : (nI ix).toNatClampNeg = ix := pk_cl ix
  have vx : vp_in (nI x) 81 := pk_in x 81 (by omega)
  have a := h4 (E x + s)
  refine ⟨vx, vx, ?_⟩
  simp only [ex]
  refine zt_x_nn hn ?_
  have eE : zt_up E n (E x) x = E x := zt_un _ _ (by omega)
  refine ⟨vx, ?_⟩
  simp only [ex, eE]
  have es : (nI (E x) + nI s).toNatClampNeg = E x + s := pk_cl _ (nI_add _ _)
  refine ⟨pk_in (E x + s) 40 hs (nI_add _ _), nm_r (e' := nI (t (E x + s))) (by simp only [es]) ⟨pk_in ix 324 hix, nm_r (zt_upE ix n ei rfl) ⟨pk_in (n * 4 + t (E x + s)) 324 (by omega) (zt_ix4 _ _), nm_r (zt_upE (n * 4 + t (E x + s)) x (pk_cl _ (zt_ix4 _ _)) rfl) ⟨vx, nm_r (zt_upI _ x n) h⟩⟩⟩⟩
end
