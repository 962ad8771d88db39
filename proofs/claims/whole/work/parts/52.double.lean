/-! engine 1: ranks of doubled width; marks -/
theorem zt_b1 : vp_nar .boolean 1 = nI 1 := rfl
theorem zt_b0 : vp_nar .boolean 0 = nI 0 := rfl
def zt_mk1 (S : Nat → Prop) (L : Nat) (f : Nat → Nat) : Prop := ∀ i, i < L → (S i → f i = 1) ∧ (¬ S i → f i = 0)
theorem zt_mk1_0 {L : Nat} {f : Nat → Nat} (h : ∀ i, i < L → f i = 0) : zt_mk1 (fun _ => False) L f := fun i hi => ⟨fun x => x.elim, fun _ => h i hi⟩
theorem zt_mk1_1 {S S' : Nat → Prop} {L k : Nat} {f : Nat → Nat} (h : zt_mk1 S L f) (hS : ∀ i, i < L → (S' i ↔ S i ∨ i = k)) : zt_mk1 S' L (zt_up f k 1) := by
  intro i hi
  rw [hS i hi]
  by_cases c : i = k
  · subst c
    rw [zt_us]
    exact ⟨fun _ => rfl, fun x => absurd (Or.inr rfl) x⟩
  · rw [zt_un _ _ c]
    exact ⟨fun x => (h i hi).1 (x.elim id (fun y => absurd y c)), fun x => (h i hi).2 (fun y => x (Or.inl y))⟩
theorem zt_mk1_c {S S' : Nat → Prop} {L : Nat} {f : Nat → Nat} (h : zt_mk1 S L f) (hS : ∀ i, i < L → (S' i ↔ S i)) : zt_mk1 S' L f := fun i hi => by
  rw [hS i hi]; exact h i hi
theorem zt_tri3 (g pat : Nat → Nat) (m i : Nat) : zt_lo g pat m i ∨ zt_oc g pat m i ∨ zt_hi g pat m i := by
  by_cases e : ∃ s, s < m ∧ g (i + s) ≠ pat s + 1
  · obtain ⟨s, ⟨h1, h2⟩, h3⟩ := zt_least _ e
    have h4 : ∀ q, q < s → g (i + q) = pat q + 1 := fun q hq => Classical.byContradiction fun c => h3 q hq ⟨by omega, c⟩
    rcases Nat.lt_or_gt_of_ne h2 with a | a
    · exact Or.inl ⟨s, h1, h4, a⟩
    · exact Or.inr (Or.inr ⟨s, h1, h4, a⟩)
  · exact Or.inr (Or.inl fun q hq => Classical.byContradiction fun c => e ⟨q, hq, c⟩)
def zt_DI (g : Nat → Nat) (L w : Nat) (r : Nat → Nat) : Prop := zt_K g L w r ∧ (∀ i, i < L → r i < 40) ∧ (L < w → ∀ i, i < L → r i = zt_r g L i)
theorem zt_DI_1 {g : Nat → Nat} {L w : Nat} {r pr r' : Nat → Nat} (hz : zt_Z g L) (hL : L ≤ 40) (hw : 0 < w) (h : zt_DI g L w r) (hp : ∀ p, p < L → pr p = r p * 41 + zt_2 L w r p) (hr : ∀ p, p < L → r' p = zt_c (fun o => pr o < pr p) L) : zt_DI g L (w * 2) r' := by
  have k2 : zt_K g L (w * 2) pr := fun i j hi hj => by
    have := zt_K_2 hz hw h.1 h.2.1 i j hi hj
    rw [hp i hi, hp j hj]
    exact this
  refine ⟨fun i j hi hj => ?_, fun i hi => ?_, fun hLw i hi => ?_⟩
  · have := zt_K_r k2 i j hi hj
    rw [hr i hi, hr j hj]
    exact this
  · rw [hr i hi]
    have := zt_clt (p := fun o => pr o < pr i) (q := fun _ => True) L i (fun _ _ _ => trivial) hi (by omega) trivial
    have h2 : zt_c (fun _ => True) L = L := zt_call L (fun _ _ => trivial)
    omega
  · rw [hr i hi]
    exact zt_K_end hz hLw k2 hi
section
variable {f_length f_patternLength f_distinctFound f_longestFound f_nodeCount f_stateCount f_rowCount : Int32} {a_text a_pattern a_order a_occurs a_otherOrder a_rank a_pairRank a_nodePlace a_nodeDepth a_nodeParent a_nodeTail a_nodeBranch a_waitingNodes a_stateLength a_stateLink a_stateEnd a_stateTails a_stateBranch a_lastColumn : Nat → Int32}
variable {t pat : Nat → Nat} {L m : Nat}
theorem zt_x_pr2 {post : SX → Prop} {w : Nat} {r : Nat → Nat} (hL : L ≤ 40) (hw : w ≤ 40) (hr : ∀ i, i < L → r i < 40) (h : ∀ pr : Nat → Nat, (∀ p, p < L → pr p = r p * 41 + zt_2 L w r p) → post (nI L, f_patternLength, f_distinctFound, f_longestFound, f_nodeCount, f_stateCount, f_rowCount, a_text, a_pattern, a_order, a_occurs, a_otherOrder, fun j => nI (r j), fun j => nI (pr j), a_nodePlace, a_nodeDepth, a_nodeParent, a_nodeTail, a_nodeBranch, a_waitingNodes, a_stateLength, a_stateLink, a_stateEnd, a_stateTails, a_stateBranch, a_lastColumn)) : ∀ d p n (pr : Nat → Nat), p + d = L → d < n → (∀ q, q < p → pr q = r q * 41 + zt_2 L w r q) → wX_pairRanks_2 post (nI w) (nI L) f_patternLength f_distinctFound f_longestFound f_nodeCount f_stateCount f_rowCount n (nI p) a_text a_pattern a_order a_occurs a_otherOrder (fun j => nI (r j)) (fun j => nI (pr j)) a_nodePlace a_nodeDepth a_nodeParent a_nodeTail a_nodeBranch a_waitingNodes a_stateLength a_stateLink a_stateEnd a_stateTails a_stateBranch a_lastColumn := by
  intro d
  induction d with
  | zero =>
    intro p n pr hp hn hq
    obtain ⟨n, rfl⟩ : ∃ m, n = m + 1 := ⟨n - 1, by omega⟩
    exact br_t (nI_le (by omega) (by omega)) (h pr fun q hq' => hq q (by omega))
  | succ d ih =>
    intro p n pr hp hn hq
    obtain ⟨n, rfl⟩ : ∃ m, n = m + 1 := ⟨n - 1, by omega⟩
    have ep : (nI p).toNatClampNeg = p := pk_cl p
    have s34 : ∀ z, z = zt_2 L w r p → wX_pairRanks_34 post (wX_pairRanks_2 post (nI w) (nI L) f_patternLength f_distinctFound f_longestFound f_nodeCount f_stateCount f_rowCount n) (nI w) (nI p) (nI z) (nI L) f_patternLength f_distinctFound f_longestFound f_nodeCount f_stateCount f_rowCount a_text a_pattern a_order a_occurs a_otherOrder (fun j => nI (r j)) (fun j => nI (pr j)) a_nodePlace a_nodeDepth a_nodeParent a_nodeTail a_nodeBranch a_waitingNodes a_stateLength a_stateLink a_stateEnd a_stateTails a_stateBranch a_lastColumn := by
      intro z hz
      refine ⟨pk_in p 40 (by omega), pk_in p 40 (by omega), nm_r (zt_upE p (r p * 41 + z) ep ?_) (nm_r (nI_1 p) (ih (p + 1) n _ (by omega) (by omega) (fun q hq' => ?_)))⟩
      · simp only [ep]
        rw [show (41 : Int32) = nI 41 from rfl, pk_mul, nI_add]
      · by_cases c : q = p
        · subst c; rw [zt_us, hz]
        · rw [zt_un _ _ c]; exact hq q (by omega)
    refine br_f (nI_ge (by omega) (by omega)) (pk_le L (p + w) (fun c => s34 0 ?_) (fun c => ⟨pk_in (p + w) 40 (by omega) (nI_add p w), ?_⟩) rfl (nI_add p w))
    · unfold zt_2; rw [if_neg (by omega)]
    · simp only [pk_cl (p + w) (nI_add p w)]
      rw [nI_1]
      refine s34 (r (p + w) + 1) ?_
      unfold zt_2; rw [if_pos c]
theorem zt_x_pr {post : SX → Prop} {w : Nat} {r : Nat → Nat} (hL : L ≤ 40) (hw : w ≤ 40) (hr : ∀ i, i < L → r i < 40) (h : ∀ pr : Nat → Nat, (∀ p, p < L → pr p = r p * 41 + zt_2 L w r p) → post (nI L, f_patternLength, f_distinctFound, f_longestFound, f_nodeCount, f_stateCount, f_rowCount, a_text, a_pattern, a_order, a_occurs, a_otherOrder, fun j => nI (r j), fun j => nI (pr j), a_nodePlace, a_nodeDepth, a_nodeParent, a_nodeTail, a_nodeBranch, a_waitingNodes, a_stateLength, a_stateLink, a_stateEnd, a_stateTails, a_stateBranch, a_lastColumn)) : wpX_pairRanks post (nI L, f_patternLength, f_distinctFound, f_longestFound, f_nodeCount, f_stateCount, f_rowCount, a_text, a_pattern, a_order, a_occurs, a_otherOrder, fun j => nI (r j), a_pairRank, a_nodePlace, a_nodeDepth, a_nodeParent, a_nodeTail, a_nodeBranch, a_waitingNodes, a_stateLength, a_stateLink, a_stateEnd, a_stateTails, a_stateBranch, a_lastColumn) (nI w) := by
  obtain ⟨pr, rfl⟩ := zt_arr a_pairRank
  exact ⟨L + 1, zt_x_pr2 hL hw hr h L 0 _ pr (by omega) (by omega) (fun q hq => by omega)⟩
theorem zt_x_rk14 {post : SX → Prop} {J : _} {p : Nat} {r pr : Nat → Nat} (hL : L ≤ 40) (hp : p < L) (hb : ∀ i, i < L → pr i < 2 ^ 31) (h : J (nI (p + 1)) a_text a_pattern a_order a_occurs a_otherOrder (fun j => nI (zt_up r p (zt_c (fun o => pr o < pr p) L) j)) (fun j => nI (pr j)) a_nodePlace a_nodeDepth a_nodeParent a_nodeTail a_nodeBranch a_waitingNodes a_stateLength a_stateLink a_stateEnd a_stateTails a_stateBranch a_lastColumn) : ∀ d j n, j + d = L → d < n → wX_rankPairs_14 post J (nI p) (nI L) f_patternLength f_distinctFound f_longestFound f_nodeCount f_stateCount f_rowCount a_text a_pattern a_order a_occurs a_otherOrder (fun j => nI (r j)) (fun j => nI (pr j)) a_nodePlace a_nodeDepth a_nodeParent a_nodeTail a_nodeBranch a_waitingNodes a_stateLength a_stateLink a_stateEnd a_stateTails a_stateBranch a_lastColumn n (nI (zt_c (fun o => pr o < pr p) j)) (nI j) := by
  intro d
  induction d with
  | zero =>
    intro j n hj hn
    obtain ⟨n, rfl⟩ : ∃ m, n = m + 1 := ⟨n - 1, by omega⟩
    have e : j = L := by omega
    subst e
    exact br_t (nI_le (by omega) (by omega)) ⟨pk_in p 40 (by omega), nm_r (zt_upE p _ (pk_cl p) rfl) (nm_r (nI_1 p) h)⟩
  | succ d ih =>
    intro j n hj hn
    obtain ⟨n, rfl⟩ : ∃ m, n = m + 1 := ⟨n - 1, by omega⟩
    have nx := ih (j + 1) n (by omega) (by omega)
    have ep : (nI p).toNatClampNeg = p := pk_cl p
    have ej : (nI j).toNatClampNeg = j := pk_cl j
    refine br_f (nI_ge (by omega) (by omega)) ⟨pk_in j 40 (by omega), pk_in p 40 (by omega), zt_br (d := pr p ≤ pr j) ?_ (fun c => nm_r (nI_1 j) ?_) (fun c => nm_r (e' := nI (zt_c (fun o => pr o < pr p) (j + 1))) ?_ (nm_r (nI_1 j) nx))⟩
    · simp only [ep, ej]
      exact nI_leI (hb p hp) (hb j (by omega))
    · rw [zt_cf (p := fun o => pr o < pr p) (by omega)] at nx
      exact nx
    · rw [zt_ct (p := fun o => pr o < pr p) (by omega), nI_1]
theorem zt_x_rk2 {post : SX → Prop} {pr : Nat → Nat} (hL : L ≤ 40) (hb : ∀ i, i < L → pr i < 2 ^ 31) (h : ∀ r : Nat → Nat, (∀ p, p < L → r p = zt_c (fun o => pr o < pr p) L) → post (nI L, f_patternLength, f_distinctFound, f_longestFound, f_nodeCount, f_stateCount, f_rowCount, a_text, a_pattern, a_order, a_occurs, a_otherOrder, fun j => nI (r j), fun j => nI (pr j), a_nodePlace, a_nodeDepth, a_nodeParent, a_nodeTail, a_nodeBranch, a_waitingNodes, a_stateLength, a_stateLink, a_stateEnd, a_stateTails, a_stateBranch, a_lastColumn)) : ∀ d p n (r : Nat → Nat), p + d = L → d < n → (∀ q, q < p → r q = zt_c (fun o => pr o < pr q) L) → wX_rankPairs_2 post (nI L) f_patternLength f_distinctFound f_longestFound f_nodeCount f_stateCount f_rowCount n (nI p) a_text a_pattern a_order a_occurs a_otherOrder (fun j => nI (r j)) (fun j => nI (pr j)) a_nodePlace a_nodeDepth a_nodeParent a_nodeTail a_nodeBranch a_waitingNodes a_stateLength a_stateLink a_stateEnd a_stateTails a_stateBranch a_lastColumn := by
  intro d
  induction d with
  | zero =>
    intro p n r hp hn hq
    obtain ⟨n, rfl⟩ : ∃ m, n = m + 1 := ⟨n - 1, by omega⟩
    exact br_t (nI_le (by omega) (by omega)) (h r fun q hq' => hq q (by omega))
  | succ d ih =>
    intro p n r hp hn hq
    obtain ⟨n, rfl⟩ : ∃ m, n = m + 1 := ⟨n - 1, by omega⟩
    refine br_f (nI_ge (by omega) (by omega)) ⟨L + 1, zt_x_rk14 hL (by omega) hb (ih (p + 1) n _ (by omega) (by omega) (fun q hq' => ?_)) L 0 _ (by omega) (by omega)⟩
    by_cases c : q = p
    · subst c; rw [zt_us]
    · rw [zt_un _ _ c]; exact hq q (by omega)
theorem zt_x_rk {post : SX → Prop} {pr : Nat → Nat} (hL : L ≤ 40) (hb : ∀ i, i < L → pr i < 2 ^ 31) (h : ∀ r : Nat → Nat, (∀ p, p < L → r p = zt_c (fun o => pr o < pr p) L) → post (nI L, f_patternLength, f_distinctFound, f_longestFound, f_nodeCount, f_stateCount, f_rowCount, a_text, a_pattern, a_order, a_occurs, a_otherOrder, fun j => nI (r j), fun j => nI (pr j), a_nodePlace, a_nodeDepth, a_nodeParent, a_nodeTail, a_nodeBranch, a_waitingNodes, a_stateLength, a_stateLink, a_stateEnd, a_stateTails, a_stateBranch, a_lastColumn)) : wpX_rankPairs post (nI L, f_patternLength, f_distinctFound, f_longestFound, f_nodeCount, f_stateCount, f_rowCount, a_text, a_pattern, a_order, a_occurs, a_otherOrder, a_rank, fun j => nI (pr j), a_nodePlace, a_nodeDepth, a_nodeParent, a_nodeTail, a_nodeBranch, a_waitingNodes, a_stateLength, a_stateLink, a_stateEnd, a_stateTails, a_stateBranch, a_lastColumn) := by
  obtain ⟨r, rfl⟩ := zt_arr a_rank
  exact ⟨L + 1, zt_x_rk2 hL hb h L 0 _ r (by omega) (by omega) (fun q hq => by omega)⟩
theorem zt_x_sd56 {post : SX → Prop} {r : Nat → Nat} (hL : L ≤ 40) (hr : ∀ i, i < L → r i = zt_r (zt_g t L) L i) (h : ∀ o, zt_O (zt_g t L) L o → post (nI L, f_patternLength, f_distinctFound, f_longestFound, f_nodeCount, f_stateCount, f_rowCount, a_text, a_pattern, fun j => nI (o j), a_occurs, a_otherOrder, fun j => nI (r j), a_pairRank, a_nodePlace, a_nodeDepth, a_nodeParent, a_nodeTail, a_nodeBranch, a_waitingNodes, a_stateLength, a_stateLink, a_stateEnd, a_stateTails, a_stateBranch, a_lastColumn)) : ∀ d p n (o : Nat → Nat), p + d = L → d < n → (∀ q, q < p → o (r q) = q) → wX_sortByDoubling_56 post (nI L) f_patternLength f_distinctFound f_longestFound f_nodeCount f_stateCount f_rowCount n (nI p) a_text a_pattern (fun j => nI (o j)) a_occurs a_otherOrder (fun j => nI (r j)) a_pairRank a_nodePlace a_nodeDepth a_nodeParent a_nodeTail a_nodeBranch a_waitingNodes a_stateLength a_stateLink a_stateEnd a_stateTails a_stateBranch a_lastColumn := by
  have hz := zt_g_Z t L
  intro d
  induction d with
  | zero =>
    intro p n o hp hn hq
    obtain ⟨n, rfl⟩ : ∃ m, n = m + 1 := ⟨n - 1, by omega⟩
    refine br_t (nI_le (by omega) (by omega)) (h o (zt_O_of2 hz fun i hi => ?_))
    rw [← hr i hi]; exact hq i (by omega)
  | succ d ih =>
    intro p n o hp hn hq
    obtain ⟨n, rfl⟩ : ∃ m, n = m + 1 := ⟨n - 1, by omega⟩
    have ep : (nI p).toNatClampNeg = p := pk_cl p
    have b := zt_r_lt (g := zt_g t L) (n := L) (i := p) (by omega)
    rw [← hr p (by omega)] at b
    refine br_f (nI_ge (by omega) (by omega)) ⟨pk_in p 40 (by omega), ?_⟩
    simp only [ep]
    refine ⟨pk_in (r p) 40 (by omega), nm_r (zt_upE (r p) p (pk_cl (r p)) rfl) (nm_r (nI_1 p) (ih (p + 1) n _ (by omega) (by omega) (fun q hq' => ?_)))⟩
    by_cases c : q = p
    · subst c; rw [zt_us]
    · have ne : r q ≠ r p := fun e => c (zt_r_inj hz (by omega) (by omega) (by rw [← hr q (by omega), ← hr p (by omega)]; exact e))
      rw [zt_un _ _ ne]
      exact hq q (by omega)
theorem zt_x_sd30 {post : SX → Prop} (hL : L ≤ 40) (h : ∀ r pr o : Nat → Nat, (∀ i, i < L → r i = zt_r (zt_g t L) L i) → zt_O (zt_g t L) L o → post (nI L, f_patternLength, f_distinctFound, f_longestFound, f_nodeCount, f_stateCount, f_rowCount, a_text, a_pattern, fun j => nI (o j), a_occurs, a_otherOrder, fun j => nI (r j), fun j => nI (pr j), a_nodePlace, a_nodeDepth, a_nodeParent, a_nodeTail, a_nodeBranch, a_waitingNodes, a_stateLength, a_stateLink, a_stateEnd, a_stateTails, a_stateBranch, a_lastColumn)) : ∀ n w (r pr : Nat → Nat), L + 1 - w < n → 0 < w → w ≤ 80 → zt_DI (zt_g t L) L w r → wX_sortByDoubling_30 post n (nI w) (nI L) f_patternLength f_distinctFound f_longestFound f_nodeCount f_stateCount f_rowCount a_text a_pattern a_order a_occurs a_otherOrder (fun j => nI (r j)) (fun j => nI (pr j)) a_nodePlace a_nodeDepth a_nodeParent a_nodeTail a_nodeBranch a_waitingNodes a_stateLength a_stateLink a_stateEnd a_stateTails a_stateBranch a_lastColumn := by
  have hz := zt_g_Z t L
  intro n
  induction n with
  | zero => intro w r pr hn; omega
  | succ n ih =>
    intro w r pr hn w0 w80 hD
    refine pk_lt L w (fun c => ?_) (fun c => ?_)
    · obtain ⟨o, rfl⟩ := zt_arr a_order
      exact ⟨L + 1, zt_x_sd56 hL (hD.2.2 c) (fun o' hO => h r pr o' (hD.2.2 c) hO) L 0 _ o (by omega) (by omega) (fun q hq => by omega)⟩
    · refine zt_x_pr hL (by omega) hD.2.1 (fun pr' hp => zt_x_rk hL (fun i hi => ?_) (fun r' hr' => nm_r (e' := nI (w * 2)) ?_ (ih (w * 2) r' pr' (by omega) (by omega) (by omega) (zt_DI_1 hz hL w0 hD hp hr'))))
      · rw [hp i hi]
        have a := hD.2.1 i hi
        unfold zt_2
        split
        · have := hD.2.1 (i + w) (by assumption); omega
        · omega
      · rw [show (2 : Int32) = nI 2 from rfl, pk_mul]
theorem zt_x_sd2 {post : SX → Prop} (hL : L ≤ 40) (h4 : ∀ i, t i < 4) (h : ∀ r pr o : Nat → Nat, (∀ i, i < L → r i = zt_r (zt_g t L) L i) → zt_O (zt_g t L) L o → post (nI L, f_patternLength, f_distinctFound, f_longestFound, f_nodeCount, f_stateCount, f_rowCount, fun j => nI (t j), a_pattern, fun j => nI (o j), a_occurs, a_otherOrder, fun j => nI (r j), fun j => nI (pr j), a_nodePlace, a_nodeDepth, a_nodeParent, a_nodeTail, a_nodeBranch, a_waitingNodes, a_stateLength, a_stateLink, a_stateEnd, a_stateTails, a_stateBranch, a_lastColumn)) : ∀ d p n (r : Nat → Nat), p + d = L → d < n → (∀ q, q < p → r q = t q) → wX_sortByDoubling_2 post (nI L) f_patternLength f_distinctFound f_longestFound f_nodeCount f_stateCount f_rowCount n (nI p) (fun j => nI (t j)) a_pattern a_order a_occurs a_otherOrder (fun j => nI (r j)) a_pairRank a_nodePlace a_nodeDepth a_nodeParent a_nodeTail a_nodeBranch a_waitingNodes a_stateLength a_stateLink a_stateEnd a_stateTails a_stateBranch a_lastColumn := by
  intro d
  induction d with
  | zero =>
    intro p n r hp hn hq
    obtain ⟨n, rfl⟩ : ∃ m, n = m + 1 := ⟨n - 1, by omega⟩
    obtain ⟨pr, rfl⟩ := zt_arr a_pairRank
    refine br_t (nI_le (by omega) (by omega)) ⟨L + 1, zt_x_sd30 (t := t) hL h (L + 1) 1 r pr (by omega) (by omega) (by omega) ⟨zt_K_0 fun i hi => ?_, fun i hi => ?_, fun hc i hi => by omega⟩⟩
    · rw [hq i (by omega), zt_g_lt hi]
    · rw [hq i (by omega)]; have := h4 i; omega
  | succ d ih =>
    intro p n r hp hn hq
    obtain ⟨n, rfl⟩ : ∃ m, n = m + 1 := ⟨n - 1, by omega⟩
    have ep : (nI p).toNatClampNeg = p := pk_cl p
    refine br_f (nI_ge (by omega) (by omega)) ⟨pk_in p 40 (by omega), pk_in p 40 (by omega), nm_r (zt_upE p (t p) ep ?_) (nm_r (nI_1 p) (ih (p + 1) n _ (by omega) (by omega) (fun q hq' => ?_)))⟩
    · simp only [ep]
    · by_cases c : q = p
      · subst c; rw [zt_us]
      · rw [zt_un _ _ c]; exact hq q (by omega)
theorem zt_x_sd {post : SX → Prop} (hL : L ≤ 40) (h4 : ∀ i, t i < 4) (h : ∀ r pr o : Nat → Nat, (∀ i, i < L → r i = zt_r (zt_g t L) L i) → zt_O (zt_g t L) L o → post (nI L, f_patternLength, f_distinctFound, f_longestFound, f_nodeCount, f_stateCount, f_rowCount, fun j => nI (t j), a_pattern, fun j => nI (o j), a_occurs, a_otherOrder, fun j => nI (r j), fun j => nI (pr j), a_nodePlace, a_nodeDepth, a_nodeParent, a_nodeTail, a_nodeBranch, a_waitingNodes, a_stateLength, a_stateLink, a_stateEnd, a_stateTails, a_stateBranch, a_lastColumn)) : wpX_sortByDoubling post (nI L, f_patternLength, f_distinctFound, f_longestFound, f_nodeCount, f_stateCount, f_rowCount, fun j => nI (t j), a_pattern, a_order, a_occurs, a_otherOrder, a_rank, a_pairRank, a_nodePlace, a_nodeDepth, a_nodeParent, a_nodeTail, a_nodeBranch, a_waitingNodes, a_stateLength, a_stateLink, a_stateEnd, a_stateTails, a_stateBranch, a_lastColumn) := by
  obtain ⟨r, rfl⟩ := zt_arr a_rank
  exact ⟨L + 1, zt_x_sd2 hL h4 h L 0 _ r (by omega) (by omega) (fun q hq => by omega)⟩
end
