/-! engine 2: the pattern in the tree -/
section
variable {f_length f_patternLength f_distinctFound f_longestFound f_nodeCount f_stateCount f_rowCount : Int32} {a_text a_pattern a_order a_occurs a_otherOrder a_rank a_pairRank a_nodePlace a_nodeDepth a_nodeParent a_nodeTail a_nodeBranch a_waitingNodes a_stateLength a_stateLink a_stateEnd a_stateTails a_stateBranch a_lastColumn : Nat → Int32}
variable {t pat : Nat → Nat} {L m n : Nat} {E l p nt b : Nat → Nat}
theorem zt_x_np59 {post : Int32 → Prop} {J : _} {x st l' : Nat} (hL : L ≤ 40) (hm : m ≤ 10) (h4 : ∀ i, t i < 4) (p4 : ∀ i, pat i < 4) (hx : x < 81) (hl : E x + l x ≤ L) (h1 : (∀ q, q < l x → q < m → l' ≤ q → zt_g t L (E x + q) = pat q + 1) → J (nI x) (nI (st + 1))) (h0 : ∀ q, q < l x → q < m → zt_g t L (E x + q) ≠ pat q + 1 → post (-1)) : ∀ d i f, i + d = m → d < f → l' ≤ i → (∀ q, l' ≤ q → q < i → q < l x → zt_g t L (E x + q) = pat q + 1) → wX_nodeOfPattern_59 post J (nI st) (nI x) (nI L) (nI m) f_distinctFound f_longestFound (nI (n)) f_stateCount f_rowCount (fun j => nI (t j)) (fun j => nI (pat j)) a_order a_occurs a_otherOrder a_rank a_pairRank (fun j => nI ((E) j)) (fun j => nI ((l) j)) (fun j => nI ((p) j)) (fun j => nI ((nt) j) - 1) (fun j => nI ((b) j)) a_waitingNodes a_stateLength a_stateLink a_stateEnd a_stateTails a_stateBranch a_lastColumn f (nI i) := by
  intro d
  induction d with
  | zero =>
    intro i f hi hf hli hq
    obtain ⟨f, rfl⟩ : ∃ m, f = m + 1 := ⟨f - 1, by omega⟩
    have ex : (nI x).toNatClampNeg = x := pk_cl x
    have fin := h1 (fun q h5 h6 h7 => hq q h7 (by omega) h5)
    refine ⟨pk_in x 81 hx, ?_⟩
    simp only [ex]
    exact pk_le (l x) i (fun _ => nm_r (nI_1 st) fin) (fun _ => br_t (nI_le (by omega) (by omega)) (nm_r (nI_1 st) fin))
  | succ d ih =>
    intro i f hi hf hli hq
    obtain ⟨f, rfl⟩ : ∃ m, f = m + 1 := ⟨f - 1, by omega⟩
    have ex : (nI x).toNatClampNeg = x := pk_cl x
    have ei : (nI i).toNatClampNeg = i := pk_cl i
    refine ⟨pk_in x 81 hx, ?_⟩
    simp only [ex, ei]
    refine pk_le (l x) i (fun c => nm_r (nI_1 st) (h1 (fun q h5 h6 h7 => hq q h7 (by omega) h5))) (fun c => br_f (nI_ge (by omega) (by omega)) ⟨pk_in x 81 hx, pk_in (E x + i) 40 (by omega) (nI_add _ _), pk_in i 10 (by omega), zt_br (d := t (E x + i) = pat i) ?_ (fun e => nm_r (nI_1 i) (ih (i + 1) f (by omega) (by omega) (by omega) (fun q h5 h6 h7 => ?_))) (fun e => h0 i (by omega) (by omega) ?_)⟩)
    · simp only [pk_cl (E x + i) (nI_add _ _)]
      exact zt_eqI (h4 _) (p4 _)
    · by_cases z : q = i
      · subst z; rw [zt_g_lt (by omega), e]
      · exact hq q h5 (by omega) h7
    · rw [zt_g_lt (by omega)]; omega
theorem zt_x_np4 {post : Int32 → Prop} (hL : L ≤ 40) (hm : m ≤ 10) (m0 : 0 < m) (h4 : ∀ i, t i < 4) (p4 : ∀ i, pat i < 4) (H : zt_H (zt_g t L) L L n (zt_up E 0 L) l p b nt) (h1 : ∀ v, v < n → (∀ i, i ≤ L → (zt_oc (zt_g t L) pat m i ↔ zt_A (zt_g t L) L (zt_up E 0 L) l v i)) → post (nI v)) (h0 : (∀ i, i ≤ L → ¬ zt_oc (zt_g t L) pat m i) → post (-1)) : ∀ f v st, m - st < f → st ≤ l v → zt_np (zt_g t L) pat m n (zt_up E 0 L) l p v → wX_nodeOfPattern_4 post (nI L) (nI m) f_distinctFound f_longestFound (nI (n)) f_stateCount f_rowCount (fun j => nI (t j)) (fun j => nI (pat j)) a_order a_occurs a_otherOrder a_rank a_pairRank (fun j => nI ((E) j)) (fun j => nI ((l) j)) (fun j => nI ((p) j)) (fun j => nI ((nt) j) - 1) (fun j => nI ((b) j)) a_waitingNodes a_stateLength a_stateLink a_stateEnd a_stateTails a_stateBranch a_lastColumn f (nI v) (nI st) := by
  have hz := zt_g_Z t L
  have n81 : n ≤ 81 := by have := H.2; omega
  intro f
  induction f with
  | zero => intro v st hf; omega
  | succ f ih =>
    intro v st hf hst hv
    have ev : (nI v).toNatClampNeg = v := pk_cl v (h := by have := hv.1; omega)
    have vv : vp_in (nI v) 81 := pk_in v 81 (by have := hv.1; omega)
    have hA := H.1.1.2.1 v hv.1
    have vL := zt_P_L (Nat.le_refl _) hA.1
    have lv := hA.2.1
    rw [zt_N_s vL] at lv
    have fin : m ≤ l v → post (nI v) := fun c => h1 v hv.1 (zt_np_end hz H hv m0 c)
    refine pk_le m st (fun c => fin (by omega)) (fun c => ⟨vv, ?_⟩) rfl rfl (by omega) (by omega)
    simp only [ev]
    refine pk_le m (l v) fin (fun c2 => ⟨vv, nm_e ⟨pk_in (l v) 10 (by omega), ?_⟩⟩)
    have el : (nI (l v)).toNatClampNeg = l v := pk_cl _
    have pc := p4 (l v)
    simp only [el]
    have ei : (nI v * 4 + nI (pat (l v))).toNatClampNeg = v * 4 + pat (l v) := pk_cl _ (zt_ix4 _ _) (by have := hv.1; omega)
    refine ⟨pk_in (v * 4 + pat (l v)) 324 (by have := hv.1; omega) (zt_ix4 _ _), nm_r (e' := nI (b (v * 4 + pat (l v)))) (by simp only [ei]) ?_⟩
    by_cases e : b (v * 4 + pat (l v)) = 0
    · rw [e]
      exact br_t rfl (h0 (zt_np_no hz H hv c2 e))
    · obtain ⟨u1, u2, u3⟩ := H.1.2.1.1 v _ hv.1 (p4 _) e
      have hu := H.1.1.2.1 _ u1
      have uL := zt_P_L (Nat.le_refl _) hu.1
      have lu := hu.2.1
      rw [zt_N_s uL] at lu
      have eE : zt_up E 0 L (b (v * 4 + pat (l v))) = E (b (v * 4 + pat (l v))) := zt_un _ _ e
      have mis := fun q h5 h6 h7 => zt_np_mis (q := q) hz p4 H hv c2 e h5 h6 h7
      have one := zt_np_1 p4 H hv c2 e
      rw [eE] at uL lu mis one
      refine br_f (nI_ne0 (by omega) (by have : b (v * 4 + pat (l v)) < n := u1; omega)) ⟨m + 1, zt_x_np59 (l' := l v) hL hm h4 p4 (by have : b (v * 4 + pat (l v)) < n := u1; omega) (by omega) (fun hq => ?_) (fun q h5 h6 h7 => h0 (mis q h5 h6 h7)) (m - l v) (l v) _ (by omega) (by omega) (Nat.le_refl _) (fun q h5 h6 => by omega)⟩
      have o := one (fun q h5 h6 h7 => hq q h6 h7 h5)
      exact ih _ (st + 1) (by omega) (by have := o.2; omega) o.1
theorem zt_x_np {post : Int32 → Prop} (hL : L ≤ 40) (hm : m ≤ 10) (m0 : 0 < m) (h4 : ∀ i, t i < 4) (p4 : ∀ i, pat i < 4) (H : zt_H (zt_g t L) L L n (zt_up E 0 L) l p b nt) (h1 : ∀ v, v < n → (∀ i, i ≤ L → (zt_oc (zt_g t L) pat m i ↔ zt_A (zt_g t L) L (zt_up E 0 L) l v i)) → post (nI v)) (h0 : (∀ i, i ≤ L → ¬ zt_oc (zt_g t L) pat m i) → post (-1)) : wpX_nodeOfPattern post (nI L, nI m, f_distinctFound, f_longestFound, nI (n), f_stateCount, f_rowCount, fun j => nI (t j), fun j => nI (pat j), a_order, a_occurs, a_otherOrder, a_rank, a_pairRank, fun j => nI ((E) j), fun j => nI ((l) j), fun j => nI ((p) j), fun j => nI ((nt) j) - 1, fun j => nI ((b) j), a_waitingNodes, a_stateLength, a_stateLink, a_stateEnd, a_stateTails, a_stateBranch, a_lastColumn) := by
  have l0 := H.1.1.1.2
  exact ⟨m + 1, zt_x_np4 hL hm m0 h4 p4 H h1 h0 (m + 1) 0 0 (by omega) (Nat.zero_le _) ⟨H.1.1.1.1, fun q hq => by omega, Or.inl rfl⟩⟩
theorem zt_x_mt19 {post : SX → Prop} {o : Nat → Nat} {k1 : Nat} (hL : L ≤ 40) (hk : k1 ≤ L) (hO : ∀ a, a < k1 → o a < L) {S : Nat → Prop} (hS : ∀ i, i < L → (S i ↔ ∃ a, a < k1 ∧ o a = i)) (h : ∀ f : Nat → Nat, zt_mk1 S L f → post (f_length, f_patternLength, f_distinctFound, f_longestFound, f_nodeCount, f_stateCount, f_rowCount, a_text, a_pattern, fun j => nI (o j), fun j => nI (f j), a_otherOrder, a_rank, a_pairRank, a_nodePlace, a_nodeDepth, a_nodeParent, a_nodeTail, a_nodeBranch, a_waitingNodes, a_stateLength, a_stateLink, a_stateEnd, a_stateTails, a_stateBranch, a_lastColumn)) : ∀ d p n (f : Nat → Nat), p + d = k1 → d < n → zt_mk1 (fun i => ∃ a, a < p ∧ o a = i) L f → wX_markByTree_19 post (nI k1) f_length f_patternLength f_distinctFound f_longestFound f_nodeCount f_stateCount f_rowCount n (nI p) a_text a_pattern (fun j => nI (o j)) (fun j => nI (f j)) a_otherOrder a_rank a_pairRank a_nodePlace a_nodeDepth a_nodeParent a_nodeTail a_nodeBranch a_waitingNodes a_stateLength a_stateLink a_stateEnd a_stateTails a_stateBranch a_lastColumn := by
  intro d
  induction d with
  | zero =>
    intro p n f hp hn hf
    obtain ⟨n, rfl⟩ : ∃ m, n = m + 1 := ⟨n - 1, by omega⟩
    have e : p = k1 := by omega
    subst e
    exact br_t (nI_le (Nat.le_refl _) (by omega)) (h f (zt_mk1_c hf hS))
  | succ d ih =>
    intro p n f hp hn hf
    obtain ⟨n, rfl⟩ : ∃ m, n = m + 1 := ⟨n - 1, by omega⟩
    have ep : (nI p).toNatClampNeg = p := pk_cl p
    have b := hO p (by omega)
    refine br_f (nI_ge (by omega) (by omega)) ⟨pk_in p 40 (by omega), ?_⟩
    simp only [ep]
    refine ⟨pk_in (o p) 40 (by omega), nm_r (zt_upE (o p) 1 (pk_cl (o p)) zt_b1) (nm_r (nI_1 p) (ih (p + 1) n _ (by omega) (by omega) (zt_mk1_1 hf (fun i hi => ?_))))⟩
    constructor
    · rintro ⟨a, a2, a3⟩
      by_cases z : a = p
      · subst z; exact Or.inr a3.symm
      · exact Or.inl ⟨a, by omega, a3⟩
    · rintro (⟨a, a2, a3⟩ | z)
      · exact ⟨a, by omega, a3⟩
      · exact ⟨p, by omega, z.symm⟩
theorem zt_x_mbt {post : SX → Prop} {f : Nat → Nat} (hL : L ≤ 40) (hm : m ≤ 10) (m0 : 0 < m) (h4 : ∀ i, t i < 4) (p4 : ∀ i, pat i < 4) (H : zt_H (zt_g t L) L L n (zt_up E 0 L) l p b nt) (hf : ∀ i, i < L → f i = 0) (h : ∀ (st o f : Nat → Nat), zt_mk1 (zt_oc (zt_g t L) pat m) L f → post (nI L, nI m, f_distinctFound, f_longestFound, nI (n), f_stateCount, f_rowCount, fun j => nI (t j), fun j => nI (pat j), fun j => nI (o j), fun j => nI (f j), a_otherOrder, a_rank, a_pairRank, fun j => nI ((E) j), fun j => nI ((l) j), fun j => nI ((p) j), fun j => nI ((nt) j) - 1, fun j => nI ((b) j), fun j => nI (st j), a_stateLength, a_stateLink, a_stateEnd, a_stateTails, a_stateBranch, a_lastColumn)) : wpX_markByTree post (nI L, nI m, f_distinctFound, f_longestFound, nI (n), f_stateCount, f_rowCount, fun j => nI (t j), fun j => nI (pat j), a_order, fun j => nI (f j), a_otherOrder, a_rank, a_pairRank, fun j => nI ((E) j), fun j => nI ((l) j), fun j => nI ((p) j), fun j => nI ((nt) j) - 1, fun j => nI ((b) j), a_waitingNodes, a_stateLength, a_stateLink, a_stateEnd, a_stateTails, a_stateBranch, a_lastColumn) := by
  have n81 : n ≤ 81 := by have := H.2; omega
  unfold wpX_markByTree
  refine zt_x_np hL hm m0 h4 p4 H (fun v hv hA => br_f (zt_ne1 (by omega)) (zt_x_lu hL h4 H hv (fun st o hl => ?_))) (fun no => br_t rfl ?_)
  · have cl := zt_cA_L (g := zt_g t L) (L := L) (E := zt_up E 0 L) (l := l) v
    exact ⟨L + 1, zt_x_mt19 hL cl (fun a ha => (hl a ha).1) (S := zt_oc (zt_g t L) pat m) (fun i hi => (hA i (by omega)).trans (zt_ls_A (zt_g_Z t L) H hv hl hi)) (h st o) (zt_cA (zt_g t L) L (zt_up E 0 L) l v) 0 _ f (by omega) (by omega) (zt_mk1_c (zt_mk1_0 hf) (fun i hi => ⟨fun ⟨a, a2, _⟩ => by omega, fun x => x.elim⟩))⟩
  · obtain ⟨st, rfl⟩ := zt_arr a_waitingNodes
    obtain ⟨o, rfl⟩ := zt_arr a_order
    exact h st o f (zt_mk1_c (zt_mk1_0 hf) (fun i hi => ⟨fun x => no i (by omega) x, fun x => x.elim⟩))
end
