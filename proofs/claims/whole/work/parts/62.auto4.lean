/-! engine 3: measures, the pattern -/
section
variable {f_length f_patternLength f_distinctFound f_longestFound f_nodeCount f_stateCount f_rowCount : Int32} {a_text a_pattern a_order a_occurs a_otherOrder a_rank a_pairRank a_nodePlace a_nodeDepth a_nodeParent a_nodeTail a_nodeBranch a_waitingNodes a_stateLength a_stateLink a_stateEnd a_stateTails a_stateBranch a_lastColumn : Nat → Int32}
variable {t pat : Nat → Nat} {L m n : Nat} {E l lk en tl b : Nat → Nat} {la : Nat}
theorem zt_x_ma2 {post : SX → Prop} (hL : L ≤ 40) (M : zt_M t L L n E l (fun v => lk v - 1) b en la) (lp : ∀ v, 0 < v → v < n → 0 < lk v) (ht : ∀ u, u < n → tl u = zt_tl t L E l u) (h : post (nI L, f_patternLength, nI (zt_s (fun v => l v - l (lk v - 1)) n), nI (zt_m (fun v => if v ≠ 0 ∧ 2 ≤ tl v then l v else 0) n), f_nodeCount, nI (n), f_rowCount, fun j => nI (t j), a_pattern, a_order, a_occurs, a_otherOrder, a_rank, a_pairRank, a_nodePlace, a_nodeDepth, a_nodeParent, a_nodeTail, a_nodeBranch, a_waitingNodes, fun j => nI ((l) j), fun j => nI ((lk) j) - 1, fun j => nI ((en) j) - 1, fun j => nI ((tl) j), fun j => nI ((b) j), a_lastColumn)) : ∀ d v f, v + d = n → d < f → 0 < v → wX_measureAutomaton_2 post f (nI v) (nI L) f_patternLength (nI (zt_s (fun v => l v - l (lk v - 1)) v)) (nI (zt_m (fun v => if v ≠ 0 ∧ 2 ≤ tl v then l v else 0) v)) f_nodeCount (nI (n)) f_rowCount (fun j => nI (t j)) a_pattern a_order a_occurs a_otherOrder a_rank a_pairRank a_nodePlace a_nodeDepth a_nodeParent a_nodeTail a_nodeBranch a_waitingNodes (fun j => nI ((l) j)) (fun j => nI ((lk) j) - 1) (fun j => nI ((en) j) - 1) (fun j => nI ((tl) j)) (fun j => nI ((b) j)) a_lastColumn := by
  obtain ⟨n1, n2⟩ := M.2.2.2.2.2
  have lb : ∀ v, v < n → l v ≤ L := fun v hv => by
    have a := M.1.2.1 v hv
    have a1 : E v ≤ L := a.1
    have c := a.2.1
    rw [zt_V_s a1] at c
    omega
  have tb : ∀ u, u < n → tl u ≤ L := fun u hu => by rw [ht u hu]; exact zt_cn _ _
  intro d
  induction d with
  | zero =>
    intro v f hv hf v0
    obtain ⟨f, rfl⟩ : ∃ m, f = m + 1 := ⟨f - 1, by omega⟩
    have e : v = n := by omega
    subst e
    exact br_t (nI_le (Nat.le_refl _) (by omega)) h
  | succ d ih =>
    intro v f hv hf v0
    obtain ⟨f, rfl⟩ : ∃ m, f = m + 1 := ⟨f - 1, by omega⟩
    have nx := ih (v + 1) f (by omega) (by omega) (by omega)
    have cv := M.1.2.2.2.2 v v0 (by omega : v < n)
    have pn : lk v - 1 < n := cv.1
    have pl : l (lk v - 1) < l v := cv.2.1
    have lpv := lp v v0 (by omega)
    have b1 := lb v (by omega)
    have b4 := tb v (by omega)
    have b3 : zt_m (fun v => if v ≠ 0 ∧ 2 ≤ tl v then l v else 0) v ≤ L := zt_m_le fun i hi => by
      split
      · exact lb _ (by omega)
      · omega
    rw [zt_s1, zt_m1] at nx
    have ev : (nI v).toNatClampNeg = v := pk_cl v
    have elk : nI (lk v) - 1 = nI (lk v - 1) := pk_sub (b := 1) lpv
    have ep : (nI (lk v - 1)).toNatClampNeg = lk v - 1 := pk_cl _
    have vv : vp_in (nI v) 81 := pk_in v 81 (by omega)
    refine br_f (nI_ge (by omega) (by omega)) ⟨vv, vv, ?_⟩
    simp only [ev, elk]
    refine ⟨pk_in (lk v - 1) 81 (by omega), nm_r (e' := nI (zt_s (fun v => l v - l (lk v - 1)) v + (l v - l (lk v - 1)))) ?_ ⟨vv, ?_⟩⟩
    · simp only [ep]
      rw [pk_sub (by omega), nI_add]
    · refine pk_lt (tl v) 2 (fun c => nm_r (nI_1 v) ?_) (fun c => ⟨vv, zt_x_nl (by omega) (by omega) (nm_r (nI_1 v) ?_)⟩)
      · simp only [if_neg (show ¬ (v ≠ 0 ∧ 2 ≤ tl v) by omega)] at nx
        rw [if_neg (by omega)] at nx
        exact nx
      · simp only [if_pos (show v ≠ 0 ∧ 2 ≤ tl v from ⟨by omega, by omega⟩)] at nx
        exact nx
theorem zt_x_ma {post : SX → Prop} (hL : L ≤ 40) (M : zt_M t L L n E l (fun v => lk v - 1) b en la) (lp : ∀ v, 0 < v → v < n → 0 < lk v) (ht : ∀ u, u < n → tl u = zt_tl t L E l u) (h : ∀ G, zt_G (zt_g t L) L G → post (nI L, f_patternLength, nI (zt_D (zt_g t L) L (fun i => i)), nI G, f_nodeCount, nI (n), f_rowCount, fun j => nI (t j), a_pattern, a_order, a_occurs, a_otherOrder, a_rank, a_pairRank, a_nodePlace, a_nodeDepth, a_nodeParent, a_nodeTail, a_nodeBranch, a_waitingNodes, fun j => nI ((l) j), fun j => nI ((lk) j) - 1, fun j => nI ((en) j) - 1, fun j => nI ((tl) j), fun j => nI ((b) j), a_lastColumn)) : wpX_measureAutomaton post (nI L, f_patternLength, 0, 0, f_nodeCount, nI (n), f_rowCount, fun j => nI (t j), a_pattern, a_order, a_occurs, a_otherOrder, a_rank, a_pairRank, a_nodePlace, a_nodeDepth, a_nodeParent, a_nodeTail, a_nodeBranch, a_waitingNodes, fun j => nI ((l) j), fun j => nI ((lk) j) - 1, fun j => nI ((en) j) - 1, fun j => nI ((tl) j), fun j => nI ((b) j), a_lastColumn) := by
  obtain ⟨n1, n2⟩ := M.2.2.2.2.2
  have hg : ∀ i, i < L → zt_g t L i = t i + 1 := fun i hi => zt_g_lt hi
  have e1 : zt_s (fun v => l v - l (lk v - 1)) 1 = 0 := by
    rw [zt_s1, zt_s0, M.1.1.2]; omega
  have e2 : zt_m (fun v => if v ≠ 0 ∧ 2 ≤ tl v then l v else 0) 1 = 0 := rfl
  have e3 : zt_s (fun v => l v - l (lk v - 1)) n = zt_D (zt_g t L) L (fun i => i) := M.2.2.2.1.trans (zt_sv_D hg)
  have a : wX_measureAutomaton_2 post (n - 1 + 1) (nI 1) (nI L) f_patternLength (nI (zt_s (fun v => l v - l (lk v - 1)) 1)) (nI (zt_m (fun v => if v ≠ 0 ∧ 2 ≤ tl v then l v else 0) 1)) f_nodeCount (nI (n)) f_rowCount (fun j => nI (t j)) a_pattern a_order a_occurs a_otherOrder a_rank a_pairRank a_nodePlace a_nodeDepth a_nodeParent a_nodeTail a_nodeBranch a_waitingNodes (fun j => nI ((l) j)) (fun j => nI ((lk) j) - 1) (fun j => nI ((en) j) - 1) (fun j => nI ((tl) j)) (fun j => nI ((b) j)) a_lastColumn := zt_x_ma2 hL M lp ht (by rw [e3]; exact h _ (zt_M_m hg M ht)) (n - 1) 1 _ (by omega) (by omega) (by omega)
  rw [e1, e2] at a
  exact ⟨_, a⟩
theorem zt_x_ll5 {post : Int32 → Prop} {e goal : Nat} (hL : L ≤ 40) (M : zt_M t L L n E l (fun v => lk v - 1) b en la) (l0 : lk 0 = 0) (lp : ∀ v, 0 < v → v < n → 0 < lk v) (he : e ≤ L) (hg : goal < n) (h1 : zt_On t L e E l goal → post 1) (h0 : ¬ zt_On t L e E l goal → post 0) : ∀ f i s (x : Int32), n - i < f → i ≤ n → s ≤ 81 → x = nI s - 1 → zt_J4 t L e n E l goal i s → wX_linksLeadTo_5 post (nI goal) f_length f_patternLength f_distinctFound f_longestFound f_nodeCount (nI (n)) f_rowCount a_text a_pattern a_order a_occurs a_otherOrder a_rank a_pairRank a_nodePlace a_nodeDepth a_nodeParent a_nodeTail a_nodeBranch a_waitingNodes (fun j => nI ((l) j)) (fun j => nI ((lk) j) - 1) (fun j => nI ((en) j) - 1) (fun j => nI ((tl) j)) (fun j => nI ((b) j)) a_lastColumn f x (nI i) := by
  obtain ⟨n1, n2⟩ := M.2.2.2.2.2
  intro f
  induction f with
  | zero => intro i s x hf; omega
  | succ f ih =>
    intro i s x hf hi hs hx H
    by_cases s0 : s = 0
    · subst s0
      subst hx
      have no : post 0 := by
        rcases H with ⟨_, T⟩ | ⟨v, e1, _⟩
        · exact h0 (fun on => T goal hg on rfl)
        · omega
      exact pk_le n i (fun _ => no) (fun _ => br_t rfl no)
    · obtain ⟨s, rfl⟩ : ∃ s', s = s' + 1 := ⟨s - 1, by omega⟩
      rw [nI_pred] at hx
      subst hx
      obtain ⟨a1, a2, a3, a4⟩ := zt_J4_s M l0 lp he H
      have es : (nI s).toNatClampNeg = s := pk_cl s
      exact br_f (nI_ge (by omega) (by omega)) (br_f (zt_ne1 (by omega)) (pk_eq s goal (fun c => h1 (c ▸ a3)) (fun c => ⟨pk_in s 81 (by omega), nm_r (e' := nI (lk s) - 1) (by simp only [es]) (nm_r (nI_1 i) (ih (i + 1) (lk s) _ (by omega) (by omega) (by have := (a4 c).1; omega) rfl (a4 c).2))⟩)))
theorem zt_x_mm41 {post : SX → Prop} {goal : Nat} (hL : L ≤ 40) (hm : m ≤ 10) (m0 : 0 < m) (M : zt_M t L L n E l (fun v => lk v - 1) b en la) (l0 : lk 0 = 0) (lp : ∀ v, 0 < v → v < n → 0 < lk v) (hg : goal < n) (ha : zt_ap t pat L E l goal m) (h : ∀ f : Nat → Nat, zt_mk1 (zt_oc (zt_g t L) pat m) L f → post (nI L, nI m, f_distinctFound, f_longestFound, f_nodeCount, nI (n), f_rowCount, fun j => nI (t j), fun j => nI (pat j), a_order, fun j => nI (f j), a_otherOrder, a_rank, a_pairRank, a_nodePlace, a_nodeDepth, a_nodeParent, a_nodeTail, a_nodeBranch, a_waitingNodes, fun j => nI ((l) j), fun j => nI ((lk) j) - 1, fun j => nI ((en) j) - 1, fun j => nI ((tl) j), fun j => nI ((b) j), a_lastColumn)) : ∀ d F f (oc : Nat → Nat), F + d = n → d < f → zt_mk1 (fun i => ∃ q, q < F ∧ en q ≠ 0 ∧ zt_On t L (en q) E l goal ∧ i + m = en q) L oc → wX_markByAutomaton_41 post (nI goal) (nI L) (nI m) f_distinctFound f_longestFound f_nodeCount (nI n) f_rowCount f (nI F) (fun j => nI (t j)) (fun j => nI (pat j)) a_order (fun j => nI (oc j)) a_otherOrder a_rank a_pairRank a_nodePlace a_nodeDepth a_nodeParent a_nodeTail a_nodeBranch a_waitingNodes (fun j => nI (l j)) (fun j => nI (lk j) - 1) (fun j => nI (en j) - 1) (fun j => nI (tl j)) (fun j => nI (b j)) a_lastColumn := by
  obtain ⟨n1, n2⟩ := M.2.2.2.2.2
  have hz := zt_g_Z t L
  have hgg : ∀ i, i < L → zt_g t L i = t i + 1 := fun i hi => zt_g_lt hi
  intro d
  induction d with
  | zero =>
    intro F f oc hF hf H
    obtain ⟨f, rfl⟩ : ∃ m, f = m + 1 := ⟨f - 1, by omega⟩
    have e : F = n := by omega
    subst e
    refine br_t (nI_le (Nat.le_refl _) (by omega)) (h oc (zt_mk1_c H (fun i hi => ?_)))
    rw [zt_ap_oc hgg hz m0 ha (by omega)]
    constructor
    · rintro ⟨c1, c2⟩
      have e1 : zt_V t L (i + m) (i + m) = i + m := zt_V_s c1
      obtain ⟨q, hq, q1, q2⟩ := M.1.2.2.1 (i + m) (i + m) c1 ⟨i + m, c1, e1⟩
      have eq := (M.2.2.1 q (i + m - 1) hq).2 ⟨by omega, by omega, by rw [(by omega : i + m - 1 + 1 = i + m)]; exact q2⟩
      have eq2 : en q = i + m := by omega
      refine ⟨q, hq, by omega, ?_, eq2.symm⟩
      rw [eq2]; exact c2
    · rintro ⟨q, hq, q1, q2, q3⟩
      have := (zt_en_on M hq q1).1
      rw [q3]
      exact ⟨this, q2⟩
  | succ d ih =>
    intro F f oc hF hf H
    obtain ⟨f, rfl⟩ : ∃ m, f = m + 1 := ⟨f - 1, by omega⟩
    have eF : (nI F).toNatClampNeg = F := pk_cl F
    have ben : en F ≤ L := by
      by_cases c : en F = 0
      · omega
      · exact (zt_en_on M (by omega) c).1
    have skip : (en F = 0 ∨ ¬ zt_On t L (en F) E l goal) → zt_mk1 (fun i => ∃ q, q < F + 1 ∧ en q ≠ 0 ∧ zt_On t L (en q) E l goal ∧ i + m = en q) L oc := fun c => zt_mk1_c H (fun i hi => by
      constructor
      · rintro ⟨q, hq, q1, q2, q3⟩
        by_cases z : q = F
        · subst z
          rcases c with c | c
          · exact absurd c q1
          · exact absurd q2 c
        · exact ⟨q, by omega, q1, q2, q3⟩
      · rintro ⟨q, hq, q1, q2, q3⟩
        exact ⟨q, by omega, q1, q2, q3⟩)
    refine br_f (nI_ge (by omega) (by omega)) ⟨pk_in F 81 (by omega), ?_⟩
    simp only [eF]
    refine zt_br (zt_nt0 (by omega)) (fun z => nm_r (nI_1 F) (ih (F + 1) f oc (by omega) (by omega) (skip (Or.inl z)))) (fun z => ?_)
    obtain ⟨a1, a2, a3⟩ := zt_en_on M (by omega : F < n) z
    refine ⟨n + 1, zt_x_ll5 (e := en F) hL M l0 lp a1 hg (fun on => br_f (by decide) ⟨pk_in F 81 (by omega), ?_⟩) (fun on => br_t rfl (nm_r (nI_1 F) (ih (F + 1) f oc (by omega) (by omega) (skip (Or.inr on))))) (n + 1) 0 (F + 1) _ (by omega) (by omega) (by omega) (zt_I1 F) (Or.inr ⟨F, rfl, by omega, a3, fun u hu onu hl => by have := zt_On_le M a1 hu onu; omega, by omega⟩)⟩
    have me : m ≤ en F := by
      have := (ha (en F) a1).1 on
      exact this.1
    have e1 : (nI (en F) - 1 + 1) - nI m = nI (en F - m) := by rw [Int32.sub_add_cancel, pk_sub me]
    refine ⟨pk_in (en F - m) 40 (by omega) e1, nm_r (zt_upE (en F - m) 1 (pk_cl _ e1) zt_b1) (nm_r (nI_1 F) (ih (F + 1) f _ (by omega) (by omega) (zt_mk1_1 H (fun i hi => ?_))))⟩
    constructor
    · rintro ⟨q, hq, q1, q2, q3⟩
      by_cases y : q = F
      · subst y; exact Or.inr (by omega)
      · exact Or.inl ⟨q, by omega, q1, q2, q3⟩
    · rintro (⟨q, hq, q1, q2, q3⟩ | y)
      · exact ⟨q, by omega, q1, q2, q3⟩
      · exact ⟨F, by omega, z, on, by omega⟩
theorem zt_x_mm4 {post : SX → Prop} {oc : Nat → Nat} (hL : L ≤ 40) (hm : m ≤ 10) (m0 : 0 < m) (p4 : ∀ i, pat i < 4) (M : zt_M t L L n E l (fun v => lk v - 1) b en la) (l0 : lk 0 = 0) (lp : ∀ v, 0 < v → v < n → 0 < lk v) (ho : ∀ i, i < L → oc i = 0) (h : ∀ f : Nat → Nat, zt_mk1 (zt_oc (zt_g t L) pat m) L f → post (nI L, nI m, f_distinctFound, f_longestFound, f_nodeCount, nI (n), f_rowCount, fun j => nI (t j), fun j => nI (pat j), a_order, fun j => nI (f j), a_otherOrder, a_rank, a_pairRank, a_nodePlace, a_nodeDepth, a_nodeParent, a_nodeTail, a_nodeBranch, a_waitingNodes, fun j => nI ((l) j), fun j => nI ((lk) j) - 1, fun j => nI ((en) j) - 1, fun j => nI ((tl) j), fun j => nI ((b) j), a_lastColumn)) : ∀ d s f v, s + d = m → d < f → v < n → zt_ap t pat L E l v s → wX_markByAutomaton_4 post (nI L) (nI m) f_distinctFound f_longestFound f_nodeCount (nI (n)) f_rowCount (fun j => nI (t j)) (fun j => nI (pat j)) a_order (fun j => nI (oc j)) a_otherOrder a_rank a_pairRank a_nodePlace a_nodeDepth a_nodeParent a_nodeTail a_nodeBranch a_waitingNodes (fun j => nI ((l) j)) (fun j => nI ((lk) j) - 1) (fun j => nI ((en) j) - 1) (fun j => nI ((tl) j)) (fun j => nI ((b) j)) a_lastColumn f (nI v) (nI s) := by
  obtain ⟨n1, n2⟩ := M.2.2.2.2.2
  have hz := zt_g_Z t L
  intro d
  induction d with
  | zero =>
    intro s f v hs hf hv ha
    obtain ⟨f, rfl⟩ : ∃ m, f = m + 1 := ⟨f - 1, by omega⟩
    have e : s = m := by omega
    subst e
    refine br_t (nI_le (Nat.le_refl _) (by omega)) ⟨n, zt_x_mm41 hL hm m0 M l0 lp hv ha h (n - 1) 1 _ oc (by omega) (by omega) (zt_mk1_c (zt_mk1_0 ho) (fun i hi => ⟨?_, fun x => x.elim⟩))⟩
    rintro ⟨q, hq, q1, _⟩
    have : q = 0 := by omega
    subst this
    exact q1 (zt_en_0 M)
  | succ d ih =>
    intro s f v hs hf hv ha
    obtain ⟨f, rfl⟩ : ∃ m, f = m + 1 := ⟨f - 1, by omega⟩
    have es : (nI s).toNatClampNeg = s := pk_cl s
    have ps := p4 s
    refine br_f (nI_ge (by omega) (by omega)) ⟨pk_in s 10 (by omega), ?_⟩
    simp only [es]
    have ei : (nI v * 4 + nI (pat s)).toNatClampNeg = v * 4 + pat s := pk_cl _ (zt_ix4 _ _)
    refine ⟨pk_in (v * 4 + pat s) 324 (by omega) (zt_ix4 _ _), nm_r (e' := nI (b (v * 4 + pat s))) (by simp only [ei]) ?_⟩
    by_cases e : b (v * 4 + pat s) = 0
    · rw [e]
      refine br_t rfl (h oc (zt_mk1_c (zt_mk1_0 ho) (fun i hi => ⟨fun x => ?_, fun x => x.elim⟩)))
      have iL := zt_oc_L hz x m0
      refine zt_ap_no M hv ha e (i + (s + 1)) (by omega) ⟨by omega, fun q hq => ?_⟩
      have y := x q (by omega)
      rw [zt_g_lt (by omega)] at y
      rw [(by omega : i + (s + 1) - (s + 1) + q = i + q)]
      omega
    · obtain ⟨u0, u1, u2⟩ := zt_ap_1 p4 M hv ha e
      exact br_f (nI_ne0 u0 (by omega)) (nm_r (nI_1 s) (ih (s + 1) f _ (by omega) (by omega) u1 u2))
theorem zt_x_mm {post : SX → Prop} {oc : Nat → Nat} (hL : L ≤ 40) (hm : m ≤ 10) (m0 : 0 < m) (p4 : ∀ i, pat i < 4) (M : zt_M t L L n E l (fun v => lk v - 1) b en la) (l0 : lk 0 = 0) (lp : ∀ v, 0 < v → v < n → 0 < lk v) (ho : ∀ i, i < L → oc i = 0) (h : ∀ f : Nat → Nat, zt_mk1 (zt_oc (zt_g t L) pat m) L f → post (nI L, nI m, f_distinctFound, f_longestFound, f_nodeCount, nI (n), f_rowCount, fun j => nI (t j), fun j => nI (pat j), a_order, fun j => nI (f j), a_otherOrder, a_rank, a_pairRank, a_nodePlace, a_nodeDepth, a_nodeParent, a_nodeTail, a_nodeBranch, a_waitingNodes, fun j => nI ((l) j), fun j => nI ((lk) j) - 1, fun j => nI ((en) j) - 1, fun j => nI ((tl) j), fun j => nI ((b) j), a_lastColumn)) : wpX_markByAutomaton post (nI L, nI m, f_distinctFound, f_longestFound, f_nodeCount, nI (n), f_rowCount, fun j => nI (t j), fun j => nI (pat j), a_order, fun j => nI (oc j), a_otherOrder, a_rank, a_pairRank, a_nodePlace, a_nodeDepth, a_nodeParent, a_nodeTail, a_nodeBranch, a_waitingNodes, fun j => nI ((l) j), fun j => nI ((lk) j) - 1, fun j => nI ((en) j) - 1, fun j => nI ((tl) j), fun j => nI ((b) j), a_lastColumn) := by
  obtain ⟨n1, n2⟩ := M.2.2.2.2.2
  exact ⟨m + 1, zt_x_mm4 hL hm m0 p4 M l0 lp ho h m 0 _ 0 (by omega) (by omega) (by omega) (zt_ap_0 M)⟩
end
