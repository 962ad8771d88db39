/-! engine 1: measures, the pattern by halving; engine 0: the pattern by letters -/
theorem zt_kn_le {g : Nat → Nat} {L : Nat} {o : Nat → Nat} (hO : zt_O g L o) {i : Nat} (hi : i < L) : i + zt_kn g L o i ≤ L := by
  unfold zt_kn
  split
  · omega
  · have r1 := zt_r_lt (g := g) hi
    have a := (hO (zt_r g L i - 1) (by omega)).1
    have := zt_N_j (g := g) (L := L) (i := o (zt_r g L i - 1)) (j := i) (by omega) (by omega)
    omega
theorem zt_kn_1 {g : Nat → Nat} {L : Nat} {o : Nat → Nat} (hz : zt_Z g L) (hO : zt_O g L o) {i : Nat} (hi : i + 1 < L) (hr : zt_r g L (i + 1) ≠ 0) : zt_kn g L o i - 1 ≤ zt_N g L (o (zt_r g L (i + 1) - 1)) (i + 1) := by
  by_cases c : zt_kn g L o i ≤ 1
  · omega
  · unfold zt_kn at c ⊢
    split at c
    · omega
    · rename_i z
      rw [if_neg z]
      exact (zt_kasai hz hO hi (by omega) (by omega)).2
section
variable {f_length f_patternLength f_distinctFound f_longestFound f_nodeCount f_stateCount f_rowCount : Int32} {a_text a_pattern a_order a_occurs a_otherOrder a_rank a_pairRank a_nodePlace a_nodeDepth a_nodeParent a_nodeTail a_nodeBranch a_waitingNodes a_stateLength a_stateLink a_stateEnd a_stateTails a_stateBranch a_lastColumn : Nat → Int32}
variable {t pat : Nat → Nat} {L m : Nat}
theorem zt_x_mp41 {post : SX → Prop} {J : _} {p z S w : Nat} (hL : L ≤ 40) (hp : p < L) (hz : p + z ≤ L) (hw : w ≤ L) (h : J (nI (z - 1)) (nI (p + 1)) (nI L) f_patternLength (nI (S + (L - p - z))) (nI (if w < z then z else w)) f_nodeCount f_stateCount f_rowCount a_text a_pattern a_order a_occurs a_otherOrder a_rank a_pairRank a_nodePlace a_nodeDepth a_nodeParent a_nodeTail a_nodeBranch a_waitingNodes a_stateLength a_stateLink a_stateEnd a_stateTails a_stateBranch a_lastColumn) : wX_measurePlaces_41 post J (nI p) (nI z) (nI L) f_patternLength (nI S) (nI w) f_nodeCount f_stateCount f_rowCount a_text a_pattern a_order a_occurs a_otherOrder a_rank a_pairRank a_nodePlace a_nodeDepth a_nodeParent a_nodeTail a_nodeBranch a_waitingNodes a_stateLength a_stateLink a_stateEnd a_stateTails a_stateBranch a_lastColumn := by
  refine nm_r (e' := nI (S + (L - p - z))) (by rw [pk_sub (by omega), pk_sub (by omega), nI_add]) (zt_x_nl (by omega) (by omega) (pk_le z 0 (fun c => nm_r (nI_1 p) ?_) (fun c => nm_r (e' := nI (z - 1)) ?_ (nm_r (nI_1 p) h))))
  · have e : z = 0 := by omega
    subst e
    exact h
  · exact pk_sub (b := 1) (by omega)
theorem zt_x_mp4 {post : SX → Prop} {r o : Nat → Nat} (hL : L ≤ 40) (h4 : ∀ i, t i < 4) (hr : ∀ i, i < L → r i = zt_r (zt_g t L) L i) (hO : zt_O (zt_g t L) L o) (h : post (nI L, f_patternLength, nI (zt_D (zt_g t L) L (fun i => i)), nI (zt_m (zt_kn (zt_g t L) L o) L), f_nodeCount, f_stateCount, f_rowCount, fun j => nI (t j), a_pattern, fun j => nI (o j), a_occurs, a_otherOrder, fun j => nI (r j), a_pairRank, a_nodePlace, a_nodeDepth, a_nodeParent, a_nodeTail, a_nodeBranch, a_waitingNodes, a_stateLength, a_stateLink, a_stateEnd, a_stateTails, a_stateBranch, a_lastColumn)) : ∀ d p n, p + d = L → d < n → wX_measurePlaces_4 post n (nI (if p = 0 then 0 else zt_kn (zt_g t L) L o (p - 1) - 1)) (nI p) (nI L) f_patternLength (nI (zt_s (fun i => L - i - zt_kn (zt_g t L) L o i) p)) (nI (zt_m (zt_kn (zt_g t L) L o) p)) f_nodeCount f_stateCount f_rowCount (fun j => nI (t j)) a_pattern (fun j => nI (o j)) a_occurs a_otherOrder (fun j => nI (r j)) a_pairRank a_nodePlace a_nodeDepth a_nodeParent a_nodeTail a_nodeBranch a_waitingNodes a_stateLength a_stateLink a_stateEnd a_stateTails a_stateBranch a_lastColumn := by
  have hz := zt_g_Z t L
  intro d
  induction d with
  | zero =>
    intro p n hp hn
    obtain ⟨n, rfl⟩ : ∃ m, n = m + 1 := ⟨n - 1, by omega⟩
    have e : p = L := by omega
    subst e
    refine br_t (nI_le (Nat.le_refl _) (by omega)) ?_
    have e := zt_D_places hz hO
    have e2 : zt_s (fun i => p - i - zt_kn (zt_g t p) p o i) p = zt_D (zt_g t p) p (fun i => i) := e.trans (zt_D_eq (fun i j hi hj e => zt_r_inj hz hi hj e) (fun i j _ _ e => e))
    rw [e2]
    exact h
  | succ d ih =>
    intro p n hp hn
    obtain ⟨n, rfl⟩ : ∃ m, n = m + 1 := ⟨n - 1, by omega⟩
    have nx := ih (p + 1) n (by omega) (by omega)
    rw [if_neg (by omega), Nat.add_sub_cancel, zt_s1, zt_m1] at nx
    have b := zt_kn_le hO (i := p) (by omega)
    have b2 : zt_m (zt_kn (zt_g t L) L o) p ≤ L := zt_m_le fun i hi => by
      have := zt_kn_le hO (i := i) (by omega)
      omega
    have r1 := zt_r_lt (g := zt_g t L) (n := L) (i := p) (by omega)
    have ep : (nI p).toNatClampNeg = p := pk_cl p
    have nx2 := zt_x_mp41 (post := post) (p := p) hL (by omega) b b2 nx
    refine br_f (nI_ge (by omega) (by omega)) ⟨pk_in p 40 (by omega), nm_r (e' := nI (zt_r (zt_g t L) L p)) (by simp only [ep]; rw [hr p (by omega)]) (pk_eq (zt_r (zt_g t L) L p) 0 (fun c => ?_) (fun c => ?_))⟩
    · have e : zt_kn (zt_g t L) L o p = 0 := by unfold zt_kn; rw [if_pos c]
      rw [e] at nx2
      exact nx2
    · have er : nI (zt_r (zt_g t L) L p) - 1 = nI (zt_r (zt_g t L) L p - 1) := pk_sub (b := 1) (by omega)
      have ec : (nI (zt_r (zt_g t L) L p) - 1).toNatClampNeg = zt_r (zt_g t L) L p - 1 := pk_cl _ er
      have a := (hO (zt_r (zt_g t L) L p - 1) (by omega)).1
      refine ⟨pk_in (zt_r (zt_g t L) L p - 1) 40 (by omega) er, ?_⟩
      simp only [ec]
      have e : zt_kn (zt_g t L) L o p = zt_N (zt_g t L) L (o (zt_r (zt_g t L) L p - 1)) p := by unfold zt_kn; rw [if_neg c]
      refine zt_x_sl _ hL (by omega) (by omega) h4 ?_ ?_
      · split
        · exact Nat.zero_le _
        · obtain ⟨p', rfl⟩ : ∃ p', p = p' + 1 := ⟨p - 1, by omega⟩
          rw [Nat.add_sub_cancel]
          exact zt_kn_1 hz hO (by omega) c
      · rw [← e]
        exact nx2
theorem zt_x_mp {post : SX → Prop} {r o : Nat → Nat} (hL : L ≤ 40) (h4 : ∀ i, t i < 4) (hr : ∀ i, i < L → r i = zt_r (zt_g t L) L i) (hO : zt_O (zt_g t L) L o) (h : ∀ G, zt_G (zt_g t L) L G → post (nI L, f_patternLength, nI (zt_D (zt_g t L) L (fun i => i)), nI G, f_nodeCount, f_stateCount, f_rowCount, fun j => nI (t j), a_pattern, fun j => nI (o j), a_occurs, a_otherOrder, fun j => nI (r j), a_pairRank, a_nodePlace, a_nodeDepth, a_nodeParent, a_nodeTail, a_nodeBranch, a_waitingNodes, a_stateLength, a_stateLink, a_stateEnd, a_stateTails, a_stateBranch, a_lastColumn)) : wpX_measurePlaces post (nI L, f_patternLength, 0, 0, f_nodeCount, f_stateCount, f_rowCount, fun j => nI (t j), a_pattern, fun j => nI (o j), a_occurs, a_otherOrder, fun j => nI (r j), a_pairRank, a_nodePlace, a_nodeDepth, a_nodeParent, a_nodeTail, a_nodeBranch, a_waitingNodes, a_stateLength, a_stateLink, a_stateEnd, a_stateTails, a_stateBranch, a_lastColumn) :=
  ⟨L + 1, zt_x_mp4 hL h4 hr hO (h _ (zt_G_mp (zt_g_Z t L) hO)) L 0 _ (by omega) (by omega)⟩
/-- a tail against the pattern -/
theorem zt_x_cp2 {post : Int32 → Prop} {i : Nat} (hL : L ≤ 40) (hm : m ≤ 10) (hi : i ≤ L) (h4 : ∀ i, t i < 4) (p4 : ∀ i, pat i < 4) (h1 : zt_lo (zt_g t L) pat m i → ∀ r : Int32, r < 0 → post r) (h2 : zt_oc (zt_g t L) pat m i → post 0) (h3 : zt_hi (zt_g t L) pat m i → ∀ r : Int32, 0 < r → post r) : ∀ d s n, s + d = m → d < n → (∀ q, q < s → zt_g t L (i + q) = pat q + 1) → wX_compareToPattern_2 post (nI i) (nI L) (nI m) f_distinctFound f_longestFound f_nodeCount f_stateCount f_rowCount (fun j => nI (t j)) (fun j => nI (pat j)) a_order a_occurs a_otherOrder a_rank a_pairRank a_nodePlace a_nodeDepth a_nodeParent a_nodeTail a_nodeBranch a_waitingNodes a_stateLength a_stateLink a_stateEnd a_stateTails a_stateBranch a_lastColumn n (nI s) := by
  intro d
  induction d with
  | zero =>
    intro s n hs hn hq
    obtain ⟨n, rfl⟩ : ∃ m, n = m + 1 := ⟨n - 1, by omega⟩
    have e : s = m := by omega
    subst e
    exact br_t (nI_le (Nat.le_refl _) (by omega)) (h2 hq)
  | succ d ih =>
    intro s n hs hn hq
    obtain ⟨n, rfl⟩ : ∃ m, n = m + 1 := ⟨n - 1, by omega⟩
    have ei : (nI i + nI s).toNatClampNeg = i + s := pk_cl (i + s) (nI_add i s)
    have es : (nI s).toNatClampNeg = s := pk_cl s
    refine br_f (nI_ge (by omega) (by omega)) (pk_lt (i + s) L (fun c => ⟨pk_in (i + s) 40 (by omega) (nI_add i s), pk_in s 10 (by omega), nm_r (e' := nI (t (i + s)) - nI (pat s)) (by simp only [ei, es]) ?_⟩) (fun c => h1 ⟨s, by omega, hq, ?_⟩ _ (by decide)) (nI_add i s) rfl)
    · have a := h4 (i + s)
      have b := p4 s
      by_cases e : t (i + s) = pat s
      · refine br_t (by rw [e, pk_sub (Nat.le_refl _), Nat.sub_self]; rfl) (nm_r (nI_1 s) (ih (s + 1) n (by omega) (by omega) (fun q hq' => ?_)))
        by_cases z : q = s
        · subst z; rw [zt_g_lt c, e]
        · exact hq q (by omega)
      · by_cases f : t (i + s) < pat s
        · have ng := pk_sneg (a := t (i + s)) (b := pat s) (by omega) f
          refine br_f (fun z => ?_) (h1 ⟨s, by omega, hq, by rw [zt_g_lt c]; omega⟩ _ ng)
          rw [z] at ng
          exact absurd ng (by decide)
        · have e2 : nI (t (i + s)) - nI (pat s) = nI (t (i + s) - pat s) := pk_sub (by omega)
          rw [e2]
          exact br_f (nI_ne0 (by omega) (by omega)) (h3 ⟨s, by omega, hq, by rw [zt_g_lt c]; omega⟩ _ (nI_lt (a := 0) (by omega) (by omega)))
    · rw [zt_g_ge c]; omega
theorem zt_x_cp {post : Int32 → Prop} {i : Nat} (hL : L ≤ 40) (hm : m ≤ 10) (hi : i ≤ L) (h4 : ∀ i, t i < 4) (p4 : ∀ i, pat i < 4) (h1 : zt_lo (zt_g t L) pat m i → ∀ r : Int32, r < 0 → post r) (h2 : zt_oc (zt_g t L) pat m i → post 0) (h3 : zt_hi (zt_g t L) pat m i → ∀ r : Int32, 0 < r → post r) : wpX_compareToPattern post (nI L, nI m, f_distinctFound, f_longestFound, f_nodeCount, f_stateCount, f_rowCount, fun j => nI (t j), fun j => nI (pat j), a_order, a_occurs, a_otherOrder, a_rank, a_pairRank, a_nodePlace, a_nodeDepth, a_nodeParent, a_nodeTail, a_nodeBranch, a_waitingNodes, a_stateLength, a_stateLink, a_stateEnd, a_stateTails, a_stateBranch, a_lastColumn) (nI i) :=
  ⟨m + 1, zt_x_cp2 hL hm hi h4 p4 h1 h2 h3 m 0 _ (by omega) (by omega) (fun q hq => by omega)⟩
theorem zt_x_ml2 {post : SX → Prop} (hL : L ≤ 40) (hm : m ≤ 10) (h4 : ∀ i, t i < 4) (p4 : ∀ i, pat i < 4) (h : ∀ f : Nat → Nat, zt_mk1 (zt_oc (zt_g t L) pat m) L f → post (nI L, nI m, f_distinctFound, f_longestFound, f_nodeCount, f_stateCount, f_rowCount, fun j => nI (t j), fun j => nI (pat j), a_order, fun j => nI (f j), a_otherOrder, a_rank, a_pairRank, a_nodePlace, a_nodeDepth, a_nodeParent, a_nodeTail, a_nodeBranch, a_waitingNodes, a_stateLength, a_stateLink, a_stateEnd, a_stateTails, a_stateBranch, a_lastColumn)) : ∀ d p n (f : Nat → Nat), p + d = L → d < n → (∀ i, i < p → (zt_oc (zt_g t L) pat m i → f i = 1) ∧ (¬ zt_oc (zt_g t L) pat m i → f i = 0)) → wX_markByLetters_2 post (nI L) (nI m) f_distinctFound f_longestFound f_nodeCount f_stateCount f_rowCount n (nI p) (fun j => nI (t j)) (fun j => nI (pat j)) a_order (fun j => nI (f j)) a_otherOrder a_rank a_pairRank a_nodePlace a_nodeDepth a_nodeParent a_nodeTail a_nodeBranch a_waitingNodes a_stateLength a_stateLink a_stateEnd a_stateTails a_stateBranch a_lastColumn := by
  intro d
  induction d with
  | zero =>
    intro p n f hp hn hq
    obtain ⟨n, rfl⟩ : ∃ m, n = m + 1 := ⟨n - 1, by omega⟩
    exact br_t (nI_le (by omega) (by omega)) (h f fun i hi => hq i (by omega))
  | succ d ih =>
    intro p n f hp hn hq
    obtain ⟨n, rfl⟩ : ∃ m, n = m + 1 := ⟨n - 1, by omega⟩
    have s1 : zt_oc (zt_g t L) pat m p → wX_markByLetters_2 post (nI L) (nI m) f_distinctFound f_longestFound f_nodeCount f_stateCount f_rowCount n (nI (p + 1)) (fun j => nI (t j)) (fun j => nI (pat j)) a_order (fun j => nI (zt_up f p 1 j)) a_otherOrder a_rank a_pairRank a_nodePlace a_nodeDepth a_nodeParent a_nodeTail a_nodeBranch a_waitingNodes a_stateLength a_stateLink a_stateEnd a_stateTails a_stateBranch a_lastColumn := fun c => ih (p + 1) n _ (by omega) (by omega) (fun i hi => by
      by_cases e : i = p
      · subst e; rw [zt_us]; exact ⟨fun _ => rfl, fun x => absurd c x⟩
      · rw [zt_un _ _ e]; exact hq i (by omega))
    have s0 : ¬ zt_oc (zt_g t L) pat m p → wX_markByLetters_2 post (nI L) (nI m) f_distinctFound f_longestFound f_nodeCount f_stateCount f_rowCount n (nI (p + 1)) (fun j => nI (t j)) (fun j => nI (pat j)) a_order (fun j => nI (zt_up f p 0 j)) a_otherOrder a_rank a_pairRank a_nodePlace a_nodeDepth a_nodeParent a_nodeTail a_nodeBranch a_waitingNodes a_stateLength a_stateLink a_stateEnd a_stateTails a_stateBranch a_lastColumn := fun c => ih (p + 1) n _ (by omega) (by omega) (fun i hi => by
      by_cases e : i = p
      · subst e; rw [zt_us]; exact ⟨fun x => absurd x c, fun _ => rfl⟩
      · rw [zt_un _ _ e]; exact hq i (by omega))
    refine br_f (nI_ge (by omega) (by omega)) (zt_x_cp hL hm (by omega) h4 p4 (fun c r hr => br_f (fun z => ?_) ⟨pk_in p 40 (by omega), nm_r (zt_upE p 0 (pk_cl p) zt_b0) (nm_r (nI_1 p) (s0 (fun x => zt_lo_oc c x)))⟩) (fun c => br_t rfl ⟨pk_in p 40 (by omega), nm_r (zt_upE p 1 (pk_cl p) zt_b1) (nm_r (nI_1 p) (s1 c))⟩) (fun c r hr => br_f (fun z => ?_) ⟨pk_in p 40 (by omega), nm_r (zt_upE p 0 (pk_cl p) zt_b0) (nm_r (nI_1 p) (s0 (fun x => zt_hi_oc c x)))⟩))
    · rw [z] at hr; exact absurd hr (by decide)
    · rw [z] at hr; exact absurd hr (by decide)
theorem zt_x_ml {post : SX → Prop} (hL : L ≤ 40) (hm : m ≤ 10) (h4 : ∀ i, t i < 4) (p4 : ∀ i, pat i < 4) (h : ∀ f : Nat → Nat, zt_mk1 (zt_oc (zt_g t L) pat m) L f → post (nI L, nI m, f_distinctFound, f_longestFound, f_nodeCount, f_stateCount, f_rowCount, fun j => nI (t j), fun j => nI (pat j), a_order, fun j => nI (f j), a_otherOrder, a_rank, a_pairRank, a_nodePlace, a_nodeDepth, a_nodeParent, a_nodeTail, a_nodeBranch, a_waitingNodes, a_stateLength, a_stateLink, a_stateEnd, a_stateTails, a_stateBranch, a_lastColumn)) : wpX_markByLetters post (nI L, nI m, f_distinctFound, f_longestFound, f_nodeCount, f_stateCount, f_rowCount, fun j => nI (t j), fun j => nI (pat j), a_order, a_occurs, a_otherOrder, a_rank, a_pairRank, a_nodePlace, a_nodeDepth, a_nodeParent, a_nodeTail, a_nodeBranch, a_waitingNodes, a_stateLength, a_stateLink, a_stateEnd, a_stateTails, a_stateBranch, a_lastColumn) := by
  obtain ⟨f, rfl⟩ := zt_arr a_occurs
  exact ⟨L + 1, zt_x_ml2 hL hm h4 p4 h L 0 _ f (by omega) (by omega) (fun q hq => by omega)⟩
/-- halving -/
theorem zt_x_fr10 {post : Int32 → Prop} {bd : Int32} {o : Nat → Nat} {P : Nat → Prop} (hL : L ≤ 40) (hP : ∀ a b, a < b → b < L → P b → P a) (hc : ∀ a, a < L → ∀ post' : Int32 → Prop, (P a → ∀ r : Int32, ¬ bd ≤ r → post' r) → (¬ P a → ∀ r : Int32, bd ≤ r → post' r) → wpX_compareToPattern post' (nI L, f_patternLength, f_distinctFound, f_longestFound, f_nodeCount, f_stateCount, f_rowCount, a_text, a_pattern, fun j => nI (o j), a_occurs, a_otherOrder, a_rank, a_pairRank, a_nodePlace, a_nodeDepth, a_nodeParent, a_nodeTail, a_nodeBranch, a_waitingNodes, a_stateLength, a_stateLink, a_stateEnd, a_stateTails, a_stateBranch, a_lastColumn) (nI (o a))) (h : ∀ k, k ≤ L → (∀ a, a < L → (P a ↔ a < k)) → post (nI k)) : ∀ n lo hi st, L - st < n → lo ≤ hi → hi ≤ L → hi + st ≤ L + lo → (∀ a, a < lo → P a) → (∀ a, hi ≤ a → a < L → ¬ P a) → wX_firstRowNotBelow_10 post bd (nI L) f_patternLength f_distinctFound f_longestFound f_nodeCount f_stateCount f_rowCount a_text a_pattern (fun j => nI (o j)) a_occurs a_otherOrder a_rank a_pairRank a_nodePlace a_nodeDepth a_nodeParent a_nodeTail a_nodeBranch a_waitingNodes a_stateLength a_stateLink a_stateEnd a_stateTails a_stateBranch a_lastColumn n (nI lo) (nI hi) (nI st) := by
  intro n
  induction n with
  | zero => intro lo hi st hn; omega
  | succ n ih =>
    intro lo hi st hn h1 h2 h3 h5 h6
    have fin : hi ≤ lo → post (nI lo) := fun c => h lo (by omega) (fun a ha => ⟨fun x => Classical.byContradiction fun y => h6 a (by omega) ha x, h5 a⟩)
    refine pk_le L st (fun c => fin (by omega)) (fun c => pk_le hi lo (fun c2 => fin c2) (fun c2 => ⟨by decide, nm_r (e' := nI ((lo + hi) / 2)) ?_ ⟨pk_in ((lo + hi) / 2) 40 (by omega), ?_⟩⟩))
    · rw [nI_add]; exact pk_div (d := 2) (by omega) (by omega) (by omega)
    · simp only [pk_cl ((lo + hi) / 2)]
      refine hc ((lo + hi) / 2) (by omega) _ (fun p r hr => br_f hr (nm_r (nI_1 _) (nm_r (nI_1 st) (ih _ _ _ (by omega) (by omega) (by omega) (by omega) (fun a ha => ?_) h6)))) (fun p r hr => br_t hr (nm_r (nI_1 st) (ih _ _ _ (by omega) (by omega) (by omega) (by omega) h5 (fun a ha haL pa => ?_))))
      · by_cases z : a = (lo + hi) / 2
        · rw [z]; exact p
        · exact hP a ((lo + hi) / 2) (by omega) (by omega) p
      · by_cases z : a = (lo + hi) / 2
        · rw [z] at pa; exact p pa
        · exact p (hP ((lo + hi) / 2) a (by omega) haL pa)
theorem zt_x_mh14 {post : SX → Prop} {o : Nat → Nat} {k0 k1 : Nat} (hL : L ≤ 40) (hk : k1 ≤ L) (hO : ∀ a, a < L → o a < L) {S : Nat → Prop} (hS : ∀ i, i < L → (S i ↔ ∃ a, k0 ≤ a ∧ a < k1 ∧ o a = i)) (h : ∀ f : Nat → Nat, zt_mk1 S L f → post (nI L, f_patternLength, f_distinctFound, f_longestFound, f_nodeCount, f_stateCount, f_rowCount, a_text, a_pattern, fun j => nI (o j), fun j => nI (f j), a_otherOrder, a_rank, a_pairRank, a_nodePlace, a_nodeDepth, a_nodeParent, a_nodeTail, a_nodeBranch, a_waitingNodes, a_stateLength, a_stateLink, a_stateEnd, a_stateTails, a_stateBranch, a_lastColumn)) : ∀ d p n (f : Nat → Nat), p + d = k1 → d < n → k0 ≤ p → zt_mk1 (fun i => ∃ a, k0 ≤ a ∧ a < p ∧ o a = i) L f → wX_markByHalving_14 post (nI k1) (nI L) f_patternLength f_distinctFound f_longestFound f_nodeCount f_stateCount f_rowCount n (nI p) a_text a_pattern (fun j => nI (o j)) (fun j => nI (f j)) a_otherOrder a_rank a_pairRank a_nodePlace a_nodeDepth a_nodeParent a_nodeTail a_nodeBranch a_waitingNodes a_stateLength a_stateLink a_stateEnd a_stateTails a_stateBranch a_lastColumn := by
  intro d
  induction d with
  | zero =>
    intro p n f hp hn hk0 hf
    obtain ⟨n, rfl⟩ : ∃ m, n = m + 1 := ⟨n - 1, by omega⟩
    have e : p = k1 := by omega
    subst e
    exact br_t (nI_le (Nat.le_refl _) (by omega)) (h f (zt_mk1_c hf hS))
  | succ d ih =>
    intro p n f hp hn hk0 hf
    obtain ⟨n, rfl⟩ : ∃ m, n = m + 1 := ⟨n - 1, by omega⟩
    have ep : (nI p).toNatClampNeg = p := pk_cl p
    have b := hO p (by omega)
    refine br_f (nI_ge (by omega) (by omega)) ⟨pk_in p 40 (by omega), ?_⟩
    simp only [ep]
    refine ⟨pk_in (o p) 40 (by omega), nm_r (zt_upE (o p) 1 (pk_cl (o p)) zt_b1) (nm_r (nI_1 p) (ih (p + 1) n _ (by omega) (by omega) (by omega) (zt_mk1_1 hf (fun i hi => ?_))))⟩
    constructor
    · rintro ⟨a, a1, a2, a3⟩
      by_cases z : a = p
      · subst z; exact Or.inr a3.symm
      · exact Or.inl ⟨a, a1, by omega, a3⟩
    · rintro (⟨a, a1, a2, a3⟩ | z)
      · exact ⟨a, a1, by omega, a3⟩
      · exact ⟨p, hk0, by omega, z.symm⟩
theorem zt_x_mh {post : SX → Prop} {o f : Nat → Nat} (hL : L ≤ 40) (hm : m ≤ 10) (h4 : ∀ i, t i < 4) (p4 : ∀ i, pat i < 4) (hO : zt_O (zt_g t L) L o) (hf : ∀ i, i < L → f i = 0) (h : ∀ f : Nat → Nat, zt_mk1 (zt_oc (zt_g t L) pat m) L f → post (nI L, nI m, f_distinctFound, f_longestFound, f_nodeCount, f_stateCount, f_rowCount, fun j => nI (t j), fun j => nI (pat j), fun j => nI (o j), fun j => nI (f j), a_otherOrder, a_rank, a_pairRank, a_nodePlace, a_nodeDepth, a_nodeParent, a_nodeTail, a_nodeBranch, a_waitingNodes, a_stateLength, a_stateLink, a_stateEnd, a_stateTails, a_stateBranch, a_lastColumn)) : wpX_markByHalving post (nI L, nI m, f_distinctFound, f_longestFound, f_nodeCount, f_stateCount, f_rowCount, fun j => nI (t j), fun j => nI (pat j), fun j => nI (o j), fun j => nI (f j), a_otherOrder, a_rank, a_pairRank, a_nodePlace, a_nodeDepth, a_nodeParent, a_nodeTail, a_nodeBranch, a_waitingNodes, a_stateLength, a_stateLink, a_stateEnd, a_stateTails, a_stateBranch, a_lastColumn) := by
  have hz := zt_g_Z t L
  have oL : ∀ a, a < L → o a < L := fun a ha => (hO a ha).1
  unfold wpX_markByHalving
  refine ⟨L + 1, zt_x_fr10 (P := fun a => zt_lo (zt_g t L) pat m (o a)) hL (fun a b hab hb => zt_lo_dn ((zt_O_T hz hO (by omega) hb).2 hab)) (fun a ha post' q1 q2 => zt_x_cp hL hm (by have := oL a ha; omega) h4 p4 (fun c r hr => q1 c r (Int32.not_le.mpr hr)) (fun c => q2 (fun x => zt_lo_oc x c) 0 (by decide)) (fun c r hr => q2 (fun x => zt_lo_hi x c) r (Int32.le_of_lt hr))) (fun k0 hk0 e0 => ?_) (L + 1) 0 L 0 (by omega) (by omega) (by omega) (by omega) (fun a ha => by omega) (fun a h1 h2 => by omega)⟩
  refine ⟨L + 1, zt_x_fr10 (P := fun a => ¬ zt_hi (zt_g t L) pat m (o a)) hL (fun a b hab hb x y => x (zt_hi_up ((zt_O_T hz hO (by omega) hb).2 hab) y)) (fun a ha post' q1 q2 => zt_x_cp hL hm (by have := oL a ha; omega) h4 p4 (fun c r hr => q1 (fun x => zt_lo_hi c x) r (fun z => ?_)) (fun c => q1 (fun x => zt_hi_oc x c) 0 (by decide)) (fun c r hr => q2 (fun x => x c) r ?_)) (fun k1 hk1 e1 => ?_) (L + 1) 0 L 0 (by omega) (by omega) (by omega) (by omega) (fun a ha => by omega) (fun a h1 h2 => by omega)⟩
  · exact Int32.lt_irrefl (Int32.lt_of_lt_of_le hr (Int32.le_trans (by decide) z))
  · obtain ⟨j, hj, rfl⟩ := nI_of (x := r) (Int32.not_lt.mpr (Int32.le_of_lt hr))
    refine nI_le (a := 1) ?_ hj
    refine Nat.pos_of_ne_zero fun z => ?_
    subst z
    exact absurd hr (by decide)
  · have k01 : k0 ≤ k1 := by
      refine Classical.byContradiction fun c => ?_
      have a1 := (e0 k1 (by omega)).2 (by omega)
      have a2 : ¬ ¬ zt_hi (zt_g t L) pat m (o k1) := fun x => by
        have := (e1 k1 (by omega)).1 x
        omega
      exact a2 (fun x => zt_lo_hi a1 x)
    refine ⟨L + 1, zt_x_mh14 (k0 := k0) hL hk1 oL (S := zt_oc (zt_g t L) pat m) (fun i hi => ?_) h (k1 - k0) k0 _ f (by omega) (by omega) (Nat.le_refl _) (zt_mk1_c (zt_mk1_0 hf) (fun i hi => ⟨fun ⟨a, a1, a2, _⟩ => by omega, fun x => x.elim⟩))⟩
    constructor
    · intro x
      have ro := zt_O_r hz hO hi
      have rl := zt_r_lt (g := zt_g t L) hi
      refine ⟨zt_r (zt_g t L) L i, ?_, ?_, ro⟩
      · refine Classical.byContradiction fun c => ?_
        have := (e0 _ rl).2 (by omega)
        rw [ro] at this
        exact zt_lo_oc this x
      · refine (e1 _ rl).1 ?_
        rw [ro]
        exact fun y => zt_hi_oc y x
    · rintro ⟨a, a1, a2, a3⟩
      subst a3
      have b1 : ¬ zt_lo (zt_g t L) pat m (o a) := fun x => by
        have := (e0 a (by omega)).1 x
        omega
      have b2 := (e1 a (by omega)).2 a2
      rcases zt_tri3 (zt_g t L) pat m (o a) with c | c | c
      · exact absurd c b1
      · exact c
      · exact absurd c b2
end
