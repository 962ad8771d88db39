/-! the component: most shared, times, least place, repeats, piece; the reference beside them -/
section
variable {f_length f_patternLength f_distinctFound f_longestFound f_nodeCount f_stateCount f_rowCount : Int32} {a_text a_pattern a_order a_occurs a_otherOrder a_rank a_pairRank a_nodePlace a_nodeDepth a_nodeParent a_nodeTail a_nodeBranch a_waitingNodes a_stateLength a_stateLink a_stateEnd a_stateTails a_stateBranch a_lastColumn : Nat → Int32}
variable {t : Nat → Nat} {L : Nat}
theorem zt_x_ms29 {post : Int32 → Prop} {J : _} {x1 x2 : Int32} {w j z : Nat} (hw : w < 2 ^ 31) (hz : z < 2 ^ 31) (h : J (nI (if w < z then z else w)) (nI (j + 1))) : wX_mostShared_29 post J x1 x2 (nI w) (nI j) (nI z) f_length f_patternLength f_distinctFound f_longestFound f_nodeCount f_stateCount f_rowCount a_text a_pattern a_order a_occurs a_otherOrder a_rank a_pairRank a_nodePlace a_nodeDepth a_nodeParent a_nodeTail a_nodeBranch a_waitingNodes a_stateLength a_stateLink a_stateEnd a_stateTails a_stateBranch a_lastColumn := by
  refine pk_le z w (fun c => nm_r (nI_1 j) ?_) (fun c => nm_r (nI_1 j) ?_)
  · rw [if_neg (by omega)] at h; exact h
  · rw [if_pos c] at h; exact h
theorem zt_x_ms5 {post : Int32 → Prop} {i e : Nat} (hL : L ≤ 40) (hi : i < L) (he : e ≤ L) (h4 : ∀ i, t i < 4) (h : post (nI (zt_ms (zt_g t L) L i e))) : ∀ d j n, j + d = e → d < n → wX_mostShared_5 post (nI i) (nI e) (nI L) f_patternLength f_distinctFound f_longestFound f_nodeCount f_stateCount f_rowCount (fun j => nI (t j)) a_pattern a_order a_occurs a_otherOrder a_rank a_pairRank a_nodePlace a_nodeDepth a_nodeParent a_nodeTail a_nodeBranch a_waitingNodes a_stateLength a_stateLink a_stateEnd a_stateTails a_stateBranch a_lastColumn n (nI (zt_ms (zt_g t L) L i j)) (nI j) := by
  intro d
  induction d with
  | zero =>
    intro j n hj hn
    obtain ⟨n, rfl⟩ : ∃ m, n = m + 1 := ⟨n - 1, by omega⟩
    have e : j = e := by omega
    subst e
    exact br_t (nI_le (Nat.le_refl _) (by omega)) h
  | succ d ih =>
    intro j n hj hn
    obtain ⟨n, rfl⟩ : ∃ m, n = m + 1 := ⟨n - 1, by omega⟩
    have nx := ih (j + 1) n (by omega) (by omega)
    have b1 := zt_ms_le (g := zt_g t L) (L := L) (i := i) (n := j) (by omega) (by omega)
    have b2 := zt_N_i (g := zt_g t L) (L := L) (i := j) (j := i) (by omega) (by omega)
    unfold zt_ms at nx
    rw [zt_m1] at nx
    change wX_mostShared_5 post (nI i) (nI e) (nI L) f_patternLength f_distinctFound f_longestFound f_nodeCount f_stateCount f_rowCount (fun j => nI (t j)) a_pattern a_order a_occurs a_otherOrder a_rank a_pairRank a_nodePlace a_nodeDepth a_nodeParent a_nodeTail a_nodeBranch a_waitingNodes a_stateLength a_stateLink a_stateEnd a_stateTails a_stateBranch a_lastColumn n (nI (if zt_ms (zt_g t L) L i j < (if j = i then 0 else zt_N (zt_g t L) L j i) then (if j = i then 0 else zt_N (zt_g t L) L j i) else zt_ms (zt_g t L) L i j)) (nI (j + 1)) at nx
    refine br_f (nI_ge (by omega) (by omega)) (pk_eq j i (fun c => ?_) (fun c => ?_))
    · rw [if_pos c] at nx
      exact zt_x_ms29 (z := 0) (by omega) (by omega) nx
    · rw [if_neg c] at nx
      exact zt_x_sl 0 hL (by omega) (by omega) h4 (Nat.zero_le _) (zt_x_ms29 (by omega) (by omega) nx)
theorem zt_x_ms {post : Int32 → Prop} {i e : Nat} (hL : L ≤ 40) (hi : i < L) (he : e ≤ L) (h4 : ∀ i, t i < 4) (h : post (nI (zt_ms (zt_g t L) L i e))) : wpX_mostShared post (nI L, f_patternLength, f_distinctFound, f_longestFound, f_nodeCount, f_stateCount, f_rowCount, fun j => nI (t j), a_pattern, a_order, a_occurs, a_otherOrder, a_rank, a_pairRank, a_nodePlace, a_nodeDepth, a_nodeParent, a_nodeTail, a_nodeBranch, a_waitingNodes, a_stateLength, a_stateLink, a_stateEnd, a_stateTails, a_stateBranch, a_lastColumn) (nI i) (nI e) :=
  ⟨e + 1, zt_x_ms5 hL hi he h4 h e 0 _ (by omega) (by omega)⟩
theorem zt_x_tf5 {post : Int32 → Prop} {i s : Nat} (hL : L ≤ 40) (hi : i < L) (hs : s < 2 ^ 31) (h4 : ∀ i, t i < 4) (h : post (nI (zt_c (fun j => i ≤ j ∧ s ≤ zt_N (zt_g t L) L j i) L))) : ∀ d j n, j + d = L → d < n → i ≤ j → wX_timesFrom_5 post (nI i) (nI s) (nI L) f_patternLength f_distinctFound f_longestFound f_nodeCount f_stateCount f_rowCount (fun j => nI (t j)) a_pattern a_order a_occurs a_otherOrder a_rank a_pairRank a_nodePlace a_nodeDepth a_nodeParent a_nodeTail a_nodeBranch a_waitingNodes a_stateLength a_stateLink a_stateEnd a_stateTails a_stateBranch a_lastColumn n (nI (zt_c (fun j => i ≤ j ∧ s ≤ zt_N (zt_g t L) L j i) j)) (nI j) := by
  intro d
  induction d with
  | zero =>
    intro j n hj hn hij
    obtain ⟨n, rfl⟩ : ∃ m, n = m + 1 := ⟨n - 1, by omega⟩
    have e : j = L := by omega
    subst e
    exact br_t (nI_le (Nat.le_refl _) (by omega)) h
  | succ d ih =>
    intro j n hj hn hij
    obtain ⟨n, rfl⟩ : ∃ m, n = m + 1 := ⟨n - 1, by omega⟩
    have nx := ih (j + 1) n (by omega) (by omega) (by omega)
    have b2 := zt_N_i (g := zt_g t L) (L := L) (i := j) (j := i) (by omega) (by omega)
    refine br_f (nI_ge (by omega) (by omega)) (zt_x_sl 0 hL (by omega) (by omega) h4 (Nat.zero_le _) (zt_br (d := zt_N (zt_g t L) L j i < s) (nI_ltI (by omega) hs) (fun c => nm_r (nI_1 j) ?_) (fun c => nm_r (e' := nI (zt_c (fun j => i ≤ j ∧ s ≤ zt_N (zt_g t L) L j i) (j + 1))) ?_ (nm_r (nI_1 j) nx))))
    · rw [zt_cf (p := fun j => i ≤ j ∧ s ≤ zt_N (zt_g t L) L j i) (fun x => by have := x.2; omega)] at nx
      exact nx
    · rw [zt_ct (p := fun j => i ≤ j ∧ s ≤ zt_N (zt_g t L) L j i) ⟨hij, by omega⟩, nI_1]
theorem zt_x_tf {post : Int32 → Prop} {i s : Nat} (hL : L ≤ 40) (hi : i < L) (hs : s < 2 ^ 31) (h4 : ∀ i, t i < 4) (h : post (nI (zt_c (fun j => i ≤ j ∧ s ≤ zt_N (zt_g t L) L j i) L))) : wpX_timesFrom post (nI L, f_patternLength, f_distinctFound, f_longestFound, f_nodeCount, f_stateCount, f_rowCount, fun j => nI (t j), a_pattern, a_order, a_occurs, a_otherOrder, a_rank, a_pairRank, a_nodePlace, a_nodeDepth, a_nodeParent, a_nodeTail, a_nodeBranch, a_waitingNodes, a_stateLength, a_stateLink, a_stateEnd, a_stateTails, a_stateBranch, a_lastColumn) (nI i) (nI s) := by
  have a : wX_timesFrom_5 post (nI i) (nI s) (nI L) f_patternLength f_distinctFound f_longestFound f_nodeCount f_stateCount f_rowCount (fun j => nI (t j)) a_pattern a_order a_occurs a_otherOrder a_rank a_pairRank a_nodePlace a_nodeDepth a_nodeParent a_nodeTail a_nodeBranch a_waitingNodes a_stateLength a_stateLink a_stateEnd a_stateTails a_stateBranch a_lastColumn (L - i + 1) (nI (zt_c (fun j => i ≤ j ∧ s ≤ zt_N (zt_g t L) L j i) i)) (nI i) := zt_x_tf5 hL hi hs h4 h (L - i) i (L - i + 1) (by omega) (by omega) (Nat.le_refl _)
  rw [zt_cz (p := fun j => i ≤ j ∧ s ≤ zt_N (zt_g t L) L j i) i (fun j hj x => by have := x.1; omega)] at a
  exact ⟨_, a⟩
theorem zt_x_lp2 {post : Int32 → Prop} {i s : Nat} (hL : L ≤ 40) (hi : i < L) (hs : i + s ≤ L) (h4 : ∀ i, t i < 4) (h : ∀ r, zt_lp (zt_g t L) L i s r → post (nI r)) : ∀ d j n, j + d = i → d < n → (∀ j', j' < j → zt_N (zt_g t L) L i j' < s) → wX_leastPlace_2 post (nI i) (nI s) (nI L) f_patternLength f_distinctFound f_longestFound f_nodeCount f_stateCount f_rowCount (fun j => nI (t j)) a_pattern a_order a_occurs a_otherOrder a_rank a_pairRank a_nodePlace a_nodeDepth a_nodeParent a_nodeTail a_nodeBranch a_waitingNodes a_stateLength a_stateLink a_stateEnd a_stateTails a_stateBranch a_lastColumn n (nI j) := by
  intro d
  induction d with
  | zero =>
    intro j n hj hn hb
    obtain ⟨n, rfl⟩ : ∃ m, n = m + 1 := ⟨n - 1, by omega⟩
    have e : j = i := by omega
    subst e
    exact br_t (nI_le (Nat.le_refl _) (by omega)) (h j ⟨Nat.le_refl _, by rw [zt_N_s (by omega)]; omega, hb⟩)
  | succ d ih =>
    intro j n hj hn hb
    obtain ⟨n, rfl⟩ : ∃ m, n = m + 1 := ⟨n - 1, by omega⟩
    have b2 := zt_N_i (g := zt_g t L) (L := L) (i := j) (j := i) (by omega) (by omega)
    have ec := zt_N_c (g := zt_g t L) (L := L) (i := j) (j := i) (by omega) (by omega)
    refine br_f (nI_ge (by omega) (by omega)) (zt_x_sl 0 hL (by omega) (by omega) h4 (Nat.zero_le _) (zt_br (d := zt_N (zt_g t L) L j i < s) (nI_ltI (by omega) (by omega)) (fun c => nm_r (nI_1 j) (ih (j + 1) n (by omega) (by omega) (fun j' hj' => ?_))) (fun c => h j ⟨by omega, by omega, hb⟩)))
    by_cases z : j' = j
    · subst z; omega
    · exact hb j' (by omega)
theorem zt_x_lp {post : Int32 → Prop} {i s : Nat} (hL : L ≤ 40) (hi : i < L) (hs : i + s ≤ L) (h4 : ∀ i, t i < 4) (h : ∀ r, zt_lp (zt_g t L) L i s r → post (nI r)) : wpX_leastPlace post (nI L, f_patternLength, f_distinctFound, f_longestFound, f_nodeCount, f_stateCount, f_rowCount, fun j => nI (t j), a_pattern, a_order, a_occurs, a_otherOrder, a_rank, a_pairRank, a_nodePlace, a_nodeDepth, a_nodeParent, a_nodeTail, a_nodeBranch, a_waitingNodes, a_stateLength, a_stateLink, a_stateEnd, a_stateTails, a_stateBranch, a_lastColumn) (nI i) (nI s) :=
  ⟨i + 1, zt_x_lp2 hL hi hs h4 h i 0 _ (by omega) (by omega) (fun j hj => by omega)⟩
theorem zt_x_rp29 {post : Int32 → Prop} {J : _} {i T B m : Nat} (hL : L ≤ 40) (hi : i < L) (hT : T < 2 ^ 31) (h4 : ∀ i, t i < 4) (hm : zt_m (fun j => zt_N (zt_g t L) L j i) i = m) (h : J (nI (B + zt_c (fun s => zt_Q (zt_g t L) L (fun i => i) i s ∧ T ≤ zt_w (zt_g t L) L i (s + 1)) L)) (nI (i + 1))) : ∀ d b n, i + b + d = L → d < n → m ≤ b → (∀ s, m ≤ s → s < b → T ≤ zt_w (zt_g t L) L i (s + 1)) → wX_repeats_29 post J (nI T) (nI i) (nI L) f_patternLength f_distinctFound f_longestFound f_nodeCount f_stateCount f_rowCount (fun j => nI (t j)) a_pattern a_order a_occurs a_otherOrder a_rank a_pairRank a_nodePlace a_nodeDepth a_nodeParent a_nodeTail a_nodeBranch a_waitingNodes a_stateLength a_stateLink a_stateEnd a_stateTails a_stateBranch a_lastColumn n (nI (B + (b - m))) (nI (b + 1)) := by
  intro d
  induction d with
  | zero =>
    intro b n hb hn h0 h1
    obtain ⟨n, rfl⟩ : ∃ m, n = m + 1 := ⟨n - 1, by omega⟩
    rw [zt_RP_row hi hm h0 (by omega) h1 (Or.inl (by omega))] at h
    exact br_t (by rw [pk_sub (by omega)]; exact nI_lt (by omega) (by omega)) (nm_r (nI_1 i) h)
  | succ d ih =>
    intro b n hb hn h0 h1
    obtain ⟨n, rfl⟩ : ∃ m, n = m + 1 := ⟨n - 1, by omega⟩
    have wl : zt_w (zt_g t L) L i (b + 1) ≤ L := zt_cn _ _
    refine br_f (by rw [pk_sub (by omega)]; exact nI_nlt (by omega) (by omega)) (zt_x_tf hL hi (by omega) h4 ?_)
    rw [zt_w_from hi (by omega)]
    refine zt_br (d := zt_w (zt_g t L) L i (b + 1) < T) (nI_ltI (by omega) hT) (fun c => nm_r (nI_1 i) ?_) (fun c => nm_r (e' := nI (B + (b + 1 - m))) ?_ (nm_r (nI_1 (b + 1)) (ih (b + 1) n (by omega) (by omega) (by omega) (fun s hs1 hs2 => ?_))))
    · rw [zt_RP_row hi hm h0 (by omega) h1 (Or.inr (by omega))] at h
      exact h
    · rw [nI_1]; congr 1; omega
    · by_cases z : s = b
      · subst z; omega
      · exact h1 s hs1 (by omega)
theorem zt_x_rp11 {post : Int32 → Prop} {T : Nat} (hL : L ≤ 40) (hT : T < 2 ^ 31) (h4 : ∀ i, t i < 4) (h : post (nI (zt_RP (zt_g t L) L T))) : ∀ d i n, i + d = L → d < n → wX_repeats_11 post (nI T) (nI L) f_patternLength f_distinctFound f_longestFound f_nodeCount f_stateCount f_rowCount (fun j => nI (t j)) a_pattern a_order a_occurs a_otherOrder a_rank a_pairRank a_nodePlace a_nodeDepth a_nodeParent a_nodeTail a_nodeBranch a_waitingNodes a_stateLength a_stateLink a_stateEnd a_stateTails a_stateBranch a_lastColumn n (nI (zt_s (fun i => zt_c (fun s => zt_Q (zt_g t L) L (fun i => i) i s ∧ T ≤ zt_w (zt_g t L) L i (s + 1)) L) i)) (nI i) := by
  intro d
  induction d with
  | zero =>
    intro i n hi hn
    obtain ⟨n, rfl⟩ : ∃ m, n = m + 1 := ⟨n - 1, by omega⟩
    have e : i = L := by omega
    subst e
    exact br_t (nI_le (Nat.le_refl _) (by omega)) h
  | succ d ih =>
    intro i n hi hn
    obtain ⟨n, rfl⟩ : ∃ m, n = m + 1 := ⟨n - 1, by omega⟩
    have b1 := zt_ms_le (g := zt_g t L) (L := L) (i := i) (n := i) (by omega) (by omega)
    have nx := ih (i + 1) n (by omega) (by omega)
    rw [zt_s1] at nx
    refine br_f (nI_ge (by omega) (by omega)) (zt_x_ms hL (by omega) (by omega) h4 (nm_r (nI_1 _) ⟨L - i - zt_ms (zt_g t L) L i i + 1, ?_⟩))
    have a : wX_repeats_29 post (wX_repeats_11 post (nI T) (nI L) f_patternLength f_distinctFound f_longestFound f_nodeCount f_stateCount f_rowCount (fun j => nI (t j)) a_pattern a_order a_occurs a_otherOrder a_rank a_pairRank a_nodePlace a_nodeDepth a_nodeParent a_nodeTail a_nodeBranch a_waitingNodes a_stateLength a_stateLink a_stateEnd a_stateTails a_stateBranch a_lastColumn n) (nI T) (nI i) (nI L) f_patternLength f_distinctFound f_longestFound f_nodeCount f_stateCount f_rowCount (fun j => nI (t j)) a_pattern a_order a_occurs a_otherOrder a_rank a_pairRank a_nodePlace a_nodeDepth a_nodeParent a_nodeTail a_nodeBranch a_waitingNodes a_stateLength a_stateLink a_stateEnd a_stateTails a_stateBranch a_lastColumn (L - i - zt_ms (zt_g t L) L i i + 1) (nI (zt_s (fun i => zt_c (fun s => zt_Q (zt_g t L) L (fun i => i) i s ∧ T ≤ zt_w (zt_g t L) L i (s + 1)) L) i + (zt_ms (zt_g t L) L i i - zt_ms (zt_g t L) L i i))) (nI (zt_ms (zt_g t L) L i i + 1)) := zt_x_rp29 (B := zt_s (fun i => zt_c (fun s => zt_Q (zt_g t L) L (fun i => i) i s ∧ T ≤ zt_w (zt_g t L) L i (s + 1)) L) i) hL (by omega) hT h4 (zt_ms_i _ _ _).symm nx (L - i - zt_ms (zt_g t L) L i i) (zt_ms (zt_g t L) L i i) (L - i - zt_ms (zt_g t L) L i i + 1) (by omega) (by omega) (Nat.le_refl _) (fun s h1 h2 => by omega)
    rw [Nat.sub_self, Nat.add_zero] at a
    exact a
theorem zt_x_rp {post : Int32 → Prop} {x : Int32} (hL : L ≤ 40) (h4 : ∀ i, t i < 4) (h1 : ∀ T, 1 ≤ T → T < 2 ^ 31 → x = nI T → post (nI (zt_RP (zt_g t L) L T))) (h0 : ¬ 1 ≤ x → post (-1)) : wpX_repeats post (nI L, f_patternLength, f_distinctFound, f_longestFound, f_nodeCount, f_stateCount, f_rowCount, fun j => nI (t j), a_pattern, a_order, a_occurs, a_otherOrder, a_rank, a_pairRank, a_nodePlace, a_nodeDepth, a_nodeParent, a_nodeTail, a_nodeBranch, a_waitingNodes, a_stateLength, a_stateLink, a_stateEnd, a_stateTails, a_stateBranch, a_lastColumn) x := by
  refine br_c (fun c => ?_) h0
  obtain ⟨T, hT, rfl⟩ := nI_of (x := x) (Int32.not_lt.mpr (Int32.le_trans (by decide) c))
  have c1 : 1 ≤ T := (nI_leI (a := 1) (by omega) hT).1 c
  exact ⟨L + 1, zt_x_rp11 hL hT h4 (h1 T c1 hT rfl) L 0 _ (by omega) (by omega)⟩
end
section
variable {f_size f_width : Int32} {a_text a_pattern a_shared : Nat → Int32}
variable {t : Nat → Nat} {L : Nat} {sh : Nat → Int32}
theorem zt_y_un14 {post : Int32 → Prop} {i : Nat} (hL : L ≤ 40) (hs : zt_sh t L sh) (hi : i < L) (h : post (nI (if L - i < zt_ms (zt_g t L) L i L + 1 then 0 else zt_ms (zt_g t L) L i L + 1))) : ∀ d j n, j + d = L → d < n → wY_unique_14 post (nI i) (nI L) f_width (fun j => nI (t j)) a_pattern sh n (nI (zt_ms (zt_g t L) L i j)) (nI j) := by
  intro d
  induction d with
  | zero =>
    intro j n hj hn
    obtain ⟨n, rfl⟩ : ∃ m, n = m + 1 := ⟨n - 1, by omega⟩
    have e : j = L := by omega
    subst e
    have b1 := zt_ms_le (g := zt_g t j) (L := j) (i := i) (n := j) (by omega) (by omega)
    refine br_t (nI_le (Nat.le_refl _) (by omega)) (pk_le j (i + zt_ms (zt_g t j) j i j) (fun c => ?_) (fun c => ?_) rfl (nI_add _ _))
    · rw [if_pos (by omega)] at h; exact h
    · rw [if_neg (by omega)] at h; rw [nI_1]; exact h
  | succ d ih =>
    intro j n hj hn
    obtain ⟨n, rfl⟩ : ∃ m, n = m + 1 := ⟨n - 1, by omega⟩
    have nx := ih (j + 1) n (by omega) (by omega)
    have b1 := zt_ms_le (g := zt_g t L) (L := L) (i := i) (n := j) (by omega) (by omega)
    have b2 := zt_N_i (g := zt_g t L) (L := L) (i := j) (j := i) (by omega) (by omega)
    have ec := zt_N_c (g := zt_g t L) (L := L) (i := i) (j := j) (by omega) (by omega)
    have a := zt_y_at hs (i := i) (j := j) (by omega) (by omega)
    rw [ec] at a
    unfold zt_ms at nx
    rw [zt_m1] at nx
    change wY_unique_14 post (nI i) (nI L) f_width (fun j => nI (t j)) a_pattern sh n (nI (if zt_ms (zt_g t L) L i j < (if j = i then 0 else zt_N (zt_g t L) L j i) then (if j = i then 0 else zt_N (zt_g t L) L j i) else zt_ms (zt_g t L) L i j)) (nI (j + 1)) at nx
    refine br_f (nI_ge (by omega) (by omega)) (pk_eq j i (fun c => nm_r (nI_1 j) ?_) (fun c => ⟨a.1, zt_br (d := zt_N (zt_g t L) L j i ≤ zt_ms (zt_g t L) L i j) (by rw [a.2]; exact nI_leI (by omega) (by omega)) (fun e => nm_r (nI_1 j) ?_) (fun e => ⟨a.1, nm_r a.2 (nm_r (nI_1 j) ?_)⟩)⟩))
    · rw [if_pos c, if_neg (by omega)] at nx; exact nx
    · rw [if_neg c, if_neg (by omega)] at nx; exact nx
    · rw [if_neg c, if_pos (by omega)] at nx; exact nx
end
