/-! engine 2: listing, measures, the pattern -/
theorem zt_nt0 {a : Nat} (h : a < 2 ^ 31) : nI a - 1 = -1 ↔ a = 0 := by
  constructor
  · intro e
    refine Classical.byContradiction fun c => ?_
    obtain ⟨a', rfl⟩ : ∃ a', a = a' + 1 := ⟨a - 1, by omega⟩
    rw [nI_pred] at e
    exact zt_ne1 (by omega) e
  · intro e
    subst e
    rfl
section
variable {f_length f_patternLength f_distinctFound f_longestFound f_nodeCount f_stateCount f_rowCount : Int32} {a_text a_pattern a_order a_occurs a_otherOrder a_rank a_pairRank a_nodePlace a_nodeDepth a_nodeParent a_nodeTail a_nodeBranch a_waitingNodes a_stateLength a_stateLink a_stateEnd a_stateTails a_stateBranch a_lastColumn : Nat → Int32}
variable {t pat : Nat → Nat} {L m n : Nat} {E l p nt b : Nat → Nat}
theorem zt_x_lu68 {post : Int32 → SX → Prop} {J : _} {v0 v found vis : Nat} (hL : L ≤ 40) (H : zt_H (zt_g t L) L L n E l p b nt) (hv : v < n) (hJ : ∀ (h : Nat) (st : Nat → Nat), zt_SS (zt_g t L) L n E l v0 st h found (vis + 1) → J (nI found) (nI h) (nI (vis + 1)) (fun j => nI (t j)) a_pattern a_order a_occurs a_otherOrder a_rank a_pairRank a_nodePlace (fun j => nI (l j)) (fun j => nI (p j)) (fun j => nI (nt j) - 1) (fun j => nI (b j)) (fun j => nI (st j)) a_stateLength a_stateLink a_stateEnd a_stateTails a_stateBranch a_lastColumn) : ∀ (c f h : Nat) (st : Nat → Nat) (x : Int32), c ≤ 4 → c < f → x = nI c - 1 → zt_SQ' (zt_g t L) L n E l b nt v0 v st h c found (vis + 1) → wX_listTailsUnder_68 post J (nI found) (nI vis) (nI v) (nI L) f_patternLength f_distinctFound f_longestFound (nI n) f_stateCount f_rowCount f (nI h) x (fun j => nI (t j)) a_pattern a_order a_occurs a_otherOrder a_rank a_pairRank a_nodePlace (fun j => nI (l j)) (fun j => nI (p j)) (fun j => nI (nt j) - 1) (fun j => nI (b j)) (fun j => nI (st j)) a_stateLength a_stateLink a_stateEnd a_stateTails a_stateBranch a_lastColumn := by
  have hz := zt_g_Z t L
  have n81 : n ≤ 81 := by have := H.2; omega
  intro c
  induction c with
  | zero =>
    intro f h st x hc hf hx S
    obtain ⟨f, rfl⟩ : ∃ m, f = m + 1 := ⟨f - 1, by omega⟩
    subst hx
    exact br_t (by decide) (nm_r (nI_1 vis) (hJ h st (zt_SS_c0 S)))
  | succ c ih =>
    intro f h st x hc hf hx S
    obtain ⟨f, rfl⟩ : ∃ m, f = m + 1 := ⟨f - 1, by omega⟩
    rw [nI_pred] at hx
    subst hx
    have ei : (nI v * 4 + nI c).toNatClampNeg = v * 4 + c := pk_cl _ (zt_ix4 v c)
    refine br_f (nI_pos (by omega)) ⟨pk_in (v * 4 + c) 324 (by omega) (zt_ix4 v c), nm_r (e' := nI (b (v * 4 + c))) (by simp only [ei]) ?_⟩
    by_cases e : b (v * 4 + c) = 0
    · have S' := zt_SS_no hz H hv (by omega) e S
      rw [e]
      exact br_t rfl (nm_r (zt_m1s _) (ih f h st _ (by omega) (by omega) rfl S'))
    · have S' := zt_SS_ch hz H hv (by omega) e S
      have u1 := (H.1.2.1.1 v c hv (by omega) e).1
      exact br_f (nI_ne0 (by omega) (by omega)) ⟨pk_in h 81 (by omega), nm_r (zt_upE h (b (v * 4 + c)) (pk_cl h) rfl) (nm_r (nI_1 h) (nm_r (zt_m1s _) (ih f (h + 1) _ _ (by omega) (by omega) rfl S'.2)))⟩
theorem zt_x_lu14 {post : Int32 → SX → Prop} {v0 : Nat} (hL : L ≤ 40) (h4 : ∀ i, t i < 4) (H : zt_H (zt_g t L) L L n E l p b nt) (hp : ∀ (st o : Nat → Nat), zt_ls (zt_g t L) L (zt_off (zt_g t L) L E l v0) (zt_cA (zt_g t L) L E l v0) o → post (nI (zt_cA (zt_g t L) L E l v0)) (nI L, f_patternLength, f_distinctFound, f_longestFound, nI (n), f_stateCount, f_rowCount, fun j => nI (t j), a_pattern, fun j => nI (o j), a_occurs, a_otherOrder, a_rank, a_pairRank, a_nodePlace, fun j => nI ((l) j), fun j => nI ((p) j), fun j => nI ((nt) j) - 1, fun j => nI ((b) j), fun j => nI (st j), a_stateLength, a_stateLink, a_stateEnd, a_stateTails, a_stateBranch, a_lastColumn)) : ∀ (f found h vis : Nat) (st o : Nat → Nat), n - vis < f → zt_SS (zt_g t L) L n E l v0 st h found vis → zt_ls (zt_g t L) L (zt_off (zt_g t L) L E l v0) found o → wX_listTailsUnder_14 post (nI L) f_patternLength f_distinctFound f_longestFound (nI n) f_stateCount f_rowCount f (nI found) (nI h) (nI vis) (fun j => nI (t j)) a_pattern (fun j => nI (o j)) a_occurs a_otherOrder a_rank a_pairRank a_nodePlace (fun j => nI (l j)) (fun j => nI (p j)) (fun j => nI (nt j) - 1) (fun j => nI (b j)) (fun j => nI (st j)) a_stateLength a_stateLink a_stateEnd a_stateTails a_stateBranch a_lastColumn := by
  have hz := zt_g_Z t L
  have g4 := zt_g_4 h4 L
  have n81 : n ≤ 81 := by have := H.2; omega
  intro f
  induction f with
  | zero => intro found h vis st o hf; omega
  | succ f ih =>
    intro found h vis st o hf S hl
    have fin : (h = 0 ∨ n ≤ vis) → post (nI found) (nI L, f_patternLength, f_distinctFound, f_longestFound, nI (n), f_stateCount, f_rowCount, fun j => nI (t j), a_pattern, fun j => nI (o j), a_occurs, a_otherOrder, a_rank, a_pairRank, a_nodePlace, fun j => nI ((l) j), fun j => nI ((p) j), fun j => nI ((nt) j) - 1, fun j => nI ((b) j), fun j => nI (st j), a_stateLength, a_stateLink, a_stateEnd, a_stateTails, a_stateBranch, a_lastColumn) := fun c => by
      have e := zt_SS_end H S c
      subst e
      exact hp st o hl
    have vb : vis ≤ n := by
      have s4 := S.2.2.2
      have s6 := zt_sub_n (g := zt_g t L) (L := L) (n := n) (E := E) (l := l) v0
      omega
    have hb : h ≤ n := by
      have s4 := S.2.2.2
      have s5 := zt_s_ge (fun j => zt_sub (zt_g t L) L n E l (st j)) h (fun i hi => zt_sub_1 H (S.1 i hi))
      have s6 := zt_sub_n (g := zt_g t L) (L := L) (n := n) (E := E) (l := l) v0
      omega
    refine pk_le n vis (fun c => fin (Or.inr c)) (fun c => pk_le h 0 (fun c2 => fin (Or.inl (by omega))) (fun c2 => ?_))
    obtain ⟨h, rfl⟩ : ∃ h', h = h' + 1 := ⟨h - 1, by omega⟩
    obtain ⟨p1, p2, p3, p4, p5⟩ := zt_SS_pop hz g4 H S
    have fl := zt_SS_f hz g4 H S
    have eh : (nI h).toNatClampNeg = h := pk_cl h
    refine nm_r (pk_m1 h) ⟨pk_in h 81 (by omega), nm_r (e' := nI (st h)) (by simp only [eh]) ⟨pk_in (st h) 81 (by omega), ?_⟩⟩
    have ev : (nI (st h)).toNatClampNeg = st h := pk_cl _
    simp only [ev]
    have bnt : nt (st h) ≤ L := by
      by_cases z : nt (st h) = 0
      · omega
      · obtain ⟨i, hi⟩ : ∃ i, nt (st h) = i + 1 := ⟨nt (st h) - 1, by omega⟩
        have := (zt_r_off hz H p1 hi).1
        omega
    refine zt_br (zt_nt0 (by omega)) (fun z => ?_) (fun z => ?_)
    · have ed : zt_dt nt (st h) = 0 := if_pos z
      rw [ed] at p5
      exact ⟨5, zt_x_lu68 (v0 := v0) hL H p1 (fun h' st' S' => ih found h' (vis + 1) st' o (by omega) S' hl) 4 5 h st _ (by omega) (by omega) (by decide) p5⟩
    · have ed : zt_dt nt (st h) = 1 := if_neg z
      rw [ed] at p5 fl
      obtain ⟨i, hi⟩ : ∃ i, nt (st h) = i + 1 := ⟨nt (st h) - 1, by omega⟩
      obtain ⟨i1, i2, i3⟩ := zt_r_off hz H p1 hi
      refine ⟨pk_in (st h) 81 (by omega), pk_in found 40 (by omega), nm_r (zt_upE found i (pk_cl found) (by rw [hi, nI_pred])) (nm_r (nI_1 found) ⟨5, zt_x_lu68 (v0 := v0) hL H p1 (fun h' st' S' => ih (found + 1) h' (vis + 1) st' _ (by omega) S' (zt_ls_1 hl i1 (i3.trans p4))) 4 5 h st _ (by omega) (by omega) (by decide) p5⟩)⟩
theorem zt_x_lu {post : Int32 → SX → Prop} {v0 : Nat} (hL : L ≤ 40) (h4 : ∀ i, t i < 4) (H : zt_H (zt_g t L) L L n E l p b nt) (hv : v0 < n) (hp : ∀ (st o : Nat → Nat), zt_ls (zt_g t L) L (zt_off (zt_g t L) L E l v0) (zt_cA (zt_g t L) L E l v0) o → post (nI (zt_cA (zt_g t L) L E l v0)) (nI L, f_patternLength, f_distinctFound, f_longestFound, nI (n), f_stateCount, f_rowCount, fun j => nI (t j), a_pattern, fun j => nI (o j), a_occurs, a_otherOrder, a_rank, a_pairRank, a_nodePlace, fun j => nI ((l) j), fun j => nI ((p) j), fun j => nI ((nt) j) - 1, fun j => nI ((b) j), fun j => nI (st j), a_stateLength, a_stateLink, a_stateEnd, a_stateTails, a_stateBranch, a_lastColumn)) : wpX_listTailsUnder post (nI L, f_patternLength, f_distinctFound, f_longestFound, nI (n), f_stateCount, f_rowCount, fun j => nI (t j), a_pattern, a_order, a_occurs, a_otherOrder, a_rank, a_pairRank, a_nodePlace, fun j => nI ((l) j), fun j => nI ((p) j), fun j => nI ((nt) j) - 1, fun j => nI ((b) j), a_waitingNodes, a_stateLength, a_stateLink, a_stateEnd, a_stateTails, a_stateBranch, a_lastColumn) (nI v0) := by
  obtain ⟨st, rfl⟩ := zt_arr a_waitingNodes
  obtain ⟨o, rfl⟩ := zt_arr a_order
  refine nm_r (zt_upI st 0 v0) ⟨n + 1, zt_x_lu14 hL h4 H hp (n + 1) 0 1 0 _ o (by omega) (zt_SS_0 hv (zt_us _ _ _)) (fun f hf => by omega)⟩
theorem zt_x_mt2 {post : SX → Prop} (hL : L ≤ 40) (H : zt_H (zt_g t L) L L n E l p b nt) (h : post (nI L, f_patternLength, nI (zt_s (fun v => l v - l (p v)) n), nI (zt_m (fun v => if v = 0 then 0 else l (p v)) n), nI (n), f_stateCount, f_rowCount, fun j => nI (t j), a_pattern, a_order, a_occurs, a_otherOrder, a_rank, a_pairRank, a_nodePlace, fun j => nI ((l) j), fun j => nI ((p) j), fun j => nI ((nt) j) - 1, fun j => nI ((b) j), a_waitingNodes, a_stateLength, a_stateLink, a_stateEnd, a_stateTails, a_stateBranch, a_lastColumn)) : ∀ d v f, v + d = n → d < f → 0 < v → wX_measureTree_2 post f (nI v) (nI L) f_patternLength (nI (zt_s (fun v => l v - l (p v)) v)) (nI (zt_m (fun v => if v = 0 then 0 else l (p v)) v)) (nI (n)) f_stateCount f_rowCount (fun j => nI (t j)) a_pattern a_order a_occurs a_otherOrder a_rank a_pairRank a_nodePlace (fun j => nI ((l) j)) (fun j => nI ((p) j)) (fun j => nI ((nt) j) - 1) (fun j => nI ((b) j)) a_waitingNodes a_stateLength a_stateLink a_stateEnd a_stateTails a_stateBranch a_lastColumn := by
  have n81 : n ≤ 81 := by have := H.2; omega
  have lb : ∀ v, v < n → l v ≤ L := fun v hv => by
    have a := H.1.1.2.1 v hv
    have b := zt_P_L (Nat.le_refl _) a.1
    have c := a.2.1
    rw [zt_N_s b] at c
    omega
  intro d
  induction d with
  | zero =>
    intro v f hv hf v0
    obtain ⟨f, rfl⟩ : ∃ m, f = m + 1 := ⟨f - 1, by omega⟩
    have e : v = n := by omega
    subst e
    exact br_t (nI_le (Nat.le_refl _) (by omega)) h
  | succ d ih =>
    intro v f hv hf v0
    obtain ⟨f, rfl⟩ : ∃ m, f = m + 1 := ⟨f - 1, by omega⟩
    have nx := ih (v + 1) f (by omega) (by omega) (by omega)
    have cv := H.1.1.2.2.2.2 v v0 (by omega : v < n)
    have pn : p v < n := cv.1
    have b1 := lb v (by omega)
    have b2 := lb (p v) pn
    have b3 : zt_m (fun v => if v = 0 then 0 else l (p v)) v ≤ L := zt_m_le fun i hi => by
      split
      · omega
      · exact lb _ (H.1.1.2.2.2.2 i (by omega) (by omega : i < n)).1
    rw [zt_s1, zt_m1] at nx
    simp only [if_neg (show ¬ v = 0 by omega)] at nx
    have ev : (nI v).toNatClampNeg = v := pk_cl v
    have ep : (nI (p v)).toNatClampNeg = p v := pk_cl _
    have vv : vp_in (nI v) 81 := pk_in v 81 (by omega)
    refine br_f (nI_ge (by omega) (by omega)) ⟨vv, ?_⟩
    simp only [ev]
    refine ⟨pk_in (p v) 81 (by omega), nm_r (e' := nI (l (p v))) (by simp only [ep]) ⟨vv, nm_r (e' := nI (zt_s (fun v => l v - l (p v)) v + (l v - l (p v)))) ?_ (zt_x_nl (by omega) (by omega) (nm_r (nI_1 v) nx))⟩⟩
    rw [pk_sub (by have := cv.2.1; omega), nI_add]
theorem zt_x_mt {post : SX → Prop} (hL : L ≤ 40) (H : zt_H (zt_g t L) L L n E l p b nt) (h : ∀ G, zt_G (zt_g t L) L G → post (nI L, f_patternLength, nI (zt_D (zt_g t L) L (fun i => i)), nI G, nI (n), f_stateCount, f_rowCount, fun j => nI (t j), a_pattern, a_order, a_occurs, a_otherOrder, a_rank, a_pairRank, a_nodePlace, fun j => nI ((l) j), fun j => nI ((p) j), fun j => nI ((nt) j) - 1, fun j => nI ((b) j), a_waitingNodes, a_stateLength, a_stateLink, a_stateEnd, a_stateTails, a_stateBranch, a_lastColumn)) : wpX_measureTree post (nI L, f_patternLength, 0, 0, nI (n), f_stateCount, f_rowCount, fun j => nI (t j), a_pattern, a_order, a_occurs, a_otherOrder, a_rank, a_pairRank, a_nodePlace, fun j => nI ((l) j), fun j => nI ((p) j), fun j => nI ((nt) j) - 1, fun j => nI ((b) j), a_waitingNodes, a_stateLength, a_stateLink, a_stateEnd, a_stateTails, a_stateBranch, a_lastColumn) := by
  have n0 : 0 < n := H.1.1.1.1
  have e1 : zt_s (fun v => l v - l (p v)) 1 = 0 := by
    rw [zt_s1, zt_s0, H.1.1.1.2]; omega
  have e2 : zt_m (fun v => if v = 0 then 0 else l (p v)) 1 = 0 := rfl
  have e3 : zt_s (fun v => l v - l (p v)) n = zt_D (zt_g t L) L (fun i => i) := H.1.2.2.2.trans (zt_sg_D _ _)
  have a : wX_measureTree_2 post (n - 1 + 1) (nI 1) (nI L) f_patternLength (nI (zt_s (fun v => l v - l (p v)) 1)) (nI (zt_m (fun v => if v = 0 then 0 else l (p v)) 1)) (nI (n)) f_stateCount f_rowCount (fun j => nI (t j)) a_pattern a_order a_occurs a_otherOrder a_rank a_pairRank a_nodePlace (fun j => nI ((l) j)) (fun j => nI ((p) j)) (fun j => nI ((nt) j) - 1) (fun j => nI ((b) j)) a_waitingNodes a_stateLength a_stateLink a_stateEnd a_stateTails a_stateBranch a_lastColumn := zt_x_mt2 hL H (by rw [e3]; exact h _ (zt_H_m H)) (n - 1) 1 _ (by omega) (by omega) (by omega)
  rw [e1, e2] at a
  exact ⟨_, a⟩
end
