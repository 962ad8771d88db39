/-! engine 3: a letter read -/
section
variable {t : Nat → Nat} {L k n : Nat} {E l lk en tl b : Nat → Nat} {la : Nat}
theorem zt_upK {f : Nat → Nat} {y : Int32} (k v : Nat) (hy : y = nI v - 1) : upd (fun j => nI (f j) - 1) k y = fun j => nI (zt_up f k v j) - 1 := by
  rw [hy]; exact zt_upN f k v
theorem zt_tz {n : Nat} {tl : Nat → Nat} (h : ∀ v, v < n → tl v = 0) (v : Nat) (hv : v < n + 1) : zt_up tl n 0 v = 0 := by
  by_cases c : v = n
  · rw [c, zt_us]
  · rw [zt_un _ _ c]; exact h v (by omega)
theorem zt_AU_leaf {b' : Nat → Nat} {w : Nat} (n0 : 0 < n) (l0 : lk 0 = 0) (lp : ∀ v, 0 < v → v < n → 0 < lk v) (tz : ∀ v, v < n → tl v = 0) (h : zt_M t L (k + 1) (n + 1) (zt_up E n (k + 1)) (zt_up l n (k + 1)) (zt_up (fun v => lk v - 1) n w) b' (zt_up en n (k + 1)) n) : zt_AU t L (k + 1) (n + 1) (zt_up l n (k + 1)) (zt_up (zt_up lk n 0) n (w + 1)) (zt_up en n (k + 1)) (zt_up tl n 0) b' n := by
  rw [zt_upp]
  refine ⟨⟨zt_up E n (k + 1), ?_⟩, ?_, fun v v0 hv => ?_, zt_tz tz⟩
  · rw [zt_ups]; exact h
  · rw [zt_un _ _ (by omega)]; exact l0
  · by_cases c : v = n
    · rw [c, zt_us]; omega
    · rw [zt_un _ _ c]; exact lp v v0 (by omega)
theorem zt_AU_twin {b' : Nat → Nat} {x m : Nat} (n0 : 0 < n) (x0 : 0 < x) (hx : x < n) (l0 : lk 0 = 0) (lp : ∀ v, 0 < v → v < n → 0 < lk v) (tz : ∀ v, v < n → tl v = 0) (h : zt_M t L (k + 1) (n + 2) (zt_up (zt_up E (n + 1) (E x)) n (k + 1)) (zt_up (zt_up l (n + 1) m) n (k + 1)) (zt_up (zt_up (zt_up (fun v => lk v - 1) (n + 1) (lk x - 1)) x (n + 1)) n (n + 1)) b' (zt_up (zt_up en n (k + 1)) (n + 1) 0) n) : zt_AU t L (k + 1) (n + 2) (zt_up (zt_up l n (k + 1)) (n + 1) m) (zt_up (zt_up (zt_up (zt_up lk n 0) (n + 1) (zt_up lk n 0 x)) x (n + 2)) n (n + 2)) (zt_up (zt_up en n (k + 1)) (n + 1) 0) (zt_up (zt_up tl n 0) (n + 1) 0) b' n := by
  have ep : (fun v => zt_up (zt_up (zt_up (zt_up lk n 0) (n + 1) (zt_up lk n 0 x)) x (n + 2)) n (n + 2) v - 1) = zt_up (zt_up (zt_up (fun v => lk v - 1) (n + 1) (lk x - 1)) x (n + 1)) n (n + 1) := by
    funext v
    by_cases c1 : v = n
    · subst c1
      rw [zt_us, zt_us]; omega
    · rw [zt_un _ _ c1, zt_un _ _ c1]
      by_cases c2 : v = x
      · subst c2
        rw [zt_us, zt_us]; omega
      · rw [zt_un _ _ c2, zt_un _ _ c2]
        by_cases c3 : v = n + 1
        · subst c3
          rw [zt_us, zt_us, zt_un _ _ (by omega)]
        · rw [zt_un _ _ c3, zt_un _ _ c3, zt_un _ _ c1]
  rw [zt_upc l _ _ (by omega : n ≠ n + 1)]
  refine ⟨⟨_, by rw [ep]; exact h⟩, ?_, fun v v0 hv => ?_, zt_tz (zt_tz tz)⟩
  · rw [zt_un _ _ (by omega), zt_un _ _ (by omega), zt_un _ _ (by omega), zt_un _ _ (by omega)]; exact l0
  · by_cases c1 : v = n
    · rw [c1, zt_us]; omega
    · rw [zt_un _ _ c1]
      by_cases c2 : v = x
      · rw [c2, zt_us]; omega
      · rw [zt_un _ _ c2]
        by_cases c3 : v = n + 1
        · rw [c3, zt_us, zt_un _ _ (by omega)]; exact lp x x0 hx
        · rw [zt_un _ _ c3, zt_un _ _ c1]; exact lp v v0 (by omega)
end
section
variable {f_length f_patternLength f_distinctFound f_longestFound f_nodeCount f_stateCount f_rowCount : Int32} {a_text a_pattern a_order a_occurs a_otherOrder a_rank a_pairRank a_nodePlace a_nodeDepth a_nodeParent a_nodeTail a_nodeBranch a_waitingNodes a_stateLength a_stateLink a_stateEnd a_stateTails a_stateBranch a_lastColumn : Nat → Int32}
variable {t pat : Nat → Nat} {L m : Nat}
theorem zt_x_rl {post : Int32 → SX → Prop} {k n la : Nat} {l lk en tl b : Nat → Nat} (hL : L ≤ 40) (hk : k < L) (h4 : ∀ i, t i < 4) (H : zt_AU t L k n l lk en tl b la) (h : ∀ (n : Nat) (l lk en tl b : Nat → Nat) (la : Nat), zt_AU t L (k + 1) n l lk en tl b la → post (nI la) (nI L, f_patternLength, f_distinctFound, f_longestFound, f_nodeCount, nI (n), f_rowCount, fun j => nI (t j), a_pattern, a_order, a_occurs, a_otherOrder, a_rank, a_pairRank, a_nodePlace, a_nodeDepth, a_nodeParent, a_nodeTail, a_nodeBranch, a_waitingNodes, fun j => nI ((l) j), fun j => nI ((lk) j) - 1, fun j => nI ((en) j) - 1, fun j => nI ((tl) j), fun j => nI ((b) j), a_lastColumn)) : wpX_readLetter post (nI L, f_patternLength, f_distinctFound, f_longestFound, f_nodeCount, nI (n), f_rowCount, fun j => nI (t j), a_pattern, a_order, a_occurs, a_otherOrder, a_rank, a_pairRank, a_nodePlace, a_nodeDepth, a_nodeParent, a_nodeTail, a_nodeBranch, a_waitingNodes, fun j => nI ((l) j), fun j => nI ((lk) j) - 1, fun j => nI ((en) j) - 1, fun j => nI ((tl) j), fun j => nI ((b) j), a_lastColumn) (nI la) (nI k) := by
  obtain ⟨⟨E, M⟩, l0, lp, tz⟩ := H
  obtain ⟨n1, n2⟩ := M.2.2.2.2.2
  have laN := M.2.2.2.2.1.1
  have n0 : 0 < n := by omega
  have tk := h4 k
  have ek : (nI k).toNatClampNeg = k := pk_cl k
  have en' : (nI n).toNatClampNeg = n := pk_cl n
  unfold wpX_readLetter
  refine ⟨pk_in k 40 (by omega), nm_r (e' := nI (t k)) (by simp only [ek]) ?_⟩
  rw [nI_1 k]
  refine zt_x_ns (q := k + 1) (e := k + 1) (by omega) (zt_I1 k) ?_
  refine ⟨n + 2, zt_x_tu6 (old := 0) (tg := n) (sc := n + 1) (c := t k) (lk := zt_up lk n 0) (zt_J1 t L k n E l b) (by omega) tk (by omega) (fun i s b' J => ?_) (fun i b' J => ?_) (fun i s b' J hne => ?_) (n + 2) 0 (la + 1) _ _ (by omega) (by omega) (by omega) (zt_I1 la) (zt_J1_0 hk M (fun c hc => zt_zb_n b n hc) (fun u c hu hc => zt_zb_o b (by omega) hc))⟩
  · obtain ⟨a1, a2, a3, a4, a5, a6⟩ := zt_J1_s h4 hk M l0 lp J
    rw [zt_un lk _ (by omega : s ≠ n)]
    exact ⟨by omega, by omega, by omega, fun z => ⟨by have := (a6 z).1; omega, (a6 z).2⟩⟩
  · rcases J with ⟨_, hT⟩ | ⟨v, e, _⟩
    · exact br_t rfl ⟨pk_in n 81 (by omega), nm_r (zt_upM n 1 en' rfl) (h _ _ _ _ _ _ _ (zt_AU_leaf n0 l0 lp tz (zt_T1_none h4 hk M hT (zt_us _ _ _) (fun u hu => zt_un _ _ (by omega)))))⟩
    · omega
  · obtain ⟨a1, a2, on, hT, a5, a6⟩ := zt_J1_s h4 hk M l0 lp J
    obtain ⟨x, hx⟩ : ∃ x, b' (s * 4 + t k) = x := ⟨_, rfl⟩
    rw [hx] at hne a5
    have es : (nI s).toNatClampNeg = s := pk_cl s
    have ex : (nI x).toNatClampNeg = x := pk_cl x
    have ei : (nI s * 4 + nI (t k)).toNatClampNeg = s * 4 + t k := pk_cl _ (zt_ix4 _ _)
    have ls : l s ≤ k := by
      have o' : l s ≤ zt_V t L (E s) k := on
      have b1 : E s ≤ k := (M.1.2.1 s a1).1
      have := zt_V_r (t := t) (L := L) (e := E s) (f := k) (by omega) (by omega)
      omega
    have lx : l x ≤ k := by
      have c := M.1.2.1 x a5
      have c1 : E x ≤ k := c.1
      have c2 := c.2.1
      rw [zt_V_s (by omega)] at c2
      omega
    refine br_f (zt_ne1 (by omega)) ⟨pk_in (s * 4 + t k) 324 (by omega) (zt_ix4 _ _), nm_r (e' := nI x) (by simp only [ei, hx]) ⟨pk_in x 81 (by omega), pk_in s 81 (by omega), ?_⟩⟩
    simp only [ex, es]
    rw [zt_un l _ (by omega : x ≠ n), zt_un l _ (by omega : s ≠ n), nI_1 (l s)]
    refine zt_br (nI_eq (by omega) (by omega)) (fun e => ?_) (fun e => ?_)
    · exact ⟨pk_in n 81 (by omega), nm_r (zt_upM n (x + 1) en' (zt_I1 x)) (h _ _ _ _ _ _ _ (zt_AU_leaf n0 l0 lp tz (zt_T1_leaf h4 hk M a1 on hT hx hne e (zt_us _ _ _) (fun u hu => zt_un _ _ (by omega)))))⟩
    · refine ⟨pk_in s 81 (by omega), zt_x_nt (n := n + 1) (x := x) (q := l s + 1) (by omega) (by omega) ?_⟩
      have hb1 : ∀ u c, u < n + 1 → c < 4 → zt_cb (zt_zb b' (n + 1)) (n + 1) x (u * 4 + c) = b' (u * 4 + c) := fun u c hu hc => by
        rw [zt_cb_o _ _ (by omega) hc, zt_zb_o _ (by omega) hc]
      have hb2 : ∀ c, c < 4 → zt_cb (zt_zb b' (n + 1)) (n + 1) x ((n + 1) * 4 + c) = b' (x * 4 + c) := fun c hc => by
        rw [zt_cb_n _ _ _ hc, zt_zb_o _ (by omega) hc]
      have hb3 : ∀ u c, u < n → c < 4 → ¬ (c = t k ∧ zt_On t L k E l u ∧ l s + 1 ≤ l u) → zt_cb (zt_zb b' (n + 1)) (n + 1) x (u * 4 + c) = b (u * 4 + c) := fun u c hu hc hne' => (hb1 u c (by omega) hc).trans (hT.2.2 u c hu hc hne')
      have fin : ∀ (d : Nat) (b'' : Nat → Nat), zt_T2 t L k n E l b x (l s + 1) (zt_cb (zt_zb b' (n + 1)) (n + 1) x) d b'' → (d = 0 ∨ ∃ w, w < n ∧ zt_On t L k E l w ∧ l w ≤ l s ∧ d = l w + 1 ∧ b'' (w * 4 + t k) ≠ x) → post (nI n) (nI L, f_patternLength, f_distinctFound, f_longestFound, f_nodeCount, nI (n + 2), f_rowCount, fun j => nI (t j), a_pattern, a_order, a_occurs, a_otherOrder, a_rank, a_pairRank, a_nodePlace, a_nodeDepth, a_nodeParent, a_nodeTail, a_nodeBranch, a_waitingNodes, fun j => nI ((zt_up (zt_up l n (k + 1)) (n + 1) (l s + 1)) j), fun j => nI ((zt_up (zt_up (zt_up (zt_up lk n 0) (n + 1) (zt_up lk n 0 x)) x (n + 2)) n (n + 2)) j) - 1, fun j => nI ((zt_up (zt_up en n (k + 1)) (n + 1) 0) j) - 1, fun j => nI ((zt_up (zt_up tl n 0) (n + 1) 0) j), fun j => nI ((b'') j), a_lastColumn) := fun d b'' T2 hd =>
        h _ _ _ _ _ _ _ (zt_AU_twin n0 (by omega) a5 l0 lp tz (zt_T2_end h4 hk M a1 on hT hx hne e hb1 hb2 T2 hd (by rw [zt_un _ _ (by omega), zt_us]) (zt_us _ _ _) (fun u hu => by rw [zt_un _ _ (by omega), zt_un _ _ (by omega)])))
      refine ⟨n + 3, zt_x_tu6 (old := x) (tg := n + 1) (sc := n + 2) (c := t k) (lk := zt_up (zt_up lk n 0) (n + 1) (zt_up lk n 0 x)) (zt_J2 t L k n E l b x (l s) (zt_cb (zt_zb b' (n + 1)) (n + 1) x)) (by omega) tk (by omega) (fun i s' b'' J' => ?_) (fun i b'' J' => ?_) (fun i s' b'' J' hne' => ?_) (n + 3) 0 (s + 1) _ _ (by omega) (by omega) (by omega) (zt_I1 s) (Or.inr ⟨s, rfl, a1, on, Nat.le_refl _, zt_T2_0, by omega⟩)⟩
      · obtain ⟨c1, c2, c3, c4, c5, c6, c7⟩ := zt_J2_s h4 hk M l0 lp hb3 J'
        rw [zt_un _ _ (by omega : s' ≠ n + 1), zt_un lk _ (by omega : s' ≠ n)]
        exact ⟨by omega, by omega, by omega, fun z => ⟨by have := (c7 z).1; omega, (c7 z).2⟩⟩
      · rcases J' with ⟨_, T2⟩ | ⟨v, e', _⟩
        · exact ⟨pk_in x 81 (by omega), nm_r (zt_upK (f := zt_up (zt_up lk n 0) (n + 1) (zt_up lk n 0 x)) x (n + 2) (zt_I1 (n + 1))) ⟨pk_in n 81 (by omega), nm_r (zt_upM n (n + 2) en' (zt_I1 (n + 1))) (fin 0 b'' T2 (Or.inl rfl))⟩⟩
        · omega
      · obtain ⟨c1, c2, c3, c4, c5, c6, c7⟩ := zt_J2_s h4 hk M l0 lp hb3 J'
        exact ⟨pk_in x 81 (by omega), nm_r (zt_upK (f := zt_up (zt_up lk n 0) (n + 1) (zt_up lk n 0 x)) x (n + 2) (zt_I1 (n + 1))) ⟨pk_in n 81 (by omega), nm_r (zt_upM n (n + 2) en' (zt_I1 (n + 1))) (fin _ b'' c5 (Or.inr ⟨s', c1, c3, c4, rfl, hne'⟩))⟩⟩
theorem zt_x_ba14 {post : SX → Prop} (hL : L ≤ 40) (h4 : ∀ i, t i < 4) (h : ∀ (n : Nat) (l lk en tl b : Nat → Nat) (la : Nat), zt_AU t L L n l lk en tl b la → post (nI L, f_patternLength, f_distinctFound, f_longestFound, f_nodeCount, nI (n), f_rowCount, fun j => nI (t j), a_pattern, a_order, a_occurs, a_otherOrder, a_rank, a_pairRank, a_nodePlace, a_nodeDepth, a_nodeParent, a_nodeTail, a_nodeBranch, a_waitingNodes, fun j => nI ((l) j), fun j => nI ((lk) j) - 1, fun j => nI ((en) j) - 1, fun j => nI ((tl) j), fun j => nI ((b) j), a_lastColumn)) : ∀ (d k f n : Nat) (l lk en tl b : Nat → Nat) (la : Nat), k + d = L → d < f → zt_AU t L k n l lk en tl b la → wX_buildAutomaton_14 post f (nI la) (nI k) (nI L) f_patternLength f_distinctFound f_longestFound f_nodeCount (nI (n)) f_rowCount (fun j => nI (t j)) a_pattern a_order a_occurs a_otherOrder a_rank a_pairRank a_nodePlace a_nodeDepth a_nodeParent a_nodeTail a_nodeBranch a_waitingNodes (fun j => nI ((l) j)) (fun j => nI ((lk) j) - 1) (fun j => nI ((en) j) - 1) (fun j => nI ((tl) j)) (fun j => nI ((b) j)) a_lastColumn := by
  intro d
  induction d with
  | zero =>
    intro k f n l lk en tl b la hk hf H
    obtain ⟨f, rfl⟩ : ∃ m, f = m + 1 := ⟨f - 1, by omega⟩
    have e : k = L := by omega
    subst e
    exact br_t (nI_le (Nat.le_refl _) (by omega)) (h _ _ _ _ _ _ _ H)
  | succ d ih =>
    intro k f n l lk en tl b la hk hf H
    obtain ⟨f, rfl⟩ : ∃ m, f = m + 1 := ⟨f - 1, by omega⟩
    exact br_f (nI_ge (by omega) (by omega)) (zt_x_rl hL (by omega) h4 H (fun n' l' lk' en' tl' b' la' H' => nm_r (nI_1 k) (ih (k + 1) f n' l' lk' en' tl' b' la' (by omega) (by omega) H')))
theorem zt_x_ba {post : SX → Prop} (hL : L ≤ 40) (h4 : ∀ i, t i < 4) (h : ∀ (n : Nat) (l lk en tl b : Nat → Nat) (la : Nat), zt_AU t L L n l lk en tl b la → post (nI L, f_patternLength, f_distinctFound, f_longestFound, f_nodeCount, nI (n), f_rowCount, fun j => nI (t j), a_pattern, a_order, a_occurs, a_otherOrder, a_rank, a_pairRank, a_nodePlace, a_nodeDepth, a_nodeParent, a_nodeTail, a_nodeBranch, a_waitingNodes, fun j => nI ((l) j), fun j => nI ((lk) j) - 1, fun j => nI ((en) j) - 1, fun j => nI ((tl) j), fun j => nI ((b) j), a_lastColumn)) : wpX_buildAutomaton post (nI L, f_patternLength, f_distinctFound, f_longestFound, f_nodeCount, f_stateCount, f_rowCount, fun j => nI (t j), a_pattern, a_order, a_occurs, a_otherOrder, a_rank, a_pairRank, a_nodePlace, a_nodeDepth, a_nodeParent, a_nodeTail, a_nodeBranch, a_waitingNodes, a_stateLength, a_stateLink, a_stateEnd, a_stateTails, a_stateBranch, a_lastColumn) := by
  obtain ⟨l, rfl⟩ := zt_arr a_stateLength
  obtain ⟨lk, rfl⟩ := zt_arrN a_stateLink
  obtain ⟨en, rfl⟩ := zt_arrN a_stateEnd
  obtain ⟨tl, rfl⟩ := zt_arr a_stateTails
  obtain ⟨b, rfl⟩ := zt_arr a_stateBranch
  unfold wpX_buildAutomaton
  refine zt_x_ns (n := 0) (q := 0) (e := 0) (by omega) zt_Im1 ⟨L + 1, zt_x_ba14 hL h4 h L 0 _ 1 _ _ _ _ _ 0 (by omega) (by omega) ⟨⟨fun _ => 0, zt_M_0 rfl (zt_us _ _ _) (fun c hc => zt_zb_n b 0 hc) (zt_us _ _ _)⟩, zt_us _ _ _, fun v v0 hv => by omega, fun v hv => ?_⟩⟩
  have : v = 0 := by omega
  rw [this, zt_us]
end
