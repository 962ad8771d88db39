/-! piece, side by side -/
section
variable {f_length f_patternLength f_distinctFound f_longestFound f_nodeCount f_stateCount f_rowCount : Int32} {a_text a_pattern a_order a_occurs a_otherOrder a_rank a_pairRank a_nodePlace a_nodeDepth a_nodeParent a_nodeTail a_nodeBranch a_waitingNodes a_stateLength a_stateLink a_stateEnd a_stateTails a_stateBranch a_lastColumn : Nat → Int32}
variable {t pat : Nat → Nat} {L m : Nat} {sh : Nat → Int32}
theorem zt_pc {o : Nat → Nat} {k : Nat} {f_width : Int32} {b_pattern : Nat → Int32} (hk : k < 2 ^ 31) (hL : L ≤ 40) (h4 : ∀ i, t i < 4) (hs : zt_sh t L sh) (hO : zt_O (zt_g t L) L o) : ∀ d r lf, r + d = L → lf < 2 ^ 31 → ∃ ans : Int32, (∀ (post : Int32 → SX → Prop) n, d < n → post ans (nI L, f_patternLength, f_distinctFound, f_longestFound, f_nodeCount, f_stateCount, f_rowCount, fun j => nI (t j), a_pattern, fun j => nI (o j), a_occurs, a_otherOrder, a_rank, a_pairRank, a_nodePlace, a_nodeDepth, a_nodeParent, a_nodeTail, a_nodeBranch, a_waitingNodes, a_stateLength, a_stateLink, a_stateEnd, a_stateTails, a_stateBranch, a_lastColumn) → wX_piece_14 post (nI L) f_patternLength f_distinctFound f_longestFound f_nodeCount f_stateCount f_rowCount (fun j => nI (t j)) a_pattern (fun j => nI (o j)) a_occurs a_otherOrder a_rank a_pairRank a_nodePlace a_nodeDepth a_nodeParent a_nodeTail a_nodeBranch a_waitingNodes a_stateLength a_stateLink a_stateEnd a_stateTails a_stateBranch a_lastColumn n (nI lf) (nI r)) ∧ (∀ (post : Int32 → Prop) n x3, d < n → (0 < r → x3 = nI (o (r - 1))) → post ans → wY_piece_7 post (nI k) (nI L) f_width (fun j => nI (t j)) b_pattern sh n (nI lf) x3 (nI r)) := by
  have hz := zt_g_Z t L
  intro d
  induction d with
  | zero =>
    intro r lf hr hlf
    refine ⟨-1, fun post n hn h => ?_, fun post n x3 hn hx h => ?_⟩
    · obtain ⟨n, rfl⟩ : ∃ m, n = m + 1 := ⟨n - 1, by omega⟩
      exact br_t (nI_le (by omega) (by omega)) h
    · obtain ⟨n, rfl⟩ : ∃ m, n = m + 1 := ⟨n - 1, by omega⟩
      exact br_t (nI_le (by omega) (by omega)) h
  | succ d ih =>
    intro r lf hr hlf
    have b := hO r (by omega)
    obtain ⟨kn, ekn⟩ : ∃ kn, kn = if r = 0 then 0 else zt_N (zt_g t L) L (o (r - 1)) (o r) := ⟨_, rfl⟩
    have bd : kn + o r ≤ L := by
      rw [ekn]
      split
      · omega
      · have a := (hO (r - 1) (by omega)).1
        have := zt_N_j (g := zt_g t L) (L := L) (i := o (r - 1)) (j := o r) (by omega) (by omega)
        omega
    have er : (nI r).toNatClampNeg = r := pk_cl r
    have ef : (nI L - nI (o r)) - nI kn = nI (L - o r - kn) := by rw [pk_sub (by omega), pk_sub (by omega)]
    have es : (nI kn + 1) + nI lf = nI (kn + 1 + lf) := by rw [nI_1, nI_add]
    -- the reference down to the last part
    have Y : ∀ (post : Int32 → Prop) (J : Int32 → Int32 → Int32 → Prop) x3 n, (0 < r → x3 = nI (o (r - 1))) → wY_piece_7 post (nI k) (nI L) f_width (fun j => nI (t j)) b_pattern sh n = J → wY_piece_50 post J (nI k) (nI lf) (nI r) (nI (o r)) (nI kn) (nI L) f_width (fun j => nI (t j)) b_pattern sh → wY_piece_7 post (nI k) (nI L) f_width (fun j => nI (t j)) b_pattern sh (n + 1) (nI lf) x3 (nI r) := by
      intro post J x3 n hx hJ h
      subst hJ
      refine br_f (nI_ge (by omega) (by omega)) (br_f (nI_pos hk) (zt_y_ta hL hs h4 (fun e he hx0 res hres => ?_) (fun c => absurd rfl (c 0 (by omega)))))
      have er3 : res = nI (o r) := by
        rcases hres with ⟨i, hi, ei, rfl⟩ | ⟨h1, rfl⟩
        · have r1 := zt_r_lt (g := zt_g t L) hi
          rw [nI_eq (by omega) (by omega)] at ei
          rw [zt_r_inj hz hi b.1 (ei.trans b.2.symm)]
        · exact absurd (by rw [b.2]) (h1 (o r) b.1)
      subst er3
      refine pk_le r 0 (fun c => ?_) (fun c => ?_)
      · rw [if_pos (by omega)] at ekn
        subst ekn
        exact h
      · rw [if_neg (by omega)] at ekn
        have a := (hO (r - 1) (by omega)).1
        have y := zt_y_at hs (i := o r) (j := o (r - 1)) (by omega) (by omega)
        rw [zt_N_c (by omega) (by omega), ← ekn] at y
        rw [hx c]
        refine ⟨y.1, ?_⟩
        rw [y.2]
        exact h
    by_cases c : L - o r - kn ≤ lf
    · obtain ⟨ans, hX, hY⟩ := ih (r + 1) (lf - (L - o r - kn)) (by omega) (by omega)
      refine ⟨ans, fun post n hn h => ?_, fun post n x3 hn hx h => ?_⟩
      · obtain ⟨n, rfl⟩ : ∃ m, n = m + 1 := ⟨n - 1, by omega⟩
        refine br_f (nI_ge (by omega) (by omega)) ⟨pk_in r 40 (by omega), nm_r (e' := nI (o r)) (by simp only [er]) (zt_x_sw hL h4 hO (by omega) ?_)⟩
        rw [← ekn]
        exact nm_r ef (br_t (nI_le c hlf) (nm_r (pk_sub c) (nm_r (nI_1 r) (hX post n (by omega) h))))
      · obtain ⟨n, rfl⟩ : ∃ m, n = m + 1 := ⟨n - 1, by omega⟩
        refine Y post _ x3 n hx rfl (nm_r ef (br_t (nI_le c hlf) (nm_r (pk_sub c) (nm_r (nI_1 r) (hY post n _ (by omega) (fun _ => ?_) h)))))
        rw [Nat.add_sub_cancel]
    · obtain ⟨rr, hrr⟩ := zt_lp_ex (g := zt_g t L) (L := L) (i := o r) (s := kn + 1 + lf) (by omega) (by omega)
      refine ⟨nI rr + (64 * nI (kn + 1 + lf)), fun post n hn h => ?_, fun post n x3 hn hx h => ?_⟩
      · obtain ⟨n, rfl⟩ : ∃ m, n = m + 1 := ⟨n - 1, by omega⟩
        refine br_f (nI_ge (by omega) (by omega)) ⟨pk_in r 40 (by omega), nm_r (e' := nI (o r)) (by simp only [er]) (zt_x_sw hL h4 hO (by omega) ?_)⟩
        rw [← ekn]
        refine nm_r ef (br_f (nI_ge (by omega) (by omega)) (nm_r es (zt_x_lp hL b.1 (by omega) h4 (fun r2 h2 => ?_))))
        rw [zt_lp_un hrr h2]
        exact h
      · obtain ⟨n, rfl⟩ : ∃ m, n = m + 1 := ⟨n - 1, by omega⟩
        refine Y post _ x3 n hx rfl (nm_r ef (br_f (nI_ge (by omega) (by omega)) ?_))
        rw [es]
        refine zt_y_le hL hs b.1 (by omega) (fun r2 h2 => ?_)
        rw [zt_lp_un hrr h2]
        exact h
end
theorem i_vc_piece {k : Nat} {u : SX} {v : SY} (I : i_Rel k u v) (hk : k + 3 ≤ 1536) (v1 : Int32) : wpX_piece (fun r u' => wpY_piece (fun r' => r' = r ∧ i_Rel (k + 3) u' v) v v1) u v1 := by
  obtain ⟨L, m, t, pat, ⟨hL, hm, h4, p4⟩, ⟨f_distinctFound, f_longestFound, f_nodeCount, f_stateCount, f_rowCount, a_order, a_occurs, a_otherOrder, a_rank, a_pairRank, a_nodePlace, a_nodeDepth, a_nodeParent, a_nodeTail, a_nodeBranch, a_waitingNodes, a_stateLength, a_stateLink, a_stateEnd, a_stateTails, a_stateBranch, a_lastColumn, rfl⟩, sh, hs, rfl⟩ := I
  rcases zt_cls v1 with c | ⟨b, hb, rfl⟩
  · exact br_f (Int32.not_le.mpr c) ⟨1, pk_le L 0 (fun _ => ⟨rfl, zt_mk hL hm h4 p4 hs⟩) (fun _ => br_t c ⟨rfl, zt_mk hL hm h4 p4 hs⟩)⟩
  · refine br_t (nI_pos' hb) (zt_x_so hL h4 (fun o hO => ?_))
    obtain ⟨ans, hX, hY⟩ := zt_pc (f_patternLength := nI m) (f_distinctFound := f_distinctFound) (f_longestFound := f_longestFound) (f_nodeCount := f_nodeCount) (f_stateCount := f_stateCount) (f_rowCount := f_rowCount) (a_pattern := fun j => nI (pat j)) (a_occurs := a_occurs) (a_otherOrder := a_otherOrder) (a_rank := a_rank) (a_pairRank := a_pairRank) (a_nodePlace := a_nodePlace) (a_nodeDepth := a_nodeDepth) (a_nodeParent := a_nodeParent) (a_nodeTail := a_nodeTail) (a_nodeBranch := a_nodeBranch) (a_waitingNodes := a_waitingNodes) (a_stateLength := a_stateLength) (a_stateLink := a_stateLink) (a_stateEnd := a_stateEnd) (a_stateTails := a_stateTails) (a_stateBranch := a_stateBranch) (a_lastColumn := a_lastColumn) (f_width := nI m) (b_pattern := fun j => nI (pat j)) hb hL h4 hs hO L 0 b (by omega) hb
    exact ⟨L + 1, hX _ _ (by omega) ⟨L + 1, hY _ _ _ (by omega) (fun x => by omega) ⟨rfl, zt_mk hL hm h4 p4 hs⟩⟩⟩
