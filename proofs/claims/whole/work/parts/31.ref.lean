/-! the reference: its table, its counts -/
theorem zt_m1s (x : Int32) : x + (-1) = x - 1 := (Int32.sub_eq_add_neg x 1).symm
theorem zt_41 (i j : Nat) : (41 * nI i) + nI j = nI (41 * i + j) := by
  rw [show (41 : Int32) = nI 41 from rfl, pk_mul, nI_add]
theorem zt_41s (i j : Nat) : ((41 * (nI i + 1)) + nI j) + 1 = nI (41 * (i + 1) + (j + 1)) := by
  rw [nI_1, zt_41, nI_1]; rfl
def zt_shP (t : Nat → Nat) (L i j : Nat) (sh : Nat → Int32) : Prop := ∀ a b, a ≤ 40 → b ≤ 40 → (i < a ∨ (a = i ∧ j ≤ b)) → sh (41 * a + b) = nI (zt_N (zt_g t L) L a b)
theorem zt_shP_1 {t : Nat → Nat} {L i j : Nat} {sh : Nat → Int32} (hi : i ≤ 40) (hj : j ≤ 40) (h : zt_shP t L i (j + 1) sh) : zt_shP t L i j (upd sh (41 * i + j) (nI (zt_N (zt_g t L) L i j))) := by
  intro a b ha hb hab
  by_cases c : a = i ∧ b = j
  · obtain ⟨rfl, rfl⟩ := c
    exact pk_us
  · rw [pk_un (by omega)]
    exact h a b ha hb (by omega)
section
variable {f_size f_width : Int32} {a_text a_pattern a_shared : Nat → Int32}
variable {t pat : Nat → Nat} {L m : Nat}
theorem zt_y_c10 {post : SY → Prop} {J : _} {i : Nat} (hi : i ≤ 40) (hL : L ≤ 40) (h4 : ∀ i, t i < 4) (hJ : ∀ sh, zt_shP t L i 0 sh → J (nI i - 1) (fun j => nI (t j)) a_pattern sh) : ∀ j n x sh, j < n → j ≤ 41 → x = nI j - 1 → zt_shP t L i j sh → wY_compare_10 post J (nI i) (nI L) f_width n x (fun j => nI (t j)) a_pattern sh := by
  intro j
  induction j with
  | zero =>
    intro n x sh hn hj hx h
    obtain ⟨n, rfl⟩ : ∃ m, n = m + 1 := ⟨n - 1, by omega⟩
    subst hx
    exact br_t (by decide) (nm_r (zt_m1s _) (hJ sh h))
  | succ j ih =>
    intro n x sh hn hj hx h
    obtain ⟨n, rfl⟩ : ∃ m, n = m + 1 := ⟨n - 1, by omega⟩
    rw [nI_pred] at hx
    subst hx
    have ec : ((41 * nI i) + nI j).toNatClampNeg = 41 * i + j := pk_cl (41 * i + j) (zt_41 i j)
    have ei : vp_in ((41 * nI i) + nI j) 1681 := pk_in (41 * i + j) 1681 (by omega) (zt_41 i j)
    have nx := ih n (nI j - 1) (upd sh (41 * i + j) (nI (zt_N (zt_g t L) L i j))) (by omega) (by omega) rfl (zt_shP_1 hi (by omega) h)
    have z : (L ≤ i ∨ L ≤ j ∨ t i ≠ t j) → wY_compare_50 post J (wY_compare_10 post J (nI i) (nI L) f_width n) (nI i) (nI j) 0 (nI L) f_width (fun j => nI (t j)) a_pattern sh := by
      intro hz
      have e0 : zt_N (zt_g t L) L i j = 0 := zt_N_rec0 (by
        by_cases c1 : i < L
        · by_cases c2 : j < L
          · refine Or.inr (Or.inr ?_)
            rw [ne_eq, zt_g_eq c1 c2]
            omega
          · omega
        · omega)
      rw [e0] at nx
      refine br_t rfl ⟨ei, nm_r (e' := upd sh (41 * i + j) (nI 0)) (by rw [ec]; rfl) (nm_r (zt_m1s _) nx)⟩
    refine br_f (nI_pos (by omega)) (pk_le L i (fun c => z (Or.inl c)) (fun c1 => pk_le L j (fun c => z (Or.inr (Or.inl c))) (fun c2 => ⟨pk_in i 40 (by omega), pk_in j 40 (by omega), zt_br (d := t i = t j) ?_ (fun e => ?_) (fun e => z (Or.inr (Or.inr e)))⟩)))
    · simp only [nI_clamp (show i < 2 ^ 31 by omega), nI_clamp (show j < 2 ^ 31 by omega)]
      exact zt_eqI (h4 _) (h4 _)
    · have e1 := zt_N_rec1 c1 c2 ((zt_g_eq c1 c2).2 e)
      have v := h (i + 1) (j + 1) (by omega) (by omega) (Or.inl (by omega))
      have es : (((41 * (nI i + 1)) + nI j) + 1).toNatClampNeg = 41 * (i + 1) + (j + 1) := pk_cl _ (zt_41s i j)
      refine br_f (by decide) ⟨pk_in (41 * (i + 1) + (j + 1)) 1681 (by omega) (zt_41s i j), ei, nm_r (e' := upd sh (41 * i + j) (nI (zt_N (zt_g t L) L i j))) ?_ (nm_r (zt_m1s _) nx)⟩
      rw [ec, es, v, nI_1, e1]
theorem zt_y_c3 {post : SY → Prop} (hL : L ≤ 40) (h4 : ∀ i, t i < 4) (h : ∀ sh, zt_sh t L sh → post (nI L, f_width, (fun j => nI (t j)), a_pattern, sh)) : ∀ i n x sh, i < n → i ≤ 41 → x = nI i - 1 → (∀ a b, a ≤ 40 → b ≤ 40 → i ≤ a → sh (41 * a + b) = nI (zt_N (zt_g t L) L a b)) → wY_compare_3 post (nI L) f_width n x (fun j => nI (t j)) a_pattern sh := by
  intro i
  induction i with
  | zero =>
    intro n x sh hn hi hx hs
    obtain ⟨n, rfl⟩ : ∃ m, n = m + 1 := ⟨n - 1, by omega⟩
    subst hx
    exact br_t (by decide) (h sh fun a b ha hb => hs a b ha hb (Nat.zero_le _))
  | succ i ih =>
    intro n x sh hn hi hx hs
    obtain ⟨n, rfl⟩ : ∃ m, n = m + 1 := ⟨n - 1, by omega⟩
    rw [nI_pred] at hx
    subst hx
    exact br_f (nI_pos (by omega)) ⟨42, zt_y_c10 (by omega) hL h4 (fun sh' hs' => ih n _ sh' (by omega) (by omega) rfl (fun a b ha hb hab => hs' a b ha hb (by omega))) 41 _ _ sh (by omega) (by omega) (by decide) (fun a b ha hb hab => hs a b ha hb (by omega))⟩
theorem zt_y_co {post : SY → Prop} (hL : L ≤ 40) (h4 : ∀ i, t i < 4) (h : ∀ sh, zt_sh t L sh → post (nI L, f_width, (fun j => nI (t j)), a_pattern, sh)) : wpY_compare post (nI L, f_width, (fun j => nI (t j)), a_pattern, a_shared) :=
  ⟨42, zt_y_c3 hL h4 h 41 _ _ a_shared (by omega) (by omega) (by decide) (fun a b ha hb hab => by omega)⟩
/-- the table read -/
theorem zt_y_at {sh : Nat → Int32} (hs : zt_sh t L sh) {i j : Nat} (hi : i ≤ 40) (hj : j ≤ 40) : vp_in ((41 * nI i) + nI j) 1681 ∧ sh ((41 * nI i) + nI j).toNatClampNeg = nI (zt_N (zt_g t L) L i j) :=
  ⟨pk_in (41 * i + j) 1681 (by omega) (zt_41 i j), by rw [pk_cl (41 * i + j) (zt_41 i j)]; exact hs i j hi hj⟩
theorem zt_y_oc28 {post : Int32 → Prop} {i : Nat} (hm : m ≤ 10) (hL : L ≤ 40) (hi : i + m ≤ L) (h4 : ∀ i, t i < 4) (p4 : ∀ i, pat i < 4) (h1 : zt_oc (zt_g t L) pat m i → post 1) (h0 : ¬ zt_oc (zt_g t L) pat m i → post 0) : ∀ d s n, s + d = m → d < n → (∀ q, q < s → zt_g t L (i + q) = pat q + 1) → wY_occurs_28 post (nI i) (nI L) (nI m) (fun j => nI (t j)) (fun j => nI (pat j)) a_shared n 1 (nI s) := by
  intro d
  induction d with
  | zero =>
    intro s n hs hn hq
    obtain ⟨n, rfl⟩ : ∃ m, n = m + 1 := ⟨n - 1, by omega⟩
    have e : s = m := by omega
    subst e
    exact br_t (nI_le (Nat.le_refl _) (by omega)) ⟨rfl, h1 hq⟩
  | succ d ih =>
    intro s n hs hn hq
    obtain ⟨n, rfl⟩ : ∃ m, n = m + 1 := ⟨n - 1, by omega⟩
    have ei : (nI i + nI s).toNatClampNeg = i + s := pk_cl (i + s) (nI_add i s)
    have es : (nI s).toNatClampNeg = s := pk_cl s
    refine br_f (nI_ge (by omega) (by omega)) (br_f (by decide) ⟨pk_in (i + s) 40 (by omega) (nI_add i s), pk_in s 10 (by omega), zt_br (d := t (i + s) = pat s) ?_ (fun e => ?_) (fun e => ?_)⟩)
    · simp only [ei, es]; exact zt_eqI (h4 _) (p4 _)
    · refine nm_r (nI_1 s) (ih (s + 1) n (by omega) (by omega) (fun q hq' => ?_))
      by_cases c : q = s
      · subst c; rw [zt_g_lt (by omega), e]
      · exact hq q (by omega)
    · refine nm_r (nI_1 s) ?_
      have no : post 0 := h0 (fun x => by
        have := x s (by omega)
        rw [zt_g_lt (by omega)] at this
        omega)
      obtain ⟨n, rfl⟩ : ∃ m, n = m + 1 := ⟨n - 1, by omega⟩
      by_cases c : m ≤ s + 1
      · exact br_t (nI_le c (by omega)) ⟨rfl, no⟩
      · exact br_f (nI_ge (by omega) (by omega)) (br_t rfl ⟨rfl, no⟩)
theorem zt_y_oc {post : Int32 → Prop} {i : Nat} (hm : m ≤ 10) (hL : L ≤ 40) (hi : i ≤ L) (h4 : ∀ i, t i < 4) (p4 : ∀ i, pat i < 4) (h1 : zt_occ (zt_g t L) pat m i → post 1) (h0 : ¬ zt_occ (zt_g t L) pat m i → post 0) : wpY_occurs post (nI L, nI m, (fun j => nI (t j)), (fun j => nI (pat j)), a_shared) (nI i) := by
  have no : ¬ zt_occ (zt_g t L) pat m i → ∃ n, wY_occurs_28 post (nI i) (nI L) (nI m) (fun j => nI (t j)) (fun j => nI (pat j)) a_shared n 0 0 := fun c => ⟨1, by
    by_cases z : m ≤ 0
    · exact br_t (nI_le (b := 0) z (by omega)) ⟨rfl, h0 c⟩
    · exact br_f (nI_ge (a := 0) (by omega) (by omega)) (br_t rfl ⟨rfl, h0 c⟩)⟩
  refine pk_le m 0 (fun c => no (fun x => by have := x.1; omega)) (fun c => pk_lt L (i + m) (fun d => no (fun x => ?_)) (fun d => ⟨m + 1, zt_y_oc28 hm hL d h4 p4 (fun x => h1 ⟨c, x⟩) (fun x => h0 (fun y => x y.2)) m 0 _ (by omega) (by omega) (fun q hq => by omega)⟩) rfl (nI_add i m))
  have := zt_oc_L (zt_g_Z t L) x.2 x.1
  omega
theorem zt_y_en {post : Int32 → Prop} {x : Int32} {k : Nat} (hk : k < 100) (h1 : ∀ e, e ≤ k → x = nI e → post 1) (h0 : (∀ e, e ≤ k → ¬ x = nI e) → post 0) : wpY_engine post (f_size, f_width, a_text, a_pattern, a_shared) x (nI k) := by
  by_cases c : x < 0
  · refine br_t c (h0 fun e he hx => ?_)
    subst hx
    exact nI_pos (by omega) c
  · obtain ⟨j, hj, rfl⟩ := nI_of c
    refine br_f c (pk_lt k j (fun d => h0 fun e he hx => ?_) (fun d => h1 j d rfl))
    rw [nI_eq hj (by omega)] at hx
    omega
theorem zt_y_ct4 {post : Int32 → Prop} {x : Int32} (hm : m ≤ 10) (hL : L ≤ 40) (h4 : ∀ i, t i < 4) (p4 : ∀ i, pat i < 4) (h1 : ∀ e, e ≤ 4 → x = nI e → post (nI (zt_c (zt_occ (zt_g t L) pat m) L))) (h0 : (∀ e, e ≤ 4 → ¬ x = nI e) → post (-1)) : ∀ d i n, i + d = L → d < n → wY_count_4 post x (nI L) (nI m) (fun j => nI (t j)) (fun j => nI (pat j)) a_shared n (nI (zt_c (zt_occ (zt_g t L) pat m) i)) (nI i) := by
  intro d
  induction d with
  | zero =>
    intro i n hi hn
    obtain ⟨n, rfl⟩ : ∃ m, n = m + 1 := ⟨n - 1, by omega⟩
    have e : i = L := by omega
    subst e
    exact br_t (nI_le (Nat.le_refl _) (by omega)) (zt_y_en (k := 4) (by omega) (fun e he hx => br_f (by decide) (h1 e he hx)) (fun c => br_t rfl (h0 c)))
  | succ d ih =>
    intro i n hi hn
    obtain ⟨n, rfl⟩ : ∃ m, n = m + 1 := ⟨n - 1, by omega⟩
    refine br_f (nI_ge (by omega) (by omega)) (zt_y_oc hm hL (by omega) h4 p4 (fun c => br_f (by decide) (nm_r (e' := nI (zt_c (zt_occ (zt_g t L) pat m) (i + 1))) (by rw [zt_ct c, nI_1]) (nm_r (nI_1 i) (ih (i + 1) n (by omega) (by omega))))) (fun c => br_t rfl (nm_r (nI_1 i) ?_)))
    have := ih (i + 1) n (by omega) (by omega)
    rw [zt_cf c] at this
    exact this
theorem zt_y_ct {post : Int32 → Prop} {x : Int32} (hm : m ≤ 10) (hL : L ≤ 40) (h4 : ∀ i, t i < 4) (p4 : ∀ i, pat i < 4) (h1 : ∀ e, e ≤ 4 → x = nI e → post (nI (zt_c (zt_occ (zt_g t L) pat m) L))) (h0 : (∀ e, e ≤ 4 → ¬ x = nI e) → post (-1)) : wpY_count post (nI L, nI m, (fun j => nI (t j)), (fun j => nI (pat j)), a_shared) x :=
  ⟨L + 1, zt_y_ct4 hm hL h4 p4 h1 h0 L 0 _ (by omega) (by omega)⟩
theorem zt_y_wh5 {post : Int32 → Prop} {x k : Int32} {e : Nat} (he : e ≤ 4) (hx : x = nI e) (hm : m ≤ 10) (hL : L ≤ 40) (h4 : ∀ i, t i < 4) (p4 : ∀ i, pat i < 4) (h : ∀ r, zt_first (zt_occ (zt_g t L) pat m) L k r → post r) : ∀ d i n, i + d = L → d < n → (∀ j, j < i → zt_occ (zt_g t L) pat m j → ¬ nI (zt_c (zt_occ (zt_g t L) pat m) j) = k) → wY_where_5 post x k (nI L) (nI m) (fun j => nI (t j)) (fun j => nI (pat j)) a_shared n (nI (zt_c (zt_occ (zt_g t L) pat m) i)) (nI i) := by
  intro d
  induction d with
  | zero =>
    intro i n hi hn hj
    obtain ⟨n, rfl⟩ : ∃ m, n = m + 1 := ⟨n - 1, by omega⟩
    have e : i = L := by omega
    subst e
    exact br_t (nI_le (Nat.le_refl _) (by omega)) (h _ (Or.inr ⟨hj, rfl⟩))
  | succ d ih =>
    intro i n hi hn hj
    obtain ⟨n, rfl⟩ : ∃ m, n = m + 1 := ⟨n - 1, by omega⟩
    have nx : (zt_occ (zt_g t L) pat m i → ¬ nI (zt_c (zt_occ (zt_g t L) pat m) i) = k) → wY_where_5 post x k (nI L) (nI m) (fun j => nI (t j)) (fun j => nI (pat j)) a_shared n (nI (zt_c (zt_occ (zt_g t L) pat m) (i + 1))) (nI (i + 1)) := fun hc => ih (i + 1) n (by omega) (by omega) (fun j hj' oj => by
      by_cases c : j = i
      · subst c; exact hc oj
      · exact hj j (by omega) oj)
    refine br_f (nI_ge (by omega) (by omega)) (zt_y_en (k := 4) (by omega) (fun _ _ _ => br_f (by decide) (zt_y_oc hm hL (by omega) h4 p4 (fun c => br_f (by decide) (br_c (fun z => h _ (Or.inl ⟨i, by omega, c, z, rfl⟩)) (fun z => ?_))) (fun c => br_t rfl (nm_r (nI_1 i) ?_)))) (fun c => absurd hx (c e he)))
    · have := nx (fun _ => z)
      rw [zt_ct c, ← nI_1] at this
      exact nm_e (nm_r (nI_1 i) this)
    · have := nx (fun y => absurd y c)
      rw [zt_cf c] at this
      exact this
end
