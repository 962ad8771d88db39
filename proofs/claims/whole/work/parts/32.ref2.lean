/-! the reference: where, least, places, repeats, longest, tail -/
theorem zt_c_cut {p : Nat → Prop} {a b : Nat} (hab : a ≤ b) (h : ∀ s, a ≤ s → s < b → ¬ p s) : zt_c p b = zt_c p a := by
  induction b with
  | zero => have : a = 0 := by omega
            rw [this]
  | succ b ih =>
    by_cases e : a = b + 1
    · rw [e]
    · rw [zt_cf (h b (by omega) (by omega)), ih (by omega) (fun s h1 h2 => h s h1 (by omega))]
theorem zt_lp_ex {g : Nat → Nat} {L i s : Nat} (hi : i ≤ L) (hs : i + s ≤ L) : ∃ r, zt_lp g L i s r := by
  obtain ⟨r, h1, h2⟩ := zt_least (fun r => s ≤ zt_N g L i r) ⟨i, by rw [zt_N_s hi]; omega⟩
  refine ⟨r, ?_, h1, fun j hj => by have := h2 j hj; omega⟩
  refine Classical.byContradiction fun c => ?_
  exact h2 i (by omega) (by rw [zt_N_s hi]; omega)
section
variable {f_size f_width : Int32} {a_text a_pattern a_shared : Nat → Int32}
variable {t pat : Nat → Nat} {L m : Nat} {sh : Nat → Int32}
theorem zt_y_wh {post : Int32 → Prop} {x k : Int32} (hm : m ≤ 10) (hL : L ≤ 40) (h4 : ∀ i, t i < 4) (p4 : ∀ i, pat i < 4) (h1 : ∀ e, e ≤ 4 → x = nI e → ∀ r, zt_first (zt_occ (zt_g t L) pat m) L k r → post r) (h0 : (∀ e, e ≤ 4 → ¬ x = nI e) → post (-1)) : wpY_where post (nI L, nI m, (fun j => nI (t j)), (fun j => nI (pat j)), a_shared) x k := by
  by_cases c : ∃ e, e ≤ 4 ∧ x = nI e
  · obtain ⟨e, he, hx⟩ := c
    exact ⟨L + 1, zt_y_wh5 he hx hm hL h4 p4 (h1 e he hx) L 0 _ (by omega) (by omega) (fun j hj => by omega)⟩
  · have no := h0 (fun e he hx => c ⟨e, he, hx⟩)
    refine ⟨1, pk_le L 0 (fun _ => no) (fun _ => zt_y_en (k := 4) (by omega) (fun e he hx => absurd ⟨e, he, hx⟩ c) (fun _ => br_t rfl no))⟩
theorem zt_y_le2 {post : Int32 → Prop} {i s r : Nat} (hL : L ≤ 40) (hs : zt_sh t L sh) (hi : i < L) (h40 : s ≤ 40) (hr : zt_lp (zt_g t L) L i s r) (h : post (nI r)) : ∀ d j n, j + d = r → d < n → wY_least_2 post (nI i) (nI s) (nI L) f_width (fun j => nI (t j)) a_pattern sh n (nI j) := by
  intro d
  induction d with
  | zero =>
    intro j n hj hn
    obtain ⟨n, rfl⟩ : ∃ m, n = m + 1 := ⟨n - 1, by omega⟩
    have e : j = r := by omega
    subst e
    have a := zt_y_at hs (i := i) (j := j) (by omega) (by have := hr.1; omega)
    have b := zt_N_i (g := zt_g t L) (L := L) (i := i) (j := j) (by omega) (by have := hr.1; omega)
    exact ⟨a.1, br_t (by rw [a.2]; exact nI_le hr.2.1 (by omega)) h⟩
  | succ d ih =>
    intro j n hj hn
    obtain ⟨n, rfl⟩ : ∃ m, n = m + 1 := ⟨n - 1, by omega⟩
    have r1 := hr.1
    have a := zt_y_at hs (i := i) (j := j) (by omega) (by omega)
    exact ⟨a.1, br_f (by rw [a.2]; exact nI_ge (hr.2.2 j (by omega)) (by omega)) (nm_r (nI_1 j) (ih (j + 1) n (by omega) (by omega)))⟩
theorem zt_y_le {post : Int32 → Prop} {i s : Nat} (hL : L ≤ 40) (hs : zt_sh t L sh) (hi : i < L) (h40 : i + s ≤ L) (h : ∀ r, zt_lp (zt_g t L) L i s r → post (nI r)) : wpY_least post (nI L, f_width, (fun j => nI (t j)), a_pattern, sh) (nI i) (nI s) := by
  obtain ⟨r, hr⟩ := zt_lp_ex (g := zt_g t L) (by omega : i ≤ L) h40
  exact ⟨r + 1, zt_y_le2 hL hs hi (by omega) hr (h r hr) r 0 _ (by omega) (by omega)⟩
theorem zt_y_pl5 {post : Int32 → Prop} {i s : Nat} (hL : L ≤ 40) (hs : zt_sh t L sh) (hi : i < L) (h40 : s ≤ 40) (h : post (nI (zt_w (zt_g t L) L i s))) : ∀ d j n, j + d = L → d < n → wY_places_5 post (nI i) (nI s) (nI L) f_width (fun j => nI (t j)) a_pattern sh n (nI (zt_c (fun j => s ≤ zt_N (zt_g t L) L i j) j)) (nI j) := by
  intro d
  induction d with
  | zero =>
    intro j n hj hn
    obtain ⟨n, rfl⟩ : ∃ m, n = m + 1 := ⟨n - 1, by omega⟩
    have e : j = L := by omega
    subst e
    exact br_t (nI_le (Nat.le_refl _) (by omega)) h
  | succ d ih =>
    intro j n hj hn
    obtain ⟨n, rfl⟩ : ∃ m, n = m + 1 := ⟨n - 1, by omega⟩
    have a := zt_y_at hs (i := i) (j := j) (by omega) (by omega)
    have b := zt_N_i (g := zt_g t L) (L := L) (i := i) (j := j) (by omega) (by omega)
    have nx := ih (j + 1) n (by omega) (by omega)
    refine br_f (nI_ge (by omega) (by omega)) ⟨a.1, zt_br (d := zt_N (zt_g t L) L i j < s) (by rw [a.2]; exact nI_ltI (by omega) (by omega)) (fun c => nm_r (nI_1 j) ?_) (fun c => nm_r (e' := nI (zt_c (fun j => s ≤ zt_N (zt_g t L) L i j) (j + 1))) ?_ (nm_r (nI_1 j) nx))⟩
    · rw [zt_cf (p := fun j => s ≤ zt_N (zt_g t L) L i j) (by omega)] at nx
      exact nx
    · rw [zt_ct (p := fun j => s ≤ zt_N (zt_g t L) L i j) (by omega), nI_1]
theorem zt_y_pl {post : Int32 → Prop} {i s : Nat} (hL : L ≤ 40) (hs : zt_sh t L sh) (hi : i < L) (h40 : s ≤ 40) (h : post (nI (zt_w (zt_g t L) L i s))) : wpY_places post (nI L, f_width, (fun j => nI (t j)), a_pattern, sh) (nI i) (nI s) :=
  ⟨L + 1, zt_y_pl5 hL hs hi h40 h L 0 _ (by omega) (by omega)⟩
theorem zt_y_rp22 {post : Int32 → Prop} {J : _} {i T B : Nat} (hL : L ≤ 40) (hs : zt_sh t L sh) (hi : i < L) (hT : T < 2 ^ 31) (h : J (nI (B + zt_c (fun s => zt_Q (zt_g t L) L (fun i => i) i s ∧ T ≤ zt_w (zt_g t L) L i (s + 1)) L)) (nI (i + 1))) : ∀ d s n, s + d = L - i → d < n → wY_repeats_22 post J (nI T) (nI i) (nI L) f_width (fun j => nI (t j)) a_pattern sh n (nI (B + zt_c (fun s => zt_Q (zt_g t L) L (fun i => i) i s ∧ T ≤ zt_w (zt_g t L) L i (s + 1)) s)) (nI (s + 1)) := by
  intro d
  induction d with
  | zero =>
    intro s n hd hn
    obtain ⟨n, rfl⟩ : ∃ m, n = m + 1 := ⟨n - 1, by omega⟩
    rw [zt_c_cut (a := s) (b := L) (by omega) (fun s' h1 h2 x => by have := x.1.1; omega)] at h
    exact br_t (by rw [pk_sub (by omega)]; exact nI_lt (by omega) (by omega)) (nm_r (nI_1 i) h)
  | succ d ih =>
    intro s n hd hn
    obtain ⟨n, rfl⟩ : ∃ m, n = m + 1 := ⟨n - 1, by omega⟩
    have nx := ih (s + 1) n (by omega) (by omega)
    refine br_f (by rw [pk_sub (by omega)]; exact nI_nlt (by omega) (by omega)) (zt_y_le hL hs hi (by omega) (fun r hr => ?_))
    have q := zt_lp_i hi (by omega) hr
    have r1 := hr.1
    have wl : zt_w (zt_g t L) L i (s + 1) ≤ L := zt_cn _ _
    refine zt_br (d := r = i) (nI_eq (by omega) (by omega)) (fun c => zt_y_pl hL hs hi (by omega) (zt_br (d := zt_w (zt_g t L) L i (s + 1) < T) (nI_ltI (by omega) hT) (fun e => nm_r (nI_1 (s + 1)) ?_) (fun e => nm_r (nI_1 _) (nm_r (nI_1 (s + 1)) ?_)))) (fun c => nm_r (nI_1 (s + 1)) ?_)
    · rw [zt_cf (p := fun s => zt_Q (zt_g t L) L (fun i => i) i s ∧ T ≤ zt_w (zt_g t L) L i (s + 1)) (fun x => by have := x.2; omega)] at nx
      exact nx
    · rw [zt_ct (p := fun s => zt_Q (zt_g t L) L (fun i => i) i s ∧ T ≤ zt_w (zt_g t L) L i (s + 1)) ⟨q.1 c, by omega⟩] at nx
      exact nx
    · rw [zt_cf (p := fun s => zt_Q (zt_g t L) L (fun i => i) i s ∧ T ≤ zt_w (zt_g t L) L i (s + 1)) (fun x => c (q.2 x.1))] at nx
      exact nx
theorem zt_y_rp11 {post : Int32 → Prop} {T : Nat} (hL : L ≤ 40) (hs : zt_sh t L sh) (hT : T < 2 ^ 31) (h : post (nI (zt_RP (zt_g t L) L T))) : ∀ d i n, i + d = L → d < n → wY_repeats_11 post (nI T) (nI L) f_width (fun j => nI (t j)) a_pattern sh n (nI (zt_s (fun i => zt_c (fun s => zt_Q (zt_g t L) L (fun i => i) i s ∧ T ≤ zt_w (zt_g t L) L i (s + 1)) L) i)) (nI i) := by
  intro d
  induction d with
  | zero =>
    intro i n hi hn
    obtain ⟨n, rfl⟩ : ∃ m, n = m + 1 := ⟨n - 1, by omega⟩
    have e : i = L := by omega
    subst e
    exact br_t (nI_le (Nat.le_refl _) (by omega)) h
  | succ d ih =>
    intro i n hi hn
    obtain ⟨n, rfl⟩ : ∃ m, n = m + 1 := ⟨n - 1, by omega⟩
    exact br_f (nI_ge (by omega) (by omega)) ⟨L - i + 1, zt_y_rp22 (B := zt_s (fun i => zt_c (fun s => zt_Q (zt_g t L) L (fun i => i) i s ∧ T ≤ zt_w (zt_g t L) L i (s + 1)) L) i) hL hs (by omega) hT (ih (i + 1) n (by omega) (by omega)) (L - i) 0 _ (by omega) (by omega)⟩
theorem zt_y_rp {post : Int32 → Prop} {x : Int32} (hL : L ≤ 40) (hs : zt_sh t L sh) (h1 : ∀ T, 1 ≤ T → T < 2 ^ 31 → x = nI T → post (nI (zt_RP (zt_g t L) L T))) (h0 : ¬ 1 ≤ x → post (-1)) : wpY_repeats post (nI L, f_width, (fun j => nI (t j)), a_pattern, sh) x := by
  refine br_c (fun c => ?_) h0
  obtain ⟨T, hT, rfl⟩ := nI_of (x := x) (Int32.not_lt.mpr (Int32.le_trans (by decide) c))
  have c1 : 1 ≤ T := (nI_leI (a := 1) (by omega) hT).1 c
  exact ⟨L + 1, zt_y_rp11 hL hs hT (h1 T c1 hT rfl) L 0 _ (by omega) (by omega)⟩
/-- the longest so far -/
def zt_PM (g : Nat → Nat) (L i j w : Nat) : Prop := (∀ a b, b < a → a < L → (a < i ∨ (a = i ∧ b < j)) → zt_N g L a b ≤ w) ∧ (w = 0 ∨ ∃ a b, a < L ∧ b < a ∧ zt_N g L a b = w) ∧ w ≤ L
theorem zt_y_lo15 {post : Int32 → Prop} {J : _} {x : Int32} {i : Nat} (hL : L ≤ 40) (hs : zt_sh t L sh) (hi : i < L) (h : ∀ w, zt_PM (zt_g t L) L (i + 1) 0 w → J (nI w) (nI (i + 1))) : ∀ d j n w, j + d = i → d < n → zt_PM (zt_g t L) L i j w → wY_longest_15 post J x (nI i) (nI L) f_width (fun j => nI (t j)) a_pattern sh n (nI w) (nI j) := by
  intro d
  induction d with
  | zero =>
    intro j n w hj hn hw
    obtain ⟨n, rfl⟩ : ∃ m, n = m + 1 := ⟨n - 1, by omega⟩
    have e : j = i := by omega
    subst e
    exact br_t (nI_le (Nat.le_refl _) (by omega)) (nm_r (nI_1 j) (h w ⟨fun a b h1 h2 h3 => hw.1 a b h1 h2 (by omega), hw.2⟩))
  | succ d ih =>
    intro j n w hj hn hw
    obtain ⟨n, rfl⟩ : ∃ m, n = m + 1 := ⟨n - 1, by omega⟩
    have a := zt_y_at hs (i := i) (j := j) (by omega) (by omega)
    have b := zt_N_i (g := zt_g t L) (L := L) (i := i) (j := j) (by omega) (by omega)
    have w1 := hw.2.2
    refine br_f (nI_ge (by omega) (by omega)) ⟨a.1, zt_br (d := zt_N (zt_g t L) L i j ≤ w) (by rw [a.2]; exact nI_leI (by omega) (by omega)) (fun c => nm_r (nI_1 j) (ih (j + 1) n w (by omega) (by omega) ⟨fun a' b' h1 h2 h3 => ?_, hw.2⟩)) (fun c => ⟨a.1, nm_r a.2 (nm_r (nI_1 j) (ih (j + 1) n _ (by omega) (by omega) ⟨fun a' b' h1 h2 h3 => ?_, Or.inr ⟨i, j, hi, by omega, rfl⟩, by omega⟩))⟩)⟩
    · by_cases e : a' = i ∧ b' = j
      · rw [e.1, e.2]; exact c
      · exact hw.1 a' b' h1 h2 (by omega)
    · by_cases e : a' = i ∧ b' = j
      · rw [e.1, e.2]; exact Nat.le_refl _
      · have := hw.1 a' b' h1 h2 (by omega)
        omega
theorem zt_y_lo4 {post : Int32 → Prop} {x : Int32} (hL : L ≤ 40) (hs : zt_sh t L sh) (h1 : ∀ e, e ≤ 3 → x = nI e → ∀ G, zt_G (zt_g t L) L G → post (nI G)) (h0 : (∀ e, e ≤ 3 → ¬ x = nI e) → post (-1)) : ∀ d i n w, i + d = L → d < n → zt_PM (zt_g t L) L i 0 w → wY_longest_4 post x (nI L) f_width (fun j => nI (t j)) a_pattern sh n (nI w) (nI i) := by
  intro d
  induction d with
  | zero =>
    intro i n w hi hn hw
    obtain ⟨n, rfl⟩ : ∃ m, n = m + 1 := ⟨n - 1, by omega⟩
    have e : i = L := by omega
    subst e
    exact br_t (nI_le (Nat.le_refl _) (by omega)) (zt_y_en (k := 3) (by omega) (fun e he hx => br_f (by decide) (h1 e he hx w (zt_G_pl (fun a b h1 h2 => hw.1 a b h2 h1 (by omega)) hw.2.1))) (fun c => br_t rfl (h0 c)))
  | succ d ih =>
    intro i n w hi hn hw
    obtain ⟨n, rfl⟩ : ∃ m, n = m + 1 := ⟨n - 1, by omega⟩
    exact br_f (nI_ge (by omega) (by omega)) ⟨i + 1, zt_y_lo15 hL hs (by omega) (fun w' h' => ih (i + 1) n w' (by omega) (by omega) h') i 0 _ w (by omega) (by omega) hw⟩
theorem zt_y_lo {post : Int32 → Prop} {x : Int32} (hL : L ≤ 40) (hs : zt_sh t L sh) (h1 : ∀ e, e ≤ 3 → x = nI e → ∀ G, zt_G (zt_g t L) L G → post (nI G)) (h0 : (∀ e, e ≤ 3 → ¬ x = nI e) → post (-1)) : wpY_longest post (nI L, f_width, (fun j => nI (t j)), a_pattern, sh) x :=
  ⟨L + 1, zt_y_lo4 hL hs h1 h0 L 0 _ 0 (by omega) (by omega) ⟨fun a b h1 h2 h3 => by omega, Or.inl rfl, Nat.zero_le _⟩⟩
theorem zt_y_be {post : Int32 → Prop} {i j : Nat} (hL : L ≤ 40) (hs : zt_sh t L sh) (hi : i < L) (hj : j < L) (h4 : ∀ i, t i < 4) (h1 : zt_T (zt_g t L) i j → post 1) (h0 : ¬ zt_T (zt_g t L) i j → post 0) : wpY_before post (nI L, f_width, (fun j => nI (t j)), a_pattern, sh) (nI i) (nI j) := by
  have a := zt_y_at hs (i := i) (j := j) (by omega) (by omega)
  have b1 := zt_N_i (g := zt_g t L) (L := L) (i := i) (j := j) (by omega) (by omega)
  have b2 := zt_N_j (g := zt_g t L) (L := L) (i := i) (j := j) (by omega) (by omega)
  have z := zt_T_N (zt_g_Z t L) (i := i) (j := j) (by omega) (by omega)
  refine ⟨a.1, nm_r a.2 ?_⟩
  generalize zt_N (zt_g t L) L i j = s at *
  have ei : (nI i + nI s).toNatClampNeg = i + s := pk_cl (i + s) (nI_add i s)
  have ej : (nI j + nI s).toNatClampNeg = j + s := pk_cl (j + s) (nI_add j s)
  refine pk_eq (i + s) L (fun c => pk_le L (j + s) (fun d => h0 (fun x => ?_)) (fun d => h1 (z.2 (Or.inl ⟨c, d⟩))) rfl (nI_add j s)) (fun c => pk_le L (j + s) (fun d => h0 (fun x => ?_)) (fun d => ⟨pk_in (i + s) 40 (by omega) (nI_add i s), pk_in (j + s) 40 (by omega) (nI_add j s), zt_br (d := t (j + s) ≤ t (i + s)) ?_ (fun e => h0 (fun x => ?_)) (fun e => h1 (z.2 (Or.inr ⟨by omega, d, ?_⟩)))⟩) rfl (nI_add j s)) (nI_add i s) rfl
  · rcases z.1 x with y | y <;> omega
  · rcases z.1 x with y | y <;> omega
  · simp only [ei, ej]; exact nI_leI (zt_31 (h4 _)) (zt_31 (h4 _))
  · rcases z.1 x with y | y
    · omega
    · have := y.2.2
      rw [zt_g_lt (by omega), zt_g_lt (by omega)] at this
      omega
  · rw [zt_g_lt (by omega), zt_g_lt (by omega)]
    omega
theorem zt_y_ta25 {post : Int32 → Prop} {J : _} {x k : Int32} {i : Nat} (hL : L ≤ 40) (hs : zt_sh t L sh) (hi : i < L) (h4 : ∀ i, t i < 4) (h1 : nI (zt_r (zt_g t L) L i) = k → post (nI i)) (h0 : ¬ nI (zt_r (zt_g t L) L i) = k → J (nI (i + 1))) : ∀ d j n, j + d = L → d < n → wY_tail_25 post J x k (nI i) (nI L) f_width (fun j => nI (t j)) a_pattern sh n (nI (zt_c (fun j => zt_T (zt_g t L) j i) j)) (nI j) := by
  intro d
  induction d with
  | zero =>
    intro j n hj hn
    obtain ⟨n, rfl⟩ : ∃ m, n = m + 1 := ⟨n - 1, by omega⟩
    have e : j = L := by omega
    subst e
    exact br_t (nI_le (Nat.le_refl _) (by omega)) (br_c h1 (fun c => nm_r (nI_1 i) (h0 c)))
  | succ d ih =>
    intro j n hj hn
    obtain ⟨n, rfl⟩ : ∃ m, n = m + 1 := ⟨n - 1, by omega⟩
    have nx := ih (j + 1) n (by omega) (by omega)
    refine br_f (nI_ge (by omega) (by omega)) (zt_y_be hL hs (by omega) hi h4 (fun c => br_f (by decide) (nm_r (e' := nI (zt_c (fun j => zt_T (zt_g t L) j i) (j + 1))) ?_ (nm_r (nI_1 j) nx))) (fun c => br_t rfl (nm_r (nI_1 j) ?_)))
    · rw [zt_ct (p := fun j => zt_T (zt_g t L) j i) c, nI_1]
    · rw [zt_cf (p := fun j => zt_T (zt_g t L) j i) c] at nx
      exact nx
theorem zt_y_ta2 {post : Int32 → Prop} {x k : Int32} {e : Nat} (he : e ≤ 3) (hx : x = nI e) (hL : L ≤ 40) (hs : zt_sh t L sh) (h4 : ∀ i, t i < 4) (h : ∀ r, zt_tail (zt_g t L) L k r → post r) : ∀ d i n, i + d = L → d < n → (∀ j, j < i → ¬ nI (zt_r (zt_g t L) L j) = k) → wY_tail_2 post x k (nI L) f_width (fun j => nI (t j)) a_pattern sh n (nI i) := by
  intro d
  induction d with
  | zero =>
    intro i n hi hn hj
    obtain ⟨n, rfl⟩ : ∃ m, n = m + 1 := ⟨n - 1, by omega⟩
    have e : i = L := by omega
    subst e
    exact br_t (nI_le (Nat.le_refl _) (by omega)) (h _ (Or.inr ⟨hj, rfl⟩))
  | succ d ih =>
    intro i n hi hn hj
    obtain ⟨n, rfl⟩ : ∃ m, n = m + 1 := ⟨n - 1, by omega⟩
    refine br_f (nI_ge (by omega) (by omega)) (zt_y_en (k := 3) (by omega) (fun _ _ _ => br_f (by decide) ⟨L + 1, zt_y_ta25 hL hs (by omega) h4 (fun c => h _ (Or.inl ⟨i, by omega, c, rfl⟩)) (fun c => ih (i + 1) n (by omega) (by omega) (fun j hj' => ?_)) L 0 _ (by omega) (by omega)⟩) (fun c => absurd hx (c e he)))
    by_cases z : j = i
    · subst z; exact c
    · exact hj j (by omega)
theorem zt_y_ta {post : Int32 → Prop} {x k : Int32} (hL : L ≤ 40) (hs : zt_sh t L sh) (h4 : ∀ i, t i < 4) (h1 : ∀ e, e ≤ 3 → x = nI e → ∀ r, zt_tail (zt_g t L) L k r → post r) (h0 : (∀ e, e ≤ 3 → ¬ x = nI e) → post (-1)) : wpY_tail post (nI L, f_width, (fun j => nI (t j)), a_pattern, sh) x k := by
  by_cases c : ∃ e, e ≤ 3 ∧ x = nI e
  · obtain ⟨e, he, hx⟩ := c
    exact ⟨L + 1, zt_y_ta2 he hx hL hs h4 (h1 e he hx) L 0 _ (by omega) (by omega) (fun j hj => by omega)⟩
  · have no := h0 (fun e he hx => c ⟨e, he, hx⟩)
    exact ⟨1, pk_le L 0 (fun _ => no) (fun _ => zt_y_en (k := 3) (by omega) (fun e he hx => absurd ⟨e, he, hx⟩ c) (fun _ => br_t rfl no))⟩
end
