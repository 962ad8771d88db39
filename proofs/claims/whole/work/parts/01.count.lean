/-! counting below a bound, sums, bijections -/
/-- how many i below n have p -/
noncomputable def zt_c (p : Nat → Prop) : Nat → Nat
  | 0 => 0
  | n + 1 => zt_c p n + @ite Nat (p n) (Classical.propDecidable (p n)) 1 0
theorem zt_c0 (p : Nat → Prop) : zt_c p 0 = 0 := rfl
theorem zt_ct {p : Nat → Prop} {n : Nat} (h : p n) : zt_c p (n + 1) = zt_c p n + 1 := by
  show zt_c p n + @ite Nat (p n) (Classical.propDecidable (p n)) 1 0 = _
  rw [if_pos h]
theorem zt_cf {p : Nat → Prop} {n : Nat} (h : ¬ p n) : zt_c p (n + 1) = zt_c p n := by
  show zt_c p n + @ite Nat (p n) (Classical.propDecidable (p n)) 1 0 = _
  rw [if_neg h, Nat.add_zero]
theorem zt_cle {p q : Nat → Prop} (n : Nat) (h : ∀ i, i < n → p i → q i) : zt_c p n ≤ zt_c q n := by
  induction n with
  | zero => exact Nat.le_refl _
  | succ n ih =>
    have ih' := ih (fun i hi => h i (by omega))
    by_cases a : p n
    · rw [zt_ct a, zt_ct (h n (by omega) a)]; omega
    · rw [zt_cf a]
      by_cases b : q n
      · rw [zt_ct b]; omega
      · rw [zt_cf b]; exact ih'
theorem zt_cc {p q : Nat → Prop} (n : Nat) (h : ∀ i, i < n → (p i ↔ q i)) : zt_c p n = zt_c q n :=
  Nat.le_antisymm (zt_cle n fun i hi => (h i hi).1) (zt_cle n fun i hi => (h i hi).2)
theorem zt_cn (p : Nat → Prop) (n : Nat) : zt_c p n ≤ n := by
  induction n with
  | zero => exact Nat.le_refl _
  | succ n ih =>
    by_cases a : p n
    · rw [zt_ct a]; omega
    · rw [zt_cf a]; omega
theorem zt_call {p : Nat → Prop} (n : Nat) (h : ∀ i, i < n → p i) : zt_c p n = n := by
  induction n with
  | zero => rfl
  | succ n ih => rw [zt_ct (h n (by omega)), ih (fun i hi => h i (by omega))]
theorem zt_cz {p : Nat → Prop} (n : Nat) (h : ∀ i, i < n → ¬ p i) : zt_c p n = 0 := by
  induction n with
  | zero => rfl
  | succ n ih => rw [zt_cf (h n (by omega)), ih (fun i hi => h i (by omega))]
theorem zt_cmono (p : Nat → Prop) {n m : Nat} (h : n ≤ m) : zt_c p n ≤ zt_c p m := by
  induction m with
  | zero => have : n = 0 := by omega
            rw [this]; exact Nat.le_refl _
  | succ m ih =>
    by_cases e : n = m + 1
    · rw [e]; exact Nat.le_refl _
    · have := ih (by omega)
      by_cases a : p m
      · rw [zt_ct a]; omega
      · rw [zt_cf a]; exact this
/-- one taken out -/
theorem zt_crm {q : Nat → Prop} (m j : Nat) (hj : j < m) (hq : q j) : zt_c q m = zt_c (fun x => q x ∧ x ≠ j) m + 1 := by
  induction m with
  | zero => omega
  | succ m ih =>
    by_cases e : j = m
    · subst e
      rw [zt_ct hq, zt_cf (p := fun x => q x ∧ x ≠ j) (fun h => h.2 rfl)]
      rw [zt_cc (p := q) (q := fun x => q x ∧ x ≠ j) j (fun i hi => ⟨fun h => ⟨h, by omega⟩, fun h => h.1⟩)]
    · have ih' := ih (by omega)
      by_cases b : q m
      · rw [zt_ct b, zt_ct (p := fun x => q x ∧ x ≠ j) ⟨b, fun h => e h.symm⟩, ih']
      · rw [zt_cf b, zt_cf (p := fun x => q x ∧ x ≠ j) (fun h => b h.1), ih']
theorem zt_clt {p q : Nat → Prop} (n j : Nat) (h : ∀ i, i < n → p i → q i) (hj : j < n) (hp : ¬ p j) (hq : q j) : zt_c p n < zt_c q n := by
  rw [zt_crm n j hj hq]
  have : zt_c p n ≤ zt_c (fun x => q x ∧ x ≠ j) n := zt_cle n fun i hi hpi => ⟨h i hi hpi, fun e => hp (e ▸ hpi)⟩
  omega
theorem zt_c1 {p : Nat → Prop} (n j : Nat) (hj : j < n) (hp : p j) (h : ∀ i, i < n → p i → i = j) : zt_c p n = 1 := by
  rw [zt_crm n j hj hp, zt_cz (p := fun x => p x ∧ x ≠ j) n (fun i hi hh => hh.2 (h i hi hh.1))]
theorem zt_cpos {p : Nat → Prop} (n : Nat) (h : 0 < zt_c p n) : ∃ i, i < n ∧ p i := by
  induction n with
  | zero => exact absurd h (Nat.lt_irrefl 0)
  | succ n ih =>
    by_cases a : p n
    · exact ⟨n, by omega, a⟩
    · rw [zt_cf a] at h
      obtain ⟨i, hi, hp⟩ := ih h
      exact ⟨i, by omega, hp⟩
theorem zt_cge1 {p : Nat → Prop} (n i : Nat) (hi : i < n) (hp : p i) : 1 ≤ zt_c p n := by
  rw [zt_crm n i hi hp]; omega
theorem zt_cor {p q : Nat → Prop} (n : Nat) (h : ∀ i, i < n → p i → ¬ q i) : zt_c (fun i => p i ∨ q i) n = zt_c p n + zt_c q n := by
  induction n with
  | zero => rfl
  | succ n ih =>
    have ih' := ih (fun i hi => h i (by omega))
    by_cases a : p n
    · rw [zt_ct (p := fun i => p i ∨ q i) (Or.inl a), zt_ct a, zt_cf (h n (by omega) a), ih']; omega
    · by_cases b : q n
      · rw [zt_ct (p := fun i => p i ∨ q i) (Or.inr b), zt_cf a, zt_ct b, ih']; omega
      · rw [zt_cf (p := fun i => p i ∨ q i) (fun hh => hh.elim a b), zt_cf a, zt_cf b, ih']
/-- p splits by q -/
theorem zt_csp (p q : Nat → Prop) (n : Nat) : zt_c p n = zt_c (fun i => p i ∧ q i) n + zt_c (fun i => p i ∧ ¬ q i) n := by
  have e := zt_cor (p := fun i => p i ∧ q i) (q := fun i => p i ∧ ¬ q i) n (fun i _ h1 h2 => h2.2 h1.2)
  rw [← e]
  refine zt_cc n fun i _ => ⟨fun h => ?_, fun h => h.elim (fun a => a.1) (fun a => a.1)⟩
  by_cases b : q i
  · exact Or.inl ⟨h, b⟩
  · exact Or.inr ⟨h, b⟩
theorem zt_inj {p : Nat → Prop} (f : Nat → Nat) (m : Nat) : ∀ (n : Nat) (q : Nat → Prop), (∀ i, i < n → p i → f i < m ∧ q (f i)) → (∀ i j, i < n → j < n → p i → p j → f i = f j → i = j) → zt_c p n ≤ zt_c q m := by
  intro n
  induction n with
  | zero => intro q _ _; rw [zt_c0]; exact Nat.zero_le _
  | succ n ih =>
    intro q h hi
    by_cases a : p n
    · have h1 := (h n (by omega) a).1
      have h2 := (h n (by omega) a).2
      rw [zt_ct a, zt_crm m (f n) h1 h2]
      have := ih (fun x => q x ∧ x ≠ f n)
        (fun i hin hp => ⟨(h i (by omega) hp).1, (h i (by omega) hp).2, fun e => by
          have := hi i n (by omega) (by omega) hp a e
          omega⟩)
        (fun i j a b => hi i j (by omega) (by omega))
      omega
    · rw [zt_cf a]
      exact ih q (fun i hin => h i (by omega)) (fun i j a b => hi i j (by omega) (by omega))
theorem zt_bij {p q : Nat → Prop} (f : Nat → Nat) (n m : Nat) (h : ∀ i, i < n → p i → f i < m ∧ q (f i)) (hi : ∀ i j, i < n → j < n → p i → p j → f i = f j → i = j) (hs : ∀ y, y < m → q y → ∃ i, i < n ∧ p i ∧ f i = y) : zt_c p n = zt_c q m := by
  refine Nat.le_antisymm (zt_inj f m n q h hi) ?_
  have hg : ∃ g : Nat → Nat, ∀ y, y < m → q y → g y < n ∧ p (g y) ∧ f (g y) = y :=
    ⟨fun y => Classical.epsilon (fun i => i < n ∧ p i ∧ f i = y), fun y hy hq => Classical.epsilon_spec (hs y hy hq)⟩
  obtain ⟨g, hg⟩ := hg
  refine zt_inj g n m p (fun y hy hq => ⟨(hg y hy hq).1, (hg y hy hq).2.1⟩) (fun a b ha hb pa pb e => ?_)
  have h1 := (hg a ha pa).2.2
  have h2 := (hg b hb pb).2.2
  rw [← h1, ← h2, e]
theorem zt_sur {f : Nat → Nat} {n : Nat} (hb : ∀ i, i < n → f i < n) (hi : ∀ i j, i < n → j < n → f i = f j → i = j) (k : Nat) (hk : k < n) : ∃ i, i < n ∧ f i = k := by
  refine Classical.byContradiction fun hn => ?_
  have h1 : zt_c (fun _ => True) n = n := zt_call n (fun _ _ => trivial)
  have h2 := zt_crm (q := fun _ => True) n k hk trivial
  have h3 := zt_inj (p := fun _ => True) f n n (fun x => True ∧ x ≠ k) (fun i hin _ => ⟨hb i hin, trivial, fun e => hn ⟨i, hin, e⟩⟩) (fun i j a b _ _ => hi i j a b)
  omega
theorem zt_id {f : Nat → Nat} {n : Nat} (hb : ∀ k, k < n → f k < n) (hm : ∀ a b, a < b → b < n → f a < f b) (k : Nat) (hk : k < n) : f k = k := by
  have lo : ∀ k, k < n → k ≤ f k := by
    intro k
    induction k with
    | zero => intro _; exact Nat.zero_le _
    | succ k ih =>
      intro h
      have h1 := ih (by omega)
      have h2 := hm k (k + 1) (by omega) h
      omega
  have up : ∀ d, d < n → f (n - 1 - d) ≤ n - 1 - d := by
    intro d
    induction d with
    | zero => intro h; have := hb (n - 1 - 0) (by omega); omega
    | succ d ih =>
      intro h
      have h1 := ih (by omega)
      have h2 := hm (n - 1 - (d + 1)) (n - 1 - d) (by omega) (by omega)
      omega
  have h1 := lo k hk
  have h2 := up (n - 1 - k) (by omega)
  have e : n - 1 - (n - 1 - k) = k := by omega
  rw [e] at h2
  omega
/-- sums -/
def zt_s (f : Nat → Nat) : Nat → Nat
  | 0 => 0
  | n + 1 => zt_s f n + f n
theorem zt_s0 (f : Nat → Nat) : zt_s f 0 = 0 := rfl
theorem zt_s1 (f : Nat → Nat) (n : Nat) : zt_s f (n + 1) = zt_s f n + f n := rfl
theorem zt_sc {f g : Nat → Nat} (n : Nat) (h : ∀ i, i < n → f i = g i) : zt_s f n = zt_s g n := by
  induction n with
  | zero => rfl
  | succ n ih => rw [zt_s1, zt_s1, ih (fun i hi => h i (by omega)), h n (by omega)]
theorem zt_sadd (f g : Nat → Nat) (n : Nat) : zt_s (fun i => f i + g i) n = zt_s f n + zt_s g n := by
  induction n with
  | zero => rfl
  | succ n ih => rw [zt_s1, zt_s1, zt_s1, ih]; omega
theorem zt_sle (f : Nat → Nat) (b n : Nat) (h : ∀ i, i < n → f i ≤ b) : zt_s f n ≤ n * b := by
  induction n with
  | zero => rw [zt_s0]; exact Nat.zero_le _
  | succ n ih =>
    have h1 := ih (fun i hi => h i (by omega))
    have h2 := h n (by omega)
    rw [zt_s1, Nat.succ_mul]; omega
theorem zt_s_c (p : Nat → Prop) (f : Nat → Nat) (n : Nat) (h1 : ∀ i, i < n → p i → f i = 1) (h0 : ∀ i, i < n → ¬ p i → f i = 0) : zt_s f n = zt_c p n := by
  induction n with
  | zero => rfl
  | succ n ih =>
    have ih' := ih (fun i hi => h1 i (by omega)) (fun i hi => h0 i (by omega))
    by_cases a : p n
    · rw [zt_s1, zt_ct a, ih', h1 n (by omega) a]
    · rw [zt_s1, zt_cf a, ih', h0 n (by omega) a, Nat.add_zero]
/-- counted by rows or by columns -/
theorem zt_dc (Q : Nat → Nat → Prop) (n m : Nat) : zt_s (fun i => zt_c (fun s => Q i s) m) n = zt_s (fun s => zt_c (fun i => Q i s) n) m := by
  induction n with
  | zero =>
    rw [zt_s0]
    induction m with
    | zero => rfl
    | succ m ih => rw [zt_s1, ← ih]; rfl
  | succ n ih =>
    rw [zt_s1, ih]
    clear ih
    induction m with
    | zero => rfl
    | succ m ih =>
      rw [zt_s1, zt_s1, ← ih]
      by_cases a : Q n m
      · rw [zt_ct (p := fun s => Q n s) a, zt_ct (p := fun i => Q i m) a]; omega
      · rw [zt_cf (p := fun s => Q n s) a, zt_cf (p := fun i => Q i m) a]; omega
/-- a sum along a bijection: f over the rows of o is f over the places -/
theorem zt_srm (f : Nat → Nat) (n j : Nat) (hj : j < n) : zt_s f n = zt_s (fun i => @ite Nat (i = j) (Nat.decEq i j) 0 (f i)) n + f j := by
  induction n with
  | zero => omega
  | succ n ih =>
    rw [zt_s1, zt_s1]
    by_cases e : j = n
    · subst e
      rw [if_pos rfl, zt_sc (f := fun i => @ite Nat (i = j) (Nat.decEq i j) 0 (f i)) (g := f) j (fun i hi => if_neg (by omega))]
      omega
    · rw [ih (by omega), if_neg (fun h => e h.symm)]; omega
/-- the greatest of the first n, 0 for none -/
def zt_m (f : Nat → Nat) : Nat → Nat
  | 0 => 0
  | n + 1 => if zt_m f n < f n then f n else zt_m f n
theorem zt_m1 (f : Nat → Nat) (n : Nat) : zt_m f (n + 1) = if zt_m f n < f n then f n else zt_m f n := rfl
theorem zt_m_ge {f : Nat → Nat} {n i : Nat} (h : i < n) : f i ≤ zt_m f n := by
  induction n with
  | zero => omega
  | succ n ih =>
    rw [zt_m1]
    by_cases e : i = n
    · subst e; split <;> omega
    · have := ih (by omega)
      split <;> omega
theorem zt_m_is (f : Nat → Nat) (n : Nat) : zt_m f n = 0 ∨ ∃ i, i < n ∧ f i = zt_m f n := by
  induction n with
  | zero => exact Or.inl rfl
  | succ n ih =>
    rw [zt_m1]
    split
    · exact Or.inr ⟨n, by omega, rfl⟩
    · rcases ih with h | ⟨i, hi, he⟩
      · exact Or.inl h
      · exact Or.inr ⟨i, by omega, he⟩
theorem zt_m_le {f : Nat → Nat} {n b : Nat} (h : ∀ i, i < n → f i ≤ b) : zt_m f n ≤ b := by
  rcases zt_m_is f n with e | ⟨i, hi, e⟩
  · omega
  · rw [← e]; exact h i hi
theorem zt_m_c {f g : Nat → Nat} (n : Nat) (h : ∀ i, i < n → f i = g i) : zt_m f n = zt_m g n := by
  induction n with
  | zero => rfl
  | succ n ih => rw [zt_m1, zt_m1, ih (fun i hi => h i (by omega)), h n (by omega)]
/-- how many s of 1 .. n lie above m -/
theorem zt_c_gt (n m : Nat) (p : Nat → Prop) (hp : ∀ s, s < n → (p s ↔ m < s + 1)) (hm : m ≤ n) : zt_c p n = n - m := by
  induction n generalizing m with
  | zero => rw [zt_c0]; omega
  | succ n ih =>
    by_cases e : m = n + 1
    · rw [zt_cz]
      · omega
      · intro i hi h
        have := (hp i hi).1 h
        omega
    · rw [zt_ct ((hp n (by omega)).2 (by omega)), ih m (fun s hs => hp s (by omega)) (by omega)]; omega
theorem zt_least (P : Nat → Prop) (h : ∃ k, P k) : ∃ k, P k ∧ ∀ j, j < k → ¬ P j := by
  obtain ⟨k, hk⟩ := h
  induction k using Nat.strongRecOn with
  | _ k ih =>
    by_cases e : ∃ j, j < k ∧ P j
    · obtain ⟨j, hj, hp⟩ := e
      exact ih j hj hp
    · exact ⟨k, hk, fun j hj hp => e ⟨j, hj, hp⟩⟩
theorem zt_cltx {A : Nat → Prop} {f : Nat → Nat} (n m : Nat) : zt_c (fun j => A j ∧ f j < m) n = zt_s (fun x => zt_c (fun j => A j ∧ f j = x) n) m := by
  induction m with
  | zero => rw [zt_s0]; exact zt_cz n fun i _ h => by omega
  | succ m ih =>
    have e := zt_cor (p := fun j => A j ∧ f j < m) (q := fun j => A j ∧ f j = m) n (fun i _ h1 h2 => by omega)
    rw [zt_s1, ← ih, ← e]
    refine zt_cc n fun i _ => ⟨fun h => ?_, fun h => ?_⟩
    · by_cases c : f i < m
      · exact Or.inl ⟨h.1, c⟩
      · exact Or.inr ⟨h.1, by omega⟩
    · rcases h with h | h
      · exact ⟨h.1, by omega⟩
      · exact ⟨h.1, by omega⟩
/-- five ways to go on -/
theorem zt_c5 {A : Nat → Prop} {f : Nat → Nat} (m : Nat) (hf : ∀ i, f i ≤ 4) : zt_c A m = zt_c (fun i => A i ∧ f i = 0) m + zt_c (fun i => A i ∧ f i = 1) m + zt_c (fun i => A i ∧ f i = 2) m + zt_c (fun i => A i ∧ f i = 3) m + zt_c (fun i => A i ∧ f i = 4) m := by
  have e := zt_cltx (A := A) (f := f) m 5
  rw [zt_s1, zt_s1, zt_s1, zt_s1, zt_s1, zt_s0, Nat.zero_add] at e
  rw [← e]
  exact zt_cc m fun i _ => ⟨fun a => ⟨a, by have := hf i; omega⟩, fun a => a.1⟩
