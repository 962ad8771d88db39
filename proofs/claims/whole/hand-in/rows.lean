section
/-! counting below a bound, sums, bijections -/
/-- how many i below n have p -/
noncomputable def zt_c (p : Nat → Prop) : Nat → Nat
  | 0 => 0
  | n + 1 => zt_c p n + @ite Nat (p n) (Classical.propDecidable (p n)) 1 0
theorem zt_c0 (p : Nat → Prop) : zt_c p 0 = 0 := rfl
theorem zt_ct {p : Nat → Prop} {n : Nat} (h : p n) : zt_c p (n + 1) = zt_c p n + 1 := by
  show zt_c p n + @ite Nat (p n) (Classical.propDecidable (p n)) 1 0 = _
  rw [if_pos h]
theorem zt_cf {p : Nat → Prop} {n : Nat} (h : ¬ p n) : zt_c p (n + 1) = zt_c p n := by
  show zt_c p n + @ite Nat (p n) (Classical.propDecidable (p n)) 1 0 = _
  rw [if_neg h, Nat.add_zero]
theorem zt_cle {p q : Nat → Prop} (n : Nat) (h : ∀ i, i < n → p i → q i) : zt_c p n ≤ zt_c q n := by
  induction n with
  | zero => exact Nat.le_refl _
  | succ n ih =>
    have ih' := ih (fun i hi => h i (by omega))
    by_cases a : p n
    · rw [zt_ct a, zt_ct (h n (by omega) a)]; omega
    · rw [zt_cf a]
      by_cases b : q n
      · rw [zt_ct b]; omega
      · rw [zt_cf b]; exact ih'
theorem zt_cc {p q : Nat → Prop} (n : Nat) (h : ∀ i, i < n → (p i ↔ q i)) : zt_c p n = zt_c q n :=
  Nat.le_antisymm (zt_cle n fun i hi => (h i hi).1) (zt_cle n fun i hi => (h i hi).2)
theorem zt_cn (p : Nat → Prop) (n : Nat) : zt_c p n ≤ n := by
  induction n with
  | zero => exact Nat.le_refl _
  | succ n ih =>
    by_cases a : p n
    · rw [zt_ct a]; omega
    · rw [zt_cf a]; omega
theorem zt_call {p : Nat → Prop} (n : Nat) (h : ∀ i, i < n → p i) : zt_c p n = n := by
  induction n with
  | zero => rfl
  | succ n ih => rw [zt_ct (h n (by omega)), ih (fun i hi => h i (by omega))]
theorem zt_cz {p : Nat → Prop} (n : Nat) (h : ∀ i, i < n → ¬ p i) : zt_c p n = 0 := by
  induction n with
  | zero => rfl
  | succ n ih => rw [zt_cf (h n (by omega)), ih (fun i hi => h i (by omega))]
theorem zt_cmono (p : Nat → Prop) {n m : Nat} (h : n ≤ m) : zt_c p n ≤ zt_c p m := by
  induction m with
  | zero => have : n = 0 := by omega
            rw [this]; exact Nat.le_refl _
  | succ m ih =>
    by_cases e : n = m + 1
    · rw [e]; exact Nat.le_refl _
    · have := ih (by omega)
      by_cases a : p m
      · rw [zt_ct a]; omega
      · rw [zt_cf a]; exact this
/-- one taken out -/
theorem zt_crm {q : Nat → Prop} (m j : Nat) (hj : j < m) (hq : q j) : zt_c q m = zt_c (fun x => q x ∧ x ≠ j) m + 1 := by
  induction m with
  | zero => omega
  | succ m ih =>
    by_cases e : j = m
    · subst e
      rw [zt_ct hq, zt_cf (p := fun x => q x ∧ x ≠ j) (fun h => h.2 rfl)]
      rw [zt_cc (p := q) (q := fun x => q x ∧ x ≠ j) j (fun i hi => ⟨fun h => ⟨h, by omega⟩, fun h => h.1⟩)]
    · have ih' := ih (by omega)
      by_cases b : q m
      · rw [zt_ct b, zt_ct (p := fun x => q x ∧ x ≠ j) ⟨b, fun h => e h.symm⟩, ih']
      · rw [zt_cf b, zt_cf (p := fun x => q x ∧ x ≠ j) (fun h => b h.1), ih']
theorem zt_clt {p q : Nat → Prop} (n j : Nat) (h : ∀ i, i < n → p i → q i) (hj : j < n) (hp : ¬ p j) (hq : q j) : zt_c p n < zt_c q n := by
  rw [zt_crm n j hj hq]
  have : zt_c p n ≤ zt_c (fun x => q x ∧ x ≠ j) n := zt_cle n fun i hi hpi => ⟨h i hi hpi, fun e => hp (e ▸ hpi)⟩
  omega
theorem zt_c1 {p : Nat → Prop} (n j : Nat) (hj : j < n) (hp : p j) (h : ∀ i, i < n → p i → i = j) : zt_c p n = 1 := by
  rw [zt_crm n j hj hp, zt_cz (p := fun x => p x ∧ x ≠ j) n (fun i hi hh => hh.2 (h i hi hh.1))]
theorem zt_cpos {p : Nat → Prop} (n : Nat) (h : 0 < zt_c p n) : ∃ i, i < n ∧ p i := by
  induction n with
  | zero => exact absurd h (Nat.lt_irrefl 0)
  | succ n ih =>
    by_cases a : p n
    · exact ⟨n, by omega, a⟩
    · rw [zt_cf a] at h
      obtain ⟨i, hi, hp⟩ := ih h
      exact ⟨i, by omega, hp⟩
theorem zt_cge1 {p : Nat → Prop} (n i : Nat) (hi : i < n) (hp : p i) : 1 ≤ zt_c p n := by
  rw [zt_crm n i hi hp]; omega
theorem zt_cor {p q : Nat → Prop} (n : Nat) (h : ∀ i, i < n → p i → ¬ q i) : zt_c (fun i => p i ∨ q i) n = zt_c p n + zt_c q n := by
  induction n with
  | zero => rfl
  | succ n ih =>
    have ih' := ih (fun i hi => h i (by omega))
    by_cases a : p n
    · rw [zt_ct (p := fun i => p i ∨ q i) (Or.inl a), zt_ct a, zt_cf (h n (by omega) a), ih']; omega
    · by_cases b : q n
      · rw [zt_ct (p := fun i => p i ∨ q i) (Or.inr b), zt_cf a, zt_ct b, ih']; omega
      · rw [zt_cf (p := fun i => p i ∨ q i) (fun hh => hh.elim a b), zt_cf a, zt_cf b, ih']
/-- p splits by q -/
theorem zt_csp (p q : Nat → Prop) (n : Nat) : zt_c p n = zt_c (fun i => p i ∧ q i) n + zt_c (fun i => p i ∧ ¬ q i) n := by
  have e := zt_cor (p := fun i => p i ∧ q i) (q := fun i => p i ∧ ¬ q i) n (fun i _ h1 h2 => h2.2 h1.2)
  rw [← e]
  refine zt_cc n fun i _ => ⟨fun h => ?_, fun h => h.elim (fun a => a.1) (fun a => a.1)⟩
  by_cases b : q i
  · exact Or.inl ⟨h, b⟩
  · exact Or.inr ⟨h, b⟩
theorem zt_inj {p : Nat → Prop} (f : Nat → Nat) (m : Nat) : ∀ (n : Nat) (q : Nat → Prop), (∀ i, i < n → p i → f i < m ∧ q (f i)) → (∀ i j, i < n → j < n → p i → p j → f i = f j → i = j) → zt_c p n ≤ zt_c q m := by
  intro n
  induction n with
  | zero => intro q _ _; rw [zt_c0]; exact Nat.zero_le _
  | succ n ih =>
    intro q h hi
    by_cases a : p n
    · have h1 := (h n (by omega) a).1
      have h2 := (h n (by omega) a).2
      rw [zt_ct a, zt_crm m (f n) h1 h2]
      have := ih (fun x => q x ∧ x ≠ f n)
        (fun i hin hp => ⟨(h i (by omega) hp).1, (h i (by omega) hp).2, fun e => by
          have := hi i n (by omega) (by omega) hp a e
          omega⟩)
        (fun i j a b => hi i j (by omega) (by omega))
      omega
    · rw [zt_cf a]
      exact ih q (fun i hin => h i (by omega)) (fun i j a b => hi i j (by omega) (by omega))
theorem zt_bij {p q : Nat → Prop} (f : Nat → Nat) (n m : Nat) (h : ∀ i, i < n → p i → f i < m ∧ q (f i)) (hi : ∀ i j, i < n → j < n → p i → p j → f i = f j → i = j) (hs : ∀ y, y < m → q y → ∃ i, i < n ∧ p i ∧ f i = y) : zt_c p n = zt_c q m := by
  refine Nat.le_antisymm (zt_inj f m n q h hi) ?_
  have hg : ∃ g : Nat → Nat, ∀ y, y < m → q y → g y < n ∧ p (g y) ∧ f (g y) = y :=
    ⟨fun y => Classical.epsilon (fun i => i < n ∧ p i ∧ f i = y), fun y hy hq => Classical.epsilon_spec (hs y hy hq)⟩
  obtain ⟨g, hg⟩ := hg
  refine zt_inj g n m p (fun y hy hq => ⟨(hg y hy hq).1, (hg y hy hq).2.1⟩) (fun a b ha hb pa pb e => ?_)
  have h1 := (hg a ha pa).2.2
  have h2 := (hg b hb pb).2.2
  rw [← h1, ← h2, e]
theorem zt_sur {f : Nat → Nat} {n : Nat} (hb : ∀ i, i < n → f i < n) (hi : ∀ i j, i < n → j < n → f i = f j → i = j) (k : Nat) (hk : k < n) : ∃ i, i < n ∧ f i = k := by
  refine Classical.byContradiction fun hn => ?_
  have h1 : zt_c (fun _ => True) n = n := zt_call n (fun _ _ => trivial)
  have h2 := zt_crm (q := fun _ => True) n k hk trivial
  have h3 := zt_inj (p := fun _ => True) f n n (fun x => True ∧ x ≠ k) (fun i hin _ => ⟨hb i hin, trivial, fun e => hn ⟨i, hin, e⟩⟩) (fun i j a b _ _ => hi i j a b)
  omega
theorem zt_id {f : Nat → Nat} {n : Nat} (hb : ∀ k, k < n → f k < n) (hm : ∀ a b, a < b → b < n → f a < f b) (k : Nat) (hk : k < n) : f k = k := by
  have lo : ∀ k, k < n → k ≤ f k := by
    intro k
    induction k with
    | zero => intro _; exact Nat.zero_le _
    | succ k ih =>
      intro h
      have h1 := ih (by omega)
      have h2 := hm k (k + 1) (by omega) h
      omega
  have up : ∀ d, d < n → f (n - 1 - d) ≤ n - 1 - d := by
    intro d
    induction d with
    | zero => intro h; have := hb (n - 1 - 0) (by omega); omega
    | succ d ih =>
      intro h
      have h1 := ih (by omega)
      have h2 := hm (n - 1 - (d + 1)) (n - 1 - d) (by omega) (by omega)
      omega
  have h1 := lo k hk
  have h2 := up (n - 1 - k) (by omega)
  have e : n - 1 - (n - 1 - k) = k := by omega
  rw [e] at h2
  omega
/-- sums -/
def zt_s (f : Nat → Nat) : Nat → Nat
  | 0 => 0
  | n + 1 => zt_s f n + f n
theorem zt_s0 (f : Nat → Nat) : zt_s f 0 = 0 := rfl
theorem zt_s1 (f : Nat → Nat) (n : Nat) : zt_s f (n + 1) = zt_s f n + f n := rfl
theorem zt_sc {f g : Nat → Nat} (n : Nat) (h : ∀ i, i < n → f i = g i) : zt_s f n = zt_s g n := by
  induction n with
  | zero => rfl
  | succ n ih => rw [zt_s1, zt_s1, ih (fun i hi => h i (by omega)), h n (by omega)]
theorem zt_sadd (f g : Nat → Nat) (n : Nat) : zt_s (fun i => f i + g i) n = zt_s f n + zt_s g n := by
  induction n with
  | zero => rfl
  | succ n ih => rw [zt_s1, zt_s1, zt_s1, ih]; omega
theorem zt_sle (f : Nat → Nat) (b n : Nat) (h : ∀ i, i < n → f i ≤ b) : zt_s f n ≤ n * b := by
  induction n with
  | zero => rw [zt_s0]; exact Nat.zero_le _
  | succ n ih =>
    have h1 := ih (fun i hi => h i (by omega))
    have h2 := h n (by omega)
    rw [zt_s1, Nat.succ_mul]; omega
theorem zt_s_c (p : Nat → Prop) (f : Nat → Nat) (n : Nat) (h1 : ∀ i, i < n → p i → f i = 1) (h0 : ∀ i, i < n → ¬ p i → f i = 0) : zt_s f n = zt_c p n := by
  induction n with
  | zero => rfl
  | succ n ih =>
    have ih' := ih (fun i hi => h1 i (by omega)) (fun i hi => h0 i (by omega))
    by_cases a : p n
    · rw [zt_s1, zt_ct a, ih', h1 n (by omega) a]
    · rw [zt_s1, zt_cf a, ih', h0 n (by omega) a, Nat.add_zero]
/-- counted by rows or by columns -/
theorem zt_dc (Q : Nat → Nat → Prop) (n m : Nat) : zt_s (fun i => zt_c (fun s => Q i s) m) n = zt_s (fun s => zt_c (fun i => Q i s) n) m := by
  induction n with
  | zero =>
    rw [zt_s0]
    induction m with
    | zero => rfl
    | succ m ih => rw [zt_s1, ← ih]; rfl
  | succ n ih =>
    rw [zt_s1, ih]
    clear ih
    induction m with
    | zero => rfl
    | succ m ih =>
      rw [zt_s1, zt_s1, ← ih]
      by_cases a : Q n m
      · rw [zt_ct (p := fun s => Q n s) a, zt_ct (p := fun i => Q i m) a]; omega
      · rw [zt_cf (p := fun s => Q n s) a, zt_cf (p := fun i => Q i m) a]; omega
/-- a sum along a bijection: f over the rows of o is f over the places -/
theorem zt_srm (f : Nat → Nat) (n j : Nat) (hj : j < n) : zt_s f n = zt_s (fun i => @ite Nat (i = j) (Nat.decEq i j) 0 (f i)) n + f j := by
  induction n with
  | zero => omega
  | succ n ih =>
    rw [zt_s1, zt_s1]
    by_cases e : j = n
    · subst e
      rw [if_pos rfl, zt_sc (f := fun i => @ite Nat (i = j) (Nat.decEq i j) 0 (f i)) (g := f) j (fun i hi => if_neg (by omega))]
      omega
    · rw [ih (by omega), if_neg (fun h => e h.symm)]; omega
/-- the greatest of the first n, 0 for none -/
def zt_m (f : Nat → Nat) : Nat → Nat
  | 0 => 0
  | n + 1 => if zt_m f n < f n then f n else zt_m f n
theorem zt_m1 (f : Nat → Nat) (n : Nat) : zt_m f (n + 1) = if zt_m f n < f n then f n else zt_m f n := rfl
theorem zt_m_ge {f : Nat → Nat} {n i : Nat} (h : i < n) : f i ≤ zt_m f n := by
  induction n with
  | zero => omega
  | succ n ih =>
    rw [zt_m1]
    by_cases e : i = n
    · subst e; split <;> omega
    · have := ih (by omega)
      split <;> omega
theorem zt_m_is (f : Nat → Nat) (n : Nat) : zt_m f n = 0 ∨ ∃ i, i < n ∧ f i = zt_m f n := by
  induction n with
  | zero => exact Or.inl rfl
  | succ n ih =>
    rw [zt_m1]
    split
    · exact Or.inr ⟨n, by omega, rfl⟩
    · rcases ih with h | ⟨i, hi, he⟩
      · exact Or.inl h
      · exact Or.inr ⟨i, by omega, he⟩
theorem zt_m_le {f : Nat → Nat} {n b : Nat} (h : ∀ i, i < n → f i ≤ b) : zt_m f n ≤ b := by
  rcases zt_m_is f n with e | ⟨i, hi, e⟩
  · omega
  · rw [← e]; exact h i hi
theorem zt_m_c {f g : Nat → Nat} (n : Nat) (h : ∀ i, i < n → f i = g i) : zt_m f n = zt_m g n := by
  induction n with
  | zero => rfl
  | succ n ih => rw [zt_m1, zt_m1, ih (fun i hi => h i (by omega)), h n (by omega)]
/-- how many s of 1 .. n lie above m -/
theorem zt_c_gt (n m : Nat) (p : Nat → Prop) (hp : ∀ s, s < n → (p s ↔ m < s + 1)) (hm : m ≤ n) : zt_c p n = n - m := by
  induction n generalizing m with
  | zero => rw [zt_c0]; omega
  | succ n ih =>
    by_cases e : m = n + 1
    · rw [zt_cz]
      · omega
      · intro i hi h
        have := (hp i hi).1 h
        omega
    · rw [zt_ct ((hp n (by omega)).2 (by omega)), ih m (fun s hs => hp s (by omega)) (by omega)]; omega
theorem zt_least (P : Nat → Prop) (h : ∃ k, P k) : ∃ k, P k ∧ ∀ j, j < k → ¬ P j := by
  obtain ⟨k, hk⟩ := h
  induction k using Nat.strongRecOn with
  | _ k ih =>
    by_cases e : ∃ j, j < k ∧ P j
    · obtain ⟨j, hj, hp⟩ := e
      exact ih j hj hp
    · exact ⟨k, hk, fun j hj hp => e ⟨j, hj, hp⟩⟩
theorem zt_cltx {A : Nat → Prop} {f : Nat → Nat} (n m : Nat) : zt_c (fun j => A j ∧ f j < m) n = zt_s (fun x => zt_c (fun j => A j ∧ f j = x) n) m := by
  induction m with
  | zero => rw [zt_s0]; exact zt_cz n fun i _ h => by omega
  | succ m ih =>
    have e := zt_cor (p := fun j => A j ∧ f j < m) (q := fun j => A j ∧ f j = m) n (fun i _ h1 h2 => by omega)
    rw [zt_s1, ← ih, ← e]
    refine zt_cc n fun i _ => ⟨fun h => ?_, fun h => ?_⟩
    · by_cases c : f i < m
      · exact Or.inl ⟨h.1, c⟩
      · exact Or.inr ⟨h.1, by omega⟩
    · rcases h with h | h
      · exact ⟨h.1, by omega⟩
      · exact ⟨h.1, by omega⟩
/-- five ways to go on -/
theorem zt_c5 {A : Nat → Prop} {f : Nat → Nat} (m : Nat) (hf : ∀ i, f i ≤ 4) : zt_c A m = zt_c (fun i => A i ∧ f i = 0) m + zt_c (fun i => A i ∧ f i = 1) m + zt_c (fun i => A i ∧ f i = 2) m + zt_c (fun i => A i ∧ f i = 3) m + zt_c (fun i => A i ∧ f i = 4) m := by
  have e := zt_cltx (A := A) (f := f) m 5
  rw [zt_s1, zt_s1, zt_s1, zt_s1, zt_s1, zt_s0, Nat.zero_add] at e
  rw [← e]
  exact zt_cc m fun i _ => ⟨fun a => ⟨a, by have := hf i; omega⟩, fun a => a.1⟩
end
section
/-! tails of a text g: letters at places below L are not 0, from L on all is 0 -/
def zt_Z (g : Nat → Nat) (L : Nat) : Prop := ∀ i, g i = 0 ↔ L ≤ i
/-- common letters of i and j among the next n -/
def zt_n (g : Nat → Nat) (i j : Nat) : Nat → Nat
  | 0 => 0
  | n + 1 => if zt_n g i j n = n ∧ g (i + n) = g (j + n) then n + 1 else zt_n g i j n
theorem zt_n1 (g : Nat → Nat) (i j n : Nat) : zt_n g i j (n + 1) = if zt_n g i j n = n ∧ g (i + n) = g (j + n) then n + 1 else zt_n g i j n := rfl
theorem zt_n_iff (g : Nat → Nat) (i j n s : Nat) : s ≤ zt_n g i j n ↔ s ≤ n ∧ ∀ q, q < s → g (i + q) = g (j + q) := by
  induction n generalizing s with
  | zero =>
    refine ⟨fun h => ⟨h, fun q hq => ?_⟩, fun h => h.1⟩
    have : s ≤ 0 := h
    omega
  | succ n ih =>
    have hn := ih n
    have hs := ih s
    have hle : zt_n g i j n ≤ n := ((ih (zt_n g i j n)).1 (Nat.le_refl _)).1
    rw [zt_n1]
    split
    · rename_i c
      obtain ⟨c1, c2⟩ := c
      have h1 := (hn.1 (by omega)).2
      refine ⟨fun h => ⟨h, fun q hq => ?_⟩, fun h => h.1⟩
      by_cases e : q = n
      · rw [e]; exact c2
      · exact h1 q (by omega)
    · rename_i c
      rw [hs]
      refine ⟨fun h => ⟨by omega, h.2⟩, fun h => ⟨?_, h.2⟩⟩
      by_cases e : s = n + 1
      · exfalso
        subst e
        refine c ⟨?_, h.2 n (by omega)⟩
        have := hn.2 ⟨Nat.le_refl _, fun q hq => h.2 q (by omega)⟩
        omega
      · omega
/-- how many letters the tails i and j share -/
def zt_N (g : Nat → Nat) (L i j : Nat) : Nat := zt_n g i j (L - (if i < j then j else i))
theorem zt_N_iff {g : Nat → Nat} {L i j : Nat} (hi : i ≤ L) (hj : j ≤ L) (s : Nat) : s ≤ zt_N g L i j ↔ i + s ≤ L ∧ j + s ≤ L ∧ ∀ q, q < s → g (i + q) = g (j + q) := by
  unfold zt_N
  rw [zt_n_iff]
  split
  · exact ⟨fun h => ⟨by omega, by omega, h.2⟩, fun h => ⟨by omega, h.2.2⟩⟩
  · exact ⟨fun h => ⟨by omega, by omega, h.2⟩, fun h => ⟨by omega, h.2.2⟩⟩
theorem zt_N_i {g : Nat → Nat} {L i j : Nat} (hi : i ≤ L) (hj : j ≤ L) : i + zt_N g L i j ≤ L := ((zt_N_iff hi hj _).1 (Nat.le_refl _)).1
theorem zt_N_j {g : Nat → Nat} {L i j : Nat} (hi : i ≤ L) (hj : j ≤ L) : j + zt_N g L i j ≤ L := ((zt_N_iff hi hj _).1 (Nat.le_refl _)).2.1
theorem zt_N_e {g : Nat → Nat} {L i j : Nat} (hi : i ≤ L) (hj : j ≤ L) {q : Nat} (hq : q < zt_N g L i j) : g (i + q) = g (j + q) := ((zt_N_iff hi hj _).1 (Nat.le_refl _)).2.2 q hq
theorem zt_N_un {g : Nat → Nat} {L i j s : Nat} (hi : i ≤ L) (hj : j ≤ L) (h1 : i + s ≤ L) (h2 : j + s ≤ L) (h3 : ∀ q, q < s → g (i + q) = g (j + q)) (h4 : i + s = L ∨ j + s = L ∨ g (i + s) ≠ g (j + s)) : zt_N g L i j = s := by
  refine Nat.le_antisymm ?_ ((zt_N_iff hi hj s).2 ⟨h1, h2, h3⟩)
  refine Classical.byContradiction fun hn => ?_
  have h5 := (zt_N_iff (g := g) hi hj (s + 1)).1 (by omega)
  have h6 := h5.2.2 s (by omega)
  rcases h4 with e | e | e
  · omega
  · omega
  · exact e h6
theorem zt_N_ne {g : Nat → Nat} {L i j : Nat} (hi : i ≤ L) (hj : j ≤ L) (h1 : i + zt_N g L i j < L) (h2 : j + zt_N g L i j < L) : g (i + zt_N g L i j) ≠ g (j + zt_N g L i j) := by
  intro e
  have : zt_N g L i j + 1 ≤ zt_N g L i j := (zt_N_iff hi hj _).2 ⟨by omega, by omega, fun q hq => by
    by_cases c : q = zt_N g L i j
    · rw [c]; exact e
    · exact zt_N_e hi hj (by omega)⟩
  omega
theorem zt_N_c {g : Nat → Nat} {L i j : Nat} (hi : i ≤ L) (hj : j ≤ L) : zt_N g L i j = zt_N g L j i := by
  apply Nat.le_antisymm
  · have h := (zt_N_iff (g := g) hi hj _).1 (Nat.le_refl _)
    exact (zt_N_iff hj hi _).2 ⟨h.2.1, h.1, fun q hq => (h.2.2 q hq).symm⟩
  · have h := (zt_N_iff (g := g) hj hi _).1 (Nat.le_refl _)
    exact (zt_N_iff hi hj _).2 ⟨h.2.1, h.1, fun q hq => (h.2.2 q hq).symm⟩
theorem zt_N_s {g : Nat → Nat} {L i : Nat} (hi : i ≤ L) : zt_N g L i i = L - i := zt_N_un hi hi (by omega) (by omega) (fun _ _ => rfl) (Or.inl (by omega))
theorem zt_N_u {g : Nat → Nat} {L i j k s : Nat} (hi : i ≤ L) (hj : j ≤ L) (hk : k ≤ L) (h1 : s ≤ zt_N g L i j) (h2 : s ≤ zt_N g L j k) : s ≤ zt_N g L i k := by
  have a := (zt_N_iff (g := g) hi hj s).1 h1
  have b := (zt_N_iff (g := g) hj hk s).1 h2
  exact (zt_N_iff hi hk s).2 ⟨a.1, b.2.1, fun q hq => (a.2.2 q hq).trans (b.2.2 q hq)⟩
theorem zt_N_suc {g : Nat → Nat} {L i j s : Nat} (hi : i + 1 ≤ L) (hj : j + 1 ≤ L) (h : s + 1 ≤ zt_N g L i j) : s ≤ zt_N g L (i + 1) (j + 1) := by
  have a := (zt_N_iff (g := g) (by omega) (by omega) (s + 1)).1 h
  refine (zt_N_iff hi hj s).2 ⟨by omega, by omega, fun q hq => ?_⟩
  have := a.2.2 (q + 1) (by omega)
  have e1 : i + 1 + q = i + (q + 1) := by omega
  have e2 : j + 1 + q = j + (q + 1) := by omega
  rw [e1, e2]; exact this
/-- the tail i comes before the tail j -/
def zt_T (g : Nat → Nat) (i j : Nat) : Prop := ∃ s, (∀ q, q < s → g (i + q) = g (j + q)) ∧ g (i + s) < g (j + s)
theorem zt_T_ir (g : Nat → Nat) (i : Nat) : ¬ zt_T g i i := fun ⟨_, _, h⟩ => Nat.lt_irrefl _ h
theorem zt_T_tr {g : Nat → Nat} {i j k : Nat} (h1 : zt_T g i j) (h2 : zt_T g j k) : zt_T g i k := by
  obtain ⟨s, a, b⟩ := h1
  obtain ⟨r, c, d⟩ := h2
  by_cases e : s < r
  · exact ⟨s, fun q hq => (a q hq).trans (c q (by omega)), by rw [← c s e]; exact b⟩
  · by_cases e2 : r < s
    · exact ⟨r, fun q hq => (a q (by omega)).trans (c q hq), by rw [a r e2]; exact d⟩
    · have : s = r := by omega
      subst this
      exact ⟨s, fun q hq => (a q hq).trans (c q hq), Nat.lt_trans b d⟩
theorem zt_T_as {g : Nat → Nat} {i j : Nat} (h1 : zt_T g i j) (h2 : zt_T g j i) : False := zt_T_ir g i (zt_T_tr h1 h2)
theorem zt_T_d {g : Nat → Nat} {i j : Nat} (h : ∃ s, g (i + s) ≠ g (j + s)) : zt_T g i j ∨ zt_T g j i := by
  obtain ⟨s, h1, h2⟩ := zt_least _ h
  have h3 : ∀ q, q < s → g (i + q) = g (j + q) := fun q hq => Classical.byContradiction (h2 q hq)
  rcases Nat.lt_or_gt_of_ne h1 with e | e
  · exact Or.inl ⟨s, h3, e⟩
  · exact Or.inr ⟨s, fun q hq => (h3 q hq).symm, e⟩
theorem zt_T_to {g : Nat → Nat} {L i j : Nat} (hz : zt_Z g L) (hi : i ≤ L) (hj : j ≤ L) (h : i ≠ j) : zt_T g i j ∨ zt_T g j i := by
  apply zt_T_d
  by_cases e : i < j
  · refine ⟨L - j, fun c => ?_⟩
    have h1 : g (j + (L - j)) = 0 := (hz _).2 (by omega)
    have h2 := (hz (i + (L - j))).1 (by rw [c]; exact h1)
    omega
  · refine ⟨L - i, fun c => ?_⟩
    have h1 : g (i + (L - i)) = 0 := (hz _).2 (by omega)
    have h2 := (hz (j + (L - i))).1 (by rw [← c]; exact h1)
    omega
/-- by the first letter that differs -/
theorem zt_T_N {g : Nat → Nat} {L i j : Nat} (hz : zt_Z g L) (hi : i ≤ L) (hj : j ≤ L) : zt_T g i j ↔ (i + zt_N g L i j = L ∧ j + zt_N g L i j < L) ∨ (i + zt_N g L i j < L ∧ j + zt_N g L i j < L ∧ g (i + zt_N g L i j) < g (j + zt_N g L i j)) := by
  have h0 := zt_N_i (g := g) hi hj
  have h1 := zt_N_j (g := g) hi hj
  have h2 : ∀ q, q < zt_N g L i j → g (i + q) = g (j + q) := fun q hq => zt_N_e hi hj hq
  have key : zt_T g i j ↔ g (i + zt_N g L i j) < g (j + zt_N g L i j) := by
    constructor
    · rintro ⟨s, a, b⟩
      have c : s = zt_N g L i j := by
        by_cases e : s < zt_N g L i j
        · have := h2 s e; omega
        · by_cases e2 : zt_N g L i j < s
          · exfalso
            have c1 := a _ e2
            by_cases f1 : i + zt_N g L i j < L
            · by_cases f2 : j + zt_N g L i j < L
              · exact zt_N_ne hi hj f1 f2 c1
              · have z1 := (hz (j + zt_N g L i j)).2 (by omega)
                have z2 := (hz (i + zt_N g L i j)).1 (by rw [c1]; exact z1)
                omega
            · have z1 : g (i + s) = 0 := (hz (i + s)).2 (by omega)
              have z2 := (hz (i + zt_N g L i j)).2 (by omega)
              have z3 := (hz (j + zt_N g L i j)).1 (by rw [← c1]; exact z2)
              have z4 : g (j + s) = 0 := (hz (j + s)).2 (by omega)
              omega
          · omega
      rw [← c]; exact b
    · intro h; exact ⟨_, h2, h⟩
  rw [key]
  constructor
  · intro h
    have z := hz (j + zt_N g L i j)
    have f2 : j + zt_N g L i j < L := by
      refine Classical.byContradiction fun c => ?_
      have := z.2 (by omega)
      omega
    by_cases f1 : i + zt_N g L i j < L
    · exact Or.inr ⟨f1, f2, h⟩
    · exact Or.inl ⟨by omega, f2⟩
  · rintro (⟨a, b⟩ | ⟨_, _, c⟩)
    · have z1 := (hz (i + zt_N g L i j)).2 (by omega)
      have z2 : ¬ g (j + zt_N g L i j) = 0 := fun c => by
        have := (hz (j + zt_N g L i j)).1 c
        omega
      omega
    · exact c
/-- what lies between shares as much -/
theorem zt_T_b {g : Nat → Nat} {L i j k s : Nat} (hi : i ≤ L) (hj : j ≤ L) (hk : k ≤ L) (hz : zt_Z g L) (h1 : zt_T g i j) (h2 : zt_T g j k) (h : s ≤ zt_N g L i k) : s ≤ zt_N g L j k := by
  have a := (zt_N_iff (g := g) hi hk s).1 h
  obtain ⟨d, b, c⟩ := h2
  have hd : s ≤ d := by
    refine Classical.byContradiction fun hn => ?_
    refine zt_T_as h1 ⟨d, fun q hq => ?_, ?_⟩
    · rw [a.2.2 q (by omega)]; exact b q hq
    · rw [a.2.2 d (by omega)]; exact c
  refine (zt_N_iff hj hk s).2 ⟨?_, a.2.1, fun q hq => b q (by omega)⟩
  by_cases e : s = 0
  · omega
  · have e1 := b (s - 1) (by omega)
    have z1 : ¬ g (k + (s - 1)) = 0 := fun c => by
      have := (hz (k + (s - 1))).1 c
      omega
    have z2 : ¬ L ≤ j + (s - 1) := fun c => by
      have := (hz (j + (s - 1))).2 c
      omega
    omega
/-- the number of tails below n that come before i -/
noncomputable def zt_r (g : Nat → Nat) (n i : Nat) : Nat := zt_c (fun j => zt_T g j i) n
theorem zt_r_lt {g : Nat → Nat} {n i : Nat} (hi : i < n) : zt_r g n i < n := by
  have h1 := zt_clt (p := fun j => zt_T g j i) (q := fun _ => True) n i (fun _ _ _ => trivial) hi (zt_T_ir g i) trivial
  have h2 : zt_c (fun _ => True) n = n := zt_call n (fun _ _ => trivial)
  unfold zt_r
  omega
theorem zt_r_mono {g : Nat → Nat} {n i j : Nat} (hi : i < n) (h : zt_T g i j) : zt_r g n i < zt_r g n j :=
  zt_clt n i (fun _ _ hq => zt_T_tr hq h) hi (zt_T_ir g i) h
theorem zt_r_iff {g : Nat → Nat} {L i j : Nat} (hz : zt_Z g L) (hi : i < L) (hj : j < L) : zt_r g L i < zt_r g L j ↔ zt_T g i j := by
  refine ⟨fun h => ?_, zt_r_mono hi⟩
  by_cases e : i = j
  · subst e; omega
  · rcases zt_T_to hz (by omega) (by omega) e with a | a
    · exact a
    · have := zt_r_mono (n := L) hj a
      omega
theorem zt_r_inj {g : Nat → Nat} {L i j : Nat} (hz : zt_Z g L) (hi : i < L) (hj : j < L) (h : zt_r g L i = zt_r g L j) : i = j := by
  refine Classical.byContradiction fun e => ?_
  rcases zt_T_to hz (by omega) (by omega) e with a | a
  · have := zt_r_mono (n := L) hi a; omega
  · have := zt_r_mono (n := L) hj a; omega
theorem zt_r_sur {g : Nat → Nat} {L : Nat} (hz : zt_Z g L) (k : Nat) (hk : k < L) : ∃ i, i < L ∧ zt_r g L i = k :=
  zt_sur (fun _ hi => zt_r_lt hi) (fun _ _ hi hj h => zt_r_inj hz hi hj h) k hk
/-- o lists the tails in order -/
def zt_O (g : Nat → Nat) (L : Nat) (o : Nat → Nat) : Prop := ∀ k, k < L → o k < L ∧ zt_r g L (o k) = k
theorem zt_O_of {g : Nat → Nat} {L : Nat} {o : Nat → Nat} (hb : ∀ k, k < L → o k < L) (hs : ∀ a b, a < b → b < L → zt_T g (o a) (o b)) : zt_O g L o :=
  fun k hk => ⟨hb k hk, zt_id (f := fun k => zt_r g L (o k)) (fun k hk => zt_r_lt (hb k hk)) (fun a b hab hb' => zt_r_mono (hb a (by omega)) (hs a b hab hb')) k hk⟩
theorem zt_O_of2 {g : Nat → Nat} {L : Nat} {o : Nat → Nat} (hz : zt_Z g L) (h : ∀ i, i < L → o (zt_r g L i) = i) : zt_O g L o := by
  intro k hk
  obtain ⟨i, hi, e⟩ := zt_r_sur hz k hk
  rw [← e, h i hi]
  exact ⟨hi, rfl⟩
theorem zt_O_r {g : Nat → Nat} {L : Nat} {o : Nat → Nat} (hz : zt_Z g L) (h : zt_O g L o) {i : Nat} (hi : i < L) : o (zt_r g L i) = i := by
  have a := h (zt_r g L i) (zt_r_lt hi)
  exact zt_r_inj hz a.1 hi a.2
theorem zt_O_T {g : Nat → Nat} {L : Nat} {o : Nat → Nat} (hz : zt_Z g L) (h : zt_O g L o) {a b : Nat} (ha : a < L) (hb : b < L) : zt_T g (o a) (o b) ↔ a < b := by
  rw [← zt_r_iff hz (h a ha).1 (h b hb).1, (h a ha).2, (h b hb).2]
theorem zt_O_un {g : Nat → Nat} {L : Nat} {o o' : Nat → Nat} (hz : zt_Z g L) (h : zt_O g L o) (h' : zt_O g L o') {k : Nat} (hk : k < L) : o k = o' k :=
  zt_r_inj hz (h k hk).1 (h' k hk).1 ((h k hk).2.trans (h' k hk).2.symm)
/-- the neighbour before shares the most of all that come before -/
theorem zt_O_nb {g : Nat → Nat} {L : Nat} {o : Nat → Nat} (hz : zt_Z g L) (h : zt_O g L o) {k j : Nat} (hk : k + 1 < L) (hj : j < L) (hT : zt_T g j (o (k + 1))) : zt_N g L j (o (k + 1)) ≤ zt_N g L (o k) (o (k + 1)) := by
  have a := h k (by omega)
  have b := h (k + 1) hk
  by_cases e : j = o k
  · subst e; exact Nat.le_refl _
  · have h1 := zt_r_mono (n := L) hj hT
    rw [b.2] at h1
    have h2 : zt_r g L j < k := by
      have : zt_r g L j ≠ k := fun c => e (zt_r_inj hz hj a.1 (c.trans a.2.symm))
      omega
    have h3 : zt_T g j (o k) := (zt_r_iff hz hj a.1).1 (by rw [a.2]; exact h2)
    have h4 : zt_T g (o k) (o (k + 1)) := (zt_O_T hz h (by omega) hk).2 (by omega)
    exact zt_T_b (by omega) (by omega) (by omega) hz h3 h4 (Nat.le_refl _)
end
section
/-! the number of different pieces, counted along any order of the places (rh gives each place its rank) -/
def zt_Q (g : Nat → Nat) (L : Nat) (rh : Nat → Nat) (i s : Nat) : Prop := i + (s + 1) ≤ L ∧ ∀ j, j < L → rh j < rh i → zt_N g L j i < s + 1
def zt_I (L : Nat) (rh : Nat → Nat) : Prop := ∀ i j, i < L → j < L → rh i = rh j → i = j
noncomputable def zt_D (g : Nat → Nat) (L : Nat) (rh : Nat → Nat) : Nat := zt_s (fun i => zt_c (fun s => zt_Q g L rh i s) L) L
theorem zt_Q_le {g : Nat → Nat} {L : Nat} {rh rk : Nat → Nat} (h : zt_I L rh) (s : Nat) : zt_c (fun i => zt_Q g L rh i s) L ≤ zt_c (fun i => zt_Q g L rk i s) L := by
  have ex : ∀ i, i < L → i + (s + 1) ≤ L → ∃ f, f < L ∧ s + 1 ≤ zt_N g L f i ∧ ∀ j, j < L → s + 1 ≤ zt_N g L j i → rk f ≤ rk j := by
    intro i hi his
    obtain ⟨k, ⟨f, hf, hN, hk⟩, hm⟩ := zt_least (fun k => ∃ f, f < L ∧ s + 1 ≤ zt_N g L f i ∧ rk f = k) ⟨rk i, i, hi, by rw [zt_N_s (by omega)]; omega, rfl⟩
    refine ⟨f, hf, hN, fun j hj hjN => ?_⟩
    refine Classical.byContradiction fun c => ?_
    exact hm (rk j) (by omega) ⟨j, hj, hjN, rfl⟩
  have hf : ∃ f : Nat → Nat, ∀ i, i < L → i + (s + 1) ≤ L → f i < L ∧ s + 1 ≤ zt_N g L (f i) i ∧ ∀ j, j < L → s + 1 ≤ zt_N g L j i → rk (f i) ≤ rk j :=
    ⟨fun i => Classical.epsilon (fun f => f < L ∧ s + 1 ≤ zt_N g L f i ∧ ∀ j, j < L → s + 1 ≤ zt_N g L j i → rk f ≤ rk j), fun i hi his => Classical.epsilon_spec (ex i hi his)⟩
  obtain ⟨f, hf⟩ := hf
  refine zt_inj f L L _ (fun i hi hq => ?_) (fun i j hi hj hqi hqj e => ?_)
  · have a := hf i hi hq.1
    have b := (zt_N_iff (g := g) (by omega) (by omega) (s + 1)).1 a.2.1
    refine ⟨a.1, b.1, fun j hj hr => ?_⟩
    refine Classical.byContradiction fun c => ?_
    have := a.2.2 j hj (zt_N_u (by omega) (by omega) (by omega) (by omega) a.2.1)
    omega
  · have a := hf i hi hqi.1
    have b := hf j hj hqj.1
    have c : s + 1 ≤ zt_N g L i j := by
      refine zt_N_u (j := f i) (by omega) (by omega) (by omega) ?_ ?_
      · rw [zt_N_c (by omega) (by omega)]; exact a.2.1
      · rw [e]; exact b.2.1
    refine Classical.byContradiction fun ne => ?_
    rcases Nat.lt_or_gt_of_ne (fun e => ne (h i j hi hj e)) with d | d
    · have := hqj.2 i hi d
      omega
    · have := hqi.2 j hj d
      rw [zt_N_c (by omega) (by omega)] at this
      omega
theorem zt_Q_eq {g : Nat → Nat} {L : Nat} {rh rk : Nat → Nat} (h : zt_I L rh) (h' : zt_I L rk) (s : Nat) : zt_c (fun i => zt_Q g L rh i s) L = zt_c (fun i => zt_Q g L rk i s) L :=
  Nat.le_antisymm (zt_Q_le h s) (zt_Q_le h' s)
theorem zt_D_s (g : Nat → Nat) (L : Nat) (rh : Nat → Nat) : zt_D g L rh = zt_s (fun s => zt_c (fun i => zt_Q g L rh i s) L) L := zt_dc _ L L
theorem zt_D_eq {g : Nat → Nat} {L : Nat} {rh rk : Nat → Nat} (h : zt_I L rh) (h' : zt_I L rk) : zt_D g L rh = zt_D g L rk := by
  rw [zt_D_s, zt_D_s]
  exact zt_sc L fun s _ => zt_Q_eq h h' s
/-- what place i adds -/
theorem zt_Q_row {g : Nat → Nat} {L : Nat} {rh : Nat → Nat} {i m : Nat} (hi : i < L) (h1 : ∀ j, j < L → rh j < rh i → zt_N g L j i ≤ m) (h2 : m = 0 ∨ ∃ j, j < L ∧ rh j < rh i ∧ zt_N g L j i = m) : zt_c (fun s => zt_Q g L rh i s) L = L - i - m := by
  have hm : i + m ≤ L := by
    rcases h2 with e | ⟨j, hj, _, e⟩
    · omega
    · have := zt_N_j (g := g) (L := L) (i := j) (j := i) (by omega) (by omega)
      omega
  have e : zt_c (fun s => zt_Q g L rh i s) L = zt_c (fun s => zt_Q g L rh i s) (L - i) := by
    have key : ∀ d, L - i + d ≤ L → zt_c (fun s => zt_Q g L rh i s) (L - i + d) = zt_c (fun s => zt_Q g L rh i s) (L - i) := by
      intro d
      induction d with
      | zero => intro _; rfl
      | succ d ih =>
        intro hd
        have e1 : L - i + (d + 1) = (L - i + d) + 1 := by omega
        rw [e1, zt_cf (p := fun s => zt_Q g L rh i s) (n := L - i + d) (fun hq => by have := hq.1; omega), ih (by omega)]
    have := key i (by omega)
    have e2 : L - i + i = L := by omega
    rw [e2] at this
    exact this
  rw [e]
  refine zt_c_gt (L - i) m _ (fun s hs => ⟨fun hq => ?_, fun hq => ⟨by omega, fun j hj hr => ?_⟩⟩) (by omega)
  · rcases h2 with e | ⟨j, hj, hr, e⟩
    · omega
    · have := hq.2 j hj hr
      omega
  · have := h1 j hj hr
    omega
/-- the longest shared beginning of two different tails -/
def zt_G (g : Nat → Nat) (L m : Nat) : Prop := (∀ i j, i < L → j < L → i ≠ j → zt_N g L i j ≤ m) ∧ (m = 0 ∨ ∃ i j, i < L ∧ j < L ∧ i ≠ j ∧ zt_N g L i j = m)
theorem zt_G_un {g : Nat → Nat} {L m m' : Nat} (h : zt_G g L m) (h' : zt_G g L m') : m = m' := by
  apply Nat.le_antisymm
  · rcases h.2 with e | ⟨i, j, hi, hj, ne, e⟩
    · omega
    · rw [← e]; exact h'.1 i j hi hj ne
  · rcases h'.2 with e | ⟨i, j, hi, hj, ne, e⟩
    · omega
    · rw [← e]; exact h.1 i j hi hj ne
/-- along the rows of an order -/
theorem zt_O_nb' {g : Nat → Nat} {L : Nat} {o : Nat → Nat} (hz : zt_Z g L) (h : zt_O g L o) {k : Nat} (hk : k < L) {m : Nat} (hm : m = if k = 0 then 0 else zt_N g L (o (k - 1)) (o k)) : zt_c (fun s => zt_Q g L (zt_r g L) (o k) s) L = L - o k - m := by
  refine zt_Q_row (h k hk).1 (fun j hj hr => ?_) ?_
  · have hT := (zt_r_iff hz hj (h k hk).1).1 hr
    rw [(h k hk).2] at hr
    rw [if_neg (by omega)] at hm
    obtain ⟨k', rfl⟩ : ∃ k', k = k' + 1 := ⟨k - 1, by omega⟩
    rw [hm]
    exact zt_O_nb hz h hk hj hT
  · by_cases e : k = 0
    · rw [if_pos e] at hm; exact Or.inl hm
    · rw [if_neg e] at hm
      refine Or.inr ⟨o (k - 1), (h (k - 1) (by omega)).1, ?_, hm.symm⟩
      rw [(h (k - 1) (by omega)).2, (h k hk).2]; omega
theorem zt_D_rows {g : Nat → Nat} {L : Nat} {o : Nat → Nat} (hz : zt_Z g L) (h : zt_O g L o) : zt_s (fun k => L - o k - (if k = 0 then 0 else zt_N g L (o (k - 1)) (o k))) L = zt_D g L (zt_r g L) := by
  rw [zt_D_s, ← zt_sc L (f := fun k => zt_c (fun s => zt_Q g L (zt_r g L) (o k) s) L) (fun k hk => zt_O_nb' hz h hk rfl), zt_dc (fun k s => zt_Q g L (zt_r g L) (o k) s)]
  refine zt_sc L fun s _ => ?_
  refine zt_bij o L L (fun k hk hq => ⟨(h k hk).1, hq⟩) (fun a b ha hb _ _ e => ?_) (fun i hi hq => ⟨zt_r g L i, zt_r_lt hi, ?_, zt_O_r hz h hi⟩)
  · have := (h a ha).2
    rw [e, (h b hb).2] at this
    exact this.symm
  · rw [zt_O_r hz h hi]; exact hq
theorem zt_D_places {g : Nat → Nat} {L : Nat} {o : Nat → Nat} (hz : zt_Z g L) (h : zt_O g L o) : zt_s (fun i => L - i - (if zt_r g L i = 0 then 0 else zt_N g L (o (zt_r g L i - 1)) i)) L = zt_D g L (zt_r g L) := by
  refine zt_sc L fun i hi => ?_
  have := zt_O_nb' hz h (zt_r_lt (g := g) hi) rfl
  rw [zt_O_r hz h hi] at this
  exact this.symm
/-- the longest one lies between neighbours -/
theorem zt_G_rows {g : Nat → Nat} {L : Nat} {o : Nat → Nat} (hz : zt_Z g L) (h : zt_O g L o) {m : Nat} (h1 : ∀ k, k + 1 < L → zt_N g L (o k) (o (k + 1)) ≤ m) (h2 : m = 0 ∨ ∃ k, k + 1 < L ∧ zt_N g L (o k) (o (k + 1)) = m) : zt_G g L m := by
  have key : ∀ i j, i < L → j < L → zt_T g i j → zt_N g L i j ≤ m := by
    intro i j hi hj hT
    have a := zt_r_mono (n := L) hi hT
    obtain ⟨k, hk⟩ : ∃ k, zt_r g L j = k + 1 := ⟨zt_r g L j - 1, by omega⟩
    have b := zt_r_lt (g := g) hj
    have c := zt_O_nb hz h (k := k) (j := i) (by omega) hi (by rw [← hk, zt_O_r hz h hj]; exact hT)
    rw [← hk, zt_O_r hz h hj] at c
    have d := h1 k (by omega)
    rw [← hk, zt_O_r hz h hj] at d
    omega
  refine ⟨fun i j hi hj ne => ?_, ?_⟩
  · rcases zt_T_to hz (by omega) (by omega) ne with a | a
    · exact key i j hi hj a
    · rw [zt_N_c (by omega) (by omega)]; exact key j i hj hi a
  · rcases h2 with e | ⟨k, hk, e⟩
    · exact Or.inl e
    · refine Or.inr ⟨o k, o (k + 1), (h k (by omega)).1, (h (k + 1) hk).1, fun c => ?_, e⟩
      have a := (h k (by omega)).2
      rw [c, (h (k + 1) hk).2] at a
      omega
/-- by places: the next tail shares at most one letter less -/
theorem zt_kasai {g : Nat → Nat} {L : Nat} {o : Nat → Nat} (hz : zt_Z g L) (h : zt_O g L o) {i : Nat} (hi : i + 1 < L) (h0 : 0 < zt_r g L i) (h1 : 2 ≤ zt_N g L (o (zt_r g L i - 1)) i) : 0 < zt_r g L (i + 1) ∧ zt_N g L (o (zt_r g L i - 1)) i - 1 ≤ zt_N g L (o (zt_r g L (i + 1) - 1)) (i + 1) := by
  have hr := zt_r_lt (g := g) (n := L) (i := i) (by omega)
  have a := h (zt_r g L i - 1) (by omega)
  generalize hp : o (zt_r g L i - 1) = p at *
  have hT : zt_T g p i := (zt_r_iff hz a.1 (by omega)).1 (by omega)
  have b := (zt_N_iff (g := g) (L := L) (i := p) (j := i) (by omega) (by omega) _).1 (Nat.le_refl _)
  have hpL : p + 1 < L := by omega
  have hT' : zt_T g (p + 1) (i + 1) := by
    obtain ⟨s, c, d⟩ := hT
    have hs : s ≠ 0 := fun e => by
      subst e
      have := b.2.2 0 (by omega)
      omega
    obtain ⟨s', rfl⟩ : ∃ s', s = s' + 1 := ⟨s - 1, by omega⟩
    refine ⟨s', fun q hq => ?_, ?_⟩
    · have := c (q + 1) (by omega)
      have e1 : p + 1 + q = p + (q + 1) := by omega
      have e2 : i + 1 + q = i + (q + 1) := by omega
      rw [e1, e2]; exact this
    · have e1 : p + 1 + s' = p + (s' + 1) := by omega
      have e2 : i + 1 + s' = i + (s' + 1) := by omega
      rw [e1, e2]; exact d
  have hr1 := zt_r_mono (n := L) hpL hT'
  refine ⟨by omega, ?_⟩
  obtain ⟨k, hk⟩ : ∃ k, zt_r g L (i + 1) = k + 1 := ⟨zt_r g L (i + 1) - 1, by omega⟩
  have hr2 := zt_r_lt (g := g) (n := L) (i := i + 1) hi
  have c := zt_O_nb hz h (k := k) (j := p + 1) (by omega) hpL (by rw [← hk, zt_O_r hz h hi]; exact hT')
  rw [← hk, zt_O_r hz h hi] at c
  have e : zt_r g L (i + 1) - 1 = k := by omega
  rw [e]
  have d := zt_N_suc (g := g) (L := L) (i := p) (j := i) (s := zt_N g L p i - 1) (by omega) (by omega) (by omega)
  omega
end
section
/-! ranks of doubled width -/
def zt_W (g : Nat → Nat) (w i j : Nat) : Prop := ∃ s, s < w ∧ (∀ q, q < s → g (i + q) = g (j + q)) ∧ g (i + s) < g (j + s)
def zt_E (g : Nat → Nat) (w i j : Nat) : Prop := ∀ q, q < w → g (i + q) = g (j + q)
theorem zt_W_tri (g : Nat → Nat) (w i j : Nat) : zt_W g w i j ∨ zt_W g w j i ∨ zt_E g w i j := by
  by_cases e : ∃ s, s < w ∧ g (i + s) ≠ g (j + s)
  · obtain ⟨s, ⟨h1, h2⟩, h3⟩ := zt_least _ e
    have h4 : ∀ q, q < s → g (i + q) = g (j + q) := fun q hq => Classical.byContradiction fun c => h3 q hq ⟨by omega, c⟩
    rcases Nat.lt_or_gt_of_ne h2 with a | a
    · exact Or.inl ⟨s, h1, h4, a⟩
    · exact Or.inr (Or.inl ⟨s, h1, fun q hq => (h4 q hq).symm, a⟩)
  · exact Or.inr (Or.inr fun q hq => Classical.byContradiction fun c => e ⟨q, hq, c⟩)
theorem zt_W_2 {g : Nat → Nat} {w i j : Nat} : zt_W g (w * 2) i j ↔ zt_W g w i j ∨ (zt_E g w i j ∧ zt_W g w (i + w) (j + w)) := by
  constructor
  · rintro ⟨s, h1, h2, h3⟩
    by_cases e : s < w
    · exact Or.inl ⟨s, e, h2, h3⟩
    · refine Or.inr ⟨fun q hq => h2 q (by omega), s - w, by omega, fun q hq => ?_, ?_⟩
      · have := h2 (w + q) (by omega)
        rw [Nat.add_assoc, Nat.add_assoc]; exact this
      · have e1 : i + w + (s - w) = i + s := by omega
        have e2 : j + w + (s - w) = j + s := by omega
        rw [e1, e2]; exact h3
  · rintro (⟨s, h1, h2, h3⟩ | ⟨h0, s, h1, h2, h3⟩)
    · exact ⟨s, by omega, h2, h3⟩
    · refine ⟨w + s, by omega, fun q hq => ?_, ?_⟩
      · by_cases e : q < w
        · exact h0 q e
        · have := h2 (q - w) (by omega)
          have e1 : i + w + (q - w) = i + q := by omega
          have e2 : j + w + (q - w) = j + q := by omega
          rw [e1, e2] at this; exact this
      · rw [← Nat.add_assoc, ← Nat.add_assoc]; exact h3
def zt_K (g : Nat → Nat) (L w : Nat) (r : Nat → Nat) : Prop := ∀ i j, i < L → j < L → (r i < r j ↔ zt_W g w i j)
theorem zt_W_as {g : Nat → Nat} {w i j : Nat} (h : zt_W g w i j) (h2 : zt_W g w j i) : False := by
  obtain ⟨s, _, a, b⟩ := h
  obtain ⟨r, _, c, d⟩ := h2
  exact zt_T_as (g := g) (i := i) (j := j) ⟨s, a, b⟩ ⟨r, c, d⟩
theorem zt_E_W {g : Nat → Nat} {w i j : Nat} (h : zt_E g w i j) (h2 : zt_W g w i j) : False := by
  obtain ⟨s, h1, _, h3⟩ := h2
  have := h s h1
  omega
theorem zt_K_e {g : Nat → Nat} {L w : Nat} {r : Nat → Nat} (h : zt_K g L w r) {i j : Nat} (hi : i < L) (hj : j < L) : r i = r j ↔ zt_E g w i j := by
  constructor
  · intro e
    rcases zt_W_tri g w i j with a | a | a
    · have := (h i j hi hj).2 a; omega
    · have := (h j i hj hi).2 a; omega
    · exact a
  · intro a
    have h1 : ¬ r i < r j := fun c => zt_E_W a ((h i j hi hj).1 c)
    have h2 : ¬ r j < r i := fun c => zt_E_W (fun q hq => (a q hq).symm) ((h j i hj hi).1 c)
    omega
theorem zt_K_0 {g : Nat → Nat} {L : Nat} {r : Nat → Nat} (h : ∀ i, i < L → g i = r i + 1) : zt_K g L 1 r := by
  intro i j hi hj
  constructor
  · intro e
    refine ⟨0, by omega, fun q hq => by omega, ?_⟩
    show g i < g j
    rw [h i hi, h j hj]; omega
  · rintro ⟨s, h1, _, h3⟩
    have : s = 0 := by omega
    subst this
    have h3' : g i < g j := h3
    rw [h i hi, h j hj] at h3'
    omega
def zt_2 (L w : Nat) (r : Nat → Nat) (i : Nat) : Nat := if i + w < L then r (i + w) + 1 else 0
theorem zt_K_2 {g : Nat → Nat} {L w : Nat} {r : Nat → Nat} (hz : zt_Z g L) (hw : 0 < w) (h : zt_K g L w r) (hr : ∀ i, i < L → r i < 40) : zt_K g L (w * 2) (fun i => r i * 41 + zt_2 L w r i) := by
  intro i j hi hj
  have s2 : zt_2 L w r i < zt_2 L w r j ↔ zt_W g w (i + w) (j + w) := by
    unfold zt_2
    by_cases a : i + w < L
    · by_cases b : j + w < L
      · rw [if_pos a, if_pos b, ← h _ _ a b]; omega
      · rw [if_pos a, if_neg b]
        refine ⟨fun c => by omega, fun ⟨s, _, _, c⟩ => ?_⟩
        have := (hz (j + w + s)).2 (by omega)
        omega
    · by_cases b : j + w < L
      · rw [if_neg a, if_pos b]
        refine ⟨fun _ => ⟨0, hw, fun q hq => by omega, ?_⟩, fun _ => by omega⟩
        have h1 := (hz (i + w + 0)).2 (by omega)
        have h2 : ¬ g (j + w + 0) = 0 := fun c => by
          have := (hz (j + w + 0)).1 c
          omega
        omega
      · rw [if_neg a, if_neg b]
        refine ⟨fun c => by omega, fun ⟨s, _, _, c⟩ => ?_⟩
        have := (hz (j + w + s)).2 (by omega)
        omega
  have bi : zt_2 L w r i ≤ 40 := by
    unfold zt_2; split
    · have := hr (i + w) (by assumption); omega
    · omega
  have bj : zt_2 L w r j ≤ 40 := by
    unfold zt_2; split
    · have := hr (j + w) (by assumption); omega
    · omega
  show r i * 41 + zt_2 L w r i < r j * 41 + zt_2 L w r j ↔ _
  rw [zt_W_2, ← h i j hi hj, ← zt_K_e h hi hj, ← s2]
  generalize zt_2 L w r i = x at *
  generalize zt_2 L w r j = y at *
  omega
theorem zt_K_r {g : Nat → Nat} {L w : Nat} {p : Nat → Nat} (h : zt_K g L w p) : zt_K g L w (fun i => zt_c (fun j => p j < p i) L) := by
  intro i j hi hj
  rw [← h i j hi hj]
  constructor
  · intro c
    refine Classical.byContradiction fun n => ?_
    have : zt_c (fun x => p x < p j) L ≤ zt_c (fun x => p x < p i) L := zt_cle L fun x _ hx => by omega
    have c' : zt_c (fun x => p x < p i) L < zt_c (fun x => p x < p j) L := c
    omega
  · intro c
    exact zt_clt L i (fun x _ hx => by omega) hi (by omega) c
theorem zt_K_T {g : Nat → Nat} {L w i j : Nat} (hz : zt_Z g L) (hw : L < w) (hi : i < L) (hj : j < L) : zt_W g w i j ↔ zt_T g i j := by
  constructor
  · rintro ⟨s, _, a, b⟩; exact ⟨s, a, b⟩
  · rintro ⟨s, a, b⟩
    refine ⟨s, ?_, a, b⟩
    refine Classical.byContradiction fun c => ?_
    have := (hz (j + s)).2 (by omega)
    omega
/-- at the end the rank is the number of tails that come before -/
theorem zt_K_end {g : Nat → Nat} {L w : Nat} {p : Nat → Nat} (hz : zt_Z g L) (hw : L < w) (h : zt_K g L w p) {i : Nat} (hi : i < L) : zt_c (fun j => p j < p i) L = zt_r g L i :=
  zt_cc L fun j hj => (h j i hj hi).trans (zt_K_T hz hw hj hi)
end
section
/-! points with a shared length M, and the tree of their branchings: a node v stands for the first l v letters of the point E v -/
def zt_U (M : Nat → Nat → Nat) (U : Nat → Prop) : Prop := (∀ i j, U i → U j → M i j = M j i) ∧ ∀ i j k s, U i → U j → U k → s ≤ M i j → s ≤ M j k → s ≤ M i k
theorem zt_U_m {M : Nat → Nat → Nat} {U V : Nat → Prop} (h : zt_U M U) (hv : ∀ i, V i → U i) : zt_U M V :=
  ⟨fun i j a b => h.1 i j (hv i a) (hv j b), fun i j k s a b c => h.2 i j k s (hv i a) (hv j b) (hv k c)⟩
theorem zt_U_self {M : Nat → Nat → Nat} {U : Nat → Prop} (h : zt_U M U) {i j : Nat} (hi : U i) (hj : U j) : M i j ≤ M i i :=
  h.2 i j i _ hi hj hi (Nat.le_refl _) (by rw [h.1 j i hj hi]; exact Nat.le_refl _)
/-- where two differ earlier than the one of them and a third -/
theorem zt_U_eq {M : Nat → Nat → Nat} {U : Nat → Prop} (h : zt_U M U) {i j k s : Nat} (hi : U i) (hj : U j) (hk : U k) (h1 : M i j = s) (h2 : s < M j k) : M i k = s := by
  have a := h.2 i j k s hi hj hk (by omega) (by omega)
  refine Nat.le_antisymm ?_ a
  refine Classical.byContradiction fun c => ?_
  have b := h.2 i k j (s + 1) hi hk hj (by omega) (by rw [h.1 k j hk hj]; omega)
  omega
/-- lengths at which the point e branches (or ends) among the points -/
def zt_S (M : Nat → Nat → Nat) (P : Nat → Prop) (e s : Nat) : Prop := ∃ e', P e' ∧ M e e' = s
def zt_F (M : Nat → Nat → Nat) (P : Nat → Prop) (S : Nat → Nat → Prop) : Prop := (∀ e e' s, P e → P e' → S e s → s ≤ M e e' → S e' s) ∧ ∀ e e', P e → P e' → S e (M e e')
theorem zt_F_S {M : Nat → Nat → Nat} {P : Nat → Prop} (h : zt_U M P) : zt_F M P (zt_S M P) := by
  refine ⟨fun e e' s he he' hs hle => ?_, fun e e' _ he' => ⟨e', he', rfl⟩⟩
  obtain ⟨x, hx, e1⟩ := hs
  by_cases c : s < M e e'
  · refine ⟨x, hx, ?_⟩
    rw [h.1 e' x he' hx]
    exact zt_U_eq h hx he he' (by rw [h.1 x e hx he]; exact e1) c
  · exact ⟨e, he, by rw [h.1 e' e he' he]; omega⟩
def zt_B (M : Nat → Nat → Nat) (P : Nat → Prop) (S : Nat → Nat → Prop) (V : Nat → Prop) (E l p : Nat → Nat) : Prop :=
  (V 0 ∧ l 0 = 0) ∧
  (∀ v, V v → P (E v) ∧ l v ≤ M (E v) (E v) ∧ S (E v) (l v)) ∧
  (∀ e s, P e → S e s → ∃ v, V v ∧ l v = s ∧ s ≤ M (E v) e) ∧
  (∀ v w, V v → V w → l v = l w → l v ≤ M (E v) (E w) → v = w) ∧
  (∀ v, 0 < v → V v → V (p v) ∧ l (p v) < l v ∧ l (p v) ≤ M (E (p v)) (E v) ∧ ∀ s, S (E v) s → s < l v → s ≤ l (p v))
theorem zt_B_S {M : Nat → Nat → Nat} {P : Nat → Prop} {S S' : Nat → Nat → Prop} {V : Nat → Prop} {E l p : Nat → Nat} (h : zt_B M P S V E l p) (e : ∀ x s, P x → (S x s ↔ S' x s)) : zt_B M P S' V E l p := by
  obtain ⟨h0, hA, hB, hB2, hC⟩ := h
  refine ⟨h0, fun v hv => ⟨(hA v hv).1, (hA v hv).2.1, (e _ _ (hA v hv).1).1 (hA v hv).2.2⟩, fun x s hx hs => hB x s hx ((e _ _ hx).2 hs), hB2, fun v h0 hv => ?_⟩
  have := hC v h0 hv
  exact ⟨this.1, this.2.1, this.2.2.1, fun s hs => this.2.2.2 s ((e _ _ (hA v hv).1).2 hs)⟩
theorem zt_B_V {M : Nat → Nat → Nat} {P : Nat → Prop} {S : Nat → Nat → Prop} {V V' : Nat → Prop} {E l p : Nat → Nat} (h : zt_B M P S V E l p) (e : ∀ v, V v ↔ V' v) : zt_B M P S V' E l p := by
  have : V = V' := funext fun v => propext (e v)
  exact this ▸ h
/-- the node through which the first d + 1 letters of e go -/
theorem zt_B_anc {M : Nat → Nat → Nat} {P : Nat → Prop} {S : Nat → Nat → Prop} {V : Nat → Prop} {E l p : Nat → Nat} (hU : zt_U M P) (hF : zt_F M P S) (h : zt_B M P S V E l p) {e d : Nat} (he : P e) (hd : d < M e e) : ∃ u, 0 < u ∧ V u ∧ l (p u) ≤ d ∧ d < l u ∧ l u ≤ M (E u) e := by
  obtain ⟨h0, hA, hB, hB2, hC⟩ := h
  obtain ⟨u0, a, b, c⟩ := hB e _ he (hF.2 e e he he)
  obtain ⟨k, ⟨u, hu, h1, h2, h3⟩, hm⟩ := zt_least (fun k => ∃ u, V u ∧ l u = k ∧ d < k ∧ k ≤ M (E u) e) ⟨_, u0, a, b, hd, c⟩
  have hu0 : 0 < u := by
    refine Nat.pos_of_ne_zero fun z => ?_
    rw [z, h0.2] at h1
    omega
  have c := hC u hu0 hu
  refine ⟨u, hu0, hu, ?_, by omega, by omega⟩
  refine Classical.byContradiction fun hn => ?_
  refine hm (l (p u)) (by omega) ⟨p u, c.1, rfl, by omega, ?_⟩
  exact hU.2 _ (E u) _ _ (hA _ c.1).1 (hA u hu).1 he c.2.2.1 (by omega)
/-- a node's strings: s between the parent's length and its own leads to the same points -/
theorem zt_B_same {M : Nat → Nat → Nat} {P : Nat → Prop} {S : Nat → Nat → Prop} {V : Nat → Prop} {E l p : Nat → Nat} (hF : zt_F M P S) (h : zt_B M P S V E l p) {u e s : Nat} (h0 : 0 < u) (hu : V u) (he : P e) (hs : l (p u) < s) (hM : s ≤ M (E u) e) : l u ≤ M (E u) e := by
  obtain ⟨_, hA, _, _, hC⟩ := h
  refine Classical.byContradiction fun c => ?_
  have := (hC u h0 hu).2.2.2 _ (hF.2 (E u) e (hA u hu).1 he) (by omega)
  omega
/-- the node of a string is one -/
theorem zt_B_one {M : Nat → Nat → Nat} {P : Nat → Prop} {S : Nat → Nat → Prop} {V : Nat → Prop} {E l p : Nat → Nat} (hU : zt_U M P) (hF : zt_F M P S) (h : zt_B M P S V E l p) {u w e s : Nat} (h0 : 0 < u) (hu : V u) (k0 : 0 < w) (hw : V w) (he : P e) (h1 : l (p u) < s) (h2 : s ≤ l u) (h3 : s ≤ M (E u) e) (k1 : l (p w) < s) (k2 : s ≤ l w) (k3 : s ≤ M (E w) e) : u = w := by
  obtain ⟨_, hA, _, hB2, hC⟩ := h
  have e1 := hU.1 _ _ (hA u hu).1 (hA w hw).1
  have c := hU.2 (E u) e (E w) s (hA u hu).1 he (hA w hw).1 h3 (by rw [hU.1 _ _ he (hA w hw).1]; exact k3)
  have a2 : l u ≤ M (E u) (E w) := by
    refine Classical.byContradiction fun n => ?_
    have := (hC u h0 hu).2.2.2 _ (hF.2 (E u) (E w) (hA u hu).1 (hA w hw).1) (by omega)
    omega
  have b2 : l w ≤ M (E w) (E u) := by
    refine Classical.byContradiction fun n => ?_
    have := (hC w k0 hw).2.2.2 _ (hF.2 (E w) (E u) (hA w hw).1 (hA u hu).1) (by omega)
    omega
  refine hB2 u w hu hw ?_ a2
  refine Nat.le_antisymm ?_ ?_
  · refine Classical.byContradiction fun c1 => ?_
    have := (hC u h0 hu).2.2.2 (l w) (hF.1 (E w) (E u) _ (hA w hw).1 (hA u hu).1 (hA w hw).2.2 b2) (by omega)
    omega
  · refine Classical.byContradiction fun c1 => ?_
    have := (hC w k0 hw).2.2.2 (l u) (hF.1 (E u) (E w) _ (hA u hu).1 (hA w hw).1 (hA u hu).2.2 a2) (by omega)
    omega
def zt_up (f : Nat → Nat) (k x : Nat) : Nat → Nat := fun j => if j = k then x else f j
theorem zt_us (f : Nat → Nat) (k x : Nat) : zt_up f k x k = x := if_pos rfl
theorem zt_un (f : Nat → Nat) {k j : Nat} (x : Nat) (h : j ≠ k) : zt_up f k x j = f j := if_neg h
/-- the strings with one more: the first m letters of the point q -/
def zt_S1 (M : Nat → Nat → Nat) (S : Nat → Nat → Prop) (q m : Nat) (e s : Nat) : Prop := S e s ∨ (s = m ∧ m ≤ M e q)
theorem zt_F_1 {M : Nat → Nat → Nat} {P : Nat → Prop} {S : Nat → Nat → Prop} {q m : Nat} (hU : zt_U M P) (hF : zt_F M P S) (hq : P q) : zt_F M P (zt_S1 M S q m) := by
  refine ⟨fun e e' s he he' hs hle => ?_, fun e e' he he' => Or.inl (hF.2 e e' he he')⟩
  rcases hs with a | ⟨a, b⟩
  · exact Or.inl (hF.1 e e' s he he' a hle)
  · subst a
    exact Or.inr ⟨rfl, hU.2 e' e q _ he' he hq (by rw [hU.1 e' e he' he]; exact hle) b⟩
/-- the edge above x is cut at m by a new node y -/
theorem zt_B_mid {M : Nat → Nat → Nat} {P : Nat → Prop} {S : Nat → Nat → Prop} {V : Nat → Prop} {E l p : Nat → Nat} (hU : zt_U M P) (hF : zt_F M P S) (h : zt_B M P S V E l p) {x y m : Nat} (x0 : 0 < x) (hx : V x) (y0 : 0 < y) (hy : ¬ V y) (h1 : l (p x) < m) (h2 : m < l x) : zt_B M P (zt_S1 M S (E x) m) (fun v => V v ∨ v = y) (zt_up E y (E x)) (zt_up l y m) (zt_up (zt_up p y (p x)) x y) := by
  obtain ⟨h0, hA, hB, hB2, hC⟩ := h
  have ny : ∀ v, V v → v ≠ y := fun v hv e => hy (e ▸ hv)
  have ol : ∀ v, V v → zt_up l y m v = l v := fun v hv => zt_un l m (ny v hv)
  have oE : ∀ v, V v → zt_up E y (E x) v = E v := fun v hv => zt_un E _ (ny v hv)
  have nl : zt_up l y m y = m := zt_us _ _ _
  have nE : zt_up E y (E x) y = E x := zt_us _ _ _
  have hAx := hA x hx
  have cx := hC x x0 hx
  have key : ∀ v, V v → l v = m → m ≤ M (E v) (E x) → False := by
    intro v hv c1 c2
    have a := hA v hv
    have b := hF.1 (E v) (E x) (l v) a.1 hAx.1 a.2.2 (by omega)
    have := cx.2.2.2 (l v) b (by omega)
    omega
  refine ⟨⟨Or.inl h0.1, ?_⟩, fun v hv => ?_, fun e s he hs => ?_, fun v w hv hw e1 e2 => ?_, fun v v0 hv => ?_⟩
  · rw [ol 0 h0.1]; exact h0.2
  · rcases hv with hv | hv
    · rw [ol v hv, oE v hv]
      have a := hA v hv
      exact ⟨a.1, a.2.1, Or.inl a.2.2⟩
    · subst hv
      rw [nl, nE]
      exact ⟨hAx.1, by omega, Or.inr ⟨rfl, by omega⟩⟩
  · rcases hs with a | ⟨a, b⟩
    · obtain ⟨v, c1, c2, c3⟩ := hB e s he a
      exact ⟨v, Or.inl c1, by rw [ol v c1]; exact c2, by rw [oE v c1]; exact c3⟩
    · subst a
      exact ⟨y, Or.inr rfl, nl, by rw [nE, hU.1 _ _ hAx.1 he]; exact b⟩
  · rcases hv with hv | hv
    · rcases hw with hw | hw
      · rw [ol v hv, ol w hw] at e1
        rw [ol v hv, oE v hv, oE w hw] at e2
        exact hB2 v w hv hw e1 e2
      · exfalso
        subst hw
        rw [nl, ol v hv] at e1
        rw [nE, ol v hv, oE v hv] at e2
        exact key v hv e1 (by omega)
    · rcases hw with hw | hw
      · exfalso
        subst hv
        rw [nl, ol w hw] at e1
        rw [nl, nE, oE w hw] at e2
        exact key w hw e1.symm (by rw [hU.1 _ _ (hA w hw).1 hAx.1]; exact e2)
      · exact hv.trans hw.symm
  · rcases hv with hv | hv
    · by_cases d : v = x
      · subst d
        rw [zt_us, nl, nE, ol v hv, oE v hv]
        refine ⟨Or.inr rfl, h2, by omega, fun s hs hlt => ?_⟩
        rcases hs with a | ⟨a, _⟩
        · have := cx.2.2.2 s a hlt
          omega
        · omega
      · have cv := hC v v0 hv
        have e1 : zt_up (zt_up p y (p x)) x y v = p v := by rw [zt_un _ _ d, zt_un _ _ (ny v hv)]
        rw [e1, ol _ cv.1, oE _ cv.1, ol v hv, oE v hv]
        refine ⟨Or.inl cv.1, cv.2.1, cv.2.2.1, fun s hs hlt => ?_⟩
        rcases hs with a | ⟨a, b⟩
        · exact cv.2.2.2 s a hlt
        · refine Classical.byContradiction fun hn => ?_
          have hAv := hA v hv
          refine d (zt_B_one hU hF ⟨h0, hA, hB, hB2, hC⟩ v0 hv x0 hx (e := E x) (s := s) hAx.1 (by omega) (by omega) (by omega) (by omega) (by omega) (by omega))
    · subst hv
      have e1 : zt_up (zt_up p v (p x)) x v v = p x := by rw [zt_un _ _ (fun e => ny x hx e.symm), zt_us]
      rw [e1, ol _ cx.1, oE _ cx.1, nl, nE]
      refine ⟨Or.inl cx.1, h1, cx.2.2.1, fun s hs hlt => ?_⟩
      rcases hs with a | ⟨a, _⟩
      · exact cx.2.2.2 s a (by omega)
      · omega
/-- a new point q hangs by a new leaf z under w, where it leaves the others -/
theorem zt_B_leaf {M : Nat → Nat → Nat} {P P' : Nat → Prop} {S S' : Nat → Nat → Prop} {V : Nat → Prop} {E l p : Nat → Nat} {q w z : Nat} (hU : zt_U M P') (hP : ∀ e, P' e ↔ P e ∨ e = q) (h : zt_B M P S V E l p) (hw : V w) (hz : ¬ V z) (h1 : l w ≤ M (E w) q) (h2 : ∀ e, P e → M q e ≤ l w) (h3 : l w < M q q) (hS : ∀ e s, P e → (S' e s ↔ S e s)) (hS' : ∀ s, S' q s ↔ s = M q q ∨ (s ≤ l w ∧ S (E w) s)) : zt_B M P' S' (fun v => V v ∨ v = z) (zt_up E z q) (zt_up l z (M q q)) (zt_up p z w) := by
  obtain ⟨h0, hA, hB, hB2, hC⟩ := h
  have pq : P' q := (hP q).2 (Or.inr rfl)
  have pp : ∀ e, P e → P' e := fun e he => (hP e).2 (Or.inl he)
  have nz : ∀ v, V v → v ≠ z := fun v hv e => hz (e ▸ hv)
  have ol : ∀ v, V v → zt_up l z (M q q) v = l v := fun v hv => zt_un l _ (nz v hv)
  have oE : ∀ v, V v → zt_up E z q v = E v := fun v hv => zt_un E _ (nz v hv)
  have op : ∀ v, V v → zt_up p z w v = p v := fun v hv => zt_un p _ (nz v hv)
  have nl : zt_up l z (M q q) z = M q q := zt_us _ _ _
  have nE : zt_up E z q z = q := zt_us _ _ _
  have np : zt_up p z w z = w := zt_us _ _ _
  refine ⟨⟨Or.inl h0.1, ?_⟩, fun v hv => ?_, fun e s he hs => ?_, fun v u hv hu e1 e2 => ?_, fun v v0 hv => ?_⟩
  · rw [ol 0 h0.1]; exact h0.2
  · rcases hv with hv | hv
    · rw [ol v hv, oE v hv]
      have a := hA v hv
      exact ⟨pp _ a.1, a.2.1, (hS _ _ a.1).2 a.2.2⟩
    · subst hv
      rw [nl, nE]
      exact ⟨pq, Nat.le_refl _, (hS' _).2 (Or.inl rfl)⟩
  · have old : P e → ∃ v, (V v ∨ v = z) ∧ zt_up l z (M q q) v = s ∧ s ≤ M (zt_up E z q v) e := by
      intro he
      obtain ⟨v, c1, c2, c3⟩ := hB e s he ((hS e s he).1 hs)
      exact ⟨v, Or.inl c1, by rw [ol v c1]; exact c2, by rw [oE v c1]; exact c3⟩
    rcases (hP e).1 he with a | a
    · exact old a
    · subst a
      rcases (hS' s).1 hs with b | ⟨b1, b2⟩
      · exact ⟨z, Or.inr rfl, by rw [nl]; exact b.symm, by rw [nE]; omega⟩
      · obtain ⟨v, c1, c2, c3⟩ := hB (E w) s (hA w hw).1 b2
        refine ⟨v, Or.inl c1, by rw [ol v c1]; exact c2, ?_⟩
        rw [oE v c1]
        exact hU.2 _ (E w) _ _ (pp _ (hA v c1).1) (pp _ (hA w hw).1) pq c3 (by omega)
  · rcases hv with hv | hv
    · rcases hu with hu | hu
      · rw [ol v hv, ol u hu] at e1
        rw [ol v hv, oE v hv, oE u hu] at e2
        exact hB2 v u hv hu e1 e2
      · exfalso
        subst hu
        rw [nl, ol v hv] at e1
        rw [nE, ol v hv, oE v hv, hU.1 _ _ (pp _ (hA v hv).1) pq] at e2
        have := h2 _ (hA v hv).1
        omega
    · rcases hu with hu | hu
      · exfalso
        subst hv
        rw [nl, nE, oE u hu] at e2
        have := h2 _ (hA u hu).1
        omega
      · exact hv.trans hu.symm
  · rcases hv with hv | hv
    · have cv := hC v v0 hv
      rw [op v hv, ol _ cv.1, oE _ cv.1, ol v hv, oE v hv]
      exact ⟨Or.inl cv.1, cv.2.1, cv.2.2.1, fun s hs => cv.2.2.2 s ((hS _ _ (hA v hv).1).1 hs)⟩
    · subst hv
      rw [np, nl, nE, ol w hw, oE w hw]
      refine ⟨Or.inl hw, h3, h1, fun s hs hlt => ?_⟩
      rcases (hS' s).1 hs with b | b
      · omega
      · exact b.1
/-- the same without a leaf: the point q ends at the node w -/
theorem zt_B_end {M : Nat → Nat → Nat} {P P' : Nat → Prop} {S S' : Nat → Nat → Prop} {V : Nat → Prop} {E l p : Nat → Nat} {q w : Nat} (hU : zt_U M P') (hP : ∀ e, P' e ↔ P e ∨ e = q) (h : zt_B M P S V E l p) (hw : V w) (h1 : l w ≤ M (E w) q) (hS : ∀ e s, P e → (S' e s ↔ S e s)) (hS' : ∀ s, S' q s ↔ s ≤ l w ∧ S (E w) s) : zt_B M P' S' V E l p := by
  obtain ⟨h0, hA, hB, hB2, hC⟩ := h
  have pq : P' q := (hP q).2 (Or.inr rfl)
  have pp : ∀ e, P e → P' e := fun e he => (hP e).2 (Or.inl he)
  refine ⟨h0, fun v hv => ?_, fun e s he hs => ?_, hB2, fun v v0 hv => ?_⟩
  · have a := hA v hv
    exact ⟨pp _ a.1, a.2.1, (hS _ _ a.1).2 a.2.2⟩
  · rcases (hP e).1 he with a | a
    · exact hB e s a ((hS e s a).1 hs)
    · subst a
      have b := (hS' s).1 hs
      obtain ⟨v, c1, c2, c3⟩ := hB (E w) s (hA w hw).1 b.2
      exact ⟨v, c1, c2, hU.2 _ (E w) _ _ (pp _ (hA v c1).1) (pp _ (hA w hw).1) pq c3 (by omega)⟩
  · have cv := hC v v0 hv
    exact ⟨cv.1, cv.2.1, cv.2.2.1, fun s hs => cv.2.2.2 s ((hS _ _ (hA v hv).1).1 hs)⟩
/-- the strings of the points with q -/
theorem zt_S_old {M : Nat → Nat → Nat} {P P' : Nat → Prop} {q r m : Nat} (hU : zt_U M P') (hP : ∀ e, P' e ↔ P e ∨ e = q) (hr : P r) (hm : M q r = m) (hmax : ∀ e, P e → M q e ≤ m) {e : Nat} (s : Nat) (he : P e) : zt_S M P' e s ↔ zt_S1 M (zt_S M P) r m e s := by
  have pq : P' q := (hP q).2 (Or.inr rfl)
  have pp : ∀ e, P e → P' e := fun e he => (hP e).2 (Or.inl he)
  have sy := hU.1 e q (pp e he) pq
  constructor
  · rintro ⟨x, hx, e1⟩
    rcases (hP x).1 hx with a | a
    · exact Or.inl ⟨x, a, e1⟩
    · subst a
      have b := hmax e he
      by_cases c : s < m
      · exact Or.inl ⟨r, hr, zt_U_eq hU (pp e he) pq (pp r hr) e1 (by omega)⟩
      · refine Or.inr ⟨by omega, hU.2 e x r _ (pp e he) pq (pp r hr) (by omega) (by omega)⟩
  · rintro (⟨x, hx, e1⟩ | ⟨a, b⟩)
    · exact ⟨x, pp x hx, e1⟩
    · refine ⟨q, pq, ?_⟩
      have c := hmax e he
      have d := hU.2 e r q m (pp e he) (pp r hr) pq b (by rw [hU.1 _ _ (pp r hr) pq]; omega)
      omega
theorem zt_S_new {M : Nat → Nat → Nat} {P P' : Nat → Prop} {q r m w : Nat} (hU : zt_U M P') (hP : ∀ e, P' e ↔ P e ∨ e = q) (hr : P r) (hm : M q r = m) (hmax : ∀ e, P e → M q e ≤ m) (hw : P w) (hwm : m ≤ M w q) (s : Nat) : zt_S M P' q s ↔ s = M q q ∨ (s ≤ m ∧ zt_S1 M (zt_S M P) r m w s) := by
  have pq : P' q := (hP q).2 (Or.inr rfl)
  have pp : ∀ e, P e → P' e := fun e he => (hP e).2 (Or.inl he)
  have wq := hU.1 w q (pp w hw) pq
  have wr : m ≤ M w r := hU.2 w q r m (pp w hw) pq (pp r hr) hwm (by omega)
  constructor
  · rintro ⟨x, hx, e1⟩
    rcases (hP x).1 hx with a | a
    · refine Or.inr ⟨by have := hmax x a; omega, ?_⟩
      by_cases c : s < m
      · refine Or.inl ⟨x, a, ?_⟩
        rw [hU.1 w x (pp w hw) (pp x a)]
        exact zt_U_eq hU (pp x a) pq (pp w hw) (by rw [hU.1 x q (pp x a) pq]; exact e1) (by omega)
      · exact Or.inr ⟨by have := hmax x a; omega, wr⟩
    · subst a; exact Or.inl e1.symm
  · rintro (a | ⟨a, ⟨x, hx, e1⟩ | ⟨b, _⟩⟩)
    · exact ⟨q, pq, a.symm⟩
    · by_cases c : s < m
      · refine ⟨x, pp x hx, ?_⟩
        rw [hU.1 q x pq (pp x hx)]
        exact zt_U_eq hU (pp x hx) (pp w hw) pq (by rw [hU.1 x w (pp x hx) (pp w hw)]; exact e1) (by omega)
      · exact ⟨r, pp r hr, by omega⟩
    · exact ⟨r, pp r hr, by omega⟩
/-- nothing new where a node stands already -/
theorem zt_S1_old {M : Nat → Nat → Nat} {P : Nat → Prop} {S : Nat → Nat → Prop} {V : Nat → Prop} {E l p : Nat → Nat} {w r m : Nat} (hU : zt_U M P) (hF : zt_F M P S) (h : zt_B M P S V E l p) (hw : V w) (hl : l w = m) (hr : P r) (h1 : m ≤ M (E w) r) (e s : Nat) (he : P e) : S e s ↔ zt_S1 M S r m e s := by
  refine ⟨Or.inl, fun a => ?_⟩
  rcases a with a | ⟨a, b⟩
  · exact a
  · subst a
    have c := h.2.1 w hw
    refine hF.1 (E w) e _ c.1 he (hl ▸ c.2.2) ?_
    exact hU.2 _ r _ _ c.1 hr he h1 (by rw [hU.1 _ _ hr he]; exact b)
end
section
/-! the tails hung into a tree: points are the places below k, and L for the empty tail -/
def zt_P (L k e : Nat) : Prop := e < k ∨ e = L
theorem zt_P_L {L k e : Nat} (hk : k ≤ L) (h : zt_P L k e) : e ≤ L := by
  rcases h with h | h <;> omega
theorem zt_P_1 (L k e : Nat) : zt_P L (k + 1) e ↔ zt_P L k e ∨ e = k := by
  unfold zt_P
  constructor
  · rintro (h | h)
    · by_cases c : e = k
      · exact Or.inr c
      · exact Or.inl (Or.inl (by omega))
    · exact Or.inl (Or.inr h)
  · rintro ((h | h) | h)
    · exact Or.inl (by omega)
    · exact Or.inr h
    · exact Or.inl (by omega)
theorem zt_U_N (g : Nat → Nat) (L : Nat) : zt_U (zt_N g L) (fun i => i ≤ L) :=
  ⟨fun _ _ hi hj => zt_N_c hi hj, fun _ _ _ _ hi hj hk => zt_N_u hi hj hk⟩
theorem zt_U_P (g : Nat → Nat) {L k : Nat} (hk : k ≤ L) : zt_U (zt_N g L) (zt_P L k) := zt_U_m (zt_U_N g L) (fun _ h => zt_P_L hk h)
/-- branches: b (v * 4 + c) is the child of v whose way goes on with the letter c, 0 for none -/
def zt_R (g : Nat → Nat) (n : Nat) (E l p b : Nat → Nat) : Prop :=
  (∀ v c, v < n → c < 4 → b (v * 4 + c) ≠ 0 → b (v * 4 + c) < n ∧ p (b (v * 4 + c)) = v ∧ g (E (b (v * 4 + c)) + l v) = c + 1) ∧
  ∀ w, 0 < w → w < n → ∃ c, c < 4 ∧ g (E w + l (p w)) = c + 1 ∧ b (p w * 4 + c) = w
section
variable {g : Nat → Nat} {L k n : Nat} {S : Nat → Nat → Prop} {E l p b : Nat → Nat}
theorem zt_ch (hk : k ≤ L) (hF : zt_F (zt_N g L) (zt_P L k) S) (hB : zt_B (zt_N g L) (zt_P L k) S (fun v => v < n) E l p) (hR : zt_R g n E l p b) {v e c : Nat} (hv : v < n) (he : zt_P L k e) (h1 : l v ≤ zt_N g L (E v) e) (h2 : e + l v < L) (h3 : g (e + l v) = c + 1) : c < 4 ∧ 0 < b (v * 4 + c) ∧ b (v * 4 + c) < n ∧ p (b (v * 4 + c)) = v ∧ l v < l (b (v * 4 + c)) ∧ l (b (v * 4 + c)) ≤ zt_N g L (E (b (v * 4 + c))) e := by
  have hU := zt_U_P g hk
  have heL := zt_P_L hk he
  obtain ⟨u, u0, hu, a1, a2, a3⟩ := zt_B_anc hU hF hB (d := l v) he (by rw [zt_N_s heL]; omega)
  obtain ⟨_, hA, _, hB2, hC⟩ := hB
  have pv := (hA v hv).1
  have pu := (hA u hu).1
  have cu := hC u u0 hu
  have ppu := (hA _ cu.1).1
  have vu : l v ≤ zt_N g L (E v) (E u) := hU.2 _ e _ _ pv he pu h1 (by rw [hU.1 _ _ he pu]; omega)
  have b1 := cu.2.2.2 (l v) (hF.1 _ _ _ pv pu (hA v hv).2.2 vu) a2
  have b2 : p u = v := by
    refine hB2 _ _ cu.1 hv (by omega) ?_
    refine hU.2 _ (E u) _ _ ppu pu pv cu.2.2.1 ?_
    rw [hU.1 _ _ pu pv]; omega
  obtain ⟨c', d1, d2, d3⟩ := hR.2 u u0 hu
  rw [b2] at d2 d3
  have d4 : g (E u + l v) = g (e + l v) := zt_N_e (zt_P_L hk pu) heL (by omega)
  have d5 : c' = c := by omega
  subst d5
  rw [d3]
  exact ⟨d1, u0, hu, b2, a2, a3⟩
/-- no branch: here q leaves all the others -/
theorem zt_h0 (hk : k ≤ L) (hF : zt_F (zt_N g L) (zt_P L k) S) (hB : zt_B (zt_N g L) (zt_P L k) S (fun v => v < n) E l p) (hR : zt_R g n E l p b) {v q c : Nat} (hv : v < n) (hq : q ≤ L) (h1 : l v ≤ zt_N g L (E v) q) (h3 : g (q + l v) = c + 1) (h0 : b (v * 4 + c) = 0) (e : Nat) (he : zt_P L k e) : zt_N g L q e ≤ l v := by
  refine Classical.byContradiction fun cn => ?_
  have heL := zt_P_L hk he
  have pv := zt_P_L hk (hB.2.1 v hv).1
  have a := (zt_N_iff (g := g) hq heL (l v + 1)).1 (by omega)
  have a1 := a.2.2 (l v) (by omega)
  have := zt_ch hk hF hB hR hv he (zt_N_u pv hq heL h1 (by omega)) (by omega) (by rw [← a1]; exact h3)
  omega
/-- a branch that q leaves inside its edge -/
theorem zt_h1 (hk : k ≤ L) (hF : zt_F (zt_N g L) (zt_P L k) S) (hB : zt_B (zt_N g L) (zt_P L k) S (fun v => v < n) E l p) (hR : zt_R g n E l p b) {v q c : Nat} (hv : v < n) (hc : c < 4) (hq : q < L) (hqk : q + l v < L) (h1 : l v ≤ zt_N g L (E v) q) (h3 : g (q + l v) = c + 1) (h0 : b (v * 4 + c) ≠ 0) : 0 < b (v * 4 + c) ∧ b (v * 4 + c) < n ∧ p (b (v * 4 + c)) = v ∧ l v < l (b (v * 4 + c)) ∧ l v < zt_N g L (E (b (v * 4 + c))) q ∧ (zt_N g L (E (b (v * 4 + c))) q < l (b (v * 4 + c)) → ∀ e, zt_P L k e → zt_N g L q e ≤ zt_N g L (E (b (v * 4 + c))) q) := by
  obtain ⟨r1, r2, r3⟩ := hR.1 v c hv hc h0
  generalize b (v * 4 + c) = u at *
  have u0 : 0 < u := by omega
  obtain ⟨_, hA, _, _, hC⟩ := hB
  have cu := hC u u0 r1
  rw [r2] at cu
  have pv := zt_P_L hk (hA v hv).1
  have pu := zt_P_L hk (hA u r1).1
  have lu := (hA u r1).2.1
  rw [zt_N_s pu] at lu
  have m1 : l v ≤ zt_N g L (E u) q := zt_N_u pu pv (by omega) (by rw [zt_N_c pu pv]; exact cu.2.2.1) h1
  have m2 : l v + 1 ≤ zt_N g L (E u) q := by
    have a := (zt_N_iff (g := g) pu (by omega) _).1 m1
    refine (zt_N_iff pu (by omega) _).2 ⟨by omega, by omega, fun x hx => ?_⟩
    by_cases ex : x = l v
    · rw [ex, r3, h3]
    · exact a.2.2 x (by omega)
  refine ⟨u0, r1, r2, cu.2.1, by omega, fun hlt e he => ?_⟩
  refine Classical.byContradiction fun cn => ?_
  have heL := zt_P_L hk he
  have e1 := zt_U_eq (zt_U_N g L) (i := E u) (j := q) (k := e) pu (by omega) heL rfl (by omega)
  have := cu.2.2.2 _ (hF.2 (E u) e (hA u r1).1 he) (by omega)
  omega
end
theorem zt_R_leaf {g : Nat → Nat} {n : Nat} {E l p b b' : Nat → Nat} {q w c m : Nat} (hR : zt_R g n E l p b) (hp : ∀ v, 0 < v → v < n → p v < n) (hw : w < n) (hc : c < 4) (hn : 0 < n) (hq : g (q + l w) = c + 1) (h0 : b (w * 4 + c) = 0) (b0 : ∀ c', c' < 4 → b' (n * 4 + c') = 0) (b1 : b' (w * 4 + c) = n) (b2 : ∀ v c', v < n → c' < 4 → (v ≠ w ∨ c' ≠ c) → b' (v * 4 + c') = b (v * 4 + c')) : zt_R g (n + 1) (zt_up E n q) (zt_up l n m) (zt_up p n w) b' := by
  have ol : ∀ v, v < n → zt_up l n m v = l v := fun v hv => zt_un l _ (by omega)
  have oE : ∀ v, v < n → zt_up E n q v = E v := fun v hv => zt_un E _ (by omega)
  have op : ∀ v, v < n → zt_up p n w v = p v := fun v hv => zt_un p _ (by omega)
  have nE : zt_up E n q n = q := zt_us _ _ _
  have np : zt_up p n w n = w := zt_us _ _ _
  constructor
  · intro v c' hv hc' hb
    by_cases e : v = n
    · subst e; exact absurd (b0 c' hc') hb
    · by_cases e2 : v = w ∧ c' = c
      · obtain ⟨e3, e4⟩ := e2
        subst e3; subst e4
        rw [b1, np, nE, ol v hw]
        exact ⟨by omega, rfl, hq⟩
      · have e3 : b' (v * 4 + c') = b (v * 4 + c') := b2 v c' (by omega) hc' (by omega)
        rw [e3] at hb ⊢
        obtain ⟨r1, r2, r3⟩ := hR.1 v c' (by omega) hc' hb
        rw [op _ r1, oE _ r1, ol v (by omega)]
        exact ⟨by omega, r2, r3⟩
  · intro u u0 hu
    by_cases e : u = n
    · subst e
      rw [np, nE, ol w hw]
      exact ⟨c, hc, hq, b1⟩
    · have hu' : u < n := by omega
      obtain ⟨c', d1, d2, d3⟩ := hR.2 u u0 hu'
      have pu := hp u u0 hu'
      rw [op u hu', oE u hu', ol _ pu]
      refine ⟨c', d1, d2, ?_⟩
      rw [b2 _ c' pu d1 ?_]
      · exact d3
      · by_cases f : p u = w ∧ c' = c
        · exfalso
          rw [f.1, f.2] at d3
          omega
        · omega
theorem zt_R_mid {g : Nat → Nat} {n : Nat} {E l p b b' : Nat → Nat} {x v c d m : Nat} (hR : zt_R g n E l p b) (hp : ∀ v, 0 < v → v < n → p v < n) (x0 : 0 < x) (hx : x < n) (hv : p x = v) (hvn : v < n) (hc : c < 4) (hd : d < 4) (g1 : g (E x + l v) = c + 1) (g2 : g (E x + m) = d + 1) (hb : b (v * 4 + c) = x) (b1 : b' (v * 4 + c) = n) (b2 : b' (n * 4 + d) = x) (b0 : ∀ c', c' < 4 → c' ≠ d → b' (n * 4 + c') = 0) (b3 : ∀ w c', w < n → c' < 4 → (w ≠ v ∨ c' ≠ c) → b' (w * 4 + c') = b (w * 4 + c')) : zt_R g (n + 1) (zt_up E n (E x)) (zt_up l n m) (zt_up (zt_up p n (p x)) x n) b' := by
  have ol : ∀ v, v < n → zt_up l n m v = l v := fun v hv => zt_un l _ (by omega)
  have oE : ∀ v, v < n → zt_up E n (E x) v = E v := fun v hv => zt_un E _ (by omega)
  have nl : zt_up l n m n = m := zt_us _ _ _
  have nE : zt_up E n (E x) n = E x := zt_us _ _ _
  have px : zt_up (zt_up p n (p x)) x n x = n := zt_us _ _ _
  have pn : zt_up (zt_up p n (p x)) x n n = v := by rw [zt_un _ _ (by omega), zt_us]; exact hv
  have op : ∀ u, u < n → u ≠ x → zt_up (zt_up p n (p x)) x n u = p u := fun u hu hne => by rw [zt_un _ _ hne, zt_un _ _ (by omega)]
  have un : ∀ w c', w < n → c' < 4 → b (w * 4 + c') = x → w = v ∧ c' = c := by
    intro w c' hw hc' e
    obtain ⟨_, r2, r3⟩ := hR.1 w c' hw hc' (by omega)
    rw [e] at r2 r3
    have : w = v := by omega
    subst this
    exact ⟨rfl, by omega⟩
  constructor
  · intro w c' hw hc' hne
    by_cases e : w = n
    · subst e
      by_cases f : c' = d
      · subst f
        rw [b2, px, nl, oE x hx]
        exact ⟨by omega, rfl, g2⟩
      · exact absurd (b0 c' hc' f) hne
    · by_cases e2 : w = v ∧ c' = c
      · obtain ⟨e3, e4⟩ := e2
        subst e3; subst e4
        rw [b1, pn, nE, ol w hvn]
        exact ⟨by omega, rfl, g1⟩
      · have e3 : b' (w * 4 + c') = b (w * 4 + c') := b3 w c' (by omega) hc' (by omega)
        rw [e3] at hne ⊢
        obtain ⟨r1, r2, r3⟩ := hR.1 w c' (by omega) hc' hne
        have nx : b (w * 4 + c') ≠ x := fun f => e2 (un w c' (by omega) hc' f)
        rw [op _ r1 nx, oE _ r1, ol w (by omega)]
        exact ⟨by omega, r2, r3⟩
  · intro u u0 hu
    by_cases e : u = n
    · subst e
      rw [pn, nE, ol v hvn]
      exact ⟨c, hc, g1, b1⟩
    · by_cases e2 : u = x
      · subst e2
        rw [px, nl, oE u hx]
        exact ⟨d, hd, g2, b2⟩
      · have hu' : u < n := by omega
        obtain ⟨c', d1, d2, d3⟩ := hR.2 u u0 hu'
        have pu := hp u u0 hu'
        rw [op u hu' e2, oE u hu', ol _ pu]
        refine ⟨c', d1, d2, ?_⟩
        rw [b3 _ c' pu d1 ?_]
        · exact d3
        · by_cases f : p u = v ∧ c' = c
          · exfalso
            rw [f.1, f.2] at d3
            omega
          · omega
/-- sums of the edges -/
theorem zt_s_d {f f' : Nat → Nat} {n x d : Nat} (hx : x < n) (h : ∀ v, v < n → v ≠ x → f' v = f v) (hd : f' x + d = f x) : zt_s f' n + d = zt_s f n := by
  induction n with
  | zero => omega
  | succ n ih =>
    rw [zt_s1, zt_s1]
    by_cases e : x = n
    · subst e
      rw [zt_sc (f := f') (g := f) x (fun i hi => h i (by omega) (by omega))]
      omega
    · have := ih (by omega) (fun v hv => h v (by omega))
      have := h n (by omega) (fun c => e c.symm)
      omega
theorem zt_sm_leaf {l p : Nat → Nat} {n m w : Nat} (h0 : l 0 = 0) (hp : ∀ v, 0 < v → v < n → p v < n) (hw : w < n) : zt_s (fun v => zt_up l n m v - zt_up l n m (zt_up p n w v)) (n + 1) = zt_s (fun v => l v - l (p v)) n + (m - l w) := by
  rw [zt_s1, zt_us, zt_us, zt_un l m (by omega)]
  congr 1
  refine zt_sc n fun v hv => ?_
  show zt_up l n m v - zt_up l n m (zt_up p n w v) = l v - l (p v)
  rw [zt_un l m (by omega), zt_un p w (by omega)]
  by_cases e : v = 0
  · subst e; omega
  · rw [zt_un l m (by have := hp v (by omega) hv; omega)]
theorem zt_sm_mid {l p : Nat → Nat} {n m x : Nat} (h0 : l 0 = 0) (hp : ∀ v, 0 < v → v < n → p v < n) (x0 : 0 < x) (hx : x < n) (h1 : l (p x) < m) (h2 : m < l x) : zt_s (fun v => zt_up l n m v - zt_up l n m (zt_up (zt_up p n (p x)) x n v)) (n + 1) = zt_s (fun v => l v - l (p v)) n := by
  have px := hp x x0 hx
  have e1 : zt_up (zt_up p n (p x)) x n n = p x := by rw [zt_un _ _ (by omega), zt_us]
  rw [zt_s1]
  show zt_s _ n + (zt_up l n m n - zt_up l n m (zt_up (zt_up p n (p x)) x n n)) = _
  rw [e1, zt_us, zt_un l m (by omega)]
  refine zt_s_d hx (fun v hv hne => ?_) ?_
  · show zt_up l n m v - zt_up l n m (zt_up (zt_up p n (p x)) x n v) = l v - l (p v)
    rw [zt_un _ _ hne, zt_un p _ (by omega), zt_un l m (by omega)]
    by_cases e : v = 0
    · subst e; omega
    · rw [zt_un l m (by have := hp v (by omega) hv; omega)]
  · show zt_up l n m x - zt_up l n m (zt_up (zt_up p n (p x)) x n x) + (m - l (p x)) = l x - l (p x)
    rw [zt_us, zt_us, zt_un l m (by omega)]
    omega
end
section
/-! the tree with k tails hung -/
def zt_nt (g : Nat → Nat) (L k n : Nat) (E l nt : Nat → Nat) : Prop := ∀ v i, v < n → (nt v = i + 1 ↔ (i < k ∧ l v = L - i ∧ l v ≤ zt_N g L (E v) i))
/-- with strings S, and a sum of edges sg -/
def zt_J (g : Nat → Nat) (L k n : Nat) (S : Nat → Nat → Prop) (E l p b nt : Nat → Nat) (sg : Nat) : Prop :=
  zt_B (zt_N g L) (zt_P L k) S (fun v => v < n) E l p ∧ zt_R g n E l p b ∧ zt_nt g L k n E l nt ∧ zt_s (fun v => l v - l (p v)) n = sg
def zt_sg (g : Nat → Nat) (L k : Nat) : Nat := zt_s (fun i => L - i - zt_m (fun j => zt_N g L j i) i) k
def zt_H (g : Nat → Nat) (L k n : Nat) (E l p b nt : Nat → Nat) : Prop :=
  zt_J g L k n (zt_S (zt_N g L) (zt_P L k)) E l p b nt (zt_sg g L k) ∧ n ≤ 2 * k + 1
/-- the strings after q = k has come, seen from the others -/
def zt_SQ (g : Nat → Nat) (L k r m : Nat) : Nat → Nat → Prop := zt_S1 (zt_N g L) (zt_S (zt_N g L) (zt_P L k)) r m
theorem zt_J_mid {g : Nat → Nat} {L k n : Nat} {E l p b nt b' nt' : Nat → Nat} {x v c d m sg : Nat} (hk : k ≤ L) (h : zt_J g L k n (zt_S (zt_N g L) (zt_P L k)) E l p b nt sg) (x0 : 0 < x) (hx : x < n) (hv : p x = v) (hc : c < 4) (hd : d < 4) (h1 : l v < m) (h2 : m < l x) (hb : b (v * 4 + c) = x) (g1 : g (E x + l v) = c + 1) (g2 : g (E x + m) = d + 1) (b1 : b' (v * 4 + c) = n) (b2 : b' (n * 4 + d) = x) (b0 : ∀ c', c' < 4 → c' ≠ d → b' (n * 4 + c') = 0) (b3 : ∀ w c', w < n → c' < 4 → (w ≠ v ∨ c' ≠ c) → b' (w * 4 + c') = b (w * 4 + c')) (n0 : nt' n = 0) (n1 : ∀ u, u < n → nt' u = nt u) : zt_J g L k (n + 1) (zt_SQ g L k (E x) m) (zt_up E n (E x)) (zt_up l n m) (zt_up (zt_up p n v) x n) b' nt' sg := by
  obtain ⟨hB, hR, hN, hs⟩ := h
  have hU := zt_U_P g hk
  have hF := zt_F_S hU
  have hp : ∀ u, 0 < u → u < n → p u < n := fun u u0 hu => (hB.2.2.2.2 u u0 hu).1
  have hA := hB.2.1
  have hC := hB.2.2.2.2
  subst hv
  refine ⟨?_, zt_R_mid hR hp x0 hx rfl (hp x x0 hx) hc hd g1 g2 hb b1 b2 b0 b3, fun u i hu => ?_, ?_⟩
  · refine zt_B_V (zt_B_mid hU hF hB x0 hx (y := n) (by omega) (by omega) h1 h2) (fun u => ?_)
    show u < n ∨ u = n ↔ u < n + 1
    omega
  · by_cases e : u = n
    · subst e
      rw [n0, zt_us, zt_us]
      refine ⟨fun h => by omega, fun ⟨i1, i2, i3⟩ => ?_⟩
      exfalso
      have pi : zt_P L k i := Or.inl i1
      have px := (hA x hx).1
      have f1 := hF.2 i i pi pi
      rw [zt_N_s (by omega)] at f1
      have f2 := hF.1 i (E x) _ pi px f1 (by rw [hU.1 _ _ pi px]; omega)
      have := (hC x x0 hx).2.2.2 _ f2 (by omega)
      omega
    · rw [n1 u (by omega), zt_un l m e, zt_un E _ e]
      exact hN u i (by omega)
  · rw [← hs]
    exact zt_sm_mid hB.1.2 hp x0 hx h1 h2
theorem zt_J_old {g : Nat → Nat} {L k n : Nat} {E l p b nt : Nat → Nat} {w r sg : Nat} (hk : k ≤ L) (h : zt_J g L k n (zt_S (zt_N g L) (zt_P L k)) E l p b nt sg) (hw : w < n) (hr : zt_P L k r) (h1 : l w ≤ zt_N g L (E w) r) : zt_J g L k n (zt_SQ g L k r (l w)) E l p b nt sg :=
  ⟨zt_B_S h.1 (zt_S1_old (zt_U_P g hk) (zt_F_S (zt_U_P g hk)) h.1 hw rfl hr h1), h.2⟩
theorem zt_sg_1 {g : Nat → Nat} {L k r m : Nat} (hk : k ≤ L) (hr : zt_P L k r) (hm : zt_N g L k r = m) (hmax : ∀ e, zt_P L k e → zt_N g L k e ≤ m) : zt_sg g L (k + 1) = zt_sg g L k + (L - k - m) := by
  unfold zt_sg
  rw [zt_s1]
  have : zt_m (fun j => zt_N g L j k) k = m := by
    refine Nat.le_antisymm (zt_m_le fun j hj => ?_) ?_
    · show zt_N g L j k ≤ m
      rw [zt_N_c (by omega) (by omega)]
      exact hmax j (Or.inl hj)
    · rcases hr with a | a
      · have := zt_m_ge (f := fun j => zt_N g L j k) a
        have e : zt_N g L r k = m := by rw [zt_N_c (by omega) (by omega)]; exact hm
        rw [← e]; exact this
      · have := zt_N_j (g := g) (L := L) (i := k) (j := r) (by omega) (by omega)
        omega
  rw [this]
theorem zt_J_leaf {g : Nat → Nat} {L k n : Nat} {E l p b nt b' nt' : Nat → Nat} {r m w c : Nat} (hk : k < L) (h : zt_J g L k n (zt_SQ g L k r m) E l p b nt (zt_sg g L k)) (hr : zt_P L k r) (hm : zt_N g L k r = m) (hmax : ∀ e, zt_P L k e → zt_N g L k e ≤ m) (hw : w < n) (hl : l w = m) (hM : m ≤ zt_N g L (E w) k) (hlt : m < L - k) (hc : c < 4) (hq : g (k + m) = c + 1) (h0 : b (w * 4 + c) = 0) (b0 : ∀ c', c' < 4 → b' (n * 4 + c') = 0) (b1 : b' (w * 4 + c) = n) (b2 : ∀ v c', v < n → c' < 4 → (v ≠ w ∨ c' ≠ c) → b' (v * 4 + c') = b (v * 4 + c')) (n0 : nt' n = k + 1) (n1 : ∀ u, u < n → nt' u = nt u) (hn : n ≤ 2 * k + 2) : zt_H g L (k + 1) (n + 1) (zt_up E n k) (zt_up l n (L - k)) (zt_up p n w) b' nt' := by
  obtain ⟨hB, hR, hN, hs⟩ := h
  subst hl
  have hU' := zt_U_P g (L := L) (k := k + 1) (by omega)
  have hP := zt_P_1 L k
  have hp : ∀ u, 0 < u → u < n → p u < n := fun u u0 hu => (hB.2.2.2.2 u u0 hu).1
  have hA := hB.2.1
  have kk : zt_N g L k k = L - k := zt_N_s (by omega)
  have pw := (hA w hw).1
  refine ⟨⟨?_, zt_R_leaf hR hp hw hc hB.1.1 hq h0 b0 b1 b2, fun u i hu => ?_, ?_⟩, by omega⟩
  · have a := zt_B_leaf (q := k) (w := w) (z := n) (P' := zt_P L (k + 1)) (S' := zt_S (zt_N g L) (zt_P L (k + 1))) hU' hP hB hw (by omega) hM hmax (by omega)
      (fun e s he => zt_S_old hU' hP hr hm hmax s he)
      (fun s => zt_S_new hU' hP hr hm hmax pw hM s)
    rw [kk] at a
    refine zt_B_V a (fun u => ?_)
    show u < n ∨ u = n ↔ u < n + 1
    omega
  · by_cases e : u = n
    · subst e
      rw [n0, zt_us, zt_us]
      refine ⟨fun h => ?_, fun ⟨i1, i2, i3⟩ => by omega⟩
      have : i = k := by omega
      subst this
      exact ⟨by omega, rfl, by rw [kk]; omega⟩
    · rw [n1 u (by omega), zt_un l _ e, zt_un E _ e, hN u i (by omega)]
      refine ⟨fun ⟨i1, i2, i3⟩ => ⟨by omega, i2, i3⟩, fun ⟨i1, i2, i3⟩ => ⟨?_, i2, i3⟩⟩
      refine Classical.byContradiction fun cn => ?_
      have : i = k := by omega
      subst this
      have pu := (hA u (by omega)).1
      have := hmax _ pu
      rw [zt_N_c (by omega) (zt_P_L (by omega) pu)] at this
      omega
  · rw [zt_sm_leaf hB.1.2 hp hw, hs, zt_sg_1 (by omega) hr hm hmax]
theorem zt_J_end {g : Nat → Nat} {L k n : Nat} {E l p b nt nt' : Nat → Nat} {r m w : Nat} (hk : k < L) (h : zt_J g L k n (zt_SQ g L k r m) E l p b nt (zt_sg g L k)) (hr : zt_P L k r) (hm : zt_N g L k r = m) (hmax : ∀ e, zt_P L k e → zt_N g L k e ≤ m) (hw : w < n) (hl : l w = m) (hM : m ≤ zt_N g L (E w) k) (heq : m = L - k) (n0 : nt' w = k + 1) (n1 : ∀ u, u < n → u ≠ w → nt' u = nt u) (hn : n ≤ 2 * k + 3) : zt_H g L (k + 1) n E l p b nt' := by
  obtain ⟨hB, hR, hN, hs⟩ := h
  subst hl
  have hU' := zt_U_P g (L := L) (k := k + 1) (by omega)
  have hP := zt_P_1 L k
  have hA := hB.2.1
  have kk : zt_N g L k k = L - k := zt_N_s (by omega)
  have pw := (hA w hw).1
  have pwL := zt_P_L (by omega) pw
  refine ⟨⟨?_, hR, fun u i hu => ?_, ?_⟩, by omega⟩
  · refine zt_B_end (q := k) (w := w) (P' := zt_P L (k + 1)) (S' := zt_S (zt_N g L) (zt_P L (k + 1))) hU' hP hB hw hM (fun e s he => zt_S_old hU' hP hr hm hmax s he) (fun s => ?_)
    rw [zt_S_new hU' hP hr hm hmax pw hM s, kk]
    refine ⟨fun a => ?_, Or.inr⟩
    rcases a with a | a
    · refine ⟨by omega, ?_⟩
      have : s = l w := by omega
      rw [this]
      exact (hA w hw).2.2
    · exact a
  · by_cases e : u = w
    · subst e
      rw [n0]
      refine ⟨fun h => ?_, fun ⟨i1, i2, i3⟩ => by omega⟩
      have : i = k := by omega
      subst this
      exact ⟨by omega, by omega, hM⟩
    · rw [n1 u hu e, hN u i hu]
      refine ⟨fun ⟨i1, i2, i3⟩ => ⟨by omega, i2, i3⟩, fun ⟨i1, i2, i3⟩ => ⟨?_, i2, i3⟩⟩
      refine Classical.byContradiction fun cn => ?_
      have : i = k := by omega
      subst this
      have puL := zt_P_L (by omega) (hA u hu).1
      refine e (hB.2.2.2.1 u w hu hw (by omega) ?_)
      exact zt_N_u puL (by omega) pwL i3 (by rw [zt_N_c (by omega) pwL]; omega)
  · rw [hs, zt_sg_1 (by omega) hr hm hmax]
    omega
/-- the empty tree -/
theorem zt_H_0 {g : Nat → Nat} {L : Nat} {E l p b nt : Nat → Nat} (hE : E 0 = L) (hl : l 0 = 0) (hb : ∀ c, c < 4 → b (0 * 4 + c) = 0) (hn : nt 0 = 0) : zt_H g L 0 1 E l p b nt := by
  have z : ∀ e, zt_P L 0 e → e = L := fun e he => by
    rcases he with h | h
    · omega
    · exact h
  have NL : ∀ e, zt_P L 0 e → zt_N g L e e = 0 := fun e he => by rw [z e he, zt_N_s (Nat.le_refl _)]; omega
  refine ⟨⟨⟨⟨by omega, hl⟩, fun v hv => ?_, fun e s he hs => ?_, fun v w hv hw _ _ => ?_, fun v v0 hv => ?_⟩, ⟨fun v c hv hc hne => ?_, fun w w0 hw => ?_⟩, fun v i hv => ?_, ?_⟩, by omega⟩
  · have e : v = 0 := by omega
    subst e
    rw [hE, hl]
    exact ⟨Or.inr rfl, by omega, L, Or.inr rfl, NL L (Or.inr rfl)⟩
  · obtain ⟨x, hx, e1⟩ := hs
    rw [z e he] at e1 ⊢
    rw [z x hx, NL L (Or.inr rfl)] at e1
    exact ⟨0, by omega, by omega, by omega⟩
  · have h1 : v < 1 := hv
    have h2 : w < 1 := hw
    omega
  · have h1 : v < 1 := hv
    omega
  · have e : v = 0 := by omega
    subst e
    exact absurd (hb c hc) hne
  · omega
  · have e : v = 0 := by omega
    subst e
    rw [hn]
    exact ⟨fun h => by omega, fun h => by omega⟩
  · rw [zt_s1, zt_s0, hl]
    show 0 + (0 - l (p 0)) = zt_sg g L 0
    unfold zt_sg
    rw [zt_s0]; omega
/-- what the sum of all edges is -/
theorem zt_sg_D (g : Nat → Nat) (L : Nat) : zt_sg g L L = zt_D g L (fun i => i) := by
  refine zt_sc L fun i hi => ?_
  symm
  refine zt_Q_row hi (fun j hj hr => zt_m_ge (f := fun j => zt_N g L j i) hr) ?_
  rcases zt_m_is (fun j => zt_N g L j i) i with e | ⟨j, hj, e⟩
  · exact Or.inl e
  · exact Or.inr ⟨j, by omega, hj, e⟩
end
section
/-! the whole tree: its measures, its tails in order, the node of a pattern -/
def zt_A (g : Nat → Nat) (L : Nat) (E l : Nat → Nat) (v i : Nat) : Prop := l v ≤ zt_N g L (E v) i
noncomputable def zt_cA (g : Nat → Nat) (L : Nat) (E l : Nat → Nat) (v : Nat) : Nat := zt_c (fun i => zt_A g L E l v i) L
noncomputable def zt_C (g : Nat → Nat) (L : Nat) (E l : Nat → Nat) (v x : Nat) : Nat := zt_c (fun i => zt_A g L E l v i ∧ g (i + l v) = x) L
noncomputable def zt_off (g : Nat → Nat) (L : Nat) (E l : Nat → Nat) (v : Nat) : Nat := zt_c (fun j => zt_T g j (E v) ∧ zt_N g L (E v) j < l v) L
noncomputable def zt_sub (g : Nat → Nat) (L n : Nat) (E l : Nat → Nat) (v : Nat) : Nat := zt_c (fun w => l v ≤ l w ∧ l v ≤ zt_N g L (E v) (E w)) n
/-- a first difference before s is one from every point that shares s letters -/
theorem zt_T_sh {g : Nat → Nat} {L j e e' s : Nat} (hz : zt_Z g L) (hj : j ≤ L) (he : e ≤ L) (he' : e' ≤ L) (h1 : s ≤ zt_N g L e e') (h2 : zt_N g L e j < s) (hT : zt_T g j e) : zt_T g j e' := by
  obtain ⟨d, a, b⟩ := hT
  have c := (zt_N_iff (g := g) he he' s).1 h1
  by_cases hd : d < s
  · exact ⟨d, fun q hq => (a q hq).trans (c.2.2 q (by omega)), by rw [← c.2.2 d hd]; exact b⟩
  · exfalso
    have : s ≤ zt_N g L e j := by
      refine (zt_N_iff he hj s).2 ⟨c.1, ?_, fun q hq => (a q (by omega)).symm⟩
      by_cases e0 : s = 0
      · omega
      · have h3 := a (s - 1) (by omega)
        have h4 : ¬ g (e + (s - 1)) = 0 := fun z => by
          have := (hz (e + (s - 1))).1 z
          omega
        refine Classical.byContradiction fun cn => ?_
        have := (hz (j + (s - 1))).2 (by omega)
        omega
    omega
section
variable {g : Nat → Nat} {L n : Nat} {E l p b nt : Nat → Nat}
theorem zt_H_G (h : zt_H g L L n E l p b nt) {m : Nat} (h1 : ∀ v, 0 < v → v < n → l (p v) ≤ m) (h2 : m = 0 ∨ ∃ v, 0 < v ∧ v < n ∧ l (p v) = m) : zt_G g L m := by
  obtain ⟨⟨hB, _, _, _⟩, _⟩ := h
  have hU := zt_U_P g (L := L) (k := L) (Nat.le_refl _)
  have hF := zt_F_S hU
  obtain ⟨h0, hA, hB1, hB2, hC⟩ := hB
  have key : ∀ i j, i < j → j < L → zt_N g L i j ≤ m := by
    intro i j hij hj
    have pi : zt_P L L i := Or.inl (by omega)
    have pj : zt_P L L j := Or.inl hj
    have a := zt_N_j (g := g) (L := L) (i := i) (j := j) (by omega) (by omega)
    obtain ⟨u, hu, e1, e2⟩ := hB1 i _ pi (hF.2 i i pi pi)
    rw [zt_N_s (by omega)] at e1 e2
    have hu' : u < n := hu
    have u0 : 0 < u := by
      refine Nat.pos_of_ne_zero fun z => ?_
      subst z
      omega
    have pu := (hA u hu).1
    have s1 := hF.1 i (E u) _ pi pu (hF.2 i j pi pj) (by rw [hU.1 _ _ pi pu]; omega)
    have := (hC u u0 hu).2.2.2 _ s1 (by omega)
    have := h1 u u0 hu'
    omega
  refine ⟨fun i j hi hj ne => ?_, ?_⟩
  · by_cases c : i < j
    · exact key i j c hj
    · rw [zt_N_c (by omega) (by omega)]
      exact key j i (by omega) hi
  · by_cases m0 : m = 0
    · exact Or.inl m0
    · rcases h2 with e | ⟨v, v0, hv, e⟩
      · exact Or.inl e
      · right
        have cv := hC v v0 hv
        have pv := (hA v hv).1
        have pp := (hA _ cv.1).1
        have lv := (hA v hv).2.1
        have pvL := zt_P_L (Nat.le_refl _) pv
        rw [zt_N_s pvL] at lv
        obtain ⟨x, hx, e1⟩ := hF.1 _ (E v) _ pp pv (hA _ cv.1).2.2 cv.2.2.1
        have hxL := zt_P_L (Nat.le_refl _) hx
        have a := zt_N_j (g := g) pvL hxL
        refine ⟨E v, x, by omega, by omega, fun c => ?_, by omega⟩
        subst c
        rw [zt_N_s pvL] at e1
        omega
theorem zt_P_full {i : Nat} (hi : i ≤ L) : zt_P L L i := by
  by_cases c : i < L
  · exact Or.inl c
  · exact Or.inr (by omega)
/-- the child by the letter c -/
theorem zt_A_ch (hz : zt_Z g L) (h : zt_H g L L n E l p b nt) {v c : Nat} (hv : v < n) (hc : c < 4) (hb : b (v * 4 + c) ≠ 0) (i : Nat) (hi : i ≤ L) : zt_A g L E l (b (v * 4 + c)) i ↔ zt_A g L E l v i ∧ g (i + l v) = c + 1 := by
  obtain ⟨⟨hB, hR, _, _⟩, _⟩ := h
  have hF := zt_F_S (zt_U_P g (L := L) (k := L) (Nat.le_refl _))
  obtain ⟨r1, r2, r3⟩ := hR.1 v c hv hc hb
  have cu := hB.2.2.2.2 _ (by omega) r1
  rw [r2] at cu
  have pv := zt_P_L (Nat.le_refl _) (hB.2.1 v hv).1
  have pu := zt_P_L (Nat.le_refl _) (hB.2.1 _ r1).1
  unfold zt_A
  constructor
  · intro a
    refine ⟨zt_N_u pv pu hi cu.2.2.1 (by omega), ?_⟩
    rw [← r3]
    exact (zt_N_e pu hi (by omega)).symm
  · rintro ⟨a1, a2⟩
    have hlt : i + l v < L := by
      refine Classical.byContradiction fun cn => ?_
      have := (hz (i + l v)).2 (by omega)
      omega
    exact (zt_ch (Nat.le_refl L) hF hB hR hv (zt_P_full hi) a1 hlt a2).2.2.2.2.2
theorem zt_A_no (hz : zt_Z g L) (h : zt_H g L L n E l p b nt) {v c : Nat} (hv : v < n) (hb : b (v * 4 + c) = 0) (i : Nat) (hi : i ≤ L) (ha : zt_A g L E l v i) : ¬ g (i + l v) = c + 1 := by
  obtain ⟨⟨hB, hR, _, _⟩, _⟩ := h
  have hF := zt_F_S (zt_U_P g (L := L) (k := L) (Nat.le_refl _))
  intro a2
  have hlt : i + l v < L := by
    refine Classical.byContradiction fun cn => ?_
    have := (hz (i + l v)).2 (by omega)
    omega
  have := (zt_ch (Nat.le_refl L) hF hB hR hv (zt_P_full hi) ha hlt a2).2.1
  omega
theorem zt_C_ch (hz : zt_Z g L) (h : zt_H g L L n E l p b nt) {v c : Nat} (hv : v < n) (hc : c < 4) : zt_C g L E l v (c + 1) = if b (v * 4 + c) = 0 then 0 else zt_cA g L E l (b (v * 4 + c)) := by
  split
  · rename_i hb
    exact zt_cz L fun i hi a => zt_A_no hz h hv hb i (by omega) a.1 a.2
  · rename_i hb
    exact zt_cc L fun i hi => (zt_A_ch hz h hv hc hb i (by omega)).symm
theorem zt_C_0 (hz : zt_Z g L) (h : zt_H g L L n E l p b nt) {v : Nat} (hv : v < n) : zt_C g L E l v 0 = if nt v = 0 then 0 else 1 := by
  obtain ⟨⟨hB, hR, hN, _⟩, _⟩ := h
  have pv := zt_P_L (Nat.le_refl _) (hB.2.1 v hv).1
  have key : ∀ j, j < L → zt_A g L E l v j → g (j + l v) = 0 → l v = L - j := by
    intro j hj a1 a2
    have a3 := (hz (j + l v)).1 a2
    have a4 := (zt_N_iff (g := g) pv (by omega) _).1 a1
    omega
  split
  · rename_i e
    refine zt_cz L fun j hj a => ?_
    have := (hN v j hv).2 ⟨hj, key j hj a.1 a.2, a.1⟩
    omega
  · rename_i e
    obtain ⟨i, ei⟩ : ∃ i, nt v = i + 1 := ⟨nt v - 1, by omega⟩
    obtain ⟨i1, i2, i3⟩ := (hN v i hv).1 ei
    refine zt_c1 L i i1 ⟨i3, (hz _).2 (by omega)⟩ fun j hj a => ?_
    have := key j hj a.1 a.2
    omega
theorem zt_cA_5 (hg : ∀ i, g i ≤ 4) (v : Nat) : zt_cA g L E l v = zt_C g L E l v 0 + zt_C g L E l v 1 + zt_C g L E l v 2 + zt_C g L E l v 3 + zt_C g L E l v 4 := zt_c5 (f := fun i => g (i + l v)) L (fun _ => hg _)
theorem zt_off_ch (hz : zt_Z g L) (h : zt_H g L L n E l p b nt) {v c : Nat} (hv : v < n) (hc : c < 4) (hb : b (v * 4 + c) ≠ 0) : zt_off g L E l (b (v * 4 + c)) = zt_off g L E l v + zt_c (fun i => zt_A g L E l v i ∧ g (i + l v) < c + 1) L := by
  have ch := zt_A_ch hz h hv hc hb
  obtain ⟨⟨hB, hR, _, _⟩, _⟩ := h
  obtain ⟨r1, r2, r3⟩ := hR.1 v c hv hc hb
  have cu := hB.2.2.2.2 _ (by omega) r1
  rw [r2] at cu
  have pv := zt_P_L (Nat.le_refl _) (hB.2.1 v hv).1
  have pu := zt_P_L (Nat.le_refl _) (hB.2.1 _ r1).1
  generalize b (v * 4 + c) = u at *
  unfold zt_off
  have es := zt_cor (p := fun j => zt_T g j (E v) ∧ zt_N g L (E v) j < l v) (q := fun i => zt_A g L E l v i ∧ g (i + l v) < c + 1) L (fun j _ a1 a2 => by
    have h1 := a2.1
    have h2 := a1.2
    unfold zt_A at h1
    omega)
  rw [← es]
  refine zt_cc L fun j hj => ⟨fun ⟨a1, a2⟩ => ?_, fun a => ?_⟩
  · by_cases e : zt_N g L (E v) j < l v
    · left
      refine ⟨zt_T_sh hz (by omega) pu pv (by rw [zt_N_c pu pv]; exact cu.2.2.1) ?_ a1, e⟩
      refine Classical.byContradiction fun cn => ?_
      have := zt_N_u (g := g) pv pu (k := j) (s := l v) (by omega) cu.2.2.1 (by omega)
      omega
    · right
      have av : zt_A g L E l v j := by unfold zt_A; omega
      refine ⟨av, ?_⟩
      have ne : ¬ g (j + l v) = c + 1 := fun cn => by
        have := (ch j (by omega)).2 ⟨av, cn⟩
        unfold zt_A at this
        omega
      have ju : l v ≤ zt_N g L (E u) j := zt_N_u pu pv (by omega) (by rw [zt_N_c pu pv]; exact cu.2.2.1) av
      obtain ⟨d, d1, d2⟩ := a1
      by_cases f : d < l v
      · have := zt_N_e (g := g) pu (by omega : j ≤ L) (q := d) (by omega)
        omega
      · by_cases f2 : d = l v
        · rw [f2, r3] at d2; exact d2
        · have := d1 (l v) (by omega)
          omega
  · rcases a with ⟨a1, a2⟩ | ⟨a1, a2⟩
    · refine ⟨zt_T_sh hz (by omega) pv pu cu.2.2.1 a2 a1, ?_⟩
      refine Classical.byContradiction fun cn => ?_
      have := zt_N_u (g := g) pv pu (k := j) (s := l v) (by omega) cu.2.2.1 (by omega)
      omega
    · have ju : l v ≤ zt_N g L (E u) j := zt_N_u pu pv (by omega) (by rw [zt_N_c pu pv]; exact cu.2.2.1) a1
      refine ⟨⟨l v, fun q hq => (zt_N_e pu (by omega) (by omega)).symm, by rw [r3]; exact a2⟩, ?_⟩
      refine Classical.byContradiction fun cn => ?_
      have := ((ch j (by omega)).1 (by unfold zt_A; omega)).2
      omega
theorem zt_r_off (hz : zt_Z g L) (h : zt_H g L L n E l p b nt) {v i : Nat} (hv : v < n) (hi : nt v = i + 1) : i < L ∧ zt_A g L E l v i ∧ zt_r g L i = zt_off g L E l v := by
  obtain ⟨⟨hB, hR, hN, _⟩, _⟩ := h
  have pv := zt_P_L (Nat.le_refl _) (hB.2.1 v hv).1
  obtain ⟨i1, i2, i3⟩ := (hN v i hv).1 hi
  refine ⟨i1, i3, zt_cc L fun j hj => ⟨fun a => ?_, fun a => ?_⟩⟩
  · obtain ⟨d, d1, d2⟩ := a
    have dl : d < l v := by
      refine Classical.byContradiction fun cn => ?_
      have := (hz (i + d)).2 (by omega)
      omega
    have e1 : g (E v + d) = g (i + d) := zt_N_e pv (by omega) (by omega)
    refine ⟨⟨d, fun q hq => ?_, by rw [e1]; exact d2⟩, ?_⟩
    · rw [d1 q hq]
      exact (zt_N_e pv (by omega) (by omega)).symm
    · refine Classical.byContradiction fun cn => ?_
      have := zt_N_e (g := g) pv (by omega : j ≤ L) (q := d) (by omega)
      omega
  · exact zt_T_sh hz (by omega) pv (by omega) i3 a.2 a.1
/-- nodes under a node -/
theorem zt_sub_ch (hz : zt_Z g L) (hg : ∀ i, g i ≤ 4) (h : zt_H g L L n E l p b nt) {v : Nat} (hv : v < n) : zt_sub g L n E l v = 1 + (if b (v * 4 + 0) = 0 then 0 else zt_sub g L n E l (b (v * 4 + 0))) + (if b (v * 4 + 1) = 0 then 0 else zt_sub g L n E l (b (v * 4 + 1))) + (if b (v * 4 + 2) = 0 then 0 else zt_sub g L n E l (b (v * 4 + 2))) + (if b (v * 4 + 3) = 0 then 0 else zt_sub g L n E l (b (v * 4 + 3))) := by
  have ch := fun c hc hb => zt_A_ch hz h hv (c := c) hc hb
  have no := fun c hb => zt_A_no hz h hv (c := c) hb
  obtain ⟨⟨hB, hR, _, _⟩, _⟩ := h
  have hU := zt_U_P g (L := L) (k := L) (Nat.le_refl _)
  have hF := zt_F_S hU
  have hA := hB.2.1
  have hB2 := hB.2.2.2.1
  have hC := hB.2.2.2.2
  have pL : ∀ w, w < n → E w ≤ L := fun w hw => zt_P_L (Nat.le_refl _) (hA w hw).1
  have vv : l v ≤ zt_N g L (E v) (E v) := (hA v hv).2.1
  have nn : ∀ w, w < n → l v ≤ l w → l v ≤ zt_N g L (E v) (E w) → w ≠ v → l v < l w := by
    intro w hw a1 a2 ne
    refine Classical.byContradiction fun cn => ?_
    exact ne (hB2 v w hv hw (by omega) a2).symm
  have X : ∀ c, c < 4 → zt_c (fun w => ((l v ≤ l w ∧ l v ≤ zt_N g L (E v) (E w)) ∧ w ≠ v) ∧ g (E w + l v) = c + 1) n = if b (v * 4 + c) = 0 then 0 else zt_sub g L n E l (b (v * 4 + c)) := by
    intro c hc
    split
    · rename_i hb
      exact zt_cz n fun w hw a => no c hb (E w) (pL w hw) a.1.1.2 a.2
    · rename_i hb
      obtain ⟨r1, r2, r3⟩ := hR.1 v c hv hc hb
      have cu := hC _ (by omega) r1
      rw [r2] at cu
      refine zt_cc n fun w hw => ⟨fun ⟨⟨⟨a1, a2⟩, a3⟩, a4⟩ => ?_, fun ⟨a1, a2⟩ => ?_⟩
      · have f1 := (ch c hc hb (E w) (pL w hw)).2 ⟨a2, a4⟩
        refine ⟨?_, f1⟩
        have f2 := nn w hw a1 a2 a3
        refine Classical.byContradiction fun cn => ?_
        have f3 := hF.1 (E w) (E (b (v * 4 + c))) _ (hA w hw).1 (hA _ r1).1 (hA w hw).2.2 (by rw [hU.1 _ _ (hA w hw).1 (hA _ r1).1]; unfold zt_A at f1; omega)
        have := cu.2.2.2 _ f3 (by omega)
        omega
      · have f1 := (ch c hc hb (E w) (pL w hw)).1 a2
        refine ⟨⟨⟨by omega, f1.1⟩, fun e => ?_⟩, f1.2⟩
        subst e
        omega
  have S0 : zt_c (fun w => ((l v ≤ l w ∧ l v ≤ zt_N g L (E v) (E w)) ∧ w ≠ v) ∧ g (E w + l v) = 0) n = 0 := by
    refine zt_cz n fun w hw a => ?_
    have f2 := nn w hw a.1.1.1 a.1.1.2 a.1.2
    have f3 := (hA w hw).2.1
    rw [zt_N_s (pL w hw)] at f3
    have f4 := pL w hw
    have := (hz _).1 a.2
    omega
  have T := zt_c5 (A := fun w => (l v ≤ l w ∧ l v ≤ zt_N g L (E v) (E w)) ∧ w ≠ v) (f := fun w => g (E w + l v)) n (fun _ => hg _)
  have R := zt_crm (q := fun w => l v ≤ l w ∧ l v ≤ zt_N g L (E v) (E w)) n v hv ⟨Nat.le_refl _, vv⟩
  have X0 := X 0 (by omega)
  have X1 := X 1 (by omega)
  have X2 := X 2 (by omega)
  have X3 := X 3 (by omega)
  unfold zt_sub at *
  rw [R, T, S0, X0, X1, X2, X3]
  omega
end
end
section
/-! the automaton: points are the ends e of the beginnings of the text, V e f how many last letters they share -/
def zt_V (t : Nat → Nat) (L e f : Nat) : Nat := zt_N (fun x => t (L - 1 - x)) L (L - e) (L - f)
section
variable {t : Nat → Nat} {L : Nat}
theorem zt_V_iff {e f : Nat} (he : e ≤ L) (hf : f ≤ L) (s : Nat) : s ≤ zt_V t L e f ↔ s ≤ e ∧ s ≤ f ∧ ∀ q, q < s → t (e - 1 - q) = t (f - 1 - q) := by
  unfold zt_V
  rw [zt_N_iff (by omega) (by omega)]
  constructor
  · rintro ⟨a, b, c⟩
    refine ⟨by omega, by omega, fun q hq => ?_⟩
    have := c q hq
    have e1 : L - 1 - (L - e + q) = e - 1 - q := by omega
    have e2 : L - 1 - (L - f + q) = f - 1 - q := by omega
    rw [e1, e2] at this
    exact this
  · rintro ⟨a, b, c⟩
    refine ⟨by omega, by omega, fun q hq => ?_⟩
    have e1 : L - 1 - (L - e + q) = e - 1 - q := by omega
    have e2 : L - 1 - (L - f + q) = f - 1 - q := by omega
    rw [e1, e2]
    exact c q hq
theorem zt_U_V (t : Nat → Nat) (L : Nat) : zt_U (zt_V t L) (fun e => e ≤ L) :=
  ⟨fun _ _ _ _ => zt_N_c (by omega) (by omega), fun _ _ _ _ _ _ _ => zt_N_u (by omega) (by omega) (by omega)⟩
theorem zt_U_Vk (t : Nat → Nat) {L k : Nat} (hk : k ≤ L) : zt_U (zt_V t L) (fun e => e ≤ k) := zt_U_m (zt_U_V t L) (fun _ h => Nat.le_trans h hk)
theorem zt_V_s {e : Nat} (he : e ≤ L) : zt_V t L e e = e := by
  unfold zt_V
  rw [zt_N_s (by omega)]; omega
theorem zt_V_c {e f : Nat} : zt_V t L e f = zt_V t L f e := zt_N_c (by omega) (by omega)
theorem zt_V_l {e f : Nat} (he : e ≤ L) (hf : f ≤ L) : zt_V t L e f ≤ e := ((zt_V_iff he hf _).1 (Nat.le_refl _)).1
theorem zt_V_r {e f : Nat} (he : e ≤ L) (hf : f ≤ L) : zt_V t L e f ≤ f := ((zt_V_iff he hf _).1 (Nat.le_refl _)).2.1
theorem zt_V_u {e f h s : Nat} (h1 : s ≤ zt_V t L e f) (h2 : s ≤ zt_V t L f h) : s ≤ zt_V t L e h := zt_N_u (by omega) (by omega) (by omega) h1 h2
theorem zt_V_suc {e f s : Nat} (he : e < L) (hf : f < L) : s + 1 ≤ zt_V t L (e + 1) (f + 1) ↔ t e = t f ∧ s ≤ zt_V t L e f := by
  rw [zt_V_iff (by omega) (by omega), zt_V_iff (by omega) (by omega)]
  constructor
  · rintro ⟨a, b, c⟩
    refine ⟨by have := c 0 (by omega); exact this, by omega, by omega, fun q hq => ?_⟩
    have := c (q + 1) (by omega)
    have e1 : e + 1 - 1 - (q + 1) = e - 1 - q := by omega
    have e2 : f + 1 - 1 - (q + 1) = f - 1 - q := by omega
    rw [e1, e2] at this
    exact this
  · rintro ⟨h0, a, b, c⟩
    refine ⟨by omega, by omega, fun q hq => ?_⟩
    by_cases z : q = 0
    · subst z; exact h0
    · have := c (q - 1) (by omega)
      have e1 : e + 1 - 1 - q = e - 1 - (q - 1) := by omega
      have e2 : f + 1 - 1 - q = f - 1 - (q - 1) := by omega
      rw [e1, e2]
      exact this
theorem zt_V_N {g : Nat → Nat} (hg : ∀ i, i < L → g i = t i + 1) {e f s : Nat} (he : e ≤ L) (hf : f ≤ L) (hse : s ≤ e) (hsf : s ≤ f) : s ≤ zt_V t L e f ↔ s ≤ zt_N g L (e - s) (f - s) := by
  rw [zt_V_iff he hf, zt_N_iff (by omega) (by omega)]
  constructor
  · rintro ⟨a, b, c⟩
    refine ⟨by omega, by omega, fun q hq => ?_⟩
    have := c (s - 1 - q) (by omega)
    have e1 : e - 1 - (s - 1 - q) = e - s + q := by omega
    have e2 : f - 1 - (s - 1 - q) = f - s + q := by omega
    rw [e1, e2] at this
    rw [hg _ (by omega), hg _ (by omega), this]
  · rintro ⟨a, b, c⟩
    refine ⟨hse, hsf, fun q hq => ?_⟩
    have := c (s - 1 - q) (by omega)
    rw [hg _ (by omega), hg _ (by omega)] at this
    have e1 : e - s + (s - 1 - q) = e - 1 - q := by omega
    have e2 : f - s + (s - 1 - q) = f - 1 - q := by omega
    rw [e1, e2] at this
    omega
end
/-- w is the state of the s letters that end at e -/
def zt_nd (t : Nat → Nat) (L n : Nat) (E l p : Nat → Nat) (w e s : Nat) : Prop := 0 < w ∧ w < n ∧ l (p w) < s ∧ s ≤ l w ∧ s ≤ zt_V t L (E w) e
/-- the branches, k letters read -/
def zt_dl (t : Nat → Nat) (L k n : Nat) (E l p b : Nat → Nat) : Prop :=
  (∀ v e, v < n → e < k → l v ≤ zt_V t L (E v) e → zt_nd t L n E l p (b (v * 4 + t e)) (e + 1) (l v + 1)) ∧
  ∀ v c, v < n → c < 4 → b (v * 4 + c) ≠ 0 → ∃ e, e < k ∧ t e = c ∧ l v ≤ zt_V t L (E v) e
def zt_BV (t : Nat → Nat) (L k n : Nat) (E l p : Nat → Nat) : Prop := zt_B (zt_V t L) (fun e => e ≤ k) (zt_S (zt_V t L) (fun e => e ≤ k)) (fun v => v < n) E l p
section
variable {t : Nat → Nat} {L k n : Nat} {E l p b : Nat → Nat}
theorem zt_nd_e {w e f s : Nat} (h : zt_nd t L n E l p w e s) (h1 : s ≤ zt_V t L e f) : zt_nd t L n E l p w f s :=
  ⟨h.1, h.2.1, h.2.2.1, h.2.2.2.1, zt_V_u h.2.2.2.2 h1⟩
/-- above d no state of the beginning k has a branch: then nothing longer than d comes again -/
theorem zt_ss (hk : k < L) (hB : zt_BV t L k n E l p) (hD : zt_dl t L k n E l p b) {d : Nat} (h : ∀ u, u < n → l u ≤ zt_V t L (E u) k → d ≤ l u → b (u * 4 + t k) = 0) (e : Nat) (he : e ≤ k) : zt_V t L (k + 1) e ≤ d := by
  refine Classical.byContradiction fun c => ?_
  have hr := zt_V_r (t := t) (L := L) (e := k + 1) (f := e) (by omega) (by omega)
  obtain ⟨f, rfl⟩ : ∃ f, e = f + 1 := ⟨e - 1, by omega⟩
  have a := (zt_V_suc (t := t) (L := L) (e := k) (f := f) (s := d) hk (by omega)).1 (by omega)
  obtain ⟨u, hu, e1, e2⟩ := hB.2.2.1 k (zt_V t L k f) (Nat.le_refl _) ⟨f, by omega, rfl⟩
  have b1 := h u hu (by omega) (by omega)
  have b2 := hD.1 u f hu (by omega) (by rw [e1]; exact zt_V_u e2 (Nat.le_refl _))
  rw [← a.1, b1] at b2
  exact absurd b2.1 (by omega)
/-- the chain of the links: what lies below v on the way of e -/
theorem zt_chain (hk : k ≤ L) (hB : zt_BV t L k n E l p) {v u e : Nat} (he : e ≤ k) (v0 : 0 < v) (hv : v < n) (hu : u < n) (h1 : l v ≤ zt_V t L (E v) e) (h2 : l u ≤ zt_V t L (E u) e) (h3 : l u < l v) : l u ≤ l (p v) ∧ (l u = l (p v) → u = p v) := by
  have hU := zt_U_Vk t hk
  have hF := zt_F_S hU
  obtain ⟨_, hA, _, hB2, hC⟩ := hB
  have cv := hC v v0 hv
  have uv : l u ≤ zt_V t L (E u) (E v) := zt_V_u h2 (by rw [zt_V_c]; omega)
  refine ⟨cv.2.2.2 _ (hF.1 (E u) (E v) _ (hA u hu).1 (hA v hv).1 (hA u hu).2.2 uv) h3, fun e1 => ?_⟩
  refine hB2 u (p v) hu cv.1 e1 (zt_V_u uv ?_)
  rw [zt_V_c, e1]
  exact cv.2.2.1
theorem zt_chain_p (hB : zt_BV t L k n E l p) {v e : Nat} (v0 : 0 < v) (hv : v < n) (h1 : l v ≤ zt_V t L (E v) e) : p v < n ∧ l (p v) < l v ∧ l (p v) ≤ zt_V t L (E (p v)) e := by
  have cv := hB.2.2.2.2 v v0 hv
  exact ⟨cv.1, cv.2.1, zt_V_u cv.2.2.1 (by omega)⟩
/-- the branch of v leads where all of v's ends with that letter go -/
theorem zt_nd_iff (hk : k ≤ L) (hB : zt_BV t L k n E l p) (hD : zt_dl t L k n E l p b) {v c : Nat} (hv : v < n) (hc : c < 4) (hb : b (v * 4 + c) ≠ 0) (e : Nat) (he : e < k) : l (b (v * 4 + c)) ≤ zt_V t L (E (b (v * 4 + c))) (e + 1) ↔ t e = c ∧ l v ≤ zt_V t L (E v) e := by
  have hF := zt_F_S (zt_U_Vk t hk)
  obtain ⟨f, hf, f1, f2⟩ := hD.2 v c hv hc hb
  have a := hD.1 v f hv hf f2
  rw [f1] at a
  constructor
  · intro h
    have h1 : l v + 1 ≤ zt_V t L (f + 1) (e + 1) := zt_V_u (by rw [zt_V_c]; exact a.2.2.2.2) (by have := a.2.2.2.1; omega)
    have h2 := (zt_V_suc (by omega) (by omega)).1 h1
    exact ⟨by omega, zt_V_u f2 h2.2⟩
  · rintro ⟨h1, h2⟩
    have h3 := hD.1 v e hv he h2
    rw [h1] at h3
    exact zt_B_same hF hB h3.1 h3.2.1 (by omega) h3.2.2.1 h3.2.2.2.2
theorem zt_nd_z (hk : k ≤ L) (hD : zt_dl t L k n E l p b) {v c : Nat} (hv : v < n) (hb : b (v * 4 + c) = 0) (e : Nat) (he : e < k) (h1 : t e = c) : ¬ l v ≤ zt_V t L (E v) e := by
  intro h
  have := (hD.1 v e hv he h).1
  rw [h1, hb] at this
  omega
end
/-- a new letter, without a twin -/
theorem zt_BV_leaf {t : Nat → Nat} {L k n : Nat} {E l p : Nat → Nat} {r m w : Nat} (hk : k < L) (hB : zt_BV t L k n E l p) (hr : r ≤ k) (hm : zt_V t L (k + 1) r = m) (hmax : ∀ e, e ≤ k → zt_V t L (k + 1) e ≤ m) (hw : w < n) (hl : l w = m) (hM : m ≤ zt_V t L (E w) (k + 1)) : zt_BV t L (k + 1) (n + 1) (zt_up E n (k + 1)) (zt_up l n (k + 1)) (zt_up p n w) := by
  have hU' := zt_U_Vk t (L := L) (k := k + 1) (by omega)
  have hU := zt_U_Vk t (L := L) (k := k) (by omega)
  have hP : ∀ e, e ≤ k + 1 ↔ e ≤ k ∨ e = k + 1 := fun e => by omega
  have kk : zt_V t L (k + 1) (k + 1) = k + 1 := zt_V_s (by omega)
  have pw := (hB.2.1 w hw).1
  have hB' := zt_B_S hB (zt_S1_old hU (zt_F_S hU) hB hw hl hr (zt_V_u hM (by omega)))
  subst hl
  have a := zt_B_leaf (q := k + 1) (w := w) (z := n) (P' := fun e => e ≤ k + 1) (S' := zt_S (zt_V t L) (fun e => e ≤ k + 1)) hU' hP hB' hw (by omega) hM hmax (by have := zt_V_r (t := t) (L := L) (e := k + 1) (f := r) (by omega) (by omega); omega)
    (fun e s he => zt_S_old hU' hP hr hm hmax s he)
    (fun s => zt_S_new hU' hP hr hm hmax pw hM s)
  rw [kk] at a
  refine zt_B_V a (fun u => ?_)
  show u < n ∨ u = n ↔ u < n + 1
  omega
/-- with a twin of x -/
theorem zt_BV_twin {t : Nat → Nat} {L k n : Nat} {E l p : Nat → Nat} {r m x : Nat} (hk : k < L) (hB : zt_BV t L k n E l p) (hr : r ≤ k) (hm : zt_V t L (k + 1) r = m) (hmax : ∀ e, e ≤ k → zt_V t L (k + 1) e ≤ m) (x0 : 0 < x) (hx : x < n) (h1 : l (p x) < m) (h2 : m < l x) (h3 : m ≤ zt_V t L (E x) r) : zt_BV t L (k + 1) (n + 2) (zt_up (zt_up E (n + 1) (E x)) n (k + 1)) (zt_up (zt_up l (n + 1) m) n (k + 1)) (zt_up (zt_up (zt_up p (n + 1) (p x)) x (n + 1)) n (n + 1)) := by
  have hU' := zt_U_Vk t (L := L) (k := k + 1) (by omega)
  have hU := zt_U_Vk t (L := L) (k := k) (by omega)
  have hP : ∀ e, e ≤ k + 1 ↔ e ≤ k ∨ e = k + 1 := fun e => by omega
  have kk : zt_V t L (k + 1) (k + 1) = k + 1 := zt_V_s (by omega)
  have px := (hB.2.1 x hx).1
  have hmx : m ≤ zt_V t L (E x) (k + 1) := zt_V_u h3 (by rw [zt_V_c]; omega)
  have hB1 := zt_B_mid hU (zt_F_S hU) hB x0 hx (y := n + 1) (m := m) (by omega) (by omega) h1 h2
  have hS : ∀ e s, e ≤ k → (zt_S1 (zt_V t L) (zt_S (zt_V t L) (fun e => e ≤ k)) (E x) m e s ↔ zt_S1 (zt_V t L) (zt_S (zt_V t L) (fun e => e ≤ k)) r m e s) := by
    intro e s he
    unfold zt_S1
    refine ⟨fun a => a.imp id (fun b => ⟨b.1, zt_V_u b.2 h3⟩), fun a => a.imp id (fun b => ⟨b.1, zt_V_u b.2 (by rw [zt_V_c]; exact h3)⟩)⟩
  have hB2 := zt_B_S hB1 hS
  have lw : zt_up l (n + 1) m (n + 1) = m := zt_us _ _ _
  have Ew : zt_up E (n + 1) (E x) (n + 1) = E x := zt_us _ _ _
  have a := zt_B_leaf (q := k + 1) (w := n + 1) (z := n) (P' := fun e => e ≤ k + 1) (S' := zt_S (zt_V t L) (fun e => e ≤ k + 1)) hU' hP hB2 (Or.inr rfl) (by omega) (by rw [lw, Ew]; exact hmx) (by rw [lw]; exact hmax) (by rw [lw]; have := zt_V_r (t := t) (L := L) (e := k + 1) (f := r) (by omega) (by omega); omega)
    (fun e s he => zt_S_old hU' hP hr hm hmax s he)
    (fun s => by rw [lw, Ew]; exact zt_S_new hU' hP hr hm hmax px hmx s)
  rw [kk] at a
  refine zt_B_V a (fun u => ?_)
  show (u < n ∨ u = n + 1) ∨ u = n ↔ u < n + 2
  omega
end
section
/-! the branches after a new letter -/
/-- v stands on the way of the beginning k -/
def zt_On (t : Nat → Nat) (L k : Nat) (E l : Nat → Nat) (v : Nat) : Prop := l v ≤ zt_V t L (E v) k
section
variable {t : Nat → Nat} {L k n : Nat} {E l p b b' : Nat → Nat} {e0 m : Nat}
theorem zt_dl_leaf {w : Nat} (hk : k < L) (hB : zt_BV t L k n E l p) (hD : zt_dl t L k n E l p b) (hw : w < n) (hl : l w = m)
    (hr : m = 0 ∨ (e0 < k ∧ t e0 = t k ∧ m = zt_V t L k e0 + 1))
    (b0 : ∀ c, c < 4 → b' (n * 4 + c) = 0)
    (b1 : ∀ u, u < n → zt_On t L k E l u → m ≤ l u → b' (u * 4 + t k) = n)
    (b2 : ∀ u c, u < n → c < 4 → ¬ (c = t k ∧ zt_On t L k E l u ∧ m ≤ l u) → b' (u * 4 + c) = b (u * 4 + c))
    (ht : ∀ i, t i < 4) :
    zt_dl t L (k + 1) (n + 1) (zt_up E n (k + 1)) (zt_up l n (k + 1)) (zt_up p n w) b' := by
  have hA := hB.2.1
  have hC := hB.2.2.2.2
  have ol : ∀ v, v < n → zt_up l n (k + 1) v = l v := fun v hv => zt_un l _ (by omega)
  have oE : ∀ v, v < n → zt_up E n (k + 1) v = E v := fun v hv => zt_un E _ (by omega)
  have op : ∀ v, v < n → zt_up p n w v = p v := fun v hv => zt_un p _ (by omega)
  have nl : zt_up l n (k + 1) n = k + 1 := zt_us _ _ _
  have nE : zt_up E n (k + 1) n = k + 1 := zt_us _ _ _
  have np : zt_up p n w n = w := zt_us _ _ _
  have tr : ∀ x e s, zt_nd t L n E l p x e s → zt_nd t L (n + 1) (zt_up E n (k + 1)) (zt_up l n (k + 1)) (zt_up p n w) x e s := by
    rintro x e s ⟨a1, a2, a3, a4, a5⟩
    have := (hC x a1 a2).1
    exact ⟨a1, by omega, by rw [op x a2, ol _ this]; exact a3, by rw [ol x a2]; exact a4, by rw [oE x a2]; exact a5⟩
  constructor
  · intro v e hv he hle
    by_cases ev : v = n
    · subst ev
      rw [nl, nE] at hle
      have := zt_V_r (t := t) (L := L) (e := k + 1) (f := e) (by omega) (by omega)
      omega
    · have hv' : v < n := by omega
      have vL : E v ≤ k := (hA v hv').1
      rw [ol v hv', oE v hv'] at hle
      rw [ol v hv']
      by_cases ca : t e = t k ∧ zt_On t L k E l v ∧ m ≤ l v
      · obtain ⟨c1, c2, c3⟩ := ca
        rw [c1, b1 v hv' c2 c3]
        have lk : l v ≤ k := Nat.le_trans c2 (zt_V_r (by omega) (by omega))
        refine ⟨by have := hB.1.1; omega, by omega, by rw [np, ol w hw, hl]; omega, by rw [nl]; omega, ?_⟩
        rw [nE]
        refine (zt_V_suc hk (by omega)).2 ⟨c1.symm, ?_⟩
        exact zt_V_u (by rw [zt_V_c]; exact c2) hle
      · rw [b2 v (t e) hv' (ht e) ca]
        by_cases ek : e = k
        · subst ek
          have on : zt_On t L e E l v := hle
          have lt : l v < m := by
            refine Classical.byContradiction fun cn => ca ⟨rfl, on, by omega⟩
          rcases hr with z | ⟨q1, q2, q3⟩
          · omega
          · have h1 : l v ≤ zt_V t L (E v) e0 := zt_V_u on (by omega)
            have h2 := hD.1 v e0 hv' q1 h1
            rw [q2] at h2
            refine tr _ _ _ (zt_nd_e h2 ?_)
            refine (zt_V_suc (by omega) hk).2 ⟨q2, ?_⟩
            rw [zt_V_c]; omega
        · exact tr _ _ _ (hD.1 v e hv' (by omega) hle)
  · intro v c hv hc hb
    by_cases ev : v = n
    · subst ev; exact absurd (b0 c hc) hb
    · have hv' : v < n := by omega
      rw [ol v hv', oE v hv']
      by_cases ca : c = t k ∧ zt_On t L k E l v ∧ m ≤ l v
      · exact ⟨k, by omega, ca.1.symm, ca.2.1⟩
      · rw [b2 v c hv' hc ca] at hb
        obtain ⟨e, h1, h2, h3⟩ := hD.2 v c hv' hc hb
        exact ⟨e, by omega, h2, h3⟩
theorem zt_dl_twin {x : Nat} (hk : k < L) (hB : zt_BV t L k n E l p) (hD : zt_dl t L k n E l p b)
    (hB' : zt_BV t L (k + 1) (n + 2) (zt_up (zt_up E (n + 1) (E x)) n (k + 1)) (zt_up (zt_up l (n + 1) m) n (k + 1)) (zt_up (zt_up (zt_up p (n + 1) (p x)) x (n + 1)) n (n + 1)))
    (x0 : 0 < x) (hx : x < n) (h1 : l (p x) < m) (h2 : m < l x)
    (q1 : e0 < k) (q2 : t e0 = t k) (q3 : m = zt_V t L k e0 + 1) (hxe : m ≤ zt_V t L (E x) (e0 + 1))
    (b0 : ∀ c, c < 4 → b' (n * 4 + c) = 0)
    (b1 : ∀ u, u < n → zt_On t L k E l u → m ≤ l u → b' (u * 4 + t k) = n)
    (bt : ∀ u, u < n → zt_On t L k E l u → l u < m → b (u * 4 + t k) = x → b' (u * 4 + t k) = n + 1)
    (b2 : ∀ u c, u < n → c < 4 → ¬ (c = t k ∧ zt_On t L k E l u ∧ (m ≤ l u ∨ b (u * 4 + c) = x)) → b' (u * 4 + c) = b (u * 4 + c))
    (b3 : ∀ c, c < 4 → b' ((n + 1) * 4 + c) = b' (x * 4 + c))
    (ht : ∀ i, t i < 4) :
    zt_dl t L (k + 1) (n + 2) (zt_up (zt_up E (n + 1) (E x)) n (k + 1)) (zt_up (zt_up l (n + 1) m) n (k + 1)) (zt_up (zt_up (zt_up p (n + 1) (p x)) x (n + 1)) n (n + 1)) b' := by
  have hU := zt_U_Vk t (L := L) (k := k) (by omega)
  have hF := zt_F_S hU
  have hU' := zt_U_Vk t (L := L) (k := k + 1) (by omega)
  have hF' := zt_F_S hU'
  have hA := hB.2.1
  have hC := hB.2.2.2.2
  have same := fun e s he ha hb => zt_B_same (u := x) (e := e) (s := s) hF hB x0 hx he ha hb
  generalize hE' : zt_up (zt_up E (n + 1) (E x)) n (k + 1) = E' at *
  generalize hl' : zt_up (zt_up l (n + 1) m) n (k + 1) = l' at *
  generalize hp' : zt_up (zt_up (zt_up p (n + 1) (p x)) x (n + 1)) n (n + 1) = p' at *
  have ol : ∀ v, v < n → l' v = l v := fun v hv => by rw [← hl', zt_un _ _ (by omega), zt_un _ _ (by omega)]
  have oE : ∀ v, v < n → E' v = E v := fun v hv => by rw [← hE', zt_un _ _ (by omega), zt_un _ _ (by omega)]
  have op : ∀ v, v < n → v ≠ x → p' v = p v := fun v hv hne => by rw [← hp', zt_un _ _ (by omega), zt_un _ _ hne, zt_un _ _ (by omega)]
  have px : p' x = n + 1 := by rw [← hp', zt_un _ _ (by omega), zt_us]
  have pn : p' n = n + 1 := by rw [← hp', zt_us]
  have pt : p' (n + 1) = p x := by rw [← hp', zt_un _ _ (by omega), zt_un _ _ (by omega), zt_us]
  have nl : l' n = k + 1 := by rw [← hl', zt_us]
  have nE : E' n = k + 1 := by rw [← hE', zt_us]
  have tl : l' (n + 1) = m := by rw [← hl', zt_un _ _ (by omega), zt_us]
  have tE : E' (n + 1) = E x := by rw [← hE', zt_un _ _ (by omega), zt_us]
  have cx := hC x x0 hx
  -- old states in the new tree
  have tr : ∀ y e s, zt_nd t L n E l p y e s → (y ≠ x ∨ m < s) → zt_nd t L (n + 2) E' l' p' y e s := by
    rintro y e s ⟨a1, a2, a3, a4, a5⟩ hne
    have := (hC y a1 a2).1
    by_cases yx : y = x
    · subst yx
      exact ⟨a1, by omega, by rw [px, tl]; omega, by rw [ol y a2]; exact a4, by rw [oE y a2]; exact a5⟩
    · exact ⟨a1, by omega, by rw [op y a2 yx, ol _ this]; exact a3, by rw [ol y a2]; exact a4, by rw [oE y a2]; exact a5⟩
  have t0 : ∀ v, v < n → zt_On t L k E l v → l v < m → l v ≤ zt_V t L (E v) e0 := fun v hv on lt => zt_V_u on (by omega)
  have ek1 : m ≤ zt_V t L (e0 + 1) (k + 1) := by
    have : (m - 1) + 1 ≤ zt_V t L (e0 + 1) (k + 1) := (zt_V_suc (by omega) hk).2 ⟨q2, by rw [zt_V_c]; omega⟩
    omega
  have d1 : ∀ v e, v < n → e < k + 1 → l v ≤ zt_V t L (E v) e → zt_nd t L (n + 2) E' l' p' (b' (v * 4 + t e)) (e + 1) (l v + 1) := by
    intro v e hv he hle
    have vL : E v ≤ k := (hA v hv).1
    by_cases ca : t e = t k ∧ zt_On t L k E l v ∧ m ≤ l v
    · obtain ⟨c1, c2, c3⟩ := ca
      rw [c1, b1 v hv c2 c3]
      have lk : l v ≤ k := Nat.le_trans c2 (zt_V_r (by omega) (by omega))
      refine ⟨by omega, by omega, by rw [pn, tl]; omega, by rw [nl]; omega, ?_⟩
      rw [nE]
      refine (zt_V_suc hk (by omega)).2 ⟨c1.symm, ?_⟩
      exact zt_V_u (by rw [zt_V_c]; exact c2) hle
    · by_cases cb : t e = t k ∧ zt_On t L k E l v ∧ b (v * 4 + t k) = x
      · obtain ⟨c1, c2, c3⟩ := cb
        have lt : l v < m := Classical.byContradiction fun cn => ca ⟨c1, c2, by omega⟩
        rw [c1, bt v hv c2 lt c3]
        have f1 := t0 v hv c2 lt
        have f2 := hD.1 v e0 hv q1 f1
        rw [q2, c3] at f2
        refine ⟨by omega, by omega, ?_, by rw [tl]; omega, ?_⟩
        · rw [pt, ol _ cx.1]; exact f2.2.2.1
        · rw [tE]
          refine zt_V_u f2.2.2.2.2 ((zt_V_suc (by omega) (by omega)).2 ⟨by omega, ?_⟩)
          exact zt_V_u (by rw [zt_V_c]; exact f1) hle
      · have eb : b' (v * 4 + t e) = b (v * 4 + t e) := by
          refine b2 v (t e) hv (ht e) fun cn => ?_
          rcases cn.2.2 with c | c
          · exact ca ⟨cn.1, cn.2.1, c⟩
          · rw [cn.1] at c
            exact cb ⟨cn.1, cn.2.1, c⟩
        rw [eb]
        by_cases ek : e = k
        · subst ek
          have on : zt_On t L e E l v := hle
          have lt : l v < m := Classical.byContradiction fun cn => ca ⟨rfl, on, by omega⟩
          have f2 := hD.1 v e0 hv q1 (t0 v hv on lt)
          rw [q2] at f2
          refine tr _ _ _ (zt_nd_e f2 (by omega)) (Or.inl fun c => cb ⟨rfl, on, c⟩)
        · have f2 := hD.1 v e hv (by omega) hle
          refine tr _ _ _ f2 ?_
          by_cases yx : b (v * 4 + t e) = x
          · right
            refine Classical.byContradiction fun cn => ?_
            rw [yx] at f2
            have g1 : l v + 1 ≤ zt_V t L (e + 1) (e0 + 1) := zt_V_u (by rw [zt_V_c]; exact f2.2.2.2.2) (by omega)
            have g2 := (zt_V_suc (by omega) (by omega)).1 g1
            have g3 : l v ≤ zt_V t L e0 k := by rw [zt_V_c]; omega
            have on : zt_On t L k E l v := zt_V_u hle (zt_V_u g2.2 g3)
            have te : t e = t k := g2.1.trans q2
            rw [te] at yx
            exact cb ⟨te, on, yx⟩
          · exact Or.inl yx
  have d2 : ∀ v c, v < n → c < 4 → b' (v * 4 + c) ≠ 0 → ∃ e, e < k + 1 ∧ t e = c ∧ l v ≤ zt_V t L (E v) e := by
    intro v c hv hc hb
    by_cases ca : c = t k ∧ zt_On t L k E l v ∧ (m ≤ l v ∨ b (v * 4 + c) = x)
    · exact ⟨k, by omega, ca.1.symm, ca.2.1⟩
    · rw [b2 v c hv hc ca] at hb
      obtain ⟨e, a1, a2, a3⟩ := hD.2 v c hv hc hb
      exact ⟨e, by omega, a2, a3⟩
  constructor
  · intro v e hv he hle
    by_cases ev : v = n
    · subst ev
      rw [nl, nE] at hle
      have := zt_V_r (t := t) (L := L) (e := k + 1) (f := e) (by omega) (by omega)
      omega
    · by_cases et : v = n + 1
      · subst et
        rw [tl, tE] at hle
        rw [tl, b3 _ (ht e)]
        have sx := same e m (by omega) h1 hle
        obtain ⟨y0, y1, y2, y3, y4⟩ := d1 x e hx he sx
        generalize b' (x * 4 + t e) = y at *
        refine ⟨y0, y1, ?_, by omega, by omega⟩
        refine Classical.byContradiction fun cn => ?_
        have cy := hB'.2.2.2.2 y y0 y1
        have sp := hB'.2.1 _ cy.1
        have yE := (hB'.2.1 y y1).1
        have s1 : zt_S (zt_V t L) (fun e => e ≤ k + 1) (e + 1) (l' (p' y)) := by
          refine hF'.1 _ (e + 1) _ sp.1 (by omega) sp.2.2 ?_
          exact zt_V_u cy.2.2.1 (by omega)
        obtain ⟨z, hz, ez⟩ := s1
        have hz' : z ≤ k + 1 := hz
        have zr := zt_V_r (t := t) (L := L) (e := e + 1) (f := z) (by omega) (by omega)
        obtain ⟨z', rfl⟩ : ∃ z', z = z' + 1 := ⟨z - 1, by omega⟩
        have z1 := (zt_V_suc (t := t) (L := L) (e := e) (f := z') (s := l' (p' y) - 1) (by omega) (by omega)).1 (by omega)
        have z2 : zt_V t L e z' = l' (p' y) - 1 := by
          refine Nat.le_antisymm ?_ z1.2
          refine Classical.byContradiction fun c2 => ?_
          have := (zt_V_suc (t := t) (L := L) (e := e) (f := z') (s := l' (p' y)) (by omega) (by omega)).2 ⟨z1.1, by omega⟩
          omega
        have s2 : zt_S (zt_V t L) (fun e => e ≤ k) (E x) (l' (p' y) - 1) := by
          refine hF.1 e (E x) _ (by omega) (hA x hx).1 ⟨z', by omega, z2⟩ ?_
          rw [zt_V_c]; omega
        have := cx.2.2.2 _ s2 (by omega)
        omega
      · have hv' : v < n := by omega
        rw [ol v hv', oE v hv'] at hle
        rw [ol v hv']
        exact d1 v e hv' he hle
  · intro v c hv hc hb
    by_cases ev : v = n
    · subst ev; exact absurd (b0 c hc) hb
    · by_cases et : v = n + 1
      · subst et
        rw [b3 c hc] at hb
        obtain ⟨e, a1, a2, a3⟩ := d2 x c hx hc hb
        rw [tl, tE]
        exact ⟨e, a1, a2, by omega⟩
      · have hv' : v < n := by omega
        rw [ol v hv', oE v hv']
        exact d2 v c hv' hc hb
end
end
section
/-! the automaton with k letters read; en v = i + 1 where v is the state of the first i + 1 letters, 0 else -/
def zt_en (t : Nat → Nat) (L k n : Nat) (E l en : Nat → Nat) : Prop := ∀ v i, v < n → (en v = i + 1 ↔ (i < k ∧ l v = i + 1 ∧ i + 1 ≤ zt_V t L (E v) (i + 1)))
def zt_sv (t : Nat → Nat) (L k : Nat) : Nat := zt_s (fun e => e + 1 - zt_m (fun f => zt_V t L (e + 1) f) (e + 1)) k
def zt_M (t : Nat → Nat) (L k n : Nat) (E l p b en : Nat → Nat) (la : Nat) : Prop :=
  zt_BV t L k n E l p ∧ zt_dl t L k n E l p b ∧ zt_en t L k n E l en ∧ zt_s (fun v => l v - l (p v)) n = zt_sv t L k ∧ (la < n ∧ l la = k ∧ E la = k) ∧ k + 1 ≤ n ∧ n ≤ 2 * k + 1
section
variable {t : Nat → Nat} {L k n : Nat} {E l p b en b' en' : Nat → Nat} {la : Nat}
theorem zt_sv_1 {r m : Nat} (hk : k < L) (hr : r ≤ k) (hm : zt_V t L (k + 1) r = m) (hmax : ∀ e, e ≤ k → zt_V t L (k + 1) e ≤ m) : zt_sv t L (k + 1) = zt_sv t L k + (k + 1 - m) := by
  unfold zt_sv
  rw [zt_s1]
  have : zt_m (fun f => zt_V t L (k + 1) f) (k + 1) = m := by
    refine Nat.le_antisymm (zt_m_le fun j hj => hmax j (by omega)) ?_
    have := zt_m_ge (f := fun f => zt_V t L (k + 1) f) (n := k + 1) (i := r) (by omega)
    rw [← hm]; exact this
  rw [this]
theorem zt_M_leaf {r m w : Nat} (hk : k < L) (h : zt_M t L k n E l p b en la) (hr : r ≤ k) (hm : zt_V t L (k + 1) r = m) (hmax : ∀ e, e ≤ k → zt_V t L (k + 1) e ≤ m) (hw : w < n) (hl : l w = m) (hM : m ≤ zt_V t L (E w) (k + 1))
    (hr0 : m = 0 ∨ ∃ e0, e0 < k ∧ t e0 = t k ∧ m = zt_V t L k e0 + 1)
    (b0 : ∀ c, c < 4 → b' (n * 4 + c) = 0)
    (b1 : ∀ u, u < n → zt_On t L k E l u → m ≤ l u → b' (u * 4 + t k) = n)
    (b2 : ∀ u c, u < n → c < 4 → ¬ (c = t k ∧ zt_On t L k E l u ∧ m ≤ l u) → b' (u * 4 + c) = b (u * 4 + c))
    (ht : ∀ i, t i < 4) (n0 : en' n = k + 1) (n1 : ∀ u, u < n → en' u = en u) :
    zt_M t L (k + 1) (n + 1) (zt_up E n (k + 1)) (zt_up l n (k + 1)) (zt_up p n w) b' en' n := by
  obtain ⟨hB, hD, hN, hs, hla, hn1, hn2⟩ := h
  have hp : ∀ u, 0 < u → u < n → p u < n := fun u u0 hu => (hB.2.2.2.2 u u0 hu).1
  have kk : zt_V t L (k + 1) (k + 1) = k + 1 := zt_V_s (by omega)
  refine ⟨zt_BV_leaf hk hB hr hm hmax hw hl hM, ?_, fun u i hu => ?_, ?_, ⟨by omega, zt_us _ _ _, zt_us _ _ _⟩, by omega, by omega⟩
  · rcases hr0 with z | ⟨e0, q⟩
    · exact zt_dl_leaf (e0 := 0) hk hB hD hw hl (Or.inl z) b0 b1 b2 ht
    · exact zt_dl_leaf (e0 := e0) hk hB hD hw hl (Or.inr q) b0 b1 b2 ht
  · by_cases e : u = n
    · subst e
      rw [n0, zt_us, zt_us]
      refine ⟨fun h => ?_, fun ⟨i1, i2, i3⟩ => by omega⟩
      have : i = k := by omega
      subst this
      exact ⟨by omega, rfl, by rw [kk]; omega⟩
    · rw [n1 u (by omega), zt_un l _ e, zt_un E _ e, hN u i (by omega)]
      refine ⟨fun ⟨i1, i2, i3⟩ => ⟨by omega, i2, i3⟩, fun ⟨i1, i2, i3⟩ => ⟨?_, i2, i3⟩⟩
      refine Classical.byContradiction fun cn => ?_
      have pu : E u ≤ k := (hB.2.1 u (by omega)).1
      have := zt_V_l (t := t) (L := L) (e := E u) (f := i + 1) (by omega) (by omega)
      omega
  · rw [zt_sm_leaf hB.1.2 hp hw, hs, zt_sv_1 hk hr hm hmax, hl]
theorem zt_M_twin {x e0 m : Nat} (hk : k < L) (h : zt_M t L k n E l p b en la) (hmax : ∀ e, e ≤ k → zt_V t L (k + 1) e ≤ m)
    (x0 : 0 < x) (hx : x < n) (h1 : l (p x) < m) (h2 : m < l x)
    (q1 : e0 < k) (q2 : t e0 = t k) (q3 : m = zt_V t L k e0 + 1) (hxe : m ≤ zt_V t L (E x) (e0 + 1))
    (b0 : ∀ c, c < 4 → b' (n * 4 + c) = 0)
    (b1 : ∀ u, u < n → zt_On t L k E l u → m ≤ l u → b' (u * 4 + t k) = n)
    (bt : ∀ u, u < n → zt_On t L k E l u → l u < m → b (u * 4 + t k) = x → b' (u * 4 + t k) = n + 1)
    (b2 : ∀ u c, u < n → c < 4 → ¬ (c = t k ∧ zt_On t L k E l u ∧ (m ≤ l u ∨ b (u * 4 + c) = x)) → b' (u * 4 + c) = b (u * 4 + c))
    (b3 : ∀ c, c < 4 → b' ((n + 1) * 4 + c) = b' (x * 4 + c))
    (ht : ∀ i, t i < 4) (n0 : en' n = k + 1) (n2 : en' (n + 1) = 0) (n1 : ∀ u, u < n → en' u = en u) :
    zt_M t L (k + 1) (n + 2) (zt_up (zt_up E (n + 1) (E x)) n (k + 1)) (zt_up (zt_up l (n + 1) m) n (k + 1)) (zt_up (zt_up (zt_up p (n + 1) (p x)) x (n + 1)) n (n + 1)) b' en' n := by
  obtain ⟨hB, hD, hN, hs, hla, hn1, hn2⟩ := h
  have hU := zt_U_Vk t (L := L) (k := k) (by omega)
  have hF := zt_F_S hU
  have hp : ∀ u, 0 < u → u < n → p u < n := fun u u0 hu => (hB.2.2.2.2 u u0 hu).1
  have kk : zt_V t L (k + 1) (k + 1) = k + 1 := zt_V_s (by omega)
  have ek1 : zt_V t L (k + 1) (e0 + 1) = m := by
    refine Nat.le_antisymm (hmax _ (by omega)) ?_
    have : (m - 1) + 1 ≤ zt_V t L (k + 1) (e0 + 1) := (zt_V_suc hk (by omega)).2 ⟨q2.symm, by omega⟩
    omega
  have hB' := zt_BV_twin hk hB (r := e0 + 1) (by omega) ek1 hmax x0 hx h1 h2 hxe
  refine ⟨hB', zt_dl_twin hk hB hD hB' x0 hx h1 h2 q1 q2 q3 hxe b0 b1 bt b2 b3 ht, fun u i hu => ?_, ?_, ⟨by omega, zt_us _ _ _, zt_us _ _ _⟩, by omega, by omega⟩
  · by_cases e : u = n
    · subst e
      rw [n0, zt_us, zt_us]
      refine ⟨fun h => ?_, fun ⟨i1, i2, i3⟩ => by omega⟩
      have : i = k := by omega
      subst this
      exact ⟨by omega, rfl, by rw [kk]; omega⟩
    · by_cases e2 : u = n + 1
      · subst e2
        rw [n2, zt_un _ _ e, zt_un _ _ e, zt_us, zt_us]
        refine ⟨fun h => by omega, fun ⟨i1, i2, i3⟩ => ?_⟩
        exfalso
        have pxL : E x ≤ k := (hB.2.1 x hx).1
        have i4 := zt_V_l (t := t) (L := L) (e := E x) (f := i + 1) (by omega) (by omega)
        have f1 : zt_S (zt_V t L) (fun e => e ≤ k) (i + 1) (i + 1) := ⟨i + 1, by omega, zt_V_s (by omega)⟩
        have f2 := hF.1 (i + 1) (E x) _ (by omega) (hB.2.1 x hx).1 f1 (by rw [zt_V_c]; exact i3)
        have := (hB.2.2.2.2 x x0 hx).2.2.2 _ f2 (by omega)
        omega
      · rw [n1 u (by omega), zt_un _ _ e, zt_un _ _ e, zt_un _ _ e2, zt_un _ _ e2, hN u i (by omega)]
        refine ⟨fun ⟨i1, i2, i3⟩ => ⟨by omega, i2, i3⟩, fun ⟨i1, i2, i3⟩ => ⟨?_, i2, i3⟩⟩
        refine Classical.byContradiction fun cn => ?_
        have pu : E u ≤ k := (hB.2.1 u (by omega)).1
        have := zt_V_l (t := t) (L := L) (e := E u) (f := i + 1) (by omega) (by omega)
        omega
  · have px := hp x x0 hx
    rw [zt_sv_1 hk (r := e0 + 1) (by omega) ek1 hmax, ← hs]
    rw [zt_s1, zt_s1]
    have e1 : zt_up (zt_up (zt_up p (n + 1) (p x)) x (n + 1)) n (n + 1) n = n + 1 := zt_us _ _ _
    have e2 : zt_up (zt_up (zt_up p (n + 1) (p x)) x (n + 1)) n (n + 1) (n + 1) = p x := by rw [zt_un _ _ (by omega), zt_un _ _ (by omega), zt_us]
    have l1 : zt_up (zt_up l (n + 1) m) n (k + 1) n = k + 1 := zt_us _ _ _
    have l2 : zt_up (zt_up l (n + 1) m) n (k + 1) (n + 1) = m := by rw [zt_un _ _ (by omega), zt_us]
    have l3 : ∀ v, v < n → zt_up (zt_up l (n + 1) m) n (k + 1) v = l v := fun v hv => by rw [zt_un _ _ (by omega), zt_un _ _ (by omega)]
    have key := zt_s_d (f := fun v => l v - l (p v)) (f' := fun v => zt_up (zt_up l (n + 1) m) n (k + 1) v - zt_up (zt_up l (n + 1) m) n (k + 1) (zt_up (zt_up (zt_up p (n + 1) (p x)) x (n + 1)) n (n + 1) v)) (n := n) (x := x) (d := m - l (p x)) hx
      (fun v hv hne => by
        show zt_up (zt_up l (n + 1) m) n (k + 1) v - zt_up (zt_up l (n + 1) m) n (k + 1) (zt_up (zt_up (zt_up p (n + 1) (p x)) x (n + 1)) n (n + 1) v) = l v - l (p v)
        have e3 : zt_up (zt_up (zt_up p (n + 1) (p x)) x (n + 1)) n (n + 1) v = p v := by rw [zt_un _ _ (by omega), zt_un _ _ hne, zt_un _ _ (by omega)]
        rw [e3, l3 v hv]
        by_cases z : v = 0
        · subst z
          have := hB.1.2
          omega
        · rw [l3 _ (hp v (by omega) hv)])
      (by
        show zt_up (zt_up l (n + 1) m) n (k + 1) x - zt_up (zt_up l (n + 1) m) n (k + 1) (zt_up (zt_up (zt_up p (n + 1) (p x)) x (n + 1)) n (n + 1) x) + (m - l (p x)) = l x - l (p x)
        have e3 : zt_up (zt_up (zt_up p (n + 1) (p x)) x (n + 1)) n (n + 1) x = n + 1 := by rw [zt_un _ _ (by omega), zt_us]
        rw [e3, l2, l3 x hx]
        omega)
    show zt_s _ n + (zt_up (zt_up l (n + 1) m) n (k + 1) n - zt_up (zt_up l (n + 1) m) n (k + 1) (zt_up (zt_up (zt_up p (n + 1) (p x)) x (n + 1)) n (n + 1) n)) + (zt_up (zt_up l (n + 1) m) n (k + 1) (n + 1) - zt_up (zt_up l (n + 1) m) n (k + 1) (zt_up (zt_up (zt_up p (n + 1) (p x)) x (n + 1)) n (n + 1) (n + 1))) = _
    rw [e1, e2, l1, l2, l3 _ px, ← key]
    omega
end
theorem zt_M_0 {t : Nat → Nat} {L : Nat} {E l p b en : Nat → Nat} (hE : E 0 = 0) (hl : l 0 = 0) (hb : ∀ c, c < 4 → b (0 * 4 + c) = 0) (hn : en 0 = 0) : zt_M t L 0 1 E l p b en 0 := by
  have V0 : zt_V t L 0 0 = 0 := by
    have := zt_V_l (t := t) (L := L) (e := 0) (f := 0) (by omega) (by omega)
    omega
  refine ⟨⟨⟨by omega, hl⟩, fun v hv => ?_, fun e s he hs => ?_, fun v w hv hw _ _ => ?_, fun v v0 hv => ?_⟩, ⟨fun v e _ he _ => by omega, fun v c hv hc hne => ?_⟩, fun v i hv => ?_, ?_, ⟨by omega, hl, hE⟩, by omega, by omega⟩
  · have h1 : v < 1 := hv
    have e : v = 0 := by omega
    subst e
    rw [hE, hl]
    exact ⟨Nat.le_refl _, by omega, 0, Nat.le_refl _, V0⟩
  · obtain ⟨x, hx, e1⟩ := hs
    have h1 : e ≤ 0 := he
    have h2 : x ≤ 0 := hx
    have h3 : e = 0 := by omega
    have h4 : x = 0 := by omega
    subst h3; subst h4
    exact ⟨0, by show 0 < 1; omega, by omega, by omega⟩
  · have h1 : v < 1 := hv
    have h2 : w < 1 := hw
    omega
  · have h1 : v < 1 := hv
    omega
  · have e : v = 0 := by omega
    subst e
    exact absurd (hb c hc) hne
  · have e : v = 0 := by omega
    subst e
    rw [hn]
    exact ⟨fun h => by omega, fun h => by omega⟩
  · rw [zt_s1, zt_s0, hl]
    show 0 + (0 - l (p 0)) = zt_sv t L 0
    unfold zt_sv
    rw [zt_s0]; omega
/-- the sum of the edges is the number of pieces -/
theorem zt_sv_D {t g : Nat → Nat} {L : Nat} (hg : ∀ i, i < L → g i = t i + 1) : zt_sv t L L = zt_D g L (fun i => i) := by
  have row : ∀ e, e < L → e + 1 - zt_m (fun f => zt_V t L (e + 1) f) (e + 1) = zt_c (fun s => s + 1 ≤ e + 1 ∧ ∀ f, f < e + 1 → zt_V t L (e + 1) f < s + 1) L := by
    intro e he
    have hm : zt_m (fun f => zt_V t L (e + 1) f) (e + 1) ≤ e := zt_m_le fun f hf => by
      have := zt_V_r (t := t) (L := L) (e := e + 1) (f := f) (by omega) (by omega)
      show zt_V t L (e + 1) f ≤ e
      omega
    have cut : zt_c (fun s => s + 1 ≤ e + 1 ∧ ∀ f, f < e + 1 → zt_V t L (e + 1) f < s + 1) L = zt_c (fun s => s + 1 ≤ e + 1 ∧ ∀ f, f < e + 1 → zt_V t L (e + 1) f < s + 1) (e + 1) := by
      have key : ∀ d, e + 1 + d ≤ L → zt_c (fun s => s + 1 ≤ e + 1 ∧ ∀ f, f < e + 1 → zt_V t L (e + 1) f < s + 1) (e + 1 + d) = zt_c (fun s => s + 1 ≤ e + 1 ∧ ∀ f, f < e + 1 → zt_V t L (e + 1) f < s + 1) (e + 1) := by
        intro d
        induction d with
        | zero => intro _; rfl
        | succ d ih =>
          intro hd
          have e1 : e + 1 + (d + 1) = (e + 1 + d) + 1 := by omega
          rw [e1, zt_cf (p := fun s => s + 1 ≤ e + 1 ∧ ∀ f, f < e + 1 → zt_V t L (e + 1) f < s + 1) (n := e + 1 + d) (fun hq => by have := hq.1; omega), ih (by omega)]
      have := key (L - (e + 1)) (by omega)
      have e2 : e + 1 + (L - (e + 1)) = L := by omega
      rw [e2] at this
      exact this
    rw [cut]
    symm
    refine zt_c_gt (e + 1) _ _ (fun s hs => ⟨fun hq => ?_, fun hq => ⟨by omega, fun f hf => ?_⟩⟩) (by omega)
    · rcases zt_m_is (fun f => zt_V t L (e + 1) f) (e + 1) with z | ⟨f, hf, z⟩
      · omega
      · have := hq.2 f hf
        rw [← z]; exact this
    · have := zt_m_ge (f := fun f => zt_V t L (e + 1) f) hf
      have this' : zt_V t L (e + 1) f ≤ zt_m (fun f => zt_V t L (e + 1) f) (e + 1) := this
      omega
  unfold zt_sv
  rw [zt_sc L row, zt_dc (fun e s => s + 1 ≤ e + 1 ∧ ∀ f, f < e + 1 → zt_V t L (e + 1) f < s + 1), zt_D_s]
  refine zt_sc L fun s hs => ?_
  refine zt_bij (fun e => e - s) L L (fun e he hq => ?_) (fun a c ha hc qa qc ee => ?_) (fun i hi hq => ?_)
  · show e - s < L ∧ zt_Q g L (fun i => i) (e - s) s
    refine ⟨by omega, by have := hq.1; omega, fun j hj hr => ?_⟩
    have hr' : j < e - s := hr
    refine Classical.byContradiction fun cn => ?_
    have q2 := hq.2 (j + (s + 1)) (by omega)
    have q3 := (zt_V_N (t := t) hg (e := e + 1) (f := j + (s + 1)) (s := s + 1) (by omega) (by omega) (by omega) (by omega)).2 (by
      have e1 : e + 1 - (s + 1) = e - s := by omega
      have e2 : j + (s + 1) - (s + 1) = j := by omega
      rw [e1, e2, zt_N_c (by omega) (by omega)]
      omega)
    omega
  · have h1 := qa.1
    have h2 := qc.1
    have ee' : a - s = c - s := ee
    omega
  · have h1 := hq.1
    refine ⟨i + s, by omega, ⟨by omega, fun f hf => ?_⟩, by show i + s - s = i; omega⟩
    refine Classical.byContradiction fun cn => ?_
    have fr := zt_V_r (t := t) (L := L) (e := i + s + 1) (f := f) (by omega) (by omega)
    have q3 := (zt_V_N (t := t) hg (e := i + s + 1) (f := f) (s := s + 1) (by omega) (by omega) (by omega) (by omega)).1 (by omega)
    have e1 : i + s + 1 - (s + 1) = i := by omega
    rw [e1] at q3
    have hj : f - (s + 1) < i := by omega
    have := hq.2 (f - (s + 1)) (by omega) hj
    rw [zt_N_c (by omega) (by omega)] at this
    omega
end
section
/-! the whole automaton: its counts, its tails in order -/
theorem zt_c2 {p : Nat → Prop} {n i j : Nat} (hi : i < n) (hj : j < n) (ne : i ≠ j) (pi : p i) (pj : p j) : 2 ≤ zt_c p n := by
  rw [zt_crm n i hi pi]
  have := zt_cge1 (p := fun x => p x ∧ x ≠ i) n j hj ⟨pj, fun e => ne e.symm⟩
  omega
theorem zt_c2' {p : Nat → Prop} {n : Nat} (h : 2 ≤ zt_c p n) : ∃ i j, i < n ∧ j < n ∧ i ≠ j ∧ p i ∧ p j := by
  obtain ⟨i, hi, pi⟩ := zt_cpos n (by omega : 0 < zt_c p n)
  rw [zt_crm n i hi pi] at h
  obtain ⟨j, hj, pj, ne⟩ := zt_cpos (p := fun x => p x ∧ x ≠ i) n (by omega)
  exact ⟨i, j, hi, hj, fun e => ne e.symm, pi, pj⟩
/-- at how many places the letters of v end -/
noncomputable def zt_tl (t : Nat → Nat) (L : Nat) (E l : Nat → Nat) (v : Nat) : Nat := zt_c (fun e => l v ≤ zt_V t L (E v) (e + 1)) L
noncomputable def zt_X (t : Nat → Nat) (L : Nat) (E l : Nat → Nat) (v c : Nat) : Nat := zt_c (fun e => l v ≤ zt_V t L (E v) e ∧ t e = c) L
section
variable {t g : Nat → Nat} {L n : Nat} {E l p b en : Nat → Nat} {la : Nat}
theorem zt_en_0 (h : zt_M t L L n E l p b en la) : en 0 = 0 := by
  obtain ⟨hB, hD, hN, hs, hla, hn1, hn2⟩ := h
  refine Classical.byContradiction fun c => ?_
  obtain ⟨i, hi⟩ : ∃ i, en 0 = i + 1 := ⟨en 0 - 1, by omega⟩
  have := (hN 0 i (by omega)).1 hi
  have := hB.1.2
  omega
theorem zt_tl_en (h : zt_M t L L n E l p b en la) (v : Nat) : zt_c (fun f => en f ≠ 0 ∧ l v ≤ zt_V t L (E v) (en f)) n = zt_tl t L E l v := by
  obtain ⟨hB, hD, hN, hs, hla, hn1, hn2⟩ := h
  refine zt_bij (fun f => en f - 1) n L (fun f hf hq => ?_) (fun a c ha hc qa qc ee => ?_) (fun e he hq => ?_)
  · obtain ⟨i, hi⟩ : ∃ i, en f = i + 1 := ⟨en f - 1, by have := hq.1; omega⟩
    have a := (hN f i hf).1 hi
    have q2 := hq.2
    show en f - 1 < L ∧ l v ≤ zt_V t L (E v) (en f - 1 + 1)
    have e1 : en f - 1 + 1 = en f := by omega
    rw [e1]
    exact ⟨by omega, q2⟩
  · have ee' : en a - 1 = en c - 1 := ee
    obtain ⟨i, hi⟩ : ∃ i, en a = i + 1 := ⟨en a - 1, by have := qa.1; omega⟩
    have hc' : en c = i + 1 := by have := qc.1; omega
    have x := (hN a i ha).1 hi
    have y := (hN c i hc).1 hc'
    refine hB.2.2.2.1 a c ha hc (by omega) ?_
    rw [x.2.1]
    exact zt_V_u x.2.2 (by rw [zt_V_c]; exact y.2.2)
  · have e1 : zt_V t L (e + 1) (e + 1) = e + 1 := zt_V_s (by omega)
    obtain ⟨f, hf, f1, f2⟩ := hB.2.2.1 (e + 1) (e + 1) (by show e + 1 ≤ L; omega) ⟨e + 1, by show e + 1 ≤ L; omega, e1⟩
    have := (hN f e hf).2 ⟨he, f1, f2⟩
    refine ⟨f, hf, ⟨by omega, by rw [this]; exact hq⟩, by show en f - 1 = e; omega⟩
theorem zt_M_G (hg : ∀ i, i < L → g i = t i + 1) (h : zt_M t L L n E l p b en la) {m : Nat} (h1 : ∀ v, 0 < v → v < n → 2 ≤ zt_tl t L E l v → l v ≤ m) (h2 : m = 0 ∨ ∃ v, 0 < v ∧ v < n ∧ 2 ≤ zt_tl t L E l v ∧ l v = m) : zt_G g L m := by
  obtain ⟨hB, hD, hN, hs, hla, hn1, hn2⟩ := h
  have key : ∀ i j, i < L → j < L → i ≠ j → zt_N g L i j ≤ m := by
    intro i j hi hj ne
    by_cases s0 : zt_N g L i j = 0
    · omega
    · have ai := zt_N_i (g := g) (L := L) (i := i) (j := j) (by omega) (by omega)
      have aj := zt_N_j (g := g) (L := L) (i := i) (j := j) (by omega) (by omega)
      generalize hsn : zt_N g L i j = s at *
      have vs := (zt_V_N (t := t) hg (e := i + s) (f := j + s) (s := s) ai aj (by omega) (by omega)).2 (by
        have e1 : i + s - s = i := by omega
        have e2 : j + s - s = j := by omega
        rw [e1, e2]; omega)
      obtain ⟨v, hv, e1, e2⟩ := hB.2.2.1 (i + s) (zt_V t L (i + s) (j + s)) ai ⟨j + s, aj, rfl⟩
      have v0 : 0 < v := by
        refine Nat.pos_of_ne_zero fun z => ?_
        subst z
        have := hB.1.2
        omega
      have e3 : l v ≤ zt_V t L (E v) (j + s) := by rw [e1]; exact zt_V_u e2 (Nat.le_refl _)
      have c2 : 2 ≤ zt_tl t L E l v := by
        refine zt_c2 (i := i + s - 1) (j := j + s - 1) (by omega) (by omega) (by omega) ?_ ?_
        · have e4 : i + s - 1 + 1 = i + s := by omega
          show l v ≤ zt_V t L (E v) (i + s - 1 + 1)
          rw [e4]; omega
        · have e4 : j + s - 1 + 1 = j + s := by omega
          show l v ≤ zt_V t L (E v) (j + s - 1 + 1)
          rw [e4]; exact e3
      have := h1 v v0 hv c2
      omega
  refine ⟨key, ?_⟩
  by_cases m0 : m = 0
  · exact Or.inl m0
  · rcases h2 with z | ⟨v, v0, hv, c2, e⟩
    · exact Or.inl z
    · right
      obtain ⟨x, y, hx, hy, ne, px, py⟩ := zt_c2' c2
      have vs : m ≤ zt_V t L (x + 1) (y + 1) := zt_V_u (by rw [zt_V_c]; omega) (by omega : m ≤ zt_V t L (E v) (y + 1))
      have l1 := zt_V_l (t := t) (L := L) (e := x + 1) (f := y + 1) (by omega) (by omega)
      have l2 := zt_V_r (t := t) (L := L) (e := x + 1) (f := y + 1) (by omega) (by omega)
      have vn := (zt_V_N (t := t) hg (e := x + 1) (f := y + 1) (s := m) (by omega) (by omega) (by omega) (by omega)).1 vs
      refine ⟨x + 1 - m, y + 1 - m, by omega, by omega, by omega, ?_⟩
      have := key (x + 1 - m) (y + 1 - m) (by omega) (by omega) (by omega)
      omega
theorem zt_X_b (h : zt_M t L L n E l p b en la) {v c : Nat} (hv : v < n) (hc : c < 4) : zt_X t L E l v c = if b (v * 4 + c) = 0 then 0 else zt_tl t L E l (b (v * 4 + c)) := by
  obtain ⟨hB, hD, hN, hs, hla, hn1, hn2⟩ := h
  split
  · rename_i hb
    exact zt_cz L fun e he a => zt_nd_z (Nat.le_refl _) hD hv hb e he a.2 a.1
  · rename_i hb
    exact zt_cc L fun e he => ⟨fun a => (zt_nd_iff (Nat.le_refl _) hB hD hv hc hb e he).2 ⟨a.2, a.1⟩, fun a => by
      have := (zt_nd_iff (Nat.le_refl _) hB hD hv hc hb e he).1 a
      exact ⟨this.2, this.1⟩⟩
/-- v is where the s letters from i on lead -/
def zt_at (t : Nat → Nat) (L : Nat) (E l : Nat → Nat) (v s i : Nat) : Prop := ∀ e, e ≤ L → (l v ≤ zt_V t L (E v) e ↔ s ≤ zt_V t L (i + s) e)
theorem zt_at_0 (h : zt_M t L L n E l p b en la) (i : Nat) : zt_at t L E l 0 0 i := fun e _ => by
  have := h.1.1.2
  rw [this]
  exact ⟨fun _ => Nat.zero_le _, fun _ => Nat.zero_le _⟩
theorem zt_at_1 (ht : ∀ i, t i < 4) (h : zt_M t L L n E l p b en la) {v s i : Nat} (hv : v < n) (hi : i + s < L) (ha : zt_at t L E l v s i) : 0 < b (v * 4 + t (i + s)) ∧ b (v * 4 + t (i + s)) < n ∧ zt_at t L E l (b (v * 4 + t (i + s))) (s + 1) i := by
  obtain ⟨hB, hD, hN, hs, hla, hn1, hn2⟩ := h
  have on : l v ≤ zt_V t L (E v) (i + s) := (ha (i + s) (by omega)).2 (by rw [zt_V_s (by omega)]; omega)
  have nd := hD.1 v (i + s) hv hi on
  refine ⟨nd.1, nd.2.1, fun e he => ?_⟩
  by_cases e0 : e = 0
  · subst e0
    have r1 := zt_V_r (t := t) (L := L) (e := E (b (v * 4 + t (i + s)))) (f := 0) (hB.2.1 _ nd.2.1).1 (by omega)
    have r2 := zt_V_r (t := t) (L := L) (e := i + (s + 1)) (f := 0) (by omega) (by omega)
    have := nd.2.2.2.1
    omega
  · obtain ⟨f, rfl⟩ : ∃ f, e = f + 1 := ⟨e - 1, by omega⟩
    rw [zt_nd_iff (Nat.le_refl _) hB hD hv (ht _) (by have := nd.1; omega) f (by omega), ha f (by omega)]
    have e1 : i + (s + 1) = i + s + 1 := by omega
    rw [e1, zt_V_suc (by omega) (by omega)]
    exact ⟨fun a => ⟨a.1.symm, a.2⟩, fun a => ⟨a.1.symm, a.2⟩⟩
/-- in tails -/
theorem zt_at_N (hg : ∀ i, i < L → g i = t i + 1) {v s i : Nat} (hi : i + s ≤ L) (ha : zt_at t L E l v s i) {j : Nat} (hj : j + s ≤ L) : l v ≤ zt_V t L (E v) (j + s) ↔ s ≤ zt_N g L j i := by
  rw [ha (j + s) hj, zt_V_N (t := t) hg hi hj (by omega) (by omega)]
  have e1 : i + s - s = i := by omega
  have e2 : j + s - s = j := by omega
  rw [e1, e2, zt_N_c (by omega) (by omega)]
/-- tails before i that share s letters with it -/
noncomputable def zt_lf (g : Nat → Nat) (L i s : Nat) : Nat := zt_c (fun j => zt_T g j i ∧ s ≤ zt_N g L j i) L
theorem zt_at_le {v s i : Nat} (hi : i + s ≤ L) (ha : zt_at t L E l v s i) {e : Nat} (he : e ≤ L) (h : l v ≤ zt_V t L (E v) e) : s ≤ e :=
  Nat.le_trans ((ha e he).1 h) (zt_V_r hi he)
theorem zt_X_N (hz : zt_Z g L) (hg : ∀ i, i < L → g i = t i + 1) {v s i : Nat} (hi : i + s ≤ L) (ha : zt_at t L E l v s i) (c : Nat) : zt_X t L E l v c = zt_c (fun j => s ≤ zt_N g L j i ∧ g (j + s) = c + 1) L := by
  refine zt_bij (fun e => e - s) L L (fun e he hq => ?_) (fun x y hx hy qx qy ee => ?_) (fun j hj hq => ?_)
  · have se := zt_at_le hi ha (e := e) (by omega) hq.1
    have e1 : e - s + s = e := by omega
    refine ⟨by show e - s < L; omega, (zt_at_N hg hi ha (j := e - s) (by omega)).1 (by rw [e1]; exact hq.1), ?_⟩
    show g (e - s + s) = c + 1
    rw [e1, hg e he, hq.2]
  · have s1 := zt_at_le hi ha (e := x) (by omega) qx.1
    have s2 := zt_at_le hi ha (e := y) (by omega) qy.1
    have ee' : x - s = y - s := ee
    omega
  · have hlt : j + s < L := by
      refine Classical.byContradiction fun cn => ?_
      have := (hz (j + s)).2 (by omega)
      have := hq.2
      omega
    refine ⟨j + s, hlt, ⟨(zt_at_N hg hi ha (by omega)).2 hq.1, ?_⟩, by show j + s - s = j; omega⟩
    have := hg _ hlt
    have := hq.2
    omega
theorem zt_tl_N (hg : ∀ i, i < L → g i = t i + 1) {v s i : Nat} (hi : i + s ≤ L) (hiL : i < L) (ha : zt_at t L E l v s i) : zt_tl t L E l v = zt_c (fun j => s ≤ zt_N g L j i) L := by
  by_cases s0 : s = 0
  · subst s0
    unfold zt_tl
    rw [zt_call (p := fun e => l v ≤ zt_V t L (E v) (e + 1)) L (fun e he => (ha (e + 1) (by omega)).2 (Nat.zero_le _)), zt_call (p := fun j => 0 ≤ zt_N g L j i) L (fun j _ => Nat.zero_le _)]
  · refine zt_bij (fun e => e + 1 - s) L L (fun e he hq => ?_) (fun x y hx hy qx qy ee => ?_) (fun j hj hq => ?_)
    · have se := zt_at_le hi ha (e := e + 1) (by omega) hq
      have e1 : e + 1 - s + s = e + 1 := by omega
      exact ⟨by show e + 1 - s < L; omega, (zt_at_N hg hi ha (j := e + 1 - s) (by omega)).1 (by rw [e1]; exact hq)⟩
    · have s1 := zt_at_le hi ha (e := x + 1) (by omega) qx
      have s2 := zt_at_le hi ha (e := y + 1) (by omega) qy
      have ee' : x + 1 - s = y + 1 - s := ee
      omega
    · have jl := ((zt_N_iff (g := g) (L := L) (i := j) (j := i) (by omega) (by omega) s).1 hq).1
      have e1 : j + s - 1 + 1 = j + s := by omega
      refine ⟨j + s - 1, by omega, ?_, by show j + s - 1 + 1 - s = j; omega⟩
      show l v ≤ zt_V t L (E v) (j + s - 1 + 1)
      rw [e1]
      exact (zt_at_N hg hi ha jl).2 hq
/-- the tails that end here -/
noncomputable def zt_Y (g : Nat → Nat) (L i s : Nat) : Nat := zt_c (fun j => s ≤ zt_N g L j i ∧ g (j + s) = 0) L
theorem zt_tl_Y (hz : zt_Z g L) (hg : ∀ i, i < L → g i = t i + 1) (h4 : ∀ i, g i ≤ 4) {v s i : Nat} (hi : i + s ≤ L) (hiL : i < L) (ha : zt_at t L E l v s i) : zt_tl t L E l v = zt_Y g L i s + zt_X t L E l v 0 + zt_X t L E l v 1 + zt_X t L E l v 2 + zt_X t L E l v 3 := by
  rw [zt_tl_N hg hi hiL ha, zt_X_N hz hg hi ha, zt_X_N hz hg hi ha, zt_X_N hz hg hi ha, zt_X_N hz hg hi ha]
  exact zt_c5 (f := fun j => g (j + s)) L (fun _ => h4 _)
end
section
variable {g : Nat → Nat} {L : Nat}
theorem zt_lf_0 {i : Nat} : zt_lf g L i 0 = zt_r g L i := zt_cc L fun _ _ => ⟨fun a => a.1, fun a => ⟨a, Nat.zero_le _⟩⟩
theorem zt_lf_end (hz : zt_Z g L) {i s : Nat} (hi : i < L) (h : i + s = L) : zt_lf g L i s = 0 ∧ zt_Y g L i s = 1 := by
  constructor
  · refine zt_cz L fun j hj a => ?_
    have b := (zt_N_iff (g := g) (L := L) (i := j) (j := i) (by omega) (by omega) s).1 a.2
    obtain ⟨d, d1, d2⟩ := a.1
    by_cases c : d < s
    · have := b.2.2 d c
      omega
    · have := (hz (i + d)).2 (by omega)
      omega
  · refine zt_c1 L i hi ⟨by rw [zt_N_s (by omega)]; omega, (hz _).2 (by omega)⟩ fun j hj a => ?_
    have b := (zt_N_iff (g := g) (L := L) (i := j) (j := i) (by omega) (by omega) s).1 a.1
    have := (hz _).1 a.2
    omega
theorem zt_lf_1 (hz : zt_Z g L) {i s c : Nat} (hi : i < L) (h : i + s < L) (hc : g (i + s) = c + 1) : zt_lf g L i s = zt_Y g L i s + zt_s (fun x => zt_c (fun j => s ≤ zt_N g L j i ∧ g (j + s) = x + 1) L) c + zt_lf g L i (s + 1) := by
  have e0 : zt_s (fun x => zt_c (fun j => s ≤ zt_N g L j i ∧ g (j + s) = x) L) (c + 1) = zt_Y g L i s + zt_s (fun x => zt_c (fun j => s ≤ zt_N g L j i ∧ g (j + s) = x + 1) L) c := by
    clear hc
    induction c with
    | zero => rw [zt_s1, zt_s0, zt_s0]; unfold zt_Y; omega
    | succ c ih => rw [zt_s1, ih, zt_s1]; omega
  rw [← e0, ← zt_cltx (A := fun j => s ≤ zt_N g L j i) (f := fun j => g (j + s))]
  unfold zt_lf
  have es := zt_cor (p := fun j => s ≤ zt_N g L j i ∧ g (j + s) < c + 1) (q := fun j => zt_T g j i ∧ s + 1 ≤ zt_N g L j i) L (fun j hj a1 a2 => by
    have b := zt_N_e (g := g) (L := L) (i := j) (j := i) (by omega) (by omega) (q := s) (by have := a2.2; omega)
    have := a1.2
    omega)
  rw [← es]
  refine zt_cc L fun j hj => ⟨fun ⟨a1, a2⟩ => ?_, fun a => ?_⟩
  · by_cases f : s + 1 ≤ zt_N g L j i
    · exact Or.inr ⟨a1, f⟩
    · left
      refine ⟨a2, ?_⟩
      have b := (zt_N_iff (g := g) (L := L) (i := j) (j := i) (by omega) (by omega) s).1 a2
      obtain ⟨d, d1, d2⟩ := a1
      by_cases c1 : d < s
      · have := b.2.2 d c1
        omega
      · by_cases c2 : d = s
        · rw [c2, hc] at d2; exact d2
        · exfalso
          refine f ((zt_N_iff (by omega) (by omega) _).2 ⟨?_, by omega, fun q hq => d1 q (by omega)⟩)
          refine Classical.byContradiction fun c3 => ?_
          have z := (hz (j + s)).2 (by omega)
          have := d1 s (by omega)
          omega
  · rcases a with ⟨a1, a2⟩ | ⟨a1, a2⟩
    · exact ⟨⟨s, fun q hq => zt_N_e (L := L) (by omega) (by omega) (by omega), by rw [hc]; exact a2⟩, a1⟩
    · exact ⟨a1, by omega⟩
end
end
section
/-! the column of the letters before the sorted tails p .. L (the empty one too) -/
noncomputable def zt_rk (g : Nat → Nat) (L p i : Nat) : Nat := zt_c (fun j => p ≤ j ∧ zt_T g j i) (L + 1)
section
variable {g : Nat → Nat} {L p : Nat}
theorem zt_rk_n (hp : p ≤ L) : zt_c (fun j => p ≤ j) (L + 1) = L + 1 - p := by
  have h : ∀ d, p ≤ d → zt_c (fun j => p ≤ j) (d + 1) = d + 1 - p := by
    intro d
    induction d with
    | zero =>
      intro h
      rw [zt_ct (p := fun j => p ≤ j) (n := 0) h, zt_c0]; omega
    | succ d ih =>
      intro h
      rw [zt_ct (p := fun j => p ≤ j) (n := d + 1) h]
      by_cases c : p ≤ d
      · rw [ih c]; omega
      · rw [zt_cz (p := fun j => p ≤ j) (d + 1) (fun i hi hh => by omega)]; omega
  exact h L hp
theorem zt_rk_lt {i : Nat} (h1 : p ≤ i) (h2 : i ≤ L) : zt_rk g L p i < L + 1 - p := by
  rw [← zt_rk_n (by omega : p ≤ L)]
  exact zt_clt (L + 1) i (fun j _ h => h.1) (by omega) (fun h => zt_T_ir g i h.2) h1
theorem zt_rk_mono {i j : Nat} (h1 : p ≤ i) (h2 : i ≤ L) (h : zt_T g i j) : zt_rk g L p i < zt_rk g L p j :=
  zt_clt (L + 1) i (fun x _ hx => ⟨hx.1, zt_T_tr hx.2 h⟩) (by omega) (fun h => zt_T_ir g i h.2) ⟨h1, h⟩
theorem zt_rk_inj (hz : zt_Z g L) {i j : Nat} (h1 : p ≤ i) (h2 : i ≤ L) (h3 : p ≤ j) (h4 : j ≤ L) (h : zt_rk g L p i = zt_rk g L p j) : i = j := by
  refine Classical.byContradiction fun e => ?_
  rcases zt_T_to hz h2 h4 e with a | a
  · have := zt_rk_mono h1 h2 a; omega
  · have := zt_rk_mono h3 h4 a; omega
theorem zt_rk_sur (hz : zt_Z g L) {o : Nat} (ho : o < L + 1 - p) : ∃ i, p ≤ i ∧ i ≤ L ∧ zt_rk g L p i = o := by
  obtain ⟨k, hk, e⟩ := zt_sur (f := fun k => zt_rk g L p (p + k)) (n := L + 1 - p) (fun i hi => zt_rk_lt (by omega) (by omega)) (fun i j hi hj e => by
    have := zt_rk_inj hz (by omega) (by omega) (by omega) (by omega) e
    omega) o ho
  exact ⟨p + k, by omega, by omega, e⟩
/-- a set that holds with a tail all that come before it -/
def zt_dn (g : Nat → Nat) (L p : Nat) (S : Nat → Prop) : Prop := ∀ i j, p ≤ i → i ≤ L → p ≤ j → j ≤ L → zt_T g i j → S j → S i
theorem zt_rk_S (hz : zt_Z g L) {S : Nat → Prop} (hS : zt_dn g L p S) {i : Nat} (h1 : p ≤ i) (h2 : i ≤ L) : zt_rk g L p i < zt_c (fun j => p ≤ j ∧ S j) (L + 1) ↔ S i := by
  constructor
  · intro h
    refine Classical.byContradiction fun c => ?_
    have : zt_c (fun j => p ≤ j ∧ S j) (L + 1) ≤ zt_rk g L p i := by
      refine zt_cle (L + 1) fun j hj ⟨a, b⟩ => ⟨a, ?_⟩
      have ne : i ≠ j := fun e => c (e ▸ b)
      rcases zt_T_to hz h2 (by omega) ne with d | d
      · exact absurd (hS i j h1 h2 a (by omega) d b) c
      · exact d
    omega
  · intro h
    exact zt_clt (L + 1) i (fun j hj ⟨a, b⟩ => ⟨a, hS j i a (by omega) h1 h2 b h⟩) (by omega) (fun h => zt_T_ir g i h.2) ⟨h1, h⟩
/-- rows counted as tails -/
theorem zt_RB (hz : zt_Z g L) {S : Nat → Prop} (hS : zt_dn g L p S) {col h : Nat → Nat} (hc : ∀ i, p ≤ i → i ≤ L → col (zt_rk g L p i) = h i) (c : Nat) : zt_c (fun o => (0 < col o ∧ col o < c + 1) ∨ (col o = c + 1 ∧ o < zt_c (fun j => p ≤ j ∧ S j) (L + 1))) (L + 1 - p) = zt_c (fun i => p ≤ i ∧ ((0 < h i ∧ h i < c + 1) ∨ (h i = c + 1 ∧ S i))) (L + 1) := by
  symm
  refine zt_bij (fun i => zt_rk g L p i) (L + 1) (L + 1 - p) (fun i hi hq => ?_) (fun i j hi hj qi qj e => zt_rk_inj hz qi.1 (by omega) qj.1 (by omega) e) (fun o ho hq => ?_)
  · refine ⟨zt_rk_lt hq.1 (by omega), ?_⟩
    show (0 < col (zt_rk g L p i) ∧ col (zt_rk g L p i) < c + 1) ∨ _
    rw [hc i hq.1 (by omega)]
    rcases hq.2 with a | a
    · exact Or.inl a
    · exact Or.inr ⟨a.1, (zt_rk_S hz hS hq.1 (by omega)).2 a.2⟩
  · obtain ⟨i, h1, h2, e⟩ := zt_rk_sur hz ho
    subst e
    rw [hc i h1 h2] at hq
    refine ⟨i, by omega, ⟨h1, ?_⟩, rfl⟩
    rcases hq with a | a
    · exact Or.inl a
    · exact Or.inr ⟨a.1, (zt_rk_S hz hS h1 h2).1 a.2⟩
theorem zt_T_cons (i j : Nat) : zt_T g i j ↔ g i < g j ∨ (g i = g j ∧ zt_T g (i + 1) (j + 1)) := by
  constructor
  · rintro ⟨s, a, b⟩
    by_cases e : s = 0
    · subst e; exact Or.inl b
    · refine Or.inr ⟨a 0 (by omega), s - 1, fun q hq => ?_, ?_⟩
      · have := a (q + 1) (by omega)
        have e1 : i + 1 + q = i + (q + 1) := by omega
        have e2 : j + 1 + q = j + (q + 1) := by omega
        rw [e1, e2]; exact this
      · have e1 : i + 1 + (s - 1) = i + s := by omega
        have e2 : j + 1 + (s - 1) = j + s := by omega
        rw [e1, e2]; exact b
  · rintro (h | ⟨h, s, a, b⟩)
    · exact ⟨0, fun q hq => by omega, h⟩
    · refine ⟨s + 1, fun q hq => ?_, ?_⟩
      · by_cases e : q = 0
        · subst e; exact h
        · have := a (q - 1) (by omega)
          have e1 : i + 1 + (q - 1) = i + q := by omega
          have e2 : j + 1 + (q - 1) = j + q := by omega
          rw [e1, e2] at this; exact this
      · have e1 : i + 1 + s = i + (s + 1) := by omega
        have e2 : j + 1 + s = j + (s + 1) := by omega
        rw [e1, e2] at b; exact b
/-- the set with a letter before it -/
def zt_pre (g : Nat → Nat) (S : Nat → Prop) (c : Nat) (j : Nat) : Prop := g j < c + 1 ∨ (g j = c + 1 ∧ S (j + 1))
theorem zt_dn_pre (hz : zt_Z g L) {S : Nat → Prop} {c : Nat} (hS : zt_dn g L (p + 1) S) : zt_dn g L p (zt_pre g S c) := by
  intro i j h1 h2 h3 h4 hT h
  rcases (zt_T_cons i j).1 hT with a | ⟨a, b⟩
  · rcases h with h | h
    · exact Or.inl (by omega)
    · exact Or.inl (by omega)
  · rcases h with h | ⟨h, k⟩
    · exact Or.inl (by omega)
    · refine Or.inr ⟨by omega, hS (i + 1) (j + 1) (by omega) ?_ (by omega) ?_ b k⟩
      · refine Classical.byContradiction fun c => ?_
        have := (hz i).2 (by omega)
        omega
      · refine Classical.byContradiction fun c => ?_
        have := (hz j).2 (by omega)
        omega
theorem zt_dn_T (i0 : Nat) : zt_dn g L p (fun i => zt_T g i i0) := fun _ _ _ _ _ _ hT h => zt_T_tr hT h
theorem zt_dn_0 : zt_dn g L p (fun _ => False) := fun _ _ _ _ _ _ _ h => h
theorem zt_dn_1 : zt_dn g L p (fun _ => True) := fun _ _ _ _ _ _ _ _ => trivial
theorem zt_dn_m {S : Nat → Prop} {q : Nat} (h : zt_dn g L p S) (hq : p ≤ q) : zt_dn g L q S := fun i j a b c d => h i j (by omega) b (by omega) d
/-- the row with a letter before: the column of p .. L, h i the letter before i -/
theorem zt_row (hz : zt_Z g L) {S : Nat → Prop} (hp : p ≤ L) (q : Nat) (hq : q ≤ p) (hpq : p ≤ q + 1) (hS : zt_dn g L p S) {col h : Nat → Nat} (hc : ∀ i, p ≤ i → i ≤ L → col (zt_rk g L p i) = h i) (h1 : ∀ i, q < i → p ≤ i → i ≤ L → h i = g (i - 1)) (h0 : p = q → h p = 0) (c : Nat) : 1 + zt_c (fun o => (0 < col o ∧ col o < c + 1) ∨ (col o = c + 1 ∧ o < zt_c (fun j => p ≤ j ∧ S j) (L + 1))) (L + 1 - p) = zt_c (fun j => q ≤ j ∧ zt_pre g S c j) (L + 1) := by
  rw [zt_RB hz hS hc c]
  have gL : g L = 0 := (hz L).2 (Nat.le_refl _)
  rw [zt_crm (q := fun j => q ≤ j ∧ zt_pre g S c j) (L + 1) L (by omega) ⟨by omega, Or.inl (by omega)⟩]
  have : zt_c (fun i => p ≤ i ∧ ((0 < h i ∧ h i < c + 1) ∨ (h i = c + 1 ∧ S i))) (L + 1) = zt_c (fun x => (q ≤ x ∧ zt_pre g S c x) ∧ x ≠ L) (L + 1) := by
    have pos : ∀ i, p ≤ i → i ≤ L → ((0 < h i ∧ h i < c + 1) ∨ (h i = c + 1 ∧ S i)) → q < i := by
      intro i a b d
      by_cases e : i = q
      · have e2 : p = q := by omega
        have := h0 e2
        have e3 : i = p := by omega
        rw [e3] at d
        omega
      · omega
    refine zt_bij (fun i => i - 1) (L + 1) (L + 1) (fun i hi hh => ?_) (fun i j hi hj qi qj e => ?_) (fun j hj hh => ?_)
    · have l := pos i hh.1 (by omega) hh.2
      have e1 := h1 i l hh.1 (by omega)
      have e2 : i - 1 + 1 = i := by omega
      refine ⟨by show i - 1 < L + 1; omega, ⟨⟨by show q ≤ i - 1; omega, ?_⟩, by show i - 1 ≠ L; omega⟩⟩
      rcases hh.2 with a | a
      · exact Or.inl (by show g (i - 1) < c + 1; omega)
      · exact Or.inr ⟨by show g (i - 1) = c + 1; omega, by rw [e2]; exact a.2⟩
    · have l1 := pos i qi.1 (by omega) qi.2
      have l2 := pos j qj.1 (by omega) qj.2
      have e' : i - 1 = j - 1 := e
      omega
    · obtain ⟨⟨a, b⟩, d⟩ := hh
      have e1 := h1 (j + 1) (by omega) (by omega) (by omega)
      have e2 : j + 1 - 1 = j := by omega
      rw [e2] at e1
      have g0 : ¬ g j = 0 := fun z => by
        have := (hz j).1 z
        omega
      refine ⟨j + 1, by omega, ⟨by omega, ?_⟩, e2⟩
      rw [e1]
      rcases b with b | b
      · exact Or.inl ⟨by omega, b⟩
      · exact Or.inr b
  rw [this]
  omega
/-- the tails before q are those with a letter before -/
theorem zt_pre_T (q c : Nat) (hc : g q = c + 1) (j : Nat) : zt_pre g (fun i => zt_T g i (q + 1)) c j ↔ zt_T g j q := by
  rw [zt_T_cons j q, hc]
  exact Iff.rfl
/-- the next tail goes in at its row -/
theorem zt_rk_ins (hz : zt_Z g L) {i : Nat} (hp : p + 1 ≤ i) (hi : i ≤ L) : (zt_T g p i → zt_rk g L p i = zt_rk g L (p + 1) i + 1 ∧ zt_rk g L p p ≤ zt_rk g L (p + 1) i) ∧ (¬ zt_T g p i → zt_rk g L p i = zt_rk g L (p + 1) i ∧ zt_rk g L (p + 1) i < zt_rk g L p p) := by
  have hpp : zt_rk g L p p = zt_rk g L (p + 1) p := zt_cc (L + 1) fun j _ => ⟨fun ⟨a, b⟩ => ⟨by
    have : j ≠ p := fun e => zt_T_ir g p (e ▸ b)
    omega, b⟩, fun ⟨a, b⟩ => ⟨by omega, b⟩⟩
  constructor
  · intro hT
    constructor
    · unfold zt_rk
      rw [zt_crm (q := fun j => p ≤ j ∧ zt_T g j i) (L + 1) p (by omega) ⟨Nat.le_refl _, hT⟩]
      congr 1
      exact zt_cc (L + 1) fun j _ => ⟨fun ⟨⟨a, b⟩, c⟩ => ⟨by omega, b⟩, fun ⟨a, b⟩ => ⟨⟨by omega, b⟩, by omega⟩⟩
    · rw [hpp]
      exact zt_cle (L + 1) fun j _ ⟨a, b⟩ => ⟨a, zt_T_tr b hT⟩
  · intro hT
    have hT' : zt_T g i p := by
      rcases zt_T_to hz (by omega : p ≤ L) hi (by omega) with a | a
      · exact absurd a hT
      · exact a
    constructor
    · exact zt_cc (L + 1) fun j _ => ⟨fun ⟨a, b⟩ => ⟨by
        have : j ≠ p := fun e => hT (e ▸ b)
        omega, b⟩, fun ⟨a, b⟩ => ⟨by omega, b⟩⟩
    · rw [hpp]
      exact zt_rk_mono hp hi hT'
end
end
section
/-! sorting by insertion, comparing with a pattern, halving -/
def zt_SO (g : Nat → Nat) (n : Nat) (o : Nat → Nat) : Prop := (∀ a, a < n → o a < n) ∧ ∀ a b, a < b → b < n → zt_T g (o a) (o b)
/-- n goes in; the row is free -/
def zt_IS (g : Nat → Nat) (n row : Nat) (o : Nat → Nat) : Prop := row ≤ n ∧ (∀ a, a ≤ n → a ≠ row → o a < n) ∧ (∀ a b, a < b → b ≤ n → a ≠ row → b ≠ row → zt_T g (o a) (o b)) ∧ ∀ b, row < b → b ≤ n → zt_T g n (o b)
theorem zt_IS_0 {g : Nat → Nat} {n : Nat} {o : Nat → Nat} (h : zt_SO g n o) : zt_IS g n n o :=
  ⟨Nat.le_refl _, fun a ha hne => h.1 a (by omega), fun a b hab hb ha hb' => h.2 a b hab (by omega), fun b h1 h2 => by omega⟩
theorem zt_IS_1 {g : Nat → Nat} {n row : Nat} {o : Nat → Nat} (h : zt_IS g n (row + 1) o) (hT : zt_T g n (o row)) : zt_IS g n row (zt_up o (row + 1) (o row)) := by
  obtain ⟨h0, h1, h2, h3⟩ := h
  have or' : o row < n := h1 row (by omega) (by omega)
  refine ⟨by omega, fun a ha hne => ?_, fun a b hab hb ha hb' => ?_, fun b hb hbn => ?_⟩
  · by_cases e : a = row + 1
    · subst e; rw [zt_us]; exact or'
    · rw [zt_un _ _ e]; exact h1 a ha e
  · by_cases e : a = row + 1
    · subst e
      rw [zt_us, zt_un _ _ (by omega)]
      exact h2 row b (by omega) hb (by omega) (by omega)
    · by_cases e2 : b = row + 1
      · subst e2
        rw [zt_us, zt_un _ _ e]
        exact h2 a row (by omega) (by omega) e (by omega)
      · rw [zt_un _ _ e, zt_un _ _ e2]
        exact h2 a b hab hb e e2
  · by_cases e : b = row + 1
    · subst e; rw [zt_us]; exact hT
    · rw [zt_un _ _ e]; exact h3 b (by omega) hbn
theorem zt_IS_2 {g : Nat → Nat} {n row : Nat} {o : Nat → Nat} (h : zt_IS g n row o) (hT : row = 0 ∨ zt_T g (o (row - 1)) n) : zt_SO g (n + 1) (zt_up o row n) := by
  obtain ⟨h0, h1, h2, h3⟩ := h
  refine ⟨fun a ha => ?_, fun a b hab hb => ?_⟩
  · by_cases e : a = row
    · subst e; rw [zt_us]; omega
    · rw [zt_un _ _ e]
      have := h1 a (by omega) e
      omega
  · by_cases e : a = row
    · subst e
      rw [zt_us, zt_un _ _ (by omega)]
      exact h3 b hab (by omega)
    · by_cases e2 : b = row
      · subst e2
        rw [zt_us, zt_un _ _ e]
        rcases hT with z | z
        · omega
        · by_cases e3 : a = b - 1
          · rw [e3]; exact z
          · exact zt_T_tr (h2 a (b - 1) (by omega) (by omega) e (by omega)) z
      · rw [zt_un _ _ e, zt_un _ _ e2]
        exact h2 a b hab (by omega) e e2
theorem zt_SO_O {g : Nat → Nat} {L : Nat} {o : Nat → Nat} (h : zt_SO g L o) : zt_O g L o := zt_O_of h.1 h.2
/-- by the letters where they part -/
theorem zt_before {g : Nat → Nat} {L i j : Nat} (hz : zt_Z g L) (hi : i < L) (hj : j < L) (ne : i ≠ j) : (L ≤ i + zt_N g L i j ∨ L ≤ j + zt_N g L i j → (zt_T g i j ↔ j < i)) ∧ (i + zt_N g L i j < L → j + zt_N g L i j < L → (zt_T g i j ↔ g (i + zt_N g L i j) < g (j + zt_N g L i j))) := by
  have h := zt_T_N hz (i := i) (j := j) (by omega) (by omega)
  have a := zt_N_i (g := g) (L := L) (i := i) (j := j) (by omega) (by omega)
  have b := zt_N_j (g := g) (L := L) (i := i) (j := j) (by omega) (by omega)
  constructor
  · intro c
    rw [h]
    constructor
    · rintro (d | d) <;> omega
    · intro d
      left
      omega
  · intro c d
    rw [h]
    constructor
    · rintro (e | e)
      · omega
      · exact e.2.2
    · intro e
      exact Or.inr ⟨c, d, e⟩
/-- a tail against a pattern: before it, beginning with it, after it -/
def zt_lo (g pat : Nat → Nat) (m i : Nat) : Prop := ∃ s, s < m ∧ (∀ q, q < s → g (i + q) = pat q + 1) ∧ g (i + s) < pat s + 1
def zt_oc (g pat : Nat → Nat) (m i : Nat) : Prop := ∀ q, q < m → g (i + q) = pat q + 1
def zt_hi (g pat : Nat → Nat) (m i : Nat) : Prop := ∃ s, s < m ∧ (∀ q, q < s → g (i + q) = pat q + 1) ∧ pat s + 1 < g (i + s)
theorem zt_lo_oc {g pat : Nat → Nat} {m i : Nat} (h : zt_lo g pat m i) (h2 : zt_oc g pat m i) : False := by
  obtain ⟨s, a, _, c⟩ := h
  have := h2 s a
  omega
theorem zt_lo_hi {g pat : Nat → Nat} {m i : Nat} (h : zt_lo g pat m i) (h2 : zt_hi g pat m i) : False := by
  obtain ⟨s, a, b, c⟩ := h
  obtain ⟨r, d, e, f⟩ := h2
  by_cases h1 : s < r
  · have := e s h1; omega
  · by_cases h3 : r < s
    · have := b r h3; omega
    · have : s = r := by omega
      subst this
      omega
theorem zt_hi_oc {g pat : Nat → Nat} {m i : Nat} (h : zt_hi g pat m i) (h2 : zt_oc g pat m i) : False := by
  obtain ⟨s, a, _, c⟩ := h
  have := h2 s a
  omega
theorem zt_lo_dn {g pat : Nat → Nat} {m i j : Nat} (hT : zt_T g i j) (h : zt_lo g pat m j) : zt_lo g pat m i := by
  obtain ⟨s, a, b, c⟩ := h
  obtain ⟨d, e, f⟩ := hT
  by_cases h1 : d < s
  · exact ⟨d, by omega, fun q hq => (e q hq).trans (b q (by omega)), by rw [← b d h1]; exact f⟩
  · refine ⟨s, a, fun q hq => (e q (by omega)).trans (b q hq), ?_⟩
    by_cases h2 : d = s
    · subst h2; omega
    · rw [e s (by omega)]; exact c
theorem zt_hi_up {g pat : Nat → Nat} {m i j : Nat} (hT : zt_T g i j) (h : zt_hi g pat m i) : zt_hi g pat m j := by
  obtain ⟨s, a, b, c⟩ := h
  obtain ⟨d, e, f⟩ := hT
  by_cases h1 : d < s
  · exact ⟨d, by omega, fun q hq => (e q hq).symm.trans (b q (by omega)), by rw [← b d h1]; exact f⟩
  · refine ⟨s, a, fun q hq => (e q (by omega)).symm.trans (b q hq), ?_⟩
    by_cases h2 : d = s
    · subst h2; omega
    · rw [← e s (by omega)]; exact c
theorem zt_oc_L {g pat : Nat → Nat} {L m i : Nat} (hz : zt_Z g L) (h : zt_oc g pat m i) (h0 : 0 < m) : i + m ≤ L := by
  have a := h (m - 1) (by omega)
  refine Classical.byContradiction fun c => ?_
  have := (hz (i + (m - 1))).2 (by omega)
  omega
/-- what the column's search finds -/
def zt_oS (g pat : Nat → Nat) (m st j : Nat) : Prop := ∀ q, st ≤ q → q < m → g (j + (q - st)) = pat q + 1
theorem zt_oS_0 (g pat : Nat → Nat) (m j : Nat) : zt_oS g pat m 0 j ↔ zt_oc g pat m j :=
  ⟨fun h q hq => h q (Nat.zero_le _) hq, fun h q _ hq => h q hq⟩
theorem zt_oS_m (g pat : Nat → Nat) (m j : Nat) : zt_oS g pat m m j := fun q h1 h2 => by omega
theorem zt_oS_1 {g pat : Nat → Nat} {m st j : Nat} (hst : st < m) : zt_oS g pat m st j ↔ g j = pat st + 1 ∧ zt_oS g pat m (st + 1) (j + 1) := by
  constructor
  · intro h
    refine ⟨?_, fun q h1 h2 => ?_⟩
    · have := h st (Nat.le_refl _) hst
      rw [Nat.sub_self] at this
      exact this
    · have := h q (by omega) h2
      have e : j + 1 + (q - (st + 1)) = j + (q - st) := by omega
      rw [e]; exact this
  · rintro ⟨a, b⟩ q h1 h2
    by_cases e : q = st
    · subst e; rw [Nat.sub_self]; exact a
    · have := b q (by omega) h2
      have e : j + 1 + (q - (st + 1)) = j + (q - st) := by omega
      rw [e] at this; exact this
/-- the sets of the search: below, and below or beginning -/
theorem zt_pre_d {g pat : Nat → Nat} {m st : Nat} {A B : Nat → Prop} (hst : st < m) (h : ∀ j, B j ↔ A j ∨ zt_oS g pat m (st + 1) j) (hd : ∀ j, A j → ¬ zt_oS g pat m (st + 1) j) : (∀ j, zt_pre g B (pat st) j ↔ zt_pre g A (pat st) j ∨ zt_oS g pat m st j) ∧ ∀ j, zt_pre g A (pat st) j → ¬ zt_oS g pat m st j := by
  constructor
  · intro j
    unfold zt_pre
    rw [zt_oS_1 hst, h (j + 1)]
    constructor
    · rintro (a | ⟨a, b | b⟩)
      · exact Or.inl (Or.inl a)
      · exact Or.inl (Or.inr ⟨a, b⟩)
      · exact Or.inr ⟨a, b⟩
    · rintro ((a | ⟨a, b⟩) | ⟨a, b⟩)
      · exact Or.inl a
      · exact Or.inr ⟨a, Or.inl b⟩
      · exact Or.inr ⟨a, Or.inr b⟩
  · intro j a b
    rw [zt_oS_1 hst] at b
    rcases a with a | ⟨a, c⟩
    · omega
    · exact hd _ c b.2
end
section
/-! the listing of the tree by a stack, the node of a pattern, the state of a pattern -/
/-- st 0 .. h - 1 wait, found are listed, vis are visited -/
def zt_ST (cA off sub : Nat → Nat) (n base tot stot : Nat) (st : Nat → Nat) (h found vis : Nat) : Prop :=
  (∀ i, i < h → st i < n) ∧ (∀ i, i < h → off (st i) + zt_s (fun j => cA (st j)) (i + 1) = base + tot) ∧ zt_s (fun j => cA (st j)) h + found = tot ∧ zt_s (fun j => sub (st j)) h + vis = stot
/-- while the children of v are put down, those from the letter c on -/
def zt_SP (cA off sub : Nat → Nat) (n base tot stot : Nat) (C X : Nat → Nat) (ov : Nat) (st : Nat → Nat) (h c found vis : Nat) : Prop :=
  (∀ i, i < h → st i < n) ∧ (∀ i, i < h → off (st i) + zt_s (fun j => cA (st j)) (i + 1) = base + tot) ∧ zt_s (fun j => cA (st j)) h + found + zt_s C c = tot ∧ zt_s (fun j => sub (st j)) h + vis + zt_s X c = stot ∧ ov + zt_s C c + zt_s (fun j => cA (st j)) h = base + tot
theorem zt_SP_0 {cA off sub : Nat → Nat} {n base tot stot : Nat} {C X : Nat → Nat} {ov : Nat} {st : Nat → Nat} {h found vis : Nat} (H : zt_SP cA off sub n base tot stot C X ov st h 0 found vis) : zt_ST cA off sub n base tot stot st h found vis := by
  obtain ⟨h1, h2, h3, h4, h5⟩ := H
  rw [zt_s0] at h3 h4
  exact ⟨h1, h2, by omega, by omega⟩
/-- taking v up: d tails of its own, C its tails by letter, X its nodes by letter -/
theorem zt_ST_pop {cA off sub : Nat → Nat} {n base tot stot : Nat} {C X : Nat → Nat} {st : Nat → Nat} {h found vis d : Nat} (H : zt_ST cA off sub n base tot stot st (h + 1) found vis) (hc : cA (st h) = d + zt_s C 4) (hs : sub (st h) = 1 + zt_s X 4) : off (st h) = base + found ∧ zt_SP cA off sub n base tot stot C X (off (st h) + d) st h 4 (found + d) (vis + 1) := by
  obtain ⟨h1, h2, h3, h4⟩ := H
  have a := h2 h (by omega)
  rw [zt_s1] at a h3 h4
  refine ⟨by omega, fun i hi => h1 i (by omega), fun i hi => h2 i (by omega), by omega, by omega, by omega⟩
/-- no child with the letter c -/
theorem zt_SP_no {cA off sub : Nat → Nat} {n base tot stot : Nat} {C X : Nat → Nat} {ov : Nat} {st : Nat → Nat} {h c found vis : Nat} (H : zt_SP cA off sub n base tot stot C X ov st h (c + 1) found vis) (hC : C c = 0) (hX : X c = 0) : zt_SP cA off sub n base tot stot C X ov st h c found vis := by
  obtain ⟨h1, h2, h3, h4, h5⟩ := H
  rw [zt_s1] at h3 h4 h5
  exact ⟨h1, h2, by omega, by omega, by omega⟩
theorem zt_SP_ch {cA off sub : Nat → Nat} {n base tot stot : Nat} {C X : Nat → Nat} {ov : Nat} {st : Nat → Nat} {h c found vis u : Nat} (H : zt_SP cA off sub n base tot stot C X ov st h (c + 1) found vis) (hu : u < n) (hC : C c = cA u) (hX : X c = sub u) (ho : off u = ov + zt_s C c) : zt_SP cA off sub n base tot stot C X ov (zt_up st h u) (h + 1) c found vis := by
  obtain ⟨h1, h2, h3, h4, h5⟩ := H
  rw [zt_s1] at h3 h4 h5
  have old : ∀ i, i < h → zt_up st h u i = st i := fun i hi => zt_un st u (by omega)
  have sA : ∀ i, i ≤ h → zt_s (fun j => cA (zt_up st h u j)) i = zt_s (fun j => cA (st j)) i := fun i hi => zt_sc i fun j hj => by
    show cA (zt_up st h u j) = cA (st j)
    rw [old j (by omega)]
  have sS : ∀ i, i ≤ h → zt_s (fun j => sub (zt_up st h u j)) i = zt_s (fun j => sub (st j)) i := fun i hi => zt_sc i fun j hj => by
    show sub (zt_up st h u j) = sub (st j)
    rw [old j (by omega)]
  have nu : zt_up st h u h = u := zt_us _ _ _
  refine ⟨fun i hi => ?_, fun i hi => ?_, ?_, ?_, ?_⟩
  · by_cases e : i = h
    · subst e; rw [nu]; exact hu
    · rw [old i (by omega)]; exact h1 i (by omega)
  · by_cases e : i = h
    · subst e
      rw [zt_s1, sA i (Nat.le_refl _), nu]
      omega
    · rw [old i (by omega), sA (i + 1) (by omega)]; exact h2 i (by omega)
  · rw [zt_s1, sA h (Nat.le_refl _), nu]; omega
  · rw [zt_s1, sS h (Nat.le_refl _), nu]; omega
  · rw [zt_s1, sA h (Nat.le_refl _), nu]; omega
section
variable {g pat : Nat → Nat} {L n m : Nat} {E l p b nt : Nat → Nat}
/-- the node v stands for letters of the pattern, as far as both go -/
def zt_np (g pat : Nat → Nat) (m n : Nat) (E l p : Nat → Nat) (v : Nat) : Prop := v < n ∧ (∀ q, q < l v → q < m → g (E v + q) = pat q + 1) ∧ (v = 0 ∨ (0 < v ∧ l (p v) < m))
theorem zt_np_A (hz : zt_Z g L) (h : zt_H g L L n E l p b nt) {v i : Nat} (hv : zt_np g pat m n E l p v) (h1 : l v ≤ m) (hi : i ≤ L) (ho : zt_oc g pat m i) (m0 : 0 < m) : zt_A g L E l v i := by
  have hA := h.1.1.2.1 v hv.1
  have vL := zt_P_L (Nat.le_refl _) hA.1
  have lv := hA.2.1
  rw [zt_N_s vL] at lv
  have iL := zt_oc_L hz ho m0
  refine (zt_N_iff vL hi _).2 ⟨by omega, by omega, fun q hq => ?_⟩
  rw [hv.2.1 q hq (by omega), ho q (by omega)]
theorem zt_np_no (hz : zt_Z g L) (h : zt_H g L L n E l p b nt) {v : Nat} (hv : zt_np g pat m n E l p v) (h1 : l v < m) (hb : b (v * 4 + pat (l v)) = 0) (i : Nat) (hi : i ≤ L) : ¬ zt_oc g pat m i := by
  intro ho
  exact zt_A_no hz h hv.1 hb i hi (zt_np_A hz h hv (by omega) hi ho (by omega)) (ho (l v) h1)
theorem zt_np_u (hz : zt_Z g L) (hp : ∀ q, pat q < 4) (h : zt_H g L L n E l p b nt) {v : Nat} (hv : zt_np g pat m n E l p v) (h1 : l v < m) (hb : b (v * 4 + pat (l v)) ≠ 0) (i : Nat) (hi : i ≤ L) (ho : zt_oc g pat m i) : zt_A g L E l (b (v * 4 + pat (l v))) i :=
  (zt_A_ch hz h hv.1 (hp _) hb i hi).2 ⟨zt_np_A hz h hv (by omega) hi ho (by omega), ho (l v) h1⟩
theorem zt_np_mis (hz : zt_Z g L) (hp : ∀ q, pat q < 4) (h : zt_H g L L n E l p b nt) {v q : Nat} (hv : zt_np g pat m n E l p v) (h1 : l v < m) (hb : b (v * 4 + pat (l v)) ≠ 0) (hq : q < l (b (v * 4 + pat (l v)))) (hm : q < m) (hne : g (E (b (v * 4 + pat (l v))) + q) ≠ pat q + 1) (i : Nat) (hi : i ≤ L) : ¬ zt_oc g pat m i := by
  intro ho
  have a := zt_np_u hz hp h hv h1 hb i hi ho
  have u1 := (h.1.2.1.1 v _ hv.1 (hp _) hb).1
  have uL := zt_P_L (Nat.le_refl _) (h.1.1.2.1 _ u1).1
  unfold zt_A at a
  have := zt_N_e (g := g) uL hi (q := q) (by omega)
  rw [ho q hm] at this
  exact hne this
theorem zt_np_1 (hp : ∀ q, pat q < 4) (h : zt_H g L L n E l p b nt) {v : Nat} (hv : zt_np g pat m n E l p v) (h1 : l v < m) (hb : b (v * 4 + pat (l v)) ≠ 0) (hq : ∀ q, l v ≤ q → q < l (b (v * 4 + pat (l v))) → q < m → g (E (b (v * 4 + pat (l v))) + q) = pat q + 1) : zt_np g pat m n E l p (b (v * 4 + pat (l v))) ∧ l v < l (b (v * 4 + pat (l v))) := by
  obtain ⟨u1, u2, u3⟩ := h.1.2.1.1 v _ hv.1 (hp _) hb
  have hB := h.1.1
  have cu := hB.2.2.2.2 _ (by omega) u1
  rw [u2] at cu
  have uL := zt_P_L (Nat.le_refl _) (hB.2.1 _ u1).1
  have vL := zt_P_L (Nat.le_refl _) (hB.2.1 v hv.1).1
  refine ⟨⟨u1, fun q h2 h3 => ?_, Or.inr ⟨by omega, by rw [u2]; exact h1⟩⟩, cu.2.1⟩
  by_cases e : q < l v
  · rw [← hv.2.1 q e h3]
    exact (zt_N_e vL uL (by omega)).symm
  · exact hq q (by omega) h2 h3
theorem zt_np_end (hz : zt_Z g L) (h : zt_H g L L n E l p b nt) {v : Nat} (hv : zt_np g pat m n E l p v) (m0 : 0 < m) (h1 : m ≤ l v) (i : Nat) (hi : i ≤ L) : zt_oc g pat m i ↔ zt_A g L E l v i := by
  have hB := h.1.1
  have vL := zt_P_L (Nat.le_refl _) (hB.2.1 v hv.1).1
  have lv := (hB.2.1 v hv.1).2.1
  rw [zt_N_s vL] at lv
  constructor
  · intro ho
    have iL := zt_oc_L hz ho m0
    rcases hv.2.2 with z | ⟨v0, hlt⟩
    · have := hB.1.2
      rw [z] at h1
      omega
    · refine zt_B_same (zt_F_S (zt_U_P g (Nat.le_refl _))) hB v0 hv.1 (zt_P_full hi) hlt ?_
      refine (zt_N_iff vL hi _).2 ⟨by omega, by omega, fun q hq => ?_⟩
      rw [hv.2.1 q (by omega) hq, ho q hq]
  · intro a q hq
    rw [← hv.2.1 q (by omega) hq]
    unfold zt_A at a
    exact (zt_N_e vL hi (by omega)).symm
end
section
variable {t g pat : Nat → Nat} {L n : Nat} {E l p b en : Nat → Nat} {la : Nat}
/-- the first s letters of the pattern lead to v -/
def zt_ap (t pat : Nat → Nat) (L : Nat) (E l : Nat → Nat) (v s : Nat) : Prop := ∀ e, e ≤ L → (l v ≤ zt_V t L (E v) e ↔ s ≤ e ∧ ∀ q, q < s → t (e - s + q) = pat q)
theorem zt_ap_0 (h : zt_M t L L n E l p b en la) : zt_ap t pat L E l 0 0 := fun e _ => by
  rw [h.1.1.2]
  exact ⟨fun _ => ⟨Nat.zero_le _, fun q hq => by omega⟩, fun _ => Nat.zero_le _⟩
theorem zt_ap_no (h : zt_M t L L n E l p b en la) {v s : Nat} (hv : v < n) (ha : zt_ap t pat L E l v s) (hb : b (v * 4 + pat s) = 0) (e : Nat) (he : e ≤ L) : ¬ (s + 1 ≤ e ∧ ∀ q, q < s + 1 → t (e - (s + 1) + q) = pat q) := by
  rintro ⟨h1, h2⟩
  obtain ⟨f, rfl⟩ : ∃ f, e = f + 1 := ⟨e - 1, by omega⟩
  have tf : t f = pat s := by
    have := h2 s (by omega)
    have e1 : f + 1 - (s + 1) + s = f := by omega
    rw [e1] at this; exact this
  refine zt_nd_z (Nat.le_refl _) h.2.1 hv hb f (by omega) tf ((ha f (by omega)).2 ⟨by omega, fun q hq => ?_⟩)
  have := h2 q (by omega)
  have e1 : f + 1 - (s + 1) + q = f - s + q := by omega
  rw [e1] at this; exact this
theorem zt_ap_1 (hp : ∀ q, pat q < 4) (h : zt_M t L L n E l p b en la) {v s : Nat} (hv : v < n) (ha : zt_ap t pat L E l v s) (hb : b (v * 4 + pat s) ≠ 0) : 0 < b (v * 4 + pat s) ∧ b (v * 4 + pat s) < n ∧ zt_ap t pat L E l (b (v * 4 + pat s)) (s + 1) := by
  obtain ⟨hB, hD, hN, hs, hla, hn1, hn2⟩ := h
  obtain ⟨f, f1, f2, f3⟩ := hD.2 v _ hv (hp s) hb
  have nd := hD.1 v f hv f1 f3
  rw [f2] at nd
  refine ⟨nd.1, nd.2.1, fun e he => ?_⟩
  by_cases e0 : e = 0
  · subst e0
    have r1 := zt_V_r (t := t) (L := L) (e := E (b (v * 4 + pat s))) (f := 0) (hB.2.1 _ nd.2.1).1 (by omega)
    have := nd.2.2.2.1
    omega
  · obtain ⟨x, rfl⟩ : ∃ x, e = x + 1 := ⟨e - 1, by omega⟩
    rw [zt_nd_iff (Nat.le_refl _) hB hD hv (hp s) hb x (by omega), ha x (by omega)]
    constructor
    · rintro ⟨a, c, d⟩
      refine ⟨by omega, fun q hq => ?_⟩
      by_cases eq : q = s
      · have e1 : x + 1 - (s + 1) + q = x := by omega
        rw [e1, a, eq]
      · have e1 : x + 1 - (s + 1) + q = x - s + q := by omega
        rw [e1]; exact d q (by omega)
    · rintro ⟨c, d⟩
      refine ⟨?_, by omega, fun q hq => ?_⟩
      · have := d s (by omega)
        have e1 : x + 1 - (s + 1) + s = x := by omega
        rw [e1] at this; exact this
      · have := d q (by omega)
        have e1 : x + 1 - (s + 1) + q = x - s + q := by omega
        rw [e1] at this; exact this
end
end
section
/-! what the reference counts -/
theorem zt_c_int {p : Nat → Prop} (n a : Nat) : ∀ b, a ≤ b → b ≤ n → (∀ s, s < n → (p s ↔ a ≤ s ∧ s < b)) → zt_c p n = b - a := by
  induction n with
  | zero => intro b h1 h2 _; rw [zt_c0]; omega
  | succ n ih =>
    intro b h1 h2 h
    by_cases e : b = n + 1
    · by_cases e2 : a = b
      · rw [zt_cz (n + 1) (fun i hi c => by have := (h i hi).1 c; omega)]; omega
      · rw [zt_ct ((h n (by omega)).2 ⟨by omega, by omega⟩), ih n (by omega) (Nat.le_refl _) (fun s hs => by
          rw [h s (by omega)]
          exact ⟨fun x => ⟨x.1, hs⟩, fun x => ⟨x.1, by omega⟩⟩)]
        omega
    · rw [zt_cf (fun c => by have := (h n (by omega)).1 c; omega)]
      exact ih b h1 (by omega) (fun s hs => h s (by omega))
/-- at how many places the s letters of i stand -/
noncomputable def zt_w (g : Nat → Nat) (L i s : Nat) : Nat := zt_c (fun j => s ≤ zt_N g L i j) L
noncomputable def zt_RP (g : Nat → Nat) (L t : Nat) : Nat := zt_s (fun i => zt_c (fun s => zt_Q g L (fun i => i) i s ∧ t ≤ zt_w g L i (s + 1)) L) L
theorem zt_w_mono {g : Nat → Nat} {L i s s' : Nat} (h : s ≤ s') : zt_w g L i s' ≤ zt_w g L i s := zt_cle L fun j _ hj => by omega
theorem zt_w_pos {g : Nat → Nat} {L i s : Nat} (hi : i < L) (h : i + s ≤ L) : 1 ≤ zt_w g L i s :=
  zt_cge1 (p := fun j => s ≤ zt_N g L i j) L i hi (by rw [zt_N_s (by omega)]; omega)
theorem zt_RP_1 (g : Nat → Nat) (L : Nat) : zt_RP g L 1 = zt_D g L (fun i => i) := by
  refine zt_sc L fun i hi => zt_cc L fun s hs => ⟨fun h => h.1, fun h => ⟨h, zt_w_pos hi h.1⟩⟩
theorem zt_Q_m {g : Nat → Nat} {L i s : Nat} (hi : i < L) : zt_Q g L (fun i => i) i s ↔ i + (s + 1) ≤ L ∧ zt_m (fun j => zt_N g L j i) i < s + 1 := by
  constructor
  · intro h
    refine ⟨h.1, ?_⟩
    rcases zt_m_is (fun j => zt_N g L j i) i with e | ⟨j, hj, e⟩
    · omega
    · rw [← e]; exact h.2 j (by omega) hj
  · intro h
    refine ⟨h.1, fun j hj hr => ?_⟩
    have := zt_m_ge (f := fun j => zt_N g L j i) (n := i) (i := j) hr
    have h2 := h.2
    omega
theorem zt_RP_row {g : Nat → Nat} {L i m b t : Nat} (hi : i < L) (hm : zt_m (fun j => zt_N g L j i) i = m) (h0 : m ≤ b) (hb : i + b ≤ L) (h1 : ∀ s, m ≤ s → s < b → t ≤ zt_w g L i (s + 1)) (h2 : i + b = L ∨ ¬ t ≤ zt_w g L i (b + 1)) : zt_c (fun s => zt_Q g L (fun i => i) i s ∧ t ≤ zt_w g L i (s + 1)) L = b - m := by
  refine zt_c_int L m b h0 (by omega) fun s hs => ?_
  rw [zt_Q_m hi, hm]
  constructor
  · rintro ⟨⟨a1, a2⟩, a3⟩
    refine ⟨by omega, ?_⟩
    refine Classical.byContradiction fun c => ?_
    rcases h2 with e | e
    · omega
    · have := zt_w_mono (g := g) (L := L) (i := i) (s := b + 1) (s' := s + 1) (by omega)
      omega
  · rintro ⟨a1, a2⟩
    exact ⟨⟨by omega, by omega⟩, h1 s a1 a2⟩
/-- from the least place on -/
theorem zt_w_from {g : Nat → Nat} {L i s : Nat} (hi : i < L) (hm : zt_m (fun j => zt_N g L j i) i < s) : zt_c (fun j => i ≤ j ∧ s ≤ zt_N g L j i) L = zt_w g L i s := by
  refine zt_cc L fun j hj => ?_
  rw [zt_N_c (i := i) (by omega) (by omega)]
  refine ⟨fun h => h.2, fun h => ⟨?_, h⟩⟩
  refine Classical.byContradiction fun c => ?_
  have := zt_m_ge (f := fun j => zt_N g L j i) (n := i) (i := j) (by omega)
  omega
/-- the most shared with the others -/
def zt_ms (g : Nat → Nat) (L i n : Nat) : Nat := zt_m (fun j => if j = i then 0 else zt_N g L j i) n
theorem zt_ms_i (g : Nat → Nat) (L i : Nat) : zt_ms g L i i = zt_m (fun j => zt_N g L j i) i :=
  zt_m_c i fun j hj => if_neg (by omega)
theorem zt_ms_le {g : Nat → Nat} {L i n : Nat} (hi : i ≤ L) (hn : n ≤ L) : i + zt_ms g L i n ≤ L := by
  have : zt_ms g L i n ≤ L - i := zt_m_le fun j hj => by
    split
    · omega
    · have := zt_N_j (g := g) (L := L) (i := j) (j := i) (by omega) hi
      omega
  omega
/-- the longest by places -/
theorem zt_G_pl {g : Nat → Nat} {L : Nat} {m : Nat} (h1 : ∀ i j, i < L → j < i → zt_N g L i j ≤ m) (h2 : m = 0 ∨ ∃ i j, i < L ∧ j < i ∧ zt_N g L i j = m) : zt_G g L m := by
  refine ⟨fun i j hi hj ne => ?_, ?_⟩
  · by_cases c : j < i
    · exact h1 i j hi c
    · rw [zt_N_c (by omega) (by omega)]; exact h1 j i hj (by omega)
  · rcases h2 with e | ⟨i, j, hi, hj, e⟩
    · exact Or.inl e
    · exact Or.inr ⟨i, j, hi, by omega, by omega, e⟩
end
section
/-! the text with its end, what the tails share by one letter more -/
def zt_g (t : Nat → Nat) (L : Nat) : Nat → Nat := fun i => if i < L then t i + 1 else 0
theorem zt_g_lt {t : Nat → Nat} {L i : Nat} (h : i < L) : zt_g t L i = t i + 1 := if_pos h
theorem zt_g_ge {t : Nat → Nat} {L i : Nat} (h : L ≤ i) : zt_g t L i = 0 := if_neg (by omega)
theorem zt_g_Z (t : Nat → Nat) (L : Nat) : zt_Z (zt_g t L) L := fun i => by
  by_cases h : i < L
  · rw [zt_g_lt h]; omega
  · rw [zt_g_ge (by omega)]; omega
theorem zt_g_4 {t : Nat → Nat} (ht : ∀ i, t i < 4) (L i : Nat) : zt_g t L i ≤ 4 := by
  by_cases h : i < L
  · rw [zt_g_lt h]; have := ht i; omega
  · rw [zt_g_ge (by omega)]; omega
theorem zt_g_eq {t : Nat → Nat} {L i j : Nat} (hi : i < L) (hj : j < L) : zt_g t L i = zt_g t L j ↔ t i = t j := by
  rw [zt_g_lt hi, zt_g_lt hj]; omega
theorem zt_N_rec1 {g : Nat → Nat} {L i j : Nat} (hi : i < L) (hj : j < L) (h : g i = g j) : zt_N g L i j = zt_N g L (i + 1) (j + 1) + 1 := by
  have a := (zt_N_iff (g := g) (L := L) (i := i + 1) (j := j + 1) (by omega) (by omega) _).1 (Nat.le_refl _)
  refine zt_N_un (by omega) (by omega) (by omega) (by omega) (fun q hq => ?_) ?_
  · by_cases e : q = 0
    · subst e; exact h
    · have := a.2.2 (q - 1) (by omega)
      have e1 : i + 1 + (q - 1) = i + q := by omega
      have e2 : j + 1 + (q - 1) = j + q := by omega
      rw [e1, e2] at this; exact this
  · by_cases c1 : i + (zt_N g L (i + 1) (j + 1) + 1) = L
    · exact Or.inl c1
    · by_cases c2 : j + (zt_N g L (i + 1) (j + 1) + 1) = L
      · exact Or.inr (Or.inl c2)
      · refine Or.inr (Or.inr ?_)
        have := zt_N_ne (g := g) (L := L) (i := i + 1) (j := j + 1) (by omega) (by omega) (by omega) (by omega)
        have e1 : i + 1 + zt_N g L (i + 1) (j + 1) = i + (zt_N g L (i + 1) (j + 1) + 1) := by omega
        have e2 : j + 1 + zt_N g L (i + 1) (j + 1) = j + (zt_N g L (i + 1) (j + 1) + 1) := by omega
        rw [e1, e2] at this; exact this
theorem zt_N_rec0 {g : Nat → Nat} {L i j : Nat} (h : L ≤ i ∨ L ≤ j ∨ g i ≠ g j) : zt_N g L i j = 0 := by
  by_cases c : i < L ∧ j < L
  · rcases h with a | a | a
    · omega
    · omega
    · exact zt_N_un (by omega) (by omega) (by omega) (by omega) (fun q hq => by omega) (Or.inr (Or.inr a))
  · unfold zt_N
    have : L - (if i < j then j else i) = 0 := by split <;> omega
    rw [this]; rfl
/-- the length of what two tails share, letter by letter -/
theorem zt_N_go {g : Nat → Nat} {L i j s : Nat} (hi : i ≤ L) (hj : j ≤ L) (h : s ≤ zt_N g L i j) (h1 : i + s < L) (h2 : j + s < L) : (g (i + s) = g (j + s) → s + 1 ≤ zt_N g L i j) ∧ (g (i + s) ≠ g (j + s) → zt_N g L i j = s) := by
  have a := (zt_N_iff (g := g) hi hj s).1 h
  constructor
  · intro e
    refine (zt_N_iff hi hj _).2 ⟨by omega, by omega, fun q hq => ?_⟩
    by_cases c : q = s
    · subst c; exact e
    · exact a.2.2 q (by omega)
  · intro e
    exact zt_N_un hi hj (by omega) (by omega) a.2.2 (Or.inr (Or.inr e))
theorem zt_N_max {g : Nat → Nat} {L i j s : Nat} (hi : i ≤ L) (hj : j ≤ L) (h : s ≤ zt_N g L i j) (h1 : L ≤ i + s ∨ L ≤ j + s) : zt_N g L i j = s := by
  have a := zt_N_i (g := g) hi hj
  have b := zt_N_j (g := g) hi hj
  omega
theorem zt_upc (f : Nat → Nat) {a b : Nat} (x y : Nat) (h : a ≠ b) : zt_up (zt_up f a x) b y = zt_up (zt_up f b y) a x := by
  funext j
  unfold zt_up
  by_cases c : j = a
  · subst c; rw [if_neg h, if_pos rfl, if_pos rfl]
  · rw [if_neg c]
    by_cases d : j = b
    · rw [if_pos d, if_neg c]
    · rw [if_neg d, if_neg c]
theorem zt_upp (f : Nat → Nat) (a x y : Nat) : zt_up (zt_up f a x) a y = zt_up f a y := by
  funext j
  unfold zt_up
  by_cases c : j = a
  · rw [if_pos c, if_pos c]
  · rw [if_neg c, if_neg c, if_neg c]
theorem zt_ups (f : Nat → Nat) (a w : Nat) : (fun v => zt_up f a (w + 1) v - 1) = zt_up (fun v => f v - 1) a w := by
  funext j
  unfold zt_up
  by_cases c : j = a
  · rw [if_pos c, if_pos c]; omega
  · rw [if_neg c, if_neg c]
end
section
/-! a letter read: the branches turned along the links -/
section
variable {t : Nat → Nat} {L k n e : Nat} {E l p b b' : Nat → Nat}
theorem zt_T_next (hk : k ≤ L) (hB : zt_BV t L k n E l p) (he : e ≤ k) {v : Nat} (hv : v < n) (on : zt_On t L e E l v) : (v = 0 → ∀ u, u < n → zt_On t L e E l u → l v + 1 ≤ l u ∨ u = v) ∧ (0 < v → p v < n ∧ zt_On t L e E l (p v) ∧ l (p v) < l v ∧ ∀ u, u < n → zt_On t L e E l u → l (p v) + 1 ≤ l u → l v + 1 ≤ l u ∨ u = v) := by
  constructor
  · intro z u hu onu
    subst z
    by_cases c : l 0 + 1 ≤ l u
    · exact Or.inl c
    · right
      have h0 := hB.1.2
      exact hB.2.2.2.1 u 0 hu hv (by omega) (by omega)
  · intro v0
    have a := zt_chain_p hB v0 hv on
    refine ⟨a.1, a.2.2, a.2.1, fun u hu onu hl => ?_⟩
    by_cases c : l v + 1 ≤ l u
    · exact Or.inl c
    · right
      by_cases d : l u < l v
      · have := (zt_chain hk hB he v0 hv hu on onu d).1
        omega
      · exact hB.2.2.2.1 u v hu hv (by omega) (zt_V_u onu (by rw [zt_V_c]; have : l v ≤ zt_V t L (E v) e := on; omega))
/-- the first turning: all on the way of k with d letters or more are done -/
def zt_T1 (t : Nat → Nat) (L k n : Nat) (E l b : Nat → Nat) (d : Nat) (b' : Nat → Nat) : Prop :=
  (∀ c, c < 4 → b' (n * 4 + c) = 0) ∧ (∀ u, u < n → zt_On t L k E l u → d ≤ l u → b (u * 4 + t k) = 0 ∧ b' (u * 4 + t k) = n) ∧ ∀ u c, u < n → c < 4 → ¬ (c = t k ∧ zt_On t L k E l u ∧ d ≤ l u) → b' (u * 4 + c) = b (u * 4 + c)
theorem zt_T1_0 (hk : k ≤ L) (hB : zt_BV t L k n E l p) {d : Nat} (hd : k < d) (h0 : ∀ c, c < 4 → b' (n * 4 + c) = 0) (h1 : ∀ u c, u < n → c < 4 → b' (u * 4 + c) = b (u * 4 + c)) : zt_T1 t L k n E l b d b' :=
  ⟨h0, fun u hu on hd' => by
    have a : l u ≤ zt_V t L (E u) k := on
    have b1 : E u ≤ k := (hB.2.1 u hu).1
    have := zt_V_r (t := t) (L := L) (e := E u) (f := k) (by omega) hk
    omega, fun u c hu hc _ => h1 u c hu hc⟩
theorem zt_T1_1 (ht : ∀ i, t i < 4) {v d : Nat} (hv : v < n) (h : zt_T1 t L k n E l b (l v + 1) b') (hz : b' (v * 4 + t k) = 0) (hd : d ≤ l v) (hn : ∀ u, u < n → zt_On t L k E l u → d ≤ l u → l v + 1 ≤ l u ∨ u = v) (on : zt_On t L k E l v) : zt_T1 t L k n E l b d (zt_up b' (v * 4 + t k) n) := by
  obtain ⟨h0, h1, h2⟩ := h
  have tk := ht k
  refine ⟨fun c hc => ?_, fun u hu onu hl => ?_, fun u c hu hc hne => ?_⟩
  · rw [zt_un _ _ (by omega)]; exact h0 c hc
  · rcases hn u hu onu hl with a | a
    · by_cases c : u = v
      · subst c; omega
      · rw [zt_un _ _ (by omega)]; exact h1 u hu onu a
    · subst a
      rw [zt_us]
      refine ⟨?_, rfl⟩
      rw [← h2 u (t k) hu tk (fun x => by omega)]
      exact hz
  · have ne : ¬ (u = v ∧ c = t k) := fun x => hne ⟨x.2, by rw [x.1]; exact on, by rw [x.1]; exact hd⟩
    rw [zt_un _ _ (by omega)]
    exact h2 u c hu hc (fun x => hne ⟨x.1, x.2.1, by omega⟩)
/-- nothing found -/
theorem zt_T1_none {en en' : Nat → Nat} {la : Nat} (ht : ∀ i, t i < 4) (hk : k < L) (h : zt_M t L k n E l p b en la) (hT : zt_T1 t L k n E l b 0 b') (n0 : en' n = k + 1) (n1 : ∀ u, u < n → en' u = en u) : zt_M t L (k + 1) (n + 1) (zt_up E n (k + 1)) (zt_up l n (k + 1)) (zt_up p n 0) b' en' n := by
  have hB := h.1
  have hD := h.2.1
  obtain ⟨h0, h1, h2⟩ := hT
  have ss := zt_ss hk hB hD (d := 0) (fun u hu on _ => (h1 u hu on (Nat.zero_le _)).1)
  have r0 : zt_V t L (k + 1) 0 = 0 := by
    have := ss 0 (Nat.zero_le _)
    omega
  exact zt_M_leaf hk h (r := 0) (m := 0) (w := 0) (Nat.zero_le _) r0 ss hB.1.1 hB.1.2 (Nat.zero_le _) (Or.inl rfl) h0 (fun u hu on _ => (h1 u hu on (Nat.zero_le _)).2) (fun u c hu hc hne => h2 u c hu hc hne) ht n0 n1
/-- what is known where it stops: at v, with the branch x -/
theorem zt_T1_stop (ht : ∀ i, t i < 4) (hk : k < L) (hB : zt_BV t L k n E l p) (hD : zt_dl t L k n E l p b) {v : Nat} (hv : v < n) (on : zt_On t L k E l v) (hT : zt_T1 t L k n E l b (l v + 1) b') (hx : b' (v * 4 + t k) ≠ 0) : b' (v * 4 + t k) = b (v * 4 + t k) ∧ (∀ e, e ≤ k → zt_V t L (k + 1) e ≤ l v + 1) ∧ ∃ e0, e0 < k ∧ t e0 = t k ∧ l v + 1 = zt_V t L k e0 + 1 ∧ zt_V t L (k + 1) (e0 + 1) = l v + 1 ∧ zt_nd t L n E l p (b (v * 4 + t k)) (e0 + 1) (l v + 1) := by
  obtain ⟨h0, h1, h2⟩ := hT
  have e1 := h2 v (t k) hv (ht k) (fun x => by omega)
  have ss := zt_ss hk hB hD (d := l v + 1) (fun u hu onu hd => (h1 u hu onu hd).1)
  refine ⟨e1, ss, ?_⟩
  rw [e1] at hx
  obtain ⟨e0, q1, q2, q3⟩ := hD.2 v (t k) hv (ht k) hx
  have nd := hD.1 v e0 hv q1 q3
  rw [q2] at nd
  have a : l v ≤ zt_V t L k e0 := zt_V_u (by rw [zt_V_c]; exact on) q3
  have c := (zt_V_suc (t := t) (L := L) (e := k) (f := e0) (s := zt_V t L k e0) hk (by omega)).2 ⟨q2.symm, Nat.le_refl _⟩
  have d := ss (e0 + 1) (by omega)
  exact ⟨e0, q1, q2, by omega, by omega, nd⟩
/-- the branch is the longest of its state already -/
theorem zt_T1_leaf {en en' : Nat → Nat} {la : Nat} (ht : ∀ i, t i < 4) (hk : k < L) (h : zt_M t L k n E l p b en la) {v x : Nat} (hv : v < n) (on : zt_On t L k E l v) (hT : zt_T1 t L k n E l b (l v + 1) b') (hx : b' (v * 4 + t k) = x) (x0 : x ≠ 0) (hl : l x = l v + 1) (n0 : en' n = k + 1) (n1 : ∀ u, u < n → en' u = en u) : zt_M t L (k + 1) (n + 1) (zt_up E n (k + 1)) (zt_up l n (k + 1)) (zt_up p n x) b' en' n := by
  obtain ⟨e1, ss, e0, q1, q2, q3, q4, nd⟩ := zt_T1_stop ht hk h.1 h.2.1 hv on hT (by omega)
  rw [← e1, hx] at nd
  obtain ⟨h0, h1, h2⟩ := hT
  refine zt_M_leaf hk h (r := e0 + 1) (m := l v + 1) (w := x) (by omega) q4 ss nd.2.1 hl ?_ (Or.inr ⟨e0, q1, q2, q3⟩) h0 (fun u hu onu hd => (h1 u hu onu hd).2) (fun u c hu hc hne => h2 u c hu hc hne) ht n0 n1
  exact zt_V_u nd.2.2.2.2 (by rw [zt_V_c]; omega)
/-- the second turning, from x to its twin -/
def zt_T2 (t : Nat → Nat) (L k n : Nat) (E l b : Nat → Nat) (x m : Nat) (b1 : Nat → Nat) (d : Nat) (b' : Nat → Nat) : Prop :=
  (∀ u, u < n → zt_On t L k E l u → d ≤ l u → l u < m → b (u * 4 + t k) = x ∧ b' (u * 4 + t k) = n + 1) ∧ ∀ u c, u < n + 2 → c < 4 → ¬ (u < n ∧ c = t k ∧ zt_On t L k E l u ∧ d ≤ l u ∧ l u < m) → b' (u * 4 + c) = b1 (u * 4 + c)
theorem zt_T2_0 {x m : Nat} {b1 : Nat → Nat} : zt_T2 t L k n E l b x m b1 m b1 := ⟨fun u _ _ h1 h2 => by omega, fun _ _ _ _ _ => rfl⟩
theorem zt_T2_1 (ht : ∀ i, t i < 4) {x m v d : Nat} {b1 : Nat → Nat} (hv : v < n) (hb1 : ∀ u c, u < n → c < 4 → ¬ (c = t k ∧ zt_On t L k E l u ∧ m ≤ l u) → b1 (u * 4 + c) = b (u * 4 + c)) (hvm : l v < m) (h : zt_T2 t L k n E l b x m b1 (l v + 1) b') (hz : b' (v * 4 + t k) = x) (hd : d ≤ l v) (hn : ∀ u, u < n → zt_On t L k E l u → d ≤ l u → l v + 1 ≤ l u ∨ u = v) (on : zt_On t L k E l v) : zt_T2 t L k n E l b x m b1 d (zt_up b' (v * 4 + t k) (n + 1)) := by
  obtain ⟨h1, h2⟩ := h
  have tk := ht k
  refine ⟨fun u hu onu hl hm => ?_, fun u c hu hc hne => ?_⟩
  · rcases hn u hu onu hl with a | a
    · by_cases c : u = v
      · subst c; omega
      · rw [zt_un _ _ (by omega)]; exact h1 u hu onu a hm
    · subst a
      rw [zt_us]
      refine ⟨?_, rfl⟩
      rw [← hb1 u (t k) hu tk (fun y => by omega), ← h2 u (t k) (by omega) tk (fun y => by omega)]
      exact hz
  · have ne : ¬ (u = v ∧ c = t k) := fun y => hne ⟨by omega, y.2, by rw [y.1]; exact on, by rw [y.1]; exact hd, by rw [y.1]; exact hvm⟩
    rw [zt_un _ _ (by omega)]
    exact h2 u c hu hc (fun y => hne ⟨y.1, y.2.1, y.2.2.1, by omega, y.2.2.2.2⟩)
/-- the branches into x lie together -/
theorem zt_T2_c (ht : ∀ i, t i < 4) (hk : k < L) (hB : zt_BV t L k n E l p) (hD : zt_dl t L k n E l p b) {v x e0 u u' : Nat} (q1 : e0 < k) (q2 : t e0 = t k) (q3 : l v + 1 = zt_V t L k e0 + 1) (nd : zt_nd t L n E l p x (e0 + 1) (l v + 1)) (hu : u < n) (hu' : u' < n) (on : zt_On t L k E l u) (on' : zt_On t L k E l u') (h1 : l u < l u') (h2 : l u' ≤ l v) (hx : b (u * 4 + t k) = x) : b (u' * 4 + t k) = x := by
  have hU := zt_U_Vk t (L := L) (k := k) (by omega)
  have hF := zt_F_S hU
  have a := hD.1 u e0 hu q1 (zt_V_u on (by omega))
  have a' := hD.1 u' e0 hu' q1 (zt_V_u on' (by omega))
  rw [q2] at a a'
  rw [hx] at a
  obtain ⟨a1, a2, a3, a4, a5⟩ := a
  obtain ⟨c1, c2, c3, c4, c5⟩ := a'
  obtain ⟨d1, d2, d3, d4, d5⟩ := nd
  exact zt_B_one hU hF hB c1 c2 d1 d2 (e := e0 + 1) (s := l u' + 1) (by omega) c3 c4 c5 (by omega) (by omega) (by omega)
theorem zt_T2_end {en en' : Nat → Nat} {la : Nat} (ht : ∀ i, t i < 4) (hk : k < L) (h : zt_M t L k n E l p b en la) {v x : Nat} {b0 b1 : Nat → Nat} (hv : v < n) (on : zt_On t L k E l v) (hT : zt_T1 t L k n E l b (l v + 1) b0) (hx : b0 (v * 4 + t k) = x) (x0 : x ≠ 0) (hl : l x ≠ l v + 1)
    (hb1 : ∀ u c, u < n + 1 → c < 4 → b1 (u * 4 + c) = b0 (u * 4 + c)) (hb2 : ∀ c, c < 4 → b1 ((n + 1) * 4 + c) = b0 (x * 4 + c))
    {d : Nat} (hT2 : zt_T2 t L k n E l b x (l v + 1) b1 d b') (hd : d = 0 ∨ ∃ w, w < n ∧ zt_On t L k E l w ∧ l w ≤ l v ∧ d = l w + 1 ∧ b' (w * 4 + t k) ≠ x)
    (n0 : en' n = k + 1) (n2 : en' (n + 1) = 0) (n1 : ∀ u, u < n → en' u = en u) : zt_M t L (k + 1) (n + 2) (zt_up (zt_up E (n + 1) (E x)) n (k + 1)) (zt_up (zt_up l (n + 1) (l v + 1)) n (k + 1)) (zt_up (zt_up (zt_up p (n + 1) (p x)) x (n + 1)) n (n + 1)) b' en' n := by
  obtain ⟨e1, ss, e0, q1, q2, q3, q4, nd⟩ := zt_T1_stop ht hk h.1 h.2.1 hv on hT (by omega)
  rw [← e1, hx] at nd
  have hc := fun u u' hu hu' on on' => zt_T2_c ht hk h.1 h.2.1 (u := u) (u' := u') q1 q2 q3 nd hu hu' on on'
  obtain ⟨h0, h1, h2⟩ := hT
  obtain ⟨g1, g2⟩ := hT2
  obtain ⟨y1, y2, y3, y4, y5⟩ := nd
  have tk := ht k
  have o1 : ∀ u c, u < n → c < 4 → ¬ (c = t k ∧ zt_On t L k E l u ∧ l v + 1 ≤ l u) → b1 (u * 4 + c) = b (u * 4 + c) := fun u c hu hc' hne => (hb1 u c (by omega) hc').trans (h2 u c hu hc' hne)
  refine zt_M_twin hk h (e0 := e0) (m := l v + 1) ss y1 y2 y3 (by omega) q1 q2 q3 y5 (fun c hc' => ?_) (fun u hu onu hm => ?_) (fun u hu onu hm hbx => ?_) (fun u c hu hc' hne => ?_) (fun c hc' => ?_) ht n0 n2 n1
  · rw [g2 n c (by omega) hc' (fun y => by omega), hb1 n c (by omega) hc']; exact h0 c hc'
  · rw [g2 u (t k) (by omega) tk (fun y => by omega), hb1 u _ (by omega) tk]; exact (h1 u hu onu hm).2
  · by_cases du : d ≤ l u
    · exact (g1 u hu onu du hm).2
    · exfalso
      rcases hd with z | ⟨w, hw, onw, lw, dw, ne⟩
      · omega
      · have ew : b' (w * 4 + t k) = b (w * 4 + t k) := by
          rw [g2 w (t k) (by omega) tk (fun y => by omega)]
          exact o1 w (t k) hw tk (fun y => by omega)
        by_cases c : l u < l w
        · exact ne (ew.trans (hc u w hu hw onu onw c lw hbx))
        · have e : u = w := h.1.2.2.2.1 u w hu hw (by omega) (zt_V_u onu (by rw [zt_V_c]; have : l w ≤ zt_V t L (E w) k := onw; omega))
          subst e
          exact ne (ew.trans hbx)
  · rw [g2 u c (by omega) hc' (fun y => hne ⟨y.2.1, y.2.2.1, Or.inr (by rw [y.2.1]; exact (g1 u hu y.2.2.1 y.2.2.2.1 y.2.2.2.2).1)⟩)]
    exact o1 u c hu hc' (fun y => hne ⟨y.1, y.2.1, Or.inl y.2.2⟩)
  · rw [g2 (n + 1) c (by omega) hc' (fun y => by omega), hb2 c hc', g2 x c (by omega) hc' (fun y => by omega), hb1 x c (by omega) hc']
end
end
section
/-! hanging a tail, step by step: A on the way down, B where the tail leaves the others, C at its end -/
def zt_hA (g : Nat → Nat) (L k n : Nat) (E l p b nt : Nat → Nat) (v : Nat) : Prop := zt_H g L k n E l p b nt ∧ v < n ∧ l v ≤ zt_N g L (E v) k
def zt_hB (g : Nat → Nat) (L k n : Nat) (E l p b nt : Nat → Nat) (v : Nat) : Prop := ∃ r, zt_J g L k n (zt_SQ g L k r (l v)) E l p b nt (zt_sg g L k) ∧ n ≤ 2 * k + 2 ∧ zt_P L k r ∧ zt_N g L k r = l v ∧ (∀ e, zt_P L k e → zt_N g L k e ≤ l v) ∧ v < n ∧ l v ≤ zt_N g L (E v) k ∧ ∀ c, g (k + l v) = c + 1 → b (v * 4 + c) = 0
def zt_hC (g : Nat → Nat) (L k n : Nat) (E l p b nt : Nat → Nat) (v : Nat) : Prop := v < n ∧ n ≤ 2 * k + 3 ∧ k + l v = L ∧ ∀ nt', nt' v = k + 1 → (∀ u, u < n → u ≠ v → nt' u = nt u) → zt_H g L (k + 1) n E l p b nt'
section
variable {g : Nat → Nat} {L k n : Nat} {E l p b nt b' nt' : Nat → Nat} {v : Nat}
theorem zt_hA_B (hz : zt_Z g L) (hk : k < L) (h : zt_hA g L k n E l p b nt v) (hc : k + l v = L ∨ ∃ c, g (k + l v) = c + 1 ∧ b (v * 4 + c) = 0) : zt_hB g L k n E l p b nt v := by
  obtain ⟨⟨hJ, hn⟩, hv, hM⟩ := h
  have hU := zt_U_P g (L := L) (k := k) (by omega)
  have hF := zt_F_S hU
  have hA := hJ.1.2.1
  have pv := (hA v hv).1
  have pvL := zt_P_L (by omega) pv
  have hmax : ∀ e, zt_P L k e → zt_N g L k e ≤ l v := by
    intro e he
    rcases hc with a | ⟨c, a1, a2⟩
    · have := zt_N_i (g := g) (L := L) (i := k) (j := e) (by omega) (zt_P_L (by omega) he)
      omega
    · exact zt_h0 (by omega) hF hJ.1 hJ.2.1 hv (by omega) hM a1 a2 e he
  have rv : zt_N g L k (E v) = l v := Nat.le_antisymm (hmax _ pv) (by rw [zt_N_c (by omega) pvL]; exact hM)
  refine ⟨E v, zt_J_old (by omega) hJ hv pv (hA v hv).2.1, by omega, pv, rv, hmax, hv, hM, fun c hc' => ?_⟩
  rcases hc with a | ⟨c1, a1, a2⟩
  · have := (hz (k + l v)).2 (by omega)
    omega
  · have : c = c1 := by omega
    subst this
    exact a2
theorem zt_hB_leaf (hk : k < L) (h : zt_hB g L k n E l p b nt v) (hlt : k + l v < L) {c : Nat} (hc : c < 4) (hq : g (k + l v) = c + 1) (b0 : ∀ c', c' < 4 → b' (n * 4 + c') = 0) (b1 : b' (v * 4 + c) = n) (b2 : ∀ w c', w < n → c' < 4 → (w ≠ v ∨ c' ≠ c) → b' (w * 4 + c') = b (w * 4 + c')) (n1 : ∀ u, u < n → nt' u = nt u) : zt_hC g L k (n + 1) (zt_up E n k) (zt_up l n (L - k)) (zt_up p n v) b' nt' n := by
  obtain ⟨r, hJ, hn, hr, hm, hmax, hv, hM, hno⟩ := h
  refine ⟨by omega, by omega, by rw [zt_us]; omega, fun nt2 e1 e2 => ?_⟩
  exact zt_J_leaf hk hJ hr hm hmax hv rfl hM (by omega) hc hq (hno c hq) b0 b1 b2 e1 (fun u hu => (e2 u (by omega) (by omega)).trans (n1 u hu)) (by omega)
theorem zt_hB_end (hk : k < L) (h : zt_hB g L k n E l p b nt v) (heq : k + l v = L) : zt_hC g L k n E l p b nt v := by
  obtain ⟨r, hJ, hn, hr, hm, hmax, hv, hM, hno⟩ := h
  exact ⟨hv, by omega, heq, fun nt2 e1 e2 => zt_J_end hk hJ hr hm hmax hv rfl hM (by omega) e1 e2 (by omega)⟩
/-- the way down -/
theorem zt_hA_x (hk : k < L) (h : zt_hA g L k n E l p b nt v) (hlt : k + l v < L) {c : Nat} (hc : c < 4) (hq : g (k + l v) = c + 1) (x0 : b (v * 4 + c) ≠ 0) : b (v * 4 + c) < n ∧ E (b (v * 4 + c)) + l (b (v * 4 + c)) ≤ L ∧ l v < l (b (v * 4 + c)) ∧ l v < zt_N g L (E (b (v * 4 + c))) k ∧ p (b (v * 4 + c)) = v := by
  obtain ⟨⟨hJ, hn⟩, hv, hM⟩ := h
  have hF := zt_F_S (zt_U_P g (L := L) (k := k) (by omega))
  obtain ⟨a1, a2, a3, a4, a5, a6⟩ := zt_h1 (by omega) hF hJ.1 hJ.2.1 hv hc hk hlt hM hq x0
  have hA := hJ.1.2.1 _ a2
  have pL := zt_P_L (by omega) hA.1
  have lx := hA.2.1
  rw [zt_N_s pL] at lx
  exact ⟨a2, by omega, a4, a5, a3⟩
theorem zt_hA_dn (hk : k < L) (h : zt_hA g L k n E l p b nt v) (hlt : k + l v < L) {c : Nat} (hc : c < 4) (hq : g (k + l v) = c + 1) (x0 : b (v * 4 + c) ≠ 0) (hs : l (b (v * 4 + c)) ≤ zt_N g L (E (b (v * 4 + c))) k) : zt_hA g L k n E l p b nt (b (v * 4 + c)) :=
  ⟨h.1, (zt_hA_x hk h hlt hc hq x0).1, hs⟩
theorem zt_hA_mid (hz : zt_Z g L) (h4 : ∀ i, g i ≤ 4) (hk : k < L) (h : zt_hA g L k n E l p b nt v) (hlt : k + l v < L) {c x s d : Nat} (hc : c < 4) (hq : g (k + l v) = c + 1) (hx : b (v * 4 + c) = x) (x0 : x ≠ 0) (hs : zt_N g L (E x) k = s) (hsl : s < l x) (hd : d < 4) (g2 : g (E x + s) = d + 1) (b1 : b' (v * 4 + c) = n) (b2 : b' (n * 4 + d) = x) (b0 : ∀ c', c' < 4 → c' ≠ d → b' (n * 4 + c') = 0) (b3 : ∀ w c', w < n → c' < 4 → (w ≠ v ∨ c' ≠ c) → b' (w * 4 + c') = b (w * 4 + c')) (n0 : nt' n = 0) (n1 : ∀ u, u < n → nt' u = nt u) : zt_hB g L k (n + 1) (zt_up E n (E x)) (zt_up l n s) (zt_up (zt_up p n v) x n) b' nt' n := by
  obtain ⟨⟨hJ, hn⟩, hv, hM⟩ := h
  have hF := zt_F_S (zt_U_P g (L := L) (k := k) (by omega))
  have a := zt_h1 (by omega) hF hJ.1 hJ.2.1 hv hc hk hlt hM hq (by omega)
  rw [hx] at a
  obtain ⟨a1, a2, a3, a4, a5, a6⟩ := a
  have hA := hJ.1.2.1 _ a2
  have pL := zt_P_L (by omega) hA.1
  have r3 := (hJ.2.1.1 v c hv hc (by omega)).2.2
  rw [hx] at r3
  have hm : zt_N g L k (E x) = s := by rw [zt_N_c (by omega) pL]; exact hs
  have J := zt_J_mid (m := s) (by omega) hJ a1 a2 a3 hc hd (by omega) hsl hx r3 g2 b1 b2 b0 b3 n0 n1
  have el : zt_up l n s n = s := zt_us _ _ _
  have eE : zt_up E n (E x) n = E x := zt_us _ _ _
  unfold zt_hB
  rw [el, eE]
  refine ⟨E x, J, by omega, hA.1, hm, fun e he => ?_, by omega, by omega, fun c' hc' => ?_⟩
  · have := a6 (by omega) e he
    omega
  · by_cases e : c' = d
    · exfalso
      subst e
      have l1 : ¬ L ≤ E x + s := fun z => by
        have := (hz (E x + s)).2 z
        omega
      have l2 : ¬ L ≤ k + s := fun z => by
        have := (hz (k + s)).2 z
        omega
      have := zt_N_ne (g := g) (L := L) (i := E x) (j := k) pL (by omega) (by omega) (by omega)
      rw [hs] at this
      omega
    · exact b0 c' (by have := h4 (k + s); omega) e
end
end
section
/-! the column as it grows, and the search in it -/
def zt_CO (g : Nat → Nat) (L p : Nat) (col : Nat → Nat) : Prop := ∀ i, p ≤ i → i ≤ L → col (zt_rk g L p i) = if i = p then 0 else g (i - 1)
section
variable {g : Nat → Nat} {L : Nat} {col col' col'' : Nat → Nat}
theorem zt_rk_LL : zt_rk g L L L = 0 := by
  have := zt_rk_lt (g := g) (p := L) (i := L) (L := L) (Nat.le_refl _) (Nat.le_refl _)
  omega
theorem zt_CO_0 (h : col 0 = 0) : zt_CO g L L col := by
  intro i h1 h2
  have : i = L := by omega
  subst this
  rw [zt_rk_LL, if_pos rfl]; exact h
theorem zt_CO_u (hz : zt_Z g L) {q c : Nat} (hq : q + 1 ≤ L) (h : zt_CO g L (q + 1) col) (hc : g q = c + 1) (i : Nat) (h1 : q + 1 ≤ i) (h2 : i ≤ L) : zt_up col (zt_rk g L (q + 1) (q + 1)) (c + 1) (zt_rk g L (q + 1) i) = g (i - 1) := by
  by_cases e : i = q + 1
  · subst e
    rw [zt_us, Nat.add_sub_cancel, hc]
  · rw [zt_un _ _ (fun x => e (zt_rk_inj hz h1 h2 (Nat.le_refl _) hq x)), h i h1 h2, if_neg e]
theorem zt_CO_w (hz : zt_Z g L) {q c : Nat} (hq : q + 1 ≤ L) (h : zt_CO g L (q + 1) col) (hc : g q = c + 1) : 1 + zt_c (fun o => (0 < zt_up col (zt_rk g L (q + 1) (q + 1)) (c + 1) o ∧ zt_up col (zt_rk g L (q + 1) (q + 1)) (c + 1) o < c + 1) ∨ (zt_up col (zt_rk g L (q + 1) (q + 1)) (c + 1) o = c + 1 ∧ o < zt_rk g L (q + 1) (q + 1))) (L + 1 - (q + 1)) = zt_rk g L q q := by
  have a := zt_row (g := g) (L := L) (p := q + 1) hz (S := fun i => zt_T g i (q + 1)) hq q (by omega) (by omega) (zt_dn_T (q + 1)) (h := fun i => g (i - 1)) (zt_CO_u hz hq h hc) (fun i _ _ _ => rfl) (fun e => by omega) c
  refine a.trans (zt_cc (L + 1) fun j _ => ?_)
  exact ⟨fun x => ⟨x.1, (zt_pre_T q c hc j).1 x.2⟩, fun x => ⟨x.1, (zt_pre_T q c hc j).2 x.2⟩⟩
theorem zt_CO_1 (hz : zt_Z g L) {q c : Nat} (hq : q + 1 ≤ L) (h : zt_CO g L (q + 1) col) (hc : g q = c + 1) (h1 : ∀ o, o < zt_rk g L q q → col' o = zt_up col (zt_rk g L (q + 1) (q + 1)) (c + 1) o) (h2 : col' (zt_rk g L q q) = 0) (h3 : ∀ o, zt_rk g L q q ≤ o → o < L + 1 - (q + 1) → col' (o + 1) = zt_up col (zt_rk g L (q + 1) (q + 1)) (c + 1) o) : zt_CO g L q col' := by
  intro i a1 a2
  by_cases e : i = q
  · subst e; rw [if_pos rfl]; exact h2
  · rw [if_neg e, ← zt_CO_u hz hq h hc i (by omega) a2]
    have b := zt_rk_ins (g := g) (L := L) (p := q) hz (i := i) (by omega) a2
    by_cases f : zt_T g q i
    · obtain ⟨b1, b2⟩ := b.1 f
      rw [b1]
      exact h3 _ b2 (zt_rk_lt (by omega) a2)
    · obtain ⟨b1, b2⟩ := b.2 f
      rw [b1]
      exact h1 _ b2
theorem zt_CO_S (hz : zt_Z g L) (h : zt_CO g L 0 col) {S : Nat → Prop} (hS : zt_dn g L 0 S) (c : Nat) : 1 + zt_c (fun o => (0 < col o ∧ col o < c + 1) ∨ (col o = c + 1 ∧ o < zt_c (fun j => 0 ≤ j ∧ S j) (L + 1))) (L + 1) = zt_c (fun j => 0 ≤ j ∧ zt_pre g S c j) (L + 1) :=
  zt_row (g := g) (L := L) (p := 0) hz (Nat.zero_le _) 0 (Nat.le_refl _) (by omega) hS (h := fun i => if i = 0 then 0 else g (i - 1)) (fun i _ hi => h i (Nat.zero_le _) hi) (fun i h0 _ _ => if_neg (by omega)) (fun _ => rfl) c
theorem zt_CO_p (hz : zt_Z g L) (h : zt_CO g L 0 col) {i c : Nat} (hi : i + 1 ≤ L) (hc : g i = c + 1) : 1 + zt_c (fun o => (0 < col o ∧ col o < c + 1) ∨ (col o = c + 1 ∧ o < zt_rk g L 0 (i + 1))) (L + 1) = zt_rk g L 0 i := by
  have a := zt_CO_S hz h (S := fun j => zt_T g j (i + 1)) (zt_dn_T (i + 1)) c
  refine a.trans (zt_cc (L + 1) fun j _ => ?_)
  exact ⟨fun x => ⟨x.1, (zt_pre_T i c hc j).1 x.2⟩, fun x => ⟨x.1, (zt_pre_T i c hc j).2 x.2⟩⟩
/-- the sets of the search -/
def zt_AB (g pat : Nat → Nat) (L m st fr to : Nat) : Prop := ∃ A B : Nat → Prop, zt_dn g L 0 A ∧ zt_dn g L 0 B ∧ fr = zt_c (fun j => 0 ≤ j ∧ A j) (L + 1) ∧ to = zt_c (fun j => 0 ≤ j ∧ B j) (L + 1) ∧ (∀ j, B j ↔ A j ∨ zt_oS g pat m st j) ∧ ∀ j, A j → ¬ zt_oS g pat m st j
theorem zt_AB_0 {pat : Nat → Nat} {m : Nat} : zt_AB g pat L m m 0 (L + 1) :=
  ⟨fun _ => False, fun _ => True, zt_dn_0, zt_dn_1, (zt_cz (L + 1) fun _ _ h => h.2).symm, (zt_call (L + 1) fun _ _ => ⟨Nat.zero_le _, trivial⟩).symm, fun j => ⟨fun _ => Or.inr (zt_oS_m g pat m j), fun _ => trivial⟩, fun _ h => h.elim⟩
theorem zt_AB_1 {pat : Nat → Nat} (hz : zt_Z g L) (h : zt_CO g L 0 col) {m st fr to : Nat} (hst : st < m) (H : zt_AB g pat L m (st + 1) fr to) : zt_AB g pat L m st (1 + zt_c (fun o => (0 < col o ∧ col o < pat st + 1) ∨ (col o = pat st + 1 ∧ o < fr)) (L + 1)) (1 + zt_c (fun o => (0 < col o ∧ col o < pat st + 1) ∨ (col o = pat st + 1 ∧ o < to)) (L + 1)) := by
  obtain ⟨A, B, dA, dB, eA, eB, hd, he⟩ := H
  subst eA
  subst eB
  have := zt_pre_d (g := g) (pat := pat) hst hd he
  exact ⟨zt_pre g A (pat st), zt_pre g B (pat st), zt_dn_pre hz (zt_dn_m dA (by omega)), zt_dn_pre hz (zt_dn_m dB (by omega)), zt_CO_S hz h dA (pat st), zt_CO_S hz h dB (pat st), this.1, this.2⟩
theorem zt_AB_le {pat : Nat → Nat} {m st fr to : Nat} (H : zt_AB g pat L m st fr to) : fr ≤ to ∧ to ≤ L + 1 := by
  obtain ⟨A, B, dA, dB, eA, eB, hd, he⟩ := H
  subst eA
  subst eB
  exact ⟨zt_cle (L + 1) fun j _ x => ⟨x.1, (hd j).2 (Or.inl x.2)⟩, zt_cn _ _⟩
theorem zt_AB_f {pat : Nat → Nat} (hz : zt_Z g L) {m fr to : Nat} (H : zt_AB g pat L m 0 fr to) {i : Nat} (hi : i ≤ L) : fr ≤ zt_rk g L 0 i ∧ zt_rk g L 0 i < to ↔ zt_oc g pat m i := by
  obtain ⟨A, B, dA, dB, eA, eB, hd, he⟩ := H
  have a := zt_rk_S hz dA (i := i) (Nat.zero_le _) hi
  have b := zt_rk_S hz dB (i := i) (Nat.zero_le _) hi
  rw [← eA] at a
  rw [← eB] at b
  rw [b, hd i, zt_oS_0]
  constructor
  · rintro ⟨x, y | y⟩
    · have := a.2 y
      omega
    · exact y
  · intro y
    refine ⟨?_, Or.inr y⟩
    refine Classical.byContradiction fun c => ?_
    exact he i (a.1 (by omega)) ((zt_oS_0 g pat m i).2 y)
end
end
section
/-! walking along the links from a whole beginning; tails by the automaton -/
section
variable {t g : Nat → Nat} {L n : Nat} {E l p b en : Nat → Nat} {la : Nat}
/-- the state of the first e letters -/
theorem zt_en_on (h : zt_M t L L n E l p b en la) {f : Nat} (hf : f < n) (h0 : en f ≠ 0) : en f ≤ L ∧ l f = en f ∧ zt_On t L (en f) E l f := by
  obtain ⟨i, hi⟩ : ∃ i, en f = i + 1 := ⟨en f - 1, by omega⟩
  have a := (h.2.2.1 f i hf).1 hi
  rw [hi]
  exact ⟨by omega, a.2.1, by show l f ≤ _; rw [a.2.1]; exact a.2.2⟩
theorem zt_On_le (h : zt_M t L L n E l p b en la) {e u : Nat} (he : e ≤ L) (hu : u < n) (on : zt_On t L e E l u) : l u ≤ e := by
  have a : l u ≤ zt_V t L (E u) e := on
  have b1 : E u ≤ L := (h.1.2.1 u hu).1
  have := zt_V_r (t := t) (L := L) (e := E u) (f := e) b1 he
  omega
/-- all with d letters or more have been counted once -/
def zt_T3 (t : Nat → Nat) (L e n : Nat) (E l tl : Nat → Nat) (d : Nat) (tl' : Nat → Nat) : Prop := ∀ u, u < n → (zt_On t L e E l u ∧ d ≤ l u → tl' u = tl u + 1) ∧ (¬ (zt_On t L e E l u ∧ d ≤ l u) → tl' u = tl u)
theorem zt_T3_0 (h : zt_M t L L n E l p b en la) {e d : Nat} (he : e ≤ L) (hd : e < d) (tl : Nat → Nat) : zt_T3 t L e n E l tl d tl := fun u hu => ⟨fun x => by
  have := zt_On_le h he hu x.1
  omega, fun _ => rfl⟩
theorem zt_T3_1 {e v d : Nat} {tl tl' : Nat → Nat} (hv : v < n) (on : zt_On t L e E l v) (hd : d ≤ l v) (hn : ∀ u, u < n → zt_On t L e E l u → d ≤ l u → l v + 1 ≤ l u ∨ u = v) (H : zt_T3 t L e n E l tl (l v + 1) tl') : zt_T3 t L e n E l tl d (zt_up tl' v (tl' v + 1)) := by
  intro u hu
  by_cases c : u = v
  · subst c
    rw [zt_us]
    have := (H u hu).2 (fun x => by omega)
    exact ⟨fun _ => by omega, fun x => absurd ⟨on, hd⟩ x⟩
  · rw [zt_un _ _ c]
    refine ⟨fun x => (H u hu).1 ⟨x.1, ?_⟩, fun x => (H u hu).2 (fun y => x ⟨y.1, by omega⟩)⟩
    rcases hn u hu x.1 x.2 with a | a
    · exact a
    · exact absurd a c
def zt_TC (t : Nat → Nat) (L n : Nat) (E l en : Nat → Nat) (F : Nat) (tl : Nat → Nat) : Prop := ∀ u, u < n → tl u = zt_c (fun f => en f ≠ 0 ∧ l u ≤ zt_V t L (E u) (en f)) F
theorem zt_TC_no {F : Nat} {tl : Nat → Nat} (h0 : en F = 0) (H : zt_TC t L n E l en F tl) : zt_TC t L n E l en (F + 1) tl := fun u hu => by
  rw [zt_cf (p := fun f => en f ≠ 0 ∧ l u ≤ zt_V t L (E u) (en f)) (fun x => x.1 h0)]
  exact H u hu
theorem zt_TC_1 {F : Nat} {tl tl' : Nat → Nat} (h0 : en F ≠ 0) (H : zt_TC t L n E l en F tl) (H3 : zt_T3 t L (en F) n E l tl 0 tl') : zt_TC t L n E l en (F + 1) tl' := fun u hu => by
  by_cases c : l u ≤ zt_V t L (E u) (en F)
  · rw [zt_ct (p := fun f => en f ≠ 0 ∧ l u ≤ zt_V t L (E u) (en f)) ⟨h0, c⟩, (H3 u hu).1 ⟨c, Nat.zero_le _⟩, H u hu]
  · rw [zt_cf (p := fun f => en f ≠ 0 ∧ l u ≤ zt_V t L (E u) (en f)) (fun x => c x.2), (H3 u hu).2 (fun x => c x.1), H u hu]
theorem zt_TC_end (h : zt_M t L L n E l p b en la) {tl : Nat → Nat} (H : zt_TC t L n E l en n tl) {u : Nat} (hu : u < n) : tl u = zt_tl t L E l u := (H u hu).trans (zt_tl_en h u)
/-- where the tail i stands after s letters -/
theorem zt_lf_lt {i s : Nat} (hi : i < L) (h : i + s ≤ L) : zt_lf g L i s < zt_c (fun j => s ≤ zt_N g L j i) L :=
  zt_clt L i (fun j _ x => x.2) hi (fun x => zt_T_ir g i x.1) (by show s ≤ zt_N g L i i; rw [zt_N_s (by omega)]; omega)
/-- a pattern's place by its end -/
theorem zt_ap_oc (hg : ∀ i, i < L → g i = t i + 1) (hz : zt_Z g L) {pat : Nat → Nat} {goal m : Nat} (m0 : 0 < m) (ha : zt_ap t pat L E l goal m) {i : Nat} (hi : i ≤ L) : zt_oc g pat m i ↔ i + m ≤ L ∧ l goal ≤ zt_V t L (E goal) (i + m) := by
  constructor
  · intro ho
    have iL := zt_oc_L hz ho m0
    refine ⟨iL, (ha (i + m) iL).2 ⟨by omega, fun q hq => ?_⟩⟩
    have e1 : i + m - m + q = i + q := by omega
    rw [e1]
    have := ho q hq
    rw [hg _ (by omega)] at this
    omega
  · rintro ⟨iL, h⟩ q hq
    have := ((ha (i + m) iL).1 h).2 q hq
    have e1 : i + m - m + q = i + q := by omega
    rw [e1] at this
    rw [hg _ (by omega), this]
end
end
section
/-! the listing of the tree: ranks under a node, the stack -/
theorem zt_A_rk {g : Nat → Nat} {L : Nat} {E l : Nat → Nat} {v : Nat} (hz : zt_Z g L) (hE : E v ≤ L) (hl : E v + l v ≤ L) {i : Nat} (hi : i < L) : (zt_A g L E l v i → zt_off g L E l v ≤ zt_r g L i ∧ zt_r g L i < zt_off g L E l v + zt_cA g L E l v) ∧ (¬ zt_A g L E l v i → zt_r g L i < zt_off g L E l v ∨ zt_off g L E l v + zt_cA g L E l v ≤ zt_r g L i) := by
  constructor
  · intro a
    have a' : l v ≤ zt_N g L (E v) i := a
    have e : zt_r g L i = zt_off g L E l v + zt_c (fun j => zt_A g L E l v j ∧ zt_T g j i) L := by
      unfold zt_r zt_off
      rw [← zt_cor (p := fun j => zt_T g j (E v) ∧ zt_N g L (E v) j < l v) (q := fun j => zt_A g L E l v j ∧ zt_T g j i) L (fun j _ h1 h2 => by
        have h3 := h1.2
        have h4 : l v ≤ zt_N g L (E v) j := h2.1
        omega)]
      refine zt_cc L fun j hj => ⟨fun hT => ?_, fun h => ?_⟩
      · by_cases c : zt_N g L (E v) j < l v
        · refine Or.inl ⟨zt_T_sh (e := i) (s := l v) hz (by omega) (by omega) hE (by rw [zt_N_c (by omega) hE]; exact a') ?_ hT, c⟩
          refine Classical.byContradiction fun cn => ?_
          have := zt_N_u (g := g) (L := L) (i := E v) (j := i) (k := j) (s := l v) hE (by omega) (by omega) a' (by omega)
          omega
        · exact Or.inr ⟨by unfold zt_A; omega, hT⟩
      · rcases h with ⟨h1, h2⟩ | ⟨h1, h2⟩
        · exact zt_T_sh hz (by omega) hE (by omega) a' h2 h1
        · exact h2
    have lt : zt_c (fun j => zt_A g L E l v j ∧ zt_T g j i) L < zt_cA g L E l v := zt_clt L i (fun j _ h => h.1) hi (fun h => zt_T_ir g i h.2) a
    omega
  · intro a
    have a' : ¬ l v ≤ zt_N g L (E v) i := a
    by_cases hT : zt_T g i (E v)
    · left
      refine zt_clt L i (fun j hj h => ⟨zt_T_tr h hT, ?_⟩) hi (zt_T_ir g i) ⟨hT, by omega⟩
      refine Classical.byContradiction fun cn => ?_
      have := zt_T_b (g := g) (L := L) (i := j) (j := i) (k := E v) (s := l v) (by omega) (by omega) hE hz h hT (by rw [zt_N_c (by omega) hE]; omega)
      rw [zt_N_c (by omega) hE] at this
      omega
    · right
      have ne : E v ≠ i := fun c => by
        rw [c, zt_N_s (by omega)] at a'
        rw [c] at hl
        omega
      have hT2 : zt_T g (E v) i := by
        rcases zt_T_to hz hE (by omega : i ≤ L) ne with c | c
        · exact c
        · exact absurd c hT
      unfold zt_off zt_cA zt_r
      rw [← zt_cor (p := fun j => zt_T g j (E v) ∧ zt_N g L (E v) j < l v) (q := fun j => zt_A g L E l v j) L (fun j _ h1 h2 => by
        have h3 := h1.2
        have h4 : l v ≤ zt_N g L (E v) j := h2
        omega)]
      refine zt_cle L fun j hj h => ?_
      rcases h with h | h
      · exact zt_T_tr h.1 hT2
      · have h' : l v ≤ zt_N g L (E v) j := h
        have nj : j ≠ i := fun c => a' (c ▸ h')
        rcases zt_T_to hz (by omega : j ≤ L) (by omega : i ≤ L) nj with c | c
        · exact c
        · exfalso
          have b1 := zt_T_b (g := g) (L := L) (i := E v) (j := i) (k := j) (s := l v) hE (by omega) (by omega) hz hT2 c h'
          exact a' (zt_N_u hE (by omega) (by omega) h' (by rw [zt_N_c (by omega) (by omega)]; exact b1))
section
variable {g : Nat → Nat} {L n : Nat} {E l p b nt : Nat → Nat}
noncomputable def zt_Cc (g : Nat → Nat) (L : Nat) (E l : Nat → Nat) (v c : Nat) : Nat := zt_C g L E l v (c + 1)
noncomputable def zt_Xc (g : Nat → Nat) (L n : Nat) (E l b : Nat → Nat) (v c : Nat) : Nat := if b (v * 4 + c) = 0 then 0 else zt_sub g L n E l (b (v * 4 + c))
def zt_dt (nt : Nat → Nat) (v : Nat) : Nat := if nt v = 0 then 0 else 1
theorem zt_cA_s (hz : zt_Z g L) (h4 : ∀ i, g i ≤ 4) (h : zt_H g L L n E l p b nt) {v : Nat} (hv : v < n) : zt_cA g L E l v = zt_dt nt v + zt_s (zt_Cc g L E l v) 4 := by
  rw [zt_cA_5 h4, zt_C_0 hz h hv, zt_s1, zt_s1, zt_s1, zt_s1, zt_s0]
  have e0 : zt_Cc g L E l v 0 = zt_C g L E l v 1 := rfl
  have e1 : zt_Cc g L E l v 1 = zt_C g L E l v 2 := rfl
  have e2 : zt_Cc g L E l v 2 = zt_C g L E l v 3 := rfl
  have e3 : zt_Cc g L E l v 3 = zt_C g L E l v 4 := rfl
  unfold zt_dt
  omega
theorem zt_sub_s (hz : zt_Z g L) (h4 : ∀ i, g i ≤ 4) (h : zt_H g L L n E l p b nt) {v : Nat} (hv : v < n) : zt_sub g L n E l v = 1 + zt_s (zt_Xc g L n E l b v) 4 := by
  rw [zt_sub_ch hz h4 h hv, zt_s1, zt_s1, zt_s1, zt_s1, zt_s0]
  unfold zt_Xc
  omega
theorem zt_Cc_s (v c : Nat) : zt_c (fun i => zt_A g L E l v i ∧ g (i + l v) < c + 1) L = zt_C g L E l v 0 + zt_s (zt_Cc g L E l v) c := by
  rw [zt_cltx (A := fun i => zt_A g L E l v i) (f := fun i => g (i + l v))]
  show zt_s (fun x => zt_C g L E l v x) (c + 1) = _
  induction c with
  | zero => rw [zt_s1, zt_s0, zt_s0]; omega
  | succ c ih => rw [zt_s1, ih, zt_s1]; unfold zt_Cc; omega
theorem zt_off_s (hz : zt_Z g L) (h : zt_H g L L n E l p b nt) {v c : Nat} (hv : v < n) (hc : c < 4) (hb : b (v * 4 + c) ≠ 0) : zt_off g L E l (b (v * 4 + c)) = zt_off g L E l v + zt_dt nt v + zt_s (zt_Cc g L E l v) c := by
  rw [zt_off_ch hz h hv hc hb, zt_Cc_s, zt_C_0 hz h hv]
  unfold zt_dt
  omega
theorem zt_sub_1 (h : zt_H g L L n E l p b nt) {v : Nat} (hv : v < n) : 1 ≤ zt_sub g L n E l v :=
  zt_cge1 (p := fun w => l v ≤ l w ∧ l v ≤ zt_N g L (E v) (E w)) n v hv ⟨Nat.le_refl _, (h.1.1.2.1 v hv).2.1⟩
theorem zt_sub_n (v : Nat) : zt_sub g L n E l v ≤ n := zt_cn _ _
theorem zt_s_ge (f : Nat → Nat) (n : Nat) (h : ∀ i, i < n → 1 ≤ f i) : n ≤ zt_s f n := by
  induction n with
  | zero => exact Nat.zero_le _
  | succ n ih =>
    rw [zt_s1]
    have a := ih (fun i hi => h i (by omega))
    have b := h n (by omega)
    omega
/-- the stack over the tree under the node v0 -/
def zt_SS (g : Nat → Nat) (L n : Nat) (E l : Nat → Nat) (v0 : Nat) (st : Nat → Nat) (h found vis : Nat) : Prop := zt_ST (zt_cA g L E l) (zt_off g L E l) (zt_sub g L n E l) n (zt_off g L E l v0) (zt_cA g L E l v0) (zt_sub g L n E l v0) st h found vis
def zt_SQ' (g : Nat → Nat) (L n : Nat) (E l b nt : Nat → Nat) (v0 v : Nat) (st : Nat → Nat) (h c found vis : Nat) : Prop := zt_SP (zt_cA g L E l) (zt_off g L E l) (zt_sub g L n E l) n (zt_off g L E l v0) (zt_cA g L E l v0) (zt_sub g L n E l v0) (zt_Cc g L E l v) (zt_Xc g L n E l b v) (zt_off g L E l v + zt_dt nt v) st h c found vis
theorem zt_SS_0 {v0 : Nat} (hv : v0 < n) {st : Nat → Nat} (h0 : st 0 = v0) : zt_SS g L n E l v0 st 1 0 0 := by
  refine ⟨fun i hi => ?_, fun i hi => ?_, ?_, ?_⟩
  · have : i = 0 := by omega
    subst this; rw [h0]; exact hv
  · have : i = 0 := by omega
    subst this
    rw [zt_s1, zt_s0, h0]; omega
  · rw [zt_s1, zt_s0, h0]; omega
  · rw [zt_s1, zt_s0, h0]; omega
theorem zt_SS_pop (hz : zt_Z g L) (h4 : ∀ i, g i ≤ 4) (H : zt_H g L L n E l p b nt) {v0 h found vis : Nat} {st : Nat → Nat} (S : zt_SS g L n E l v0 st (h + 1) found vis) : st h < n ∧ vis < n ∧ h < n ∧ zt_off g L E l (st h) = zt_off g L E l v0 + found ∧ zt_SQ' g L n E l b nt v0 (st h) st h 4 (found + zt_dt nt (st h)) (vis + 1) := by
  have hv := S.1 h (by omega)
  have a := zt_ST_pop (C := zt_Cc g L E l (st h)) (X := zt_Xc g L n E l b (st h)) (d := zt_dt nt (st h)) S (zt_cA_s hz h4 H hv) (zt_sub_s hz h4 H hv)
  have s4 := S.2.2.2
  have s5 := zt_s_ge (fun j => zt_sub g L n E l (st j)) (h + 1) (fun i hi => zt_sub_1 H (S.1 i hi))
  have s6 := zt_sub_n (g := g) (L := L) (n := n) (E := E) (l := l) v0
  exact ⟨hv, by omega, by omega, a.1, a.2⟩
theorem zt_SS_no (hz : zt_Z g L) (H : zt_H g L L n E l p b nt) {v0 v h c found vis : Nat} {st : Nat → Nat} (hv : v < n) (hc : c < 4) (hb : b (v * 4 + c) = 0) (S : zt_SQ' g L n E l b nt v0 v st h (c + 1) found vis) : zt_SQ' g L n E l b nt v0 v st h c found vis :=
  zt_SP_no S (by unfold zt_Cc; rw [zt_C_ch hz H hv hc, if_pos hb]) (by unfold zt_Xc; rw [if_pos hb])
theorem zt_SS_ch (hz : zt_Z g L) (H : zt_H g L L n E l p b nt) {v0 v h c found vis : Nat} {st : Nat → Nat} (hv : v < n) (hc : c < 4) (hb : b (v * 4 + c) ≠ 0) (S : zt_SQ' g L n E l b nt v0 v st h (c + 1) found vis) : h < n ∧ zt_SQ' g L n E l b nt v0 v (zt_up st h (b (v * 4 + c))) (h + 1) c found vis := by
  have u1 := (H.1.2.1.1 v c hv hc hb).1
  have S' := zt_SP_ch (u := b (v * 4 + c)) S u1 (by unfold zt_Cc; rw [zt_C_ch hz H hv hc, if_neg hb]) (by unfold zt_Xc; rw [if_neg hb]) (zt_off_s hz H hv hc hb)
  have s4 := S'.2.2.2.1
  have s5 := zt_s_ge (fun j => zt_sub g L n E l (zt_up st h (b (v * 4 + c)) j)) (h + 1) (fun i hi => zt_sub_1 H (S'.1 i hi))
  have s6 := zt_sub_n (g := g) (L := L) (n := n) (E := E) (l := l) v0
  exact ⟨by omega, S'⟩
theorem zt_SS_c0 {v0 v h found vis : Nat} {st : Nat → Nat} (S : zt_SQ' g L n E l b nt v0 v st h 0 found vis) : zt_SS g L n E l v0 st h found vis := zt_SP_0 S
theorem zt_SS_end {v0 h found vis : Nat} {st : Nat → Nat} (H : zt_H g L L n E l p b nt) (S : zt_SS g L n E l v0 st h found vis) (hh : h = 0 ∨ n ≤ vis) : found = zt_cA g L E l v0 := by
  have s3 := S.2.2.1
  have s4 := S.2.2.2
  have s5 := zt_s_ge (fun j => zt_sub g L n E l (st j)) h (fun i hi => zt_sub_1 H (S.1 i hi))
  have s6 := zt_sub_n (g := g) (L := L) (n := n) (E := E) (l := l) v0
  have : h = 0 := by omega
  subst this
  rw [zt_s0] at s3
  omega
theorem zt_cA_L (v : Nat) : zt_cA g L E l v ≤ L := zt_cn _ _
theorem zt_SS_f (hz : zt_Z g L) (h4 : ∀ i, g i ≤ 4) (H : zt_H g L L n E l p b nt) {v0 h found vis : Nat} {st : Nat → Nat} (S : zt_SS g L n E l v0 st (h + 1) found vis) : found + zt_dt nt (st h) ≤ L := by
  have a := (zt_SS_pop hz h4 H S).2.2.2.2.2.2.1
  have b1 := zt_cA_L (g := g) (L := L) (E := E) (l := l) v0
  omega
/-- what has been listed -/
def zt_ls (g : Nat → Nat) (L base found : Nat) (o : Nat → Nat) : Prop := ∀ f, f < found → o f < L ∧ zt_r g L (o f) = base + f
theorem zt_ls_1 {base found i : Nat} {o : Nat → Nat} (h : zt_ls g L base found o) (hi : i < L) (hr : zt_r g L i = base + found) : zt_ls g L base (found + 1) (zt_up o found i) := by
  intro f hf
  by_cases e : f = found
  · subst e; rw [zt_us]; exact ⟨hi, hr⟩
  · rw [zt_un _ _ e]; exact h f (by omega)
theorem zt_ls_O {o : Nat → Nat} (h : zt_ls g L 0 L o) : zt_O g L o := fun k hk => ⟨(h k hk).1, by have := (h k hk).2; omega⟩
theorem zt_off_0 (H : zt_H g L L n E l p b nt) : zt_off g L E l 0 = 0 := zt_cz L fun j _ h => by
  have := H.1.1.1.2
  have h2 := h.2
  omega
theorem zt_cA_0 (H : zt_H g L L n E l p b nt) : zt_cA g L E l 0 = L := zt_call L fun j _ => by
  have := H.1.1.1.2
  show l 0 ≤ _
  omega
theorem zt_ls_A (hz : zt_Z g L) (H : zt_H g L L n E l p b nt) {v : Nat} (hv : v < n) {o : Nat → Nat} (h : zt_ls g L (zt_off g L E l v) (zt_cA g L E l v) o) {i : Nat} (hi : i < L) : zt_A g L E l v i ↔ ∃ f, f < zt_cA g L E l v ∧ o f = i := by
  have hA := H.1.1.2.1 v hv
  have vL := zt_P_L (Nat.le_refl _) hA.1
  have lv := hA.2.1
  rw [zt_N_s vL] at lv
  have rk := fun i hi => zt_A_rk (g := g) (L := L) (E := E) (l := l) (v := v) hz vL (by omega) (i := i) hi
  constructor
  · intro a
    have r1 := (rk i hi).1 a
    have h1 := h (zt_r g L i - zt_off g L E l v) (by omega)
    exact ⟨_, by omega, zt_r_inj hz h1.1 hi (by omega)⟩
  · rintro ⟨f, hf, e⟩
    subst e
    refine Classical.byContradiction fun c => ?_
    have r1 := (rk _ hi).2 c
    have h1 := h f hf
    omega
/-- the measures -/
theorem zt_H_m (H : zt_H g L L n E l p b nt) : zt_G g L (zt_m (fun v => if v = 0 then 0 else l (p v)) n) := by
  refine zt_H_G H (fun v v0 hv => ?_) ?_
  · have := zt_m_ge (f := fun v => if v = 0 then 0 else l (p v)) hv
    rw [if_neg (by omega)] at this
    exact this
  · rcases zt_m_is (fun v => if v = 0 then 0 else l (p v)) n with e | ⟨v, hv, e⟩
    · exact Or.inl e
    · by_cases z : v = 0
      · rw [if_pos z] at e
        exact Or.inl e.symm
      · rw [if_neg z] at e
        exact Or.inr ⟨v, by omega, hv, e⟩
end
end
section
/-! the tail of a row by the automaton -/
section
variable {t g : Nat → Nat} {L n : Nat} {E l p b en : Nat → Nat} {la : Nat}
theorem zt_s_mono (f : Nat → Nat) {n m : Nat} (h : n ≤ m) : zt_s f n ≤ zt_s f m := by
  induction m with
  | zero => have : n = 0 := by omega
            rw [this]; exact Nat.le_refl _
  | succ m ih =>
    by_cases e : n = m + 1
    · rw [e]; exact Nat.le_refl _
    · have := ih (by omega)
      rw [zt_s1]; omega
/-- before the letters of the next place are looked at -/
theorem zt_TA_0 (hz : zt_Z g L) (hg : ∀ i, i < L → g i = t i + 1) {v s i : Nat} (hi : i + s < L) (ha : zt_at t L E l v s i) : zt_lf g L i s = zt_Y g L i s + (zt_s (zt_X t L E l v) (t (i + s)) + zt_lf g L i (s + 1)) := by
  rw [zt_lf_1 hz (by omega) hi (hg _ hi)]
  have e : zt_s (zt_X t L E l v) (t (i + s)) = zt_s (fun x => zt_c (fun j => s ≤ zt_N g L j i ∧ g (j + s) = x + 1) L) (t (i + s)) := zt_sc _ fun x _ => zt_X_N hz hg (by omega) ha x
  rw [e]; omega
/-- a letter that is less -/
theorem zt_TA_1 {v s i x left : Nat} (hx : x < t (i + s)) (h : left + zt_s (zt_X t L E l v) x = zt_s (zt_X t L E l v) (t (i + s)) + zt_lf g L i (s + 1)) : zt_X t L E l v x ≤ left ∧ (left - zt_X t L E l v x) + zt_s (zt_X t L E l v) (x + 1) = zt_s (zt_X t L E l v) (t (i + s)) + zt_lf g L i (s + 1) := by
  have a := zt_s_mono (zt_X t L E l v) (n := x + 1) (m := t (i + s)) (by omega)
  rw [zt_s1] at a
  rw [zt_s1]
  omega
/-- the letter itself -/
theorem zt_TA_2 (hz : zt_Z g L) (hg : ∀ i, i < L → g i = t i + 1) (ht : ∀ i, t i < 4) (h : zt_M t L L n E l p b en la) {v s i : Nat} (hv : v < n) (hi : i + s < L) (ha : zt_at t L E l v s i) : zt_lf g L i (s + 1) < zt_tl t L E l (b (v * 4 + t (i + s))) := by
  have a := zt_at_1 ht h hv hi ha
  rw [zt_tl_N hg (s := s + 1) (i := i) (by omega) (by omega) a.2.2]
  exact zt_lf_lt (by omega) (by omega)
theorem zt_Y_b (hz : zt_Z g L) (hg : ∀ i, i < L → g i = t i + 1) (h4 : ∀ i, g i ≤ 4) (h : zt_M t L L n E l p b en la) {v s i : Nat} (hi : i + s ≤ L) (hiL : i < L) (ha : zt_at t L E l v s i) : zt_tl t L E l v = zt_Y g L i s + zt_s (zt_X t L E l v) 4 := by
  rw [zt_tl_Y hz hg h4 hi hiL ha, zt_s1, zt_s1, zt_s1, zt_s1, zt_s0]
  omega
/-- the measures -/
theorem zt_M_m (hg : ∀ i, i < L → g i = t i + 1) (h : zt_M t L L n E l p b en la) {tl : Nat → Nat} (ht : ∀ u, u < n → tl u = zt_tl t L E l u) : zt_G g L (zt_m (fun v => if v ≠ 0 ∧ 2 ≤ tl v then l v else 0) n) := by
  refine zt_M_G hg h (fun v v0 hv h2 => ?_) ?_
  · have := zt_m_ge (f := fun v => if v ≠ 0 ∧ 2 ≤ tl v then l v else 0) hv
    rw [if_pos ⟨by omega, by rw [ht v hv]; exact h2⟩] at this
    exact this
  · rcases zt_m_is (fun v => if v ≠ 0 ∧ 2 ≤ tl v then l v else 0) n with e | ⟨v, hv, e⟩
    · exact Or.inl e
    · by_cases z : v ≠ 0 ∧ 2 ≤ tl v
      · rw [if_pos z] at e
        exact Or.inr ⟨v, by omega, hv, by rw [← ht v hv]; exact z.2, e⟩
      · rw [if_neg z] at e
        exact Or.inl e.symm
end
/-! the longest by rows and by places -/
theorem zt_G_mr {g : Nat → Nat} {L : Nat} {o : Nat → Nat} (hz : zt_Z g L) (h : zt_O g L o) : zt_G g L (zt_m (fun k => if k = 0 then 0 else zt_N g L (o (k - 1)) (o k)) L) := by
  refine zt_G_rows hz h (fun k hk => ?_) ?_
  · have := zt_m_ge (f := fun k => if k = 0 then 0 else zt_N g L (o (k - 1)) (o k)) hk
    rw [if_neg (by omega), Nat.add_sub_cancel] at this
    exact this
  · rcases zt_m_is (fun k => if k = 0 then 0 else zt_N g L (o (k - 1)) (o k)) L with e | ⟨k, hk, e⟩
    · exact Or.inl e
    · by_cases z : k = 0
      · rw [if_pos z] at e
        exact Or.inl e.symm
      · rw [if_neg z] at e
        obtain ⟨k', rfl⟩ : ∃ k', k = k' + 1 := ⟨k - 1, by omega⟩
        rw [Nat.add_sub_cancel] at e
        exact Or.inr ⟨k', hk, e⟩
theorem zt_G_mp {g : Nat → Nat} {L : Nat} {o : Nat → Nat} (hz : zt_Z g L) (h : zt_O g L o) : zt_G g L (zt_m (fun i => if zt_r g L i = 0 then 0 else zt_N g L (o (zt_r g L i - 1)) i) L) := by
  refine zt_G_rows hz h (fun k hk => ?_) ?_
  · have := zt_m_ge (f := fun i => if zt_r g L i = 0 then 0 else zt_N g L (o (zt_r g L i - 1)) i) (h (k + 1) hk).1
    rw [(h (k + 1) hk).2, if_neg (by omega), Nat.add_sub_cancel] at this
    exact this
  · rcases zt_m_is (fun i => if zt_r g L i = 0 then 0 else zt_N g L (o (zt_r g L i - 1)) i) L with e | ⟨i, hi, e⟩
    · exact Or.inl e
    · by_cases z : zt_r g L i = 0
      · rw [if_pos z] at e
        exact Or.inl e.symm
      · rw [if_neg z] at e
        have r1 := zt_r_lt (g := g) hi
        refine Or.inr ⟨zt_r g L i - 1, by omega, ?_⟩
        have e1 : zt_r g L i - 1 + 1 = zt_r g L i := by omega
        rw [e1, zt_O_r hz h hi]
        exact e
/-- the next known beginning -/
noncomputable def zt_kn (g : Nat → Nat) (L : Nat) (o : Nat → Nat) (i : Nat) : Nat := if zt_r g L i = 0 then 0 else zt_N g L (o (zt_r g L i - 1)) i
end
section
/-! numbers and arrays of the code as naturals -/
theorem pk_us {f : Nat → Int32} {k : Nat} {x : Int32} : upd f k x k = x := if_pos rfl
theorem pk_un {f : Nat → Int32} {k j : Nat} {x : Int32} (h : j ≠ k) : upd f k x j = f j := if_neg h
theorem pk_sub {a b : Nat} (h : b ≤ a) : nI a - nI b = nI (a - b) := by
  obtain ⟨c, rfl⟩ : ∃ c, a = c + b := ⟨a - b, by omega⟩
  rw [← nI_add, Int32.add_sub_cancel, Nat.add_sub_cancel]
theorem pk_m1 (n : Nat) : nI (n + 1) + (-1) = nI n := by
  rw [← nI_1, Int32.add_assoc, show (1 : Int32) + (-1) = 0 from rfl, Int32.add_zero]
theorem pk_mul (a b : Nat) : nI a * nI b = nI (a * b) := (Int32.ofNat_mul a b).symm
theorem pk_div {a d : Nat} (ha : a < 2 ^ 31) (h0 : 0 < d) (hd : d < 2 ^ 31) : nI a / nI d = nI (a / d) := by
  apply Int32.toInt_inj.mp
  rw [lg_idiv_nonneg (by rw [nI_toInt ha]; omega) (by rw [nI_toInt hd]; omega), nI_toInt ha, nI_toInt hd, nI_toInt (Nat.lt_of_le_of_lt (Nat.div_le_self a d) ha)]
  first | rfl | exact (Int.natCast_ediv _ _).symm
theorem pk_sub_toInt {a b : Nat} (ha : a < 2 ^ 30) (hb : b < 2 ^ 30) : (nI a - nI b).toInt = (a : Int) - b := by
  rw [Int32.toInt_sub, nI_toInt (by omega), nI_toInt (by omega)]
  exact Int.bmod_eq_of_le (by omega) (by omega)
theorem pk_sneg {a b : Nat} (hb : b < 2 ^ 30) (h : a < b) : nI a - nI b < 0 := by
  rw [Int32.lt_iff_toInt_lt, pk_sub_toInt (by omega) hb, show (0 : Int32).toInt = 0 from by decide]
  omega
theorem pk_ix (x : Int32) {n : Nat} (hn : n < 2 ^ 31) : x < 0 ∨ nI n ≤ x ∨ ∃ j : Nat, j < n ∧ x = nI j := by
  by_cases h : x < 0
  · exact Or.inl h
  · obtain ⟨j, hj, rfl⟩ := nI_of h
    by_cases h2 : j < n
    · exact Or.inr (Or.inr ⟨j, h2, rfl⟩)
    · exact Or.inr (Or.inl (nI_le (by omega) hj))
theorem pk_le {x y : Int32} {A B : Prop} (a b : Nat) (f : a ≤ b → A) (g : b < a → B) (hx : x = nI a := by rfl) (hy : y = nI b := by rfl) (ha : a < 2 ^ 31 := by omega) (hb : b < 2 ^ 31 := by omega) : (x ≤ y → A) ∧ (¬ x ≤ y → B) := by
  subst hx hy
  rw [nI_leI ha hb]
  exact ⟨f, fun z => g (by omega)⟩
theorem pk_lt {x y : Int32} {A B : Prop} (a b : Nat) (f : a < b → A) (g : b ≤ a → B) (hx : x = nI a := by rfl) (hy : y = nI b := by rfl) (ha : a < 2 ^ 31 := by omega) (hb : b < 2 ^ 31 := by omega) : (x < y → A) ∧ (¬ x < y → B) := by
  subst hx hy
  rw [nI_ltI ha hb]
  exact ⟨f, fun z => g (by omega)⟩
theorem pk_eq {x y : Int32} {A B : Prop} (a b : Nat) (f : a = b → A) (g : a ≠ b → B) (hx : x = nI a := by rfl) (hy : y = nI b := by rfl) (ha : a < 2 ^ 31 := by omega) (hb : b < 2 ^ 31 := by omega) : (x = y → A) ∧ (¬ x = y → B) := by
  subst hx hy
  rw [nI_eq ha hb]
  exact ⟨f, g⟩
theorem pk_in {x : Int32} (n N : Nat) (h : n < N) (hx : x = nI n := by rfl) (hN : N < 2 ^ 31 := by omega) : vp_in x N := by
  subst hx
  exact vp_in_nI h hN
theorem pk_cl {x : Int32} (n : Nat) (hx : x = nI n := by rfl) (h : n < 2 ^ 31 := by omega) : x.toNatClampNeg = n := by
  subst hx
  exact nI_clamp h
theorem pk_loopD {σ : Type} (W : Nat → Nat → σ → Prop) (I : Nat → σ → Prop) (hx : ∀ n s, I 0 s → W (n + 1) 0 s)
    (hs : ∀ n i s, I (i + 1) s → (∀ s', I i s' → W n i s') → W (n + 1) (i + 1) s) : ∀ (e : Nat) (s : σ), I e s → W (e + 1) e s := by
  intro e
  induction e with
  | zero => exact fun s h => hx 0 s h
  | succ e ih => exact fun s h => hs (e + 1) e s h (fun s' h' => ih s' h')
theorem wb_of32 (x : Int32) : ∃ n, n < 2 ^ 32 ∧ x = nI n := ⟨x.toBitVec.toNat, x.toBitVec.isLt, Int32.toBitVec_inj.mp (by show _ = BitVec.ofNat 32 _; simp)⟩
/-- every array is one of naturals -/
theorem zt_arr (a : Nat → Int32) : ∃ f : Nat → Nat, a = fun j => nI (f j) :=
  ⟨fun j => (a j).toBitVec.toNat, funext fun j => Int32.toBitVec_inj.mp (by show _ = BitVec.ofNat 32 _; simp)⟩
theorem zt_arrN (a : Nat → Int32) : ∃ f : Nat → Nat, a = fun j => nI (f j) - 1 := by
  obtain ⟨f, hf⟩ := zt_arr (fun j => a j + 1)
  refine ⟨f, funext fun j => ?_⟩
  have : a j + 1 = nI (f j) := congrFun hf j
  rw [← this, Int32.add_sub_cancel]
theorem zt_upI (f : Nat → Nat) (k x : Nat) : upd (fun j => nI (f j)) k (nI x) = fun j => nI (zt_up f k x j) := by
  funext j
  unfold upd zt_up
  by_cases h : j = k
  · rw [if_pos h, if_pos h]
  · rw [if_neg h, if_neg h]
theorem zt_upN (f : Nat → Nat) (k x : Nat) : upd (fun j => nI (f j) - 1) k (nI x - 1) = fun j => nI (zt_up f k x j) - 1 := by
  funext j
  unfold upd zt_up
  by_cases h : j = k
  · rw [if_pos h, if_pos h]
  · rw [if_neg h, if_neg h]
theorem zt_Im1 : (-1 : Int32) = nI 0 - 1 := by decide
theorem zt_I1 (k : Nat) : nI k = nI (k + 1) - 1 := (nI_pred k).symm
theorem zt_ne1 {k : Nat} (h : k < 2 ^ 31) : ¬ nI k = -1 := fun e => by
  have h1 := nI_pos (n := k) h
  rw [e] at h1
  exact h1 (by decide)
/-- four branches, cleared or copied -/
def zt_zb (b : Nat → Nat) (n : Nat) : Nat → Nat := fun j => if j / 4 = n then 0 else b j
def zt_cb (b : Nat → Nat) (n x : Nat) : Nat → Nat := fun j => if j / 4 = n then b (x * 4 + j % 4) else b j
theorem zt_zb_n (b : Nat → Nat) (n : Nat) {c : Nat} (hc : c < 4) : zt_zb b n (n * 4 + c) = 0 := if_pos (by omega)
theorem zt_zb_o (b : Nat → Nat) {n u : Nat} (h : u ≠ n) {c : Nat} (hc : c < 4) : zt_zb b n (u * 4 + c) = b (u * 4 + c) := if_neg (by omega)
theorem zt_cb_n (b : Nat → Nat) (n x : Nat) {c : Nat} (hc : c < 4) : zt_cb b n x (n * 4 + c) = b (x * 4 + c) := by
  unfold zt_cb
  rw [if_pos (by omega)]
  congr 1
  omega
theorem zt_cb_o (b : Nat → Nat) {n u : Nat} (x : Nat) (h : u ≠ n) {c : Nat} (hc : c < 4) : zt_cb b n x (u * 4 + c) = b (u * 4 + c) := if_neg (by omega)
end
section
/-! what is answered, without the way to it -/
def zt_occ (g pat : Nat → Nat) (m i : Nat) : Prop := 0 < m ∧ zt_oc g pat m i
/-- the place of the k-th -/
def zt_first (occ : Nat → Prop) (L : Nat) (k r : Int32) : Prop := (∃ i, i < L ∧ occ i ∧ nI (zt_c occ i) = k ∧ r = nI i) ∨ ((∀ i, i < L → occ i → ¬ nI (zt_c occ i) = k) ∧ r = -1)
theorem zt_first_un {occ : Nat → Prop} {L : Nat} {k r r' : Int32} (hL : L ≤ 40) (h : zt_first occ L k r) (h' : zt_first occ L k r') : r' = r := by
  rcases h with ⟨i, hi, oi, ei, rfl⟩ | ⟨h1, rfl⟩
  · rcases h' with ⟨j, hj, oj, ej, rfl⟩ | ⟨h2, rfl⟩
    · have e : nI (zt_c occ i) = nI (zt_c occ j) := ei.trans ej.symm
      have bi := zt_cn occ i
      have bj := zt_cn occ j
      rw [nI_eq (by omega) (by omega)] at e
      have : i = j := by
        rcases Nat.lt_trichotomy i j with c | c | c
        · have h1 := zt_cmono occ (n := i + 1) (m := j) (by omega)
          rw [zt_ct oi] at h1
          omega
        · exact c
        · have h1 := zt_cmono occ (n := j + 1) (m := i) (by omega)
          rw [zt_ct oj] at h1
          omega
      rw [this]
    · exact absurd ei (h2 i hi oi)
  · rcases h' with ⟨j, hj, oj, ej, rfl⟩ | ⟨h2, rfl⟩
    · exact absurd ej (h1 j hj oj)
    · rfl
/-- the tail of the k-th row -/
def zt_tail (g : Nat → Nat) (L : Nat) (k r : Int32) : Prop := (∃ i, i < L ∧ nI (zt_r g L i) = k ∧ r = nI i) ∨ ((∀ i, i < L → ¬ nI (zt_r g L i) = k) ∧ r = -1)
theorem zt_tail_un {g : Nat → Nat} {L : Nat} {k r r' : Int32} (hz : zt_Z g L) (hL : L ≤ 40) (h : zt_tail g L k r) (h' : zt_tail g L k r') : r' = r := by
  rcases h with ⟨i, hi, ei, rfl⟩ | ⟨h1, rfl⟩
  · rcases h' with ⟨j, hj, ej, rfl⟩ | ⟨h2, rfl⟩
    · have e : nI (zt_r g L i) = nI (zt_r g L j) := ei.trans ej.symm
      have bi := zt_r_lt (g := g) hi
      have bj := zt_r_lt (g := g) hj
      rw [nI_eq (by omega) (by omega)] at e
      rw [zt_r_inj hz hi hj e]
    · exact absurd ei (h2 i hi)
  · rcases h' with ⟨j, hj, ej, rfl⟩ | ⟨h2, rfl⟩
    · exact absurd ej (h1 j hj)
    · rfl
/-- what the calls write -/
def zt_wr (t : Nat → Nat) (L c : Nat) : Nat → Nat → Nat
  | 0 => t
  | k + 1 => zt_up (zt_wr t L c k) (L + k) c
def zt_ag (t : Nat → Nat) (L back : Nat) : Nat → Nat → Nat
  | 0 => t
  | k + 1 => zt_up (zt_ag t L back k) (L + k) (zt_ag t L back k (L + k - back))
def zt_cy (pat t : Nat → Nat) (i : Nat) : Nat → Nat → Nat
  | 0 => pat
  | k + 1 => zt_up (zt_cy pat t i k) k (t (i + k))
theorem zt_up4 {f : Nat → Nat} {k x : Nat} (h : ∀ i, f i < 4) (hx : x < 4) (i : Nat) : zt_up f k x i < 4 := by
  unfold zt_up
  split
  · exact hx
  · exact h i
theorem zt_wr4 {t : Nat → Nat} {L c : Nat} (h : ∀ i, t i < 4) (hc : c < 4) (k : Nat) : ∀ i, zt_wr t L c k i < 4 := by
  induction k with
  | zero => exact h
  | succ k ih => exact zt_up4 ih hc
theorem zt_ag4 {t : Nat → Nat} {L back : Nat} (h : ∀ i, t i < 4) (k : Nat) : ∀ i, zt_ag t L back k i < 4 := by
  induction k with
  | zero => exact h
  | succ k ih => exact zt_up4 ih (ih _)
theorem zt_cy4 {pat t : Nat → Nat} {i : Nat} (h : ∀ j, pat j < 4) (ht : ∀ j, t j < 4) (k : Nat) : ∀ j, zt_cy pat t i k j < 4 := by
  induction k with
  | zero => exact h
  | succ k ih => exact zt_up4 ih (ht _)
/-- the reference's table -/
def zt_sh (t : Nat → Nat) (L : Nat) (sh : Nat → Int32) : Prop := ∀ i j, i ≤ 40 → j ≤ 40 → sh (41 * i + j) = nI (zt_N (zt_g t L) L i j)
/-- the least place of a piece -/
def zt_lp (g : Nat → Nat) (L i s r : Nat) : Prop := r ≤ i ∧ s ≤ zt_N g L i r ∧ ∀ j, j < r → zt_N g L i j < s
theorem zt_lp_un {g : Nat → Nat} {L i s r r' : Nat} (h : zt_lp g L i s r) (h' : zt_lp g L i s r') : r' = r := by
  rcases Nat.lt_trichotomy r r' with c | c | c
  · have := h'.2.2 r c
    have := h.2.1
    omega
  · exact c.symm
  · have := h.2.2 r' c
    have := h'.2.1
    omega
theorem zt_lp_i {g : Nat → Nat} {L i s : Nat} (hi : i < L) (hs : i + (s + 1) ≤ L) {r : Nat} (h : zt_lp g L i (s + 1) r) : r = i ↔ zt_Q g L (fun i => i) i s := by
  constructor
  · intro e
    subst e
    refine ⟨hs, fun j hj hr => ?_⟩
    rw [zt_N_c (by omega) (by omega)]
    exact h.2.2 j hr
  · intro q
    refine Classical.byContradiction fun c => ?_
    have a := q.2 r (by have := h.1; omega) (by have := h.1; show r < i; omega)
    rw [zt_N_c (by have := h.1; omega) (by omega)] at a
    have := h.2.1
    omega
end
section
/-! the component: letters and places, engine 0 -/
theorem zt_br {c d A B : Prop} (e : c ↔ d) (f : d → A) (g : ¬ d → B) : (c → A) ∧ (¬ c → B) := ⟨fun h => f (e.1 h), fun h => g (fun x => h (e.2 x))⟩
theorem zt_31 {a b : Nat} (h : a < b) (hb : b ≤ 1000000 := by omega) : a < 2 ^ 31 := by omega
theorem zt_upE {f : Nat → Nat} {x y : Int32} (k v : Nat) (hx : x.toNatClampNeg = k) (hy : y = nI v) : upd (fun j => nI (f j)) x.toNatClampNeg y = fun j => nI (zt_up f k v j) := by
  rw [hx, hy]; exact zt_upI f k v
theorem zt_upM {f : Nat → Nat} {x y : Int32} (k v : Nat) (hx : x.toNatClampNeg = k) (hy : y = nI v - 1) : upd (fun j => nI (f j) - 1) x.toNatClampNeg y = fun j => nI (zt_up f k v j) - 1 := by
  rw [hx, hy]; exact zt_upN f k v
theorem zt_atI {f : Nat → Nat} {x : Int32} (k : Nat) (hx : x.toNatClampNeg = k) : (fun j => nI (f j)) x.toNatClampNeg = nI (f k) := by
  show nI (f x.toNatClampNeg) = _
  rw [hx]
theorem zt_eqI {a b : Nat} (ha : a < 4) (hb : b < 4) : nI a = nI b ↔ a = b := nI_eq (by omega) (by omega)
section
variable {f_length f_patternLength f_distinctFound f_longestFound f_nodeCount f_stateCount f_rowCount : Int32} {a_text a_pattern a_order a_occurs a_otherOrder a_rank a_pairRank a_nodePlace a_nodeDepth a_nodeParent a_nodeTail a_nodeBranch a_waitingNodes a_stateLength a_stateLink a_stateEnd a_stateTails a_stateBranch a_lastColumn : Nat → Int32}
variable {t : Nat → Nat} {L : Nat}
theorem zt_x_sl20 {post : Int32 → Prop} {i j mx : Nat} (hL : L ≤ 40) (hi : i ≤ L) (hj : j ≤ L) (m1 : i + mx ≤ L) (m2 : j + mx ≤ L) (m3 : L ≤ i + mx ∨ L ≤ j + mx) (h4 : ∀ i, t i < 4) (h : post (nI (zt_N (zt_g t L) L i j))) : ∀ d s n, s + d = mx → d < n → s ≤ zt_N (zt_g t L) L i j → wX_sharedLetters_20 post (nI i) (nI j) (nI mx) (nI L) f_patternLength f_distinctFound f_longestFound f_nodeCount f_stateCount f_rowCount (fun j => nI (t j)) a_pattern a_order a_occurs a_otherOrder a_rank a_pairRank a_nodePlace a_nodeDepth a_nodeParent a_nodeTail a_nodeBranch a_waitingNodes a_stateLength a_stateLink a_stateEnd a_stateTails a_stateBranch a_lastColumn n (nI s) := by
  intro d
  induction d with
  | zero =>
    intro s n hs hn hN
    obtain ⟨n, rfl⟩ : ∃ m, n = m + 1 := ⟨n - 1, by omega⟩
    have e : zt_N (zt_g t L) L i j = s := zt_N_max hi hj hN (by omega)
    rw [e] at h
    exact br_t (nI_le (by omega) (by omega)) h
  | succ d ih =>
    intro s n hs hn hN
    obtain ⟨n, rfl⟩ : ∃ m, n = m + 1 := ⟨n - 1, by omega⟩
    have ei : (nI i + nI s).toNatClampNeg = i + s := pk_cl (i + s) (nI_add i s)
    have ej : (nI j + nI s).toNatClampNeg = j + s := pk_cl (j + s) (nI_add j s)
    have go := zt_N_go (g := zt_g t L) hi hj hN (by omega) (by omega)
    rw [ne_eq, zt_g_eq (by omega) (by omega)] at go
    refine br_f (nI_ge (by omega) (by omega)) ⟨pk_in (i + s) 40 (by omega) (nI_add i s), pk_in (j + s) 40 (by omega) (nI_add j s), zt_br (d := t (i + s) = t (j + s)) ?_ (fun e => ?_) (fun e => ?_)⟩
    · simp only [ei, ej]; exact zt_eqI (h4 _) (h4 _)
    · exact nm_r (nI_1 s) (ih (s + 1) n (by omega) (by omega) (go.1 e))
    · rw [go.2 e] at h; exact h
theorem zt_x_sl {post : Int32 → Prop} {i j : Nat} (k : Nat) (hL : L ≤ 40) (hi : i ≤ L) (hj : j ≤ L) (h4 : ∀ i, t i < 4) (hk : k ≤ zt_N (zt_g t L) L i j) (h : post (nI (zt_N (zt_g t L) L i j))) : wpX_sharedLetters post (nI L, f_patternLength, f_distinctFound, f_longestFound, f_nodeCount, f_stateCount, f_rowCount, fun j => nI (t j), a_pattern, a_order, a_occurs, a_otherOrder, a_rank, a_pairRank, a_nodePlace, a_nodeDepth, a_nodeParent, a_nodeTail, a_nodeBranch, a_waitingNodes, a_stateLength, a_stateLink, a_stateEnd, a_stateTails, a_stateBranch, a_lastColumn) (nI i) (nI j) (nI k) := by
  have a := zt_N_i (g := zt_g t L) hi hj
  have b := zt_N_j (g := zt_g t L) hi hj
  refine pk_le i j (fun c => ?_) (fun c => ?_)
  · exact nm_r (pk_sub hj) ⟨L - j - k + 1, zt_x_sl20 hL hi hj (by omega) (by omega) (by omega) h4 h (L - j - k) k _ (by omega) (by omega) hk⟩
  · exact nm_r (pk_sub hi) ⟨L - i - k + 1, zt_x_sl20 hL hi hj (by omega) (by omega) (by omega) h4 h (L - i - k) k _ (by omega) (by omega) hk⟩
theorem zt_x_cb {post : Int32 → Prop} {i j : Nat} (hL : L ≤ 40) (hi : i < L) (hj : j < L) (ne : i ≠ j) (h4 : ∀ i, t i < 4) (h1 : zt_T (zt_g t L) i j → post 1) (h0 : ¬ zt_T (zt_g t L) i j → post 0) : wpX_comesBefore post (nI L, f_patternLength, f_distinctFound, f_longestFound, f_nodeCount, f_stateCount, f_rowCount, fun j => nI (t j), a_pattern, a_order, a_occurs, a_otherOrder, a_rank, a_pairRank, a_nodePlace, a_nodeDepth, a_nodeParent, a_nodeTail, a_nodeBranch, a_waitingNodes, a_stateLength, a_stateLink, a_stateEnd, a_stateTails, a_stateBranch, a_lastColumn) (nI i) (nI j) := by
  have a := zt_N_i (g := zt_g t L) (L := L) (i := i) (j := j) (by omega) (by omega)
  have b := zt_N_j (g := zt_g t L) (L := L) (i := i) (j := j) (by omega) (by omega)
  have z := zt_before (zt_g_Z t L) hi hj ne
  refine zt_x_sl 0 hL (by omega) (by omega) h4 (Nat.zero_le _) ?_
  generalize zt_N (zt_g t L) L i j = s at *
  have ei : (nI i + nI s).toNatClampNeg = i + s := pk_cl (i + s) (nI_add i s)
  have ej : (nI j + nI s).toNatClampNeg = j + s := pk_cl (j + s) (nI_add j s)
  refine pk_le L (i + s) (fun c => ?_) (fun c => ?_) rfl (nI_add i s)
  · have := z.1 (Or.inl c)
    exact pk_le i j (fun d => h0 (fun x => by have := this.1 x; omega)) (fun d => h1 (this.2 d))
  · refine pk_lt (j + s) L (fun d => ?_) (fun d => ?_) (nI_add j s) rfl
    · refine ⟨pk_in (i + s) 40 (by omega) (nI_add i s), pk_in (j + s) 40 (by omega) (nI_add j s), zt_br (d := t (j + s) ≤ t (i + s)) ?_ (fun e => ?_) (fun e => ?_)⟩
      · simp only [ei, ej]; exact nI_leI (zt_31 (h4 _)) (zt_31 (h4 _))
      · refine h0 (fun x => ?_)
        have := (z.2 c d).1 x
        rw [zt_g_lt c, zt_g_lt d] at this
        omega
      · refine h1 ((z.2 c d).2 ?_)
        rw [zt_g_lt c, zt_g_lt d]
        omega
    · have := z.1 (Or.inr d)
      exact pk_le i j (fun d => h0 (fun x => by have := this.1 x; omega)) (fun d => h1 (this.2 d))
theorem zt_x_so12 {post : SX → Prop} {J : _} {p : Nat} (hL : L ≤ 40) (hp : p < L) (h4 : ∀ i, t i < 4) (hJ : ∀ o, zt_SO (zt_g t L) (p + 1) o → J (nI (p + 1)) (fun j => nI (t j)) a_pattern (fun j => nI (o j)) a_occurs a_otherOrder a_rank a_pairRank a_nodePlace a_nodeDepth a_nodeParent a_nodeTail a_nodeBranch a_waitingNodes a_stateLength a_stateLink a_stateEnd a_stateTails a_stateBranch a_lastColumn) : ∀ row n o, row < n → zt_IS (zt_g t L) p row o → wX_sortByLetters_12 post J (nI p) (nI L) f_patternLength f_distinctFound f_longestFound f_nodeCount f_stateCount f_rowCount n (nI row) (fun j => nI (t j)) a_pattern (fun j => nI (o j)) a_occurs a_otherOrder a_rank a_pairRank a_nodePlace a_nodeDepth a_nodeParent a_nodeTail a_nodeBranch a_waitingNodes a_stateLength a_stateLink a_stateEnd a_stateTails a_stateBranch a_lastColumn := by
  intro row
  induction row with
  | zero =>
    intro n o hn h
    obtain ⟨n, rfl⟩ : ∃ m, n = m + 1 := ⟨n - 1, by omega⟩
    exact br_t (nI_le (a := 0) (b := 0) (Nat.le_refl 0) (by decide)) ⟨pk_in 0 40 (by omega), nm_r (zt_upE 0 p (pk_cl 0) rfl) (nm_r (nI_1 p) (hJ _ (zt_IS_2 h (Or.inl rfl))))⟩
  | succ row ih =>
    intro n o hn h
    obtain ⟨n, rfl⟩ : ∃ m, n = m + 1 := ⟨n - 1, by omega⟩
    have hr := h.1
    have er : nI (row + 1) - 1 = nI row := nI_pred row
    have ec : (nI (row + 1) - 1).toNatClampNeg = row := pk_cl row er
    have or' : o row < p := h.2.1 row (by have := h.1; omega) (by omega)
    refine br_f (nI_nle (by omega) (by omega)) ⟨pk_in row 40 (by omega) er, ?_⟩
    simp only [ec]
    refine zt_x_cb hL (by omega) (by omega) (by omega) h4 (fun hT => ?_) (fun hT => ?_)
    · exact br_f (by decide) ⟨pk_in row 40 (by omega) er, pk_in (row + 1) 40 (by omega), nm_r (zt_upE (row + 1) (o row) (pk_cl (row + 1)) rfl) (nm_r (pk_m1 row) (ih n _ (by omega) (zt_IS_1 h hT)))⟩
    · refine br_t rfl ⟨pk_in (row + 1) 40 (by omega), nm_r (zt_upE (row + 1) p (pk_cl (row + 1)) rfl) (nm_r (nI_1 p) (hJ _ (zt_IS_2 h (Or.inr ?_))))⟩
      rw [Nat.add_sub_cancel]
      rcases zt_T_to (zt_g_Z t L) (by omega : o row ≤ L) (by omega : p ≤ L) (by omega) with c | c
      · exact c
      · exact absurd c hT
theorem zt_x_so2 {post : SX → Prop} (hL : L ≤ 40) (h4 : ∀ i, t i < 4) (h : ∀ o, zt_O (zt_g t L) L o → post (nI L, f_patternLength, f_distinctFound, f_longestFound, f_nodeCount, f_stateCount, f_rowCount, fun j => nI (t j), a_pattern, fun j => nI (o j), a_occurs, a_otherOrder, a_rank, a_pairRank, a_nodePlace, a_nodeDepth, a_nodeParent, a_nodeTail, a_nodeBranch, a_waitingNodes, a_stateLength, a_stateLink, a_stateEnd, a_stateTails, a_stateBranch, a_lastColumn)) : ∀ d p n o, p + d = L → d < n → zt_SO (zt_g t L) p o → wX_sortByLetters_2 post (nI L) f_patternLength f_distinctFound f_longestFound f_nodeCount f_stateCount f_rowCount n (nI p) (fun j => nI (t j)) a_pattern (fun j => nI (o j)) a_occurs a_otherOrder a_rank a_pairRank a_nodePlace a_nodeDepth a_nodeParent a_nodeTail a_nodeBranch a_waitingNodes a_stateLength a_stateLink a_stateEnd a_stateTails a_stateBranch a_lastColumn := by
  intro d
  induction d with
  | zero =>
    intro p n o hp hn hS
    obtain ⟨n, rfl⟩ : ∃ m, n = m + 1 := ⟨n - 1, by omega⟩
    have e : p = L := by omega
    subst e
    exact br_t (nI_le (Nat.le_refl _) (by omega)) (h o (zt_SO_O hS))
  | succ d ih =>
    intro p n o hp hn hS
    obtain ⟨n, rfl⟩ : ∃ m, n = m + 1 := ⟨n - 1, by omega⟩
    exact br_f (nI_ge (by omega) (by omega)) ⟨p + 1, zt_x_so12 hL (by omega) h4 (fun o' h' => ih (p + 1) n o' (by omega) (by omega) h') p _ o (by omega) (zt_IS_0 hS)⟩
theorem zt_x_so {post : SX → Prop} (hL : L ≤ 40) (h4 : ∀ i, t i < 4) (h : ∀ o, zt_O (zt_g t L) L o → post (nI L, f_patternLength, f_distinctFound, f_longestFound, f_nodeCount, f_stateCount, f_rowCount, fun j => nI (t j), a_pattern, fun j => nI (o j), a_occurs, a_otherOrder, a_rank, a_pairRank, a_nodePlace, a_nodeDepth, a_nodeParent, a_nodeTail, a_nodeBranch, a_waitingNodes, a_stateLength, a_stateLink, a_stateEnd, a_stateTails, a_stateBranch, a_lastColumn)) : wpX_sortByLetters post (nI L, f_patternLength, f_distinctFound, f_longestFound, f_nodeCount, f_stateCount, f_rowCount, fun j => nI (t j), a_pattern, a_order, a_occurs, a_otherOrder, a_rank, a_pairRank, a_nodePlace, a_nodeDepth, a_nodeParent, a_nodeTail, a_nodeBranch, a_waitingNodes, a_stateLength, a_stateLink, a_stateEnd, a_stateTails, a_stateBranch, a_lastColumn) := by
  obtain ⟨o, rfl⟩ := zt_arr a_order
  exact ⟨L + 1, zt_x_so2 hL h4 h L 0 _ o (by omega) (by omega) ⟨fun a ha => by omega, fun a b h1 h2 => by omega⟩⟩
theorem zt_x_sw {post : Int32 → Prop} {o : Nat → Nat} {k : Nat} (hL : L ≤ 40) (h4 : ∀ i, t i < 4) (hO : zt_O (zt_g t L) L o) (hk : k < L) (h : post (nI (if k = 0 then 0 else zt_N (zt_g t L) L (o (k - 1)) (o k)))) : wpX_sharedWithRowBefore post (nI L, f_patternLength, f_distinctFound, f_longestFound, f_nodeCount, f_stateCount, f_rowCount, fun j => nI (t j), a_pattern, fun j => nI (o j), a_occurs, a_otherOrder, a_rank, a_pairRank, a_nodePlace, a_nodeDepth, a_nodeParent, a_nodeTail, a_nodeBranch, a_waitingNodes, a_stateLength, a_stateLink, a_stateEnd, a_stateTails, a_stateBranch, a_lastColumn) (nI k) := by
  refine pk_eq k 0 (fun c => ?_) (fun c => ?_)
  · rw [if_pos c] at h; exact h
  · rw [if_neg c] at h
    obtain ⟨k, rfl⟩ : ∃ m, k = m + 1 := ⟨k - 1, by omega⟩
    rw [Nat.add_sub_cancel] at h
    have er : nI (k + 1) - 1 = nI k := nI_pred k
    have ec : (nI (k + 1) - 1).toNatClampNeg = k := pk_cl k er
    have ek : (nI (k + 1)).toNatClampNeg = k + 1 := pk_cl (k + 1)
    have a := (hO k (by omega)).1
    have b := (hO (k + 1) hk).1
    refine ⟨pk_in k 40 (by omega) er, pk_in (k + 1) 40 (by omega), ?_⟩
    simp only [ec, ek]
    exact zt_x_sl 0 hL (by omega) (by omega) h4 (Nat.zero_le _) h
theorem zt_x_nl {post : SX → Prop} {a b : Nat} (ha : a < 2 ^ 31) (hb : b < 2 ^ 31) (h : post (f_length, f_patternLength, f_distinctFound, nI (if b < a then a else b), f_nodeCount, f_stateCount, f_rowCount, a_text, a_pattern, a_order, a_occurs, a_otherOrder, a_rank, a_pairRank, a_nodePlace, a_nodeDepth, a_nodeParent, a_nodeTail, a_nodeBranch, a_waitingNodes, a_stateLength, a_stateLink, a_stateEnd, a_stateTails, a_stateBranch, a_lastColumn)) : wpX_noteLongest post (f_length, f_patternLength, f_distinctFound, nI b, f_nodeCount, f_stateCount, f_rowCount, a_text, a_pattern, a_order, a_occurs, a_otherOrder, a_rank, a_pairRank, a_nodePlace, a_nodeDepth, a_nodeParent, a_nodeTail, a_nodeBranch, a_waitingNodes, a_stateLength, a_stateLink, a_stateEnd, a_stateTails, a_stateBranch, a_lastColumn) (nI a) := by
  refine pk_le a b (fun c => ?_) (fun c => ?_)
  · rw [if_neg (by omega)] at h; exact h
  · rw [if_pos c] at h; exact h
theorem zt_x_mr2 {post : SX → Prop} {o : Nat → Nat} (hL : L ≤ 40) (h4 : ∀ i, t i < 4) (hO : zt_O (zt_g t L) L o) (h : post (nI L, f_patternLength, nI (zt_D (zt_g t L) L (fun i => i)), nI (zt_m (fun k => if k = 0 then 0 else zt_N (zt_g t L) L (o (k - 1)) (o k)) L), f_nodeCount, f_stateCount, f_rowCount, fun j => nI (t j), a_pattern, fun j => nI (o j), a_occurs, a_otherOrder, a_rank, a_pairRank, a_nodePlace, a_nodeDepth, a_nodeParent, a_nodeTail, a_nodeBranch, a_waitingNodes, a_stateLength, a_stateLink, a_stateEnd, a_stateTails, a_stateBranch, a_lastColumn)) : ∀ d k n, k + d = L → d < n → wX_measureRows_2 post n (nI k) (nI L) f_patternLength (nI (zt_s (fun k => L - o k - (if k = 0 then 0 else zt_N (zt_g t L) L (o (k - 1)) (o k))) k)) (nI (zt_m (fun k => if k = 0 then 0 else zt_N (zt_g t L) L (o (k - 1)) (o k)) k)) f_nodeCount f_stateCount f_rowCount (fun j => nI (t j)) a_pattern (fun j => nI (o j)) a_occurs a_otherOrder a_rank a_pairRank a_nodePlace a_nodeDepth a_nodeParent a_nodeTail a_nodeBranch a_waitingNodes a_stateLength a_stateLink a_stateEnd a_stateTails a_stateBranch a_lastColumn := by
  have hz := zt_g_Z t L
  have bd : ∀ k, k < L → (if k = 0 then 0 else zt_N (zt_g t L) L (o (k - 1)) (o k)) + o k ≤ L := by
    intro k hk
    have b := (hO k hk).1
    split
    · omega
    · have a := (hO (k - 1) (by omega)).1
      have := zt_N_j (g := zt_g t L) (L := L) (i := o (k - 1)) (j := o k) (by omega) (by omega)
      omega
  intro d
  induction d with
  | zero =>
    intro k n hk hn
    obtain ⟨n, rfl⟩ : ∃ m, n = m + 1 := ⟨n - 1, by omega⟩
    have e : k = L := by omega
    subst e
    refine br_t (nI_le (Nat.le_refl _) (by omega)) ?_
    rw [zt_D_rows hz hO, zt_D_eq (rk := fun i => i) (fun i j hi hj e => zt_r_inj hz hi hj e) (fun i j _ _ e => e)]
    exact h
  | succ d ih =>
    intro k n hk hn
    obtain ⟨n, rfl⟩ : ∃ m, n = m + 1 := ⟨n - 1, by omega⟩
    have ek : (nI k).toNatClampNeg = k := pk_cl k
    have b := bd k (by omega)
    have b2 : zt_m (fun k => if k = 0 then 0 else zt_N (zt_g t L) L (o (k - 1)) (o k)) k ≤ L := zt_m_le fun i hi => by
      have := bd i (by omega)
      omega
    refine br_f (nI_ge (by omega) (by omega)) (zt_x_sw hL h4 hO (by omega) ⟨pk_in k 40 (by omega), nm_r (e' := nI (zt_s (fun k => L - o k - (if k = 0 then 0 else zt_N (zt_g t L) L (o (k - 1)) (o k))) (k + 1))) ?_ ?_⟩)
    · simp only [ek]
      rw [pk_sub (by omega), pk_sub (by omega), nI_add, zt_s1]
    · exact zt_x_nl (by omega) (by omega) (nm_r (nI_1 k) (ih (k + 1) n (by omega) (by omega)))
theorem zt_x_mr {post : SX → Prop} {o : Nat → Nat} (hL : L ≤ 40) (h4 : ∀ i, t i < 4) (hO : zt_O (zt_g t L) L o) (h : ∀ G, zt_G (zt_g t L) L G → post (nI L, f_patternLength, nI (zt_D (zt_g t L) L (fun i => i)), nI G, f_nodeCount, f_stateCount, f_rowCount, fun j => nI (t j), a_pattern, fun j => nI (o j), a_occurs, a_otherOrder, a_rank, a_pairRank, a_nodePlace, a_nodeDepth, a_nodeParent, a_nodeTail, a_nodeBranch, a_waitingNodes, a_stateLength, a_stateLink, a_stateEnd, a_stateTails, a_stateBranch, a_lastColumn)) : wpX_measureRows post (nI L, f_patternLength, 0, 0, f_nodeCount, f_stateCount, f_rowCount, fun j => nI (t j), a_pattern, fun j => nI (o j), a_occurs, a_otherOrder, a_rank, a_pairRank, a_nodePlace, a_nodeDepth, a_nodeParent, a_nodeTail, a_nodeBranch, a_waitingNodes, a_stateLength, a_stateLink, a_stateEnd, a_stateTails, a_stateBranch, a_lastColumn) :=
  ⟨L + 1, zt_x_mr2 hL h4 hO (h _ (zt_G_mr (zt_g_Z t L) hO)) L 0 _ (by omega) (by omega)⟩
end
end
section
/-! the reference: its table, its counts -/
theorem zt_m1s (x : Int32) : x + (-1) = x - 1 := (Int32.sub_eq_add_neg x 1).symm
theorem zt_41 (i j : Nat) : (41 * nI i) + nI j = nI (41 * i + j) := by
  rw [show (41 : Int32) = nI 41 from rfl, pk_mul, nI_add]
theorem zt_41s (i j : Nat) : ((41 * (nI i + 1)) + nI j) + 1 = nI (41 * (i + 1) + (j + 1)) := by
  rw [nI_1, zt_41, nI_1]; rfl
def zt_shP (t : Nat → Nat) (L i j : Nat) (sh : Nat → Int32) : Prop := ∀ a b, a ≤ 40 → b ≤ 40 → (i < a ∨ (a = i ∧ j ≤ b)) → sh (41 * a + b) = nI (zt_N (zt_g t L) L a b)
theorem zt_shP_1 {t : Nat → Nat} {L i j : Nat} {sh : Nat → Int32} (hi : i ≤ 40) (hj : j ≤ 40) (h : zt_shP t L i (j + 1) sh) : zt_shP t L i j (upd sh (41 * i + j) (nI (zt_N (zt_g t L) L i j))) := by
  intro a b ha hb hab
  by_cases c : a = i ∧ b = j
  · obtain ⟨rfl, rfl⟩ := c
    exact pk_us
  · rw [pk_un (by omega)]
    exact h a b ha hb (by omega)
section
variable {f_size f_width : Int32} {a_text a_pattern a_shared : Nat → Int32}
variable {t pat : Nat → Nat} {L m : Nat}
theorem zt_y_c10 {post : SY → Prop} {J : _} {i : Nat} (hi : i ≤ 40) (hL : L ≤ 40) (h4 : ∀ i, t i < 4) (hJ : ∀ sh, zt_shP t L i 0 sh → J (nI i - 1) (fun j => nI (t j)) a_pattern sh) : ∀ j n x sh, j < n → j ≤ 41 → x = nI j - 1 → zt_shP t L i j sh → wY_compare_10 post J (nI i) (nI L) f_width n x (fun j => nI (t j)) a_pattern sh := by
  intro j
  induction j with
  | zero =>
    intro n x sh hn hj hx h
    obtain ⟨n, rfl⟩ : ∃ m, n = m + 1 := ⟨n - 1, by omega⟩
    subst hx
    exact br_t (by decide) (nm_r (zt_m1s _) (hJ sh h))
  | succ j ih =>
    intro n x sh hn hj hx h
    obtain ⟨n, rfl⟩ : ∃ m, n = m + 1 := ⟨n - 1, by omega⟩
    rw [nI_pred] at hx
    subst hx
    have ec : ((41 * nI i) + nI j).toNatClampNeg = 41 * i + j := pk_cl (41 * i + j) (zt_41 i j)
    have ei : vp_in ((41 * nI i) + nI j) 1681 := pk_in (41 * i + j) 1681 (by omega) (zt_41 i j)
    have nx := ih n (nI j - 1) (upd sh (41 * i + j) (nI (zt_N (zt_g t L) L i j))) (by omega) (by omega) rfl (zt_shP_1 hi (by omega) h)
    have z : (L ≤ i ∨ L ≤ j ∨ t i ≠ t j) → wY_compare_50 post J (wY_compare_10 post J (nI i) (nI L) f_width n) (nI i) (nI j) 0 (nI L) f_width (fun j => nI (t j)) a_pattern sh := by
      intro hz
      have e0 : zt_N (zt_g t L) L i j = 0 := zt_N_rec0 (by
        by_cases c1 : i < L
        · by_cases c2 : j < L
          · refine Or.inr (Or.inr ?_)
            rw [ne_eq, zt_g_eq c1 c2]
            omega
          · omega
        · omega)
      rw [e0] at nx
      refine br_t rfl ⟨ei, nm_r (e' := upd sh (41 * i + j) (nI 0)) (by rw [ec]; rfl) (nm_r (zt_m1s _) nx)⟩
    refine br_f (nI_pos (by omega)) (pk_le L i (fun c => z (Or.inl c)) (fun c1 => pk_le L j (fun c => z (Or.inr (Or.inl c))) (fun c2 => ⟨pk_in i 40 (by omega), pk_in j 40 (by omega), zt_br (d := t i = t j) ?_ (fun e => ?_) (fun e => z (Or.inr (Or.inr e)))⟩)))
    · simp only [nI_clamp (show i < 2 ^ 31 by omega), nI_clamp (show j < 2 ^ 31 by omega)]
      exact zt_eqI (h4 _) (h4 _)
    · have e1 := zt_N_rec1 c1 c2 ((zt_g_eq c1 c2).2 e)
      have v := h (i + 1) (j + 1) (by omega) (by omega) (Or.inl (by omega))
      have es : (((41 * (nI i + 1)) + nI j) + 1).toNatClampNeg = 41 * (i + 1) + (j + 1) := pk_cl _ (zt_41s i j)
      refine br_f (by decide) ⟨pk_in (41 * (i + 1) + (j + 1)) 1681 (by omega) (zt_41s i j), ei, nm_r (e' := upd sh (41 * i + j) (nI (zt_N (zt_g t L) L i j))) ?_ (nm_r (zt_m1s _) nx)⟩
      rw [ec, es, v, nI_1, e1]
theorem zt_y_c3 {post : SY → Prop} (hL : L ≤ 40) (h4 : ∀ i, t i < 4) (h : ∀ sh, zt_sh t L sh → post (nI L, f_width, (fun j => nI (t j)), a_pattern, sh)) : ∀ i n x sh, i < n → i ≤ 41 → x = nI i - 1 → (∀ a b, a ≤ 40 → b ≤ 40 → i ≤ a → sh (41 * a + b) = nI (zt_N (zt_g t L) L a b)) → wY_compare_3 post (nI L) f_width n x (fun j => nI (t j)) a_pattern sh := by
  intro i
  induction i with
  | zero =>
    intro n x sh hn hi hx hs
    obtain ⟨n, rfl⟩ : ∃ m, n = m + 1 := ⟨n - 1, by omega⟩
    subst hx
    exact br_t (by decide) (h sh fun a b ha hb => hs a b ha hb (Nat.zero_le _))
  | succ i ih =>
    intro n x sh hn hi hx hs
    obtain ⟨n, rfl⟩ : ∃ m, n = m + 1 := ⟨n - 1, by omega⟩
    rw [nI_pred] at hx
    subst hx
    exact br_f (nI_pos (by omega)) ⟨42, zt_y_c10 (by omega) hL h4 (fun sh' hs' => ih n _ sh' (by omega) (by omega) rfl (fun a b ha hb hab => hs' a b ha hb (by omega))) 41 _ _ sh (by omega) (by omega) (by decide) (fun a b ha hb hab => hs a b ha hb (by omega))⟩
theorem zt_y_co {post : SY → Prop} (hL : L ≤ 40) (h4 : ∀ i, t i < 4) (h : ∀ sh, zt_sh t L sh → post (nI L, f_width, (fun j => nI (t j)), a_pattern, sh)) : wpY_compare post (nI L, f_width, (fun j => nI (t j)), a_pattern, a_shared) :=
  ⟨42, zt_y_c3 hL h4 h 41 _ _ a_shared (by omega) (by omega) (by decide) (fun a b ha hb hab => by omega)⟩
/-- the table read -/
theorem zt_y_at {sh : Nat → Int32} (hs : zt_sh t L sh) {i j : Nat} (hi : i ≤ 40) (hj : j ≤ 40) : vp_in ((41 * nI i) + nI j) 1681 ∧ sh ((41 * nI i) + nI j).toNatClampNeg = nI (zt_N (zt_g t L) L i j) :=
  ⟨pk_in (41 * i + j) 1681 (by omega) (zt_41 i j), by rw [pk_cl (41 * i + j) (zt_41 i j)]; exact hs i j hi hj⟩
theorem zt_y_oc28 {post : Int32 → Prop} {i : Nat} (hm : m ≤ 10) (hL : L ≤ 40) (hi : i + m ≤ L) (h4 : ∀ i, t i < 4) (p4 : ∀ i, pat i < 4) (h1 : zt_oc (zt_g t L) pat m i → post 1) (h0 : ¬ zt_oc (zt_g t L) pat m i → post 0) : ∀ d s n, s + d = m → d < n → (∀ q, q < s → zt_g t L (i + q) = pat q + 1) → wY_occurs_28 post (nI i) (nI L) (nI m) (fun j => nI (t j)) (fun j => nI (pat j)) a_shared n 1 (nI s) := by
  intro d
  induction d with
  | zero =>
    intro s n hs hn hq
    obtain ⟨n, rfl⟩ : ∃ m, n = m + 1 := ⟨n - 1, by omega⟩
    have e : s = m := by omega
    subst e
    exact br_t (nI_le (Nat.le_refl _) (by omega)) ⟨rfl, h1 hq⟩
  | succ d ih =>
    intro s n hs hn hq
    obtain ⟨n, rfl⟩ : ∃ m, n = m + 1 := ⟨n - 1, by omega⟩
    have ei : (nI i + nI s).toNatClampNeg = i + s := pk_cl (i + s) (nI_add i s)
    have es : (nI s).toNatClampNeg = s := pk_cl s
    refine br_f (nI_ge (by omega) (by omega)) (br_f (by decide) ⟨pk_in (i + s) 40 (by omega) (nI_add i s), pk_in s 10 (by omega), zt_br (d := t (i + s) = pat s) ?_ (fun e => ?_) (fun e => ?_)⟩)
    · simp only [ei, es]; exact zt_eqI (h4 _) (p4 _)
    · refine nm_r (nI_1 s) (ih (s + 1) n (by omega) (by omega) (fun q hq' => ?_))
      by_cases c : q = s
      · subst c; rw [zt_g_lt (by omega), e]
      · exact hq q (by omega)
    · refine nm_r (nI_1 s) ?_
      have no : post 0 := h0 (fun x => by
        have := x s (by omega)
        rw [zt_g_lt (by omega)] at this
        omega)
      obtain ⟨n, rfl⟩ : ∃ m, n = m + 1 := ⟨n - 1, by omega⟩
      by_cases c : m ≤ s + 1
      · exact br_t (nI_le c (by omega)) ⟨rfl, no⟩
      · exact br_f (nI_ge (by omega) (by omega)) (br_t rfl ⟨rfl, no⟩)
theorem zt_y_oc {post : Int32 → Prop} {i : Nat} (hm : m ≤ 10) (hL : L ≤ 40) (hi : i ≤ L) (h4 : ∀ i, t i < 4) (p4 : ∀ i, pat i < 4) (h1 : zt_occ (zt_g t L) pat m i → post 1) (h0 : ¬ zt_occ (zt_g t L) pat m i → post 0) : wpY_occurs post (nI L, nI m, (fun j => nI (t j)), (fun j => nI (pat j)), a_shared) (nI i) := by
  have no : ¬ zt_occ (zt_g t L) pat m i → ∃ n, wY_occurs_28 post (nI i) (nI L) (nI m) (fun j => nI (t j)) (fun j => nI (pat j)) a_shared n 0 0 := fun c => ⟨1, by
    by_cases z : m ≤ 0
    · exact br_t (nI_le (b := 0) z (by omega)) ⟨rfl, h0 c⟩
    · exact br_f (nI_ge (a := 0) (by omega) (by omega)) (br_t rfl ⟨rfl, h0 c⟩)⟩
  refine pk_le m 0 (fun c => no (fun x => by have := x.1; omega)) (fun c => pk_lt L (i + m) (fun d => no (fun x => ?_)) (fun d => ⟨m + 1, zt_y_oc28 hm hL d h4 p4 (fun x => h1 ⟨c, x⟩) (fun x => h0 (fun y => x y.2)) m 0 _ (by omega) (by omega) (fun q hq => by omega)⟩) rfl (nI_add i m))
  have := zt_oc_L (zt_g_Z t L) x.2 x.1
  omega
theorem zt_y_en {post : Int32 → Prop} {x : Int32} {k : Nat} (hk : k < 100) (h1 : ∀ e, e ≤ k → x = nI e → post 1) (h0 : (∀ e, e ≤ k → ¬ x = nI e) → post 0) : wpY_engine post (f_size, f_width, a_text, a_pattern, a_shared) x (nI k) := by
  by_cases c : x < 0
  · refine br_t c (h0 fun e he hx => ?_)
    subst hx
    exact nI_pos (by omega) c
  · obtain ⟨j, hj, rfl⟩ := nI_of c
    refine br_f c (pk_lt k j (fun d => h0 fun e he hx => ?_) (fun d => h1 j d rfl))
    rw [nI_eq hj (by omega)] at hx
    omega
theorem zt_y_ct4 {post : Int32 → Prop} {x : Int32} (hm : m ≤ 10) (hL : L ≤ 40) (h4 : ∀ i, t i < 4) (p4 : ∀ i, pat i < 4) (h1 : ∀ e, e ≤ 4 → x = nI e → post (nI (zt_c (zt_occ (zt_g t L) pat m) L))) (h0 : (∀ e, e ≤ 4 → ¬ x = nI e) → post (-1)) : ∀ d i n, i + d = L → d < n → wY_count_4 post x (nI L) (nI m) (fun j => nI (t j)) (fun j => nI (pat j)) a_shared n (nI (zt_c (zt_occ (zt_g t L) pat m) i)) (nI i) := by
  intro d
  induction d with
  | zero =>
    intro i n hi hn
    obtain ⟨n, rfl⟩ : ∃ m, n = m + 1 := ⟨n - 1, by omega⟩
    have e : i = L := by omega
    subst e
    exact br_t (nI_le (Nat.le_refl _) (by omega)) (zt_y_en (k := 4) (by omega) (fun e he hx => br_f (by decide) (h1 e he hx)) (fun c => br_t rfl (h0 c)))
  | succ d ih =>
    intro i n hi hn
    obtain ⟨n, rfl⟩ : ∃ m, n = m + 1 := ⟨n - 1, by omega⟩
    refine br_f (nI_ge (by omega) (by omega)) (zt_y_oc hm hL (by omega) h4 p4 (fun c => br_f (by decide) (nm_r (e' := nI (zt_c (zt_occ (zt_g t L) pat m) (i + 1))) (by rw [zt_ct c, nI_1]) (nm_r (nI_1 i) (ih (i + 1) n (by omega) (by omega))))) (fun c => br_t rfl (nm_r (nI_1 i) ?_)))
    have := ih (i + 1) n (by omega) (by omega)
    rw [zt_cf c] at this
    exact this
theorem zt_y_ct {post : Int32 → Prop} {x : Int32} (hm : m ≤ 10) (hL : L ≤ 40) (h4 : ∀ i, t i < 4) (p4 : ∀ i, pat i < 4) (h1 : ∀ e, e ≤ 4 → x = nI e → post (nI (zt_c (zt_occ (zt_g t L) pat m) L))) (h0 : (∀ e, e ≤ 4 → ¬ x = nI e) → post (-1)) : wpY_count post (nI L, nI m, (fun j => nI (t j)), (fun j => nI (pat j)), a_shared) x :=
  ⟨L + 1, zt_y_ct4 hm hL h4 p4 h1 h0 L 0 _ (by omega) (by omega)⟩
theorem zt_y_wh5 {post : Int32 → Prop} {x k : Int32} {e : Nat} (he : e ≤ 4) (hx : x = nI e) (hm : m ≤ 10) (hL : L ≤ 40) (h4 : ∀ i, t i < 4) (p4 : ∀ i, pat i < 4) (h : ∀ r, zt_first (zt_occ (zt_g t L) pat m) L k r → post r) : ∀ d i n, i + d = L → d < n → (∀ j, j < i → zt_occ (zt_g t L) pat m j → ¬ nI (zt_c (zt_occ (zt_g t L) pat m) j) = k) → wY_where_5 post x k (nI L) (nI m) (fun j => nI (t j)) (fun j => nI (pat j)) a_shared n (nI (zt_c (zt_occ (zt_g t L) pat m) i)) (nI i) := by
  intro d
  induction d with
  | zero =>
    intro i n hi hn hj
    obtain ⟨n, rfl⟩ : ∃ m, n = m + 1 := ⟨n - 1, by omega⟩
    have e : i = L := by omega
    subst e
    exact br_t (nI_le (Nat.le_refl _) (by omega)) (h _ (Or.inr ⟨hj, rfl⟩))
  | succ d ih =>
    intro i n hi hn hj
    obtain ⟨n, rfl⟩ : ∃ m, n = m + 1 := ⟨n - 1, by omega⟩
    have nx : (zt_occ (zt_g t L) pat m i → ¬ nI (zt_c (zt_occ (zt_g t L) pat m) i) = k) → wY_where_5 post x k (nI L) (nI m) (fun j => nI (t j)) (fun j => nI (pat j)) a_shared n (nI (zt_c (zt_occ (zt_g t L) pat m) (i + 1))) (nI (i + 1)) := fun hc => ih (i + 1) n (by omega) (by omega) (fun j hj' oj => by
      by_cases c : j = i
      · subst c; exact hc oj
      · exact hj j (by omega) oj)
    refine br_f (nI_ge (by omega) (by omega)) (zt_y_en (k := 4) (by omega) (fun _ _ _ => br_f (by decide) (zt_y_oc hm hL (by omega) h4 p4 (fun c => br_f (by decide) (br_c (fun z => h _ (Or.inl ⟨i, by omega, c, z, rfl⟩)) (fun z => ?_))) (fun c => br_t rfl (nm_r (nI_1 i) ?_)))) (fun c => absurd hx (c e he)))
    · have := nx (fun _ => z)
      rw [zt_ct c, ← nI_1] at this
      exact nm_e (nm_r (nI_1 i) this)
    · have := nx (fun y => absurd y c)
      rw [zt_cf c] at this
      exact this
end
end
section
/-! the reference: where, least, places, repeats, longest, tail -/
theorem zt_c_cut {p : Nat → Prop} {a b : Nat} (hab : a ≤ b) (h : ∀ s, a ≤ s → s < b → ¬ p s) : zt_c p b = zt_c p a := by
  induction b with
  | zero => have : a = 0 := by omega
            rw [this]
  | succ b ih =>
    by_cases e : a = b + 1
    · rw [e]
    · rw [zt_cf (h b (by omega) (by omega)), ih (by omega) (fun s h1 h2 => h s h1 (by omega))]
theorem zt_lp_ex {g : Nat → Nat} {L i s : Nat} (hi : i ≤ L) (hs : i + s ≤ L) : ∃ r, zt_lp g L i s r := by
  obtain ⟨r, h1, h2⟩ := zt_least (fun r => s ≤ zt_N g L i r) ⟨i, by rw [zt_N_s hi]; omega⟩
  refine ⟨r, ?_, h1, fun j hj => by have := h2 j hj; omega⟩
  refine Classical.byContradiction fun c => ?_
  exact h2 i (by omega) (by rw [zt_N_s hi]; omega)
section
variable {f_size f_width : Int32} {a_text a_pattern a_shared : Nat → Int32}
variable {t pat : Nat → Nat} {L m : Nat} {sh : Nat → Int32}
theorem zt_y_wh {post : Int32 → Prop} {x k : Int32} (hm : m ≤ 10) (hL : L ≤ 40) (h4 : ∀ i, t i < 4) (p4 : ∀ i, pat i < 4) (h1 : ∀ e, e ≤ 4 → x = nI e → ∀ r, zt_first (zt_occ (zt_g t L) pat m) L k r → post r) (h0 : (∀ e, e ≤ 4 → ¬ x = nI e) → post (-1)) : wpY_where post (nI L, nI m, (fun j => nI (t j)), (fun j => nI (pat j)), a_shared) x k := by
  by_cases c : ∃ e, e ≤ 4 ∧ x = nI e
  · obtain ⟨e, he, hx⟩ := c
    exact ⟨L + 1, zt_y_wh5 he hx hm hL h4 p4 (h1 e he hx) L 0 _ (by omega) (by omega) (fun j hj => by omega)⟩
  · have no := h0 (fun e he hx => c ⟨e, he, hx⟩)
    refine ⟨1, pk_le L 0 (fun _ => no) (fun _ => zt_y_en (k := 4) (by omega) (fun e he hx => absurd ⟨e, he, hx⟩ c) (fun _ => br_t rfl no))⟩
theorem zt_y_le2 {post : Int32 → Prop} {i s r : Nat} (hL : L ≤ 40) (hs : zt_sh t L sh) (hi : i < L) (h40 : s ≤ 40) (hr : zt_lp (zt_g t L) L i s r) (h : post (nI r)) : ∀ d j n, j + d = r → d < n → wY_least_2 post (nI i) (nI s) (nI L) f_width (fun j => nI (t j)) a_pattern sh n (nI j) := by
  intro d
  induction d with
  | zero =>
    intro j n hj hn
    obtain ⟨n, rfl⟩ : ∃ m, n = m + 1 := ⟨n - 1, by omega⟩
    have e : j = r := by omega
    subst e
    have a := zt_y_at hs (i := i) (j := j) (by omega) (by have := hr.1; omega)
    have b := zt_N_i (g := zt_g t L) (L := L) (i := i) (j := j) (by omega) (by have := hr.1; omega)
    exact ⟨a.1, br_t (by rw [a.2]; exact nI_le hr.2.1 (by omega)) h⟩
  | succ d ih =>
    intro j n hj hn
    obtain ⟨n, rfl⟩ : ∃ m, n = m + 1 := ⟨n - 1, by omega⟩
    have r1 := hr.1
    have a := zt_y_at hs (i := i) (j := j) (by omega) (by omega)
    exact ⟨a.1, br_f (by rw [a.2]; exact nI_ge (hr.2.2 j (by omega)) (by omega)) (nm_r (nI_1 j) (ih (j + 1) n (by omega) (by omega)))⟩
theorem zt_y_le {post : Int32 → Prop} {i s : Nat} (hL : L ≤ 40) (hs : zt_sh t L sh) (hi : i < L) (h40 : i + s ≤ L) (h : ∀ r, zt_lp (zt_g t L) L i s r → post (nI r)) : wpY_least post (nI L, f_width, (fun j => nI (t j)), a_pattern, sh) (nI i) (nI s) := by
  obtain ⟨r, hr⟩ := zt_lp_ex (g := zt_g t L) (by omega : i ≤ L) h40
  exact ⟨r + 1, zt_y_le2 hL hs hi (by omega) hr (h r hr) r 0 _ (by omega) (by omega)⟩
theorem zt_y_pl5 {post : Int32 → Prop} {i s : Nat} (hL : L ≤ 40) (hs : zt_sh t L sh) (hi : i < L) (h40 : s ≤ 40) (h : post (nI (zt_w (zt_g t L) L i s))) : ∀ d j n, j + d = L → d < n → wY_places_5 post (nI i) (nI s) (nI L) f_width (fun j => nI (t j)) a_pattern sh n (nI (zt_c (fun j => s ≤ zt_N (zt_g t L) L i j) j)) (nI j) := by
  intro d
  induction d with
  | zero =>
    intro j n hj hn
    obtain ⟨n, rfl⟩ : ∃ m, n = m + 1 := ⟨n - 1, by omega⟩
    have e : j = L := by omega
    subst e
    exact br_t (nI_le (Nat.le_refl _) (by omega)) h
  | succ d ih =>
    intro j n hj hn
    obtain ⟨n, rfl⟩ : ∃ m, n = m + 1 := ⟨n - 1, by omega⟩
    have a := zt_y_at hs (i := i) (j := j) (by omega) (by omega)
    have b := zt_N_i (g := zt_g t L) (L := L) (i := i) (j := j) (by omega) (by omega)
    have nx := ih (j + 1) n (by omega) (by omega)
    refine br_f (nI_ge (by omega) (by omega)) ⟨a.1, zt_br (d := zt_N (zt_g t L) L i j < s) (by rw [a.2]; exact nI_ltI (by omega) (by omega)) (fun c => nm_r (nI_1 j) ?_) (fun c => nm_r (e' := nI (zt_c (fun j => s ≤ zt_N (zt_g t L) L i j) (j + 1))) ?_ (nm_r (nI_1 j) nx))⟩
    · rw [zt_cf (p := fun j => s ≤ zt_N (zt_g t L) L i j) (by omega)] at nx
      exact nx
    · rw [zt_ct (p := fun j => s ≤ zt_N (zt_g t L) L i j) (by omega), nI_1]
theorem zt_y_pl {post : Int32 → Prop} {i s : Nat} (hL : L ≤ 40) (hs : zt_sh t L sh) (hi : i < L) (h40 : s ≤ 40) (h : post (nI (zt_w (zt_g t L) L i s))) : wpY_places post (nI L, f_width, (fun j => nI (t j)), a_pattern, sh) (nI i) (nI s) :=
  ⟨L + 1, zt_y_pl5 hL hs hi h40 h L 0 _ (by omega) (by omega)⟩
theorem zt_y_rp22 {post : Int32 → Prop} {J : _} {i T B : Nat} (hL : L ≤ 40) (hs : zt_sh t L sh) (hi : i < L) (hT : T < 2 ^ 31) (h : J (nI (B + zt_c (fun s => zt_Q (zt_g t L) L (fun i => i) i s ∧ T ≤ zt_w (zt_g t L) L i (s + 1)) L)) (nI (i + 1))) : ∀ d s n, s + d = L - i → d < n → wY_repeats_22 post J (nI T) (nI i) (nI L) f_width (fun j => nI (t j)) a_pattern sh n (nI (B + zt_c (fun s => zt_Q (zt_g t L) L (fun i => i) i s ∧ T ≤ zt_w (zt_g t L) L i (s + 1)) s)) (nI (s + 1)) := by
  intro d
  induction d with
  | zero =>
    intro s n hd hn
    obtain ⟨n, rfl⟩ : ∃ m, n = m + 1 := ⟨n - 1, by omega⟩
    rw [zt_c_cut (a := s) (b := L) (by omega) (fun s' h1 h2 x => by have := x.1.1; omega)] at h
    exact br_t (by rw [pk_sub (by omega)]; exact nI_lt (by omega) (by omega)) (nm_r (nI_1 i) h)
  | succ d ih =>
    intro s n hd hn
    obtain ⟨n, rfl⟩ : ∃ m, n = m + 1 := ⟨n - 1, by omega⟩
    have nx := ih (s + 1) n (by omega) (by omega)
    refine br_f (by rw [pk_sub (by omega)]; exact nI_nlt (by omega) (by omega)) (zt_y_le hL hs hi (by omega) (fun r hr => ?_))
    have q := zt_lp_i hi (by omega) hr
    have r1 := hr.1
    have wl : zt_w (zt_g t L) L i (s + 1) ≤ L := zt_cn _ _
    refine zt_br (d := r = i) (nI_eq (by omega) (by omega)) (fun c => zt_y_pl hL hs hi (by omega) (zt_br (d := zt_w (zt_g t L) L i (s + 1) < T) (nI_ltI (by omega) hT) (fun e => nm_r (nI_1 (s + 1)) ?_) (fun e => nm_r (nI_1 _) (nm_r (nI_1 (s + 1)) ?_)))) (fun c => nm_r (nI_1 (s + 1)) ?_)
    · rw [zt_cf (p := fun s => zt_Q (zt_g t L) L (fun i => i) i s ∧ T ≤ zt_w (zt_g t L) L i (s + 1)) (fun x => by have := x.2; omega)] at nx
      exact nx
    · rw [zt_ct (p := fun s => zt_Q (zt_g t L) L (fun i => i) i s ∧ T ≤ zt_w (zt_g t L) L i (s + 1)) ⟨q.1 c, by omega⟩] at nx
      exact nx
    · rw [zt_cf (p := fun s => zt_Q (zt_g t L) L (fun i => i) i s ∧ T ≤ zt_w (zt_g t L) L i (s + 1)) (fun x => c (q.2 x.1))] at nx
      exact nx
theorem zt_y_rp11 {post : Int32 → Prop} {T : Nat} (hL : L ≤ 40) (hs : zt_sh t L sh) (hT : T < 2 ^ 31) (h : post (nI (zt_RP (zt_g t L) L T))) : ∀ d i n, i + d = L → d < n → wY_repeats_11 post (nI T) (nI L) f_width (fun j => nI (t j)) a_pattern sh n (nI (zt_s (fun i => zt_c (fun s => zt_Q (zt_g t L) L (fun i => i) i s ∧ T ≤ zt_w (zt_g t L) L i (s + 1)) L) i)) (nI i) := by
  intro d
  induction d with
  | zero =>
    intro i n hi hn
    obtain ⟨n, rfl⟩ : ∃ m, n = m + 1 := ⟨n - 1, by omega⟩
    have e : i = L := by omega
    subst e
    exact br_t (nI_le (Nat.le_refl _) (by omega)) h
  | succ d ih =>
    intro i n hi hn
    obtain ⟨n, rfl⟩ : ∃ m, n = m + 1 := ⟨n - 1, by omega⟩
    exact br_f (nI_ge (by omega) (by omega)) ⟨L - i + 1, zt_y_rp22 (B := zt_s (fun i => zt_c (fun s => zt_Q (zt_g t L) L (fun i => i) i s ∧ T ≤ zt_w (zt_g t L) L i (s + 1)) L) i) hL hs (by omega) hT (ih (i + 1) n (by omega) (by omega)) (L - i) 0 _ (by omega) (by omega)⟩
theorem zt_y_rp {post : Int32 → Prop} {x : Int32} (hL : L ≤ 40) (hs : zt_sh t L sh) (h1 : ∀ T, 1 ≤ T → T < 2 ^ 31 → x = nI T → post (nI (zt_RP (zt_g t L) L T))) (h0 : ¬ 1 ≤ x → post (-1)) : wpY_repeats post (nI L, f_width, (fun j => nI (t j)), a_pattern, sh) x := by
  refine br_c (fun c => ?_) h0
  obtain ⟨T, hT, rfl⟩ := nI_of (x := x) (Int32.not_lt.mpr (Int32.le_trans (by decide) c))
  have c1 : 1 ≤ T := (nI_leI (a := 1) (by omega) hT).1 c
  exact ⟨L + 1, zt_y_rp11 hL hs hT (h1 T c1 hT rfl) L 0 _ (by omega) (by omega)⟩
/-- the longest so far -/
def zt_PM (g : Nat → Nat) (L i j w : Nat) : Prop := (∀ a b, b < a → a < L → (a < i ∨ (a = i ∧ b < j)) → zt_N g L a b ≤ w) ∧ (w = 0 ∨ ∃ a b, a < L ∧ b < a ∧ zt_N g L a b = w) ∧ w ≤ L
theorem zt_y_lo15 {post : Int32 → Prop} {J : _} {x : Int32} {i : Nat} (hL : L ≤ 40) (hs : zt_sh t L sh) (hi : i < L) (h : ∀ w, zt_PM (zt_g t L) L (i + 1) 0 w → J (nI w) (nI (i + 1))) : ∀ d j n w, j + d = i → d < n → zt_PM (zt_g t L) L i j w → wY_longest_15 post J x (nI i) (nI L) f_width (fun j => nI (t j)) a_pattern sh n (nI w) (nI j) := by
  intro d
  induction d with
  | zero =>
    intro j n w hj hn hw
    obtain ⟨n, rfl⟩ : ∃ m, n = m + 1 := ⟨n - 1, by omega⟩
    have e : j = i := by omega
    subst e
    exact br_t (nI_le (Nat.le_refl _) (by omega)) (nm_r (nI_1 j) (h w ⟨fun a b h1 h2 h3 => hw.1 a b h1 h2 (by omega), hw.2⟩))
  | succ d ih =>
    intro j n w hj hn hw
    obtain ⟨n, rfl⟩ : ∃ m, n = m + 1 := ⟨n - 1, by omega⟩
    have a := zt_y_at hs (i := i) (j := j) (by omega) (by omega)
    have b := zt_N_i (g := zt_g t L) (L := L) (i := i) (j := j) (by omega) (by omega)
    have w1 := hw.2.2
    refine br_f (nI_ge (by omega) (by omega)) ⟨a.1, zt_br (d := zt_N (zt_g t L) L i j ≤ w) (by rw [a.2]; exact nI_leI (by omega) (by omega)) (fun c => nm_r (nI_1 j) (ih (j + 1) n w (by omega) (by omega) ⟨fun a' b' h1 h2 h3 => ?_, hw.2⟩)) (fun c => ⟨a.1, nm_r a.2 (nm_r (nI_1 j) (ih (j + 1) n _ (by omega) (by omega) ⟨fun a' b' h1 h2 h3 => ?_, Or.inr ⟨i, j, hi, by omega, rfl⟩, by omega⟩))⟩)⟩
    · by_cases e : a' = i ∧ b' = j
      · rw [e.1, e.2]; exact c
      · exact hw.1 a' b' h1 h2 (by omega)
    · by_cases e : a' = i ∧ b' = j
      · rw [e.1, e.2]; exact Nat.le_refl _
      · have := hw.1 a' b' h1 h2 (by omega)
        omega
theorem zt_y_lo4 {post : Int32 → Prop} {x : Int32} (hL : L ≤ 40) (hs : zt_sh t L sh) (h1 : ∀ e, e ≤ 3 → x = nI e → ∀ G, zt_G (zt_g t L) L G → post (nI G)) (h0 : (∀ e, e ≤ 3 → ¬ x = nI e) → post (-1)) : ∀ d i n w, i + d = L → d < n → zt_PM (zt_g t L) L i 0 w → wY_longest_4 post x (nI L) f_width (fun j => nI (t j)) a_pattern sh n (nI w) (nI i) := by
  intro d
  induction d with
  | zero =>
    intro i n w hi hn hw
    obtain ⟨n, rfl⟩ : ∃ m, n = m + 1 := ⟨n - 1, by omega⟩
    have e : i = L := by omega
    subst e
    exact br_t (nI_le (Nat.le_refl _) (by omega)) (zt_y_en (k := 3) (by omega) (fun e he hx => br_f (by decide) (h1 e he hx w (zt_G_pl (fun a b h1 h2 => hw.1 a b h2 h1 (by omega)) hw.2.1))) (fun c => br_t rfl (h0 c)))
  | succ d ih =>
    intro i n w hi hn hw
    obtain ⟨n, rfl⟩ : ∃ m, n = m + 1 := ⟨n - 1, by omega⟩
    exact br_f (nI_ge (by omega) (by omega)) ⟨i + 1, zt_y_lo15 hL hs (by omega) (fun w' h' => ih (i + 1) n w' (by omega) (by omega) h') i 0 _ w (by omega) (by omega) hw⟩
theorem zt_y_lo {post : Int32 → Prop} {x : Int32} (hL : L ≤ 40) (hs : zt_sh t L sh) (h1 : ∀ e, e ≤ 3 → x = nI e → ∀ G, zt_G (zt_g t L) L G → post (nI G)) (h0 : (∀ e, e ≤ 3 → ¬ x = nI e) → post (-1)) : wpY_longest post (nI L, f_width, (fun j => nI (t j)), a_pattern, sh) x :=
  ⟨L + 1, zt_y_lo4 hL hs h1 h0 L 0 _ 0 (by omega) (by omega) ⟨fun a b h1 h2 h3 => by omega, Or.inl rfl, Nat.zero_le _⟩⟩
theorem zt_y_be {post : Int32 → Prop} {i j : Nat} (hL : L ≤ 40) (hs : zt_sh t L sh) (hi : i < L) (hj : j < L) (h4 : ∀ i, t i < 4) (h1 : zt_T (zt_g t L) i j → post 1) (h0 : ¬ zt_T (zt_g t L) i j → post 0) : wpY_before post (nI L, f_width, (fun j => nI (t j)), a_pattern, sh) (nI i) (nI j) := by
  have a := zt_y_at hs (i := i) (j := j) (by omega) (by omega)
  have b1 := zt_N_i (g := zt_g t L) (L := L) (i := i) (j := j) (by omega) (by omega)
  have b2 := zt_N_j (g := zt_g t L) (L := L) (i := i) (j := j) (by omega) (by omega)
  have z := zt_T_N (zt_g_Z t L) (i := i) (j := j) (by omega) (by omega)
  refine ⟨a.1, nm_r a.2 ?_⟩
  generalize zt_N (zt_g t L) L i j = s at *
  have ei : (nI i + nI s).toNatClampNeg = i + s := pk_cl (i + s) (nI_add i s)
  have ej : (nI j + nI s).toNatClampNeg = j + s := pk_cl (j + s) (nI_add j s)
  refine pk_eq (i + s) L (fun c => pk_le L (j + s) (fun d => h0 (fun x => ?_)) (fun d => h1 (z.2 (Or.inl ⟨c, d⟩))) rfl (nI_add j s)) (fun c => pk_le L (j + s) (fun d => h0 (fun x => ?_)) (fun d => ⟨pk_in (i + s) 40 (by omega) (nI_add i s), pk_in (j + s) 40 (by omega) (nI_add j s), zt_br (d := t (j + s) ≤ t (i + s)) ?_ (fun e => h0 (fun x => ?_)) (fun e => h1 (z.2 (Or.inr ⟨by omega, d, ?_⟩)))⟩) rfl (nI_add j s)) (nI_add i s) rfl
  · rcases z.1 x with y | y <;> omega
  · rcases z.1 x with y | y <;> omega
  · simp only [ei, ej]; exact nI_leI (zt_31 (h4 _)) (zt_31 (h4 _))
  · rcases z.1 x with y | y
    · omega
    · have := y.2.2
      rw [zt_g_lt (by omega), zt_g_lt (by omega)] at this
      omega
  · rw [zt_g_lt (by omega), zt_g_lt (by omega)]
    omega
theorem zt_y_ta25 {post : Int32 → Prop} {J : _} {x k : Int32} {i : Nat} (hL : L ≤ 40) (hs : zt_sh t L sh) (hi : i < L) (h4 : ∀ i, t i < 4) (h1 : nI (zt_r (zt_g t L) L i) = k → post (nI i)) (h0 : ¬ nI (zt_r (zt_g t L) L i) = k → J (nI (i + 1))) : ∀ d j n, j + d = L → d < n → wY_tail_25 post J x k (nI i) (nI L) f_width (fun j => nI (t j)) a_pattern sh n (nI (zt_c (fun j => zt_T (zt_g t L) j i) j)) (nI j) := by
  intro d
  induction d with
  | zero =>
    intro j n hj hn
    obtain ⟨n, rfl⟩ : ∃ m, n = m + 1 := ⟨n - 1, by omega⟩
    have e : j = L := by omega
    subst e
    exact br_t (nI_le (Nat.le_refl _) (by omega)) (br_c h1 (fun c => nm_r (nI_1 i) (h0 c)))
  | succ d ih =>
    intro j n hj hn
    obtain ⟨n, rfl⟩ : ∃ m, n = m + 1 := ⟨n - 1, by omega⟩
    have nx := ih (j + 1) n (by omega) (by omega)
    refine br_f (nI_ge (by omega) (by omega)) (zt_y_be hL hs (by omega) hi h4 (fun c => br_f (by decide) (nm_r (e' := nI (zt_c (fun j => zt_T (zt_g t L) j i) (j + 1))) ?_ (nm_r (nI_1 j) nx))) (fun c => br_t rfl (nm_r (nI_1 j) ?_)))
    · rw [zt_ct (p := fun j => zt_T (zt_g t L) j i) c, nI_1]
    · rw [zt_cf (p := fun j => zt_T (zt_g t L) j i) c] at nx
      exact nx
theorem zt_y_ta2 {post : Int32 → Prop} {x k : Int32} {e : Nat} (he : e ≤ 3) (hx : x = nI e) (hL : L ≤ 40) (hs : zt_sh t L sh) (h4 : ∀ i, t i < 4) (h : ∀ r, zt_tail (zt_g t L) L k r → post r) : ∀ d i n, i + d = L → d < n → (∀ j, j < i → ¬ nI (zt_r (zt_g t L) L j) = k) → wY_tail_2 post x k (nI L) f_width (fun j => nI (t j)) a_pattern sh n (nI i) := by
  intro d
  induction d with
  | zero =>
    intro i n hi hn hj
    obtain ⟨n, rfl⟩ : ∃ m, n = m + 1 := ⟨n - 1, by omega⟩
    have e : i = L := by omega
    subst e
    exact br_t (nI_le (Nat.le_refl _) (by omega)) (h _ (Or.inr ⟨hj, rfl⟩))
  | succ d ih =>
    intro i n hi hn hj
    obtain ⟨n, rfl⟩ : ∃ m, n = m + 1 := ⟨n - 1, by omega⟩
    refine br_f (nI_ge (by omega) (by omega)) (zt_y_en (k := 3) (by omega) (fun _ _ _ => br_f (by decide) ⟨L + 1, zt_y_ta25 hL hs (by omega) h4 (fun c => h _ (Or.inl ⟨i, by omega, c, rfl⟩)) (fun c => ih (i + 1) n (by omega) (by omega) (fun j hj' => ?_)) L 0 _ (by omega) (by omega)⟩) (fun c => absurd hx (c e he)))
    by_cases z : j = i
    · subst z; exact c
    · exact hj j (by omega)
theorem zt_y_ta {post : Int32 → Prop} {x k : Int32} (hL : L ≤ 40) (hs : zt_sh t L sh) (h4 : ∀ i, t i < 4) (h1 : ∀ e, e ≤ 3 → x = nI e → ∀ r, zt_tail (zt_g t L) L k r → post r) (h0 : (∀ e, e ≤ 3 → ¬ x = nI e) → post (-1)) : wpY_tail post (nI L, f_width, (fun j => nI (t j)), a_pattern, sh) x k := by
  by_cases c : ∃ e, e ≤ 3 ∧ x = nI e
  · obtain ⟨e, he, hx⟩ := c
    exact ⟨L + 1, zt_y_ta2 he hx hL hs h4 (h1 e he hx) L 0 _ (by omega) (by omega) (fun j hj => by omega)⟩
  · have no := h0 (fun e he hx => c ⟨e, he, hx⟩)
    exact ⟨1, pk_le L 0 (fun _ => no) (fun _ => zt_y_en (k := 3) (by omega) (fun e he hx => absurd ⟨e, he, hx⟩ c) (fun _ => br_t rfl no))⟩
end
end
section
/-! the component: most shared, times, least place, repeats, piece; the reference beside them -/
section
variable {f_length f_patternLength f_distinctFound f_longestFound f_nodeCount f_stateCount f_rowCount : Int32} {a_text a_pattern a_order a_occurs a_otherOrder a_rank a_pairRank a_nodePlace a_nodeDepth a_nodeParent a_nodeTail a_nodeBranch a_waitingNodes a_stateLength a_stateLink a_stateEnd a_stateTails a_stateBranch a_lastColumn : Nat → Int32}
variable {t : Nat → Nat} {L : Nat}
theorem zt_x_ms29 {post : Int32 → Prop} {J : _} {x1 x2 : Int32} {w j z : Nat} (hw : w < 2 ^ 31) (hz : z < 2 ^ 31) (h : J (nI (if w < z then z else w)) (nI (j + 1))) : wX_mostShared_29 post J x1 x2 (nI w) (nI j) (nI z) f_length f_patternLength f_distinctFound f_longestFound f_nodeCount f_stateCount f_rowCount a_text a_pattern a_order a_occurs a_otherOrder a_rank a_pairRank a_nodePlace a_nodeDepth a_nodeParent a_nodeTail a_nodeBranch a_waitingNodes a_stateLength a_stateLink a_stateEnd a_stateTails a_stateBranch a_lastColumn := by
  refine pk_le z w (fun c => nm_r (nI_1 j) ?_) (fun c => nm_r (nI_1 j) ?_)
  · rw [if_neg (by omega)] at h; exact h
  · rw [if_pos c] at h; exact h
theorem zt_x_ms5 {post : Int32 → Prop} {i e : Nat} (hL : L ≤ 40) (hi : i < L) (he : e ≤ L) (h4 : ∀ i, t i < 4) (h : post (nI (zt_ms (zt_g t L) L i e))) : ∀ d j n, j + d = e → d < n → wX_mostShared_5 post (nI i) (nI e) (nI L) f_patternLength f_distinctFound f_longestFound f_nodeCount f_stateCount f_rowCount (fun j => nI (t j)) a_pattern a_order a_occurs a_otherOrder a_rank a_pairRank a_nodePlace a_nodeDepth a_nodeParent a_nodeTail a_nodeBranch a_waitingNodes a_stateLength a_stateLink a_stateEnd a_stateTails a_stateBranch a_lastColumn n (nI (zt_ms (zt_g t L) L i j)) (nI j) := by
  intro d
  induction d with
  | zero =>
    intro j n hj hn
    obtain ⟨n, rfl⟩ : ∃ m, n = m + 1 := ⟨n - 1, by omega⟩
    have e : j = e := by omega
    subst e
    exact br_t (nI_le (Nat.le_refl _) (by omega)) h
  | succ d ih =>
    intro j n hj hn
    obtain ⟨n, rfl⟩ : ∃ m, n = m + 1 := ⟨n - 1, by omega⟩
    have nx := ih (j + 1) n (by omega) (by omega)
    have b1 := zt_ms_le (g := zt_g t L) (L := L) (i := i) (n := j) (by omega) (by omega)
    have b2 := zt_N_i (g := zt_g t L) (L := L) (i := j) (j := i) (by omega) (by omega)
    unfold zt_ms at nx
    rw [zt_m1] at nx
    change wX_mostShared_5 post (nI i) (nI e) (nI L) f_patternLength f_distinctFound f_longestFound f_nodeCount f_stateCount f_rowCount (fun j => nI (t j)) a_pattern a_order a_occurs a_otherOrder a_rank a_pairRank a_nodePlace a_nodeDepth a_nodeParent a_nodeTail a_nodeBranch a_waitingNodes a_stateLength a_stateLink a_stateEnd a_stateTails a_stateBranch a_lastColumn n (nI (if zt_ms (zt_g t L) L i j < (if j = i then 0 else zt_N (zt_g t L) L j i) then (if j = i then 0 else zt_N (zt_g t L) L j i) else zt_ms (zt_g t L) L i j)) (nI (j + 1)) at nx
    refine br_f (nI_ge (by omega) (by omega)) (pk_eq j i (fun c => ?_) (fun c => ?_))
    · rw [if_pos c] at nx
      exact zt_x_ms29 (z := 0) (by omega) (by omega) nx
    · rw [if_neg c] at nx
      exact zt_x_sl 0 hL (by omega) (by omega) h4 (Nat.zero_le _) (zt_x_ms29 (by omega) (by omega) nx)
theorem zt_x_ms {post : Int32 → Prop} {i e : Nat} (hL : L ≤ 40) (hi : i < L) (he : e ≤ L) (h4 : ∀ i, t i < 4) (h : post (nI (zt_ms (zt_g t L) L i e))) : wpX_mostShared post (nI L, f_patternLength, f_distinctFound, f_longestFound, f_nodeCount, f_stateCount, f_rowCount, fun j => nI (t j), a_pattern, a_order, a_occurs, a_otherOrder, a_rank, a_pairRank, a_nodePlace, a_nodeDepth, a_nodeParent, a_nodeTail, a_nodeBranch, a_waitingNodes, a_stateLength, a_stateLink, a_stateEnd, a_stateTails, a_stateBranch, a_lastColumn) (nI i) (nI e) :=
  ⟨e + 1, zt_x_ms5 hL hi he h4 h e 0 _ (by omega) (by omega)⟩
theorem zt_x_tf5 {post : Int32 → Prop} {i s : Nat} (hL : L ≤ 40) (hi : i < L) (hs : s < 2 ^ 31) (h4 : ∀ i, t i < 4) (h : post (nI (zt_c (fun j => i ≤ j ∧ s ≤ zt_N (zt_g t L) L j i) L))) : ∀ d j n, j + d = L → d < n → i ≤ j → wX_timesFrom_5 post (nI i) (nI s) (nI L) f_patternLength f_distinctFound f_longestFound f_nodeCount f_stateCount f_rowCount (fun j => nI (t j)) a_pattern a_order a_occurs a_otherOrder a_rank a_pairRank a_nodePlace a_nodeDepth a_nodeParent a_nodeTail a_nodeBranch a_waitingNodes a_stateLength a_stateLink a_stateEnd a_stateTails a_stateBranch a_lastColumn n (nI (zt_c (fun j => i ≤ j ∧ s ≤ zt_N (zt_g t L) L j i) j)) (nI j) := by
  intro d
  induction d with
  | zero =>
    intro j n hj hn hij
    obtain ⟨n, rfl⟩ : ∃ m, n = m + 1 := ⟨n - 1, by omega⟩
    have e : j = L := by omega
    subst e
    exact br_t (nI_le (Nat.le_refl _) (by omega)) h
  | succ d ih =>
    intro j n hj hn hij
    obtain ⟨n, rfl⟩ : ∃ m, n = m + 1 := ⟨n - 1, by omega⟩
    have nx := ih (j + 1) n (by omega) (by omega) (by omega)
    have b2 := zt_N_i (g := zt_g t L) (L := L) (i := j) (j := i) (by omega) (by omega)
    refine br_f (nI_ge (by omega) (by omega)) (zt_x_sl 0 hL (by omega) (by omega) h4 (Nat.zero_le _) (zt_br (d := zt_N (zt_g t L) L j i < s) (nI_ltI (by omega) hs) (fun c => nm_r (nI_1 j) ?_) (fun c => nm_r (e' := nI (zt_c (fun j => i ≤ j ∧ s ≤ zt_N (zt_g t L) L j i) (j + 1))) ?_ (nm_r (nI_1 j) nx))))
    · rw [zt_cf (p := fun j => i ≤ j ∧ s ≤ zt_N (zt_g t L) L j i) (fun x => by have := x.2; omega)] at nx
      exact nx
    · rw [zt_ct (p := fun j => i ≤ j ∧ s ≤ zt_N (zt_g t L) L j i) ⟨hij, by omega⟩, nI_1]
theorem zt_x_tf {post : Int32 → Prop} {i s : Nat} (hL : L ≤ 40) (hi : i < L) (hs : s < 2 ^ 31) (h4 : ∀ i, t i < 4) (h : post (nI (zt_c (fun j => i ≤ j ∧ s ≤ zt_N (zt_g t L) L j i) L))) : wpX_timesFrom post (nI L, f_patternLength, f_distinctFound, f_longestFound, f_nodeCount, f_stateCount, f_rowCount, fun j => nI (t j), a_pattern, a_order, a_occurs, a_otherOrder, a_rank, a_pairRank, a_nodePlace, a_nodeDepth, a_nodeParent, a_nodeTail, a_nodeBranch, a_waitingNodes, a_stateLength, a_stateLink, a_stateEnd, a_stateTails, a_stateBranch, a_lastColumn) (nI i) (nI s) := by
  have a : wX_timesFrom_5 post (nI i) (nI s) (nI L) f_patternLength f_distinctFound f_longestFound f_nodeCount f_stateCount f_rowCount (fun j => nI (t j)) a_pattern a_order a_occurs a_otherOrder a_rank a_pairRank a_nodePlace a_nodeDepth a_nodeParent a_nodeTail a_nodeBranch a_waitingNodes a_stateLength a_stateLink a_stateEnd a_stateTails a_stateBranch a_lastColumn (L - i + 1) (nI (zt_c (fun j => i ≤ j ∧ s ≤ zt_N (zt_g t L) L j i) i)) (nI i) := zt_x_tf5 hL hi hs h4 h (L - i) i (L - i + 1) (by omega) (by omega) (Nat.le_refl _)
  rw [zt_cz (p := fun j => i ≤ j ∧ s ≤ zt_N (zt_g t L) L j i) i (fun j hj x => by have := x.1; omega)] at a
  exact ⟨_, a⟩
theorem zt_x_lp2 {post : Int32 → Prop} {i s : Nat} (hL : L ≤ 40) (hi : i < L) (hs : i + s ≤ L) (h4 : ∀ i, t i < 4) (h : ∀ r, zt_lp (zt_g t L) L i s r → post (nI r)) : ∀ d j n, j + d = i → d < n → (∀ j', j' < j → zt_N (zt_g t L) L i j' < s) → wX_leastPlace_2 post (nI i) (nI s) (nI L) f_patternLength f_distinctFound f_longestFound f_nodeCount f_stateCount f_rowCount (fun j => nI (t j)) a_pattern a_order a_occurs a_otherOrder a_rank a_pairRank a_nodePlace a_nodeDepth a_nodeParent a_nodeTail a_nodeBranch a_waitingNodes a_stateLength a_stateLink a_stateEnd a_stateTails a_stateBranch a_lastColumn n (nI j) := by
  intro d
  induction d with
  | zero =>
    intro j n hj hn hb
    obtain ⟨n, rfl⟩ : ∃ m, n = m + 1 := ⟨n - 1, by omega⟩
    have e : j = i := by omega
    subst e
    exact br_t (nI_le (Nat.le_refl _) (by omega)) (h j ⟨Nat.le_refl _, by rw [zt_N_s (by omega)]; omega, hb⟩)
  | succ d ih =>
    intro j n hj hn hb
    obtain ⟨n, rfl⟩ : ∃ m, n = m + 1 := ⟨n - 1, by omega⟩
    have b2 := zt_N_i (g := zt_g t L) (L := L) (i := j) (j := i) (by omega) (by omega)
    have ec := zt_N_c (g := zt_g t L) (L := L) (i := j) (j := i) (by omega) (by omega)
    refine br_f (nI_ge (by omega) (by omega)) (zt_x_sl 0 hL (by omega) (by omega) h4 (Nat.zero_le _) (zt_br (d := zt_N (zt_g t L) L j i < s) (nI_ltI (by omega) (by omega)) (fun c => nm_r (nI_1 j) (ih (j + 1) n (by omega) (by omega) (fun j' hj' => ?_))) (fun c => h j ⟨by omega, by omega, hb⟩)))
    by_cases z : j' = j
    · subst z; omega
    · exact hb j' (by omega)
theorem zt_x_lp {post : Int32 → Prop} {i s : Nat} (hL : L ≤ 40) (hi : i < L) (hs : i + s ≤ L) (h4 : ∀ i, t i < 4) (h : ∀ r, zt_lp (zt_g t L) L i s r → post (nI r)) : wpX_leastPlace post (nI L, f_patternLength, f_distinctFound, f_longestFound, f_nodeCount, f_stateCount, f_rowCount, fun j => nI (t j), a_pattern, a_order, a_occurs, a_otherOrder, a_rank, a_pairRank, a_nodePlace, a_nodeDepth, a_nodeParent, a_nodeTail, a_nodeBranch, a_waitingNodes, a_stateLength, a_stateLink, a_stateEnd, a_stateTails, a_stateBranch, a_lastColumn) (nI i) (nI s) :=
  ⟨i + 1, zt_x_lp2 hL hi hs h4 h i 0 _ (by omega) (by omega) (fun j hj => by omega)⟩
theorem zt_x_rp29 {post : Int32 → Prop} {J : _} {i T B m : Nat} (hL : L ≤ 40) (hi : i < L) (hT : T < 2 ^ 31) (h4 : ∀ i, t i < 4) (hm : zt_m (fun j => zt_N (zt_g t L) L j i) i = m) (h : J (nI (B + zt_c (fun s => zt_Q (zt_g t L) L (fun i => i) i s ∧ T ≤ zt_w (zt_g t L) L i (s + 1)) L)) (nI (i + 1))) : ∀ d b n, i + b + d = L → d < n → m ≤ b → (∀ s, m ≤ s → s < b → T ≤ zt_w (zt_g t L) L i (s + 1)) → wX_repeats_29 post J (nI T) (nI i) (nI L) f_patternLength f_distinctFound f_longestFound f_nodeCount f_stateCount f_rowCount (fun j => nI (t j)) a_pattern a_order a_occurs a_otherOrder a_rank a_pairRank a_nodePlace a_nodeDepth a_nodeParent a_nodeTail a_nodeBranch a_waitingNodes a_stateLength a_stateLink a_stateEnd a_stateTails a_stateBranch a_lastColumn n (nI (B + (b - m))) (nI (b + 1)) := by
  intro d
  induction d with
  | zero =>
    intro b n hb hn h0 h1
    obtain ⟨n, rfl⟩ : ∃ m, n = m + 1 := ⟨n - 1, by omega⟩
    rw [zt_RP_row hi hm h0 (by omega) h1 (Or.inl (by omega))] at h
    exact br_t (by rw [pk_sub (by omega)]; exact nI_lt (by omega) (by omega)) (nm_r (nI_1 i) h)
  | succ d ih =>
    intro b n hb hn h0 h1
    obtain ⟨n, rfl⟩ : ∃ m, n = m + 1 := ⟨n - 1, by omega⟩
    have wl : zt_w (zt_g t L) L i (b + 1) ≤ L := zt_cn _ _
    refine br_f (by rw [pk_sub (by omega)]; exact nI_nlt (by omega) (by omega)) (zt_x_tf hL hi (by omega) h4 ?_)
    rw [zt_w_from hi (by omega)]
    refine zt_br (d := zt_w (zt_g t L) L i (b + 1) < T) (nI_ltI (by omega) hT) (fun c => nm_r (nI_1 i) ?_) (fun c => nm_r (e' := nI (B + (b + 1 - m))) ?_ (nm_r (nI_1 (b + 1)) (ih (b + 1) n (by omega) (by omega) (by omega) (fun s hs1 hs2 => ?_))))
    · rw [zt_RP_row hi hm h0 (by omega) h1 (Or.inr (by omega))] at h
      exact h
    · rw [nI_1]; congr 1; omega
    · by_cases z : s = b
      · subst z; omega
      · exact h1 s hs1 (by omega)
theorem zt_x_rp11 {post : Int32 → Prop} {T : Nat} (hL : L ≤ 40) (hT : T < 2 ^ 31) (h4 : ∀ i, t i < 4) (h : post (nI (zt_RP (zt_g t L) L T))) : ∀ d i n, i + d = L → d < n → wX_repeats_11 post (nI T) (nI L) f_patternLength f_distinctFound f_longestFound f_nodeCount f_stateCount f_rowCount (fun j => nI (t j)) a_pattern a_order a_occurs a_otherOrder a_rank a_pairRank a_nodePlace a_nodeDepth a_nodeParent a_nodeTail a_nodeBranch a_waitingNodes a_stateLength a_stateLink a_stateEnd a_stateTails a_stateBranch a_lastColumn n (nI (zt_s (fun i => zt_c (fun s => zt_Q (zt_g t L) L (fun i => i) i s ∧ T ≤ zt_w (zt_g t L) L i (s + 1)) L) i)) (nI i) := by
  intro d
  induction d with
  | zero =>
    intro i n hi hn
    obtain ⟨n, rfl⟩ : ∃ m, n = m + 1 := ⟨n - 1, by omega⟩
    have e : i = L := by omega
    subst e
    exact br_t (nI_le (Nat.le_refl _) (by omega)) h
  | succ d ih =>
    intro i n hi hn
    obtain ⟨n, rfl⟩ : ∃ m, n = m + 1 := ⟨n - 1, by omega⟩
    have b1 := zt_ms_le (g := zt_g t L) (L := L) (i := i) (n := i) (by omega) (by omega)
    have nx := ih (i + 1) n (by omega) (by omega)
    rw [zt_s1] at nx
    refine br_f (nI_ge (by omega) (by omega)) (zt_x_ms hL (by omega) (by omega) h4 (nm_r (nI_1 _) ⟨L - i - zt_ms (zt_g t L) L i i + 1, ?_⟩))
    have a : wX_repeats_29 post (wX_repeats_11 post (nI T) (nI L) f_patternLength f_distinctFound f_longestFound f_nodeCount f_stateCount f_rowCount (fun j => nI (t j)) a_pattern a_order a_occurs a_otherOrder a_rank a_pairRank a_nodePlace a_nodeDepth a_nodeParent a_nodeTail a_nodeBranch a_waitingNodes a_stateLength a_stateLink a_stateEnd a_stateTails a_stateBranch a_lastColumn n) (nI T) (nI i) (nI L) f_patternLength f_distinctFound f_longestFound f_nodeCount f_stateCount f_rowCount (fun j => nI (t j)) a_pattern a_order a_occurs a_otherOrder a_rank a_pairRank a_nodePlace a_nodeDepth a_nodeParent a_nodeTail a_nodeBranch a_waitingNodes a_stateLength a_stateLink a_stateEnd a_stateTails a_stateBranch a_lastColumn (L - i - zt_ms (zt_g t L) L i i + 1) (nI (zt_s (fun i => zt_c (fun s => zt_Q (zt_g t L) L (fun i => i) i s ∧ T ≤ zt_w (zt_g t L) L i (s + 1)) L) i + (zt_ms (zt_g t L) L i i - zt_ms (zt_g t L) L i i))) (nI (zt_ms (zt_g t L) L i i + 1)) := zt_x_rp29 (B := zt_s (fun i => zt_c (fun s => zt_Q (zt_g t L) L (fun i => i) i s ∧ T ≤ zt_w (zt_g t L) L i (s + 1)) L) i) hL (by omega) hT h4 (zt_ms_i _ _ _).symm nx (L - i - zt_ms (zt_g t L) L i i) (zt_ms (zt_g t L) L i i) (L - i - zt_ms (zt_g t L) L i i + 1) (by omega) (by omega) (Nat.le_refl _) (fun s h1 h2 => by omega)
    rw [Nat.sub_self, Nat.add_zero] at a
    exact a
theorem zt_x_rp {post : Int32 → Prop} {x : Int32} (hL : L ≤ 40) (h4 : ∀ i, t i < 4) (h1 : ∀ T, 1 ≤ T → T < 2 ^ 31 → x = nI T → post (nI (zt_RP (zt_g t L) L T))) (h0 : ¬ 1 ≤ x → post (-1)) : wpX_repeats post (nI L, f_patternLength, f_distinctFound, f_longestFound, f_nodeCount, f_stateCount, f_rowCount, fun j => nI (t j), a_pattern, a_order, a_occurs, a_otherOrder, a_rank, a_pairRank, a_nodePlace, a_nodeDepth, a_nodeParent, a_nodeTail, a_nodeBranch, a_waitingNodes, a_stateLength, a_stateLink, a_stateEnd, a_stateTails, a_stateBranch, a_lastColumn) x := by
  refine br_c (fun c => ?_) h0
  obtain ⟨T, hT, rfl⟩ := nI_of (x := x) (Int32.not_lt.mpr (Int32.le_trans (by decide) c))
  have c1 : 1 ≤ T := (nI_leI (a := 1) (by omega) hT).1 c
  exact ⟨L + 1, zt_x_rp11 hL hT h4 (h1 T c1 hT rfl) L 0 _ (by omega) (by omega)⟩
end
section
variable {f_size f_width : Int32} {a_text a_pattern a_shared : Nat → Int32}
variable {t : Nat → Nat} {L : Nat} {sh : Nat → Int32}
theorem zt_y_un14 {post : Int32 → Prop} {i : Nat} (hL : L ≤ 40) (hs : zt_sh t L sh) (hi : i < L) (h : post (nI (if L - i < zt_ms (zt_g t L) L i L + 1 then 0 else zt_ms (zt_g t L) L i L + 1))) : ∀ d j n, j + d = L → d < n → wY_unique_14 post (nI i) (nI L) f_width (fun j => nI (t j)) a_pattern sh n (nI (zt_ms (zt_g t L) L i j)) (nI j) := by
  intro d
  induction d with
  | zero =>
    intro j n hj hn
    obtain ⟨n, rfl⟩ : ∃ m, n = m + 1 := ⟨n - 1, by omega⟩
    have e : j = L := by omega
    subst e
    have b1 := zt_ms_le (g := zt_g t j) (L := j) (i := i) (n := j) (by omega) (by omega)
    refine br_t (nI_le (Nat.le_refl _) (by omega)) (pk_le j (i + zt_ms (zt_g t j) j i j) (fun c => ?_) (fun c => ?_) rfl (nI_add _ _))
    · rw [if_pos (by omega)] at h; exact h
    · rw [if_neg (by omega)] at h; rw [nI_1]; exact h
  | succ d ih =>
    intro j n hj hn
    obtain ⟨n, rfl⟩ : ∃ m, n = m + 1 := ⟨n - 1, by omega⟩
    have nx := ih (j + 1) n (by omega) (by omega)
    have b1 := zt_ms_le (g := zt_g t L) (L := L) (i := i) (n := j) (by omega) (by omega)
    have b2 := zt_N_i (g := zt_g t L) (L := L) (i := j) (j := i) (by omega) (by omega)
    have ec := zt_N_c (g := zt_g t L) (L := L) (i := i) (j := j) (by omega) (by omega)
    have a := zt_y_at hs (i := i) (j := j) (by omega) (by omega)
    rw [ec] at a
    unfold zt_ms at nx
    rw [zt_m1] at nx
    change wY_unique_14 post (nI i) (nI L) f_width (fun j => nI (t j)) a_pattern sh n (nI (if zt_ms (zt_g t L) L i j < (if j = i then 0 else zt_N (zt_g t L) L j i) then (if j = i then 0 else zt_N (zt_g t L) L j i) else zt_ms (zt_g t L) L i j)) (nI (j + 1)) at nx
    refine br_f (nI_ge (by omega) (by omega)) (pk_eq j i (fun c => nm_r (nI_1 j) ?_) (fun c => ⟨a.1, zt_br (d := zt_N (zt_g t L) L j i ≤ zt_ms (zt_g t L) L i j) (by rw [a.2]; exact nI_leI (by omega) (by omega)) (fun e => nm_r (nI_1 j) ?_) (fun e => ⟨a.1, nm_r a.2 (nm_r (nI_1 j) ?_)⟩)⟩))
    · rw [if_pos c, if_neg (by omega)] at nx; exact nx
    · rw [if_neg c, if_neg (by omega)] at nx; exact nx
    · rw [if_neg c, if_pos (by omega)] at nx; exact nx
end
end
section
/-! the relation; the calls that write -/
def zt_XR (L m : Nat) (t pat : Nat → Nat) (u : SX) : Prop := ∃ (f_distinctFound f_longestFound f_nodeCount f_stateCount f_rowCount : Int32) (a_order a_occurs a_otherOrder a_rank a_pairRank a_nodePlace a_nodeDepth a_nodeParent a_nodeTail a_nodeBranch a_waitingNodes a_stateLength a_stateLink a_stateEnd a_stateTails a_stateBranch a_lastColumn : Nat → Int32), u = (nI L, nI m, f_distinctFound, f_longestFound, f_nodeCount, f_stateCount, f_rowCount, fun j => nI (t j), fun j => nI (pat j), a_order, a_occurs, a_otherOrder, a_rank, a_pairRank, a_nodePlace, a_nodeDepth, a_nodeParent, a_nodeTail, a_nodeBranch, a_waitingNodes, a_stateLength, a_stateLink, a_stateEnd, a_stateTails, a_stateBranch, a_lastColumn)
def zt_YR (L m : Nat) (t pat : Nat → Nat) (v : SY) : Prop := ∃ sh, zt_sh t L sh ∧ v = (nI L, nI m, (fun j => nI (t j)), (fun j => nI (pat j)), sh)
/-- same text, same pattern; the table is right; what the component keeps besides is free -/
def i_Rel (_ : Nat) (u : SX) (v : SY) : Prop := ∃ (L m : Nat) (t pat : Nat → Nat), (L ≤ 40 ∧ m ≤ 10 ∧ (∀ i, t i < 4) ∧ (∀ i, pat i < 4)) ∧ zt_XR L m t pat u ∧ zt_YR L m t pat v
theorem i_up {k : Nat} {u : SX} {v : SY} (h : i_Rel k u v) : i_Rel (k + 3) u v := h
section
variable {f_length f_patternLength f_distinctFound f_longestFound f_nodeCount f_stateCount f_rowCount : Int32} {a_text a_pattern a_order a_occurs a_otherOrder a_rank a_pairRank a_nodePlace a_nodeDepth a_nodeParent a_nodeTail a_nodeBranch a_waitingNodes a_stateLength a_stateLink a_stateEnd a_stateTails a_stateBranch a_lastColumn : Nat → Int32}
variable {t pat : Nat → Nat} {L m : Nat} {sh : Nat → Int32}
theorem zt_mk {k : Nat} (hL : L ≤ 40) (hm : m ≤ 10) (h4 : ∀ i, t i < 4) (p4 : ∀ i, pat i < 4) (hs : zt_sh t L sh) : i_Rel k (nI L, nI m, f_distinctFound, f_longestFound, f_nodeCount, f_stateCount, f_rowCount, fun j => nI (t j), fun j => nI (pat j), a_order, a_occurs, a_otherOrder, a_rank, a_pairRank, a_nodePlace, a_nodeDepth, a_nodeParent, a_nodeTail, a_nodeBranch, a_waitingNodes, a_stateLength, a_stateLink, a_stateEnd, a_stateTails, a_stateBranch, a_lastColumn) (nI L, nI m, (fun j => nI (t j)), (fun j => nI (pat j)), sh) :=
  ⟨L, m, t, pat, ⟨hL, hm, h4, p4⟩, ⟨_, _, _, _, _, _, _, _, _, _, _, _, _, _, _, _, _, _, _, _, _, _, rfl⟩, sh, hs, rfl⟩
theorem i_vc0 : wpX_init (fun u => wpY_init (fun v => i_Rel 0 u v)) := by
  refine zt_mk (k := 0) (L := 0) (m := 0) (t := fun _ => 0) (pat := fun _ => 0) (by omega) (by omega) (fun _ => by omega) (fun _ => by omega) (fun i j hi hj => ?_)
  rw [zt_N_rec0 (Or.inl (Nat.zero_le _))]
  rfl
/-- letters, places, engines -/
theorem zt_cls (x : Int32) : x < 0 ∨ ∃ j, j < 2 ^ 31 ∧ x = nI j := by
  by_cases c : x < 0
  · exact Or.inl c
  · exact Or.inr (nI_of c)
theorem zt_lt1 {x : Int32} (h : x < 0) : x < 1 := Int32.lt_trans h (by decide)
theorem zt_x_il {post : Int32 → Prop} {x : Int32} (h1 : ∀ c, c < 4 → x = nI c → post 1) (h0 : (∀ c, c < 4 → ¬ x = nI c) → post 0) : wpX_isLetter post (f_length, f_patternLength, f_distinctFound, f_longestFound, f_nodeCount, f_stateCount, f_rowCount, a_text, a_pattern, a_order, a_occurs, a_otherOrder, a_rank, a_pairRank, a_nodePlace, a_nodeDepth, a_nodeParent, a_nodeTail, a_nodeBranch, a_waitingNodes, a_stateLength, a_stateLink, a_stateEnd, a_stateTails, a_stateBranch, a_lastColumn) x := by
  rcases zt_cls x with c | ⟨j, hj, rfl⟩
  · exact br_t c (h0 fun e he hx => by subst hx; exact nI_pos (by omega) c)
  · refine br_f (nI_pos hj) (pk_le 4 j (fun d => h0 fun e he hx => ?_) (fun d => h1 j d rfl))
    rw [nI_eq hj (by omega)] at hx
    omega
theorem zt_y_il {post : Int32 → Prop} {f_size f_width : Int32} {b_text b_pattern b_shared : Nat → Int32} {x : Int32} (h1 : ∀ c, c < 4 → x = nI c → post 1) (h0 : (∀ c, c < 4 → ¬ x = nI c) → post 0) : wpY_isLetter post (f_size, f_width, b_text, b_pattern, b_shared) x := by
  rcases zt_cls x with c | ⟨j, hj, rfl⟩
  · exact br_t c (h0 fun e he hx => by subst hx; exact nI_pos (by omega) c)
  · refine br_f (nI_pos hj) (pk_lt 3 j (fun d => h0 fun e he hx => ?_) (fun d => h1 j (by omega) rfl))
    rw [nI_eq hj (by omega)] at hx
    omega
theorem zt_x_ip {post : Int32 → Prop} {x : Int32} (hL : L ≤ 40) (h1 : ∀ c, c < L → x = nI c → post 1) (h0 : (∀ c, c < L → ¬ x = nI c) → post 0) : wpX_isPlace post (nI L, f_patternLength, f_distinctFound, f_longestFound, f_nodeCount, f_stateCount, f_rowCount, a_text, a_pattern, a_order, a_occurs, a_otherOrder, a_rank, a_pairRank, a_nodePlace, a_nodeDepth, a_nodeParent, a_nodeTail, a_nodeBranch, a_waitingNodes, a_stateLength, a_stateLink, a_stateEnd, a_stateTails, a_stateBranch, a_lastColumn) x := by
  rcases zt_cls x with c | ⟨j, hj, rfl⟩
  · exact br_t c (h0 fun e he hx => by subst hx; exact nI_pos (by omega) c)
  · refine br_f (nI_pos hj) (pk_le L j (fun d => h0 fun e he hx => ?_) (fun d => h1 j d rfl))
    rw [nI_eq hj (by omega)] at hx
    omega
theorem zt_y_ip {post : Int32 → Prop} {f_width : Int32} {b_text b_pattern b_shared : Nat → Int32} {x : Int32} (hL : L ≤ 40) (h1 : ∀ c, c < L → x = nI c → post 1) (h0 : (∀ c, c < L → ¬ x = nI c) → post 0) : wpY_place post (nI L, f_width, b_text, b_pattern, b_shared) x := by
  rcases zt_cls x with c | ⟨j, hj, rfl⟩
  · exact br_t c (h0 fun e he hx => by subst hx; exact nI_pos (by omega) c)
  · refine br_f (nI_pos hj) (pk_le L j (fun d => h0 fun e he hx => ?_) (fun d => h1 j d rfl))
    rw [nI_eq hj (by omega)] at hx
    omega
theorem zt_y_ma {post : Int32 → Prop} {f_size f_width : Int32} {b_text b_pattern b_shared : Nat → Int32} {x : Int32} (h1 : ∀ c, 1 ≤ c → c ≤ 40 → x = nI c → post 1) (h0 : (∀ c, 1 ≤ c → c ≤ 40 → ¬ x = nI c) → post 0) : wpY_many post (f_size, f_width, b_text, b_pattern, b_shared) x := by
  rcases zt_cls x with c | ⟨j, hj, rfl⟩
  · exact br_t (zt_lt1 c) (h0 fun e _ he hx => by subst hx; exact nI_pos (by omega) c)
  · refine pk_lt j 1 (fun d => h0 fun e e1 he hx => ?_) (fun d => pk_lt 40 j (fun d2 => h0 fun e e1 he hx => ?_) (fun d2 => h1 j d d2 rfl))
    · rw [nI_eq hj (by omega)] at hx
      omega
    · rw [nI_eq hj (by omega)] at hx
      omega
theorem zt_x_ia {post : Int32 → Prop} {x : Int32} (h1 : ∀ c, c ≤ 3 → x = nI c → post 1) (h0 : (∀ c, c ≤ 3 → ¬ x = nI c) → post 0) : wpX_isArranger post (f_length, f_patternLength, f_distinctFound, f_longestFound, f_nodeCount, f_stateCount, f_rowCount, a_text, a_pattern, a_order, a_occurs, a_otherOrder, a_rank, a_pairRank, a_nodePlace, a_nodeDepth, a_nodeParent, a_nodeTail, a_nodeBranch, a_waitingNodes, a_stateLength, a_stateLink, a_stateEnd, a_stateTails, a_stateBranch, a_lastColumn) x := by
  rcases zt_cls x with c | ⟨j, hj, rfl⟩
  · exact br_t c (h0 fun e he hx => by subst hx; exact nI_pos (by omega) c)
  · refine br_f (nI_pos hj) (pk_lt 3 j (fun d => h0 fun e he hx => ?_) (fun d => h1 j d rfl))
    rw [nI_eq hj (by omega)] at hx
    omega
/-- write -/
theorem zt_x_wr37 {post : Int32 → SX → Prop} {c w : Nat} (hL : L ≤ 40) (hw : L + w ≤ 40) (h : post (nI (L + w)) (nI (L + w), f_patternLength, f_distinctFound, f_longestFound, f_nodeCount, f_stateCount, f_rowCount, fun j => nI (zt_wr t L c w j), a_pattern, a_order, a_occurs, a_otherOrder, a_rank, a_pairRank, a_nodePlace, a_nodeDepth, a_nodeParent, a_nodeTail, a_nodeBranch, a_waitingNodes, a_stateLength, a_stateLink, a_stateEnd, a_stateTails, a_stateBranch, a_lastColumn)) : ∀ d k n, k + d = w → d < n → wX_write_37 post (nI c) (nI w) (nI L) f_patternLength f_distinctFound f_longestFound f_nodeCount f_stateCount f_rowCount n (nI k) (fun j => nI (zt_wr t L c k j)) a_pattern a_order a_occurs a_otherOrder a_rank a_pairRank a_nodePlace a_nodeDepth a_nodeParent a_nodeTail a_nodeBranch a_waitingNodes a_stateLength a_stateLink a_stateEnd a_stateTails a_stateBranch a_lastColumn := by
  intro d
  induction d with
  | zero =>
    intro k n hk hn
    obtain ⟨n, rfl⟩ : ∃ m, n = m + 1 := ⟨n - 1, by omega⟩
    have e : k = w := by omega
    subst e
    exact br_t (nI_le (Nat.le_refl _) (by omega)) (nm_r (nI_add L k) h)
  | succ d ih =>
    intro k n hk hn
    obtain ⟨n, rfl⟩ : ∃ m, n = m + 1 := ⟨n - 1, by omega⟩
    exact br_f (nI_ge (by omega) (by omega)) ⟨pk_in (L + k) 40 (by omega) (nI_add L k), nm_r (zt_upE (L + k) c (pk_cl (L + k) (nI_add L k)) rfl) (nm_r (nI_1 k) (ih (k + 1) n (by omega) (by omega)))⟩
theorem zt_y_wr34 {post : Int32 → SY → Prop} {f_width : Int32} {b_pattern b_shared : Nat → Int32} {c w : Nat} (hL : L ≤ 40) (hw : L + w ≤ 40) (h4 : ∀ i, t i < 4) (hc : c < 4) (h : ∀ sh, zt_sh (zt_wr t L c w) (L + w) sh → post (nI (L + w)) (nI (L + w), f_width, (fun j => nI (zt_wr t L c w j)), b_pattern, sh)) : ∀ d k n, k + d = w → d < n → wY_write_34 post (nI c) (nI w) (nI L) f_width n (nI k) (fun j => nI (zt_wr t L c k j)) b_pattern b_shared := by
  intro d
  induction d with
  | zero =>
    intro k n hk hn
    obtain ⟨n, rfl⟩ : ∃ m, n = m + 1 := ⟨n - 1, by omega⟩
    have e : k = w := by omega
    subst e
    exact br_t (nI_le (Nat.le_refl _) (by omega)) (nm_r (nI_add L k) (zt_y_co hw (zt_wr4 h4 hc k) h))
  | succ d ih =>
    intro k n hk hn
    obtain ⟨n, rfl⟩ : ∃ m, n = m + 1 := ⟨n - 1, by omega⟩
    exact br_f (nI_ge (by omega) (by omega)) ⟨pk_in (L + k) 40 (by omega) (nI_add L k), nm_r (zt_upE (L + k) c (pk_cl (L + k) (nI_add L k)) rfl) (nm_r (nI_1 k) (ih (k + 1) n (by omega) (by omega)))⟩
end
theorem i_vc_write {k : Nat} {u : SX} {v : SY} (I : i_Rel k u v) (hk : k + 3 ≤ 1536) (v1 : Int32) (v2 : Int32) : wpX_write (fun r u' => wpY_write (fun r' v' => r' = r ∧ i_Rel (k + 3) u' v') v v1 v2) u v1 v2 := by
  obtain ⟨L, m, t, pat, ⟨hL, hm, h4, p4⟩, ⟨f_distinctFound, f_longestFound, f_nodeCount, f_stateCount, f_rowCount, a_order, a_occurs, a_otherOrder, a_rank, a_pairRank, a_nodePlace, a_nodeDepth, a_nodeParent, a_nodeTail, a_nodeBranch, a_waitingNodes, a_stateLength, a_stateLink, a_stateEnd, a_stateTails, a_stateBranch, a_lastColumn, rfl⟩, sh, hs, rfl⟩ := I
  unfold wpX_write wpY_write
  refine zt_x_il (fun c hc hx => ?_) (fun hx => ?_)
  · subst hx
    refine br_f (by decide) ?_
    by_cases hw : ∃ w, 1 ≤ w ∧ w ≤ 40 ∧ v2 = nI w
    · obtain ⟨w, w1, w2, rfl⟩ := hw
      refine br_f (nI_nlt (b := 1) w1 (by omega)) (br_t (nI_le (b := 40) w2 (by omega)) (pk_le w (40 - L) (fun d => ?_) (fun d => ?_) rfl (pk_sub (a := 40) hL)))
      · exact ⟨w + 1, zt_x_wr37 hL (by omega) (zt_y_il (fun _ _ _ => br_f (by decide) (zt_y_ma (fun _ _ _ _ => br_f (by decide) (br_t (by rw [nI_add]; exact nI_le (b := 40) (by omega) (by omega)) ⟨w + 1, zt_y_wr34 hL (by omega) h4 hc (fun sh' hs' => ⟨rfl, zt_mk (by omega) hm (zt_wr4 h4 hc w) p4 hs'⟩) w 0 _ (by omega) (by omega)⟩)) (fun x => absurd rfl (x w w1 w2)))) (fun x => absurd rfl (x c hc))) w 0 _ (by omega) (by omega)⟩
      · exact zt_y_il (fun _ _ _ => br_f (by decide) (zt_y_ma (fun _ _ _ _ => br_f (by decide) (br_f (by rw [nI_add]; exact nI_ge (a := 40) (by omega) (by omega)) ⟨rfl, zt_mk hL hm h4 p4 hs⟩)) (fun x => absurd rfl (x w w1 w2)))) (fun x => absurd rfl (x c hc))
    · have Y : wpY_write (fun r' v' => r' = -1 ∧ i_Rel (k + 3) (nI L, nI m, f_distinctFound, f_longestFound, f_nodeCount, f_stateCount, f_rowCount, fun j => nI (t j), fun j => nI (pat j), a_order, a_occurs, a_otherOrder, a_rank, a_pairRank, a_nodePlace, a_nodeDepth, a_nodeParent, a_nodeTail, a_nodeBranch, a_waitingNodes, a_stateLength, a_stateLink, a_stateEnd, a_stateTails, a_stateBranch, a_lastColumn) v') (nI L, nI m, (fun j => nI (t j)), (fun j => nI (pat j)), sh) (nI c) v2 := by
        unfold wpY_write
        exact zt_y_il (fun _ _ _ => br_f (by decide) (zt_y_ma (fun w w1 w2 e => absurd ⟨w, w1, w2, e⟩ hw) (fun _ => br_t rfl ⟨rfl, zt_mk hL hm h4 p4 hs⟩))) (fun x => absurd rfl (x c hc))
      rcases zt_cls v2 with d | ⟨j, hj, rfl⟩
      · exact br_t (zt_lt1 d) Y
      · exact pk_lt j 1 (fun _ => Y) (fun d => pk_le j 40 (fun e => absurd ⟨j, d, e, rfl⟩ hw) (fun _ => Y))
  · exact br_t rfl (zt_y_il (fun c hc e => absurd e (hx c hc)) (fun _ => br_t rfl ⟨rfl, zt_mk hL hm h4 p4 hs⟩))
section
variable {f_length f_patternLength f_distinctFound f_longestFound f_nodeCount f_stateCount f_rowCount : Int32} {a_text a_pattern a_order a_occurs a_otherOrder a_rank a_pairRank a_nodePlace a_nodeDepth a_nodeParent a_nodeTail a_nodeBranch a_waitingNodes a_stateLength a_stateLink a_stateEnd a_stateTails a_stateBranch a_lastColumn : Nat → Int32}
variable {t pat : Nat → Nat} {L m : Nat} {sh : Nat → Int32}
theorem zt_x_ag42 {post : Int32 → SX → Prop} {b w : Nat} (hL : L ≤ 40) (hb : 1 ≤ b) (hbL : b ≤ L) (hw : L + w ≤ 40) (h : post (nI (L + w)) (nI (L + w), f_patternLength, f_distinctFound, f_longestFound, f_nodeCount, f_stateCount, f_rowCount, fun j => nI (zt_ag t L b w j), a_pattern, a_order, a_occurs, a_otherOrder, a_rank, a_pairRank, a_nodePlace, a_nodeDepth, a_nodeParent, a_nodeTail, a_nodeBranch, a_waitingNodes, a_stateLength, a_stateLink, a_stateEnd, a_stateTails, a_stateBranch, a_lastColumn)) : ∀ d k n, k + d = w → d < n → wX_again_42 post (nI b) (nI w) (nI L) f_patternLength f_distinctFound f_longestFound f_nodeCount f_stateCount f_rowCount n (nI k) (fun j => nI (zt_ag t L b k j)) a_pattern a_order a_occurs a_otherOrder a_rank a_pairRank a_nodePlace a_nodeDepth a_nodeParent a_nodeTail a_nodeBranch a_waitingNodes a_stateLength a_stateLink a_stateEnd a_stateTails a_stateBranch a_lastColumn := by
  intro d
  induction d with
  | zero =>
    intro k n hk hn
    obtain ⟨n, rfl⟩ : ∃ m, n = m + 1 := ⟨n - 1, by omega⟩
    have e : k = w := by omega
    subst e
    exact br_t (nI_le (Nat.le_refl _) (by omega)) (nm_r (nI_add L k) h)
  | succ d ih =>
    intro k n hk hn
    obtain ⟨n, rfl⟩ : ∃ m, n = m + 1 := ⟨n - 1, by omega⟩
    have e : (nI L + nI k) - nI b = nI (L + k - b) := by rw [nI_add, pk_sub (by omega)]
    refine br_f (nI_ge (by omega) (by omega)) ⟨pk_in (L + k - b) 40 (by omega) e, pk_in (L + k) 40 (by omega) (nI_add L k), nm_r (zt_upE (L + k) (zt_ag t L b k (L + k - b)) (pk_cl (L + k) (nI_add L k)) ?_) (nm_r (nI_1 k) (ih (k + 1) n (by omega) (by omega)))⟩
    simp only [pk_cl (L + k - b) e]
theorem zt_y_ag39 {post : Int32 → SY → Prop} {f_width : Int32} {b_pattern b_shared : Nat → Int32} {b w : Nat} (hL : L ≤ 40) (hb : 1 ≤ b) (hbL : b ≤ L) (hw : L + w ≤ 40) (h4 : ∀ i, t i < 4) (h : ∀ sh, zt_sh (zt_ag t L b w) (L + w) sh → post (nI (L + w)) (nI (L + w), f_width, (fun j => nI (zt_ag t L b w j)), b_pattern, sh)) : ∀ d k n, k + d = w → d < n → wY_again_39 post (nI b) (nI w) f_width n (nI k) (nI (L + k)) (fun j => nI (zt_ag t L b k j)) b_pattern b_shared := by
  intro d
  induction d with
  | zero =>
    intro k n hk hn
    obtain ⟨n, rfl⟩ : ∃ m, n = m + 1 := ⟨n - 1, by omega⟩
    have e : k = w := by omega
    subst e
    exact br_t (nI_le (Nat.le_refl _) (by omega)) (zt_y_co hw (zt_ag4 h4 k) h)
  | succ d ih =>
    intro k n hk hn
    obtain ⟨n, rfl⟩ : ∃ m, n = m + 1 := ⟨n - 1, by omega⟩
    have e : nI (L + k) - nI b = nI (L + k - b) := pk_sub (by omega)
    refine br_f (nI_ge (by omega) (by omega)) ⟨pk_in (L + k - b) 40 (by omega) e, pk_in (L + k) 40 (by omega), nm_r (zt_upE (L + k) (zt_ag t L b k (L + k - b)) (pk_cl (L + k)) ?_) (nm_r (nI_1 (L + k)) (nm_r (nI_1 k) (ih (k + 1) n (by omega) (by omega))))⟩
    simp only [pk_cl (L + k - b) e]
end
theorem i_vc_again {k : Nat} {u : SX} {v : SY} (I : i_Rel k u v) (hk : k + 3 ≤ 1536) (v1 : Int32) (v2 : Int32) : wpX_again (fun r u' => wpY_again (fun r' v' => r' = r ∧ i_Rel (k + 3) u' v') v v1 v2) u v1 v2 := by
  obtain ⟨L, m, t, pat, ⟨hL, hm, h4, p4⟩, ⟨f_distinctFound, f_longestFound, f_nodeCount, f_stateCount, f_rowCount, a_order, a_occurs, a_otherOrder, a_rank, a_pairRank, a_nodePlace, a_nodeDepth, a_nodeParent, a_nodeTail, a_nodeBranch, a_waitingNodes, a_stateLength, a_stateLink, a_stateEnd, a_stateTails, a_stateBranch, a_lastColumn, rfl⟩, sh, hs, rfl⟩ := I
  rcases zt_cls v1 with c | ⟨b, hb, rfl⟩
  · exact br_t (zt_lt1 c) (br_t (zt_lt1 c) ⟨rfl, zt_mk hL hm h4 p4 hs⟩)
  · refine pk_lt b 1 (fun c => br_t (nI_lt (b := 1) c (by omega)) ⟨rfl, zt_mk hL hm h4 p4 hs⟩) (fun b1 => pk_lt L b (fun c => br_f (nI_nlt (b := 1) b1 hb) (br_t (nI_lt c hb) ⟨rfl, zt_mk hL hm h4 p4 hs⟩)) (fun b2 => ?_))
    by_cases hw : ∃ w, 1 ≤ w ∧ w ≤ 40 ∧ v2 = nI w
    · obtain ⟨w, w1, w2, rfl⟩ := hw
      refine br_f (nI_nlt (b := 1) w1 (by omega)) (br_t (nI_le (b := 40) w2 (by omega)) (pk_le w (40 - L) (fun d => ?_) (fun d => ?_) rfl (pk_sub (a := 40) hL)))
      · exact ⟨w + 1, zt_x_ag42 hL b1 b2 (by omega) (br_f (nI_nlt (b := 1) b1 hb) (br_f (nI_nlt b2 (by omega)) (zt_y_ma (fun _ _ _ _ => br_f (by decide) (br_t (by rw [nI_add]; exact nI_le (b := 40) (by omega) (by omega)) ⟨w + 1, zt_y_ag39 hL b1 b2 (by omega) h4 (fun sh' hs' => ⟨rfl, zt_mk (by omega) hm (zt_ag4 h4 w) p4 hs'⟩) w 0 _ (by omega) (by omega)⟩)) (fun x => absurd rfl (x w w1 w2))))) w 0 _ (by omega) (by omega)⟩
      · exact br_f (nI_nlt (b := 1) b1 hb) (br_f (nI_nlt b2 (by omega)) (zt_y_ma (fun _ _ _ _ => br_f (by decide) (br_f (by rw [nI_add]; exact nI_ge (a := 40) (by omega) (by omega)) ⟨rfl, zt_mk hL hm h4 p4 hs⟩)) (fun x => absurd rfl (x w w1 w2))))
    · have Y : wpY_again (fun r' v' => r' = -1 ∧ i_Rel (k + 3) (nI L, nI m, f_distinctFound, f_longestFound, f_nodeCount, f_stateCount, f_rowCount, fun j => nI (t j), fun j => nI (pat j), a_order, a_occurs, a_otherOrder, a_rank, a_pairRank, a_nodePlace, a_nodeDepth, a_nodeParent, a_nodeTail, a_nodeBranch, a_waitingNodes, a_stateLength, a_stateLink, a_stateEnd, a_stateTails, a_stateBranch, a_lastColumn) v') (nI L, nI m, (fun j => nI (t j)), (fun j => nI (pat j)), sh) (nI b) v2 :=
        br_f (nI_nlt (b := 1) b1 hb) (br_f (nI_nlt b2 (by omega)) (zt_y_ma (fun w w1 w2 e => absurd ⟨w, w1, w2, e⟩ hw) (fun _ => br_t rfl ⟨rfl, zt_mk hL hm h4 p4 hs⟩)))
      rcases zt_cls v2 with d | ⟨j, hj, rfl⟩
      · exact br_t (zt_lt1 d) Y
      · exact pk_lt j 1 (fun _ => Y) (fun d => pk_le j 40 (fun e => absurd ⟨j, d, e, rfl⟩ hw) (fun _ => Y))
theorem i_vc_change {k : Nat} {u : SX} {v : SY} (I : i_Rel k u v) (hk : k + 3 ≤ 1536) (v1 : Int32) (v2 : Int32) : wpX_change (fun r u' => wpY_change (fun r' v' => r' = r ∧ i_Rel (k + 3) u' v') v v1 v2) u v1 v2 := by
  obtain ⟨L, m, t, pat, ⟨hL, hm, h4, p4⟩, ⟨f_distinctFound, f_longestFound, f_nodeCount, f_stateCount, f_rowCount, a_order, a_occurs, a_otherOrder, a_rank, a_pairRank, a_nodePlace, a_nodeDepth, a_nodeParent, a_nodeTail, a_nodeBranch, a_waitingNodes, a_stateLength, a_stateLink, a_stateEnd, a_stateTails, a_stateBranch, a_lastColumn, rfl⟩, sh, hs, rfl⟩ := I
  unfold wpX_change wpY_change
  refine zt_x_ip hL (fun i hi hx => ?_) (fun hx => br_t rfl (zt_y_ip hL (fun c hc e => absurd e (hx c hc)) (fun _ => br_t rfl ⟨rfl, zt_mk hL hm h4 p4 hs⟩)))
  subst hx
  refine br_f (by decide) (zt_x_il (fun c hc hx => ?_) (fun hx => br_t rfl (zt_y_ip hL (fun _ _ _ => br_f (by decide) (zt_y_il (fun c hc e => absurd e (hx c hc)) (fun _ => br_t rfl ⟨rfl, zt_mk hL hm h4 p4 hs⟩))) (fun x => absurd rfl (x i hi)))))
  subst hx
  have vi : vp_in (nI i) 40 := pk_in i 40 (by omega)
  refine br_f (by decide) ⟨vi, nm_e ⟨vi, nm_r (zt_upE i c (pk_cl i) rfl) (zt_y_ip hL (fun _ _ _ => br_f (by decide) (zt_y_il (fun _ _ _ => br_f (by decide) ⟨vi, nm_e ⟨vi, nm_r (zt_upE i c (pk_cl i) rfl) (zt_y_co hL (zt_up4 h4 hc) (fun sh' hs' => ⟨rfl, zt_mk hL hm (zt_up4 h4 hc) p4 hs'⟩))⟩⟩) (fun x => absurd rfl (x c hc)))) (fun x => absurd rfl (x i hi)))⟩⟩
theorem i_vc_cut {k : Nat} {u : SX} {v : SY} (I : i_Rel k u v) (hk : k + 3 ≤ 1536) (v1 : Int32) : wpX_cut (fun r u' => wpY_cut (fun r' v' => r' = r ∧ i_Rel (k + 3) u' v') v v1) u v1 := by
  obtain ⟨L, m, t, pat, ⟨hL, hm, h4, p4⟩, ⟨f_distinctFound, f_longestFound, f_nodeCount, f_stateCount, f_rowCount, a_order, a_occurs, a_otherOrder, a_rank, a_pairRank, a_nodePlace, a_nodeDepth, a_nodeParent, a_nodeTail, a_nodeBranch, a_waitingNodes, a_stateLength, a_stateLink, a_stateEnd, a_stateTails, a_stateBranch, a_lastColumn, rfl⟩, sh, hs, rfl⟩ := I
  rcases zt_cls v1 with c | ⟨b, hb, rfl⟩
  · exact br_t c (br_t c ⟨rfl, zt_mk hL hm h4 p4 hs⟩)
  · refine br_f (nI_pos hb) (pk_le b 40 (fun c => pk_le L b (fun d => ?_) (fun d => nm_r (pk_sub (by omega)) ?_)) (fun c => ?_))
    · exact br_f (nI_pos hb) (br_t (nI_le (b := 40) c (by omega)) (br_t (nI_le d hb) (zt_y_co (L := 0) (by omega) h4 (fun sh' hs' => ⟨rfl, zt_mk (L := 0) (by omega) hm h4 p4 hs'⟩))))
    · refine br_f (nI_pos hb) (br_t (nI_le (b := 40) c (by omega)) (br_f (nI_ge d (by omega)) ?_))
      rw [pk_sub (by omega)]
      exact zt_y_co (by omega) h4 (fun sh' hs' => ⟨rfl, zt_mk (by omega) hm h4 p4 hs'⟩)
    · exact br_f (nI_pos hb) (br_f (nI_ge (a := 40) c hb) ⟨rfl, zt_mk hL hm h4 p4 hs⟩)
theorem i_vc_extend {k : Nat} {u : SX} {v : SY} (I : i_Rel k u v) (hk : k + 3 ≤ 1536) (v1 : Int32) : wpX_extend (fun r u' => wpY_extend (fun r' v' => r' = r ∧ i_Rel (k + 3) u' v') v v1) u v1 := by
  obtain ⟨L, m, t, pat, ⟨hL, hm, h4, p4⟩, ⟨f_distinctFound, f_longestFound, f_nodeCount, f_stateCount, f_rowCount, a_order, a_occurs, a_otherOrder, a_rank, a_pairRank, a_nodePlace, a_nodeDepth, a_nodeParent, a_nodeTail, a_nodeBranch, a_waitingNodes, a_stateLength, a_stateLink, a_stateEnd, a_stateTails, a_stateBranch, a_lastColumn, rfl⟩, sh, hs, rfl⟩ := I
  unfold wpX_extend wpY_extend
  refine zt_x_il (fun c hc hx => ?_) (fun hx => br_t rfl (zt_y_il (fun c hc e => absurd e (hx c hc)) (fun _ => br_t rfl ⟨rfl, zt_mk hL hm h4 p4 hs⟩)))
  subst hx
  refine br_f (by decide) (pk_lt m 10 (fun d => ?_) (fun d => ?_))
  · exact ⟨pk_in m 10 d, nm_r (zt_upE m c (pk_cl m) rfl) (nm_r (nI_1 m) (zt_y_il (fun _ _ _ => br_f (by decide) (br_t (nI_lt (b := 10) d (by omega)) ⟨pk_in m 10 d, nm_r (zt_upE m c (pk_cl m) rfl) (nm_r (nI_1 m) ⟨rfl, zt_mk hL (by omega) h4 (zt_up4 p4 hc) hs⟩)⟩)) (fun x => absurd rfl (x c hc))))⟩
  · exact zt_y_il (fun _ _ _ => br_f (by decide) (br_f (nI_nlt (b := 10) d (by omega)) ⟨rfl, zt_mk hL hm h4 p4 hs⟩)) (fun x => absurd rfl (x c hc))
section
variable {f_length f_patternLength f_distinctFound f_longestFound f_nodeCount f_stateCount f_rowCount : Int32} {a_text a_pattern a_order a_occurs a_otherOrder a_rank a_pairRank a_nodePlace a_nodeDepth a_nodeParent a_nodeTail a_nodeBranch a_waitingNodes a_stateLength a_stateLink a_stateEnd a_stateTails a_stateBranch a_lastColumn : Nat → Int32}
variable {t pat : Nat → Nat} {L m : Nat} {sh : Nat → Int32}
theorem zt_x_cy28 {post : Int32 → SX → Prop} {i w : Nat} (hL : L ≤ 40) (hi : i + w ≤ L) (hw : w ≤ 10) (h : post 1 (nI L, nI w, f_distinctFound, f_longestFound, f_nodeCount, f_stateCount, f_rowCount, fun j => nI (t j), fun j => nI (zt_cy pat t i w j), a_order, a_occurs, a_otherOrder, a_rank, a_pairRank, a_nodePlace, a_nodeDepth, a_nodeParent, a_nodeTail, a_nodeBranch, a_waitingNodes, a_stateLength, a_stateLink, a_stateEnd, a_stateTails, a_stateBranch, a_lastColumn)) : ∀ d k n, k + d = w → d < n → wX_copy_28 post (nI i) (nI w) (nI L) f_patternLength f_distinctFound f_longestFound f_nodeCount f_stateCount f_rowCount n (nI k) (fun j => nI (t j)) (fun j => nI (zt_cy pat t i k j)) a_order a_occurs a_otherOrder a_rank a_pairRank a_nodePlace a_nodeDepth a_nodeParent a_nodeTail a_nodeBranch a_waitingNodes a_stateLength a_stateLink a_stateEnd a_stateTails a_stateBranch a_lastColumn := by
  intro d
  induction d with
  | zero =>
    intro k n hk hn
    obtain ⟨n, rfl⟩ : ∃ m, n = m + 1 := ⟨n - 1, by omega⟩
    have e : k = w := by omega
    subst e
    exact br_t (nI_le (Nat.le_refl _) (by omega)) h
  | succ d ih =>
    intro k n hk hn
    obtain ⟨n, rfl⟩ : ∃ m, n = m + 1 := ⟨n - 1, by omega⟩
    refine br_f (nI_ge (by omega) (by omega)) ⟨pk_in (i + k) 40 (by omega) (nI_add i k), pk_in k 10 (by omega), nm_r (zt_upE k (t (i + k)) (pk_cl k) ?_) (nm_r (nI_1 k) (ih (k + 1) n (by omega) (by omega)))⟩
    simp only [pk_cl (i + k) (nI_add i k)]
theorem zt_y_cy28 {post : Int32 → SY → Prop} {f_width : Int32} {b_shared : Nat → Int32} {i w : Nat} (hL : L ≤ 40) (hi : i + w ≤ L) (hw : w ≤ 10) (h : post 1 (nI L, nI w, (fun j => nI (t j)), (fun j => nI (zt_cy pat t i w j)), b_shared)) : ∀ d k n, k + d = w → d < n → wY_copy_28 post (nI i) (nI w) (nI L) f_width n (nI k) (fun j => nI (t j)) (fun j => nI (zt_cy pat t i k j)) b_shared := by
  intro d
  induction d with
  | zero =>
    intro k n hk hn
    obtain ⟨n, rfl⟩ : ∃ m, n = m + 1 := ⟨n - 1, by omega⟩
    have e : k = w := by omega
    subst e
    exact br_t (nI_le (Nat.le_refl _) (by omega)) h
  | succ d ih =>
    intro k n hk hn
    obtain ⟨n, rfl⟩ : ∃ m, n = m + 1 := ⟨n - 1, by omega⟩
    refine br_f (nI_ge (by omega) (by omega)) ⟨pk_in (i + k) 40 (by omega) (nI_add i k), pk_in k 10 (by omega), nm_r (zt_upE k (t (i + k)) (pk_cl k) ?_) (nm_r (nI_1 k) (ih (k + 1) n (by omega) (by omega)))⟩
    simp only [pk_cl (i + k) (nI_add i k)]
end
theorem i_vc_copy {k : Nat} {u : SX} {v : SY} (I : i_Rel k u v) (hk : k + 3 ≤ 1536) (v1 : Int32) (v2 : Int32) : wpX_copy (fun r u' => wpY_copy (fun r' v' => r' = r ∧ i_Rel (k + 3) u' v') v v1 v2) u v1 v2 := by
  obtain ⟨L, m, t, pat, ⟨hL, hm, h4, p4⟩, ⟨f_distinctFound, f_longestFound, f_nodeCount, f_stateCount, f_rowCount, a_order, a_occurs, a_otherOrder, a_rank, a_pairRank, a_nodePlace, a_nodeDepth, a_nodeParent, a_nodeTail, a_nodeBranch, a_waitingNodes, a_stateLength, a_stateLink, a_stateEnd, a_stateTails, a_stateBranch, a_lastColumn, rfl⟩, sh, hs, rfl⟩ := I
  rcases zt_cls v2 with c | ⟨w, hw, rfl⟩
  · exact br_t c (br_t c ⟨rfl, zt_mk hL hm h4 p4 hs⟩)
  · refine br_f (nI_pos hw) (pk_lt 10 w (fun c => br_f (nI_pos hw) (br_t (nI_lt (a := 10) c hw) ⟨rfl, zt_mk hL hm h4 p4 hs⟩)) (fun w1 => ?_))
    rcases zt_cls v1 with c | ⟨i, hi, rfl⟩
    · exact br_t c (br_f (nI_pos hw) (br_f (nI_nlt (a := 10) w1 (by omega)) (br_t c ⟨rfl, zt_mk hL hm h4 p4 hs⟩)))
    · refine br_f (nI_pos hi) (br_c (fun c => ?_) (fun c => br_f (nI_pos hw) (br_f (nI_nlt (a := 10) w1 (by omega)) (br_f (nI_pos hi) (br_f c ⟨rfl, zt_mk hL hm h4 p4 hs⟩)))))
      have hiw : i + w ≤ L := by
        by_cases d : w ≤ L
        · rw [pk_sub d, nI_leI hi (by omega)] at c
          omega
        · exact absurd (Int32.lt_of_le_of_lt c (pk_sneg (by omega) (by omega))) (nI_pos hi)
      exact ⟨w + 1, zt_x_cy28 hL hiw w1 (br_f (nI_pos hw) (br_f (nI_nlt (a := 10) w1 (by omega)) (br_f (nI_pos hi) (br_t c ⟨w + 1, zt_y_cy28 hL hiw w1 ⟨rfl, zt_mk hL w1 h4 (zt_cy4 p4 h4 w) hs⟩ w 0 _ (by omega) (by omega)⟩)))) w 0 _ (by omega) (by omega)⟩
theorem i_vc_common {k : Nat} {u : SX} {v : SY} (I : i_Rel k u v) (hk : k + 3 ≤ 1536) (v1 : Int32) (v2 : Int32) : wpX_common (fun r => wpY_common (fun r' => r' = r ∧ i_Rel (k + 3) u v) v v1 v2) u v1 v2 := by
  obtain ⟨L, m, t, pat, ⟨hL, hm, h4, p4⟩, ⟨f_distinctFound, f_longestFound, f_nodeCount, f_stateCount, f_rowCount, a_order, a_occurs, a_otherOrder, a_rank, a_pairRank, a_nodePlace, a_nodeDepth, a_nodeParent, a_nodeTail, a_nodeBranch, a_waitingNodes, a_stateLength, a_stateLink, a_stateEnd, a_stateTails, a_stateBranch, a_lastColumn, rfl⟩, sh, hs, rfl⟩ := I
  unfold wpX_common wpY_common
  refine zt_x_ip hL (fun i hi hx => ?_) (fun hx => br_t rfl (zt_y_ip hL (fun c hc e => absurd e (hx c hc)) (fun _ => br_t rfl ⟨rfl, zt_mk hL hm h4 p4 hs⟩)))
  subst hx
  refine br_f (by decide) (zt_x_ip hL (fun j hj hx => ?_) (fun hx => br_t rfl (zt_y_ip hL (fun _ _ _ => br_f (by decide) (zt_y_ip hL (fun c hc e => absurd e (hx c hc)) (fun _ => br_t rfl ⟨rfl, zt_mk hL hm h4 p4 hs⟩))) (fun x => absurd rfl (x i hi)))))
  subst hx
  have a := zt_y_at hs (i := i) (j := j) (by omega) (by omega)
  exact br_f (by decide) (zt_x_sl 0 hL (by omega) (by omega) h4 (Nat.zero_le _) (zt_y_ip hL (fun _ _ _ => br_f (by decide) (zt_y_ip hL (fun _ _ _ => br_f (by decide) ⟨a.1, a.2, zt_mk hL hm h4 p4 hs⟩) (fun x => absurd rfl (x j hj)))) (fun x => absurd rfl (x i hi))))
theorem i_vc_repeats {k : Nat} {u : SX} {v : SY} (I : i_Rel k u v) (hk : k + 3 ≤ 1536) (v1 : Int32) : wpX_repeats (fun r => wpY_repeats (fun r' => r' = r ∧ i_Rel (k + 3) u v) v v1) u v1 := by
  obtain ⟨L, m, t, pat, ⟨hL, hm, h4, p4⟩, ⟨f_distinctFound, f_longestFound, f_nodeCount, f_stateCount, f_rowCount, a_order, a_occurs, a_otherOrder, a_rank, a_pairRank, a_nodePlace, a_nodeDepth, a_nodeParent, a_nodeTail, a_nodeBranch, a_waitingNodes, a_stateLength, a_stateLink, a_stateEnd, a_stateTails, a_stateBranch, a_lastColumn, rfl⟩, sh, hs, rfl⟩ := I
  refine zt_x_rp hL h4 (fun T t1 t2 hx => ?_) (fun c => zt_y_rp hL hs (fun T t1 t2 hx => ?_) (fun _ => ⟨rfl, zt_mk hL hm h4 p4 hs⟩))
  · subst hx
    refine zt_y_rp hL hs (fun T' t1' t2' hx => ?_) (fun c => absurd (nI_le (a := 1) t1 t2) c)
    rw [nI_eq t2 t2'] at hx
    subst hx
    exact ⟨rfl, zt_mk hL hm h4 p4 hs⟩
  · subst hx
    exact absurd (nI_le (a := 1) t1 t2) c
theorem i_vc_unique {k : Nat} {u : SX} {v : SY} (I : i_Rel k u v) (hk : k + 3 ≤ 1536) (v1 : Int32) : wpX_unique (fun r => wpY_unique (fun r' => r' = r ∧ i_Rel (k + 3) u v) v v1) u v1 := by
  obtain ⟨L, m, t, pat, ⟨hL, hm, h4, p4⟩, ⟨f_distinctFound, f_longestFound, f_nodeCount, f_stateCount, f_rowCount, a_order, a_occurs, a_otherOrder, a_rank, a_pairRank, a_nodePlace, a_nodeDepth, a_nodeParent, a_nodeTail, a_nodeBranch, a_waitingNodes, a_stateLength, a_stateLink, a_stateEnd, a_stateTails, a_stateBranch, a_lastColumn, rfl⟩, sh, hs, rfl⟩ := I
  unfold wpX_unique wpY_unique
  refine zt_x_ip hL (fun i hi hx => ?_) (fun hx => br_t rfl (zt_y_ip hL (fun c hc e => absurd e (hx c hc)) (fun _ => br_t rfl ⟨rfl, zt_mk hL hm h4 p4 hs⟩)))
  subst hx
  have b1 := zt_ms_le (g := zt_g t L) (L := L) (i := i) (n := L) (by omega) (by omega)
  have Y : wpY_unique (fun r' => r' = nI (if L - i < zt_ms (zt_g t L) L i L + 1 then 0 else zt_ms (zt_g t L) L i L + 1) ∧ i_Rel (k + 3) (nI L, nI m, f_distinctFound, f_longestFound, f_nodeCount, f_stateCount, f_rowCount, fun j => nI (t j), fun j => nI (pat j), a_order, a_occurs, a_otherOrder, a_rank, a_pairRank, a_nodePlace, a_nodeDepth, a_nodeParent, a_nodeTail, a_nodeBranch, a_waitingNodes, a_stateLength, a_stateLink, a_stateEnd, a_stateTails, a_stateBranch, a_lastColumn) (nI L, nI m, (fun j => nI (t j)), (fun j => nI (pat j)), sh)) (nI L, nI m, (fun j => nI (t j)), (fun j => nI (pat j)), sh) (nI i) := by
    unfold wpY_unique
    exact zt_y_ip hL (fun _ _ _ => br_f (by decide) ⟨L + 1, zt_y_un14 hL hs hi ⟨rfl, zt_mk hL hm h4 p4 hs⟩ L 0 _ (by omega) (by omega)⟩) (fun x => absurd rfl (x i hi))
  refine br_f (by decide) (zt_x_ms hL hi (Nat.le_refl _) h4 (nm_r (nI_1 _) (pk_lt (L - i) (zt_ms (zt_g t L) L i L + 1) (fun c => ?_) (fun c => ?_) (pk_sub (by omega)) rfl)))
  · rw [if_pos c] at Y; exact Y
  · rw [if_neg (by omega)] at Y; exact Y
end
section
/-! piece, side by side -/
section
variable {f_length f_patternLength f_distinctFound f_longestFound f_nodeCount f_stateCount f_rowCount : Int32} {a_text a_pattern a_order a_occurs a_otherOrder a_rank a_pairRank a_nodePlace a_nodeDepth a_nodeParent a_nodeTail a_nodeBranch a_waitingNodes a_stateLength a_stateLink a_stateEnd a_stateTails a_stateBranch a_lastColumn : Nat → Int32}
variable {t pat : Nat → Nat} {L m : Nat} {sh : Nat → Int32}
theorem zt_pc {o : Nat → Nat} {k : Nat} {f_width : Int32} {b_pattern : Nat → Int32} (hk : k < 2 ^ 31) (hL : L ≤ 40) (h4 : ∀ i, t i < 4) (hs : zt_sh t L sh) (hO : zt_O (zt_g t L) L o) : ∀ d r lf, r + d = L → lf < 2 ^ 31 → ∃ ans : Int32, (∀ (post : Int32 → SX → Prop) n, d < n → post ans (nI L, f_patternLength, f_distinctFound, f_longestFound, f_nodeCount, f_stateCount, f_rowCount, fun j => nI (t j), a_pattern, fun j => nI (o j), a_occurs, a_otherOrder, a_rank, a_pairRank, a_nodePlace, a_nodeDepth, a_nodeParent, a_nodeTail, a_nodeBranch, a_waitingNodes, a_stateLength, a_stateLink, a_stateEnd, a_stateTails, a_stateBranch, a_lastColumn) → wX_piece_14 post (nI L) f_patternLength f_distinctFound f_longestFound f_nodeCount f_stateCount f_rowCount (fun j => nI (t j)) a_pattern (fun j => nI (o j)) a_occurs a_otherOrder a_rank a_pairRank a_nodePlace a_nodeDepth a_nodeParent a_nodeTail a_nodeBranch a_waitingNodes a_stateLength a_stateLink a_stateEnd a_stateTails a_stateBranch a_lastColumn n (nI lf) (nI r)) ∧ (∀ (post : Int32 → Prop) n x3, d < n → (0 < r → x3 = nI (o (r - 1))) → post ans → wY_piece_7 post (nI k) (nI L) f_width (fun j => nI (t j)) b_pattern sh n (nI lf) x3 (nI r)) := by
  have hz := zt_g_Z t L
  intro d
  induction d with
  | zero =>
    intro r lf hr hlf
    refine ⟨-1, fun post n hn h => ?_, fun post n x3 hn hx h => ?_⟩
    · obtain ⟨n, rfl⟩ : ∃ m, n = m + 1 := ⟨n - 1, by omega⟩
      exact br_t (nI_le (by omega) (by omega)) h
    · obtain ⟨n, rfl⟩ : ∃ m, n = m + 1 := ⟨n - 1, by omega⟩
      exact br_t (nI_le (by omega) (by omega)) h
  | succ d ih =>
    intro r lf hr hlf
    have b := hO r (by omega)
    obtain ⟨kn, ekn⟩ : ∃ kn, kn = if r = 0 then 0 else zt_N (zt_g t L) L (o (r - 1)) (o r) := ⟨_, rfl⟩
    have bd : kn + o r ≤ L := by
      rw [ekn]
      split
      · omega
      · have a := (hO (r - 1) (by omega)).1
        have := zt_N_j (g := zt_g t L) (L := L) (i := o (r - 1)) (j := o r) (by omega) (by omega)
        omega
    have er : (nI r).toNatClampNeg = r := pk_cl r
    have ef : (nI L - nI (o r)) - nI kn = nI (L - o r - kn) := by rw [pk_sub (by omega), pk_sub (by omega)]
    have es : (nI kn + 1) + nI lf = nI (kn + 1 + lf) := by rw [nI_1, nI_add]
    -- the reference down to the last part
    have Y : ∀ (post : Int32 → Prop) (J : Int32 → Int32 → Int32 → Prop) x3 n, (0 < r → x3 = nI (o (r - 1))) → wY_piece_7 post (nI k) (nI L) f_width (fun j => nI (t j)) b_pattern sh n = J → wY_piece_50 post J (nI k) (nI lf) (nI r) (nI (o r)) (nI kn) (nI L) f_width (fun j => nI (t j)) b_pattern sh → wY_piece_7 post (nI k) (nI L) f_width (fun j => nI (t j)) b_pattern sh (n + 1) (nI lf) x3 (nI r) := by
      intro post J x3 n hx hJ h
      subst hJ
      refine br_f (nI_ge (by omega) (by omega)) (br_f (nI_pos hk) (zt_y_ta hL hs h4 (fun e he hx0 res hres => ?_) (fun c => absurd rfl (c 0 (by omega)))))
      have er3 : res = nI (o r) := by
        rcases hres with ⟨i, hi, ei, rfl⟩ | ⟨h1, rfl⟩
        · have r1 := zt_r_lt (g := zt_g t L) hi
          rw [nI_eq (by omega) (by omega)] at ei
          rw [zt_r_inj hz hi b.1 (ei.trans b.2.symm)]
        · exact absurd (by rw [b.2]) (h1 (o r) b.1)
      subst er3
      refine pk_le r 0 (fun c => ?_) (fun c => ?_)
      · rw [if_pos (by omega)] at ekn
        subst ekn
        exact h
      · rw [if_neg (by omega)] at ekn
        have a := (hO (r - 1) (by omega)).1
        have y := zt_y_at hs (i := o r) (j := o (r - 1)) (by omega) (by omega)
        rw [zt_N_c (by omega) (by omega), ← ekn] at y
        rw [hx c]
        refine ⟨y.1, ?_⟩
        rw [y.2]
        exact h
    by_cases c : L - o r - kn ≤ lf
    · obtain ⟨ans, hX, hY⟩ := ih (r + 1) (lf - (L - o r - kn)) (by omega) (by omega)
      refine ⟨ans, fun post n hn h => ?_, fun post n x3 hn hx h => ?_⟩
      · obtain ⟨n, rfl⟩ : ∃ m, n = m + 1 := ⟨n - 1, by omega⟩
        refine br_f (nI_ge (by omega) (by omega)) ⟨pk_in r 40 (by omega), nm_r (e' := nI (o r)) (by simp only [er]) (zt_x_sw hL h4 hO (by omega) ?_)⟩
        rw [← ekn]
        exact nm_r ef (br_t (nI_le c hlf) (nm_r (pk_sub c) (nm_r (nI_1 r) (hX post n (by omega) h))))
      · obtain ⟨n, rfl⟩ : ∃ m, n = m + 1 := ⟨n - 1, by omega⟩
        refine Y post _ x3 n hx rfl (nm_r ef (br_t (nI_le c hlf) (nm_r (pk_sub c) (nm_r (nI_1 r) (hY post n _ (by omega) (fun _ => ?_) h)))))
        rw [Nat.add_sub_cancel]
    · obtain ⟨rr, hrr⟩ := zt_lp_ex (g := zt_g t L) (L := L) (i := o r) (s := kn + 1 + lf) (by omega) (by omega)
      refine ⟨nI rr + (64 * nI (kn + 1 + lf)), fun post n hn h => ?_, fun post n x3 hn hx h => ?_⟩
      · obtain ⟨n, rfl⟩ : ∃ m, n = m + 1 := ⟨n - 1, by omega⟩
        refine br_f (nI_ge (by omega) (by omega)) ⟨pk_in r 40 (by omega), nm_r (e' := nI (o r)) (by simp only [er]) (zt_x_sw hL h4 hO (by omega) ?_)⟩
        rw [← ekn]
        refine nm_r ef (br_f (nI_ge (by omega) (by omega)) (nm_r es (zt_x_lp hL b.1 (by omega) h4 (fun r2 h2 => ?_))))
        rw [zt_lp_un hrr h2]
        exact h
      · obtain ⟨n, rfl⟩ : ∃ m, n = m + 1 := ⟨n - 1, by omega⟩
        refine Y post _ x3 n hx rfl (nm_r ef (br_f (nI_ge (by omega) (by omega)) ?_))
        rw [es]
        refine zt_y_le hL hs b.1 (by omega) (fun r2 h2 => ?_)
        rw [zt_lp_un hrr h2]
        exact h
end
theorem i_vc_piece {k : Nat} {u : SX} {v : SY} (I : i_Rel k u v) (hk : k + 3 ≤ 1536) (v1 : Int32) : wpX_piece (fun r u' => wpY_piece (fun r' => r' = r ∧ i_Rel (k + 3) u' v) v v1) u v1 := by
  obtain ⟨L, m, t, pat, ⟨hL, hm, h4, p4⟩, ⟨f_distinctFound, f_longestFound, f_nodeCount, f_stateCount, f_rowCount, a_order, a_occurs, a_otherOrder, a_rank, a_pairRank, a_nodePlace, a_nodeDepth, a_nodeParent, a_nodeTail, a_nodeBranch, a_waitingNodes, a_stateLength, a_stateLink, a_stateEnd, a_stateTails, a_stateBranch, a_lastColumn, rfl⟩, sh, hs, rfl⟩ := I
  rcases zt_cls v1 with c | ⟨b, hb, rfl⟩
  · exact br_f (Int32.not_le.mpr c) ⟨1, pk_le L 0 (fun _ => ⟨rfl, zt_mk hL hm h4 p4 hs⟩) (fun _ => br_t c ⟨rfl, zt_mk hL hm h4 p4 hs⟩)⟩
  · refine br_t (nI_pos' hb) (zt_x_so hL h4 (fun o hO => ?_))
    obtain ⟨ans, hX, hY⟩ := zt_pc (f_patternLength := nI m) (f_distinctFound := f_distinctFound) (f_longestFound := f_longestFound) (f_nodeCount := f_nodeCount) (f_stateCount := f_stateCount) (f_rowCount := f_rowCount) (a_pattern := fun j => nI (pat j)) (a_occurs := a_occurs) (a_otherOrder := a_otherOrder) (a_rank := a_rank) (a_pairRank := a_pairRank) (a_nodePlace := a_nodePlace) (a_nodeDepth := a_nodeDepth) (a_nodeParent := a_nodeParent) (a_nodeTail := a_nodeTail) (a_nodeBranch := a_nodeBranch) (a_waitingNodes := a_waitingNodes) (a_stateLength := a_stateLength) (a_stateLink := a_stateLink) (a_stateEnd := a_stateEnd) (a_stateTails := a_stateTails) (a_stateBranch := a_stateBranch) (a_lastColumn := a_lastColumn) (f_width := nI m) (b_pattern := fun j => nI (pat j)) hb hL h4 hs hO L 0 b (by omega) hb
    exact ⟨L + 1, hX _ _ (by omega) ⟨L + 1, hY _ _ _ (by omega) (fun x => by omega) ⟨rfl, zt_mk hL hm h4 p4 hs⟩⟩⟩
end
section
/-! engine 1: ranks of doubled width; marks -/
theorem zt_b1 : vp_nar .boolean 1 = nI 1 := rfl
theorem zt_b0 : vp_nar .boolean 0 = nI 0 := rfl
def zt_mk1 (S : Nat → Prop) (L : Nat) (f : Nat → Nat) : Prop := ∀ i, i < L → (S i → f i = 1) ∧ (¬ S i → f i = 0)
theorem zt_mk1_0 {L : Nat} {f : Nat → Nat} (h : ∀ i, i < L → f i = 0) : zt_mk1 (fun _ => False) L f := fun i hi => ⟨fun x => x.elim, fun _ => h i hi⟩
theorem zt_mk1_1 {S S' : Nat → Prop} {L k : Nat} {f : Nat → Nat} (h : zt_mk1 S L f) (hS : ∀ i, i < L → (S' i ↔ S i ∨ i = k)) : zt_mk1 S' L (zt_up f k 1) := by
  intro i hi
  rw [hS i hi]
  by_cases c : i = k
  · subst c
    rw [zt_us]
    exact ⟨fun _ => rfl, fun x => absurd (Or.inr rfl) x⟩
  · rw [zt_un _ _ c]
    exact ⟨fun x => (h i hi).1 (x.elim id (fun y => absurd y c)), fun x => (h i hi).2 (fun y => x (Or.inl y))⟩
theorem zt_mk1_c {S S' : Nat → Prop} {L : Nat} {f : Nat → Nat} (h : zt_mk1 S L f) (hS : ∀ i, i < L → (S' i ↔ S i)) : zt_mk1 S' L f := fun i hi => by
  rw [hS i hi]; exact h i hi
theorem zt_tri3 (g pat : Nat → Nat) (m i : Nat) : zt_lo g pat m i ∨ zt_oc g pat m i ∨ zt_hi g pat m i := by
  by_cases e : ∃ s, s < m ∧ g (i + s) ≠ pat s + 1
  · obtain ⟨s, ⟨h1, h2⟩, h3⟩ := zt_least _ e
    have h4 : ∀ q, q < s → g (i + q) = pat q + 1 := fun q hq => Classical.byContradiction fun c => h3 q hq ⟨by omega, c⟩
    rcases Nat.lt_or_gt_of_ne h2 with a | a
    · exact Or.inl ⟨s, h1, h4, a⟩
    · exact Or.inr (Or.inr ⟨s, h1, h4, a⟩)
  · exact Or.inr (Or.inl fun q hq => Classical.byContradiction fun c => e ⟨q, hq, c⟩)
def zt_DI (g : Nat → Nat) (L w : Nat) (r : Nat → Nat) : Prop := zt_K g L w r ∧ (∀ i, i < L → r i < 40) ∧ (L < w → ∀ i, i < L → r i = zt_r g L i)
theorem zt_DI_1 {g : Nat → Nat} {L w : Nat} {r pr r' : Nat → Nat} (hz : zt_Z g L) (hL : L ≤ 40) (hw : 0 < w) (h : zt_DI g L w r) (hp : ∀ p, p < L → pr p = r p * 41 + zt_2 L w r p) (hr : ∀ p, p < L → r' p = zt_c (fun o => pr o < pr p) L) : zt_DI g L (w * 2) r' := by
  have k2 : zt_K g L (w * 2) pr := fun i j hi hj => by
    have := zt_K_2 hz hw h.1 h.2.1 i j hi hj
    rw [hp i hi, hp j hj]
    exact this
  refine ⟨fun i j hi hj => ?_, fun i hi => ?_, fun hLw i hi => ?_⟩
  · have := zt_K_r k2 i j hi hj
    rw [hr i hi, hr j hj]
    exact this
  · rw [hr i hi]
    have := zt_clt (p := fun o => pr o < pr i) (q := fun _ => True) L i (fun _ _ _ => trivial) hi (by omega) trivial
    have h2 : zt_c (fun _ => True) L = L := zt_call L (fun _ _ => trivial)
    omega
  · rw [hr i hi]
    exact zt_K_end hz hLw k2 hi
section
variable {f_length f_patternLength f_distinctFound f_longestFound f_nodeCount f_stateCount f_rowCount : Int32} {a_text a_pattern a_order a_occurs a_otherOrder a_rank a_pairRank a_nodePlace a_nodeDepth a_nodeParent a_nodeTail a_nodeBranch a_waitingNodes a_stateLength a_stateLink a_stateEnd a_stateTails a_stateBranch a_lastColumn : Nat → Int32}
variable {t pat : Nat → Nat} {L m : Nat}
theorem zt_x_pr2 {post : SX → Prop} {w : Nat} {r : Nat → Nat} (hL : L ≤ 40) (hw : w ≤ 40) (hr : ∀ i, i < L → r i < 40) (h : ∀ pr : Nat → Nat, (∀ p, p < L → pr p = r p * 41 + zt_2 L w r p) → post (nI L, f_patternLength, f_distinctFound, f_longestFound, f_nodeCount, f_stateCount, f_rowCount, a_text, a_pattern, a_order, a_occurs, a_otherOrder, fun j => nI (r j), fun j => nI (pr j), a_nodePlace, a_nodeDepth, a_nodeParent, a_nodeTail, a_nodeBranch, a_waitingNodes, a_stateLength, a_stateLink, a_stateEnd, a_stateTails, a_stateBranch, a_lastColumn)) : ∀ d p n (pr : Nat → Nat), p + d = L → d < n → (∀ q, q < p → pr q = r q * 41 + zt_2 L w r q) → wX_pairRanks_2 post (nI w) (nI L) f_patternLength f_distinctFound f_longestFound f_nodeCount f_stateCount f_rowCount n (nI p) a_text a_pattern a_order a_occurs a_otherOrder (fun j => nI (r j)) (fun j => nI (pr j)) a_nodePlace a_nodeDepth a_nodeParent a_nodeTail a_nodeBranch a_waitingNodes a_stateLength a_stateLink a_stateEnd a_stateTails a_stateBranch a_lastColumn := by
  intro d
  induction d with
  | zero =>
    intro p n pr hp hn hq
    obtain ⟨n, rfl⟩ : ∃ m, n = m + 1 := ⟨n - 1, by omega⟩
    exact br_t (nI_le (by omega) (by omega)) (h pr fun q hq' => hq q (by omega))
  | succ d ih =>
    intro p n pr hp hn hq
    obtain ⟨n, rfl⟩ : ∃ m, n = m + 1 := ⟨n - 1, by omega⟩
    have ep : (nI p).toNatClampNeg = p := pk_cl p
    have s34 : ∀ z, z = zt_2 L w r p → wX_pairRanks_34 post (wX_pairRanks_2 post (nI w) (nI L) f_patternLength f_distinctFound f_longestFound f_nodeCount f_stateCount f_rowCount n) (nI w) (nI p) (nI z) (nI L) f_patternLength f_distinctFound f_longestFound f_nodeCount f_stateCount f_rowCount a_text a_pattern a_order a_occurs a_otherOrder (fun j => nI (r j)) (fun j => nI (pr j)) a_nodePlace a_nodeDepth a_nodeParent a_nodeTail a_nodeBranch a_waitingNodes a_stateLength a_stateLink a_stateEnd a_stateTails a_stateBranch a_lastColumn := by
      intro z hz
      refine ⟨pk_in p 40 (by omega), pk_in p 40 (by omega), nm_r (zt_upE p (r p * 41 + z) ep ?_) (nm_r (nI_1 p) (ih (p + 1) n _ (by omega) (by omega) (fun q hq' => ?_)))⟩
      · simp only [ep]
        rw [show (41 : Int32) = nI 41 from rfl, pk_mul, nI_add]
      · by_cases c : q = p
        · subst c; rw [zt_us, hz]
        · rw [zt_un _ _ c]; exact hq q (by omega)
    refine br_f (nI_ge (by omega) (by omega)) (pk_le L (p + w) (fun c => s34 0 ?_) (fun c => ⟨pk_in (p + w) 40 (by omega) (nI_add p w), ?_⟩) rfl (nI_add p w))
    · unfold zt_2; rw [if_neg (by omega)]
    · simp only [pk_cl (p + w) (nI_add p w)]
      rw [nI_1]
      refine s34 (r (p + w) + 1) ?_
      unfold zt_2; rw [if_pos c]
theorem zt_x_pr {post : SX → Prop} {w : Nat} {r : Nat → Nat} (hL : L ≤ 40) (hw : w ≤ 40) (hr : ∀ i, i < L → r i < 40) (h : ∀ pr : Nat → Nat, (∀ p, p < L → pr p = r p * 41 + zt_2 L w r p) → post (nI L, f_patternLength, f_distinctFound, f_longestFound, f_nodeCount, f_stateCount, f_rowCount, a_text, a_pattern, a_order, a_occurs, a_otherOrder, fun j => nI (r j), fun j => nI (pr j), a_nodePlace, a_nodeDepth, a_nodeParent, a_nodeTail, a_nodeBranch, a_waitingNodes, a_stateLength, a_stateLink, a_stateEnd, a_stateTails, a_stateBranch, a_lastColumn)) : wpX_pairRanks post (nI L, f_patternLength, f_distinctFound, f_longestFound, f_nodeCount, f_stateCount, f_rowCount, a_text, a_pattern, a_order, a_occurs, a_otherOrder, fun j => nI (r j), a_pairRank, a_nodePlace, a_nodeDepth, a_nodeParent, a_nodeTail, a_nodeBranch, a_waitingNodes, a_stateLength, a_stateLink, a_stateEnd, a_stateTails, a_stateBranch, a_lastColumn) (nI w) := by
  obtain ⟨pr, rfl⟩ := zt_arr a_pairRank
  exact ⟨L + 1, zt_x_pr2 hL hw hr h L 0 _ pr (by omega) (by omega) (fun q hq => by omega)⟩
theorem zt_x_rk14 {post : SX → Prop} {J : _} {p : Nat} {r pr : Nat → Nat} (hL : L ≤ 40) (hp : p < L) (hb : ∀ i, i < L → pr i < 2 ^ 31) (h : J (nI (p + 1)) a_text a_pattern a_order a_occurs a_otherOrder (fun j => nI (zt_up r p (zt_c (fun o => pr o < pr p) L) j)) (fun j => nI (pr j)) a_nodePlace a_nodeDepth a_nodeParent a_nodeTail a_nodeBranch a_waitingNodes a_stateLength a_stateLink a_stateEnd a_stateTails a_stateBranch a_lastColumn) : ∀ d j n, j + d = L → d < n → wX_rankPairs_14 post J (nI p) (nI L) f_patternLength f_distinctFound f_longestFound f_nodeCount f_stateCount f_rowCount a_text a_pattern a_order a_occurs a_otherOrder (fun j => nI (r j)) (fun j => nI (pr j)) a_nodePlace a_nodeDepth a_nodeParent a_nodeTail a_nodeBranch a_waitingNodes a_stateLength a_stateLink a_stateEnd a_stateTails a_stateBranch a_lastColumn n (nI (zt_c (fun o => pr o < pr p) j)) (nI j) := by
  intro d
  induction d with
  | zero =>
    intro j n hj hn
    obtain ⟨n, rfl⟩ : ∃ m, n = m + 1 := ⟨n - 1, by omega⟩
    have e : j = L := by omega
    subst e
    exact br_t (nI_le (by omega) (by omega)) ⟨pk_in p 40 (by omega), nm_r (zt_upE p _ (pk_cl p) rfl) (nm_r (nI_1 p) h)⟩
  | succ d ih =>
    intro j n hj hn
    obtain ⟨n, rfl⟩ : ∃ m, n = m + 1 := ⟨n - 1, by omega⟩
    have nx := ih (j + 1) n (by omega) (by omega)
    have ep : (nI p).toNatClampNeg = p := pk_cl p
    have ej : (nI j).toNatClampNeg = j := pk_cl j
    refine br_f (nI_ge (by omega) (by omega)) ⟨pk_in j 40 (by omega), pk_in p 40 (by omega), zt_br (d := pr p ≤ pr j) ?_ (fun c => nm_r (nI_1 j) ?_) (fun c => nm_r (e' := nI (zt_c (fun o => pr o < pr p) (j + 1))) ?_ (nm_r (nI_1 j) nx))⟩
    · simp only [ep, ej]
      exact nI_leI (hb p hp) (hb j (by omega))
    · rw [zt_cf (p := fun o => pr o < pr p) (by omega)] at nx
      exact nx
    · rw [zt_ct (p := fun o => pr o < pr p) (by omega), nI_1]
theorem zt_x_rk2 {post : SX → Prop} {pr : Nat → Nat} (hL : L ≤ 40) (hb : ∀ i, i < L → pr i < 2 ^ 31) (h : ∀ r : Nat → Nat, (∀ p, p < L → r p = zt_c (fun o => pr o < pr p) L) → post (nI L, f_patternLength, f_distinctFound, f_longestFound, f_nodeCount, f_stateCount, f_rowCount, a_text, a_pattern, a_order, a_occurs, a_otherOrder, fun j => nI (r j), fun j => nI (pr j), a_nodePlace, a_nodeDepth, a_nodeParent, a_nodeTail, a_nodeBranch, a_waitingNodes, a_stateLength, a_stateLink, a_stateEnd, a_stateTails, a_stateBranch, a_lastColumn)) : ∀ d p n (r : Nat → Nat), p + d = L → d < n → (∀ q, q < p → r q = zt_c (fun o => pr o < pr q) L) → wX_rankPairs_2 post (nI L) f_patternLength f_distinctFound f_longestFound f_nodeCount f_stateCount f_rowCount n (nI p) a_text a_pattern a_order a_occurs a_otherOrder (fun j => nI (r j)) (fun j => nI (pr j)) a_nodePlace a_nodeDepth a_nodeParent a_nodeTail a_nodeBranch a_waitingNodes a_stateLength a_stateLink a_stateEnd a_stateTails a_stateBranch a_lastColumn := by
  intro d
  induction d with
  | zero =>
    intro p n r hp hn hq
    obtain ⟨n, rfl⟩ : ∃ m, n = m + 1 := ⟨n - 1, by omega⟩
    exact br_t (nI_le (by omega) (by omega)) (h r fun q hq' => hq q (by omega))
  | succ d ih =>
    intro p n r hp hn hq
    obtain ⟨n, rfl⟩ : ∃ m, n = m + 1 := ⟨n - 1, by omega⟩
    refine br_f (nI_ge (by omega) (by omega)) ⟨L + 1, zt_x_rk14 hL (by omega) hb (ih (p + 1) n _ (by omega) (by omega) (fun q hq' => ?_)) L 0 _ (by omega) (by omega)⟩
    by_cases c : q = p
    · subst c; rw [zt_us]
    · rw [zt_un _ _ c]; exact hq q (by omega)
theorem zt_x_rk {post : SX → Prop} {pr : Nat → Nat} (hL : L ≤ 40) (hb : ∀ i, i < L → pr i < 2 ^ 31) (h : ∀ r : Nat → Nat, (∀ p, p < L → r p = zt_c (fun o => pr o < pr p) L) → post (nI L, f_patternLength, f_distinctFound, f_longestFound, f_nodeCount, f_stateCount, f_rowCount, a_text, a_pattern, a_order, a_occurs, a_otherOrder, fun j => nI (r j), fun j => nI (pr j), a_nodePlace, a_nodeDepth, a_nodeParent, a_nodeTail, a_nodeBranch, a_waitingNodes, a_stateLength, a_stateLink, a_stateEnd, a_stateTails, a_stateBranch, a_lastColumn)) : wpX_rankPairs post (nI L, f_patternLength, f_distinctFound, f_longestFound, f_nodeCount, f_stateCount, f_rowCount, a_text, a_pattern, a_order, a_occurs, a_otherOrder, a_rank, fun j => nI (pr j), a_nodePlace, a_nodeDepth, a_nodeParent, a_nodeTail, a_nodeBranch, a_waitingNodes, a_stateLength, a_stateLink, a_stateEnd, a_stateTails, a_stateBranch, a_lastColumn) := by
  obtain ⟨r, rfl⟩ := zt_arr a_rank
  exact ⟨L + 1, zt_x_rk2 hL hb h L 0 _ r (by omega) (by omega) (fun q hq => by omega)⟩
theorem zt_x_sd56 {post : SX → Prop} {r : Nat → Nat} (hL : L ≤ 40) (hr : ∀ i, i < L → r i = zt_r (zt_g t L) L i) (h : ∀ o, zt_O (zt_g t L) L o → post (nI L, f_patternLength, f_distinctFound, f_longestFound, f_nodeCount, f_stateCount, f_rowCount, a_text, a_pattern, fun j => nI (o j), a_occurs, a_otherOrder, fun j => nI (r j), a_pairRank, a_nodePlace, a_nodeDepth, a_nodeParent, a_nodeTail, a_nodeBranch, a_waitingNodes, a_stateLength, a_stateLink, a_stateEnd, a_stateTails, a_stateBranch, a_lastColumn)) : ∀ d p n (o : Nat → Nat), p + d = L → d < n → (∀ q, q < p → o (r q) = q) → wX_sortByDoubling_56 post (nI L) f_patternLength f_distinctFound f_longestFound f_nodeCount f_stateCount f_rowCount n (nI p) a_text a_pattern (fun j => nI (o j)) a_occurs a_otherOrder (fun j => nI (r j)) a_pairRank a_nodePlace a_nodeDepth a_nodeParent a_nodeTail a_nodeBranch a_waitingNodes a_stateLength a_stateLink a_stateEnd a_stateTails a_stateBranch a_lastColumn := by
  have hz := zt_g_Z t L
  intro d
  induction d with
  | zero =>
    intro p n o hp hn hq
    obtain ⟨n, rfl⟩ : ∃ m, n = m + 1 := ⟨n - 1, by omega⟩
    refine br_t (nI_le (by omega) (by omega)) (h o (zt_O_of2 hz fun i hi => ?_))
    rw [← hr i hi]; exact hq i (by omega)
  | succ d ih =>
    intro p n o hp hn hq
    obtain ⟨n, rfl⟩ : ∃ m, n = m + 1 := ⟨n - 1, by omega⟩
    have ep : (nI p).toNatClampNeg = p := pk_cl p
    have b := zt_r_lt (g := zt_g t L) (n := L) (i := p) (by omega)
    rw [← hr p (by omega)] at b
    refine br_f (nI_ge (by omega) (by omega)) ⟨pk_in p 40 (by omega), ?_⟩
    simp only [ep]
    refine ⟨pk_in (r p) 40 (by omega), nm_r (zt_upE (r p) p (pk_cl (r p)) rfl) (nm_r (nI_1 p) (ih (p + 1) n _ (by omega) (by omega) (fun q hq' => ?_)))⟩
    by_cases c : q = p
    · subst c; rw [zt_us]
    · have ne : r q ≠ r p := fun e => c (zt_r_inj hz (by omega) (by omega) (by rw [← hr q (by omega), ← hr p (by omega)]; exact e))
      rw [zt_un _ _ ne]
      exact hq q (by omega)
theorem zt_x_sd30 {post : SX → Prop} (hL : L ≤ 40) (h : ∀ r pr o : Nat → Nat, (∀ i, i < L → r i = zt_r (zt_g t L) L i) → zt_O (zt_g t L) L o → post (nI L, f_patternLength, f_distinctFound, f_longestFound, f_nodeCount, f_stateCount, f_rowCount, a_text, a_pattern, fun j => nI (o j), a_occurs, a_otherOrder, fun j => nI (r j), fun j => nI (pr j), a_nodePlace, a_nodeDepth, a_nodeParent, a_nodeTail, a_nodeBranch, a_waitingNodes, a_stateLength, a_stateLink, a_stateEnd, a_stateTails, a_stateBranch, a_lastColumn)) : ∀ n w (r pr : Nat → Nat), L + 1 - w < n → 0 < w → w ≤ 80 → zt_DI (zt_g t L) L w r → wX_sortByDoubling_30 post n (nI w) (nI L) f_patternLength f_distinctFound f_longestFound f_nodeCount f_stateCount f_rowCount a_text a_pattern a_order a_occurs a_otherOrder (fun j => nI (r j)) (fun j => nI (pr j)) a_nodePlace a_nodeDepth a_nodeParent a_nodeTail a_nodeBranch a_waitingNodes a_stateLength a_stateLink a_stateEnd a_stateTails a_stateBranch a_lastColumn := by
  have hz := zt_g_Z t L
  intro n
  induction n with
  | zero => intro w r pr hn; omega
  | succ n ih =>
    intro w r pr hn w0 w80 hD
    refine pk_lt L w (fun c => ?_) (fun c => ?_)
    · obtain ⟨o, rfl⟩ := zt_arr a_order
      exact ⟨L + 1, zt_x_sd56 hL (hD.2.2 c) (fun o' hO => h r pr o' (hD.2.2 c) hO) L 0 _ o (by omega) (by omega) (fun q hq => by omega)⟩
    · refine zt_x_pr hL (by omega) hD.2.1 (fun pr' hp => zt_x_rk hL (fun i hi => ?_) (fun r' hr' => nm_r (e' := nI (w * 2)) ?_ (ih (w * 2) r' pr' (by omega) (by omega) (by omega) (zt_DI_1 hz hL w0 hD hp hr'))))
      · rw [hp i hi]
        have a := hD.2.1 i hi
        unfold zt_2
        split
        · have := hD.2.1 (i + w) (by assumption); omega
        · omega
      · rw [show (2 : Int32) = nI 2 from rfl, pk_mul]
theorem zt_x_sd2 {post : SX → Prop} (hL : L ≤ 40) (h4 : ∀ i, t i < 4) (h : ∀ r pr o : Nat → Nat, (∀ i, i < L → r i = zt_r (zt_g t L) L i) → zt_O (zt_g t L) L o → post (nI L, f_patternLength, f_distinctFound, f_longestFound, f_nodeCount, f_stateCount, f_rowCount, fun j => nI (t j), a_pattern, fun j => nI (o j), a_occurs, a_otherOrder, fun j => nI (r j), fun j => nI (pr j), a_nodePlace, a_nodeDepth, a_nodeParent, a_nodeTail, a_nodeBranch, a_waitingNodes, a_stateLength, a_stateLink, a_stateEnd, a_stateTails, a_stateBranch, a_lastColumn)) : ∀ d p n (r : Nat → Nat), p + d = L → d < n → (∀ q, q < p → r q = t q) → wX_sortByDoubling_2 post (nI L) f_patternLength f_distinctFound f_longestFound f_nodeCount f_stateCount f_rowCount n (nI p) (fun j => nI (t j)) a_pattern a_order a_occurs a_otherOrder (fun j => nI (r j)) a_pairRank a_nodePlace a_nodeDepth a_nodeParent a_nodeTail a_nodeBranch a_waitingNodes a_stateLength a_stateLink a_stateEnd a_stateTails a_stateBranch a_lastColumn := by
  intro d
  induction d with
  | zero =>
    intro p n r hp hn hq
    obtain ⟨n, rfl⟩ : ∃ m, n = m + 1 := ⟨n - 1, by omega⟩
    obtain ⟨pr, rfl⟩ := zt_arr a_pairRank
    refine br_t (nI_le (by omega) (by omega)) ⟨L + 1, zt_x_sd30 (t := t) hL h (L + 1) 1 r pr (by omega) (by omega) (by omega) ⟨zt_K_0 fun i hi => ?_, fun i hi => ?_, fun hc i hi => by omega⟩⟩
    · rw [hq i (by omega), zt_g_lt hi]
    · rw [hq i (by omega)]; have := h4 i; omega
  | succ d ih =>
    intro p n r hp hn hq
    obtain ⟨n, rfl⟩ : ∃ m, n = m + 1 := ⟨n - 1, by omega⟩
    have ep : (nI p).toNatClampNeg = p := pk_cl p
    refine br_f (nI_ge (by omega) (by omega)) ⟨pk_in p 40 (by omega), pk_in p 40 (by omega), nm_r (zt_upE p (t p) ep ?_) (nm_r (nI_1 p) (ih (p + 1) n _ (by omega) (by omega) (fun q hq' => ?_)))⟩
    · simp only [ep]
    · by_cases c : q = p
      · subst c; rw [zt_us]
      · rw [zt_un _ _ c]; exact hq q (by omega)
theorem zt_x_sd {post : SX → Prop} (hL : L ≤ 40) (h4 : ∀ i, t i < 4) (h : ∀ r pr o : Nat → Nat, (∀ i, i < L → r i = zt_r (zt_g t L) L i) → zt_O (zt_g t L) L o → post (nI L, f_patternLength, f_distinctFound, f_longestFound, f_nodeCount, f_stateCount, f_rowCount, fun j => nI (t j), a_pattern, fun j => nI (o j), a_occurs, a_otherOrder, fun j => nI (r j), fun j => nI (pr j), a_nodePlace, a_nodeDepth, a_nodeParent, a_nodeTail, a_nodeBranch, a_waitingNodes, a_stateLength, a_stateLink, a_stateEnd, a_stateTails, a_stateBranch, a_lastColumn)) : wpX_sortByDoubling post (nI L, f_patternLength, f_distinctFound, f_longestFound, f_nodeCount, f_stateCount, f_rowCount, fun j => nI (t j), a_pattern, a_order, a_occurs, a_otherOrder, a_rank, a_pairRank, a_nodePlace, a_nodeDepth, a_nodeParent, a_nodeTail, a_nodeBranch, a_waitingNodes, a_stateLength, a_stateLink, a_stateEnd, a_stateTails, a_stateBranch, a_lastColumn) := by
  obtain ⟨r, rfl⟩ := zt_arr a_rank
  exact ⟨L + 1, zt_x_sd2 hL h4 h L 0 _ r (by omega) (by omega) (fun q hq => by omega)⟩
end
end
section
/-! engine 1: measures, the pattern by halving; engine 0: the pattern by letters -/
theorem zt_kn_le {g : Nat → Nat} {L : Nat} {o : Nat → Nat} (hO : zt_O g L o) {i : Nat} (hi : i < L) : i + zt_kn g L o i ≤ L := by
  unfold zt_kn
  split
  · omega
  · have r1 := zt_r_lt (g := g) hi
    have a := (hO (zt_r g L i - 1) (by omega)).1
    have := zt_N_j (g := g) (L := L) (i := o (zt_r g L i - 1)) (j := i) (by omega) (by omega)
    omega
theorem zt_kn_1 {g : Nat → Nat} {L : Nat} {o : Nat → Nat} (hz : zt_Z g L) (hO : zt_O g L o) {i : Nat} (hi : i + 1 < L) (hr : zt_r g L (i + 1) ≠ 0) : zt_kn g L o i - 1 ≤ zt_N g L (o (zt_r g L (i + 1) - 1)) (i + 1) := by
  by_cases c : zt_kn g L o i ≤ 1
  · omega
  · unfold zt_kn at c ⊢
    split at c
    · omega
    · rename_i z
      rw [if_neg z]
      exact (zt_kasai hz hO hi (by omega) (by omega)).2
section
variable {f_length f_patternLength f_distinctFound f_longestFound f_nodeCount f_stateCount f_rowCount : Int32} {a_text a_pattern a_order a_occurs a_otherOrder a_rank a_pairRank a_nodePlace a_nodeDepth a_nodeParent a_nodeTail a_nodeBranch a_waitingNodes a_stateLength a_stateLink a_stateEnd a_stateTails a_stateBranch a_lastColumn : Nat → Int32}
variable {t pat : Nat → Nat} {L m : Nat}
theorem zt_x_mp41 {post : SX → Prop} {J : _} {p z S w : Nat} (hL : L ≤ 40) (hp : p < L) (hz : p + z ≤ L) (hw : w ≤ L) (h : J (nI (z - 1)) (nI (p + 1)) (nI L) f_patternLength (nI (S + (L - p - z))) (nI (if w < z then z else w)) f_nodeCount f_stateCount f_rowCount a_text a_pattern a_order a_occurs a_otherOrder a_rank a_pairRank a_nodePlace a_nodeDepth a_nodeParent a_nodeTail a_nodeBranch a_waitingNodes a_stateLength a_stateLink a_stateEnd a_stateTails a_stateBranch a_lastColumn) : wX_measurePlaces_41 post J (nI p) (nI z) (nI L) f_patternLength (nI S) (nI w) f_nodeCount f_stateCount f_rowCount a_text a_pattern a_order a_occurs a_otherOrder a_rank a_pairRank a_nodePlace a_nodeDepth a_nodeParent a_nodeTail a_nodeBranch a_waitingNodes a_stateLength a_stateLink a_stateEnd a_stateTails a_stateBranch a_lastColumn := by
  refine nm_r (e' := nI (S + (L - p - z))) (by rw [pk_sub (by omega), pk_sub (by omega), nI_add]) (zt_x_nl (by omega) (by omega) (pk_le z 0 (fun c => nm_r (nI_1 p) ?_) (fun c => nm_r (e' := nI (z - 1)) ?_ (nm_r (nI_1 p) h))))
  · have e : z = 0 := by omega
    subst e
    exact h
  · exact pk_sub (b := 1) (by omega)
theorem zt_x_mp4 {post : SX → Prop} {r o : Nat → Nat} (hL : L ≤ 40) (h4 : ∀ i, t i < 4) (hr : ∀ i, i < L → r i = zt_r (zt_g t L) L i) (hO : zt_O (zt_g t L) L o) (h : post (nI L, f_patternLength, nI (zt_D (zt_g t L) L (fun i => i)), nI (zt_m (zt_kn (zt_g t L) L o) L), f_nodeCount, f_stateCount, f_rowCount, fun j => nI (t j), a_pattern, fun j => nI (o j), a_occurs, a_otherOrder, fun j => nI (r j), a_pairRank, a_nodePlace, a_nodeDepth, a_nodeParent, a_nodeTail, a_nodeBranch, a_waitingNodes, a_stateLength, a_stateLink, a_stateEnd, a_stateTails, a_stateBranch, a_lastColumn)) : ∀ d p n, p + d = L → d < n → wX_measurePlaces_4 post n (nI (if p = 0 then 0 else zt_kn (zt_g t L) L o (p - 1) - 1)) (nI p) (nI L) f_patternLength (nI (zt_s (fun i => L - i - zt_kn (zt_g t L) L o i) p)) (nI (zt_m (zt_kn (zt_g t L) L o) p)) f_nodeCount f_stateCount f_rowCount (fun j => nI (t j)) a_pattern (fun j => nI (o j)) a_occurs a_otherOrder (fun j => nI (r j)) a_pairRank a_nodePlace a_nodeDepth a_nodeParent a_nodeTail a_nodeBranch a_waitingNodes a_stateLength a_stateLink a_stateEnd a_stateTails a_stateBranch a_lastColumn := by
  have hz := zt_g_Z t L
  intro d
  induction d with
  | zero =>
    intro p n hp hn
    obtain ⟨n, rfl⟩ : ∃ m, n = m + 1 := ⟨n - 1, by omega⟩
    have e : p = L := by omega
    subst e
    refine br_t (nI_le (Nat.le_refl _) (by omega)) ?_
    have e := zt_D_places hz hO
    have e2 : zt_s (fun i => p - i - zt_kn (zt_g t p) p o i) p = zt_D (zt_g t p) p (fun i => i) := e.trans (zt_D_eq (fun i j hi hj e => zt_r_inj hz hi hj e) (fun i j _ _ e => e))
    rw [e2]
    exact h
  | succ d ih =>
    intro p n hp hn
    obtain ⟨n, rfl⟩ : ∃ m, n = m + 1 := ⟨n - 1, by omega⟩
    have nx := ih (p + 1) n (by omega) (by omega)
    rw [if_neg (by omega), Nat.add_sub_cancel, zt_s1, zt_m1] at nx
    have b := zt_kn_le hO (i := p) (by omega)
    have b2 : zt_m (zt_kn (zt_g t L) L o) p ≤ L := zt_m_le fun i hi => by
      have := zt_kn_le hO (i := i) (by omega)
      omega
    have r1 := zt_r_lt (g := zt_g t L) (n := L) (i := p) (by omega)
    have ep : (nI p).toNatClampNeg = p := pk_cl p
    have nx2 := zt_x_mp41 (post := post) (p := p) hL (by omega) b b2 nx
    refine br_f (nI_ge (by omega) (by omega)) ⟨pk_in p 40 (by omega), nm_r (e' := nI (zt_r (zt_g t L) L p)) (by simp only [ep]; rw [hr p (by omega)]) (pk_eq (zt_r (zt_g t L) L p) 0 (fun c => ?_) (fun c => ?_))⟩
    · have e : zt_kn (zt_g t L) L o p = 0 := by unfold zt_kn; rw [if_pos c]
      rw [e] at nx2
      exact nx2
    · have er : nI (zt_r (zt_g t L) L p) - 1 = nI (zt_r (zt_g t L) L p - 1) := pk_sub (b := 1) (by omega)
      have ec : (nI (zt_r (zt_g t L) L p) - 1).toNatClampNeg = zt_r (zt_g t L) L p - 1 := pk_cl _ er
      have a := (hO (zt_r (zt_g t L) L p - 1) (by omega)).1
      refine ⟨pk_in (zt_r (zt_g t L) L p - 1) 40 (by omega) er, ?_⟩
      simp only [ec]
      have e : zt_kn (zt_g t L) L o p = zt_N (zt_g t L) L (o (zt_r (zt_g t L) L p - 1)) p := by unfold zt_kn; rw [if_neg c]
      refine zt_x_sl _ hL (by omega) (by omega) h4 ?_ ?_
      · split
        · exact Nat.zero_le _
        · obtain ⟨p', rfl⟩ : ∃ p', p = p' + 1 := ⟨p - 1, by omega⟩
          rw [Nat.add_sub_cancel]
          exact zt_kn_1 hz hO (by omega) c
      · rw [← e]
        exact nx2
theorem zt_x_mp {post : SX → Prop} {r o : Nat → Nat} (hL : L ≤ 40) (h4 : ∀ i, t i < 4) (hr : ∀ i, i < L → r i = zt_r (zt_g t L) L i) (hO : zt_O (zt_g t L) L o) (h : ∀ G, zt_G (zt_g t L) L G → post (nI L, f_patternLength, nI (zt_D (zt_g t L) L (fun i => i)), nI G, f_nodeCount, f_stateCount, f_rowCount, fun j => nI (t j), a_pattern, fun j => nI (o j), a_occurs, a_otherOrder, fun j => nI (r j), a_pairRank, a_nodePlace, a_nodeDepth, a_nodeParent, a_nodeTail, a_nodeBranch, a_waitingNodes, a_stateLength, a_stateLink, a_stateEnd, a_stateTails, a_stateBranch, a_lastColumn)) : wpX_measurePlaces post (nI L, f_patternLength, 0, 0, f_nodeCount, f_stateCount, f_rowCount, fun j => nI (t j), a_pattern, fun j => nI (o j), a_occurs, a_otherOrder, fun j => nI (r j), a_pairRank, a_nodePlace, a_nodeDepth, a_nodeParent, a_nodeTail, a_nodeBranch, a_waitingNodes, a_stateLength, a_stateLink, a_stateEnd, a_stateTails, a_stateBranch, a_lastColumn) :=
  ⟨L + 1, zt_x_mp4 hL h4 hr hO (h _ (zt_G_mp (zt_g_Z t L) hO)) L 0 _ (by omega) (by omega)⟩
/-- a tail against the pattern -/
theorem zt_x_cp2 {post : Int32 → Prop} {i : Nat} (hL : L ≤ 40) (hm : m ≤ 10) (hi : i ≤ L) (h4 : ∀ i, t i < 4) (p4 : ∀ i, pat i < 4) (h1 : zt_lo (zt_g t L) pat m i → ∀ r : Int32, r < 0 → post r) (h2 : zt_oc (zt_g t L) pat m i → post 0) (h3 : zt_hi (zt_g t L) pat m i → ∀ r : Int32, 0 < r → post r) : ∀ d s n, s + d = m → d < n → (∀ q, q < s → zt_g t L (i + q) = pat q + 1) → wX_compareToPattern_2 post (nI i) (nI L) (nI m) f_distinctFound f_longestFound f_nodeCount f_stateCount f_rowCount (fun j => nI (t j)) (fun j => nI (pat j)) a_order a_occurs a_otherOrder a_rank a_pairRank a_nodePlace a_nodeDepth a_nodeParent a_nodeTail a_nodeBranch a_waitingNodes a_stateLength a_stateLink a_stateEnd a_stateTails a_stateBranch a_lastColumn n (nI s) := by
  intro d
  induction d with
  | zero =>
    intro s n hs hn hq
    obtain ⟨n, rfl⟩ : ∃ m, n = m + 1 := ⟨n - 1, by omega⟩
    have e : s = m := by omega
    subst e
    exact br_t (nI_le (Nat.le_refl _) (by omega)) (h2 hq)
  | succ d ih =>
    intro s n hs hn hq
    obtain ⟨n, rfl⟩ : ∃ m, n = m + 1 := ⟨n - 1, by omega⟩
    have ei : (nI i + nI s).toNatClampNeg = i + s := pk_cl (i + s) (nI_add i s)
    have es : (nI s).toNatClampNeg = s := pk_cl s
    refine br_f (nI_ge (by omega) (by omega)) (pk_lt (i + s) L (fun c => ⟨pk_in (i + s) 40 (by omega) (nI_add i s), pk_in s 10 (by omega), nm_r (e' := nI (t (i + s)) - nI (pat s)) (by simp only [ei, es]) ?_⟩) (fun c => h1 ⟨s, by omega, hq, ?_⟩ _ (by decide)) (nI_add i s) rfl)
    · have a := h4 (i + s)
      have b := p4 s
      by_cases e : t (i + s) = pat s
      · refine br_t (by rw [e, pk_sub (Nat.le_refl _), Nat.sub_self]; rfl) (nm_r (nI_1 s) (ih (s + 1) n (by omega) (by omega) (fun q hq' => ?_)))
        by_cases z : q = s
        · subst z; rw [zt_g_lt c, e]
        · exact hq q (by omega)
      · by_cases f : t (i + s) < pat s
        · have ng := pk_sneg (a := t (i + s)) (b := pat s) (by omega) f
          refine br_f (fun z => ?_) (h1 ⟨s, by omega, hq, by rw [zt_g_lt c]; omega⟩ _ ng)
          rw [z] at ng
          exact absurd ng (by decide)
        · have e2 : nI (t (i + s)) - nI (pat s) = nI (t (i + s) - pat s) := pk_sub (by omega)
          rw [e2]
          exact br_f (nI_ne0 (by omega) (by omega)) (h3 ⟨s, by omega, hq, by rw [zt_g_lt c]; omega⟩ _ (nI_lt (a := 0) (by omega) (by omega)))
    · rw [zt_g_ge c]; omega
theorem zt_x_cp {post : Int32 → Prop} {i : Nat} (hL : L ≤ 40) (hm : m ≤ 10) (hi : i ≤ L) (h4 : ∀ i, t i < 4) (p4 : ∀ i, pat i < 4) (h1 : zt_lo (zt_g t L) pat m i → ∀ r : Int32, r < 0 → post r) (h2 : zt_oc (zt_g t L) pat m i → post 0) (h3 : zt_hi (zt_g t L) pat m i → ∀ r : Int32, 0 < r → post r) : wpX_compareToPattern post (nI L, nI m, f_distinctFound, f_longestFound, f_nodeCount, f_stateCount, f_rowCount, fun j => nI (t j), fun j => nI (pat j), a_order, a_occurs, a_otherOrder, a_rank, a_pairRank, a_nodePlace, a_nodeDepth, a_nodeParent, a_nodeTail, a_nodeBranch, a_waitingNodes, a_stateLength, a_stateLink, a_stateEnd, a_stateTails, a_stateBranch, a_lastColumn) (nI i) :=
  ⟨m + 1, zt_x_cp2 hL hm hi h4 p4 h1 h2 h3 m 0 _ (by omega) (by omega) (fun q hq => by omega)⟩
theorem zt_x_ml2 {post : SX → Prop} (hL : L ≤ 40) (hm : m ≤ 10) (h4 : ∀ i, t i < 4) (p4 : ∀ i, pat i < 4) (h : ∀ f : Nat → Nat, zt_mk1 (zt_oc (zt_g t L) pat m) L f → post (nI L, nI m, f_distinctFound, f_longestFound, f_nodeCount, f_stateCount, f_rowCount, fun j => nI (t j), fun j => nI (pat j), a_order, fun j => nI (f j), a_otherOrder, a_rank, a_pairRank, a_nodePlace, a_nodeDepth, a_nodeParent, a_nodeTail, a_nodeBranch, a_waitingNodes, a_stateLength, a_stateLink, a_stateEnd, a_stateTails, a_stateBranch, a_lastColumn)) : ∀ d p n (f : Nat → Nat), p + d = L → d < n → (∀ i, i < p → (zt_oc (zt_g t L) pat m i → f i = 1) ∧ (¬ zt_oc (zt_g t L) pat m i → f i = 0)) → wX_markByLetters_2 post (nI L) (nI m) f_distinctFound f_longestFound f_nodeCount f_stateCount f_rowCount n (nI p) (fun j => nI (t j)) (fun j => nI (pat j)) a_order (fun j => nI (f j)) a_otherOrder a_rank a_pairRank a_nodePlace a_nodeDepth a_nodeParent a_nodeTail a_nodeBranch a_waitingNodes a_stateLength a_stateLink a_stateEnd a_stateTails a_stateBranch a_lastColumn := by
  intro d
  induction d with
  | zero =>
    intro p n f hp hn hq
    obtain ⟨n, rfl⟩ : ∃ m, n = m + 1 := ⟨n - 1, by omega⟩
    exact br_t (nI_le (by omega) (by omega)) (h f fun i hi => hq i (by omega))
  | succ d ih =>
    intro p n f hp hn hq
    obtain ⟨n, rfl⟩ : ∃ m, n = m + 1 := ⟨n - 1, by omega⟩
    have s1 : zt_oc (zt_g t L) pat m p → wX_markByLetters_2 post (nI L) (nI m) f_distinctFound f_longestFound f_nodeCount f_stateCount f_rowCount n (nI (p + 1)) (fun j => nI (t j)) (fun j => nI (pat j)) a_order (fun j => nI (zt_up f p 1 j)) a_otherOrder a_rank a_pairRank a_nodePlace a_nodeDepth a_nodeParent a_nodeTail a_nodeBranch a_waitingNodes a_stateLength a_stateLink a_stateEnd a_stateTails a_stateBranch a_lastColumn := fun c => ih (p + 1) n _ (by omega) (by omega) (fun i hi => by
      by_cases e : i = p
      · subst e; rw [zt_us]; exact ⟨fun _ => rfl, fun x => absurd c x⟩
      · rw [zt_un _ _ e]; exact hq i (by omega))
    have s0 : ¬ zt_oc (zt_g t L) pat m p → wX_markByLetters_2 post (nI L) (nI m) f_distinctFound f_longestFound f_nodeCount f_stateCount f_rowCount n (nI (p + 1)) (fun j => nI (t j)) (fun j => nI (pat j)) a_order (fun j => nI (zt_up f p 0 j)) a_otherOrder a_rank a_pairRank a_nodePlace a_nodeDepth a_nodeParent a_nodeTail a_nodeBranch a_waitingNodes a_stateLength a_stateLink a_stateEnd a_stateTails a_stateBranch a_lastColumn := fun c => ih (p + 1) n _ (by omega) (by omega) (fun i hi => by
      by_cases e : i = p
      · subst e; rw [zt_us]; exact ⟨fun x => absurd x c, fun _ => rfl⟩
      · rw [zt_un _ _ e]; exact hq i (by omega))
    refine br_f (nI_ge (by omega) (by omega)) (zt_x_cp hL hm (by omega) h4 p4 (fun c r hr => br_f (fun z => ?_) ⟨pk_in p 40 (by omega), nm_r (zt_upE p 0 (pk_cl p) zt_b0) (nm_r (nI_1 p) (s0 (fun x => zt_lo_oc c x)))⟩) (fun c => br_t rfl ⟨pk_in p 40 (by omega), nm_r (zt_upE p 1 (pk_cl p) zt_b1) (nm_r (nI_1 p) (s1 c))⟩) (fun c r hr => br_f (fun z => ?_) ⟨pk_in p 40 (by omega), nm_r (zt_upE p 0 (pk_cl p) zt_b0) (nm_r (nI_1 p) (s0 (fun x => zt_hi_oc c x)))⟩))
    · rw [z] at hr; exact absurd hr (by decide)
    · rw [z] at hr; exact absurd hr (by decide)
theorem zt_x_ml {post : SX → Prop} (hL : L ≤ 40) (hm : m ≤ 10) (h4 : ∀ i, t i < 4) (p4 : ∀ i, pat i < 4) (h : ∀ f : Nat → Nat, zt_mk1 (zt_oc (zt_g t L) pat m) L f → post (nI L, nI m, f_distinctFound, f_longestFound, f_nodeCount, f_stateCount, f_rowCount, fun j => nI (t j), fun j => nI (pat j), a_order, fun j => nI (f j), a_otherOrder, a_rank, a_pairRank, a_nodePlace, a_nodeDepth, a_nodeParent, a_nodeTail, a_nodeBranch, a_waitingNodes, a_stateLength, a_stateLink, a_stateEnd, a_stateTails, a_stateBranch, a_lastColumn)) : wpX_markByLetters post (nI L, nI m, f_distinctFound, f_longestFound, f_nodeCount, f_stateCount, f_rowCount, fun j => nI (t j), fun j => nI (pat j), a_order, a_occurs, a_otherOrder, a_rank, a_pairRank, a_nodePlace, a_nodeDepth, a_nodeParent, a_nodeTail, a_nodeBranch, a_waitingNodes, a_stateLength, a_stateLink, a_stateEnd, a_stateTails, a_stateBranch, a_lastColumn) := by
  obtain ⟨f, rfl⟩ := zt_arr a_occurs
  exact ⟨L + 1, zt_x_ml2 hL hm h4 p4 h L 0 _ f (by omega) (by omega) (fun q hq => by omega)⟩
/-- halving -/
theorem zt_x_fr10 {post : Int32 → Prop} {bd : Int32} {o : Nat → Nat} {P : Nat → Prop} (hL : L ≤ 40) (hP : ∀ a b, a < b → b < L → P b → P a) (hc : ∀ a, a < L → ∀ post' : Int32 → Prop, (P a → ∀ r : Int32, ¬ bd ≤ r → post' r) → (¬ P a → ∀ r : Int32, bd ≤ r → post' r) → wpX_compareToPattern post' (nI L, f_patternLength, f_distinctFound, f_longestFound, f_nodeCount, f_stateCount, f_rowCount, a_text, a_pattern, fun j => nI (o j), a_occurs, a_otherOrder, a_rank, a_pairRank, a_nodePlace, a_nodeDepth, a_nodeParent, a_nodeTail, a_nodeBranch, a_waitingNodes, a_stateLength, a_stateLink, a_stateEnd, a_stateTails, a_stateBranch, a_lastColumn) (nI (o a))) (h : ∀ k, k ≤ L → (∀ a, a < L → (P a ↔ a < k)) → post (nI k)) : ∀ n lo hi st, L - st < n → lo ≤ hi → hi ≤ L → hi + st ≤ L + lo → (∀ a, a < lo → P a) → (∀ a, hi ≤ a → a < L → ¬ P a) → wX_firstRowNotBelow_10 post bd (nI L) f_patternLength f_distinctFound f_longestFound f_nodeCount f_stateCount f_rowCount a_text a_pattern (fun j => nI (o j)) a_occurs a_otherOrder a_rank a_pairRank a_nodePlace a_nodeDepth a_nodeParent a_nodeTail a_nodeBranch a_waitingNodes a_stateLength a_stateLink a_stateEnd a_stateTails a_stateBranch a_lastColumn n (nI lo) (nI hi) (nI st) := by
  intro n
  induction n with
  | zero => intro lo hi st hn; omega
  | succ n ih =>
    intro lo hi st hn h1 h2 h3 h5 h6
    have fin : hi ≤ lo → post (nI lo) := fun c => h lo (by omega) (fun a ha => ⟨fun x => Classical.byContradiction fun y => h6 a (by omega) ha x, h5 a⟩)
    refine pk_le L st (fun c => fin (by omega)) (fun c => pk_le hi lo (fun c2 => fin c2) (fun c2 => ⟨by decide, nm_r (e' := nI ((lo + hi) / 2)) ?_ ⟨pk_in ((lo + hi) / 2) 40 (by omega), ?_⟩⟩))
    · rw [nI_add]; exact pk_div (d := 2) (by omega) (by omega) (by omega)
    · simp only [pk_cl ((lo + hi) / 2)]
      refine hc ((lo + hi) / 2) (by omega) _ (fun p r hr => br_f hr (nm_r (nI_1 _) (nm_r (nI_1 st) (ih _ _ _ (by omega) (by omega) (by omega) (by omega) (fun a ha => ?_) h6)))) (fun p r hr => br_t hr (nm_r (nI_1 st) (ih _ _ _ (by omega) (by omega) (by omega) (by omega) h5 (fun a ha haL pa => ?_))))
      · by_cases z : a = (lo + hi) / 2
        · rw [z]; exact p
        · exact hP a ((lo + hi) / 2) (by omega) (by omega) p
      · by_cases z : a = (lo + hi) / 2
        · rw [z] at pa; exact p pa
        · exact p (hP ((lo + hi) / 2) a (by omega) haL pa)
theorem zt_x_mh14 {post : SX → Prop} {o : Nat → Nat} {k0 k1 : Nat} (hL : L ≤ 40) (hk : k1 ≤ L) (hO : ∀ a, a < L → o a < L) {S : Nat → Prop} (hS : ∀ i, i < L → (S i ↔ ∃ a, k0 ≤ a ∧ a < k1 ∧ o a = i)) (h : ∀ f : Nat → Nat, zt_mk1 S L f → post (nI L, f_patternLength, f_distinctFound, f_longestFound, f_nodeCount, f_stateCount, f_rowCount, a_text, a_pattern, fun j => nI (o j), fun j => nI (f j), a_otherOrder, a_rank, a_pairRank, a_nodePlace, a_nodeDepth, a_nodeParent, a_nodeTail, a_nodeBranch, a_waitingNodes, a_stateLength, a_stateLink, a_stateEnd, a_stateTails, a_stateBranch, a_lastColumn)) : ∀ d p n (f : Nat → Nat), p + d = k1 → d < n → k0 ≤ p → zt_mk1 (fun i => ∃ a, k0 ≤ a ∧ a < p ∧ o a = i) L f → wX_markByHalving_14 post (nI k1) (nI L) f_patternLength f_distinctFound f_longestFound f_nodeCount f_stateCount f_rowCount n (nI p) a_text a_pattern (fun j => nI (o j)) (fun j => nI (f j)) a_otherOrder a_rank a_pairRank a_nodePlace a_nodeDepth a_nodeParent a_nodeTail a_nodeBranch a_waitingNodes a_stateLength a_stateLink a_stateEnd a_stateTails a_stateBranch a_lastColumn := by
  intro d
  induction d with
  | zero =>
    intro p n f hp hn hk0 hf
    obtain ⟨n, rfl⟩ : ∃ m, n = m + 1 := ⟨n - 1, by omega⟩
    have e : p = k1 := by omega
    subst e
    exact br_t (nI_le (Nat.le_refl _) (by omega)) (h f (zt_mk1_c hf hS))
  | succ d ih =>
    intro p n f hp hn hk0 hf
    obtain ⟨n, rfl⟩ : ∃ m, n = m + 1 := ⟨n - 1, by omega⟩
    have ep : (nI p).toNatClampNeg = p := pk_cl p
    have b := hO p (by omega)
    refine br_f (nI_ge (by omega) (by omega)) ⟨pk_in p 40 (by omega), ?_⟩
    simp only [ep]
    refine ⟨pk_in (o p) 40 (by omega), nm_r (zt_upE (o p) 1 (pk_cl (o p)) zt_b1) (nm_r (nI_1 p) (ih (p + 1) n _ (by omega) (by omega) (by omega) (zt_mk1_1 hf (fun i hi => ?_))))⟩
    constructor
    · rintro ⟨a, a1, a2, a3⟩
      by_cases z : a = p
      · subst z; exact Or.inr a3.symm
      · exact Or.inl ⟨a, a1, by omega, a3⟩
    · rintro (⟨a, a1, a2, a3⟩ | z)
      · exact ⟨a, a1, by omega, a3⟩
      · exact ⟨p, hk0, by omega, z.symm⟩
theorem zt_x_mh {post : SX → Prop} {o f : Nat → Nat} (hL : L ≤ 40) (hm : m ≤ 10) (h4 : ∀ i, t i < 4) (p4 : ∀ i, pat i < 4) (hO : zt_O (zt_g t L) L o) (hf : ∀ i, i < L → f i = 0) (h : ∀ f : Nat → Nat, zt_mk1 (zt_oc (zt_g t L) pat m) L f → post (nI L, nI m, f_distinctFound, f_longestFound, f_nodeCount, f_stateCount, f_rowCount, fun j => nI (t j), fun j => nI (pat j), fun j => nI (o j), fun j => nI (f j), a_otherOrder, a_rank, a_pairRank, a_nodePlace, a_nodeDepth, a_nodeParent, a_nodeTail, a_nodeBranch, a_waitingNodes, a_stateLength, a_stateLink, a_stateEnd, a_stateTails, a_stateBranch, a_lastColumn)) : wpX_markByHalving post (nI L, nI m, f_distinctFound, f_longestFound, f_nodeCount, f_stateCount, f_rowCount, fun j => nI (t j), fun j => nI (pat j), fun j => nI (o j), fun j => nI (f j), a_otherOrder, a_rank, a_pairRank, a_nodePlace, a_nodeDepth, a_nodeParent, a_nodeTail, a_nodeBranch, a_waitingNodes, a_stateLength, a_stateLink, a_stateEnd, a_stateTails, a_stateBranch, a_lastColumn) := by
  have hz := zt_g_Z t L
  have oL : ∀ a, a < L → o a < L := fun a ha => (hO a ha).1
  unfold wpX_markByHalving
  refine ⟨L + 1, zt_x_fr10 (P := fun a => zt_lo (zt_g t L) pat m (o a)) hL (fun a b hab hb => zt_lo_dn ((zt_O_T hz hO (by omega) hb).2 hab)) (fun a ha post' q1 q2 => zt_x_cp hL hm (by have := oL a ha; omega) h4 p4 (fun c r hr => q1 c r (Int32.not_le.mpr hr)) (fun c => q2 (fun x => zt_lo_oc x c) 0 (by decide)) (fun c r hr => q2 (fun x => zt_lo_hi x c) r (Int32.le_of_lt hr))) (fun k0 hk0 e0 => ?_) (L + 1) 0 L 0 (by omega) (by omega) (by omega) (by omega) (fun a ha => by omega) (fun a h1 h2 => by omega)⟩
  refine ⟨L + 1, zt_x_fr10 (P := fun a => ¬ zt_hi (zt_g t L) pat m (o a)) hL (fun a b hab hb x y => x (zt_hi_up ((zt_O_T hz hO (by omega) hb).2 hab) y)) (fun a ha post' q1 q2 => zt_x_cp hL hm (by have := oL a ha; omega) h4 p4 (fun c r hr => q1 (fun x => zt_lo_hi c x) r (fun z => ?_)) (fun c => q1 (fun x => zt_hi_oc x c) 0 (by decide)) (fun c r hr => q2 (fun x => x c) r ?_)) (fun k1 hk1 e1 => ?_) (L + 1) 0 L 0 (by omega) (by omega) (by omega) (by omega) (fun a ha => by omega) (fun a h1 h2 => by omega)⟩
  · exact Int32.lt_irrefl (Int32.lt_of_lt_of_le hr (Int32.le_trans (by decide) z))
  · obtain ⟨j, hj, rfl⟩ := nI_of (x := r) (Int32.not_lt.mpr (Int32.le_of_lt hr))
    refine nI_le (a := 1) ?_ hj
    refine Nat.pos_of_ne_zero fun z => ?_
    subst z
    exact absurd hr (by decide)
  · have k01 : k0 ≤ k1 := by
      refine Classical.byContradiction fun c => ?_
      have a1 := (e0 k1 (by omega)).2 (by omega)
      have a2 : ¬ ¬ zt_hi (zt_g t L) pat m (o k1) := fun x => by
        have := (e1 k1 (by omega)).1 x
        omega
      exact a2 (fun x => zt_lo_hi a1 x)
    refine ⟨L + 1, zt_x_mh14 (k0 := k0) hL hk1 oL (S := zt_oc (zt_g t L) pat m) (fun i hi => ?_) h (k1 - k0) k0 _ f (by omega) (by omega) (Nat.le_refl _) (zt_mk1_c (zt_mk1_0 hf) (fun i hi => ⟨fun ⟨a, a1, a2, _⟩ => by omega, fun x => x.elim⟩))⟩
    constructor
    · intro x
      have ro := zt_O_r hz hO hi
      have rl := zt_r_lt (g := zt_g t L) hi
      refine ⟨zt_r (zt_g t L) L i, ?_, ?_, ro⟩
      · refine Classical.byContradiction fun c => ?_
        have := (e0 _ rl).2 (by omega)
        rw [ro] at this
        exact zt_lo_oc this x
      · refine (e1 _ rl).1 ?_
        rw [ro]
        exact fun y => zt_hi_oc y x
    · rintro ⟨a, a1, a2, a3⟩
      subst a3
      have b1 : ¬ zt_lo (zt_g t L) pat m (o a) := fun x => by
        have := (e0 a (by omega)).1 x
        omega
      have b2 := (e1 a (by omega)).2 a2
      rcases zt_tri3 (zt_g t L) pat m (o a) with c | c | c
      · exact absurd c b1
      · exact c
      · exact absurd c b2
end
end
section
/-! engine 2: the tree -/
theorem zt_ix4 (v c : Nat) : (nI v * 4) + nI c = nI (v * 4 + c) := by
  rw [show (4 : Int32) = nI 4 from rfl, pk_mul, nI_add]
def zt_zc (b : Nat → Nat) (n c : Nat) : Nat → Nat := fun j => if j / 4 = n ∧ j % 4 < c then 0 else b j
theorem zt_zc_0 (b : Nat → Nat) (n : Nat) : zt_zc b n 0 = b := funext fun j => if_neg (by omega)
theorem zt_zc_4 (b : Nat → Nat) (n : Nat) : zt_zc b n 4 = zt_zb b n := funext fun j => by
  unfold zt_zc zt_zb
  by_cases c : j / 4 = n
  · rw [if_pos ⟨c, by omega⟩, if_pos c]
  · rw [if_neg (fun x => c x.1), if_neg c]
theorem zt_zc_1 (b : Nat → Nat) (n c : Nat) (hc : c < 4) : zt_up (zt_zc b n c) (n * 4 + c) 0 = zt_zc b n (c + 1) := funext fun j => by
  unfold zt_up zt_zc
  by_cases e : j = n * 4 + c
  · rw [if_pos e, if_pos (by omega)]
  · rw [if_neg e]
    by_cases f : j / 4 = n ∧ j % 4 < c
    · rw [if_pos f, if_pos (by omega)]
    · rw [if_neg f, if_neg (by omega)]
section
variable {f_length f_patternLength f_distinctFound f_longestFound f_nodeCount f_stateCount f_rowCount : Int32} {a_text a_pattern a_order a_occurs a_otherOrder a_rank a_pairRank a_nodePlace a_nodeDepth a_nodeParent a_nodeTail a_nodeBranch a_waitingNodes a_stateLength a_stateLink a_stateEnd a_stateTails a_stateBranch a_lastColumn : Nat → Int32}
variable {t pat : Nat → Nat} {L m : Nat}
theorem zt_x_nn51 {post : Int32 → SX → Prop} {n : Nat} {b : Nat → Nat} (hn : n < 81) (h : post (nI n) (f_length, f_patternLength, f_distinctFound, f_longestFound, f_nodeCount, f_stateCount, f_rowCount, a_text, a_pattern, a_order, a_occurs, a_otherOrder, a_rank, a_pairRank, a_nodePlace, a_nodeDepth, a_nodeParent, a_nodeTail, fun j => nI (zt_zb b n j), a_waitingNodes, a_stateLength, a_stateLink, a_stateEnd, a_stateTails, a_stateBranch, a_lastColumn)) : ∀ d c f, c + d = 4 → d < f → wX_newNode_51 post (nI n) f_length f_patternLength f_distinctFound f_longestFound f_nodeCount f_stateCount f_rowCount f (nI c) a_text a_pattern a_order a_occurs a_otherOrder a_rank a_pairRank a_nodePlace a_nodeDepth a_nodeParent a_nodeTail (fun j => nI (zt_zc b n c j)) a_waitingNodes a_stateLength a_stateLink a_stateEnd a_stateTails a_stateBranch a_lastColumn := by
  intro d
  induction d with
  | zero =>
    intro c f hc hf
    obtain ⟨f, rfl⟩ : ∃ m, f = m + 1 := ⟨f - 1, by omega⟩
    have e : c = 4 := by omega
    subst e
    rw [zt_zc_4]
    exact br_t (nI_le (a := 4) (b := 4) (Nat.le_refl _) (by decide)) h
  | succ d ih =>
    intro c f hc hf
    obtain ⟨f, rfl⟩ : ∃ m, f = m + 1 := ⟨f - 1, by omega⟩
    have nx := ih (c + 1) f (by omega) (by omega)
    rw [← zt_zc_1 b n c (by omega)] at nx
    exact br_f (nI_ge (b := 4) (by omega) (by decide)) ⟨pk_in (n * 4 + c) 324 (by omega) (zt_ix4 n c), nm_r (zt_upE (n * 4 + c) 0 (pk_cl _ (zt_ix4 n c)) rfl) (nm_r (nI_1 c) nx)⟩
theorem zt_x_nn {post : Int32 → SX → Prop} {n q0 q1 q2 : Nat} {E l p nt b : Nat → Nat} (hn : n < 81) (h : post (nI n) (f_length, f_patternLength, f_distinctFound, f_longestFound, nI (n + 1), f_stateCount, f_rowCount, a_text, a_pattern, a_order, a_occurs, a_otherOrder, a_rank, a_pairRank, fun j => nI ((zt_up E n q1) j), fun j => nI ((zt_up l n q2) j), fun j => nI ((zt_up p n q0) j), fun j => nI ((zt_up nt n 0) j) - 1, fun j => nI ((zt_zb b n) j), a_waitingNodes, a_stateLength, a_stateLink, a_stateEnd, a_stateTails, a_stateBranch, a_lastColumn)) : wpX_newNode post (f_length, f_patternLength, f_distinctFound, f_longestFound, nI (n), f_stateCount, f_rowCount, a_text, a_pattern, a_order, a_occurs, a_otherOrder, a_rank, a_pairRank, fun j => nI ((E) j), fun j => nI ((l) j), fun j => nI ((p) j), fun j => nI ((nt) j) - 1, fun j => nI ((b) j), a_waitingNodes, a_stateLength, a_stateLink, a_stateEnd, a_stateTails, a_stateBranch, a_lastColumn) (nI q0) (nI q1) (nI q2) := by
  have en : (nI n).toNatClampNeg = n := pk_cl n
  have vn : vp_in (nI n) 81 := pk_in n 81 hn
  refine nm_r (nI_1 n) ⟨vn, nm_r (zt_upE n q0 en rfl) ⟨vn, nm_r (zt_upE n q1 en rfl) ⟨vn, nm_r (zt_upE n q2 en rfl) ⟨vn, nm_r (zt_upM n 0 en zt_Im1) ⟨5, ?_⟩⟩⟩⟩⟩
  have a := zt_x_nn51 (b := b) hn h 4 0 5 (by omega) (by omega)
  rw [zt_zc_0] at a
  exact a
theorem zt_x_se {post : Int32 → SX → Prop} {n x ix s : Nat} {E l p nt b : Nat → Nat} (hn : n < 81) (hx : x < n) (hix : ix < 324) (hs : E x + s < 40) (h4 : ∀ i, t i < 4) (h : post (nI n) (nI L, f_patternLength, f_distinctFound, f_longestFound, nI (n + 1), f_stateCount, f_rowCount, fun j => nI (t j), a_pattern, a_order, a_occurs, a_otherOrder, a_rank, a_pairRank, fun j => nI ((zt_up E n (E x)) j), fun j => nI ((zt_up l n s) j), fun j => nI ((zt_up (zt_up p n (p x)) x n) j), fun j => nI ((zt_up nt n 0) j) - 1, fun j => nI ((zt_up (zt_up (zt_zb b n) ix n) (n * 4 + t (E x + s)) x) j), a_waitingNodes, a_stateLength, a_stateLink, a_stateEnd, a_stateTails, a_stateBranch, a_lastColumn)) : wpX_splitEdge post (nI L, f_patternLength, f_distinctFound, f_longestFound, nI (n), f_stateCount, f_rowCount, fun j => nI (t j), a_pattern, a_order, a_occurs, a_otherOrder, a_rank, a_pairRank, fun j => nI ((E) j), fun j => nI ((l) j), fun j => nI ((p) j), fun j => nI ((nt) j) - 1, fun j => nI ((b) j), a_waitingNodes, a_stateLength, a_stateLink, a_stateEnd, a_stateTails, a_stateBranch, a_lastColumn) (nI x) (nI ix) (nI s) := by
  have ex : (nI x).toNatClampNeg = x := pk_cl x
  have ei : (nI ix).toNatClampNeg = ix := pk_cl ix
  have vx : vp_in (nI x) 81 := pk_in x 81 (by omega)
  have a := h4 (E x + s)
  refine ⟨vx, vx, ?_⟩
  simp only [ex]
  refine zt_x_nn hn ?_
  have eE : zt_up E n (E x) x = E x := zt_un _ _ (by omega)
  refine ⟨vx, ?_⟩
  simp only [ex, eE]
  have es : (nI (E x) + nI s).toNatClampNeg = E x + s := pk_cl _ (nI_add _ _)
  refine ⟨pk_in (E x + s) 40 hs (nI_add _ _), nm_r (e' := nI (t (E x + s))) (by simp only [es]) ⟨pk_in ix 324 hix, nm_r (zt_upE ix n ei rfl) ⟨pk_in (n * 4 + t (E x + s)) 324 (by omega) (zt_ix4 _ _), nm_r (zt_upE (n * 4 + t (E x + s)) x (pk_cl _ (zt_ix4 _ _)) rfl) ⟨vx, nm_r (zt_upI _ x n) h⟩⟩⟩⟩
end
end
section
/-! engine 2: hanging the tails -/
def zt_HI (g : Nat → Nat) (L k n : Nat) (E l p b nt : Nat → Nat) (v : Nat) : Prop := zt_hA g L k n E l p b nt v ∨ zt_hB g L k n E l p b nt v ∨ zt_hC g L k n E l p b nt v
section
variable {g : Nat → Nat} {L k n : Nat} {E l p b nt : Nat → Nat} {v : Nat}
theorem zt_HI_b (hk : k < L) (h : zt_HI g L k n E l p b nt v) : v < n ∧ n ≤ 2 * k + 3 ∧ k + l v ≤ L := by
  rcases h with h | h | h
  · have a := zt_N_j (g := g) (L := L) (i := E v) (j := k) (zt_P_L (by omega) (h.1.1.1.2.1 v h.2.1).1) (by omega)
    have := h.1.2
    have := h.2.2
    exact ⟨h.2.1, by omega, by omega⟩
  · obtain ⟨r, hJ, hn, hr, hm, hmax, hv, hM, hno⟩ := h
    have a := zt_N_j (g := g) (L := L) (i := E v) (j := k) (zt_P_L (by omega) (hJ.1.2.1 v hv).1) (by omega)
    exact ⟨hv, by omega, by omega⟩
  · exact ⟨h.1, h.2.1, by have := h.2.2.1; omega⟩
theorem zt_HI_end (hz : zt_Z g L) (hk : k < L) (h : zt_HI g L k n E l p b nt v) (he : k + l v = L) : zt_hC g L k n E l p b nt v := by
  rcases h with h | h | h
  · exact zt_hB_end hk (zt_hA_B hz hk h (Or.inl he)) he
  · exact zt_hB_end hk h he
  · exact h
theorem zt_HI_0 (hz : zt_Z g L) (hk : k < L) (h : zt_HI g L k n E l p b nt v) (hlt : k + l v < L) {c : Nat} (hq : g (k + l v) = c + 1) (h0 : b (v * 4 + c) = 0) : zt_hB g L k n E l p b nt v := by
  rcases h with h | h | h
  · exact zt_hA_B hz hk h (Or.inr ⟨c, hq, h0⟩)
  · exact h
  · have := h.2.2.1; omega
theorem zt_HI_1 (h : zt_HI g L k n E l p b nt v) (hlt : k + l v < L) {c : Nat} (hq : g (k + l v) = c + 1) (h0 : b (v * 4 + c) ≠ 0) : zt_hA g L k n E l p b nt v := by
  rcases h with h | h | h
  · exact h
  · obtain ⟨r, hJ, hn, hr, hm, hmax, hv, hM, hno⟩ := h
    exact absurd (hno c hq) h0
  · have := h.2.2.1; omega
theorem zt_hB_n (h : zt_hB g L k n E l p b nt v) : n ≤ 2 * k + 2 := by
  obtain ⟨r, hJ, hn, _⟩ := h
  exact hn
end
section
variable {f_length f_patternLength f_distinctFound f_longestFound f_nodeCount f_stateCount f_rowCount : Int32} {a_text a_pattern a_order a_occurs a_otherOrder a_rank a_pairRank a_nodePlace a_nodeDepth a_nodeParent a_nodeTail a_nodeBranch a_waitingNodes a_stateLength a_stateLink a_stateEnd a_stateTails a_stateBranch a_lastColumn : Nat → Int32}
variable {t pat : Nat → Nat} {L m : Nat}
theorem zt_x_ht4 {post : SX → Prop} {k : Nat} (hL : L ≤ 40) (hk : k < L) (h4 : ∀ i, t i < 4) (h : ∀ (n : Nat) (E l p b nt : Nat → Nat), zt_H (zt_g t L) L (k + 1) n (zt_up E 0 L) l p b nt → post (nI L, f_patternLength, f_distinctFound, f_longestFound, nI (n), f_stateCount, f_rowCount, fun j => nI (t j), a_pattern, a_order, a_occurs, a_otherOrder, a_rank, a_pairRank, fun j => nI ((E) j), fun j => nI ((l) j), fun j => nI ((p) j), fun j => nI ((nt) j) - 1, fun j => nI ((b) j), a_waitingNodes, a_stateLength, a_stateLink, a_stateEnd, a_stateTails, a_stateBranch, a_lastColumn)) : ∀ (f st v n : Nat) (E l p b nt : Nat → Nat), L - st < f → st ≤ l v → zt_HI (zt_g t L) L k n (zt_up E 0 L) l p b nt v → wX_hangTail_4 post (nI k) f (nI v) (nI st) (nI L) f_patternLength f_distinctFound f_longestFound (nI (n)) f_stateCount f_rowCount (fun j => nI (t j)) a_pattern a_order a_occurs a_otherOrder a_rank a_pairRank (fun j => nI ((E) j)) (fun j => nI ((l) j)) (fun j => nI ((p) j)) (fun j => nI ((nt) j) - 1) (fun j => nI ((b) j)) a_waitingNodes a_stateLength a_stateLink a_stateEnd a_stateTails a_stateBranch a_lastColumn := by
  have hz := zt_g_Z t L
  have g4 := zt_g_4 h4 L
  intro f
  induction f with
  | zero => intro st v n E l p b nt hf; omega
  | succ f ih =>
    intro st v n E l p b nt hf hst H
    obtain ⟨hv, hn, hlv⟩ := zt_HI_b hk H
    have ev : (nI v).toNatClampNeg = v := pk_cl v
    have vv : vp_in (nI v) 81 := pk_in v 81 (by omega)
    have fin : k + l v = L → post (nI L, f_patternLength, f_distinctFound, f_longestFound, nI (n), f_stateCount, f_rowCount, fun j => nI (t j), a_pattern, a_order, a_occurs, a_otherOrder, a_rank, a_pairRank, fun j => nI ((E) j), fun j => nI ((l) j), fun j => nI ((p) j), fun j => nI ((zt_up nt v (k + 1)) j) - 1, fun j => nI ((b) j), a_waitingNodes, a_stateLength, a_stateLink, a_stateEnd, a_stateTails, a_stateBranch, a_lastColumn) := fun e => by
      have C := zt_HI_end hz hk H e
      exact h n E l p b _ (C.2.2.2 _ (zt_us _ _ _) (fun u _ hu => zt_un _ _ hu))
    have eqk : nI k = nI (k + 1) - 1 := zt_I1 k
    have edd : nI k + nI (l v) = nI (k + l v) := nI_add _ _
    refine pk_le L st (fun c => ⟨vv, nm_r (zt_upM v (k + 1) ev eqk) (fin (by omega))⟩) (fun c => ⟨vv, ?_⟩)
    simp only [ev]
    refine pk_le L (k + l v) (fun c2 => ⟨vv, nm_r (by rw [eqk]; exact zt_upN nt v (k + 1)) (fin (by omega))⟩) (fun c2 => ⟨vv, pk_in (k + l v) 40 (by omega) edd, ?_⟩) rfl edd
    have tc := h4 (k + l v)
    have hq : zt_g t L (k + l v) = t (k + l v) + 1 := zt_g_lt c2
    have eix := zt_ix4 v (t (k + l v))
    refine nm_r (e' := nI (v * 4 + t (k + l v))) (by simp only [pk_cl _ edd]; exact eix) ⟨pk_in (v * 4 + t (k + l v)) 324 (by omega), ?_⟩
    have ei : (nI (v * 4 + t (k + l v))).toNatClampNeg = v * 4 + t (k + l v) := pk_cl _
    refine nm_r (e' := nI (b (v * 4 + t (k + l v)))) (by simp only [ei]) ?_
    by_cases c3 : b (v * 4 + t (k + l v)) = 0
    · -- a new leaf
      have B := zt_HI_0 hz hk H c2 hq c3
      have n2 := zt_hB_n B
      have C := zt_hB_leaf (b' := zt_up (zt_zb b n) (v * 4 + t (k + l v)) n) (nt' := zt_up nt n 0) hk B c2 tc hq (fun c' hc' => by rw [zt_un _ _ (by omega)]; exact zt_zb_n b n hc') (zt_us _ _ _) (fun w c' hw hc' hne => by rw [zt_un _ _ (by omega)]; exact zt_zb_o b (by omega) hc') (fun u hu => zt_un _ _ (by omega))
      rw [zt_upc _ _ _ (by omega : (0 : Nat) ≠ n)] at C
      have e1 : zt_up l n (L - k) v = l v := zt_un _ _ (by omega)
      have e2 : zt_up E n k n = k := zt_us _ _ _
      have e3 : zt_up l n (L - k) n = L - k := zt_us _ _ _
      have en : (nI n).toNatClampNeg = n := pk_cl n
      rw [c3]
      refine br_t rfl ?_
      rw [pk_sub (by omega : k ≤ L)]
      refine zt_x_nn (by omega) ⟨pk_in (v * 4 + t (k + l v)) 324 (by omega), nm_r (zt_upE (v * 4 + t (k + l v)) n ei rfl) ⟨pk_in n 81 (by omega), vv, ?_⟩⟩
      simp only [en, ev, e1, e2]
      have kk : zt_N (zt_g t L) L k k = L - k := zt_N_s (by omega)
      refine zt_x_sl (l v) hL (by omega) (by omega) h4 (by omega) ?_
      rw [kk]
      refine ⟨pk_in n 81 (by omega), ?_⟩
      rw [e3]
      exact br_t (nI_le (Nat.le_refl _) (by omega)) (nm_r (nI_1 st) (ih (st + 1) n (n + 1) _ _ _ _ _ (by omega) (by rw [e3]; omega) (Or.inr (Or.inr C))))
    · have A := zt_HI_1 H c2 hq c3
      have nA := A.1.2
      obtain ⟨x1, x2, x3, x5, x6⟩ := zt_hA_x hk A c2 tc hq c3
      obtain ⟨x, hx⟩ : ∃ x, x = b (v * 4 + t (k + l v)) := ⟨_, rfl⟩
      rw [← hx] at c3 x1 x2 x3 x5 x6 ⊢
      have eE : zt_up E 0 L x = E x := zt_un _ _ c3
      rw [eE] at x2 x5
      have ex : (nI x).toNatClampNeg = x := pk_cl x
      have vx : vp_in (nI x) 81 := pk_in x 81 (by omega)
      refine br_f (nI_ne0 (by omega) (by omega)) ⟨vx, vv, ?_⟩
      simp only [ex, ev]
      have nE := zt_N_i (g := zt_g t L) (L := L) (i := E x) (j := k) (by omega) (by omega)
      refine zt_x_sl (l v) hL (by omega) (by omega) h4 (by omega) ⟨vx, pk_le (l x) (zt_N (zt_g t L) L (E x) k) (fun d => ?_) (fun d => ?_)⟩
      · refine nm_r (nI_1 st) (ih (st + 1) x n E l p b nt (by omega) (by omega) (Or.inl ?_))
        have := zt_hA_dn hk A c2 tc hq (by rw [← hx]; exact c3)
        rw [← hx, eE] at this
        exact this d
      · have td := h4 (E x + zt_N (zt_g t L) L (E x) k)
        have B := zt_hA_mid (b' := zt_up (zt_up (zt_zb b n) (v * 4 + t (k + l v)) n) (n * 4 + t (E x + zt_N (zt_g t L) L (E x) k)) x) (nt' := zt_up nt n 0) (x := x) (s := zt_N (zt_g t L) L (E x) k) hz g4 hk A c2 tc hq hx.symm c3 (by rw [eE]) d td (by rw [eE]; exact zt_g_lt (by omega)) (by rw [zt_un _ _ (by omega), zt_us]) (zt_us _ _ _) (fun c' hc' hne => by rw [zt_un _ _ (by omega), zt_un _ _ (by omega)]; exact zt_zb_n b n hc') (fun w c' hw hc' hne => by rw [zt_un _ _ (by omega), zt_un _ _ (by omega)]; exact zt_zb_o b (by omega) hc') (zt_us _ _ _) (fun u hu => zt_un _ _ (by omega))
        rw [eE, zt_upc _ _ _ (by omega : (0 : Nat) ≠ n)] at B
        refine zt_x_se (by omega) x1 (by omega) (by omega) h4 ?_
        rw [x6]
        exact nm_r (nI_1 st) (ih (st + 1) n (n + 1) _ _ _ _ _ (by omega) (by rw [zt_us]; omega) (Or.inr (Or.inl B)))
theorem zt_x_ht {post : SX → Prop} {k n : Nat} {E l p b nt : Nat → Nat} (hL : L ≤ 40) (hk : k < L) (h4 : ∀ i, t i < 4) (H : zt_H (zt_g t L) L k n (zt_up E 0 L) l p b nt) (h : ∀ (n : Nat) (E l p b nt : Nat → Nat), zt_H (zt_g t L) L (k + 1) n (zt_up E 0 L) l p b nt → post (nI L, f_patternLength, f_distinctFound, f_longestFound, nI (n), f_stateCount, f_rowCount, fun j => nI (t j), a_pattern, a_order, a_occurs, a_otherOrder, a_rank, a_pairRank, fun j => nI ((E) j), fun j => nI ((l) j), fun j => nI ((p) j), fun j => nI ((nt) j) - 1, fun j => nI ((b) j), a_waitingNodes, a_stateLength, a_stateLink, a_stateEnd, a_stateTails, a_stateBranch, a_lastColumn)) : wpX_hangTail post (nI L, f_patternLength, f_distinctFound, f_longestFound, nI (n), f_stateCount, f_rowCount, fun j => nI (t j), a_pattern, a_order, a_occurs, a_otherOrder, a_rank, a_pairRank, fun j => nI ((E) j), fun j => nI ((l) j), fun j => nI ((p) j), fun j => nI ((nt) j) - 1, fun j => nI ((b) j), a_waitingNodes, a_stateLength, a_stateLink, a_stateEnd, a_stateTails, a_stateBranch, a_lastColumn) (nI k) :=
  ⟨L + 1, zt_x_ht4 hL hk h4 h (L + 1) 0 0 n E l p b nt (by omega) (Nat.zero_le _) (Or.inl ⟨H, H.1.1.1.1, by rw [H.1.1.1.2]; exact Nat.zero_le _⟩)⟩
theorem zt_x_bt15 {post : SX → Prop} (hL : L ≤ 40) (h4 : ∀ i, t i < 4) (h : ∀ (n : Nat) (E l p b nt : Nat → Nat), zt_H (zt_g t L) L L n (zt_up E 0 L) l p b nt → post (nI L, f_patternLength, f_distinctFound, f_longestFound, nI (n), f_stateCount, f_rowCount, fun j => nI (t j), a_pattern, a_order, a_occurs, a_otherOrder, a_rank, a_pairRank, fun j => nI ((E) j), fun j => nI ((l) j), fun j => nI ((p) j), fun j => nI ((nt) j) - 1, fun j => nI ((b) j), a_waitingNodes, a_stateLength, a_stateLink, a_stateEnd, a_stateTails, a_stateBranch, a_lastColumn)) : ∀ (d k f n : Nat) (E l p b nt : Nat → Nat), k + d = L → d < f → zt_H (zt_g t L) L k n (zt_up E 0 L) l p b nt → wX_buildTree_15 post f (nI k) (nI L) f_patternLength f_distinctFound f_longestFound (nI (n)) f_stateCount f_rowCount (fun j => nI (t j)) a_pattern a_order a_occurs a_otherOrder a_rank a_pairRank (fun j => nI ((E) j)) (fun j => nI ((l) j)) (fun j => nI ((p) j)) (fun j => nI ((nt) j) - 1) (fun j => nI ((b) j)) a_waitingNodes a_stateLength a_stateLink a_stateEnd a_stateTails a_stateBranch a_lastColumn := by
  intro d
  induction d with
  | zero =>
    intro k f n E l p b nt hk hf H
    obtain ⟨f, rfl⟩ : ∃ m, f = m + 1 := ⟨f - 1, by omega⟩
    have e : k = L := by omega
    subst e
    exact br_t (nI_le (Nat.le_refl _) (by omega)) (h n E l p b nt H)
  | succ d ih =>
    intro k f n E l p b nt hk hf H
    obtain ⟨f, rfl⟩ : ∃ m, f = m + 1 := ⟨f - 1, by omega⟩
    exact br_f (nI_ge (by omega) (by omega)) (zt_x_ht hL (by omega) h4 H (fun n' E' l' p' b' nt' H' => nm_r (nI_1 k) (ih (k + 1) f n' E' l' p' b' nt' (by omega) (by omega) H')))
theorem zt_x_bt {post : SX → Prop} (hL : L ≤ 40) (h4 : ∀ i, t i < 4) (h : ∀ (n : Nat) (E l p b nt : Nat → Nat), zt_H (zt_g t L) L L n (zt_up E 0 L) l p b nt → post (nI L, f_patternLength, f_distinctFound, f_longestFound, nI (n), f_stateCount, f_rowCount, fun j => nI (t j), a_pattern, a_order, a_occurs, a_otherOrder, a_rank, a_pairRank, fun j => nI ((E) j), fun j => nI ((l) j), fun j => nI ((p) j), fun j => nI ((nt) j) - 1, fun j => nI ((b) j), a_waitingNodes, a_stateLength, a_stateLink, a_stateEnd, a_stateTails, a_stateBranch, a_lastColumn)) : wpX_buildTree post (nI L, f_patternLength, f_distinctFound, f_longestFound, f_nodeCount, f_stateCount, f_rowCount, fun j => nI (t j), a_pattern, a_order, a_occurs, a_otherOrder, a_rank, a_pairRank, a_nodePlace, a_nodeDepth, a_nodeParent, a_nodeTail, a_nodeBranch, a_waitingNodes, a_stateLength, a_stateLink, a_stateEnd, a_stateTails, a_stateBranch, a_lastColumn) := by
  obtain ⟨E, rfl⟩ := zt_arr a_nodePlace
  obtain ⟨l, rfl⟩ := zt_arr a_nodeDepth
  obtain ⟨p, rfl⟩ := zt_arr a_nodeParent
  obtain ⟨nt, rfl⟩ := zt_arrN a_nodeTail
  obtain ⟨b, rfl⟩ := zt_arr a_nodeBranch
  unfold wpX_buildTree
  refine zt_x_nn (n := 0) (q0 := 0) (q1 := 0) (q2 := 0) (by omega) ⟨L + 1, zt_x_bt15 hL h4 h L 0 _ 1 _ _ _ _ _ (by omega) (by omega) (zt_H_0 (zt_us _ _ _) (zt_us _ _ _) (fun c hc => zt_zb_n b 0 hc) (zt_us _ _ _))⟩
end
end
section
/-! engine 2: listing, measures, the pattern -/
theorem zt_nt0 {a : Nat} (h : a < 2 ^ 31) : nI a - 1 = -1 ↔ a = 0 := by
  constructor
  · intro e
    refine Classical.byContradiction fun c => ?_
    obtain ⟨a', rfl⟩ : ∃ a', a = a' + 1 := ⟨a - 1, by omega⟩
    rw [nI_pred] at e
    exact zt_ne1 (by omega) e
  · intro e
    subst e
    rfl
section
variable {f_length f_patternLength f_distinctFound f_longestFound f_nodeCount f_stateCount f_rowCount : Int32} {a_text a_pattern a_order a_occurs a_otherOrder a_rank a_pairRank a_nodePlace a_nodeDepth a_nodeParent a_nodeTail a_nodeBranch a_waitingNodes a_stateLength a_stateLink a_stateEnd a_stateTails a_stateBranch a_lastColumn : Nat → Int32}
variable {t pat : Nat → Nat} {L m n : Nat} {E l p nt b : Nat → Nat}
theorem zt_x_lu68 {post : Int32 → SX → Prop} {J : _} {v0 v found vis : Nat} (hL : L ≤ 40) (H : zt_H (zt_g t L) L L n E l p b nt) (hv : v < n) (hJ : ∀ (h : Nat) (st : Nat → Nat), zt_SS (zt_g t L) L n E l v0 st h found (vis + 1) → J (nI found) (nI h) (nI (vis + 1)) (fun j => nI (t j)) a_pattern a_order a_occurs a_otherOrder a_rank a_pairRank a_nodePlace (fun j => nI (l j)) (fun j => nI (p j)) (fun j => nI (nt j) - 1) (fun j => nI (b j)) (fun j => nI (st j)) a_stateLength a_stateLink a_stateEnd a_stateTails a_stateBranch a_lastColumn) : ∀ (c f h : Nat) (st : Nat → Nat) (x : Int32), c ≤ 4 → c < f → x = nI c - 1 → zt_SQ' (zt_g t L) L n E l b nt v0 v st h c found (vis + 1) → wX_listTailsUnder_68 post J (nI found) (nI vis) (nI v) (nI L) f_patternLength f_distinctFound f_longestFound (nI n) f_stateCount f_rowCount f (nI h) x (fun j => nI (t j)) a_pattern a_order a_occurs a_otherOrder a_rank a_pairRank a_nodePlace (fun j => nI (l j)) (fun j => nI (p j)) (fun j => nI (nt j) - 1) (fun j => nI (b j)) (fun j => nI (st j)) a_stateLength a_stateLink a_stateEnd a_stateTails a_stateBranch a_lastColumn := by
  have hz := zt_g_Z t L
  have n81 : n ≤ 81 := by have := H.2; omega
  intro c
  induction c with
  | zero =>
    intro f h st x hc hf hx S
    obtain ⟨f, rfl⟩ : ∃ m, f = m + 1 := ⟨f - 1, by omega⟩
    subst hx
    exact br_t (by decide) (nm_r (nI_1 vis) (hJ h st (zt_SS_c0 S)))
  | succ c ih =>
    intro f h st x hc hf hx S
    obtain ⟨f, rfl⟩ : ∃ m, f = m + 1 := ⟨f - 1, by omega⟩
    rw [nI_pred] at hx
    subst hx
    have ei : (nI v * 4 + nI c).toNatClampNeg = v * 4 + c := pk_cl _ (zt_ix4 v c)
    refine br_f (nI_pos (by omega)) ⟨pk_in (v * 4 + c) 324 (by omega) (zt_ix4 v c), nm_r (e' := nI (b (v * 4 + c))) (by simp only [ei]) ?_⟩
    by_cases e : b (v * 4 + c) = 0
    · have S' := zt_SS_no hz H hv (by omega) e S
      rw [e]
      exact br_t rfl (nm_r (zt_m1s _) (ih f h st _ (by omega) (by omega) rfl S'))
    · have S' := zt_SS_ch hz H hv (by omega) e S
      have u1 := (H.1.2.1.1 v c hv (by omega) e).1
      exact br_f (nI_ne0 (by omega) (by omega)) ⟨pk_in h 81 (by omega), nm_r (zt_upE h (b (v * 4 + c)) (pk_cl h) rfl) (nm_r (nI_1 h) (nm_r (zt_m1s _) (ih f (h + 1) _ _ (by omega) (by omega) rfl S'.2)))⟩
theorem zt_x_lu14 {post : Int32 → SX → Prop} {v0 : Nat} (hL : L ≤ 40) (h4 : ∀ i, t i < 4) (H : zt_H (zt_g t L) L L n E l p b nt) (hp : ∀ (st o : Nat → Nat), zt_ls (zt_g t L) L (zt_off (zt_g t L) L E l v0) (zt_cA (zt_g t L) L E l v0) o → post (nI (zt_cA (zt_g t L) L E l v0)) (nI L, f_patternLength, f_distinctFound, f_longestFound, nI (n), f_stateCount, f_rowCount, fun j => nI (t j), a_pattern, fun j => nI (o j), a_occurs, a_otherOrder, a_rank, a_pairRank, a_nodePlace, fun j => nI ((l) j), fun j => nI ((p) j), fun j => nI ((nt) j) - 1, fun j => nI ((b) j), fun j => nI (st j), a_stateLength, a_stateLink, a_stateEnd, a_stateTails, a_stateBranch, a_lastColumn)) : ∀ (f found h vis : Nat) (st o : Nat → Nat), n - vis < f → zt_SS (zt_g t L) L n E l v0 st h found vis → zt_ls (zt_g t L) L (zt_off (zt_g t L) L E l v0) found o → wX_listTailsUnder_14 post (nI L) f_patternLength f_distinctFound f_longestFound (nI n) f_stateCount f_rowCount f (nI found) (nI h) (nI vis) (fun j => nI (t j)) a_pattern (fun j => nI (o j)) a_occurs a_otherOrder a_rank a_pairRank a_nodePlace (fun j => nI (l j)) (fun j => nI (p j)) (fun j => nI (nt j) - 1) (fun j => nI (b j)) (fun j => nI (st j)) a_stateLength a_stateLink a_stateEnd a_stateTails a_stateBranch a_lastColumn := by
  have hz := zt_g_Z t L
  have g4 := zt_g_4 h4 L
  have n81 : n ≤ 81 := by have := H.2; omega
  intro f
  induction f with
  | zero => intro found h vis st o hf; omega
  | succ f ih =>
    intro found h vis st o hf S hl
    have fin : (h = 0 ∨ n ≤ vis) → post (nI found) (nI L, f_patternLength, f_distinctFound, f_longestFound, nI (n), f_stateCount, f_rowCount, fun j => nI (t j), a_pattern, fun j => nI (o j), a_occurs, a_otherOrder, a_rank, a_pairRank, a_nodePlace, fun j => nI ((l) j), fun j => nI ((p) j), fun j => nI ((nt) j) - 1, fun j => nI ((b) j), fun j => nI (st j), a_stateLength, a_stateLink, a_stateEnd, a_stateTails, a_stateBranch, a_lastColumn) := fun c => by
      have e := zt_SS_end H S c
      subst e
      exact hp st o hl
    have vb : vis ≤ n := by
      have s4 := S.2.2.2
      have s6 := zt_sub_n (g := zt_g t L) (L := L) (n := n) (E := E) (l := l) v0
      omega
    have hb : h ≤ n := by
      have s4 := S.2.2.2
      have s5 := zt_s_ge (fun j => zt_sub (zt_g t L) L n E l (st j)) h (fun i hi => zt_sub_1 H (S.1 i hi))
      have s6 := zt_sub_n (g := zt_g t L) (L := L) (n := n) (E := E) (l := l) v0
      omega
    refine pk_le n vis (fun c => fin (Or.inr c)) (fun c => pk_le h 0 (fun c2 => fin (Or.inl (by omega))) (fun c2 => ?_))
    obtain ⟨h, rfl⟩ : ∃ h', h = h' + 1 := ⟨h - 1, by omega⟩
    obtain ⟨p1, p2, p3, p4, p5⟩ := zt_SS_pop hz g4 H S
    have fl := zt_SS_f hz g4 H S
    have eh : (nI h).toNatClampNeg = h := pk_cl h
    refine nm_r (pk_m1 h) ⟨pk_in h 81 (by omega), nm_r (e' := nI (st h)) (by simp only [eh]) ⟨pk_in (st h) 81 (by omega), ?_⟩⟩
    have ev : (nI (st h)).toNatClampNeg = st h := pk_cl _
    simp only [ev]
    have bnt : nt (st h) ≤ L := by
      by_cases z : nt (st h) = 0
      · omega
      · obtain ⟨i, hi⟩ : ∃ i, nt (st h) = i + 1 := ⟨nt (st h) - 1, by omega⟩
        have := (zt_r_off hz H p1 hi).1
        omega
    refine zt_br (zt_nt0 (by omega)) (fun z => ?_) (fun z => ?_)
    · have ed : zt_dt nt (st h) = 0 := if_pos z
      rw [ed] at p5
      exact ⟨5, zt_x_lu68 (v0 := v0) hL H p1 (fun h' st' S' => ih found h' (vis + 1) st' o (by omega) S' hl) 4 5 h st _ (by omega) (by omega) (by decide) p5⟩
    · have ed : zt_dt nt (st h) = 1 := if_neg z
      rw [ed] at p5 fl
      obtain ⟨i, hi⟩ : ∃ i, nt (st h) = i + 1 := ⟨nt (st h) - 1, by omega⟩
      obtain ⟨i1, i2, i3⟩ := zt_r_off hz H p1 hi
      refine ⟨pk_in (st h) 81 (by omega), pk_in found 40 (by omega), nm_r (zt_upE found i (pk_cl found) (by rw [hi, nI_pred])) (nm_r (nI_1 found) ⟨5, zt_x_lu68 (v0 := v0) hL H p1 (fun h' st' S' => ih (found + 1) h' (vis + 1) st' _ (by omega) S' (zt_ls_1 hl i1 (i3.trans p4))) 4 5 h st _ (by omega) (by omega) (by decide) p5⟩)⟩
theorem zt_x_lu {post : Int32 → SX → Prop} {v0 : Nat} (hL : L ≤ 40) (h4 : ∀ i, t i < 4) (H : zt_H (zt_g t L) L L n E l p b nt) (hv : v0 < n) (hp : ∀ (st o : Nat → Nat), zt_ls (zt_g t L) L (zt_off (zt_g t L) L E l v0) (zt_cA (zt_g t L) L E l v0) o → post (nI (zt_cA (zt_g t L) L E l v0)) (nI L, f_patternLength, f_distinctFound, f_longestFound, nI (n), f_stateCount, f_rowCount, fun j => nI (t j), a_pattern, fun j => nI (o j), a_occurs, a_otherOrder, a_rank, a_pairRank, a_nodePlace, fun j => nI ((l) j), fun j => nI ((p) j), fun j => nI ((nt) j) - 1, fun j => nI ((b) j), fun j => nI (st j), a_stateLength, a_stateLink, a_stateEnd, a_stateTails, a_stateBranch, a_lastColumn)) : wpX_listTailsUnder post (nI L, f_patternLength, f_distinctFound, f_longestFound, nI (n), f_stateCount, f_rowCount, fun j => nI (t j), a_pattern, a_order, a_occurs, a_otherOrder, a_rank, a_pairRank, a_nodePlace, fun j => nI ((l) j), fun j => nI ((p) j), fun j => nI ((nt) j) - 1, fun j => nI ((b) j), a_waitingNodes, a_stateLength, a_stateLink, a_stateEnd, a_stateTails, a_stateBranch, a_lastColumn) (nI v0) := by
  obtain ⟨st, rfl⟩ := zt_arr a_waitingNodes
  obtain ⟨o, rfl⟩ := zt_arr a_order
  refine nm_r (zt_upI st 0 v0) ⟨n + 1, zt_x_lu14 hL h4 H hp (n + 1) 0 1 0 _ o (by omega) (zt_SS_0 hv (zt_us _ _ _)) (fun f hf => by omega)⟩
theorem zt_x_mt2 {post : SX → Prop} (hL : L ≤ 40) (H : zt_H (zt_g t L) L L n E l p b nt) (h : post (nI L, f_patternLength, nI (zt_s (fun v => l v - l (p v)) n), nI (zt_m (fun v => if v = 0 then 0 else l (p v)) n), nI (n), f_stateCount, f_rowCount, fun j => nI (t j), a_pattern, a_order, a_occurs, a_otherOrder, a_rank, a_pairRank, a_nodePlace, fun j => nI ((l) j), fun j => nI ((p) j), fun j => nI ((nt) j) - 1, fun j => nI ((b) j), a_waitingNodes, a_stateLength, a_stateLink, a_stateEnd, a_stateTails, a_stateBranch, a_lastColumn)) : ∀ d v f, v + d = n → d < f → 0 < v → wX_measureTree_2 post f (nI v) (nI L) f_patternLength (nI (zt_s (fun v => l v - l (p v)) v)) (nI (zt_m (fun v => if v = 0 then 0 else l (p v)) v)) (nI (n)) f_stateCount f_rowCount (fun j => nI (t j)) a_pattern a_order a_occurs a_otherOrder a_rank a_pairRank a_nodePlace (fun j => nI ((l) j)) (fun j => nI ((p) j)) (fun j => nI ((nt) j) - 1) (fun j => nI ((b) j)) a_waitingNodes a_stateLength a_stateLink a_stateEnd a_stateTails a_stateBranch a_lastColumn := by
  have n81 : n ≤ 81 := by have := H.2; omega
  have lb : ∀ v, v < n → l v ≤ L := fun v hv => by
    have a := H.1.1.2.1 v hv
    have b := zt_P_L (Nat.le_refl _) a.1
    have c := a.2.1
    rw [zt_N_s b] at c
    omega
  intro d
  induction d with
  | zero =>
    intro v f hv hf v0
    obtain ⟨f, rfl⟩ : ∃ m, f = m + 1 := ⟨f - 1, by omega⟩
    have e : v = n := by omega
    subst e
    exact br_t (nI_le (Nat.le_refl _) (by omega)) h
  | succ d ih =>
    intro v f hv hf v0
    obtain ⟨f, rfl⟩ : ∃ m, f = m + 1 := ⟨f - 1, by omega⟩
    have nx := ih (v + 1) f (by omega) (by omega) (by omega)
    have cv := H.1.1.2.2.2.2 v v0 (by omega : v < n)
    have pn : p v < n := cv.1
    have b1 := lb v (by omega)
    have b2 := lb (p v) pn
    have b3 : zt_m (fun v => if v = 0 then 0 else l (p v)) v ≤ L := zt_m_le fun i hi => by
      split
      · omega
      · exact lb _ (H.1.1.2.2.2.2 i (by omega) (by omega : i < n)).1
    rw [zt_s1, zt_m1] at nx
    simp only [if_neg (show ¬ v = 0 by omega)] at nx
    have ev : (nI v).toNatClampNeg = v := pk_cl v
    have ep : (nI (p v)).toNatClampNeg = p v := pk_cl _
    have vv : vp_in (nI v) 81 := pk_in v 81 (by omega)
    refine br_f (nI_ge (by omega) (by omega)) ⟨vv, ?_⟩
    simp only [ev]
    refine ⟨pk_in (p v) 81 (by omega), nm_r (e' := nI (l (p v))) (by simp only [ep]) ⟨vv, nm_r (e' := nI (zt_s (fun v => l v - l (p v)) v + (l v - l (p v)))) ?_ (zt_x_nl (by omega) (by omega) (nm_r (nI_1 v) nx))⟩⟩
    rw [pk_sub (by have := cv.2.1; omega), nI_add]
theorem zt_x_mt {post : SX → Prop} (hL : L ≤ 40) (H : zt_H (zt_g t L) L L n E l p b nt) (h : ∀ G, zt_G (zt_g t L) L G → post (nI L, f_patternLength, nI (zt_D (zt_g t L) L (fun i => i)), nI G, nI (n), f_stateCount, f_rowCount, fun j => nI (t j), a_pattern, a_order, a_occurs, a_otherOrder, a_rank, a_pairRank, a_nodePlace, fun j => nI ((l) j), fun j => nI ((p) j), fun j => nI ((nt) j) - 1, fun j => nI ((b) j), a_waitingNodes, a_stateLength, a_stateLink, a_stateEnd, a_stateTails, a_stateBranch, a_lastColumn)) : wpX_measureTree post (nI L, f_patternLength, 0, 0, nI (n), f_stateCount, f_rowCount, fun j => nI (t j), a_pattern, a_order, a_occurs, a_otherOrder, a_rank, a_pairRank, a_nodePlace, fun j => nI ((l) j), fun j => nI ((p) j), fun j => nI ((nt) j) - 1, fun j => nI ((b) j), a_waitingNodes, a_stateLength, a_stateLink, a_stateEnd, a_stateTails, a_stateBranch, a_lastColumn) := by
  have n0 : 0 < n := H.1.1.1.1
  have e1 : zt_s (fun v => l v - l (p v)) 1 = 0 := by
    rw [zt_s1, zt_s0, H.1.1.1.2]; omega
  have e2 : zt_m (fun v => if v = 0 then 0 else l (p v)) 1 = 0 := rfl
  have e3 : zt_s (fun v => l v - l (p v)) n = zt_D (zt_g t L) L (fun i => i) := H.1.2.2.2.trans (zt_sg_D _ _)
  have a : wX_measureTree_2 post (n - 1 + 1) (nI 1) (nI L) f_patternLength (nI (zt_s (fun v => l v - l (p v)) 1)) (nI (zt_m (fun v => if v = 0 then 0 else l (p v)) 1)) (nI (n)) f_stateCount f_rowCount (fun j => nI (t j)) a_pattern a_order a_occurs a_otherOrder a_rank a_pairRank a_nodePlace (fun j => nI ((l) j)) (fun j => nI ((p) j)) (fun j => nI ((nt) j) - 1) (fun j => nI ((b) j)) a_waitingNodes a_stateLength a_stateLink a_stateEnd a_stateTails a_stateBranch a_lastColumn := zt_x_mt2 hL H (by rw [e3]; exact h _ (zt_H_m H)) (n - 1) 1 _ (by omega) (by omega) (by omega)
  rw [e1, e2] at a
  exact ⟨_, a⟩
end
end
section
/-! engine 2: the pattern in the tree -/
section
variable {f_length f_patternLength f_distinctFound f_longestFound f_nodeCount f_stateCount f_rowCount : Int32} {a_text a_pattern a_order a_occurs a_otherOrder a_rank a_pairRank a_nodePlace a_nodeDepth a_nodeParent a_nodeTail a_nodeBranch a_waitingNodes a_stateLength a_stateLink a_stateEnd a_stateTails a_stateBranch a_lastColumn : Nat → Int32}
variable {t pat : Nat → Nat} {L m n : Nat} {E l p nt b : Nat → Nat}
theorem zt_x_np59 {post : Int32 → Prop} {J : _} {x st l' : Nat} (hL : L ≤ 40) (hm : m ≤ 10) (h4 : ∀ i, t i < 4) (p4 : ∀ i, pat i < 4) (hx : x < 81) (hl : E x + l x ≤ L) (h1 : (∀ q, q < l x → q < m → l' ≤ q → zt_g t L (E x + q) = pat q + 1) → J (nI x) (nI (st + 1))) (h0 : ∀ q, q < l x → q < m → zt_g t L (E x + q) ≠ pat q + 1 → post (-1)) : ∀ d i f, i + d = m → d < f → l' ≤ i → (∀ q, l' ≤ q → q < i → q < l x → zt_g t L (E x + q) = pat q + 1) → wX_nodeOfPattern_59 post J (nI st) (nI x) (nI L) (nI m) f_distinctFound f_longestFound (nI (n)) f_stateCount f_rowCount (fun j => nI (t j)) (fun j => nI (pat j)) a_order a_occurs a_otherOrder a_rank a_pairRank (fun j => nI ((E) j)) (fun j => nI ((l) j)) (fun j => nI ((p) j)) (fun j => nI ((nt) j) - 1) (fun j => nI ((b) j)) a_waitingNodes a_stateLength a_stateLink a_stateEnd a_stateTails a_stateBranch a_lastColumn f (nI i) := by
  intro d
  induction d with
  | zero =>
    intro i f hi hf hli hq
    obtain ⟨f, rfl⟩ : ∃ m, f = m + 1 := ⟨f - 1, by omega⟩
    have ex : (nI x).toNatClampNeg = x := pk_cl x
    have fin := h1 (fun q h5 h6 h7 => hq q h7 (by omega) h5)
    refine ⟨pk_in x 81 hx, ?_⟩
    simp only [ex]
    exact pk_le (l x) i (fun _ => nm_r (nI_1 st) fin) (fun _ => br_t (nI_le (by omega) (by omega)) (nm_r (nI_1 st) fin))
  | succ d ih =>
    intro i f hi hf hli hq
    obtain ⟨f, rfl⟩ : ∃ m, f = m + 1 := ⟨f - 1, by omega⟩
    have ex : (nI x).toNatClampNeg = x := pk_cl x
    have ei : (nI i).toNatClampNeg = i := pk_cl i
    refine ⟨pk_in x 81 hx, ?_⟩
    simp only [ex, ei]
    refine pk_le (l x) i (fun c => nm_r (nI_1 st) (h1 (fun q h5 h6 h7 => hq q h7 (by omega) h5))) (fun c => br_f (nI_ge (by omega) (by omega)) ⟨pk_in x 81 hx, pk_in (E x + i) 40 (by omega) (nI_add _ _), pk_in i 10 (by omega), zt_br (d := t (E x + i) = pat i) ?_ (fun e => nm_r (nI_1 i) (ih (i + 1) f (by omega) (by omega) (by omega) (fun q h5 h6 h7 => ?_))) (fun e => h0 i (by omega) (by omega) ?_)⟩)
    · simp only [pk_cl (E x + i) (nI_add _ _)]
      exact zt_eqI (h4 _) (p4 _)
    · by_cases z : q = i
      · subst z; rw [zt_g_lt (by omega), e]
      · exact hq q h5 (by omega) h7
    · rw [zt_g_lt (by omega)]; omega
theorem zt_x_np4 {post : Int32 → Prop} (hL : L ≤ 40) (hm : m ≤ 10) (m0 : 0 < m) (h4 : ∀ i, t i < 4) (p4 : ∀ i, pat i < 4) (H : zt_H (zt_g t L) L L n (zt_up E 0 L) l p b nt) (h1 : ∀ v, v < n → (∀ i, i ≤ L → (zt_oc (zt_g t L) pat m i ↔ zt_A (zt_g t L) L (zt_up E 0 L) l v i)) → post (nI v)) (h0 : (∀ i, i ≤ L → ¬ zt_oc (zt_g t L) pat m i) → post (-1)) : ∀ f v st, m - st < f → st ≤ l v → zt_np (zt_g t L) pat m n (zt_up E 0 L) l p v → wX_nodeOfPattern_4 post (nI L) (nI m) f_distinctFound f_longestFound (nI (n)) f_stateCount f_rowCount (fun j => nI (t j)) (fun j => nI (pat j)) a_order a_occurs a_otherOrder a_rank a_pairRank (fun j => nI ((E) j)) (fun j => nI ((l) j)) (fun j => nI ((p) j)) (fun j => nI ((nt) j) - 1) (fun j => nI ((b) j)) a_waitingNodes a_stateLength a_stateLink a_stateEnd a_stateTails a_stateBranch a_lastColumn f (nI v) (nI st) := by
  have hz := zt_g_Z t L
  have n81 : n ≤ 81 := by have := H.2; omega
  intro f
  induction f with
  | zero => intro v st hf; omega
  | succ f ih =>
    intro v st hf hst hv
    have ev : (nI v).toNatClampNeg = v := pk_cl v (h := by have := hv.1; omega)
    have vv : vp_in (nI v) 81 := pk_in v 81 (by have := hv.1; omega)
    have hA := H.1.1.2.1 v hv.1
    have vL := zt_P_L (Nat.le_refl _) hA.1
    have lv := hA.2.1
    rw [zt_N_s vL] at lv
    have fin : m ≤ l v → post (nI v) := fun c => h1 v hv.1 (zt_np_end hz H hv m0 c)
    refine pk_le m st (fun c => fin (by omega)) (fun c => ⟨vv, ?_⟩) rfl rfl (by omega) (by omega)
    simp only [ev]
    refine pk_le m (l v) fin (fun c2 => ⟨vv, nm_e ⟨pk_in (l v) 10 (by omega), ?_⟩⟩)
    have el : (nI (l v)).toNatClampNeg = l v := pk_cl _
    have pc := p4 (l v)
    simp only [el]
    have ei : (nI v * 4 + nI (pat (l v))).toNatClampNeg = v * 4 + pat (l v) := pk_cl _ (zt_ix4 _ _) (by have := hv.1; omega)
    refine ⟨pk_in (v * 4 + pat (l v)) 324 (by have := hv.1; omega) (zt_ix4 _ _), nm_r (e' := nI (b (v * 4 + pat (l v)))) (by simp only [ei]) ?_⟩
    by_cases e : b (v * 4 + pat (l v)) = 0
    · rw [e]
      exact br_t rfl (h0 (zt_np_no hz H hv c2 e))
    · obtain ⟨u1, u2, u3⟩ := H.1.2.1.1 v _ hv.1 (p4 _) e
      have hu := H.1.1.2.1 _ u1
      have uL := zt_P_L (Nat.le_refl _) hu.1
      have lu := hu.2.1
      rw [zt_N_s uL] at lu
      have eE : zt_up E 0 L (b (v * 4 + pat (l v))) = E (b (v * 4 + pat (l v))) := zt_un _ _ e
      have mis := fun q h5 h6 h7 => zt_np_mis (q := q) hz p4 H hv c2 e h5 h6 h7
      have one := zt_np_1 p4 H hv c2 e
      rw [eE] at uL lu mis one
      refine br_f (nI_ne0 (by omega) (by have : b (v * 4 + pat (l v)) < n := u1; omega)) ⟨m + 1, zt_x_np59 (l' := l v) hL hm h4 p4 (by have : b (v * 4 + pat (l v)) < n := u1; omega) (by omega) (fun hq => ?_) (fun q h5 h6 h7 => h0 (mis q h5 h6 h7)) (m - l v) (l v) _ (by omega) (by omega) (Nat.le_refl _) (fun q h5 h6 => by omega)⟩
      have o := one (fun q h5 h6 h7 => hq q h6 h7 h5)
      exact ih _ (st + 1) (by omega) (by have := o.2; omega) o.1
theorem zt_x_np {post : Int32 → Prop} (hL : L ≤ 40) (hm : m ≤ 10) (m0 : 0 < m) (h4 : ∀ i, t i < 4) (p4 : ∀ i, pat i < 4) (H : zt_H (zt_g t L) L L n (zt_up E 0 L) l p b nt) (h1 : ∀ v, v < n → (∀ i, i ≤ L → (zt_oc (zt_g t L) pat m i ↔ zt_A (zt_g t L) L (zt_up E 0 L) l v i)) → post (nI v)) (h0 : (∀ i, i ≤ L → ¬ zt_oc (zt_g t L) pat m i) → post (-1)) : wpX_nodeOfPattern post (nI L, nI m, f_distinctFound, f_longestFound, nI (n), f_stateCount, f_rowCount, fun j => nI (t j), fun j => nI (pat j), a_order, a_occurs, a_otherOrder, a_rank, a_pairRank, fun j => nI ((E) j), fun j => nI ((l) j), fun j => nI ((p) j), fun j => nI ((nt) j) - 1, fun j => nI ((b) j), a_waitingNodes, a_stateLength, a_stateLink, a_stateEnd, a_stateTails, a_stateBranch, a_lastColumn) := by
  have l0 := H.1.1.1.2
  exact ⟨m + 1, zt_x_np4 hL hm m0 h4 p4 H h1 h0 (m + 1) 0 0 (by omega) (Nat.zero_le _) ⟨H.1.1.1.1, fun q hq => by omega, Or.inl rfl⟩⟩
theorem zt_x_mt19 {post : SX → Prop} {o : Nat → Nat} {k1 : Nat} (hL : L ≤ 40) (hk : k1 ≤ L) (hO : ∀ a, a < k1 → o a < L) {S : Nat → Prop} (hS : ∀ i, i < L → (S i ↔ ∃ a, a < k1 ∧ o a = i)) (h : ∀ f : Nat → Nat, zt_mk1 S L f → post (f_length, f_patternLength, f_distinctFound, f_longestFound, f_nodeCount, f_stateCount, f_rowCount, a_text, a_pattern, fun j => nI (o j), fun j => nI (f j), a_otherOrder, a_rank, a_pairRank, a_nodePlace, a_nodeDepth, a_nodeParent, a_nodeTail, a_nodeBranch, a_waitingNodes, a_stateLength, a_stateLink, a_stateEnd, a_stateTails, a_stateBranch, a_lastColumn)) : ∀ d p n (f : Nat → Nat), p + d = k1 → d < n → zt_mk1 (fun i => ∃ a, a < p ∧ o a = i) L f → wX_markByTree_19 post (nI k1) f_length f_patternLength f_distinctFound f_longestFound f_nodeCount f_stateCount f_rowCount n (nI p) a_text a_pattern (fun j => nI (o j)) (fun j => nI (f j)) a_otherOrder a_rank a_pairRank a_nodePlace a_nodeDepth a_nodeParent a_nodeTail a_nodeBranch a_waitingNodes a_stateLength a_stateLink a_stateEnd a_stateTails a_stateBranch a_lastColumn := by
  intro d
  induction d with
  | zero =>
    intro p n f hp hn hf
    obtain ⟨n, rfl⟩ : ∃ m, n = m + 1 := ⟨n - 1, by omega⟩
    have e : p = k1 := by omega
    subst e
    exact br_t (nI_le (Nat.le_refl _) (by omega)) (h f (zt_mk1_c hf hS))
  | succ d ih =>
    intro p n f hp hn hf
    obtain ⟨n, rfl⟩ : ∃ m, n = m + 1 := ⟨n - 1, by omega⟩
    have ep : (nI p).toNatClampNeg = p := pk_cl p
    have b := hO p (by omega)
    refine br_f (nI_ge (by omega) (by omega)) ⟨pk_in p 40 (by omega), ?_⟩
    simp only [ep]
    refine ⟨pk_in (o p) 40 (by omega), nm_r (zt_upE (o p) 1 (pk_cl (o p)) zt_b1) (nm_r (nI_1 p) (ih (p + 1) n _ (by omega) (by omega) (zt_mk1_1 hf (fun i hi => ?_))))⟩
    constructor
    · rintro ⟨a, a2, a3⟩
      by_cases z : a = p
      · subst z; exact Or.inr a3.symm
      · exact Or.inl ⟨a, by omega, a3⟩
    · rintro (⟨a, a2, a3⟩ | z)
      · exact ⟨a, by omega, a3⟩
      · exact ⟨p, by omega, z.symm⟩
theorem zt_x_mbt {post : SX → Prop} {f : Nat → Nat} (hL : L ≤ 40) (hm : m ≤ 10) (m0 : 0 < m) (h4 : ∀ i, t i < 4) (p4 : ∀ i, pat i < 4) (H : zt_H (zt_g t L) L L n (zt_up E 0 L) l p b nt) (hf : ∀ i, i < L → f i = 0) (h : ∀ (st o f : Nat → Nat), zt_mk1 (zt_oc (zt_g t L) pat m) L f → post (nI L, nI m, f_distinctFound, f_longestFound, nI (n), f_stateCount, f_rowCount, fun j => nI (t j), fun j => nI (pat j), fun j => nI (o j), fun j => nI (f j), a_otherOrder, a_rank, a_pairRank, fun j => nI ((E) j), fun j => nI ((l) j), fun j => nI ((p) j), fun j => nI ((nt) j) - 1, fun j => nI ((b) j), fun j => nI (st j), a_stateLength, a_stateLink, a_stateEnd, a_stateTails, a_stateBranch, a_lastColumn)) : wpX_markByTree post (nI L, nI m, f_distinctFound, f_longestFound, nI (n), f_stateCount, f_rowCount, fun j => nI (t j), fun j => nI (pat j), a_order, fun j => nI (f j), a_otherOrder, a_rank, a_pairRank, fun j => nI ((E) j), fun j => nI ((l) j), fun j => nI ((p) j), fun j => nI ((nt) j) - 1, fun j => nI ((b) j), a_waitingNodes, a_stateLength, a_stateLink, a_stateEnd, a_stateTails, a_stateBranch, a_lastColumn) := by
  have n81 : n ≤ 81 := by have := H.2; omega
  unfold wpX_markByTree
  refine zt_x_np hL hm m0 h4 p4 H (fun v hv hA => br_f (zt_ne1 (by omega)) (zt_x_lu hL h4 H hv (fun st o hl => ?_))) (fun no => br_t rfl ?_)
  · have cl := zt_cA_L (g := zt_g t L) (L := L) (E := zt_up E 0 L) (l := l) v
    exact ⟨L + 1, zt_x_mt19 hL cl (fun a ha => (hl a ha).1) (S := zt_oc (zt_g t L) pat m) (fun i hi => (hA i (by omega)).trans (zt_ls_A (zt_g_Z t L) H hv hl hi)) (h st o) (zt_cA (zt_g t L) L (zt_up E 0 L) l v) 0 _ f (by omega) (by omega) (zt_mk1_c (zt_mk1_0 hf) (fun i hi => ⟨fun ⟨a, a2, _⟩ => by omega, fun x => x.elim⟩))⟩
  · obtain ⟨st, rfl⟩ := zt_arr a_waitingNodes
    obtain ⟨o, rfl⟩ := zt_arr a_order
    exact h st o f (zt_mk1_c (zt_mk1_0 hf) (fun i hi => ⟨fun x => no i (by omega) x, fun x => x.elim⟩))
end
end
section
/-! engine 4: the last column -/
section
variable {f_length f_patternLength f_distinctFound f_longestFound f_nodeCount f_stateCount f_rowCount : Int32} {a_text a_pattern a_order a_occurs a_otherOrder a_rank a_pairRank a_nodePlace a_nodeDepth a_nodeParent a_nodeTail a_nodeBranch a_waitingNodes a_stateLength a_stateLink a_stateEnd a_stateTails a_stateBranch a_lastColumn : Nat → Int32}
variable {t pat : Nat → Nat} {L m : Nat}
theorem zt_x_rw5 {post : Int32 → Prop} {R c r : Nat} {col : Nat → Nat} (hR : R ≤ 41) (hc : c < 4) (hr : r ≤ 41) (hb : ∀ o, o < R → col o ≤ 4) (h : post (nI (1 + zt_c (fun o => (0 < col o ∧ col o < c + 1) ∨ (col o = c + 1 ∧ o < r)) R))) : ∀ d o f, o + d = R → d < f → wX_rowWithLetterBefore_5 post (nI c) (nI r) f_length f_patternLength f_distinctFound f_longestFound f_nodeCount f_stateCount (nI (R)) a_text a_pattern a_order a_occurs a_otherOrder a_rank a_pairRank a_nodePlace a_nodeDepth a_nodeParent a_nodeTail a_nodeBranch a_waitingNodes a_stateLength a_stateLink a_stateEnd a_stateTails a_stateBranch (fun j => nI ((col) j) - 1) f (nI (1 + zt_c (fun o => (0 < col o ∧ col o < c + 1) ∨ (col o = c + 1 ∧ o < r)) o)) (nI o) := by
  intro d
  induction d with
  | zero =>
    intro o f ho hf
    obtain ⟨f, rfl⟩ : ∃ m, f = m + 1 := ⟨f - 1, by omega⟩
    have e : o = R := by omega
    subst e
    exact br_t (nI_le (Nat.le_refl _) (by omega)) h
  | succ d ih =>
    intro o f ho hf
    obtain ⟨f, rfl⟩ : ∃ m, f = m + 1 := ⟨f - 1, by omega⟩
    have nx := ih (o + 1) f (by omega) (by omega)
    have bo := hb o (by omega)
    have eo : (nI o).toNatClampNeg = o := pk_cl o
    have yes : ((0 < col o ∧ col o < c + 1) ∨ (col o = c + 1 ∧ o < r)) → wX_rowWithLetterBefore_5 post (nI c) (nI r) f_length f_patternLength f_distinctFound f_longestFound f_nodeCount f_stateCount (nI (R)) a_text a_pattern a_order a_occurs a_otherOrder a_rank a_pairRank a_nodePlace a_nodeDepth a_nodeParent a_nodeTail a_nodeBranch a_waitingNodes a_stateLength a_stateLink a_stateEnd a_stateTails a_stateBranch (fun j => nI ((col) j) - 1) f (nI (1 + zt_c (fun o => (0 < col o ∧ col o < c + 1) ∨ (col o = c + 1 ∧ o < r)) o + 1)) (nI (o + 1)) := fun y => by
      rw [zt_ct (p := fun o => (0 < col o ∧ col o < c + 1) ∨ (col o = c + 1 ∧ o < r)) y] at nx
      exact nx
    have no : ¬ ((0 < col o ∧ col o < c + 1) ∨ (col o = c + 1 ∧ o < r)) → wX_rowWithLetterBefore_5 post (nI c) (nI r) f_length f_patternLength f_distinctFound f_longestFound f_nodeCount f_stateCount (nI (R)) a_text a_pattern a_order a_occurs a_otherOrder a_rank a_pairRank a_nodePlace a_nodeDepth a_nodeParent a_nodeTail a_nodeBranch a_waitingNodes a_stateLength a_stateLink a_stateEnd a_stateTails a_stateBranch (fun j => nI ((col) j) - 1) f (nI (1 + zt_c (fun o => (0 < col o ∧ col o < c + 1) ∨ (col o = c + 1 ∧ o < r)) o)) (nI (o + 1)) := fun y => by
      rw [zt_cf (p := fun o => (0 < col o ∧ col o < c + 1) ∨ (col o = c + 1 ∧ o < r)) y] at nx
      exact nx
    refine br_f (nI_ge (by omega) (by omega)) ⟨pk_in o 41 (by omega), nm_r (e' := nI (col o) - 1) (by simp only [eo]) ?_⟩
    by_cases z : col o = 0
    · rw [z]
      refine br_t rfl (br_t rfl (br_f (fun e => ?_) (nm_r (nI_1 o) (no (by omega)))))
      exact zt_ne1 (by omega : c < 2 ^ 31) (e.symm.trans rfl)
    · obtain ⟨a, ha⟩ : ∃ a, col o = a + 1 := ⟨col o - 1, by omega⟩
      rw [ha, nI_pred]
      refine br_f (zt_ne1 (by omega)) (pk_le c a (fun d1 => ?_) (fun d1 => ?_))
      · refine br_t rfl (pk_eq a c (fun d2 => pk_le r o (fun d3 => nm_r (nI_1 o) (no (by omega))) (fun d3 => nm_r (nI_1 _) (nm_r (nI_1 o) (yes (by omega))))) (fun d2 => nm_r (nI_1 o) (no (by omega))))
      · exact br_f (by decide) (nm_r (nI_1 _) (nm_r (nI_1 o) (yes (by omega))))
theorem zt_x_rw {post : Int32 → Prop} {R c r : Nat} {col : Nat → Nat} (hR : R ≤ 41) (hc : c < 4) (hr : r ≤ 41) (hb : ∀ o, o < R → col o ≤ 4) (h : post (nI (1 + zt_c (fun o => (0 < col o ∧ col o < c + 1) ∨ (col o = c + 1 ∧ o < r)) R))) : wpX_rowWithLetterBefore post (f_length, f_patternLength, f_distinctFound, f_longestFound, f_nodeCount, f_stateCount, nI (R), a_text, a_pattern, a_order, a_occurs, a_otherOrder, a_rank, a_pairRank, a_nodePlace, a_nodeDepth, a_nodeParent, a_nodeTail, a_nodeBranch, a_waitingNodes, a_stateLength, a_stateLink, a_stateEnd, a_stateTails, a_stateBranch, fun j => nI ((col) j) - 1) (nI c) (nI r) :=
  ⟨R + 1, zt_x_rw5 hR hc hr hb h R 0 _ (by omega) (by omega)⟩
theorem zt_x_bl54 {post : SX → Prop} {J : _} {w R : Nat} {x2 : Int32} {c0 : Nat → Nat} (hR : R ≤ 40) (hw : w ≤ R) (h : ∀ col : Nat → Nat, (∀ o, o < w → col o = c0 o) → col w = 0 → (∀ o, w ≤ o → o < R → col (o + 1) = c0 o) → J (nI w) (x2 - 1) (nI (R + 1)) a_text a_pattern a_order a_occurs a_otherOrder a_rank a_pairRank a_nodePlace a_nodeDepth a_nodeParent a_nodeTail a_nodeBranch a_waitingNodes a_stateLength a_stateLink a_stateEnd a_stateTails a_stateBranch (fun j => nI (col j) - 1)) : ∀ d row f (col : Nat → Nat), w + d = row → row ≤ R → d < f → (∀ o, o ≤ row → col o = c0 o) → (∀ o, row ≤ o → o < R → col (o + 1) = c0 o) → wX_buildLastColumn_54 post J (nI w) x2 f_length f_patternLength f_distinctFound f_longestFound f_nodeCount f_stateCount (nI R) f (nI row) a_text a_pattern a_order a_occurs a_otherOrder a_rank a_pairRank a_nodePlace a_nodeDepth a_nodeParent a_nodeTail a_nodeBranch a_waitingNodes a_stateLength a_stateLink a_stateEnd a_stateTails a_stateBranch (fun j => nI (col j) - 1) := by
  intro d
  induction d with
  | zero =>
    intro row f col hd hrow hf h1 h2
    obtain ⟨f, rfl⟩ : ∃ m, f = m + 1 := ⟨f - 1, by omega⟩
    have e : row = w := by omega
    subst e
    refine br_t (nI_le (Nat.le_refl _) (by omega)) ⟨pk_in row 41 (by omega), nm_r (zt_upM row 0 (pk_cl row) zt_Im1) (nm_r (nI_1 R) (nm_r (zt_m1s _) (h _ (fun o ho => ?_) (zt_us _ _ _) (fun o h3 h5 => ?_))))⟩
    · rw [zt_un _ _ (by omega)]; exact h1 o (by omega)
    · rw [zt_un _ _ (by omega)]; exact h2 o h3 h5
  | succ d ih =>
    intro row f col hd hrow hf h1 h2
    obtain ⟨f, rfl⟩ : ∃ m, f = m + 1 := ⟨f - 1, by omega⟩
    obtain ⟨row, rfl⟩ : ∃ r, row = r + 1 := ⟨row - 1, by omega⟩
    have er : nI (row + 1) - 1 = nI row := nI_pred row
    refine br_f (nI_ge (by omega) (by omega)) ⟨pk_in row 41 (by omega) er, pk_in (row + 1) 41 (by omega), nm_r (zt_upM (row + 1) (col row) (pk_cl (row + 1)) ?_) (nm_r (pk_m1 row) (ih row f _ (by omega) (by omega) (by omega) (fun o ho => ?_) (fun o h3 h5 => ?_)))⟩
    · simp only [pk_cl row er]
    · rw [zt_un _ _ (by omega)]; exact h1 o (by omega)
    · by_cases z : o = row
      · subst z; rw [zt_us]; exact h1 o (by omega)
      · rw [zt_un _ _ (by omega)]; exact h2 o (by omega) h5
theorem zt_x_bl21 {post : SX → Prop} (hL : L ≤ 40) (h4 : ∀ i, t i < 4) (h : ∀ col : Nat → Nat, zt_CO (zt_g t L) L 0 col → (∀ o, o < L + 1 → col o ≤ 4) → post (nI L, f_patternLength, f_distinctFound, f_longestFound, f_nodeCount, f_stateCount, nI (L + 1), fun j => nI (t j), a_pattern, a_order, a_occurs, a_otherOrder, a_rank, a_pairRank, a_nodePlace, a_nodeDepth, a_nodeParent, a_nodeTail, a_nodeBranch, a_waitingNodes, a_stateLength, a_stateLink, a_stateEnd, a_stateTails, a_stateBranch, fun j => nI ((col) j) - 1)) : ∀ p f (col : Nat → Nat) (x : Int32), p ≤ L → p < f → x = nI p - 1 → zt_CO (zt_g t L) L p col → (∀ o, o < L + 1 - p → col o ≤ 4) → wX_buildLastColumn_21 post (nI L) f_patternLength f_distinctFound f_longestFound f_nodeCount f_stateCount f (nI (zt_rk (zt_g t L) L p p)) x (nI (L + 1 - p)) (fun j => nI (t j)) a_pattern a_order a_occurs a_otherOrder a_rank a_pairRank a_nodePlace a_nodeDepth a_nodeParent a_nodeTail a_nodeBranch a_waitingNodes a_stateLength a_stateLink a_stateEnd a_stateTails a_stateBranch (fun j => nI (col j) - 1) := by
  have hz := zt_g_Z t L
  intro p
  induction p with
  | zero =>
    intro f col x hp hf hx hC hb
    obtain ⟨f, rfl⟩ : ∃ m, f = m + 1 := ⟨f - 1, by omega⟩
    subst hx
    exact br_t (by decide) (h col hC (fun o ho => hb o (by omega)))
  | succ q ih =>
    intro f col x hp hf hx hC hb
    obtain ⟨f, rfl⟩ : ∃ m, f = m + 1 := ⟨f - 1, by omega⟩
    rw [nI_pred] at hx
    subst hx
    have eq : (nI q).toNatClampNeg = q := pk_cl q
    have w1 := zt_rk_lt (g := zt_g t L) (L := L) (p := q + 1) (i := q + 1) (Nat.le_refl _) (by omega)
    have w2 := zt_rk_lt (g := zt_g t L) (L := L) (p := q) (i := q) (Nat.le_refl _) (by omega)
    have hq : zt_g t L q = t q + 1 := zt_g_lt (by omega)
    have tq := h4 q
    have cw := zt_CO_w hz (by omega) hC hq
    have c1 := fun (col' : Nat → Nat) => zt_CO_1 (col' := col') hz (by omega) hC hq
    have b1 : ∀ o, o < L + 1 - (q + 1) → zt_up col (zt_rk (zt_g t L) L (q + 1) (q + 1)) (t q + 1) o ≤ 4 := fun o ho => by
      unfold zt_up
      split
      · omega
      · exact hb o ho
    refine br_f (nI_pos (by omega)) ⟨pk_in q 40 (by omega), pk_in (zt_rk (zt_g t L) L (q + 1) (q + 1)) 41 (by omega), nm_r (zt_upM (zt_rk (zt_g t L) L (q + 1) (q + 1)) (t q + 1) (pk_cl _) ?_) ⟨pk_in q 40 (by omega), ?_⟩⟩
    · simp only [eq]; exact zt_I1 _
    · simp only [eq]
      refine zt_x_rw (R := L + 1 - (q + 1)) (by omega) tq (by omega) b1 ?_
      rw [cw]
      refine ⟨L + 1, zt_x_bl54 (c0 := zt_up col (zt_rk (zt_g t L) L (q + 1) (q + 1)) (t q + 1)) (by omega) (by omega) (fun col' d1 d2 d3 => ?_) (L + 1 - (q + 1) - zt_rk (zt_g t L) L q q) (L + 1 - (q + 1)) _ _ (by omega) (by omega) (by omega) (fun o _ => rfl) (fun o h3 h5 => by omega)⟩
      have e1 : L + 1 - (q + 1) + 1 = L + 1 - q := by omega
      rw [e1]
      refine ih f col' _ (by omega) (by omega) rfl (c1 col' d1 d2 d3) (fun o ho => ?_)
      rcases Nat.lt_trichotomy o (zt_rk (zt_g t L) L q q) with z | z | z
      · rw [d1 o z]; exact b1 o (by omega)
      · rw [z, d2]; omega
      · obtain ⟨o, rfl⟩ : ∃ o', o = o' + 1 := ⟨o - 1, by omega⟩
        rw [d3 o (by omega) (by omega)]; exact b1 o (by omega)
theorem zt_x_bl {post : SX → Prop} (hL : L ≤ 40) (h4 : ∀ i, t i < 4) (h : ∀ col : Nat → Nat, zt_CO (zt_g t L) L 0 col → (∀ o, o < L + 1 → col o ≤ 4) → post (nI L, f_patternLength, f_distinctFound, f_longestFound, f_nodeCount, f_stateCount, nI (L + 1), fun j => nI (t j), a_pattern, a_order, a_occurs, a_otherOrder, a_rank, a_pairRank, a_nodePlace, a_nodeDepth, a_nodeParent, a_nodeTail, a_nodeBranch, a_waitingNodes, a_stateLength, a_stateLink, a_stateEnd, a_stateTails, a_stateBranch, fun j => nI ((col) j) - 1)) : wpX_buildLastColumn post (nI L, f_patternLength, f_distinctFound, f_longestFound, f_nodeCount, f_stateCount, f_rowCount, fun j => nI (t j), a_pattern, a_order, a_occurs, a_otherOrder, a_rank, a_pairRank, a_nodePlace, a_nodeDepth, a_nodeParent, a_nodeTail, a_nodeBranch, a_waitingNodes, a_stateLength, a_stateLink, a_stateEnd, a_stateTails, a_stateBranch, a_lastColumn) := by
  obtain ⟨c, rfl⟩ := zt_arrN a_lastColumn
  have e0 := zt_rk_LL (g := zt_g t L) (L := L)
  have e1 : L + 1 - L = 1 := by omega
  have a : wX_buildLastColumn_21 post (nI L) f_patternLength f_distinctFound f_longestFound f_nodeCount f_stateCount (L + 1) (nI (zt_rk (zt_g t L) L L L)) (nI L - 1) (nI (L + 1 - L)) (fun j => nI (t j)) a_pattern a_order a_occurs a_otherOrder a_rank a_pairRank a_nodePlace a_nodeDepth a_nodeParent a_nodeTail a_nodeBranch a_waitingNodes a_stateLength a_stateLink a_stateEnd a_stateTails a_stateBranch (fun j => nI (zt_up c 0 0 j) - 1) := zt_x_bl21 hL h4 h L (L + 1) (zt_up c 0 0) _ (Nat.le_refl _) (by omega) rfl (zt_CO_0 (zt_us _ _ _)) (fun o ho => by
    have : o = 0 := by omega
    subst this
    rw [zt_us]; omega)
  rw [e0, e1] at a
  exact nm_r (zt_upN c 0 0) (nm_e ⟨L + 1, a⟩)
theorem zt_x_po4 {post : Int32 → Prop} {i0 : Nat} {col : Nat → Nat} (hL : L ≤ 40) (h4 : ∀ i, t i < 4) (hC : zt_CO (zt_g t L) L 0 col) (hb : ∀ o, o < L + 1 → col o ≤ 4) (hi : i0 ≤ L) (h : post (nI i0)) : ∀ i pl f, pl + i = i0 → i < f → wX_placeOfRow_4 post (nI L) f_patternLength f_distinctFound f_longestFound f_nodeCount f_stateCount (nI (L + 1)) (fun j => nI (t j)) a_pattern a_order a_occurs a_otherOrder a_rank a_pairRank a_nodePlace a_nodeDepth a_nodeParent a_nodeTail a_nodeBranch a_waitingNodes a_stateLength a_stateLink a_stateEnd a_stateTails a_stateBranch (fun j => nI ((col) j) - 1) f (nI (zt_rk (zt_g t L) L 0 i)) (nI pl) := by
  have hz := zt_g_Z t L
  intro i
  induction i with
  | zero =>
    intro pl f hp hf
    obtain ⟨f, rfl⟩ : ∃ m, f = m + 1 := ⟨f - 1, by omega⟩
    have e : pl = i0 := by omega
    subst e
    have w := zt_rk_lt (g := zt_g t L) (L := L) (p := 0) (i := 0) (Nat.le_refl _) (Nat.zero_le _)
    have c := hC 0 (Nat.le_refl _) (Nat.zero_le _)
    rw [if_pos rfl] at c
    refine pk_le L pl (fun _ => h) (fun _ => ⟨pk_in (zt_rk (zt_g t L) L 0 0) 41 (by omega), br_t ?_ h⟩)
    simp only [pk_cl (zt_rk (zt_g t L) L 0 0)]
    rw [c]; rfl
  | succ i ih =>
    intro pl f hp hf
    obtain ⟨f, rfl⟩ : ∃ m, f = m + 1 := ⟨f - 1, by omega⟩
    have w := zt_rk_lt (g := zt_g t L) (L := L) (p := 0) (i := i + 1) (Nat.zero_le _) (by omega)
    have c := hC (i + 1) (Nat.zero_le _) (by omega)
    have gi : zt_g t L i = t i + 1 := zt_g_lt (by omega)
    rw [if_neg (by omega), Nat.add_sub_cancel, gi] at c
    have cp := zt_CO_p hz hC (by omega : i + 1 ≤ L) gi
    have ti := h4 i
    refine br_f (nI_ge (by omega) (by omega)) ⟨pk_in (zt_rk (zt_g t L) L 0 (i + 1)) 41 (by omega), ?_⟩
    simp only [pk_cl (zt_rk (zt_g t L) L 0 (i + 1))]
    rw [c, nI_pred]
    refine br_f (zt_ne1 (by omega)) ⟨pk_in (zt_rk (zt_g t L) L 0 (i + 1)) 41 (by omega), zt_x_rw (R := L + 1) (by omega) ti (by omega) hb (nm_r (nI_1 pl) ?_)⟩
    rw [cp]
    exact ih (pl + 1) f (by omega) (by omega)
theorem zt_x_mc50 {post : SX → Prop} {fr to : Nat} {col : Nat → Nat} (hL : L ≤ 40) (h4 : ∀ i, t i < 4) (hC : zt_CO (zt_g t L) L 0 col) (hb : ∀ o, o < L + 1 → col o ≤ 4) (hto : to ≤ L + 1) {S : Nat → Prop} (hS : ∀ i, i ≤ L → (fr ≤ zt_rk (zt_g t L) L 0 i ∧ zt_rk (zt_g t L) L 0 i < to ↔ S i)) (hSL : ∀ i, i ≤ L → S i → i < L) (h : ∀ f : Nat → Nat, zt_mk1 S L f → post (nI L, f_patternLength, f_distinctFound, f_longestFound, f_nodeCount, f_stateCount, nI (L + 1), fun j => nI (t j), a_pattern, a_order, fun j => nI (f j), a_otherOrder, a_rank, a_pairRank, a_nodePlace, a_nodeDepth, a_nodeParent, a_nodeTail, a_nodeBranch, a_waitingNodes, a_stateLength, a_stateLink, a_stateEnd, a_stateTails, a_stateBranch, fun j => nI ((col) j) - 1)) : ∀ d r n (f : Nat → Nat), r + d = to → d < n → fr ≤ r → zt_mk1 (fun i => fr ≤ zt_rk (zt_g t L) L 0 i ∧ zt_rk (zt_g t L) L 0 i < r) L f → wX_markByLastColumn_50 post (nI to) (nI L) f_patternLength f_distinctFound f_longestFound f_nodeCount f_stateCount (nI (L + 1)) n (nI r) (fun j => nI (t j)) a_pattern a_order (fun j => nI (f j)) a_otherOrder a_rank a_pairRank a_nodePlace a_nodeDepth a_nodeParent a_nodeTail a_nodeBranch a_waitingNodes a_stateLength a_stateLink a_stateEnd a_stateTails a_stateBranch (fun j => nI (col j) - 1) := by
  have hz := zt_g_Z t L
  intro d
  induction d with
  | zero =>
    intro r n f hr hn hfr hf
    obtain ⟨n, rfl⟩ : ∃ m, n = m + 1 := ⟨n - 1, by omega⟩
    have e : r = to := by omega
    subst e
    exact br_t (nI_le (Nat.le_refl _) (by omega)) (h f (zt_mk1_c hf (fun i hi => (hS i (by omega)).symm)))
  | succ d ih =>
    intro r n f hr hn hfr hf
    obtain ⟨n, rfl⟩ : ∃ m, n = m + 1 := ⟨n - 1, by omega⟩
    obtain ⟨i, i1, i2, ei⟩ := zt_rk_sur (g := zt_g t L) (L := L) (p := 0) hz (o := r) (by omega)
    have iL := hSL i i2 ((hS i i2).1 ⟨by omega, by omega⟩)
    refine br_f (nI_ge (by omega) (by omega)) ?_
    have P : ∀ post' : Int32 → Prop, post' (nI i) → wpX_placeOfRow post' (nI L, f_patternLength, f_distinctFound, f_longestFound, f_nodeCount, f_stateCount, nI (L + 1), fun j => nI (t j), a_pattern, a_order, fun j => nI (f j), a_otherOrder, a_rank, a_pairRank, a_nodePlace, a_nodeDepth, a_nodeParent, a_nodeTail, a_nodeBranch, a_waitingNodes, a_stateLength, a_stateLink, a_stateEnd, a_stateTails, a_stateBranch, fun j => nI ((col) j) - 1) (nI r) := fun post' hp => by
      rw [← ei]
      exact ⟨i + 1, zt_x_po4 hL h4 hC hb i2 hp i 0 _ (by omega) (by omega)⟩
    refine P _ ⟨pk_in i 40 (by omega), nm_r (zt_upE i 1 (pk_cl i) zt_b1) (nm_r (nI_1 r) (ih (r + 1) n _ (by omega) (by omega) (by omega) (zt_mk1_1 hf (fun j hj => ?_))))⟩
    constructor
    · rintro ⟨a, b⟩
      by_cases z : zt_rk (zt_g t L) L 0 j = r
      · exact Or.inr (zt_rk_inj hz (Nat.zero_le _) (by omega) (Nat.zero_le _) i2 (z.trans ei.symm))
      · exact Or.inl ⟨a, by omega⟩
    · rintro (⟨a, b⟩ | z)
      · exact ⟨a, by omega⟩
      · subst z; omega
theorem zt_x_mc14 {post : SX → Prop} {col f0 : Nat → Nat} (hL : L ≤ 40) (hm : m ≤ 10) (m0 : 0 < m) (h4 : ∀ i, t i < 4) (p4 : ∀ i, pat i < 4) (hC : zt_CO (zt_g t L) L 0 col) (hb : ∀ o, o < L + 1 → col o ≤ 4) (hf : ∀ i, i < L → f0 i = 0) (h : ∀ f : Nat → Nat, zt_mk1 (zt_oc (zt_g t L) pat m) L f → post (nI L, nI m, f_distinctFound, f_longestFound, f_nodeCount, f_stateCount, nI (L + 1), fun j => nI (t j), fun j => nI (pat j), a_order, fun j => nI (f j), a_otherOrder, a_rank, a_pairRank, a_nodePlace, a_nodeDepth, a_nodeParent, a_nodeTail, a_nodeBranch, a_waitingNodes, a_stateLength, a_stateLink, a_stateEnd, a_stateTails, a_stateBranch, fun j => nI ((col) j) - 1)) : ∀ st f fr to (x : Int32), st ≤ m → st < f → x = nI st - 1 → zt_AB (zt_g t L) pat L m st fr to → wX_markByLastColumn_14 post (nI L) (nI m) f_distinctFound f_longestFound f_nodeCount f_stateCount (nI (L + 1)) (fun j => nI (t j)) (fun j => nI (pat j)) a_order (fun j => nI (f0 j)) a_otherOrder a_rank a_pairRank a_nodePlace a_nodeDepth a_nodeParent a_nodeTail a_nodeBranch a_waitingNodes a_stateLength a_stateLink a_stateEnd a_stateTails a_stateBranch (fun j => nI ((col) j) - 1) f (nI fr) (nI to) x := by
  have hz := zt_g_Z t L
  intro st
  induction st with
  | zero =>
    intro f fr to x hst hf' hx hA
    obtain ⟨f, rfl⟩ : ∃ m, f = m + 1 := ⟨f - 1, by omega⟩
    subst hx
    have le := zt_AB_le hA
    refine br_t (by decide) ⟨to - fr + 1, zt_x_mc50 (fr := fr) hL h4 hC hb le.2 (S := zt_oc (zt_g t L) pat m) (fun i hi => zt_AB_f hz hA hi) (fun i hi x => by have := zt_oc_L hz x m0; omega) h (to - fr) fr _ f0 (by omega) (by omega) (Nat.le_refl _) (zt_mk1_c (zt_mk1_0 hf) (fun i hi => ⟨fun x => by omega, fun x => x.elim⟩))⟩
  | succ st ih =>
    intro f fr to x hst hf' hx hA
    obtain ⟨f, rfl⟩ : ∃ m, f = m + 1 := ⟨f - 1, by omega⟩
    rw [nI_pred] at hx
    subst hx
    have le := zt_AB_le hA
    have es : (nI st).toNatClampNeg = st := pk_cl st
    refine br_f (nI_pos (by omega)) ⟨pk_in st 10 (by omega), ?_⟩
    simp only [es]
    refine zt_x_rw (R := L + 1) (by omega) (p4 st) (by omega) hb ⟨pk_in st 10 (by omega), zt_x_rw (R := L + 1) (by omega) (p4 st) (by omega) hb (nm_r (zt_m1s _) (ih f _ _ _ (by omega) (by omega) rfl (zt_AB_1 hz hC (by omega) hA)))⟩
theorem zt_x_mc {post : SX → Prop} {col f0 : Nat → Nat} (hL : L ≤ 40) (hm : m ≤ 10) (m0 : 0 < m) (h4 : ∀ i, t i < 4) (p4 : ∀ i, pat i < 4) (hC : zt_CO (zt_g t L) L 0 col) (hb : ∀ o, o < L + 1 → col o ≤ 4) (hf : ∀ i, i < L → f0 i = 0) (h : ∀ f : Nat → Nat, zt_mk1 (zt_oc (zt_g t L) pat m) L f → post (nI L, nI m, f_distinctFound, f_longestFound, f_nodeCount, f_stateCount, nI (L + 1), fun j => nI (t j), fun j => nI (pat j), a_order, fun j => nI (f j), a_otherOrder, a_rank, a_pairRank, a_nodePlace, a_nodeDepth, a_nodeParent, a_nodeTail, a_nodeBranch, a_waitingNodes, a_stateLength, a_stateLink, a_stateEnd, a_stateTails, a_stateBranch, fun j => nI ((col) j) - 1)) : wpX_markByLastColumn post (nI L, nI m, f_distinctFound, f_longestFound, f_nodeCount, f_stateCount, nI (L + 1), fun j => nI (t j), fun j => nI (pat j), a_order, fun j => nI (f0 j), a_otherOrder, a_rank, a_pairRank, a_nodePlace, a_nodeDepth, a_nodeParent, a_nodeTail, a_nodeBranch, a_waitingNodes, a_stateLength, a_stateLink, a_stateEnd, a_stateTails, a_stateBranch, fun j => nI ((col) j) - 1) :=
  nm_e ⟨m + 1, zt_x_mc14 hL hm m0 h4 p4 hC hb hf h m _ 0 (L + 1) _ (Nat.le_refl _) (by omega) rfl zt_AB_0⟩
end
end
section
/-! engine 3: the automaton built -/
def zt_AU (t : Nat → Nat) (L k n : Nat) (l lk en tl b : Nat → Nat) (la : Nat) : Prop := (∃ E, zt_M t L k n E l (fun v => lk v - 1) b en la) ∧ lk 0 = 0 ∧ (∀ v, 0 < v → v < n → 0 < lk v) ∧ ∀ v, v < n → tl v = 0
/-- the first turning, step by step; s is the state + 1, 0 for none -/
def zt_J1 (t : Nat → Nat) (L k n : Nat) (E l b : Nat → Nat) (i s : Nat) (b' : Nat → Nat) : Prop := (s = 0 ∧ zt_T1 t L k n E l b 0 b') ∨ ∃ v, s = v + 1 ∧ v < n ∧ zt_On t L k E l v ∧ zt_T1 t L k n E l b (l v + 1) b' ∧ i + l v ≤ k
def zt_J2 (t : Nat → Nat) (L k n : Nat) (E l b : Nat → Nat) (x lv : Nat) (b1 : Nat → Nat) (i s : Nat) (b' : Nat → Nat) : Prop := (s = 0 ∧ zt_T2 t L k n E l b x (lv + 1) b1 0 b') ∨ ∃ w, s = w + 1 ∧ w < n ∧ zt_On t L k E l w ∧ l w ≤ lv ∧ zt_T2 t L k n E l b x (lv + 1) b1 (l w + 1) b' ∧ i + l w ≤ lv
section
variable {t : Nat → Nat} {L k n : Nat} {E l lk b en : Nat → Nat} {la : Nat}
theorem zt_b_lt (ht : ∀ i, t i < 4) (h : zt_M t L k n E l (fun v => lk v - 1) b en la) {v : Nat} (hv : v < n) : b (v * 4 + t k) < n := by
  by_cases c : b (v * 4 + t k) = 0
  · have := h.1.1.1
    have n0 : 0 < n := this
    omega
  · obtain ⟨e, e1, e2, e3⟩ := h.2.1.2 v _ hv (ht k) c
    have := (h.2.1.1 v e hv e1 e3).2.1
    rw [e2] at this
    exact this
theorem zt_J1_s (ht : ∀ i, t i < 4) (hk : k < L) (h : zt_M t L k n E l (fun v => lk v - 1) b en la) (l0 : lk 0 = 0) (lp : ∀ v, 0 < v → v < n → 0 < lk v) {i s : Nat} {b' : Nat → Nat} (H : zt_J1 t L k n E l b i (s + 1) b') : s < n ∧ i ≤ k ∧ zt_On t L k E l s ∧ zt_T1 t L k n E l b (l s + 1) b' ∧ b' (s * 4 + t k) < n ∧ (b' (s * 4 + t k) = 0 → lk s ≤ n ∧ zt_J1 t L k n E l b (i + 1) (lk s) (zt_up b' (s * 4 + t k) n)) := by
  rcases H with ⟨z, _⟩ | ⟨v, e, hv, on, hT, hi⟩
  · omega
  · have e' : v = s := by omega
    subst e'
    have eb := hT.2.2 v (t k) hv (ht k) (fun x => by omega)
    have nx := zt_T_next (by omega) h.1 (Nat.le_refl k) hv on
    refine ⟨hv, by omega, on, hT, by rw [eb]; exact zt_b_lt ht h hv, fun z => ?_⟩
    by_cases v0 : v = 0
    · subst v0
      rw [l0]
      refine ⟨Nat.zero_le _, Or.inl ⟨rfl, zt_T1_1 ht hv hT z (Nat.zero_le _) (fun u hu onu _ => nx.1 rfl u hu onu) on⟩⟩
    · obtain ⟨a1, a2, a3, a4⟩ := nx.2 (by omega)
      have lpv := lp v (by omega) hv
      have a1' : lk v - 1 < n := a1
      have a3' : l (lk v - 1) < l v := a3
      refine ⟨by omega, Or.inr ⟨lk v - 1, by omega, a1, a2, zt_T1_1 ht hv hT z (by omega) a4 on, by omega⟩⟩
theorem zt_J1_0 (hk : k < L) (h : zt_M t L k n E l (fun v => lk v - 1) b en la) {b' : Nat → Nat} (h0 : ∀ c, c < 4 → b' (n * 4 + c) = 0) (h1 : ∀ u c, u < n → c < 4 → b' (u * 4 + c) = b (u * 4 + c)) : zt_J1 t L k n E l b 0 (la + 1) b' := by
  obtain ⟨a1, a2, a3⟩ := h.2.2.2.2.1
  refine Or.inr ⟨la, rfl, a1, ?_, zt_T1_0 (by omega) h.1 (by omega) h0 h1, by omega⟩
  show l la ≤ zt_V t L (E la) k
  rw [a3, zt_V_s (by omega)]; omega
theorem zt_J2_s (ht : ∀ i, t i < 4) (hk : k < L) (h : zt_M t L k n E l (fun v => lk v - 1) b en la) (l0 : lk 0 = 0) (lp : ∀ v, 0 < v → v < n → 0 < lk v) {x lv : Nat} {b1 : Nat → Nat} (hb1 : ∀ u c, u < n → c < 4 → ¬ (c = t k ∧ zt_On t L k E l u ∧ lv + 1 ≤ l u) → b1 (u * 4 + c) = b (u * 4 + c)) {i s : Nat} {b' : Nat → Nat} (H : zt_J2 t L k n E l b x lv b1 i (s + 1) b') : s < n ∧ i ≤ lv ∧ zt_On t L k E l s ∧ l s ≤ lv ∧ zt_T2 t L k n E l b x (lv + 1) b1 (l s + 1) b' ∧ b' (s * 4 + t k) < n ∧ (b' (s * 4 + t k) = x → lk s ≤ n ∧ zt_J2 t L k n E l b x lv b1 (i + 1) (lk s) (zt_up b' (s * 4 + t k) (n + 1))) := by
  rcases H with ⟨z, _⟩ | ⟨v, e, hv, on, hlv, hT, hi⟩
  · omega
  · have e' : v = s := by omega
    subst e'
    have eb := hT.2 v (t k) (by omega) (ht k) (fun x => by omega)
    have eb2 := hb1 v (t k) hv (ht k) (fun x => by omega)
    have nx := zt_T_next (by omega) h.1 (Nat.le_refl k) hv on
    refine ⟨hv, by omega, on, hlv, hT, by rw [eb, eb2]; exact zt_b_lt ht h hv, fun z => ?_⟩
    by_cases v0 : v = 0
    · subst v0
      rw [l0]
      refine ⟨Nat.zero_le _, Or.inl ⟨rfl, zt_T2_1 ht hv hb1 (by omega) hT z (Nat.zero_le _) (fun u hu onu _ => nx.1 rfl u hu onu) on⟩⟩
    · obtain ⟨a1, a2, a3, a4⟩ := nx.2 (by omega)
      have lpv := lp v (by omega) hv
      have a1' : lk v - 1 < n := a1
      have a3' : l (lk v - 1) < l v := a3
      refine ⟨by omega, Or.inr ⟨lk v - 1, by omega, a1, a2, by omega, zt_T2_1 ht hv hb1 (by omega) hT z (by omega) a4 on, by omega⟩⟩
end
def zt_cd (b : Nat → Nat) (n x c : Nat) : Nat → Nat := fun j => if j / 4 = n ∧ j % 4 < c then b (x * 4 + j % 4) else b j
theorem zt_cd_0 (b : Nat → Nat) (n x : Nat) : zt_cd b n x 0 = b := funext fun j => if_neg (by omega)
theorem zt_cd_4 (b : Nat → Nat) (n x : Nat) : zt_cd b n x 4 = zt_cb b n x := funext fun j => by
  unfold zt_cd zt_cb
  by_cases c : j / 4 = n
  · rw [if_pos ⟨c, by omega⟩, if_pos c]
  · rw [if_neg (fun x => c x.1), if_neg c]
theorem zt_cd_x (b : Nat → Nat) {n x : Nat} (c : Nat) {q : Nat} (hx : x ≠ n) (hq : q < 4) : zt_cd b n x c (x * 4 + q) = b (x * 4 + q) := if_neg (by omega)
theorem zt_cd_1 (b : Nat → Nat) {n x : Nat} (c : Nat) (hc : c < 4) : zt_up (zt_cd b n x c) (n * 4 + c) (b (x * 4 + c)) = zt_cd b n x (c + 1) := funext fun j => by
  unfold zt_up zt_cd
  by_cases e : j = n * 4 + c
  · rw [if_pos e, if_pos (by omega)]
    congr 1
    omega
  · rw [if_neg e]
    by_cases f : j / 4 = n ∧ j % 4 < c
    · rw [if_pos f, if_pos (by omega)]
    · rw [if_neg f, if_neg (by omega)]
section
variable {f_length f_patternLength f_distinctFound f_longestFound f_nodeCount f_stateCount f_rowCount : Int32} {a_text a_pattern a_order a_occurs a_otherOrder a_rank a_pairRank a_nodePlace a_nodeDepth a_nodeParent a_nodeTail a_nodeBranch a_waitingNodes a_stateLength a_stateLink a_stateEnd a_stateTails a_stateBranch a_lastColumn : Nat → Int32}
variable {t pat : Nat → Nat} {L m : Nat}
theorem zt_x_ns46 {post : Int32 → SX → Prop} {n : Nat} {b : Nat → Nat} (hn : n < 81) (h : post (nI n) (f_length, f_patternLength, f_distinctFound, f_longestFound, f_nodeCount, f_stateCount, f_rowCount, a_text, a_pattern, a_order, a_occurs, a_otherOrder, a_rank, a_pairRank, a_nodePlace, a_nodeDepth, a_nodeParent, a_nodeTail, a_nodeBranch, a_waitingNodes, a_stateLength, a_stateLink, a_stateEnd, a_stateTails, fun j => nI (zt_zb b n j), a_lastColumn)) : ∀ d c f, c + d = 4 → d < f → wX_newState_46 post (nI n) f_length f_patternLength f_distinctFound f_longestFound f_nodeCount f_stateCount f_rowCount f (nI c) a_text a_pattern a_order a_occurs a_otherOrder a_rank a_pairRank a_nodePlace a_nodeDepth a_nodeParent a_nodeTail a_nodeBranch a_waitingNodes a_stateLength a_stateLink a_stateEnd a_stateTails (fun j => nI (zt_zc b n c j)) a_lastColumn := by
  intro d
  induction d with
  | zero =>
    intro c f hc hf
    obtain ⟨f, rfl⟩ : ∃ m, f = m + 1 := ⟨f - 1, by omega⟩
    have e : c = 4 := by omega
    subst e
    rw [zt_zc_4]
    exact br_t (nI_le (a := 4) (b := 4) (Nat.le_refl _) (by decide)) h
  | succ d ih =>
    intro c f hc hf
    obtain ⟨f, rfl⟩ : ∃ m, f = m + 1 := ⟨f - 1, by omega⟩
    have nx := ih (c + 1) f (by omega) (by omega)
    rw [← zt_zc_1 b n c (by omega)] at nx
    exact br_f (nI_ge (b := 4) (by omega) (by decide)) ⟨pk_in (n * 4 + c) 324 (by omega) (zt_ix4 n c), nm_r (zt_upE (n * 4 + c) 0 (pk_cl _ (zt_ix4 n c)) rfl) (nm_r (nI_1 c) nx)⟩
theorem zt_x_ns {post : Int32 → SX → Prop} {n q e : Nat} {x : Int32} {l lk en tl b : Nat → Nat} (hn : n < 81) (hx : x = nI e - 1) (h : post (nI n) (f_length, f_patternLength, f_distinctFound, f_longestFound, f_nodeCount, nI (n + 1), f_rowCount, a_text, a_pattern, a_order, a_occurs, a_otherOrder, a_rank, a_pairRank, a_nodePlace, a_nodeDepth, a_nodeParent, a_nodeTail, a_nodeBranch, a_waitingNodes, fun j => nI ((zt_up l n q) j), fun j => nI ((zt_up lk n 0) j) - 1, fun j => nI ((zt_up en n e) j) - 1, fun j => nI ((zt_up tl n 0) j), fun j => nI ((zt_zb b n) j), a_lastColumn)) : wpX_newState post (f_length, f_patternLength, f_distinctFound, f_longestFound, f_nodeCount, nI (n), f_rowCount, a_text, a_pattern, a_order, a_occurs, a_otherOrder, a_rank, a_pairRank, a_nodePlace, a_nodeDepth, a_nodeParent, a_nodeTail, a_nodeBranch, a_waitingNodes, fun j => nI ((l) j), fun j => nI ((lk) j) - 1, fun j => nI ((en) j) - 1, fun j => nI ((tl) j), fun j => nI ((b) j), a_lastColumn) (nI q) x := by
  have en' : (nI n).toNatClampNeg = n := pk_cl n
  have vn : vp_in (nI n) 81 := pk_in n 81 hn
  refine nm_r (nI_1 n) ⟨vn, nm_r (zt_upE n q en' rfl) ⟨vn, nm_r (zt_upM n e en' hx) ⟨vn, nm_r (zt_upM n 0 en' zt_Im1) ⟨vn, nm_r (zt_upE n 0 en' rfl) ⟨5, ?_⟩⟩⟩⟩⟩
  have a := zt_x_ns46 (b := b) hn h 4 0 5 (by omega) (by omega)
  rw [zt_zc_0] at a
  exact a
theorem zt_x_tu6 {post : Int32 → SX → Prop} {c old tg sc : Nat} {lk : Nat → Nat} (J : Nat → Nat → (Nat → Nat) → Prop) (hsc : sc ≤ 81) (hc : c < 4) (hold : old < 2 ^ 31) (hs : ∀ i s b, J i (s + 1) b → s < 81 ∧ i < sc ∧ b (s * 4 + c) < 2 ^ 31 ∧ (b (s * 4 + c) = old → lk s ≤ 81 ∧ J (i + 1) (lk s) (zt_up b (s * 4 + c) tg))) (hN : ∀ i b, J i 0 b → post (-1) (f_length, f_patternLength, f_distinctFound, f_longestFound, f_nodeCount, nI sc, f_rowCount, a_text, a_pattern, a_order, a_occurs, a_otherOrder, a_rank, a_pairRank, a_nodePlace, a_nodeDepth, a_nodeParent, a_nodeTail, a_nodeBranch, a_waitingNodes, a_stateLength, fun j => nI (lk j) - 1, a_stateEnd, a_stateTails, fun j => nI (b j), a_lastColumn)) (hR : ∀ i s b, J i (s + 1) b → b (s * 4 + c) ≠ old → post (nI s) (f_length, f_patternLength, f_distinctFound, f_longestFound, f_nodeCount, nI sc, f_rowCount, a_text, a_pattern, a_order, a_occurs, a_otherOrder, a_rank, a_pairRank, a_nodePlace, a_nodeDepth, a_nodeParent, a_nodeTail, a_nodeBranch, a_waitingNodes, a_stateLength, fun j => nI (lk j) - 1, a_stateEnd, a_stateTails, fun j => nI (b j), a_lastColumn)) : ∀ f i s (b : Nat → Nat) (x : Int32), sc - i < f → i ≤ sc → s ≤ 81 → x = nI s - 1 → J i s b → wX_turnBranches_6 post (nI c) (nI old) (nI tg) f_length f_patternLength f_distinctFound f_longestFound f_nodeCount (nI sc) f_rowCount f x (nI i) a_text a_pattern a_order a_occurs a_otherOrder a_rank a_pairRank a_nodePlace a_nodeDepth a_nodeParent a_nodeTail a_nodeBranch a_waitingNodes a_stateLength (fun j => nI (lk j) - 1) a_stateEnd a_stateTails (fun j => nI (b j)) a_lastColumn := by
  intro f
  induction f with
  | zero => intro i s b x hf; omega
  | succ f ih =>
    intro i s b x hf hi hs81 hx H
    by_cases s0 : s = 0
    · subst s0
      subst hx
      exact pk_le sc i (fun _ => hN i b H) (fun _ => br_t rfl (hN i b H))
    · obtain ⟨s, rfl⟩ : ∃ s', s = s' + 1 := ⟨s - 1, by omega⟩
      rw [nI_pred] at hx
      subst hx
      obtain ⟨a1, a2, a3, a4⟩ := hs i s b H
      have ei : (nI s * 4 + nI c).toNatClampNeg = s * 4 + c := pk_cl _ (zt_ix4 s c)
      have vi : vp_in (nI s * 4 + nI c) 324 := pk_in (s * 4 + c) 324 (by omega) (zt_ix4 s c)
      have es : (nI s).toNatClampNeg = s := pk_cl s
      refine br_f (nI_ge a2 (by omega)) (br_f (zt_ne1 (by omega)) ⟨vi, zt_br (d := b (s * 4 + c) = old) ?_ (fun z => ⟨vi, nm_r (zt_upE (s * 4 + c) tg ei rfl) ⟨pk_in s 81 a1, nm_r (e' := nI (lk s) - 1) (by simp only [es]) (nm_r (nI_1 i) (ih (i + 1) (lk s) _ _ (by omega) (by omega) (a4 z).1 rfl (a4 z).2))⟩⟩) (fun z => hR i s b H z)⟩)
      simp only [ei]
      exact nI_eq a3 hold
theorem zt_x_nt22 {post : Int32 → SX → Prop} {n x : Nat} {b : Nat → Nat} (hn : n < 81) (hx : x < n) (h : post (nI n) (f_length, f_patternLength, f_distinctFound, f_longestFound, f_nodeCount, f_stateCount, f_rowCount, a_text, a_pattern, a_order, a_occurs, a_otherOrder, a_rank, a_pairRank, a_nodePlace, a_nodeDepth, a_nodeParent, a_nodeTail, a_nodeBranch, a_waitingNodes, a_stateLength, a_stateLink, a_stateEnd, a_stateTails, fun j => nI (zt_cb b n x j), a_lastColumn)) : ∀ d c f, c + d = 4 → d < f → wX_newTwin_22 post (nI x) (nI n) f_length f_patternLength f_distinctFound f_longestFound f_nodeCount f_stateCount f_rowCount f (nI c) a_text a_pattern a_order a_occurs a_otherOrder a_rank a_pairRank a_nodePlace a_nodeDepth a_nodeParent a_nodeTail a_nodeBranch a_waitingNodes a_stateLength a_stateLink a_stateEnd a_stateTails (fun j => nI (zt_cd b n x c j)) a_lastColumn := by
  intro d
  induction d with
  | zero =>
    intro c f hc hf
    obtain ⟨f, rfl⟩ : ∃ m, f = m + 1 := ⟨f - 1, by omega⟩
    have e : c = 4 := by omega
    subst e
    rw [zt_cd_4]
    exact br_t (nI_le (a := 4) (b := 4) (Nat.le_refl _) (by decide)) h
  | succ d ih =>
    intro c f hc hf
    obtain ⟨f, rfl⟩ : ∃ m, f = m + 1 := ⟨f - 1, by omega⟩
    have nx := ih (c + 1) f (by omega) (by omega)
    rw [← zt_cd_1 b c (by omega)] at nx
    refine br_f (nI_ge (b := 4) (by omega) (by decide)) ⟨pk_in (x * 4 + c) 324 (by omega) (zt_ix4 x c), pk_in (n * 4 + c) 324 (by omega) (zt_ix4 n c), nm_r (zt_upE (n * 4 + c) (b (x * 4 + c)) (pk_cl _ (zt_ix4 n c)) ?_) (nm_r (nI_1 c) nx)⟩
    simp only [pk_cl _ (zt_ix4 x c)]
    rw [zt_cd_x b c (by omega) (by omega)]
theorem zt_x_nt {post : Int32 → SX → Prop} {n x q : Nat} {l lk en tl b : Nat → Nat} (hn : n < 81) (hx : x < n) (h : post (nI n) (f_length, f_patternLength, f_distinctFound, f_longestFound, f_nodeCount, nI (n + 1), f_rowCount, a_text, a_pattern, a_order, a_occurs, a_otherOrder, a_rank, a_pairRank, a_nodePlace, a_nodeDepth, a_nodeParent, a_nodeTail, a_nodeBranch, a_waitingNodes, fun j => nI ((zt_up l n q) j), fun j => nI ((zt_up lk n (lk x)) j) - 1, fun j => nI ((zt_up en n 0) j) - 1, fun j => nI ((zt_up tl n 0) j), fun j => nI ((zt_cb (zt_zb b n) n x) j), a_lastColumn)) : wpX_newTwin post (f_length, f_patternLength, f_distinctFound, f_longestFound, f_nodeCount, nI (n), f_rowCount, a_text, a_pattern, a_order, a_occurs, a_otherOrder, a_rank, a_pairRank, a_nodePlace, a_nodeDepth, a_nodeParent, a_nodeTail, a_nodeBranch, a_waitingNodes, fun j => nI ((l) j), fun j => nI ((lk) j) - 1, fun j => nI ((en) j) - 1, fun j => nI ((tl) j), fun j => nI ((b) j), a_lastColumn) (nI x) (nI q) := by
  have ex : (nI x).toNatClampNeg = x := pk_cl x
  have en' : (nI n).toNatClampNeg = n := pk_cl n
  unfold wpX_newTwin
  refine zt_x_ns (e := 0) hn zt_Im1 ⟨pk_in x 81 (by omega), pk_in n 81 hn, nm_r (zt_upM n (lk x) en' ?_) ⟨5, ?_⟩⟩
  · simp only [ex]
    rw [zt_un _ _ (by omega)]
  · rw [zt_upp]
    have a := zt_x_nt22 (b := zt_zb b n) hn hx h 4 0 5 (by omega) (by omega)
    rw [zt_cd_0] at a
    exact a
end
end
section
/-! engine 3: a letter read -/
section
variable {t : Nat → Nat} {L k n : Nat} {E l lk en tl b : Nat → Nat} {la : Nat}
theorem zt_upK {f : Nat → Nat} {y : Int32} (k v : Nat) (hy : y = nI v - 1) : upd (fun j => nI (f j) - 1) k y = fun j => nI (zt_up f k v j) - 1 := by
  rw [hy]; exact zt_upN f k v
theorem zt_tz {n : Nat} {tl : Nat → Nat} (h : ∀ v, v < n → tl v = 0) (v : Nat) (hv : v < n + 1) : zt_up tl n 0 v = 0 := by
  by_cases c : v = n
  · rw [c, zt_us]
  · rw [zt_un _ _ c]; exact h v (by omega)
theorem zt_AU_leaf {b' : Nat → Nat} {w : Nat} (n0 : 0 < n) (l0 : lk 0 = 0) (lp : ∀ v, 0 < v → v < n → 0 < lk v) (tz : ∀ v, v < n → tl v = 0) (h : zt_M t L (k + 1) (n + 1) (zt_up E n (k + 1)) (zt_up l n (k + 1)) (zt_up (fun v => lk v - 1) n w) b' (zt_up en n (k + 1)) n) : zt_AU t L (k + 1) (n + 1) (zt_up l n (k + 1)) (zt_up (zt_up lk n 0) n (w + 1)) (zt_up en n (k + 1)) (zt_up tl n 0) b' n := by
  rw [zt_upp]
  refine ⟨⟨zt_up E n (k + 1), ?_⟩, ?_, fun v v0 hv => ?_, zt_tz tz⟩
  · rw [zt_ups]; exact h
  · rw [zt_un _ _ (by omega)]; exact l0
  · by_cases c : v = n
    · rw [c, zt_us]; omega
    · rw [zt_un _ _ c]; exact lp v v0 (by omega)
theorem zt_AU_twin {b' : Nat → Nat} {x m : Nat} (n0 : 0 < n) (x0 : 0 < x) (hx : x < n) (l0 : lk 0 = 0) (lp : ∀ v, 0 < v → v < n → 0 < lk v) (tz : ∀ v, v < n → tl v = 0) (h : zt_M t L (k + 1) (n + 2) (zt_up (zt_up E (n + 1) (E x)) n (k + 1)) (zt_up (zt_up l (n + 1) m) n (k + 1)) (zt_up (zt_up (zt_up (fun v => lk v - 1) (n + 1) (lk x - 1)) x (n + 1)) n (n + 1)) b' (zt_up (zt_up en n (k + 1)) (n + 1) 0) n) : zt_AU t L (k + 1) (n + 2) (zt_up (zt_up l n (k + 1)) (n + 1) m) (zt_up (zt_up (zt_up (zt_up lk n 0) (n + 1) (zt_up lk n 0 x)) x (n + 2)) n (n + 2)) (zt_up (zt_up en n (k + 1)) (n + 1) 0) (zt_up (zt_up tl n 0) (n + 1) 0) b' n := by
  have ep : (fun v => zt_up (zt_up (zt_up (zt_up lk n 0) (n + 1) (zt_up lk n 0 x)) x (n + 2)) n (n + 2) v - 1) = zt_up (zt_up (zt_up (fun v => lk v - 1) (n + 1) (lk x - 1)) x (n + 1)) n (n + 1) := by
    funext v
    by_cases c1 : v = n
    · subst c1
      rw [zt_us, zt_us]; omega
    · rw [zt_un _ _ c1, zt_un _ _ c1]
      by_cases c2 : v = x
      · subst c2
        rw [zt_us, zt_us]; omega
      · rw [zt_un _ _ c2, zt_un _ _ c2]
        by_cases c3 : v = n + 1
        · subst c3
          rw [zt_us, zt_us, zt_un _ _ (by omega)]
        · rw [zt_un _ _ c3, zt_un _ _ c3, zt_un _ _ c1]
  rw [zt_upc l _ _ (by omega : n ≠ n + 1)]
  refine ⟨⟨_, by rw [ep]; exact h⟩, ?_, fun v v0 hv => ?_, zt_tz (zt_tz tz)⟩
  · rw [zt_un _ _ (by omega), zt_un _ _ (by omega), zt_un _ _ (by omega), zt_un _ _ (by omega)]; exact l0
  · by_cases c1 : v = n
    · rw [c1, zt_us]; omega
    · rw [zt_un _ _ c1]
      by_cases c2 : v = x
      · rw [c2, zt_us]; omega
      · rw [zt_un _ _ c2]
        by_cases c3 : v = n + 1
        · rw [c3, zt_us, zt_un _ _ (by omega)]; exact lp x x0 hx
        · rw [zt_un _ _ c3, zt_un _ _ c1]; exact lp v v0 (by omega)
end
section
variable {f_length f_patternLength f_distinctFound f_longestFound f_nodeCount f_stateCount f_rowCount : Int32} {a_text a_pattern a_order a_occurs a_otherOrder a_rank a_pairRank a_nodePlace a_nodeDepth a_nodeParent a_nodeTail a_nodeBranch a_waitingNodes a_stateLength a_stateLink a_stateEnd a_stateTails a_stateBranch a_lastColumn : Nat → Int32}
variable {t pat : Nat → Nat} {L m : Nat}
theorem zt_x_rl {post : Int32 → SX → Prop} {k n la : Nat} {l lk en tl b : Nat → Nat} (hL : L ≤ 40) (hk : k < L) (h4 : ∀ i, t i < 4) (H : zt_AU t L k n l lk en tl b la) (h : ∀ (n : Nat) (l lk en tl b : Nat → Nat) (la : Nat), zt_AU t L (k + 1) n l lk en tl b la → post (nI la) (nI L, f_patternLength, f_distinctFound, f_longestFound, f_nodeCount, nI (n), f_rowCount, fun j => nI (t j), a_pattern, a_order, a_occurs, a_otherOrder, a_rank, a_pairRank, a_nodePlace, a_nodeDepth, a_nodeParent, a_nodeTail, a_nodeBranch, a_waitingNodes, fun j => nI ((l) j), fun j => nI ((lk) j) - 1, fun j => nI ((en) j) - 1, fun j => nI ((tl) j), fun j => nI ((b) j), a_lastColumn)) : wpX_readLetter post (nI L, f_patternLength, f_distinctFound, f_longestFound, f_nodeCount, nI (n), f_rowCount, fun j => nI (t j), a_pattern, a_order, a_occurs, a_otherOrder, a_rank, a_pairRank, a_nodePlace, a_nodeDepth, a_nodeParent, a_nodeTail, a_nodeBranch, a_waitingNodes, fun j => nI ((l) j), fun j => nI ((lk) j) - 1, fun j => nI ((en) j) - 1, fun j => nI ((tl) j), fun j => nI ((b) j), a_lastColumn) (nI la) (nI k) := by
  obtain ⟨⟨E, M⟩, l0, lp, tz⟩ := H
  obtain ⟨n1, n2⟩ := M.2.2.2.2.2
  have laN := M.2.2.2.2.1.1
  have n0 : 0 < n := by omega
  have tk := h4 k
  have ek : (nI k).toNatClampNeg = k := pk_cl k
  have en' : (nI n).toNatClampNeg = n := pk_cl n
  unfold wpX_readLetter
  refine ⟨pk_in k 40 (by omega), nm_r (e' := nI (t k)) (by simp only [ek]) ?_⟩
  rw [nI_1 k]
  refine zt_x_ns (q := k + 1) (e := k + 1) (by omega) (zt_I1 k) ?_
  refine ⟨n + 2, zt_x_tu6 (old := 0) (tg := n) (sc := n + 1) (c := t k) (lk := zt_up lk n 0) (zt_J1 t L k n E l b) (by omega) tk (by omega) (fun i s b' J => ?_) (fun i b' J => ?_) (fun i s b' J hne => ?_) (n + 2) 0 (la + 1) _ _ (by omega) (by omega) (by omega) (zt_I1 la) (zt_J1_0 hk M (fun c hc => zt_zb_n b n hc) (fun u c hu hc => zt_zb_o b (by omega) hc))⟩
  · obtain ⟨a1, a2, a3, a4, a5, a6⟩ := zt_J1_s h4 hk M l0 lp J
    rw [zt_un lk _ (by omega : s ≠ n)]
    exact ⟨by omega, by omega, by omega, fun z => ⟨by have := (a6 z).1; omega, (a6 z).2⟩⟩
  · rcases J with ⟨_, hT⟩ | ⟨v, e, _⟩
    · exact br_t rfl ⟨pk_in n 81 (by omega), nm_r (zt_upM n 1 en' rfl) (h _ _ _ _ _ _ _ (zt_AU_leaf n0 l0 lp tz (zt_T1_none h4 hk M hT (zt_us _ _ _) (fun u hu => zt_un _ _ (by omega)))))⟩
    · omega
  · obtain ⟨a1, a2, on, hT, a5, a6⟩ := zt_J1_s h4 hk M l0 lp J
    obtain ⟨x, hx⟩ : ∃ x, b' (s * 4 + t k) = x := ⟨_, rfl⟩
    rw [hx] at hne a5
    have es : (nI s).toNatClampNeg = s := pk_cl s
    have ex : (nI x).toNatClampNeg = x := pk_cl x
    have ei : (nI s * 4 + nI (t k)).toNatClampNeg = s * 4 + t k := pk_cl _ (zt_ix4 _ _)
    have ls : l s ≤ k := by
      have o' : l s ≤ zt_V t L (E s) k := on
      have b1 : E s ≤ k := (M.1.2.1 s a1).1
      have := zt_V_r (t := t) (L := L) (e := E s) (f := k) (by omega) (by omega)
      omega
    have lx : l x ≤ k := by
      have c := M.1.2.1 x a5
      have c1 : E x ≤ k := c.1
      have c2 := c.2.1
      rw [zt_V_s (by omega)] at c2
      omega
    refine br_f (zt_ne1 (by omega)) ⟨pk_in (s * 4 + t k) 324 (by omega) (zt_ix4 _ _), nm_r (e' := nI x) (by simp only [ei, hx]) ⟨pk_in x 81 (by omega), pk_in s 81 (by omega), ?_⟩⟩
    simp only [ex, es]
    rw [zt_un l _ (by omega : x ≠ n), zt_un l _ (by omega : s ≠ n), nI_1 (l s)]
    refine zt_br (nI_eq (by omega) (by omega)) (fun e => ?_) (fun e => ?_)
    · exact ⟨pk_in n 81 (by omega), nm_r (zt_upM n (x + 1) en' (zt_I1 x)) (h _ _ _ _ _ _ _ (zt_AU_leaf n0 l0 lp tz (zt_T1_leaf h4 hk M a1 on hT hx hne e (zt_us _ _ _) (fun u hu => zt_un _ _ (by omega)))))⟩
    · refine ⟨pk_in s 81 (by omega), zt_x_nt (n := n + 1) (x := x) (q := l s + 1) (by omega) (by omega) ?_⟩
      have hb1 : ∀ u c, u < n + 1 → c < 4 → zt_cb (zt_zb b' (n + 1)) (n + 1) x (u * 4 + c) = b' (u * 4 + c) := fun u c hu hc => by
        rw [zt_cb_o _ _ (by omega) hc, zt_zb_o _ (by omega) hc]
      have hb2 : ∀ c, c < 4 → zt_cb (zt_zb b' (n + 1)) (n + 1) x ((n + 1) * 4 + c) = b' (x * 4 + c) := fun c hc => by
        rw [zt_cb_n _ _ _ hc, zt_zb_o _ (by omega) hc]
      have hb3 : ∀ u c, u < n → c < 4 → ¬ (c = t k ∧ zt_On t L k E l u ∧ l s + 1 ≤ l u) → zt_cb (zt_zb b' (n + 1)) (n + 1) x (u * 4 + c) = b (u * 4 + c) := fun u c hu hc hne' => (hb1 u c (by omega) hc).trans (hT.2.2 u c hu hc hne')
      have fin : ∀ (d : Nat) (b'' : Nat → Nat), zt_T2 t L k n E l b x (l s + 1) (zt_cb (zt_zb b' (n + 1)) (n + 1) x) d b'' → (d = 0 ∨ ∃ w, w < n ∧ zt_On t L k E l w ∧ l w ≤ l s ∧ d = l w + 1 ∧ b'' (w * 4 + t k) ≠ x) → post (nI n) (nI L, f_patternLength, f_distinctFound, f_longestFound, f_nodeCount, nI (n + 2), f_rowCount, fun j => nI (t j), a_pattern, a_order, a_occurs, a_otherOrder, a_rank, a_pairRank, a_nodePlace, a_nodeDepth, a_nodeParent, a_nodeTail, a_nodeBranch, a_waitingNodes, fun j => nI ((zt_up (zt_up l n (k + 1)) (n + 1) (l s + 1)) j), fun j => nI ((zt_up (zt_up (zt_up (zt_up lk n 0) (n + 1) (zt_up lk n 0 x)) x (n + 2)) n (n + 2)) j) - 1, fun j => nI ((zt_up (zt_up en n (k + 1)) (n + 1) 0) j) - 1, fun j => nI ((zt_up (zt_up tl n 0) (n + 1) 0) j), fun j => nI ((b'') j), a_lastColumn) := fun d b'' T2 hd =>
        h _ _ _ _ _ _ _ (zt_AU_twin n0 (by omega) a5 l0 lp tz (zt_T2_end h4 hk M a1 on hT hx hne e hb1 hb2 T2 hd (by rw [zt_un _ _ (by omega), zt_us]) (zt_us _ _ _) (fun u hu => by rw [zt_un _ _ (by omega), zt_un _ _ (by omega)])))
      refine ⟨n + 3, zt_x_tu6 (old := x) (tg := n + 1) (sc := n + 2) (c := t k) (lk := zt_up (zt_up lk n 0) (n + 1) (zt_up lk n 0 x)) (zt_J2 t L k n E l b x (l s) (zt_cb (zt_zb b' (n + 1)) (n + 1) x)) (by omega) tk (by omega) (fun i s' b'' J' => ?_) (fun i b'' J' => ?_) (fun i s' b'' J' hne' => ?_) (n + 3) 0 (s + 1) _ _ (by omega) (by omega) (by omega) (zt_I1 s) (Or.inr ⟨s, rfl, a1, on, Nat.le_refl _, zt_T2_0, by omega⟩)⟩
      · obtain ⟨c1, c2, c3, c4, c5, c6, c7⟩ := zt_J2_s h4 hk M l0 lp hb3 J'
        rw [zt_un _ _ (by omega : s' ≠ n + 1), zt_un lk _ (by omega : s' ≠ n)]
        exact ⟨by omega, by omega, by omega, fun z => ⟨by have := (c7 z).1; omega, (c7 z).2⟩⟩
      · rcases J' with ⟨_, T2⟩ | ⟨v, e', _⟩
        · exact ⟨pk_in x 81 (by omega), nm_r (zt_upK (f := zt_up (zt_up lk n 0) (n + 1) (zt_up lk n 0 x)) x (n + 2) (zt_I1 (n + 1))) ⟨pk_in n 81 (by omega), nm_r (zt_upM n (n + 2) en' (zt_I1 (n + 1))) (fin 0 b'' T2 (Or.inl rfl))⟩⟩
        · omega
      · obtain ⟨c1, c2, c3, c4, c5, c6, c7⟩ := zt_J2_s h4 hk M l0 lp hb3 J'
        exact ⟨pk_in x 81 (by omega), nm_r (zt_upK (f := zt_up (zt_up lk n 0) (n + 1) (zt_up lk n 0 x)) x (n + 2) (zt_I1 (n + 1))) ⟨pk_in n 81 (by omega), nm_r (zt_upM n (n + 2) en' (zt_I1 (n + 1))) (fin _ b'' c5 (Or.inr ⟨s', c1, c3, c4, rfl, hne'⟩))⟩⟩
theorem zt_x_ba14 {post : SX → Prop} (hL : L ≤ 40) (h4 : ∀ i, t i < 4) (h : ∀ (n : Nat) (l lk en tl b : Nat → Nat) (la : Nat), zt_AU t L L n l lk en tl b la → post (nI L, f_patternLength, f_distinctFound, f_longestFound, f_nodeCount, nI (n), f_rowCount, fun j => nI (t j), a_pattern, a_order, a_occurs, a_otherOrder, a_rank, a_pairRank, a_nodePlace, a_nodeDepth, a_nodeParent, a_nodeTail, a_nodeBranch, a_waitingNodes, fun j => nI ((l) j), fun j => nI ((lk) j) - 1, fun j => nI ((en) j) - 1, fun j => nI ((tl) j), fun j => nI ((b) j), a_lastColumn)) : ∀ (d k f n : Nat) (l lk en tl b : Nat → Nat) (la : Nat), k + d = L → d < f → zt_AU t L k n l lk en tl b la → wX_buildAutomaton_14 post f (nI la) (nI k) (nI L) f_patternLength f_distinctFound f_longestFound f_nodeCount (nI (n)) f_rowCount (fun j => nI (t j)) a_pattern a_order a_occurs a_otherOrder a_rank a_pairRank a_nodePlace a_nodeDepth a_nodeParent a_nodeTail a_nodeBranch a_waitingNodes (fun j => nI ((l) j)) (fun j => nI ((lk) j) - 1) (fun j => nI ((en) j) - 1) (fun j => nI ((tl) j)) (fun j => nI ((b) j)) a_lastColumn := by
  intro d
  induction d with
  | zero =>
    intro k f n l lk en tl b la hk hf H
    obtain ⟨f, rfl⟩ : ∃ m, f = m + 1 := ⟨f - 1, by omega⟩
    have e : k = L := by omega
    subst e
    exact br_t (nI_le (Nat.le_refl _) (by omega)) (h _ _ _ _ _ _ _ H)
  | succ d ih =>
    intro k f n l lk en tl b la hk hf H
    obtain ⟨f, rfl⟩ : ∃ m, f = m + 1 := ⟨f - 1, by omega⟩
    exact br_f (nI_ge (by omega) (by omega)) (zt_x_rl hL (by omega) h4 H (fun n' l' lk' en' tl' b' la' H' => nm_r (nI_1 k) (ih (k + 1) f n' l' lk' en' tl' b' la' (by omega) (by omega) H')))
theorem zt_x_ba {post : SX → Prop} (hL : L ≤ 40) (h4 : ∀ i, t i < 4) (h : ∀ (n : Nat) (l lk en tl b : Nat → Nat) (la : Nat), zt_AU t L L n l lk en tl b la → post (nI L, f_patternLength, f_distinctFound, f_longestFound, f_nodeCount, nI (n), f_rowCount, fun j => nI (t j), a_pattern, a_order, a_occurs, a_otherOrder, a_rank, a_pairRank, a_nodePlace, a_nodeDepth, a_nodeParent, a_nodeTail, a_nodeBranch, a_waitingNodes, fun j => nI ((l) j), fun j => nI ((lk) j) - 1, fun j => nI ((en) j) - 1, fun j => nI ((tl) j), fun j => nI ((b) j), a_lastColumn)) : wpX_buildAutomaton post (nI L, f_patternLength, f_distinctFound, f_longestFound, f_nodeCount, f_stateCount, f_rowCount, fun j => nI (t j), a_pattern, a_order, a_occurs, a_otherOrder, a_rank, a_pairRank, a_nodePlace, a_nodeDepth, a_nodeParent, a_nodeTail, a_nodeBranch, a_waitingNodes, a_stateLength, a_stateLink, a_stateEnd, a_stateTails, a_stateBranch, a_lastColumn) := by
  obtain ⟨l, rfl⟩ := zt_arr a_stateLength
  obtain ⟨lk, rfl⟩ := zt_arrN a_stateLink
  obtain ⟨en, rfl⟩ := zt_arrN a_stateEnd
  obtain ⟨tl, rfl⟩ := zt_arr a_stateTails
  obtain ⟨b, rfl⟩ := zt_arr a_stateBranch
  unfold wpX_buildAutomaton
  refine zt_x_ns (n := 0) (q := 0) (e := 0) (by omega) zt_Im1 ⟨L + 1, zt_x_ba14 hL h4 h L 0 _ 1 _ _ _ _ _ 0 (by omega) (by omega) ⟨⟨fun _ => 0, zt_M_0 rfl (zt_us _ _ _) (fun c hc => zt_zb_n b 0 hc) (zt_us _ _ _)⟩, zt_us _ _ _, fun v v0 hv => by omega, fun v hv => ?_⟩⟩
  have : v = 0 := by omega
  rw [this, zt_us]
end
end
section
/-! engine 3: counts, tails in order, measures, the pattern -/
def zt_J3 (t : Nat → Nat) (L e n : Nat) (E l tl : Nat → Nat) (i s : Nat) (tl' : Nat → Nat) : Prop := (s = 0 ∧ zt_T3 t L e n E l tl 0 tl') ∨ ∃ v, s = v + 1 ∧ v < n ∧ zt_On t L e E l v ∧ zt_T3 t L e n E l tl (l v + 1) tl' ∧ i + l v ≤ e
def zt_J4 (t : Nat → Nat) (L e n : Nat) (E l : Nat → Nat) (goal i s : Nat) : Prop := (s = 0 ∧ ∀ u, u < n → zt_On t L e E l u → u ≠ goal) ∨ ∃ v, s = v + 1 ∧ v < n ∧ zt_On t L e E l v ∧ (∀ u, u < n → zt_On t L e E l u → l v + 1 ≤ l u → u ≠ goal) ∧ i + l v ≤ e
section
variable {t g : Nat → Nat} {L n : Nat} {E l lk b en : Nat → Nat} {la : Nat}
theorem zt_J3_s (h : zt_M t L L n E l (fun v => lk v - 1) b en la) (l0 : lk 0 = 0) (lp : ∀ v, 0 < v → v < n → 0 < lk v) {e i s : Nat} {tl tl' : Nat → Nat} (he : e ≤ L) (H : zt_J3 t L e n E l tl i (s + 1) tl') : s < n ∧ i ≤ e ∧ lk s ≤ n ∧ zt_J3 t L e n E l tl (i + 1) (lk s) (zt_up tl' s (tl' s + 1)) := by
  rcases H with ⟨z, _⟩ | ⟨v, e1, hv, on, hT, hi⟩
  · omega
  · have e' : v = s := by omega
    subst e'
    have nx := zt_T_next (Nat.le_refl L) h.1 he hv on
    refine ⟨hv, by omega, ?_⟩
    by_cases v0 : v = 0
    · subst v0
      rw [l0]
      exact ⟨Nat.zero_le _, Or.inl ⟨rfl, zt_T3_1 hv on (Nat.zero_le _) (fun u hu onu _ => nx.1 rfl u hu onu) hT⟩⟩
    · obtain ⟨a1, a2, a3, a4⟩ := nx.2 (by omega)
      have lpv := lp v (by omega) hv
      have a1' : lk v - 1 < n := a1
      have a3' : l (lk v - 1) < l v := a3
      exact ⟨by omega, Or.inr ⟨lk v - 1, by omega, a1, a2, zt_T3_1 hv on (by omega) a4 hT, by omega⟩⟩
theorem zt_J4_s (h : zt_M t L L n E l (fun v => lk v - 1) b en la) (l0 : lk 0 = 0) (lp : ∀ v, 0 < v → v < n → 0 < lk v) {e i s goal : Nat} (he : e ≤ L) (H : zt_J4 t L e n E l goal i (s + 1)) : s < n ∧ i ≤ e ∧ zt_On t L e E l s ∧ (s ≠ goal → lk s ≤ n ∧ zt_J4 t L e n E l goal (i + 1) (lk s)) := by
  rcases H with ⟨z, _⟩ | ⟨v, e1, hv, on, hT, hi⟩
  · omega
  · have e' : v = s := by omega
    subst e'
    have nx := zt_T_next (Nat.le_refl L) h.1 he hv on
    refine ⟨hv, by omega, on, fun ng => ?_⟩
    by_cases v0 : v = 0
    · subst v0
      rw [l0]
      refine ⟨Nat.zero_le _, Or.inl ⟨rfl, fun u hu onu => ?_⟩⟩
      rcases nx.1 rfl u hu onu with c | c
      · exact hT u hu onu c
      · rw [c]; exact ng
    · obtain ⟨a1, a2, a3, a4⟩ := nx.2 (by omega)
      have lpv := lp v (by omega) hv
      have a1' : lk v - 1 < n := a1
      have a3' : l (lk v - 1) < l v := a3
      refine ⟨by omega, Or.inr ⟨lk v - 1, by omega, a1, a2, fun u hu onu hl => ?_, by omega⟩⟩
      rcases a4 u hu onu hl with c | c
      · exact hT u hu onu c
      · rw [c]; exact ng
end
section
variable {f_length f_patternLength f_distinctFound f_longestFound f_nodeCount f_stateCount f_rowCount : Int32} {a_text a_pattern a_order a_occurs a_otherOrder a_rank a_pairRank a_nodePlace a_nodeDepth a_nodeParent a_nodeTail a_nodeBranch a_waitingNodes a_stateLength a_stateLink a_stateEnd a_stateTails a_stateBranch a_lastColumn : Nat → Int32}
variable {t pat : Nat → Nat} {L m n : Nat} {E l lk en tl b : Nat → Nat} {la : Nat}
theorem zt_x_ct28 {post : SX → Prop} {J : _} {F e : Nat} (hL : L ≤ 40) (M : zt_M t L L n E l (fun v => lk v - 1) b en la) (l0 : lk 0 = 0) (lp : ∀ v, 0 < v → v < n → 0 < lk v) (he : e ≤ L) (hJ : ∀ tl' : Nat → Nat, zt_T3 t L e n E l tl 0 tl' → J (nI (F + 1)) (fun j => nI (t j)) a_pattern a_order a_occurs a_otherOrder a_rank a_pairRank a_nodePlace a_nodeDepth a_nodeParent a_nodeTail a_nodeBranch a_waitingNodes (fun j => nI ((l) j)) (fun j => nI ((lk) j) - 1) (fun j => nI ((en) j) - 1) (fun j => nI ((tl') j)) (fun j => nI ((b) j)) a_lastColumn) : ∀ f i s (tl' : Nat → Nat) (x : Int32), n - i < f → i ≤ n → s ≤ 81 → x = nI s - 1 → zt_J3 t L e n E l tl i s tl' → wX_countTailsOfStates_28 post J (nI F) (nI L) f_patternLength f_distinctFound f_longestFound f_nodeCount (nI n) f_rowCount f x (nI i) (fun j => nI (t j)) a_pattern a_order a_occurs a_otherOrder a_rank a_pairRank a_nodePlace a_nodeDepth a_nodeParent a_nodeTail a_nodeBranch a_waitingNodes (fun j => nI ((l) j)) (fun j => nI ((lk) j) - 1) (fun j => nI ((en) j) - 1) (fun j => nI ((tl') j)) (fun j => nI ((b) j)) a_lastColumn := by
  obtain ⟨n1, n2⟩ := M.2.2.2.2.2
  intro f
  induction f with
  | zero => intro i s tl' x hf; omega
  | succ f ih =>
    intro i s tl' x hf hi hs hx H
    by_cases s0 : s = 0
    · subst s0
      subst hx
      have T : zt_T3 t L e n E l tl 0 tl' := by
        rcases H with ⟨_, T⟩ | ⟨v, e1, _⟩
        · exact T
        · omega
      exact pk_le n i (fun _ => nm_r (nI_1 F) (hJ tl' T)) (fun _ => br_t rfl (nm_r (nI_1 F) (hJ tl' T)))
    · obtain ⟨s, rfl⟩ : ∃ s', s = s' + 1 := ⟨s - 1, by omega⟩
      rw [nI_pred] at hx
      subst hx
      obtain ⟨a1, a2, a3, a4⟩ := zt_J3_s M l0 lp he H
      have es : (nI s).toNatClampNeg = s := pk_cl s
      have vs : vp_in (nI s) 81 := pk_in s 81 (by omega)
      refine br_f (nI_ge (by omega) (by omega)) (br_f (zt_ne1 (by omega)) ⟨vs, vs, nm_r (zt_upE s (tl' s + 1) es ?_) ⟨vs, nm_r (e' := nI (lk s) - 1) (by simp only [es]) (nm_r (nI_1 i) (ih (i + 1) (lk s) _ _ (by omega) (by omega) (by omega) rfl a4))⟩⟩)
      simp only [es]
      rw [nI_1]
theorem zt_x_ct2 {post : SX → Prop} (hL : L ≤ 40) (M : zt_M t L L n E l (fun v => lk v - 1) b en la) (l0 : lk 0 = 0) (lp : ∀ v, 0 < v → v < n → 0 < lk v) (h : ∀ tl : Nat → Nat, (∀ u, u < n → tl u = zt_tl t L E l u) → post (nI L, f_patternLength, f_distinctFound, f_longestFound, f_nodeCount, nI (n), f_rowCount, fun j => nI (t j), a_pattern, a_order, a_occurs, a_otherOrder, a_rank, a_pairRank, a_nodePlace, a_nodeDepth, a_nodeParent, a_nodeTail, a_nodeBranch, a_waitingNodes, fun j => nI ((l) j), fun j => nI ((lk) j) - 1, fun j => nI ((en) j) - 1, fun j => nI ((tl) j), fun j => nI ((b) j), a_lastColumn)) : ∀ d F f (tl : Nat → Nat), F + d = n → d < f → zt_TC t L n E l en F tl → wX_countTailsOfStates_2 post (nI L) f_patternLength f_distinctFound f_longestFound f_nodeCount (nI n) f_rowCount f (nI F) (fun j => nI (t j)) a_pattern a_order a_occurs a_otherOrder a_rank a_pairRank a_nodePlace a_nodeDepth a_nodeParent a_nodeTail a_nodeBranch a_waitingNodes (fun j => nI ((l) j)) (fun j => nI ((lk) j) - 1) (fun j => nI ((en) j) - 1) (fun j => nI ((tl) j)) (fun j => nI ((b) j)) a_lastColumn := by
  obtain ⟨n1, n2⟩ := M.2.2.2.2.2
  intro d
  induction d with
  | zero =>
    intro F f tl hF hf H
    obtain ⟨f, rfl⟩ : ∃ m, f = m + 1 := ⟨f - 1, by omega⟩
    have e : F = n := by omega
    subst e
    exact br_t (nI_le (Nat.le_refl _) (by omega)) (h tl (fun u hu => zt_TC_end M H hu))
  | succ d ih =>
    intro F f tl hF hf H
    obtain ⟨f, rfl⟩ : ∃ m, f = m + 1 := ⟨f - 1, by omega⟩
    have eF : (nI F).toNatClampNeg = F := pk_cl F
    have ben : en F ≤ L := by
      by_cases c : en F = 0
      · omega
      · exact (zt_en_on M (by omega) c).1
    refine br_f (nI_ge (by omega) (by omega)) ⟨pk_in F 81 (by omega), ?_⟩
    simp only [eF]
    refine zt_br (zt_nt0 (by omega)) (fun z => ?_) (fun z => ?_)
    · refine ⟨1, br_f (nI_ge (a := 0) (by omega) (by omega)) (br_t rfl (nm_r (nI_1 F) (ih (F + 1) f tl (by omega) (by omega) (zt_TC_no z H))))⟩
    · obtain ⟨a1, a2, a3⟩ := zt_en_on M (by omega : F < n) z
      exact ⟨n + 1, zt_x_ct28 (tl := tl) (e := en F) hL M l0 lp a1 (fun tl' T => ih (F + 1) f tl' (by omega) (by omega) (zt_TC_1 z H T)) (n + 1) 0 (F + 1) tl _ (by omega) (by omega) (by omega) (zt_I1 F) (Or.inr ⟨F, rfl, by omega, a3, zt_T3_0 M a1 (by omega) tl, by omega⟩)⟩
theorem zt_x_ct {post : SX → Prop} (hL : L ≤ 40) (M : zt_M t L L n E l (fun v => lk v - 1) b en la) (l0 : lk 0 = 0) (lp : ∀ v, 0 < v → v < n → 0 < lk v) (tz : ∀ v, v < n → tl v = 0) (h : ∀ tl : Nat → Nat, (∀ u, u < n → tl u = zt_tl t L E l u) → post (nI L, f_patternLength, f_distinctFound, f_longestFound, f_nodeCount, nI (n), f_rowCount, fun j => nI (t j), a_pattern, a_order, a_occurs, a_otherOrder, a_rank, a_pairRank, a_nodePlace, a_nodeDepth, a_nodeParent, a_nodeTail, a_nodeBranch, a_waitingNodes, fun j => nI ((l) j), fun j => nI ((lk) j) - 1, fun j => nI ((en) j) - 1, fun j => nI ((tl) j), fun j => nI ((b) j), a_lastColumn)) : wpX_countTailsOfStates post (nI L, f_patternLength, f_distinctFound, f_longestFound, f_nodeCount, nI (n), f_rowCount, fun j => nI (t j), a_pattern, a_order, a_occurs, a_otherOrder, a_rank, a_pairRank, a_nodePlace, a_nodeDepth, a_nodeParent, a_nodeTail, a_nodeBranch, a_waitingNodes, fun j => nI ((l) j), fun j => nI ((lk) j) - 1, fun j => nI ((en) j) - 1, fun j => nI ((tl) j), fun j => nI ((b) j), a_lastColumn) := by
  obtain ⟨n1, n2⟩ := M.2.2.2.2.2
  exact ⟨n, zt_x_ct2 hL M l0 lp h (n - 1) 1 _ tl (by omega) (by omega) (zt_TC_no (zt_en_0 M) (fun u hu => by rw [zt_c0]; exact tz u hu))⟩
theorem zt_x_te9 {post : Int32 → Prop} {v Y : Nat} (hL : L ≤ 40) (M : zt_M t L L n E l (fun v => lk v - 1) b en la) (ht : ∀ u, u < n → tl u = zt_tl t L E l u) (hv : v < n) (h : post (nI Y)) : ∀ d c f, c + d = 4 → d < f → wX_tailsEndingIn_9 post (nI v) (nI L) f_patternLength f_distinctFound f_longestFound f_nodeCount (nI (n)) f_rowCount (fun j => nI (t j)) a_pattern a_order a_occurs a_otherOrder a_rank a_pairRank a_nodePlace a_nodeDepth a_nodeParent a_nodeTail a_nodeBranch a_waitingNodes (fun j => nI ((l) j)) (fun j => nI ((lk) j) - 1) (fun j => nI ((en) j) - 1) (fun j => nI ((tl) j)) (fun j => nI ((b) j)) a_lastColumn f (nI (Y + (zt_s (zt_X t L E l v) 4 - zt_s (zt_X t L E l v) c))) (nI c) := by
  obtain ⟨n1, n2⟩ := M.2.2.2.2.2
  intro d
  induction d with
  | zero =>
    intro c f hc hf
    obtain ⟨f, rfl⟩ : ∃ m, f = m + 1 := ⟨f - 1, by omega⟩
    have e : c = 4 := by omega
    subst e
    rw [Nat.sub_self, Nat.add_zero]
    exact br_t (nI_le (a := 4) (b := 4) (Nat.le_refl _) (by decide)) h
  | succ d ih =>
    intro c f hc hf
    obtain ⟨f, rfl⟩ : ∃ m, f = m + 1 := ⟨f - 1, by omega⟩
    have nx := ih (c + 1) f (by omega) (by omega)
    have ei : (nI v * 4 + nI c).toNatClampNeg = v * 4 + c := pk_cl _ (zt_ix4 v c)
    have mono := zt_s_mono (zt_X t L E l v) (n := c + 1) (m := 4) (by omega)
    rw [zt_s1 _ c] at nx mono
    have xb := zt_X_b M hv (by omega : c < 4)
    refine br_f (nI_ge (b := 4) (by omega) (by decide)) ⟨pk_in (v * 4 + c) 324 (by omega) (zt_ix4 v c), nm_r (e' := nI (b (v * 4 + c))) (by simp only [ei]) ?_⟩
    by_cases e : b (v * 4 + c) = 0
    · rw [if_pos e] at xb
      rw [e]
      rw [xb, Nat.add_zero] at nx
      exact br_t rfl (nm_r (Int32.sub_zero _) (nm_r (nI_1 c) nx))
    · rw [if_neg e] at xb
      obtain ⟨q, q1, q2, q3⟩ := M.2.1.2 v c hv (by omega) e
      have un := (M.2.1.1 v q hv q1 q3).2.1
      rw [q2] at un
      have eu : (nI (b (v * 4 + c))).toNatClampNeg = b (v * 4 + c) := pk_cl _
      refine br_f (nI_ne0 (by omega) (by omega)) ⟨pk_in (b (v * 4 + c)) 81 (by omega), nm_r (e' := nI (Y + (zt_s (zt_X t L E l v) 4 - (zt_s (zt_X t L E l v) c + zt_X t L E l v c)))) ?_ (nm_r (nI_1 c) nx)⟩
      simp only [eu]
      rw [ht _ un, ← xb, pk_sub (by omega)]
      congr 1
      omega
theorem zt_x_te {post : Int32 → Prop} {v Y : Nat} (hL : L ≤ 40) (M : zt_M t L L n E l (fun v => lk v - 1) b en la) (ht : ∀ u, u < n → tl u = zt_tl t L E l u) (hv : v < n) (hY : zt_tl t L E l v = Y + zt_s (zt_X t L E l v) 4) (h : post (nI Y)) : wpX_tailsEndingIn post (nI L, f_patternLength, f_distinctFound, f_longestFound, f_nodeCount, nI (n), f_rowCount, fun j => nI (t j), a_pattern, a_order, a_occurs, a_otherOrder, a_rank, a_pairRank, a_nodePlace, a_nodeDepth, a_nodeParent, a_nodeTail, a_nodeBranch, a_waitingNodes, fun j => nI ((l) j), fun j => nI ((lk) j) - 1, fun j => nI ((en) j) - 1, fun j => nI ((tl) j), fun j => nI ((b) j), a_lastColumn) (nI v) := by
  obtain ⟨n1, n2⟩ := M.2.2.2.2.2
  have ev : (nI v).toNatClampNeg = v := pk_cl v
  exact ⟨pk_in v 81 (by omega), nm_r (e' := nI (Y + (zt_s (zt_X t L E l v) 4 - zt_s (zt_X t L E l v) 0))) (by simp only [ev]; rw [ht v hv, hY, zt_s0, Nat.sub_zero]) ⟨5, zt_x_te9 hL M ht hv h 4 0 5 (by omega) (by omega)⟩⟩
theorem zt_x_ta42 {post : Int32 → Prop} {J : _} {v s i : Nat} (hL : L ≤ 40) (h4 : ∀ i, t i < 4) (M : zt_M t L L n E l (fun v => lk v - 1) b en la) (ht : ∀ u, u < n → tl u = zt_tl t L E l u) (hv : v < n) (his : i + s < L) (ha : zt_at t L E l v s i) (hJ : J (nI (b (v * 4 + t (i + s)))) (nI (zt_lf (zt_g t L) L i (s + 1))) (nI (s + 1))) : ∀ d x f left, x + d = t (i + s) → d + 1 < f → left + zt_s (zt_X t L E l v) x = zt_s (zt_X t L E l v) (t (i + s)) + zt_lf (zt_g t L) L i (s + 1) → wX_tailOfAutomaton_42 post J (nI v) (nI s) (nI L) f_patternLength f_distinctFound f_longestFound f_nodeCount (nI (n)) f_rowCount (fun j => nI (t j)) a_pattern a_order a_occurs a_otherOrder a_rank a_pairRank a_nodePlace a_nodeDepth a_nodeParent a_nodeTail a_nodeBranch a_waitingNodes (fun j => nI ((l) j)) (fun j => nI ((lk) j) - 1) (fun j => nI ((en) j) - 1) (fun j => nI ((tl) j)) (fun j => nI ((b) j)) a_lastColumn f (nI left) 0 (nI x) := by
  have hz := zt_g_Z t L
  have hg : ∀ i, i < L → zt_g t L i = t i + 1 := fun i hi => zt_g_lt hi
  obtain ⟨n1, n2⟩ := M.2.2.2.2.2
  have tc := h4 (i + s)
  have tb : ∀ u, u < n → tl u ≤ L := fun u hu => by rw [ht u hu]; exact zt_cn _ _
  intro d
  induction d with
  | zero =>
    intro x f left hx hf hl
    obtain ⟨f, rfl⟩ : ∃ m, f = m + 1 := ⟨f - 1, by omega⟩
    obtain ⟨f, rfl⟩ : ∃ m, f = m + 1 := ⟨f - 1, by omega⟩
    have e : x = t (i + s) := by omega
    subst e
    have el : left = zt_lf (zt_g t L) L i (s + 1) := by omega
    subst el
    obtain ⟨u0, u1, u2⟩ := zt_at_1 h4 M hv his ha
    have lt := zt_TA_2 hz hg h4 M hv his ha
    have ei : (nI v * 4 + nI (t (i + s))).toNatClampNeg = v * 4 + t (i + s) := pk_cl _ (zt_ix4 _ _)
    have eu : (nI (b (v * 4 + t (i + s)))).toNatClampNeg = b (v * 4 + t (i + s)) := pk_cl _
    have tu := tb _ u1
    rw [← ht _ u1] at lt
    refine br_f (nI_ge (b := 4) (by omega) (by decide)) (br_t rfl ⟨pk_in (v * 4 + t (i + s)) 324 (by omega) (zt_ix4 _ _), nm_r (e' := nI (b (v * 4 + t (i + s)))) (by simp only [ei]) (br_f (nI_ne0 u0 (by omega)) ⟨pk_in (b (v * 4 + t (i + s))) 81 (by omega), br_f ?_ (nm_r (nI_1 _) ?_)⟩)⟩)
    · simp only [eu]
      exact nI_ge lt (by omega)
    · exact pk_le 4 (t (i + s) + 1) (fun _ => nm_r (nI_1 s) hJ) (fun _ => br_f (nI_ne0 u0 (by omega)) (nm_r (nI_1 s) hJ))
  | succ d ih =>
    intro x f left hx hf hl
    obtain ⟨f, rfl⟩ : ∃ m, f = m + 1 := ⟨f - 1, by omega⟩
    obtain ⟨q1, q2⟩ := zt_TA_1 (g := zt_g t L) (s := s) (i := i) (by omega : x < t (i + s)) hl
    have nx := ih (x + 1) f (left - zt_X t L E l v x) (by omega) (by omega) q2
    have ei : (nI v * 4 + nI x).toNatClampNeg = v * 4 + x := pk_cl _ (zt_ix4 _ _)
    have xb := zt_X_b M hv (by omega : x < 4)
    have lb : left ≤ L := by
      have a1 := zt_TA_0 hz hg his ha
      have a2 : zt_lf (zt_g t L) L i s ≤ L := zt_cn _ _
      omega
    refine br_f (nI_ge (b := 4) (by omega) (by decide)) (br_t rfl ⟨pk_in (v * 4 + x) 324 (by omega) (zt_ix4 _ _), nm_r (e' := nI (b (v * 4 + x))) (by simp only [ei]) ?_⟩)
    by_cases e : b (v * 4 + x) = 0
    · rw [if_pos e] at xb
      rw [xb, Nat.sub_zero] at nx
      rw [e]
      exact br_t rfl (br_t rfl (nm_r (nI_1 x) nx))
    · rw [if_neg e] at xb
      obtain ⟨q, r1, r2, r3⟩ := M.2.1.2 v x hv (by omega) e
      have un := (M.2.1.1 v q hv r1 r3).2.1
      rw [r2] at un
      have eu : (nI (b (v * 4 + x))).toNatClampNeg = b (v * 4 + x) := pk_cl _
      have vu : vp_in (nI (b (v * 4 + x))) 81 := pk_in (b (v * 4 + x)) 81 (by omega)
      rw [← ht _ un] at xb
      refine br_f (nI_ne0 (by omega) (by omega)) ⟨vu, br_t ?_ (br_f (nI_ne0 (by omega) (by omega)) ⟨vu, nm_r (e' := nI (left - zt_X t L E l v x)) ?_ (nm_r (nI_1 x) nx)⟩)⟩
      · simp only [eu]
        rw [← xb]
        exact nI_le q1 (by omega)
      · simp only [eu]
        rw [← xb, pk_sub q1]
theorem zt_x_ta7 {post : Int32 → Prop} {i : Nat} (hL : L ≤ 40) (h4 : ∀ i, t i < 4) (M : zt_M t L L n E l (fun v => lk v - 1) b en la) (ht : ∀ u, u < n → tl u = zt_tl t L E l u) (hi : i < L) (h : post (nI i)) : ∀ d s f v, s + d = L → d < f → v < n → i + s ≤ L → zt_at t L E l v s i → wX_tailOfAutomaton_7 post (nI L) f_patternLength f_distinctFound f_longestFound f_nodeCount (nI (n)) f_rowCount (fun j => nI (t j)) a_pattern a_order a_occurs a_otherOrder a_rank a_pairRank a_nodePlace a_nodeDepth a_nodeParent a_nodeTail a_nodeBranch a_waitingNodes (fun j => nI ((l) j)) (fun j => nI ((lk) j) - 1) (fun j => nI ((en) j) - 1) (fun j => nI ((tl) j)) (fun j => nI ((b) j)) a_lastColumn f (nI v) (nI (zt_lf (zt_g t L) L i s)) (nI s) := by
  have hz := zt_g_Z t L
  have hg : ∀ i, i < L → zt_g t L i = t i + 1 := fun i hi => zt_g_lt hi
  have g4 := zt_g_4 h4 L
  obtain ⟨n1, n2⟩ := M.2.2.2.2.2
  intro d
  induction d with
  | zero =>
    intro s f v hs hf hv his ha
    obtain ⟨f, rfl⟩ : ∃ m, f = m + 1 := ⟨f - 1, by omega⟩
    have e : i = 0 := by omega
    subst e
    exact br_t (nI_le (by omega) (by omega)) h
  | succ d ih =>
    intro s f v hs hf hv his ha
    obtain ⟨f, rfl⟩ : ∃ m, f = m + 1 := ⟨f - 1, by omega⟩
    refine br_f (nI_ge (by omega) (by omega)) (zt_x_te hL M ht hv (zt_Y_b hz hg g4 M his hi ha) ?_)
    by_cases c : i + s = L
    · obtain ⟨e1, e2⟩ := zt_lf_end hz hi c
      rw [e1, e2]
      refine nm_e (br_f (by decide) ?_)
      rw [pk_sub (by omega), (by omega : L - s = i)]
      exact h
    · have e1 := zt_TA_0 hz hg (by omega : i + s < L) ha
      have lb : zt_lf (zt_g t L) L i s ≤ L := zt_cn _ _
      obtain ⟨u0, u1, u2⟩ := zt_at_1 h4 M hv (by omega : i + s < L) ha
      refine nm_r (e' := nI (zt_s (zt_X t L E l v) (t (i + s)) + zt_lf (zt_g t L) L i (s + 1))) (by rw [pk_sub (by omega)]; congr 1; omega) (br_t (nI_pos' (by omega)) ⟨6, zt_x_ta42 hL h4 M ht hv (by omega) ha (ih (s + 1) f _ (by omega) (by omega) u1 (by omega) u2) (t (i + s)) 0 6 _ (by omega) (by have := h4 (i + s); omega) (by rw [zt_s0]; omega)⟩)
theorem zt_x_ta {post : Int32 → Prop} {i : Nat} (hL : L ≤ 40) (h4 : ∀ i, t i < 4) (M : zt_M t L L n E l (fun v => lk v - 1) b en la) (ht : ∀ u, u < n → tl u = zt_tl t L E l u) (hi : i < L) (h : post (nI i)) : wpX_tailOfAutomaton post (nI L, f_patternLength, f_distinctFound, f_longestFound, f_nodeCount, nI (n), f_rowCount, fun j => nI (t j), a_pattern, a_order, a_occurs, a_otherOrder, a_rank, a_pairRank, a_nodePlace, a_nodeDepth, a_nodeParent, a_nodeTail, a_nodeBranch, a_waitingNodes, fun j => nI ((l) j), fun j => nI ((lk) j) - 1, fun j => nI ((en) j) - 1, fun j => nI ((tl) j), fun j => nI ((b) j), a_lastColumn) (nI (zt_r (zt_g t L) L i)) := by
  obtain ⟨n1, n2⟩ := M.2.2.2.2.2
  rw [← zt_lf_0]
  exact ⟨L + 1, zt_x_ta7 hL h4 M ht hi h L 0 _ 0 (by omega) (by omega) (by omega) (by omega) (zt_at_0 M i)⟩
theorem zt_x_la2 {post : SX → Prop} (hL : L ≤ 40) (h4 : ∀ i, t i < 4) (M : zt_M t L L n E l (fun v => lk v - 1) b en la) (ht : ∀ u, u < n → tl u = zt_tl t L E l u) (h : ∀ o : Nat → Nat, zt_O (zt_g t L) L o → post (nI L, f_patternLength, f_distinctFound, f_longestFound, f_nodeCount, nI (n), f_rowCount, fun j => nI (t j), a_pattern, fun j => nI (o j), a_occurs, a_otherOrder, a_rank, a_pairRank, a_nodePlace, a_nodeDepth, a_nodeParent, a_nodeTail, a_nodeBranch, a_waitingNodes, fun j => nI ((l) j), fun j => nI ((lk) j) - 1, fun j => nI ((en) j) - 1, fun j => nI ((tl) j), fun j => nI ((b) j), a_lastColumn)) : ∀ d r f (o : Nat → Nat), r + d = L → d < f → (∀ k, k < r → o k < L ∧ zt_r (zt_g t L) L (o k) = k) → wX_listTailsOfAutomaton_2 post (nI L) f_patternLength f_distinctFound f_longestFound f_nodeCount (nI n) f_rowCount f (nI r) (fun j => nI (t j)) a_pattern (fun j => nI (o j)) a_occurs a_otherOrder a_rank a_pairRank a_nodePlace a_nodeDepth a_nodeParent a_nodeTail a_nodeBranch a_waitingNodes (fun j => nI ((l) j)) (fun j => nI ((lk) j) - 1) (fun j => nI ((en) j) - 1) (fun j => nI ((tl) j)) (fun j => nI ((b) j)) a_lastColumn := by
  have hz := zt_g_Z t L
  intro d
  induction d with
  | zero =>
    intro r f o hr hf ho
    obtain ⟨f, rfl⟩ : ∃ m, f = m + 1 := ⟨f - 1, by omega⟩
    exact br_t (nI_le (by omega) (by omega)) (h o (fun k hk => ho k (by omega)))
  | succ d ih =>
    intro r f o hr hf ho
    obtain ⟨f, rfl⟩ : ∃ m, f = m + 1 := ⟨f - 1, by omega⟩
    obtain ⟨i, hi, ei⟩ := zt_r_sur hz r (by omega)
    have P : ∀ post' : Int32 → Prop, post' (nI i) → wpX_tailOfAutomaton post' (nI L, f_patternLength, f_distinctFound, f_longestFound, f_nodeCount, nI (n), f_rowCount, fun j => nI (t j), a_pattern, fun j => nI (o j), a_occurs, a_otherOrder, a_rank, a_pairRank, a_nodePlace, a_nodeDepth, a_nodeParent, a_nodeTail, a_nodeBranch, a_waitingNodes, fun j => nI ((l) j), fun j => nI ((lk) j) - 1, fun j => nI ((en) j) - 1, fun j => nI ((tl) j), fun j => nI ((b) j), a_lastColumn) (nI r) := fun post' hp => by
      rw [← ei]
      exact zt_x_ta hL h4 M ht hi hp
    refine br_f (nI_ge (by omega) (by omega)) (P _ ⟨pk_in r 40 (by omega), nm_r (zt_upE r i (pk_cl r) rfl) (nm_r (nI_1 r) (ih (r + 1) f _ (by omega) (by omega) (fun k hk => ?_)))⟩)
    by_cases c : k = r
    · subst c; rw [zt_us]; exact ⟨hi, ei⟩
    · rw [zt_un _ _ c]; exact ho k (by omega)
theorem zt_x_la {post : SX → Prop} (hL : L ≤ 40) (h4 : ∀ i, t i < 4) (M : zt_M t L L n E l (fun v => lk v - 1) b en la) (ht : ∀ u, u < n → tl u = zt_tl t L E l u) (h : ∀ o : Nat → Nat, zt_O (zt_g t L) L o → post (nI L, f_patternLength, f_distinctFound, f_longestFound, f_nodeCount, nI (n), f_rowCount, fun j => nI (t j), a_pattern, fun j => nI (o j), a_occurs, a_otherOrder, a_rank, a_pairRank, a_nodePlace, a_nodeDepth, a_nodeParent, a_nodeTail, a_nodeBranch, a_waitingNodes, fun j => nI ((l) j), fun j => nI ((lk) j) - 1, fun j => nI ((en) j) - 1, fun j => nI ((tl) j), fun j => nI ((b) j), a_lastColumn)) : wpX_listTailsOfAutomaton post (nI L, f_patternLength, f_distinctFound, f_longestFound, f_nodeCount, nI (n), f_rowCount, fun j => nI (t j), a_pattern, a_order, a_occurs, a_otherOrder, a_rank, a_pairRank, a_nodePlace, a_nodeDepth, a_nodeParent, a_nodeTail, a_nodeBranch, a_waitingNodes, fun j => nI ((l) j), fun j => nI ((lk) j) - 1, fun j => nI ((en) j) - 1, fun j => nI ((tl) j), fun j => nI ((b) j), a_lastColumn) := by
  obtain ⟨o, rfl⟩ := zt_arr a_order
  exact ⟨L + 1, zt_x_la2 hL h4 M ht h L 0 _ o (by omega) (by omega) (fun k hk => by omega)⟩
end
end
section
/-! engine 3: measures, the pattern -/
section
variable {f_length f_patternLength f_distinctFound f_longestFound f_nodeCount f_stateCount f_rowCount : Int32} {a_text a_pattern a_order a_occurs a_otherOrder a_rank a_pairRank a_nodePlace a_nodeDepth a_nodeParent a_nodeTail a_nodeBranch a_waitingNodes a_stateLength a_stateLink a_stateEnd a_stateTails a_stateBranch a_lastColumn : Nat → Int32}
variable {t pat : Nat → Nat} {L m n : Nat} {E l lk en tl b : Nat → Nat} {la : Nat}
theorem zt_x_ma2 {post : SX → Prop} (hL : L ≤ 40) (M : zt_M t L L n E l (fun v => lk v - 1) b en la) (lp : ∀ v, 0 < v → v < n → 0 < lk v) (ht : ∀ u, u < n → tl u = zt_tl t L E l u) (h : post (nI L, f_patternLength, nI (zt_s (fun v => l v - l (lk v - 1)) n), nI (zt_m (fun v => if v ≠ 0 ∧ 2 ≤ tl v then l v else 0) n), f_nodeCount, nI (n), f_rowCount, fun j => nI (t j), a_pattern, a_order, a_occurs, a_otherOrder, a_rank, a_pairRank, a_nodePlace, a_nodeDepth, a_nodeParent, a_nodeTail, a_nodeBranch, a_waitingNodes, fun j => nI ((l) j), fun j => nI ((lk) j) - 1, fun j => nI ((en) j) - 1, fun j => nI ((tl) j), fun j => nI ((b) j), a_lastColumn)) : ∀ d v f, v + d = n → d < f → 0 < v → wX_measureAutomaton_2 post f (nI v) (nI L) f_patternLength (nI (zt_s (fun v => l v - l (lk v - 1)) v)) (nI (zt_m (fun v => if v ≠ 0 ∧ 2 ≤ tl v then l v else 0) v)) f_nodeCount (nI (n)) f_rowCount (fun j => nI (t j)) a_pattern a_order a_occurs a_otherOrder a_rank a_pairRank a_nodePlace a_nodeDepth a_nodeParent a_nodeTail a_nodeBranch a_waitingNodes (fun j => nI ((l) j)) (fun j => nI ((lk) j) - 1) (fun j => nI ((en) j) - 1) (fun j => nI ((tl) j)) (fun j => nI ((b) j)) a_lastColumn := by
  obtain ⟨n1, n2⟩ := M.2.2.2.2.2
  have lb : ∀ v, v < n → l v ≤ L := fun v hv => by
    have a := M.1.2.1 v hv
    have a1 : E v ≤ L := a.1
    have c := a.2.1
    rw [zt_V_s a1] at c
    omega
  have tb : ∀ u, u < n → tl u ≤ L := fun u hu => by rw [ht u hu]; exact zt_cn _ _
  intro d
  induction d with
  | zero =>
    intro v f hv hf v0
    obtain ⟨f, rfl⟩ : ∃ m, f = m + 1 := ⟨f - 1, by omega⟩
    have e : v = n := by omega
    subst e
    exact br_t (nI_le (Nat.le_refl _) (by omega)) h
  | succ d ih =>
    intro v f hv hf v0
    obtain ⟨f, rfl⟩ : ∃ m, f = m + 1 := ⟨f - 1, by omega⟩
    have nx := ih (v + 1) f (by omega) (by omega) (by omega)
    have cv := M.1.2.2.2.2 v v0 (by omega : v < n)
    have pn : lk v - 1 < n := cv.1
    have pl : l (lk v - 1) < l v := cv.2.1
    have lpv := lp v v0 (by omega)
    have b1 := lb v (by omega)
    have b4 := tb v (by omega)
    have b3 : zt_m (fun v => if v ≠ 0 ∧ 2 ≤ tl v then l v else 0) v ≤ L := zt_m_le fun i hi => by
      split
      · exact lb _ (by omega)
      · omega
    rw [zt_s1, zt_m1] at nx
    have ev : (nI v).toNatClampNeg = v := pk_cl v
    have elk : nI (lk v) - 1 = nI (lk v - 1) := pk_sub (b := 1) lpv
    have ep : (nI (lk v - 1)).toNatClampNeg = lk v - 1 := pk_cl _
    have vv : vp_in (nI v) 81 := pk_in v 81 (by omega)
    refine br_f (nI_ge (by omega) (by omega)) ⟨vv, vv, ?_⟩
    simp only [ev, elk]
    refine ⟨pk_in (lk v - 1) 81 (by omega), nm_r (e' := nI (zt_s (fun v => l v - l (lk v - 1)) v + (l v - l (lk v - 1)))) ?_ ⟨vv, ?_⟩⟩
    · simp only [ep]
      rw [pk_sub (by omega), nI_add]
    · refine pk_lt (tl v) 2 (fun c => nm_r (nI_1 v) ?_) (fun c => ⟨vv, zt_x_nl (by omega) (by omega) (nm_r (nI_1 v) ?_)⟩)
      · simp only [if_neg (show ¬ (v ≠ 0 ∧ 2 ≤ tl v) by omega)] at nx
        rw [if_neg (by omega)] at nx
        exact nx
      · simp only [if_pos (show v ≠ 0 ∧ 2 ≤ tl v from ⟨by omega, by omega⟩)] at nx
        exact nx
theorem zt_x_ma {post : SX → Prop} (hL : L ≤ 40) (M : zt_M t L L n E l (fun v => lk v - 1) b en la) (lp : ∀ v, 0 < v → v < n → 0 < lk v) (ht : ∀ u, u < n → tl u = zt_tl t L E l u) (h : ∀ G, zt_G (zt_g t L) L G → post (nI L, f_patternLength, nI (zt_D (zt_g t L) L (fun i => i)), nI G, f_nodeCount, nI (n), f_rowCount, fun j => nI (t j), a_pattern, a_order, a_occurs, a_otherOrder, a_rank, a_pairRank, a_nodePlace, a_nodeDepth, a_nodeParent, a_nodeTail, a_nodeBranch, a_waitingNodes, fun j => nI ((l) j), fun j => nI ((lk) j) - 1, fun j => nI ((en) j) - 1, fun j => nI ((tl) j), fun j => nI ((b) j), a_lastColumn)) : wpX_measureAutomaton post (nI L, f_patternLength, 0, 0, f_nodeCount, nI (n), f_rowCount, fun j => nI (t j), a_pattern, a_order, a_occurs, a_otherOrder, a_rank, a_pairRank, a_nodePlace, a_nodeDepth, a_nodeParent, a_nodeTail, a_nodeBranch, a_waitingNodes, fun j => nI ((l) j), fun j => nI ((lk) j) - 1, fun j => nI ((en) j) - 1, fun j => nI ((tl) j), fun j => nI ((b) j), a_lastColumn) := by
  obtain ⟨n1, n2⟩ := M.2.2.2.2.2
  have hg : ∀ i, i < L → zt_g t L i = t i + 1 := fun i hi => zt_g_lt hi
  have e1 : zt_s (fun v => l v - l (lk v - 1)) 1 = 0 := by
    rw [zt_s1, zt_s0, M.1.1.2]; omega
  have e2 : zt_m (fun v => if v ≠ 0 ∧ 2 ≤ tl v then l v else 0) 1 = 0 := rfl
  have e3 : zt_s (fun v => l v - l (lk v - 1)) n = zt_D (zt_g t L) L (fun i => i) := M.2.2.2.1.trans (zt_sv_D hg)
  have a : wX_measureAutomaton_2 post (n - 1 + 1) (nI 1) (nI L) f_patternLength (nI (zt_s (fun v => l v - l (lk v - 1)) 1)) (nI (zt_m (fun v => if v ≠ 0 ∧ 2 ≤ tl v then l v else 0) 1)) f_nodeCount (nI (n)) f_rowCount (fun j => nI (t j)) a_pattern a_order a_occurs a_otherOrder a_rank a_pairRank a_nodePlace a_nodeDepth a_nodeParent a_nodeTail a_nodeBranch a_waitingNodes (fun j => nI ((l) j)) (fun j => nI ((lk) j) - 1) (fun j => nI ((en) j) - 1) (fun j => nI ((tl) j)) (fun j => nI ((b) j)) a_lastColumn := zt_x_ma2 hL M lp ht (by rw [e3]; exact h _ (zt_M_m hg M ht)) (n - 1) 1 _ (by omega) (by omega) (by omega)
  rw [e1, e2] at a
  exact ⟨_, a⟩
theorem zt_x_ll5 {post : Int32 → Prop} {e goal : Nat} (hL : L ≤ 40) (M : zt_M t L L n E l (fun v => lk v - 1) b en la) (l0 : lk 0 = 0) (lp : ∀ v, 0 < v → v < n → 0 < lk v) (he : e ≤ L) (hg : goal < n) (h1 : zt_On t L e E l goal → post 1) (h0 : ¬ zt_On t L e E l goal → post 0) : ∀ f i s (x : Int32), n - i < f → i ≤ n → s ≤ 81 → x = nI s - 1 → zt_J4 t L e n E l goal i s → wX_linksLeadTo_5 post (nI goal) f_length f_patternLength f_distinctFound f_longestFound f_nodeCount (nI (n)) f_rowCount a_text a_pattern a_order a_occurs a_otherOrder a_rank a_pairRank a_nodePlace a_nodeDepth a_nodeParent a_nodeTail a_nodeBranch a_waitingNodes (fun j => nI ((l) j)) (fun j => nI ((lk) j) - 1) (fun j => nI ((en) j) - 1) (fun j => nI ((tl) j)) (fun j => nI ((b) j)) a_lastColumn f x (nI i) := by
  obtain ⟨n1, n2⟩ := M.2.2.2.2.2
  intro f
  induction f with
  | zero => intro i s x hf; omega
  | succ f ih =>
    intro i s x hf hi hs hx H
    by_cases s0 : s = 0
    · subst s0
      subst hx
      have no : post 0 := by
        rcases H with ⟨_, T⟩ | ⟨v, e1, _⟩
        · exact h0 (fun on => T goal hg on rfl)
        · omega
      exact pk_le n i (fun _ => no) (fun _ => br_t rfl no)
    · obtain ⟨s, rfl⟩ : ∃ s', s = s' + 1 := ⟨s - 1, by omega⟩
      rw [nI_pred] at hx
      subst hx
      obtain ⟨a1, a2, a3, a4⟩ := zt_J4_s M l0 lp he H
      have es : (nI s).toNatClampNeg = s := pk_cl s
      exact br_f (nI_ge (by omega) (by omega)) (br_f (zt_ne1 (by omega)) (pk_eq s goal (fun c => h1 (c ▸ a3)) (fun c => ⟨pk_in s 81 (by omega), nm_r (e' := nI (lk s) - 1) (by simp only [es]) (nm_r (nI_1 i) (ih (i + 1) (lk s) _ (by omega) (by omega) (by have := (a4 c).1; omega) rfl (a4 c).2))⟩)))
theorem zt_x_mm41 {post : SX → Prop} {goal : Nat} (hL : L ≤ 40) (hm : m ≤ 10) (m0 : 0 < m) (M : zt_M t L L n E l (fun v => lk v - 1) b en la) (l0 : lk 0 = 0) (lp : ∀ v, 0 < v → v < n → 0 < lk v) (hg : goal < n) (ha : zt_ap t pat L E l goal m) (h : ∀ f : Nat → Nat, zt_mk1 (zt_oc (zt_g t L) pat m) L f → post (nI L, nI m, f_distinctFound, f_longestFound, f_nodeCount, nI (n), f_rowCount, fun j => nI (t j), fun j => nI (pat j), a_order, fun j => nI (f j), a_otherOrder, a_rank, a_pairRank, a_nodePlace, a_nodeDepth, a_nodeParent, a_nodeTail, a_nodeBranch, a_waitingNodes, fun j => nI ((l) j), fun j => nI ((lk) j) - 1, fun j => nI ((en) j) - 1, fun j => nI ((tl) j), fun j => nI ((b) j), a_lastColumn)) : ∀ d F f (oc : Nat → Nat), F + d = n → d < f → zt_mk1 (fun i => ∃ q, q < F ∧ en q ≠ 0 ∧ zt_On t L (en q) E l goal ∧ i + m = en q) L oc → wX_markByAutomaton_41 post (nI goal) (nI L) (nI m) f_distinctFound f_longestFound f_nodeCount (nI n) f_rowCount f (nI F) (fun j => nI (t j)) (fun j => nI (pat j)) a_order (fun j => nI (oc j)) a_otherOrder a_rank a_pairRank a_nodePlace a_nodeDepth a_nodeParent a_nodeTail a_nodeBranch a_waitingNodes (fun j => nI (l j)) (fun j => nI (lk j) - 1) (fun j => nI (en j) - 1) (fun j => nI (tl j)) (fun j => nI (b j)) a_lastColumn := by
  obtain ⟨n1, n2⟩ := M.2.2.2.2.2
  have hz := zt_g_Z t L
  have hgg : ∀ i, i < L → zt_g t L i = t i + 1 := fun i hi => zt_g_lt hi
  intro d
  induction d with
  | zero =>
    intro F f oc hF hf H
    obtain ⟨f, rfl⟩ : ∃ m, f = m + 1 := ⟨f - 1, by omega⟩
    have e : F = n := by omega
    subst e
    refine br_t (nI_le (Nat.le_refl _) (by omega)) (h oc (zt_mk1_c H (fun i hi => ?_)))
    rw [zt_ap_oc hgg hz m0 ha (by omega)]
    constructor
    · rintro ⟨c1, c2⟩
      have e1 : zt_V t L (i + m) (i + m) = i + m := zt_V_s c1
      obtain ⟨q, hq, q1, q2⟩ := M.1.2.2.1 (i + m) (i + m) c1 ⟨i + m, c1, e1⟩
      have eq := (M.2.2.1 q (i + m - 1) hq).2 ⟨by omega, by omega, by rw [(by omega : i + m - 1 + 1 = i + m)]; exact q2⟩
      have eq2 : en q = i + m := by omega
      refine ⟨q, hq, by omega, ?_, eq2.symm⟩
      rw [eq2]; exact c2
    · rintro ⟨q, hq, q1, q2, q3⟩
      have := (zt_en_on M hq q1).1
      rw [q3]
      exact ⟨this, q2⟩
  | succ d ih =>
    intro F f oc hF hf H
    obtain ⟨f, rfl⟩ : ∃ m, f = m + 1 := ⟨f - 1, by omega⟩
    have eF : (nI F).toNatClampNeg = F := pk_cl F
    have ben : en F ≤ L := by
      by_cases c : en F = 0
      · omega
      · exact (zt_en_on M (by omega) c).1
    have skip : (en F = 0 ∨ ¬ zt_On t L (en F) E l goal) → zt_mk1 (fun i => ∃ q, q < F + 1 ∧ en q ≠ 0 ∧ zt_On t L (en q) E l goal ∧ i + m = en q) L oc := fun c => zt_mk1_c H (fun i hi => by
      constructor
      · rintro ⟨q, hq, q1, q2, q3⟩
        by_cases z : q = F
        · subst z
          rcases c with c | c
          · exact absurd c q1
          · exact absurd q2 c
        · exact ⟨q, by omega, q1, q2, q3⟩
      · rintro ⟨q, hq, q1, q2, q3⟩
        exact ⟨q, by omega, q1, q2, q3⟩)
    refine br_f (nI_ge (by omega) (by omega)) ⟨pk_in F 81 (by omega), ?_⟩
    simp only [eF]
    refine zt_br (zt_nt0 (by omega)) (fun z => nm_r (nI_1 F) (ih (F + 1) f oc (by omega) (by omega) (skip (Or.inl z)))) (fun z => ?_)
    obtain ⟨a1, a2, a3⟩ := zt_en_on M (by omega : F < n) z
    refine ⟨n + 1, zt_x_ll5 (e := en F) hL M l0 lp a1 hg (fun on => br_f (by decide) ⟨pk_in F 81 (by omega), ?_⟩) (fun on => br_t rfl (nm_r (nI_1 F) (ih (F + 1) f oc (by omega) (by omega) (skip (Or.inr on))))) (n + 1) 0 (F + 1) _ (by omega) (by omega) (by omega) (zt_I1 F) (Or.inr ⟨F, rfl, by omega, a3, fun u hu onu hl => by have := zt_On_le M a1 hu onu; omega, by omega⟩)⟩
    have me : m ≤ en F := by
      have := (ha (en F) a1).1 on
      exact this.1
    have e1 : (nI (en F) - 1 + 1) - nI m = nI (en F - m) := by rw [Int32.sub_add_cancel, pk_sub me]
    refine ⟨pk_in (en F - m) 40 (by omega) e1, nm_r (zt_upE (en F - m) 1 (pk_cl _ e1) zt_b1) (nm_r (nI_1 F) (ih (F + 1) f _ (by omega) (by omega) (zt_mk1_1 H (fun i hi => ?_))))⟩
    constructor
    · rintro ⟨q, hq, q1, q2, q3⟩
      by_cases y : q = F
      · subst y; exact Or.inr (by omega)
      · exact Or.inl ⟨q, by omega, q1, q2, q3⟩
    · rintro (⟨q, hq, q1, q2, q3⟩ | y)
      · exact ⟨q, by omega, q1, q2, q3⟩
      · exact ⟨F, by omega, z, on, by omega⟩
theorem zt_x_mm4 {post : SX → Prop} {oc : Nat → Nat} (hL : L ≤ 40) (hm : m ≤ 10) (m0 : 0 < m) (p4 : ∀ i, pat i < 4) (M : zt_M t L L n E l (fun v => lk v - 1) b en la) (l0 : lk 0 = 0) (lp : ∀ v, 0 < v → v < n → 0 < lk v) (ho : ∀ i, i < L → oc i = 0) (h : ∀ f : Nat → Nat, zt_mk1 (zt_oc (zt_g t L) pat m) L f → post (nI L, nI m, f_distinctFound, f_longestFound, f_nodeCount, nI (n), f_rowCount, fun j => nI (t j), fun j => nI (pat j), a_order, fun j => nI (f j), a_otherOrder, a_rank, a_pairRank, a_nodePlace, a_nodeDepth, a_nodeParent, a_nodeTail, a_nodeBranch, a_waitingNodes, fun j => nI ((l) j), fun j => nI ((lk) j) - 1, fun j => nI ((en) j) - 1, fun j => nI ((tl) j), fun j => nI ((b) j), a_lastColumn)) : ∀ d s f v, s + d = m → d < f → v < n → zt_ap t pat L E l v s → wX_markByAutomaton_4 post (nI L) (nI m) f_distinctFound f_longestFound f_nodeCount (nI (n)) f_rowCount (fun j => nI (t j)) (fun j => nI (pat j)) a_order (fun j => nI (oc j)) a_otherOrder a_rank a_pairRank a_nodePlace a_nodeDepth a_nodeParent a_nodeTail a_nodeBranch a_waitingNodes (fun j => nI ((l) j)) (fun j => nI ((lk) j) - 1) (fun j => nI ((en) j) - 1) (fun j => nI ((tl) j)) (fun j => nI ((b) j)) a_lastColumn f (nI v) (nI s) := by
  obtain ⟨n1, n2⟩ := M.2.2.2.2.2
  have hz := zt_g_Z t L
  intro d
  induction d with
  | zero =>
    intro s f v hs hf hv ha
    obtain ⟨f, rfl⟩ : ∃ m, f = m + 1 := ⟨f - 1, by omega⟩
    have e : s = m := by omega
    subst e
    refine br_t (nI_le (Nat.le_refl _) (by omega)) ⟨n, zt_x_mm41 hL hm m0 M l0 lp hv ha h (n - 1) 1 _ oc (by omega) (by omega) (zt_mk1_c (zt_mk1_0 ho) (fun i hi => ⟨?_, fun x => x.elim⟩))⟩
    rintro ⟨q, hq, q1, _⟩
    have : q = 0 := by omega
    subst this
    exact q1 (zt_en_0 M)
  | succ d ih =>
    intro s f v hs hf hv ha
    obtain ⟨f, rfl⟩ : ∃ m, f = m + 1 := ⟨f - 1, by omega⟩
    have es : (nI s).toNatClampNeg = s := pk_cl s
    have ps := p4 s
    refine br_f (nI_ge (by omega) (by omega)) ⟨pk_in s 10 (by omega), ?_⟩
    simp only [es]
    have ei : (nI v * 4 + nI (pat s)).toNatClampNeg = v * 4 + pat s := pk_cl _ (zt_ix4 _ _)
    refine ⟨pk_in (v * 4 + pat s) 324 (by omega) (zt_ix4 _ _), nm_r (e' := nI (b (v * 4 + pat s))) (by simp only [ei]) ?_⟩
    by_cases e : b (v * 4 + pat s) = 0
    · rw [e]
      refine br_t rfl (h oc (zt_mk1_c (zt_mk1_0 ho) (fun i hi => ⟨fun x => ?_, fun x => x.elim⟩)))
      have iL := zt_oc_L hz x m0
      refine zt_ap_no M hv ha e (i + (s + 1)) (by omega) ⟨by omega, fun q hq => ?_⟩
      have y := x q (by omega)
      rw [zt_g_lt (by omega)] at y
      rw [(by omega : i + (s + 1) - (s + 1) + q = i + q)]
      omega
    · obtain ⟨u0, u1, u2⟩ := zt_ap_1 p4 M hv ha e
      exact br_f (nI_ne0 u0 (by omega)) (nm_r (nI_1 s) (ih (s + 1) f _ (by omega) (by omega) u1 u2))
theorem zt_x_mm {post : SX → Prop} {oc : Nat → Nat} (hL : L ≤ 40) (hm : m ≤ 10) (m0 : 0 < m) (p4 : ∀ i, pat i < 4) (M : zt_M t L L n E l (fun v => lk v - 1) b en la) (l0 : lk 0 = 0) (lp : ∀ v, 0 < v → v < n → 0 < lk v) (ho : ∀ i, i < L → oc i = 0) (h : ∀ f : Nat → Nat, zt_mk1 (zt_oc (zt_g t L) pat m) L f → post (nI L, nI m, f_distinctFound, f_longestFound, f_nodeCount, nI (n), f_rowCount, fun j => nI (t j), fun j => nI (pat j), a_order, fun j => nI (f j), a_otherOrder, a_rank, a_pairRank, a_nodePlace, a_nodeDepth, a_nodeParent, a_nodeTail, a_nodeBranch, a_waitingNodes, fun j => nI ((l) j), fun j => nI ((lk) j) - 1, fun j => nI ((en) j) - 1, fun j => nI ((tl) j), fun j => nI ((b) j), a_lastColumn)) : wpX_markByAutomaton post (nI L, nI m, f_distinctFound, f_longestFound, f_nodeCount, nI (n), f_rowCount, fun j => nI (t j), fun j => nI (pat j), a_order, fun j => nI (oc j), a_otherOrder, a_rank, a_pairRank, a_nodePlace, a_nodeDepth, a_nodeParent, a_nodeTail, a_nodeBranch, a_waitingNodes, fun j => nI ((l) j), fun j => nI ((lk) j) - 1, fun j => nI ((en) j) - 1, fun j => nI ((tl) j), fun j => nI ((b) j), a_lastColumn) := by
  obtain ⟨n1, n2⟩ := M.2.2.2.2.2
  exact ⟨m + 1, zt_x_mm4 hL hm m0 p4 M l0 lp ho h m 0 _ 0 (by omega) (by omega) (by omega) (zt_ap_0 M)⟩
end
end
section
/-! the engines together -/
section
variable {f_length f_patternLength f_distinctFound f_longestFound f_nodeCount f_stateCount f_rowCount : Int32} {a_text a_pattern a_order a_occurs a_otherOrder a_rank a_pairRank a_nodePlace a_nodeDepth a_nodeParent a_nodeTail a_nodeBranch a_waitingNodes a_stateLength a_stateLink a_stateEnd a_stateTails a_stateBranch a_lastColumn : Nat → Int32}
variable {t pat : Nat → Nat} {L m : Nat}
theorem zt_x_ar {post : SX → Prop} {e : Nat} (he : e ≤ 3) (hL : L ≤ 40) (h4 : ∀ i, t i < 4) (h : ∀ (f_nodeCount f_stateCount f_rowCount : Int32) (a_rank a_pairRank a_nodePlace a_nodeDepth a_nodeParent a_nodeTail a_nodeBranch a_waitingNodes a_stateLength a_stateLink a_stateEnd a_stateTails a_stateBranch a_lastColumn : Nat → Int32) (o : Nat → Nat) (G : Nat), zt_O (zt_g t L) L o → zt_G (zt_g t L) L G → post (nI L, f_patternLength, nI (zt_D (zt_g t L) L (fun i => i)), nI G, f_nodeCount, f_stateCount, f_rowCount, fun j => nI (t j), a_pattern, fun j => nI (o j), a_occurs, a_otherOrder, a_rank, a_pairRank, a_nodePlace, a_nodeDepth, a_nodeParent, a_nodeTail, a_nodeBranch, a_waitingNodes, a_stateLength, a_stateLink, a_stateEnd, a_stateTails, a_stateBranch, a_lastColumn)) : wpX_arrange post (nI L, f_patternLength, f_distinctFound, f_longestFound, f_nodeCount, f_stateCount, f_rowCount, fun j => nI (t j), a_pattern, a_order, a_occurs, a_otherOrder, a_rank, a_pairRank, a_nodePlace, a_nodeDepth, a_nodeParent, a_nodeTail, a_nodeBranch, a_waitingNodes, a_stateLength, a_stateLink, a_stateEnd, a_stateTails, a_stateBranch, a_lastColumn) (nI e) := by
  refine br_f (nI_pos (by omega)) ?_
  by_cases e3 : e = 3
  · subst e3
    refine br_t (by decide) (zt_x_ba hL h4 (fun n l lk en tl b la A => ?_))
    obtain ⟨⟨E, M⟩, l0, lp, tz⟩ := A
    exact zt_x_ct hL M l0 lp tz (fun tl' ht => zt_x_la hL h4 M ht (fun o hO => zt_x_ma hL M lp ht (fun G hG => h _ _ _ _ _ _ _ _ _ _ _ _ _ _ _ _ _ _ _ hO hG)))
  · refine br_f (nI_nlt (a := 2) (by omega) (by omega)) ?_
    by_cases e0 : e = 0
    · subst e0
      exact br_t rfl (zt_x_so hL h4 (fun o hO => zt_x_mr hL h4 hO (fun G hG => h _ _ _ _ _ _ _ _ _ _ _ _ _ _ _ _ _ _ _ hO hG)))
    · refine br_f (nI_ne0 (by omega) (by omega)) ?_
      by_cases e1 : e = 1
      · subst e1
        exact br_t rfl (zt_x_sd hL h4 (fun r pr o hr hO => zt_x_mp hL h4 hr hO (fun G hG => h _ _ _ _ _ _ _ _ _ _ _ _ _ _ _ _ _ _ _ hO hG)))
      · have e2 : e = 2 := by omega
        subst e2
        refine br_f (by decide) (br_t rfl (zt_x_bt hL h4 (fun n E l p b nt H => zt_x_lu hL h4 H H.1.1.1.1 (fun st o hl => ?_))))
        have hO : zt_O (zt_g t L) L o := by
          rw [zt_off_0 H, zt_cA_0 H] at hl
          exact zt_ls_O hl
        exact zt_x_mt hL H (fun G hG => h _ _ _ _ _ _ _ _ _ _ _ _ _ _ _ _ _ _ _ hO hG)
theorem zt_x_mk2 {post : SX → Prop} {e : Nat} (he : e ≤ 4) (hL : L ≤ 40) (hm : m ≤ 10) (h4 : ∀ i, t i < 4) (p4 : ∀ i, pat i < 4) (h : ∀ (f_distinctFound f_longestFound f_nodeCount f_stateCount f_rowCount : Int32) (a_order a_otherOrder a_rank a_pairRank a_nodePlace a_nodeDepth a_nodeParent a_nodeTail a_nodeBranch a_waitingNodes a_stateLength a_stateLink a_stateEnd a_stateTails a_stateBranch a_lastColumn : Nat → Int32) (f : Nat → Nat), zt_mk1 (zt_occ (zt_g t L) pat m) L f → post (nI L, nI m, f_distinctFound, f_longestFound, f_nodeCount, f_stateCount, f_rowCount, fun j => nI (t j), fun j => nI (pat j), a_order, fun j => nI (f j), a_otherOrder, a_rank, a_pairRank, a_nodePlace, a_nodeDepth, a_nodeParent, a_nodeTail, a_nodeBranch, a_waitingNodes, a_stateLength, a_stateLink, a_stateEnd, a_stateTails, a_stateBranch, a_lastColumn)) : ∀ d k n (f : Nat → Nat), k + d = L → d < n → (∀ i, i < k → f i = 0) → wX_markPattern_2 post (nI e) (nI L) (nI m) f_distinctFound f_longestFound f_nodeCount f_stateCount f_rowCount n (nI k) (fun j => nI (t j)) (fun j => nI (pat j)) a_order (fun j => nI (f j)) a_otherOrder a_rank a_pairRank a_nodePlace a_nodeDepth a_nodeParent a_nodeTail a_nodeBranch a_waitingNodes a_stateLength a_stateLink a_stateEnd a_stateTails a_stateBranch a_lastColumn := by
  intro d
  induction d with
  | zero =>
    intro k n f hk hn hf
    obtain ⟨n, rfl⟩ : ∃ m, n = m + 1 := ⟨n - 1, by omega⟩
    have hf' : ∀ i, i < L → f i = 0 := fun i hi => hf i (by omega)
    refine br_t (nI_le (by omega) (by omega)) (pk_eq m 0 (fun m0 => ?_) (fun m0 => ?_))
    · exact h _ _ _ _ _ _ _ _ _ _ _ _ _ _ _ _ _ _ _ _ _ f (zt_mk1_c (zt_mk1_0 hf') (fun i hi => ⟨fun x => by have := x.1; omega, fun x => x.elim⟩))
    · have up : ∀ f' : Nat → Nat, zt_mk1 (zt_oc (zt_g t L) pat m) L f' → zt_mk1 (zt_occ (zt_g t L) pat m) L f' := fun f' q => zt_mk1_c q (fun i hi => ⟨fun x => x.2, fun x => ⟨by omega, x⟩⟩)
      refine br_f (nI_pos (by omega)) ?_
      by_cases e4 : e = 4
      · subst e4
        exact br_t (by decide) (zt_x_bl hL h4 (fun col hC hb => zt_x_mc hL hm (by omega) h4 p4 hC hb hf' (fun f' q => h _ _ _ _ _ _ _ _ _ _ _ _ _ _ _ _ _ _ _ _ _ f' (up f' q))))
      · refine br_f (nI_nlt (a := 3) (by omega) (by omega)) ?_
        by_cases e0 : e = 0
        · subst e0
          exact br_t rfl (zt_x_ml hL hm h4 p4 (fun f' q => h _ _ _ _ _ _ _ _ _ _ _ _ _ _ _ _ _ _ _ _ _ f' (up f' q)))
        · refine br_f (nI_ne0 (by omega) (by omega)) ?_
          by_cases e1 : e = 1
          · subst e1
            exact br_t rfl (zt_x_sd hL h4 (fun r pr o hr hO => zt_x_mh hL hm h4 p4 hO hf' (fun f' q => h _ _ _ _ _ _ _ _ _ _ _ _ _ _ _ _ _ _ _ _ _ f' (up f' q))))
          · by_cases e2 : e = 2
            · subst e2
              exact br_f (by decide) (br_t rfl (zt_x_bt hL h4 (fun n E l p b nt H => zt_x_mbt hL hm (by omega) h4 p4 H hf' (fun st o f' q => h _ _ _ _ _ _ _ _ _ _ _ _ _ _ _ _ _ _ _ _ _ f' (up f' q)))))
            · have e3 : e = 3 := by omega
              subst e3
              refine br_f (by decide) (br_f (by decide) (br_t rfl (zt_x_ba hL h4 (fun n l lk en tl b la A => ?_))))
              obtain ⟨⟨E, M⟩, l0, lp, tz⟩ := A
              exact zt_x_mm hL hm (by omega) p4 M l0 lp hf' (fun f' q => h _ _ _ _ _ _ _ _ _ _ _ _ _ _ _ _ _ _ _ _ _ f' (up f' q))
  | succ d ih =>
    intro k n f hk hn hf
    obtain ⟨n, rfl⟩ : ∃ m, n = m + 1 := ⟨n - 1, by omega⟩
    refine br_f (nI_ge (by omega) (by omega)) ⟨pk_in k 40 (by omega), nm_r (zt_upE k 0 (pk_cl k) zt_b0) (nm_r (nI_1 k) (ih (k + 1) n _ (by omega) (by omega) (fun i hi => ?_)))⟩
    by_cases c : i = k
    · rw [c, zt_us]
    · rw [zt_un _ _ c]; exact hf i (by omega)
theorem zt_x_mk {post : SX → Prop} {e : Nat} (he : e ≤ 4) (hL : L ≤ 40) (hm : m ≤ 10) (h4 : ∀ i, t i < 4) (p4 : ∀ i, pat i < 4) (h : ∀ (f_distinctFound f_longestFound f_nodeCount f_stateCount f_rowCount : Int32) (a_order a_otherOrder a_rank a_pairRank a_nodePlace a_nodeDepth a_nodeParent a_nodeTail a_nodeBranch a_waitingNodes a_stateLength a_stateLink a_stateEnd a_stateTails a_stateBranch a_lastColumn : Nat → Int32) (f : Nat → Nat), zt_mk1 (zt_occ (zt_g t L) pat m) L f → post (nI L, nI m, f_distinctFound, f_longestFound, f_nodeCount, f_stateCount, f_rowCount, fun j => nI (t j), fun j => nI (pat j), a_order, fun j => nI (f j), a_otherOrder, a_rank, a_pairRank, a_nodePlace, a_nodeDepth, a_nodeParent, a_nodeTail, a_nodeBranch, a_waitingNodes, a_stateLength, a_stateLink, a_stateEnd, a_stateTails, a_stateBranch, a_lastColumn)) : wpX_markPattern post (nI L, nI m, f_distinctFound, f_longestFound, f_nodeCount, f_stateCount, f_rowCount, fun j => nI (t j), fun j => nI (pat j), a_order, a_occurs, a_otherOrder, a_rank, a_pairRank, a_nodePlace, a_nodeDepth, a_nodeParent, a_nodeTail, a_nodeBranch, a_waitingNodes, a_stateLength, a_stateLink, a_stateEnd, a_stateTails, a_stateBranch, a_lastColumn) (nI e) := by
  obtain ⟨f, rfl⟩ := zt_arr a_occurs
  exact ⟨L + 1, zt_x_mk2 he hL hm h4 p4 h L 0 _ f (by omega) (by omega) (fun i hi => by omega)⟩
theorem zt_x_co20 {post : Int32 → SX → Prop} {occ : Nat → Prop} {f : Nat → Nat} (hL : L ≤ 40) (hf : zt_mk1 occ L f) (h : post (nI (zt_c occ L)) (nI L, f_patternLength, f_distinctFound, f_longestFound, f_nodeCount, f_stateCount, f_rowCount, a_text, a_pattern, a_order, fun j => nI (f j), a_otherOrder, a_rank, a_pairRank, a_nodePlace, a_nodeDepth, a_nodeParent, a_nodeTail, a_nodeBranch, a_waitingNodes, a_stateLength, a_stateLink, a_stateEnd, a_stateTails, a_stateBranch, a_lastColumn)) : ∀ d k n, k + d = L → d < n → wX_count_20 post (nI L) f_patternLength f_distinctFound f_longestFound f_nodeCount f_stateCount f_rowCount a_text a_pattern a_order (fun j => nI (f j)) a_otherOrder a_rank a_pairRank a_nodePlace a_nodeDepth a_nodeParent a_nodeTail a_nodeBranch a_waitingNodes a_stateLength a_stateLink a_stateEnd a_stateTails a_stateBranch a_lastColumn n (nI (zt_c occ k)) (nI k) := by
  intro d
  induction d with
  | zero =>
    intro k n hk hn
    obtain ⟨n, rfl⟩ : ∃ m, n = m + 1 := ⟨n - 1, by omega⟩
    have e : k = L := by omega
    subst e
    exact br_t (nI_le (Nat.le_refl _) (by omega)) h
  | succ d ih =>
    intro k n hk hn
    obtain ⟨n, rfl⟩ : ∃ m, n = m + 1 := ⟨n - 1, by omega⟩
    have nx := ih (k + 1) n (by omega) (by omega)
    have ek : (nI k).toNatClampNeg = k := pk_cl k
    have hk' := hf k (by omega)
    refine br_f (nI_ge (by omega) (by omega)) ⟨pk_in k 40 (by omega), ?_⟩
    simp only [ek]
    by_cases c : occ k
    · rw [hk'.1 c]
      rw [zt_ct c, ← nI_1] at nx
      exact br_f (by decide) (nm_e (nm_r (nI_1 k) nx))
    · rw [hk'.2 c]
      rw [zt_cf c] at nx
      exact br_t rfl (nm_r (nI_1 k) nx)
theorem zt_x_wh25 {post : Int32 → SX → Prop} {occ : Nat → Prop} {f : Nat → Nat} {x : Int32} (hL : L ≤ 40) (hf : zt_mk1 occ L f) (h : ∀ r, zt_first occ L x r → post r (nI L, f_patternLength, f_distinctFound, f_longestFound, f_nodeCount, f_stateCount, f_rowCount, a_text, a_pattern, a_order, fun j => nI (f j), a_otherOrder, a_rank, a_pairRank, a_nodePlace, a_nodeDepth, a_nodeParent, a_nodeTail, a_nodeBranch, a_waitingNodes, a_stateLength, a_stateLink, a_stateEnd, a_stateTails, a_stateBranch, a_lastColumn)) : ∀ d k n, k + d = L → d < n → (∀ j, j < k → occ j → ¬ nI (zt_c occ j) = x) → wX_where_25 post x (nI L) f_patternLength f_distinctFound f_longestFound f_nodeCount f_stateCount f_rowCount a_text a_pattern a_order (fun j => nI (f j)) a_otherOrder a_rank a_pairRank a_nodePlace a_nodeDepth a_nodeParent a_nodeTail a_nodeBranch a_waitingNodes a_stateLength a_stateLink a_stateEnd a_stateTails a_stateBranch a_lastColumn n (nI (zt_c occ k)) (nI k) := by
  intro d
  induction d with
  | zero =>
    intro k n hk hn hj
    obtain ⟨n, rfl⟩ : ∃ m, n = m + 1 := ⟨n - 1, by omega⟩
    have e : k = L := by omega
    subst e
    exact br_t (nI_le (Nat.le_refl _) (by omega)) (h _ (Or.inr ⟨hj, rfl⟩))
  | succ d ih =>
    intro k n hk hn hj
    obtain ⟨n, rfl⟩ : ∃ m, n = m + 1 := ⟨n - 1, by omega⟩
    have ek : (nI k).toNatClampNeg = k := pk_cl k
    have hk' := hf k (by omega)
    have nx : (occ k → ¬ nI (zt_c occ k) = x) → wX_where_25 post x (nI L) f_patternLength f_distinctFound f_longestFound f_nodeCount f_stateCount f_rowCount a_text a_pattern a_order (fun j => nI (f j)) a_otherOrder a_rank a_pairRank a_nodePlace a_nodeDepth a_nodeParent a_nodeTail a_nodeBranch a_waitingNodes a_stateLength a_stateLink a_stateEnd a_stateTails a_stateBranch a_lastColumn n (nI (zt_c occ (k + 1))) (nI (k + 1)) := fun hc => ih (k + 1) n (by omega) (by omega) (fun j hj' oj => by
      by_cases c : j = k
      · subst c; exact hc oj
      · exact hj j (by omega) oj)
    refine br_f (nI_ge (by omega) (by omega)) ⟨pk_in k 40 (by omega), ?_⟩
    simp only [ek]
    by_cases c : occ k
    · rw [hk'.1 c]
      refine br_f (by decide) (br_c (fun z => h _ (Or.inl ⟨k, by omega, c, z, rfl⟩)) (fun z => ?_))
      have nx' := nx (fun _ => z)
      rw [zt_ct c, ← nI_1] at nx'
      exact nm_e (nm_r (nI_1 k) nx')
    · rw [hk'.2 c]
      have nx' := nx (fun y => absurd y c)
      rw [zt_cf c] at nx'
      exact br_t rfl (nm_r (nI_1 k) nx')
end
theorem zt_cls4 (x : Int32) (k : Nat) (hk : k < 100) : (∃ e, e ≤ k ∧ x = nI e) ∨ x < 0 ∨ ∃ j, k < j ∧ j < 2 ^ 31 ∧ x = nI j := by
  rcases zt_cls x with c | ⟨j, hj, rfl⟩
  · exact Or.inr (Or.inl c)
  · by_cases d : j ≤ k
    · exact Or.inl ⟨j, d, rfl⟩
    · exact Or.inr (Or.inr ⟨j, by omega, hj, rfl⟩)
theorem zt_nbad {x : Int32} {k : Nat} (hk : k < 100) (h : x < 0 ∨ ∃ j, k < j ∧ j < 2 ^ 31 ∧ x = nI j) : ∀ e, e ≤ k → ¬ x = nI e := by
  intro e he hx
  rcases h with c | ⟨j, hj, hj2, rfl⟩
  · subst hx
    exact nI_pos (by omega) c
  · rw [nI_eq hj2 (by omega)] at hx
    omega
end
section
/-! the questions -/
theorem i_vc_count {k : Nat} {u : SX} {v : SY} (I : i_Rel k u v) (hk : k + 3 ≤ 1536) (v1 : Int32) : wpX_count (fun r u' => wpY_count (fun r' => r' = r ∧ i_Rel (k + 3) u' v) v v1) u v1 := by
  obtain ⟨L, m, t, pat, ⟨hL, hm, h4, p4⟩, ⟨f_distinctFound, f_longestFound, f_nodeCount, f_stateCount, f_rowCount, a_order, a_occurs, a_otherOrder, a_rank, a_pairRank, a_nodePlace, a_nodeDepth, a_nodeParent, a_nodeTail, a_nodeBranch, a_waitingNodes, a_stateLength, a_stateLink, a_stateEnd, a_stateTails, a_stateBranch, a_lastColumn, rfl⟩, sh, hs, rfl⟩ := I
  rcases zt_cls4 v1 4 (by omega) with ⟨e, he, rfl⟩ | bad
  · refine br_f (nI_pos (by omega)) (br_t (nI_le (b := 4) he (by omega)) (zt_x_mk he hL hm h4 p4 ?_))
    intro f_distinctFound f_longestFound f_nodeCount f_stateCount f_rowCount a_order a_otherOrder a_rank a_pairRank a_nodePlace a_nodeDepth a_nodeParent a_nodeTail a_nodeBranch a_waitingNodes a_stateLength a_stateLink a_stateEnd a_stateTails a_stateBranch a_lastColumn f hf
    exact ⟨L + 1, zt_x_co20 hL hf (zt_y_ct hm hL h4 p4 (fun _ _ _ => ⟨rfl, zt_mk hL hm h4 p4 hs⟩) (fun x => absurd rfl (x e he))) L 0 _ (by omega) (by omega)⟩
  · have nb := zt_nbad (by omega) bad
    have Y : wpY_count (fun r' => r' = -1 ∧ i_Rel (k + 3) (nI L, nI m, f_distinctFound, f_longestFound, f_nodeCount, f_stateCount, f_rowCount, fun j => nI (t j), fun j => nI (pat j), a_order, a_occurs, a_otherOrder, a_rank, a_pairRank, a_nodePlace, a_nodeDepth, a_nodeParent, a_nodeTail, a_nodeBranch, a_waitingNodes, a_stateLength, a_stateLink, a_stateEnd, a_stateTails, a_stateBranch, a_lastColumn) (nI L, nI m, (fun j => nI (t j)), (fun j => nI (pat j)), sh)) (nI L, nI m, (fun j => nI (t j)), (fun j => nI (pat j)), sh) v1 :=
      zt_y_ct hm hL h4 p4 (fun e he hx => absurd hx (nb e he)) (fun _ => ⟨rfl, zt_mk hL hm h4 p4 hs⟩)
    rcases bad with c | ⟨j, j1, j2, rfl⟩
    · exact br_t c Y
    · exact br_f (nI_pos j2) (br_f (nI_ge (a := 4) j1 j2) Y)
theorem i_vc_where {k : Nat} {u : SX} {v : SY} (I : i_Rel k u v) (hk : k + 3 ≤ 1536) (v1 : Int32) (v2 : Int32) : wpX_where (fun r u' => wpY_where (fun r' => r' = r ∧ i_Rel (k + 3) u' v) v v1 v2) u v1 v2 := by
  obtain ⟨L, m, t, pat, ⟨hL, hm, h4, p4⟩, ⟨f_distinctFound, f_longestFound, f_nodeCount, f_stateCount, f_rowCount, a_order, a_occurs, a_otherOrder, a_rank, a_pairRank, a_nodePlace, a_nodeDepth, a_nodeParent, a_nodeTail, a_nodeBranch, a_waitingNodes, a_stateLength, a_stateLink, a_stateEnd, a_stateTails, a_stateBranch, a_lastColumn, rfl⟩, sh, hs, rfl⟩ := I
  rcases zt_cls4 v1 4 (by omega) with ⟨e, he, rfl⟩ | bad
  · refine br_f (nI_pos (by omega)) (br_f (nI_nlt (a := 4) he (by omega)) (br_c (fun c => zt_x_mk he hL hm h4 p4 ?_) (fun c => ?_)))
    · intro f_distinctFound f_longestFound f_nodeCount f_stateCount f_rowCount a_order a_otherOrder a_rank a_pairRank a_nodePlace a_nodeDepth a_nodeParent a_nodeTail a_nodeBranch a_waitingNodes a_stateLength a_stateLink a_stateEnd a_stateTails a_stateBranch a_lastColumn f hf
      exact ⟨L + 1, zt_x_wh25 hL hf (fun r hr => zt_y_wh hm hL h4 p4 (fun _ _ _ r' hr' => ⟨zt_first_un hL hr hr', zt_mk hL hm h4 p4 hs⟩) (fun x => absurd rfl (x e he))) L 0 _ (by omega) (by omega) (fun j hj => by omega)⟩
    · refine zt_y_wh hm hL h4 p4 (fun _ _ _ r' hr' => ⟨?_, zt_mk hL hm h4 p4 hs⟩) (fun x => absurd rfl (x e he))
      rcases hr' with ⟨i, hi, oi, ei, _⟩ | ⟨_, er⟩
      · exfalso
        have b := zt_cn (zt_occ (zt_g t L) pat m) i
        rw [← ei] at c
        exact c (nI_pos' (by omega))
      · exact er
  · have nb := zt_nbad (by omega) bad
    have Y : wpY_where (fun r' => r' = -1 ∧ i_Rel (k + 3) (nI L, nI m, f_distinctFound, f_longestFound, f_nodeCount, f_stateCount, f_rowCount, fun j => nI (t j), fun j => nI (pat j), a_order, a_occurs, a_otherOrder, a_rank, a_pairRank, a_nodePlace, a_nodeDepth, a_nodeParent, a_nodeTail, a_nodeBranch, a_waitingNodes, a_stateLength, a_stateLink, a_stateEnd, a_stateTails, a_stateBranch, a_lastColumn) (nI L, nI m, (fun j => nI (t j)), (fun j => nI (pat j)), sh)) (nI L, nI m, (fun j => nI (t j)), (fun j => nI (pat j)), sh) v1 v2 :=
      zt_y_wh hm hL h4 p4 (fun e he hx => absurd hx (nb e he)) (fun _ => ⟨rfl, zt_mk hL hm h4 p4 hs⟩)
    rcases bad with c | ⟨j, j1, j2, rfl⟩
    · exact br_t c Y
    · exact br_f (nI_pos j2) (br_t (nI_lt (a := 4) j1 j2) Y)
theorem i_vc_distinct {k : Nat} {u : SX} {v : SY} (I : i_Rel k u v) (hk : k + 3 ≤ 1536) (v1 : Int32) : wpX_distinct (fun r u' => wpY_distinct (fun r' => r' = r ∧ i_Rel (k + 3) u' v) v v1) u v1 := by
  obtain ⟨L, m, t, pat, ⟨hL, hm, h4, p4⟩, ⟨f_distinctFound, f_longestFound, f_nodeCount, f_stateCount, f_rowCount, a_order, a_occurs, a_otherOrder, a_rank, a_pairRank, a_nodePlace, a_nodeDepth, a_nodeParent, a_nodeTail, a_nodeBranch, a_waitingNodes, a_stateLength, a_stateLink, a_stateEnd, a_stateTails, a_stateBranch, a_lastColumn, rfl⟩, sh, hs, rfl⟩ := I
  unfold wpX_distinct wpY_distinct
  refine zt_x_ia (fun e he hx => ?_) (fun nb => br_t rfl (zt_y_en (k := 3) (by omega) (fun e he hx => absurd hx (nb e he)) (fun _ => br_t rfl ⟨rfl, zt_mk hL hm h4 p4 hs⟩)))
  subst hx
  refine br_f (by decide) (zt_x_ar he hL h4 ?_)
  intro f_nodeCount f_stateCount f_rowCount a_rank a_pairRank a_nodePlace a_nodeDepth a_nodeParent a_nodeTail a_nodeBranch a_waitingNodes a_stateLength a_stateLink a_stateEnd a_stateTails a_stateBranch a_lastColumn o G hO hG
  refine zt_y_en (k := 3) (by omega) (fun _ _ _ => br_f (by decide) (zt_y_rp hL hs (fun T t1 t2 hx => ?_) (fun x => absurd (by decide) x))) (fun x => absurd rfl (x e he))
  have eT : 1 = T := (nI_eq (a := 1) (by omega) t2).1 hx
  subst eT
  rw [zt_RP_1]
  exact ⟨rfl, zt_mk hL hm h4 p4 hs⟩
theorem i_vc_longest {k : Nat} {u : SX} {v : SY} (I : i_Rel k u v) (hk : k + 3 ≤ 1536) (v1 : Int32) : wpX_longest (fun r u' => wpY_longest (fun r' => r' = r ∧ i_Rel (k + 3) u' v) v v1) u v1 := by
  obtain ⟨L, m, t, pat, ⟨hL, hm, h4, p4⟩, ⟨f_distinctFound, f_longestFound, f_nodeCount, f_stateCount, f_rowCount, a_order, a_occurs, a_otherOrder, a_rank, a_pairRank, a_nodePlace, a_nodeDepth, a_nodeParent, a_nodeTail, a_nodeBranch, a_waitingNodes, a_stateLength, a_stateLink, a_stateEnd, a_stateTails, a_stateBranch, a_lastColumn, rfl⟩, sh, hs, rfl⟩ := I
  unfold wpX_longest
  refine zt_x_ia (fun e he hx => ?_) (fun nb => br_t rfl (zt_y_lo hL hs (fun e he hx => absurd hx (nb e he)) (fun _ => ⟨rfl, zt_mk hL hm h4 p4 hs⟩)))
  subst hx
  refine br_f (by decide) (zt_x_ar he hL h4 ?_)
  intro f_nodeCount f_stateCount f_rowCount a_rank a_pairRank a_nodePlace a_nodeDepth a_nodeParent a_nodeTail a_nodeBranch a_waitingNodes a_stateLength a_stateLink a_stateEnd a_stateTails a_stateBranch a_lastColumn o G hO hG
  refine zt_y_lo hL hs (fun _ _ _ G' hG' => ?_) (fun x => absurd rfl (x e he))
  rw [zt_G_un hG' hG]
  exact ⟨rfl, zt_mk hL hm h4 p4 hs⟩
theorem i_vc_tail {k : Nat} {u : SX} {v : SY} (I : i_Rel k u v) (hk : k + 3 ≤ 1536) (v1 : Int32) (v2 : Int32) : wpX_tail (fun r u' => wpY_tail (fun r' => r' = r ∧ i_Rel (k + 3) u' v) v v1 v2) u v1 v2 := by
  obtain ⟨L, m, t, pat, ⟨hL, hm, h4, p4⟩, ⟨f_distinctFound, f_longestFound, f_nodeCount, f_stateCount, f_rowCount, a_order, a_occurs, a_otherOrder, a_rank, a_pairRank, a_nodePlace, a_nodeDepth, a_nodeParent, a_nodeTail, a_nodeBranch, a_waitingNodes, a_stateLength, a_stateLink, a_stateEnd, a_stateTails, a_stateBranch, a_lastColumn, rfl⟩, sh, hs, rfl⟩ := I
  have hz := zt_g_Z t L
  unfold wpX_tail
  refine zt_x_ia (fun e he hx => ?_) (fun nb => br_t rfl (zt_y_ta hL hs h4 (fun e he hx => absurd hx (nb e he)) (fun _ => ⟨rfl, zt_mk hL hm h4 p4 hs⟩)))
  subst hx
  refine br_f (by decide) (zt_x_ip hL (fun i hi hx => ?_) (fun nb => br_t rfl (zt_y_ta hL hs h4 (fun _ _ _ r hr => ⟨?_, zt_mk hL hm h4 p4 hs⟩) (fun x => absurd rfl (x e he)))))
  · subst hx
    refine br_f (by decide) (zt_x_ar he hL h4 ?_)
    intro f_nodeCount f_stateCount f_rowCount a_rank a_pairRank a_nodePlace a_nodeDepth a_nodeParent a_nodeTail a_nodeBranch a_waitingNodes a_stateLength a_stateLink a_stateEnd a_stateTails a_stateBranch a_lastColumn o G hO hG
    have ei : (nI i).toNatClampNeg = i := pk_cl i
    refine ⟨pk_in i 40 (by omega), ?_⟩
    simp only [ei]
    exact zt_y_ta hL hs h4 (fun _ _ _ r hr => ⟨zt_tail_un hz hL (Or.inl ⟨o i, (hO i hi).1, by rw [(hO i hi).2], rfl⟩) hr, zt_mk hL hm h4 p4 hs⟩) (fun x => absurd rfl (x e he))
  · rcases hr with ⟨i, hi, ei, _⟩ | ⟨_, er⟩
    · exact absurd ei.symm (nb _ (zt_r_lt hi))
    · exact er
section
variable {f_length f_patternLength f_distinctFound f_longestFound f_nodeCount f_stateCount f_rowCount : Int32} {a_text a_pattern a_order a_occurs a_otherOrder a_rank a_pairRank a_nodePlace a_nodeDepth a_nodeParent a_nodeTail a_nodeBranch a_waitingNodes a_stateLength a_stateLink a_stateEnd a_stateTails a_stateBranch a_lastColumn : Nat → Int32}
variable {t pat : Nat → Nat} {L m : Nat}
theorem zt_x_ag98 {post : Int32 → SX → Prop} {o o' : Nat → Nat} (hL : L ≤ 40) (ho : ∀ k, k < L → o k < L ∧ o' k = o k) (h : post 1 (nI L, f_patternLength, f_distinctFound, f_longestFound, f_nodeCount, f_stateCount, f_rowCount, a_text, a_pattern, fun j => nI (o j), a_occurs, fun j => nI (o' j), a_rank, a_pairRank, a_nodePlace, a_nodeDepth, a_nodeParent, a_nodeTail, a_nodeBranch, a_waitingNodes, a_stateLength, a_stateLink, a_stateEnd, a_stateTails, a_stateBranch, a_lastColumn)) : ∀ d k n, k + d = L → d < n → wX_agree_98 post (nI L) f_patternLength f_distinctFound f_longestFound f_nodeCount f_stateCount f_rowCount a_text a_pattern (fun j => nI (o j)) a_occurs (fun j => nI (o' j)) a_rank a_pairRank a_nodePlace a_nodeDepth a_nodeParent a_nodeTail a_nodeBranch a_waitingNodes a_stateLength a_stateLink a_stateEnd a_stateTails a_stateBranch a_lastColumn n 1 (nI k) := by
  intro d
  induction d with
  | zero =>
    intro k n hk hn
    obtain ⟨n, rfl⟩ : ∃ m, n = m + 1 := ⟨n - 1, by omega⟩
    exact br_t (nI_le (by omega) (by omega)) ⟨rfl, h⟩
  | succ d ih =>
    intro k n hk hn
    obtain ⟨n, rfl⟩ : ∃ m, n = m + 1 := ⟨n - 1, by omega⟩
    have ek : (nI k).toNatClampNeg = k := pk_cl k
    refine br_f (nI_ge (by omega) (by omega)) (br_f (by decide) ⟨pk_in k 40 (by omega), pk_in k 40 (by omega), br_t ?_ (nm_r (nI_1 k) (ih (k + 1) n (by omega) (by omega)))⟩)
    simp only [ek]
    rw [(ho k (by omega)).2]
theorem zt_x_ag37 {post : Int32 → SX → Prop} {e : Nat} {o1 : Nat → Nat} {x3 x4 : Int32} (hL : L ≤ 40) (h : ∀ o' : Nat → Nat, (∀ k, k < L → o' k = o1 k) → wpX_arrange (fun u => match u with | (f_length, f_patternLength, f_distinctFound, f_longestFound, f_nodeCount, f_stateCount, f_rowCount, a_text, a_pattern, a_order, a_occurs, a_otherOrder, a_rank, a_pairRank, a_nodePlace, a_nodeDepth, a_nodeParent, a_nodeTail, a_nodeBranch, a_waitingNodes, a_stateLength, a_stateLink, a_stateEnd, a_stateTails, a_stateBranch, a_lastColumn) => (((f_distinctFound = x3 → (((f_longestFound = x4 → (∃ n98 : Nat, wX_agree_98 post f_length f_patternLength f_distinctFound f_longestFound f_nodeCount f_stateCount f_rowCount a_text a_pattern a_order a_occurs a_otherOrder a_rank a_pairRank a_nodePlace a_nodeDepth a_nodeParent a_nodeTail a_nodeBranch a_waitingNodes a_stateLength a_stateLink a_stateEnd a_stateTails a_stateBranch a_lastColumn n98 1 0)) ∧ (¬ f_longestFound = x4 → (∃ n98 : Nat, wX_agree_98 post f_length f_patternLength f_distinctFound f_longestFound f_nodeCount f_stateCount f_rowCount a_text a_pattern a_order a_occurs a_otherOrder a_rank a_pairRank a_nodePlace a_nodeDepth a_nodeParent a_nodeTail a_nodeBranch a_waitingNodes a_stateLength a_stateLink a_stateEnd a_stateTails a_stateBranch a_lastColumn n98 0 0))))) ∧ (¬ f_distinctFound = x3 → (∃ n98 : Nat, wX_agree_98 post f_length f_patternLength f_distinctFound f_longestFound f_nodeCount f_stateCount f_rowCount a_text a_pattern a_order a_occurs a_otherOrder a_rank a_pairRank a_nodePlace a_nodeDepth a_nodeParent a_nodeTail a_nodeBranch a_waitingNodes a_stateLength a_stateLink a_stateEnd a_stateTails a_stateBranch a_lastColumn n98 0 0))))) (nI L, f_patternLength, f_distinctFound, f_longestFound, f_nodeCount, f_stateCount, f_rowCount, a_text, a_pattern, fun j => nI (o1 j), a_occurs, fun j => nI (o' j), a_rank, a_pairRank, a_nodePlace, a_nodeDepth, a_nodeParent, a_nodeTail, a_nodeBranch, a_waitingNodes, a_stateLength, a_stateLink, a_stateEnd, a_stateTails, a_stateBranch, a_lastColumn) (nI e)) : ∀ d k n (o' : Nat → Nat), k + d = L → d < n → (∀ q, q < k → o' q = o1 q) → wX_agree_37 post (nI e) x3 x4 (nI L) f_patternLength f_distinctFound f_longestFound f_nodeCount f_stateCount f_rowCount n (nI k) a_text a_pattern (fun j => nI (o1 j)) a_occurs (fun j => nI (o' j)) a_rank a_pairRank a_nodePlace a_nodeDepth a_nodeParent a_nodeTail a_nodeBranch a_waitingNodes a_stateLength a_stateLink a_stateEnd a_stateTails a_stateBranch a_lastColumn := by
  intro d
  induction d with
  | zero =>
    intro k n o' hk hn hq
    obtain ⟨n, rfl⟩ : ∃ m, n = m + 1 := ⟨n - 1, by omega⟩
    exact br_t (nI_le (by omega) (by omega)) (h o' (fun q hq' => hq q (by omega)))
  | succ d ih =>
    intro k n o' hk hn hq
    obtain ⟨n, rfl⟩ : ∃ m, n = m + 1 := ⟨n - 1, by omega⟩
    have ek : (nI k).toNatClampNeg = k := pk_cl k
    refine br_f (nI_ge (by omega) (by omega)) ⟨pk_in k 40 (by omega), pk_in k 40 (by omega), nm_r (zt_upE k (o1 k) ek ?_) (nm_r (nI_1 k) (ih (k + 1) n _ (by omega) (by omega) (fun q hq' => ?_)))⟩
    · simp only [ek]
    · by_cases c : q = k
      · rw [c, zt_us]
      · rw [zt_un _ _ c]; exact hq q (by omega)
end
theorem i_vc_agree {k : Nat} {u : SX} {v : SY} (I : i_Rel k u v) (hk : k + 3 ≤ 1536) (v1 : Int32) (v2 : Int32) : wpX_agree (fun r u' => wpY_agree (fun r' => r' = r ∧ i_Rel (k + 3) u' v) v v1 v2) u v1 v2 := by
  obtain ⟨L, m, t, pat, ⟨hL, hm, h4, p4⟩, ⟨f_distinctFound, f_longestFound, f_nodeCount, f_stateCount, f_rowCount, a_order, a_occurs, a_otherOrder, a_rank, a_pairRank, a_nodePlace, a_nodeDepth, a_nodeParent, a_nodeTail, a_nodeBranch, a_waitingNodes, a_stateLength, a_stateLink, a_stateEnd, a_stateTails, a_stateBranch, a_lastColumn, rfl⟩, sh, hs, rfl⟩ := I
  have hz := zt_g_Z t L
  unfold wpX_agree wpY_agree
  refine zt_x_ia (fun e he hx => ?_) (fun nb => br_t rfl (zt_y_en (k := 3) (by omega) (fun e he hx => absurd hx (nb e he)) (fun _ => br_t rfl ⟨rfl, zt_mk hL hm h4 p4 hs⟩)))
  subst hx
  refine br_f (by decide) (zt_x_ia (fun e2 he2 hx => ?_) (fun nb => br_t rfl (zt_y_en (k := 3) (by omega) (fun _ _ _ => br_f (by decide) (zt_y_en (k := 3) (by omega) (fun e he hx => absurd hx (nb e he)) (fun _ => br_t rfl ⟨rfl, zt_mk hL hm h4 p4 hs⟩))) (fun x => absurd rfl (x e he)))))
  subst hx
  refine br_f (by decide) (zt_x_ar he2 hL h4 ?_)
  intro f_nodeCount f_stateCount f_rowCount a_rank a_pairRank a_nodePlace a_nodeDepth a_nodeParent a_nodeTail a_nodeBranch a_waitingNodes a_stateLength a_stateLink a_stateEnd a_stateTails a_stateBranch a_lastColumn o G hO hG
  obtain ⟨oo, hoo⟩ := zt_arr a_otherOrder
  subst hoo
  refine ⟨L + 1, zt_x_ag37 hL (fun o' ho' => zt_x_ar he hL h4 ?_) L 0 _ oo (by omega) (by omega) (fun q hq => by omega)⟩
  intro f_nodeCount f_stateCount f_rowCount a_rank a_pairRank a_nodePlace a_nodeDepth a_nodeParent a_nodeTail a_nodeBranch a_waitingNodes a_stateLength a_stateLink a_stateEnd a_stateTails a_stateBranch a_lastColumn o2 G2 hO2 hG2
  have eG := zt_G_un hG2 hG
  subst eG
  exact br_t rfl (br_t rfl ⟨L + 1, zt_x_ag98 hL (fun q hq => ⟨(hO2 q hq).1, (ho' q hq).trans (zt_O_un hz hO hO2 hq)⟩) (zt_y_en (k := 3) (by omega) (fun _ _ _ => br_f (by decide) (zt_y_en (k := 3) (by omega) (fun _ _ _ => br_f (by decide) ⟨rfl, zt_mk hL hm h4 p4 hs⟩) (fun x => absurd rfl (x e2 he2)))) (fun x => absurd rfl (x e he))) L 0 _ (by omega) (by omega)⟩)
end
