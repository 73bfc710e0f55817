/-! the pure part: what writes, reads, hangs; greatest; count -/
def bm_wr (op d : Nat → Int32) (i : Nat) (r : Int32) : Prop := ¬ op i = 8 ∧ d i = r
def bm_rd (op d a b : Nat → Int32) (j : Nat) (r : Int32) : Prop :=
  a j = r ∨ (op j ≤ 5 ∧ b j = r) ∨ ((op j = 5 ∨ op j = 8) ∧ d j = r)
def bm_hg (op d a b : Nat → Int32) (j i : Nat) : Prop :=
  bm_wr op d i (d i) ∧ bm_rd op d a b j (d i) ∧ ∀ k, i < k → k < j → ¬ bm_wr op d k (d i)
def bm_tm (x : Int32) : Nat := if x = 2 then 3 else if x = 7 then 2 else 1
theorem bm_tm_3 (x : Int32) : bm_tm x ≤ 3 := by
  unfold bm_tm
  split
  · omega
  · split <;> omega
/-- m is the greatest of the w i, i below j with P i; 0 if there is none -/
def bm_mx (P : Nat → Prop) (w : Nat → Nat) (j m : Nat) : Prop :=
  (∀ i, i < j → P i → w i ≤ m) ∧ (m = 0 ∨ ∃ i, i < j ∧ P i ∧ w i = m)
theorem bm_mx_u {P : Nat → Prop} {w : Nat → Nat} {j m m' : Nat} (h : bm_mx P w j m) (h' : bm_mx P w j m') : m = m' := by
  obtain ⟨a, b⟩ := h
  obtain ⟨a', b'⟩ := h'
  have h1 : m ≤ m' := by
    rcases b with b | ⟨i, hi, hp, e⟩
    · omega
    · have := a' i hi hp
      omega
  have h2 : m' ≤ m := by
    rcases b' with b | ⟨i, hi, hp, e⟩
    · omega
    · have := a i hi hp
      omega
  omega
theorem bm_mx_c {P Q : Nat → Prop} {w w' : Nat → Nat} {j m : Nat} (hP : ∀ i, i < j → (P i ↔ Q i)) (hw : ∀ i, i < j → w i = w' i) (h : bm_mx P w j m) : bm_mx Q w' j m := by
  obtain ⟨a, b⟩ := h
  refine ⟨fun i hi hq => ?_, ?_⟩
  · rw [← hw i hi]
    exact a i hi ((hP i hi).mpr hq)
  · rcases b with b | ⟨i, hi, hp, e⟩
    · exact Or.inl b
    · exact Or.inr ⟨i, hi, (hP i hi).mp hp, by rw [← hw i hi]; exact e⟩
theorem bm_mx_0 {P : Nat → Prop} {w : Nat → Nat} : bm_mx P w 0 0 :=
  ⟨fun i hi _ => absurd hi (Nat.not_lt_zero i), Or.inl rfl⟩
theorem bm_mx_n {P : Nat → Prop} {w : Nat → Nat} {j : Nat} (h : ∀ i, i < j → ¬ P i) : bm_mx P w j 0 :=
  ⟨fun i hi hp => absurd hp (h i hi), Or.inl rfl⟩
/-- the range grows by one that doesn't count, or isn't greater -/
theorem bm_mx_k {P : Nat → Prop} {w : Nat → Nat} {j m : Nat} (h : bm_mx P w j m) (hn : P j → w j ≤ m) : bm_mx P w (j + 1) m := by
  obtain ⟨a, b⟩ := h
  refine ⟨fun i hi hp => ?_, ?_⟩
  · rcases Nat.lt_succ_iff_lt_or_eq.mp hi with h1 | h1
    · exact a i h1 hp
    · subst h1
      exact hn hp
  · rcases b with b | ⟨i, hi, hp, e⟩
    · exact Or.inl b
    · exact Or.inr ⟨i, Nat.lt_succ_of_lt hi, hp, e⟩
theorem bm_mx_s {P : Nat → Prop} {w : Nat → Nat} {j m : Nat} (h : bm_mx P w j m) (hp : P j) (hg : m ≤ w j) : bm_mx P w (j + 1) (w j) := by
  obtain ⟨a, _⟩ := h
  refine ⟨fun i hi hq => ?_, Or.inr ⟨j, Nat.lt_succ_self j, hp, rfl⟩⟩
  rcases Nat.lt_succ_iff_lt_or_eq.mp hi with h1 | h1
  · exact Nat.le_trans (a i h1 hq) hg
  · subst h1
    exact Nat.le_refl _
/-- the set grows by x -/
theorem bm_mx_a {P Q : Nat → Prop} {w : Nat → Nat} {j m x : Nat} (h : bm_mx P w j m) (hx : x < j) (hQ : ∀ i, i < j → (Q i ↔ (P i ∨ i = x))) (hg : w x ≤ m) : bm_mx Q w j m := by
  obtain ⟨a, b⟩ := h
  refine ⟨fun i hi hq => ?_, ?_⟩
  · rcases (hQ i hi).mp hq with h1 | h1
    · exact a i hi h1
    · rw [h1]
      exact hg
  · rcases b with b | ⟨i, hi, hp, e⟩
    · exact Or.inl b
    · exact Or.inr ⟨i, hi, (hQ i hi).mpr (Or.inl hp), e⟩
theorem bm_mx_b {P Q : Nat → Prop} {w : Nat → Nat} {j m x : Nat} (h : bm_mx P w j m) (hx : x < j) (hQ : ∀ i, i < j → (Q i ↔ (P i ∨ i = x))) (hg : m ≤ w x) : bm_mx Q w j (w x) := by
  obtain ⟨a, _⟩ := h
  refine ⟨fun i hi hq => ?_, Or.inr ⟨x, hx, (hQ x hx).mpr (Or.inr rfl), rfl⟩⟩
  rcases (hQ i hi).mp hq with h1 | h1
  · exact Nat.le_trans (a i hi h1) hg
  · rw [h1]
    exact Nat.le_refl _
theorem bm_mx_le {P : Nat → Prop} {w : Nat → Nat} {j m : Nat} (h : bm_mx P w j m) (hw : ∀ i, i < j → w i ≤ 3 * (i + 1)) : m ≤ 3 * j := by
  rcases h.2 with b | ⟨i, hi, _, e⟩
  · omega
  · have := hw i hi
    omega
/-- how many i below n have P i -/
noncomputable def bm_cn (P : Nat → Prop) : Nat → Nat
  | 0 => 0
  | n + 1 => bm_cn P n + @ite Nat (P n) (Classical.propDecidable (P n)) 1 0
theorem bm_cn_t {P : Nat → Prop} {n : Nat} (h : P n) : bm_cn P (n + 1) = bm_cn P n + 1 := by
  rw [bm_cn, if_pos h]
theorem bm_cn_f {P : Nat → Prop} {n : Nat} (h : ¬ P n) : bm_cn P (n + 1) = bm_cn P n := by
  rw [bm_cn, if_neg h, Nat.add_zero]
theorem bm_cn_n {P : Nat → Prop} : ∀ n : Nat, (∀ i, i < n → ¬ P i) → bm_cn P n = 0 := by
  intro n
  induction n with
  | zero => intro _; rfl
  | succ n ih =>
    intro h
    rw [bm_cn_f (h n (Nat.lt_succ_self n))]
    exact ih fun i hi => h i (Nat.lt_succ_of_lt hi)
theorem bm_cn_c {P Q : Nat → Prop} : ∀ n : Nat, (∀ i, i < n → (P i ↔ Q i)) → bm_cn P n = bm_cn Q n := by
  intro n
  induction n with
  | zero => intro _; rfl
  | succ n ih =>
    intro h
    have e := ih fun i hi => h i (Nat.lt_succ_of_lt hi)
    have hn := h n (Nat.lt_succ_self n)
    by_cases hp : P n
    · rw [bm_cn_t hp, bm_cn_t (hn.mp hp), e]
    · rw [bm_cn_f hp, bm_cn_f (fun hq => hp (hn.mpr hq)), e]
theorem bm_cn_1 {P Q : Nat → Prop} (x : Nat) (hx : ¬ P x) : ∀ n : Nat, x < n → (∀ i, i < n → (Q i ↔ (P i ∨ i = x))) → bm_cn Q n = bm_cn P n + 1 := by
  intro n
  induction n with
  | zero => intro h; exact absurd h (Nat.not_lt_zero x)
  | succ n ih =>
    intro h hQ
    have hn := hQ n (Nat.lt_succ_self n)
    by_cases hxn : x = n
    · subst hxn
      rw [bm_cn_t (hn.mpr (Or.inr rfl)), bm_cn_f hx]
      rw [bm_cn_c (P := Q) (Q := P) x fun i hi => ?_]
      refine (hQ i (Nat.lt_succ_of_lt hi)).trans ⟨fun h1 => ?_, fun h1 => Or.inl h1⟩
      rcases h1 with h1 | h1
      · exact h1
      · exact absurd h1 (Nat.ne_of_lt hi)
    · have e := ih (by omega) fun i hi => hQ i (Nat.lt_succ_of_lt hi)
      by_cases hp : P n
      · rw [bm_cn_t hp, bm_cn_t (hn.mpr (Or.inl hp)), e]
      · rw [bm_cn_f hp, bm_cn_f (fun hq => ?_), e]
        rcases hn.mp hq with h1 | h1
        · exact hp h1
        · exact hxn h1.symm
/-- the sum of f i, i below n -/
def bm_ls (f : Nat → Nat) : Nat → Nat
  | 0 => 0
  | n + 1 => bm_ls f n + f n
/-! one register more: the set of those that j hangs on and that write a register below r -/
def bm_hr (op d a b : Nat → Int32) (j r i : Nat) : Prop := bm_hg op d a b j i ∧ ∃ q : Nat, q < r ∧ d i = nI q
theorem bm_hr_0 {op d a b : Nat → Int32} {j i : Nat} : ¬ bm_hr op d a b j 0 i := fun h => by
  obtain ⟨_, q, hq, _⟩ := h
  exact Nat.not_lt_zero q hq
theorem bm_hr_8 {op d a b : Nat → Int32} {j i : Nat} (hd : ∃ q : Nat, q < 8 ∧ d i = nI q) : bm_hr op d a b j 8 i ↔ bm_hg op d a b j i :=
  ⟨fun h => h.1, fun h => ⟨h, hd⟩⟩
theorem bm_hr_y {op d a b : Nat → Int32} {j r x : Nat} (hx : x < j) (hr : r < 8) (hR : bm_rd op d a b j (nI r)) (hw : bm_wr op d x (nI r)) (hl : ∀ k, x < k → k < j → ¬ bm_wr op d k (nI r)) :
    ¬ bm_hr op d a b j r x ∧ ∀ i, i < j → (bm_hr op d a b j (r + 1) i ↔ (bm_hr op d a b j r i ∨ i = x)) := by
  refine ⟨fun h => ?_, fun i hi => ⟨fun h => ?_, fun h => ?_⟩⟩
  · obtain ⟨_, q, hq, e⟩ := h
    have e2 : nI r = nI q := hw.2.symm.trans e
    rw [nI_eq (by omega) (by omega)] at e2
    omega
  · obtain ⟨hg, q, hq, e⟩ := h
    by_cases hqr : q = r
    · subst hqr
      right
      obtain ⟨g1, _, g3⟩ := hg
      rw [e] at g1 g3
      rcases Nat.lt_trichotomy i x with h1 | h1 | h1
      · exact absurd hw (g3 x h1 hx)
      · exact h1
      · exact absurd g1 (hl i h1 hi)
    · exact Or.inl ⟨hg, q, by omega, e⟩
  · rcases h with h | h
    · obtain ⟨hg, q, hq, e⟩ := h
      exact ⟨hg, q, by omega, e⟩
    · subst h
      have e : d i = nI r := hw.2
      refine ⟨⟨?_, ?_, ?_⟩, r, by omega, e⟩
      · rw [e]; exact hw
      · rw [e]; exact hR
      · rw [e]; exact hl
theorem bm_hr_n {op d a b : Nat → Int32} {j r : Nat} (h : ¬ bm_rd op d a b j (nI r) ∨ ∀ i, i < j → ¬ bm_wr op d i (nI r)) :
    ∀ i, i < j → (bm_hr op d a b j r i ↔ bm_hr op d a b j (r + 1) i) := by
  intro i hi
  refine ⟨fun g => ?_, fun g => ?_⟩
  · obtain ⟨hg, q, hq, e⟩ := g
    exact ⟨hg, q, by omega, e⟩
  · obtain ⟨hg, q, hq, e⟩ := g
    by_cases hqr : q = r
    · subst hqr
      obtain ⟨g1, g2, _⟩ := hg
      rw [e] at g1 g2
      rcases h with h | h
      · exact absurd g2 h
      · exact absurd g1 (h i hi)
    · exact ⟨hg, q, by omega, e⟩
/-! what doesn't reach beyond j -/
theorem bm_rd_c {op d a b op' d' a' b' : Nat → Int32} {j : Nat} (h1 : op' j = op j) (h2 : d' j = d j) (h3 : a' j = a j) (h4 : b' j = b j) (r : Int32) :
    bm_rd op d a b j r ↔ bm_rd op' d' a' b' j r := by
  unfold bm_rd
  rw [h1, h2, h3, h4]
theorem bm_wr_c {op d op' d' : Nat → Int32} {j : Nat} (h1 : op' j = op j) (h2 : d' j = d j) (r : Int32) : bm_wr op d j r ↔ bm_wr op' d' j r := by
  unfold bm_wr
  rw [h1, h2]
theorem bm_hg_c {op d a b op' d' a' b' : Nat → Int32} {j : Nat} (h1 : ∀ i, i ≤ j → op' i = op i) (h2 : ∀ i, i ≤ j → d' i = d i) (h3 : ∀ i, i ≤ j → a' i = a i) (h4 : ∀ i, i ≤ j → b' i = b i) :
    ∀ i, i < j → (bm_hg op d a b j i ↔ bm_hg op' d' a' b' j i) := by
  intro i hi
  have e := h2 i (Nat.le_of_lt hi)
  unfold bm_hg
  rw [e, ← bm_wr_c (h1 i (Nat.le_of_lt hi)) e, ← bm_rd_c (h1 j (Nat.le_refl j)) (h2 j (Nat.le_refl j)) (h3 j (Nat.le_refl j)) (h4 j (Nat.le_refl j))]
  refine ⟨fun g => ⟨g.1, g.2.1, fun k hk hkj => ?_⟩, fun g => ⟨g.1, g.2.1, fun k hk hkj => ?_⟩⟩
  · rw [← bm_wr_c (h1 k (Nat.le_of_lt hkj)) (h2 k (Nat.le_of_lt hkj))]
    exact g.2.2 k hk hkj
  · rw [bm_wr_c (h1 k (Nat.le_of_lt hkj)) (h2 k (Nat.le_of_lt hkj))]
    exact g.2.2 k hk hkj
