section
/-! rows pasted from kit/rows -/
theorem pk_us {f : Nat → Int32} {k : Nat} {x : Int32} : upd f k x k = x := if_pos rfl
theorem pk_un {f : Nat → Int32} {k j : Nat} {x : Int32} (h : j ≠ k) : upd f k x j = f j := if_neg h
theorem pk_sub {a b : Nat} (h : b ≤ a) : nI a - nI b = nI (a - b) := by
  obtain ⟨c, rfl⟩ : ∃ c, a = c + b := ⟨a - b, by omega⟩
  rw [← nI_add, Int32.add_sub_cancel, Nat.add_sub_cancel]
theorem pk_m1 (n : Nat) : nI (n + 1) + (-1) = nI n := by
  rw [← nI_1, Int32.add_assoc, show (1 : Int32) + (-1) = 0 from rfl, Int32.add_zero]
theorem pk_ix (x : Int32) {n : Nat} (hn : n < 2 ^ 31) : x < 0 ∨ nI n ≤ x ∨ ∃ j : Nat, j < n ∧ x = nI j := by
  by_cases h : x < 0
  · exact Or.inl h
  · obtain ⟨j, hj, rfl⟩ := nI_of h
    by_cases h2 : j < n
    · exact Or.inr (Or.inr ⟨j, h2, rfl⟩)
    · exact Or.inr (Or.inl (nI_le (by omega) hj))
theorem pk_le {x y : Int32} {A B : Prop} (a b : Nat) (f : a ≤ b → A) (g : b < a → B) (hx : x = nI a := by rfl) (hy : y = nI b := by rfl) (ha : a < 2 ^ 31 := by omega) (hb : b < 2 ^ 31 := by omega) : (x ≤ y → A) ∧ (¬ x ≤ y → B) := by
  subst hx hy
  rw [nI_leI ha hb]
  exact ⟨f, fun z => g (by omega)⟩
theorem pk_lt {x y : Int32} {A B : Prop} (a b : Nat) (f : a < b → A) (g : b ≤ a → B) (hx : x = nI a := by rfl) (hy : y = nI b := by rfl) (ha : a < 2 ^ 31 := by omega) (hb : b < 2 ^ 31 := by omega) : (x < y → A) ∧ (¬ x < y → B) := by
  subst hx hy
  rw [nI_ltI ha hb]
  exact ⟨f, fun z => g (by omega)⟩
theorem pk_eq {x y : Int32} {A B : Prop} (a b : Nat) (f : a = b → A) (g : a ≠ b → B) (hx : x = nI a := by rfl) (hy : y = nI b := by rfl) (ha : a < 2 ^ 31 := by omega) (hb : b < 2 ^ 31 := by omega) : (x = y → A) ∧ (¬ x = y → B) := by
  subst hx hy
  rw [nI_eq ha hb]
  exact ⟨f, g⟩
theorem pk_in {x : Int32} (n N : Nat) (h : n < N) (hx : x = nI n := by rfl) (hN : N < 2 ^ 31 := by omega) : vp_in x N := by
  subst hx
  exact vp_in_nI h hN
theorem pk_cl {x : Int32} (n : Nat) (hx : x = nI n := by rfl) (h : n < 2 ^ 31 := by omega) : x.toNatClampNeg = n := by
  subst hx
  exact nI_clamp h
theorem pk_tn {n : Nat} (h : n < 2 ^ 32) : (nI n).toBitVec.toNat = n := Nat.mod_eq_of_lt h
theorem pk_and (x : Int32) {m : Int32} (k : Nat) (hm : m.toBitVec.toNat = 2 ^ k - 1) : x &&& m = nI (x.toBitVec.toNat % 2 ^ k) := by
  apply Int32.toBitVec_inj.mp
  apply BitVec.eq_of_toNat_eq
  rw [Int32.toBitVec_and, BitVec.toNat_and, hm, Nat.and_two_pow_sub_one_eq_mod]
  show _ = (BitVec.ofNat 32 _).toNat
  rw [BitVec.toNat_ofNat]
  exact (Nat.mod_eq_of_lt (Nat.lt_of_le_of_lt (Nat.mod_le _ _) x.toBitVec.isLt)).symm
theorem pk_andE (x : Int32) {m : Int32} (k : Nat) (hm : m.toBitVec.toNat = 2 ^ k - 1) : ∃ j : Nat, j < 2 ^ k ∧ x &&& m = nI j := ⟨_, Nat.mod_lt _ (Nat.two_pow_pos k), pk_and x k hm⟩
theorem pk_andIn (x : Int32) {m : Int32} (k : Nat) (hm : m.toBitVec.toNat = 2 ^ k - 1) (hk : k ≤ 30) : vp_in (x &&& m) (2 ^ k) := by
  obtain ⟨j, hj, e⟩ := pk_andE x k hm
  rw [e]
  exact vp_in_nI hj (Nat.lt_of_le_of_lt (Nat.pow_le_pow_right (by decide) hk) (by decide))
end
section
/-! the pure part: what writes, reads, hangs; greatest; count -/
def bm_wr (op d : Nat → Int32) (i : Nat) (r : Int32) : Prop := ¬ op i = 8 ∧ d i = r
def bm_rd (op d a b : Nat → Int32) (j : Nat) (r : Int32) : Prop :=
  a j = r ∨ (op j ≤ 5 ∧ b j = r) ∨ ((op j = 5 ∨ op j = 8) ∧ d j = r)
def bm_hg (op d a b : Nat → Int32) (j i : Nat) : Prop :=
  bm_wr op d i (d i) ∧ bm_rd op d a b j (d i) ∧ ∀ k, i < k → k < j → ¬ bm_wr op d k (d i)
def bm_tm (x : Int32) : Nat := if x = 2 then 3 else if x = 7 then 2 else 1
theorem bm_tm_3 (x : Int32) : bm_tm x ≤ 3 := by
  unfold bm_tm
  split
  · omega
  · split <;> omega
/-- m is the greatest of the w i, i below j with P i; 0 if there is none -/
def bm_mx (P : Nat → Prop) (w : Nat → Nat) (j m : Nat) : Prop :=
  (∀ i, i < j → P i → w i ≤ m) ∧ (m = 0 ∨ ∃ i, i < j ∧ P i ∧ w i = m)
theorem bm_mx_u {P : Nat → Prop} {w : Nat → Nat} {j m m' : Nat} (h : bm_mx P w j m) (h' : bm_mx P w j m') : m = m' := by
  obtain ⟨a, b⟩ := h
  obtain ⟨a', b'⟩ := h'
  have h1 : m ≤ m' := by
    rcases b with b | ⟨i, hi, hp, e⟩
    · omega
    · have := a' i hi hp
      omega
  have h2 : m' ≤ m := by
    rcases b' with b | ⟨i, hi, hp, e⟩
    · omega
    · have := a i hi hp
      omega
  omega
theorem bm_mx_c {P Q : Nat → Prop} {w w' : Nat → Nat} {j m : Nat} (hP : ∀ i, i < j → (P i ↔ Q i)) (hw : ∀ i, i < j → w i = w' i) (h : bm_mx P w j m) : bm_mx Q w' j m := by
  obtain ⟨a, b⟩ := h
  refine ⟨fun i hi hq => ?_, ?_⟩
  · rw [← hw i hi]
    exact a i hi ((hP i hi).mpr hq)
  · rcases b with b | ⟨i, hi, hp, e⟩
    · exact Or.inl b
    · exact Or.inr ⟨i, hi, (hP i hi).mp hp, by rw [← hw i hi]; exact e⟩
theorem bm_mx_0 {P : Nat → Prop} {w : Nat → Nat} : bm_mx P w 0 0 :=
  ⟨fun i hi _ => absurd hi (Nat.not_lt_zero i), Or.inl rfl⟩
theorem bm_mx_n {P : Nat → Prop} {w : Nat → Nat} {j : Nat} (h : ∀ i, i < j → ¬ P i) : bm_mx P w j 0 :=
  ⟨fun i hi hp => absurd hp (h i hi), Or.inl rfl⟩
/-- the range grows by one that doesn't count, or isn't greater -/
theorem bm_mx_k {P : Nat → Prop} {w : Nat → Nat} {j m : Nat} (h : bm_mx P w j m) (hn : P j → w j ≤ m) : bm_mx P w (j + 1) m := by
  obtain ⟨a, b⟩ := h
  refine ⟨fun i hi hp => ?_, ?_⟩
  · rcases Nat.lt_succ_iff_lt_or_eq.mp hi with h1 | h1
    · exact a i h1 hp
    · subst h1
      exact hn hp
  · rcases b with b | ⟨i, hi, hp, e⟩
    · exact Or.inl b
    · exact Or.inr ⟨i, Nat.lt_succ_of_lt hi, hp, e⟩
theorem bm_mx_s {P : Nat → Prop} {w : Nat → Nat} {j m : Nat} (h : bm_mx P w j m) (hp : P j) (hg : m ≤ w j) : bm_mx P w (j + 1) (w j) := by
  obtain ⟨a, _⟩ := h
  refine ⟨fun i hi hq => ?_, Or.inr ⟨j, Nat.lt_succ_self j, hp, rfl⟩⟩
  rcases Nat.lt_succ_iff_lt_or_eq.mp hi with h1 | h1
  · exact Nat.le_trans (a i h1 hq) hg
  · subst h1
    exact Nat.le_refl _
/-- the set grows by x -/
theorem bm_mx_a {P Q : Nat → Prop} {w : Nat → Nat} {j m x : Nat} (h : bm_mx P w j m) (hx : x < j) (hQ : ∀ i, i < j → (Q i ↔ (P i ∨ i = x))) (hg : w x ≤ m) : bm_mx Q w j m := by
  obtain ⟨a, b⟩ := h
  refine ⟨fun i hi hq => ?_, ?_⟩
  · rcases (hQ i hi).mp hq with h1 | h1
    · exact a i hi h1
    · rw [h1]
      exact hg
  · rcases b with b | ⟨i, hi, hp, e⟩
    · exact Or.inl b
    · exact Or.inr ⟨i, hi, (hQ i hi).mpr (Or.inl hp), e⟩
theorem bm_mx_b {P Q : Nat → Prop} {w : Nat → Nat} {j m x : Nat} (h : bm_mx P w j m) (hx : x < j) (hQ : ∀ i, i < j → (Q i ↔ (P i ∨ i = x))) (hg : m ≤ w x) : bm_mx Q w j (w x) := by
  obtain ⟨a, _⟩ := h
  refine ⟨fun i hi hq => ?_, Or.inr ⟨x, hx, (hQ x hx).mpr (Or.inr rfl), rfl⟩⟩
  rcases (hQ i hi).mp hq with h1 | h1
  · exact Nat.le_trans (a i hi h1) hg
  · rw [h1]
    exact Nat.le_refl _
theorem bm_mx_le {P : Nat → Prop} {w : Nat → Nat} {j m : Nat} (h : bm_mx P w j m) (hw : ∀ i, i < j → w i ≤ 3 * (i + 1)) : m ≤ 3 * j := by
  rcases h.2 with b | ⟨i, hi, _, e⟩
  · omega
  · have := hw i hi
    omega
/-- how many i below n have P i -/
noncomputable def bm_cn (P : Nat → Prop) : Nat → Nat
  | 0 => 0
  | n + 1 => bm_cn P n + @ite Nat (P n) (Classical.propDecidable (P n)) 1 0
theorem bm_cn_t {P : Nat → Prop} {n : Nat} (h : P n) : bm_cn P (n + 1) = bm_cn P n + 1 := by
  rw [bm_cn, if_pos h]
theorem bm_cn_f {P : Nat → Prop} {n : Nat} (h : ¬ P n) : bm_cn P (n + 1) = bm_cn P n := by
  rw [bm_cn, if_neg h, Nat.add_zero]
theorem bm_cn_n {P : Nat → Prop} : ∀ n : Nat, (∀ i, i < n → ¬ P i) → bm_cn P n = 0 := by
  intro n
  induction n with
  | zero => intro _; rfl
  | succ n ih =>
    intro h
    rw [bm_cn_f (h n (Nat.lt_succ_self n))]
    exact ih fun i hi => h i (Nat.lt_succ_of_lt hi)
theorem bm_cn_c {P Q : Nat → Prop} : ∀ n : Nat, (∀ i, i < n → (P i ↔ Q i)) → bm_cn P n = bm_cn Q n := by
  intro n
  induction n with
  | zero => intro _; rfl
  | succ n ih =>
    intro h
    have e := ih fun i hi => h i (Nat.lt_succ_of_lt hi)
    have hn := h n (Nat.lt_succ_self n)
    by_cases hp : P n
    · rw [bm_cn_t hp, bm_cn_t (hn.mp hp), e]
    · rw [bm_cn_f hp, bm_cn_f (fun hq => hp (hn.mpr hq)), e]
theorem bm_cn_1 {P Q : Nat → Prop} (x : Nat) (hx : ¬ P x) : ∀ n : Nat, x < n → (∀ i, i < n → (Q i ↔ (P i ∨ i = x))) → bm_cn Q n = bm_cn P n + 1 := by
  intro n
  induction n with
  | zero => intro h; exact absurd h (Nat.not_lt_zero x)
  | succ n ih =>
    intro h hQ
    have hn := hQ n (Nat.lt_succ_self n)
    by_cases hxn : x = n
    · subst hxn
      rw [bm_cn_t (hn.mpr (Or.inr rfl)), bm_cn_f hx]
      rw [bm_cn_c (P := Q) (Q := P) x fun i hi => ?_]
      refine (hQ i (Nat.lt_succ_of_lt hi)).trans ⟨fun h1 => ?_, fun h1 => Or.inl h1⟩
      rcases h1 with h1 | h1
      · exact h1
      · exact absurd h1 (Nat.ne_of_lt hi)
    · have e := ih (by omega) fun i hi => hQ i (Nat.lt_succ_of_lt hi)
      by_cases hp : P n
      · rw [bm_cn_t hp, bm_cn_t (hn.mpr (Or.inl hp)), e]
      · rw [bm_cn_f hp, bm_cn_f (fun hq => ?_), e]
        rcases hn.mp hq with h1 | h1
        · exact hp h1
        · exact hxn h1.symm
/-- the sum of f i, i below n -/
def bm_ls (f : Nat → Nat) : Nat → Nat
  | 0 => 0
  | n + 1 => bm_ls f n + f n
/-! one register more: the set of those that j hangs on and that write a register below r -/
def bm_hr (op d a b : Nat → Int32) (j r i : Nat) : Prop := bm_hg op d a b j i ∧ ∃ q : Nat, q < r ∧ d i = nI q
theorem bm_hr_0 {op d a b : Nat → Int32} {j i : Nat} : ¬ bm_hr op d a b j 0 i := fun h => by
  obtain ⟨_, q, hq, _⟩ := h
  exact Nat.not_lt_zero q hq
theorem bm_hr_8 {op d a b : Nat → Int32} {j i : Nat} (hd : ∃ q : Nat, q < 8 ∧ d i = nI q) : bm_hr op d a b j 8 i ↔ bm_hg op d a b j i :=
  ⟨fun h => h.1, fun h => ⟨h, hd⟩⟩
theorem bm_hr_y {op d a b : Nat → Int32} {j r x : Nat} (hx : x < j) (hr : r < 8) (hR : bm_rd op d a b j (nI r)) (hw : bm_wr op d x (nI r)) (hl : ∀ k, x < k → k < j → ¬ bm_wr op d k (nI r)) :
    ¬ bm_hr op d a b j r x ∧ ∀ i, i < j → (bm_hr op d a b j (r + 1) i ↔ (bm_hr op d a b j r i ∨ i = x)) := by
  refine ⟨fun h => ?_, fun i hi => ⟨fun h => ?_, fun h => ?_⟩⟩
  · obtain ⟨_, q, hq, e⟩ := h
    have e2 : nI r = nI q := hw.2.symm.trans e
    rw [nI_eq (by omega) (by omega)] at e2
    omega
  · obtain ⟨hg, q, hq, e⟩ := h
    by_cases hqr : q = r
    · subst hqr
      right
      obtain ⟨g1, _, g3⟩ := hg
      rw [e] at g1 g3
      rcases Nat.lt_trichotomy i x with h1 | h1 | h1
      · exact absurd hw (g3 x h1 hx)
      · exact h1
      · exact absurd g1 (hl i h1 hi)
    · exact Or.inl ⟨hg, q, by omega, e⟩
  · rcases h with h | h
    · obtain ⟨hg, q, hq, e⟩ := h
      exact ⟨hg, q, by omega, e⟩
    · subst h
      have e : d i = nI r := hw.2
      refine ⟨⟨?_, ?_, ?_⟩, r, by omega, e⟩
      · rw [e]; exact hw
      · rw [e]; exact hR
      · rw [e]; exact hl
theorem bm_hr_n {op d a b : Nat → Int32} {j r : Nat} (h : ¬ bm_rd op d a b j (nI r) ∨ ∀ i, i < j → ¬ bm_wr op d i (nI r)) :
    ∀ i, i < j → (bm_hr op d a b j r i ↔ bm_hr op d a b j (r + 1) i) := by
  intro i hi
  refine ⟨fun g => ?_, fun g => ?_⟩
  · obtain ⟨hg, q, hq, e⟩ := g
    exact ⟨hg, q, by omega, e⟩
  · obtain ⟨hg, q, hq, e⟩ := g
    by_cases hqr : q = r
    · subst hqr
      obtain ⟨g1, g2, _⟩ := hg
      rw [e] at g1 g2
      rcases h with h | h
      · exact absurd g2 h
      · exact absurd g1 (h i hi)
    · exact ⟨hg, q, by omega, e⟩
/-! what doesn't reach beyond j -/
theorem bm_rd_c {op d a b op' d' a' b' : Nat → Int32} {j : Nat} (h1 : op' j = op j) (h2 : d' j = d j) (h3 : a' j = a j) (h4 : b' j = b j) (r : Int32) :
    bm_rd op d a b j r ↔ bm_rd op' d' a' b' j r := by
  unfold bm_rd
  rw [h1, h2, h3, h4]
theorem bm_wr_c {op d op' d' : Nat → Int32} {j : Nat} (h1 : op' j = op j) (h2 : d' j = d j) (r : Int32) : bm_wr op d j r ↔ bm_wr op' d' j r := by
  unfold bm_wr
  rw [h1, h2]
theorem bm_hg_c {op d a b op' d' a' b' : Nat → Int32} {j : Nat} (h1 : ∀ i, i ≤ j → op' i = op i) (h2 : ∀ i, i ≤ j → d' i = d i) (h3 : ∀ i, i ≤ j → a' i = a i) (h4 : ∀ i, i ≤ j → b' i = b i) :
    ∀ i, i < j → (bm_hg op d a b j i ↔ bm_hg op' d' a' b' j i) := by
  intro i hi
  have e := h2 i (Nat.le_of_lt hi)
  unfold bm_hg
  rw [e, ← bm_wr_c (h1 i (Nat.le_of_lt hi)) e, ← bm_rd_c (h1 j (Nat.le_refl j)) (h2 j (Nat.le_refl j)) (h3 j (Nat.le_refl j)) (h4 j (Nat.le_refl j))]
  refine ⟨fun g => ⟨g.1, g.2.1, fun k hk hkj => ?_⟩, fun g => ⟨g.1, g.2.1, fun k hk hkj => ?_⟩⟩
  · rw [← bm_wr_c (h1 k (Nat.le_of_lt hkj)) (h2 k (Nat.le_of_lt hkj))]
    exact g.2.2 k hk hkj
  · rw [bm_wr_c (h1 k (Nat.le_of_lt hkj)) (h2 k (Nat.le_of_lt hkj))]
    exact g.2.2 k hk hkj
end
section
/-! X: reads, the last writer, settle -/
section BMX
variable {f : Int32} {R M op d a b wX lX : Nat → Int32}
theorem bm_in {j : Nat} (h : j < 24) : vp_in (nI j) 24 := vp_in_nI h (by decide)
theorem bm_cl {j : Nat} (h : j < 24) : (nI j).toNatClampNeg = j := nI_clamp (by omega)
theorem bm_10 : ¬ (1 : Int32) = 0 := by decide
theorem bm_ne {i : Nat} (h : i < 2 ^ 31) : ¬ nI i = -1 := by
  intro e
  have := nI_pos (n := i) h
  rw [e] at this
  exact this (by decide)
theorem xr_nb {post : Int32 → Prop} {x : Int32} (h1 : x ≤ 5 → post 1) (h0 : ¬ x ≤ 5 → post 0) : wpX_namesRegisterInB post x :=
  ⟨fun h => h0 (Int32.not_le.mpr h), fun h => h1 (Int32.not_lt.mp h)⟩
theorem xr_r36 {post : Int32 → Prop} {j : Nat} {r x : Int32} (hj : j < 24) (h1 : (x = 5 ∨ x = 8) ∧ d j = r → post 1) (h0 : ¬ ((x = 5 ∨ x = 8) ∧ d j = r) → post 0) :
    wX_reads_36 post (nI j) r x f R M op d a b wX lX := by
  have hi := bm_in hj
  unfold wX_reads_36 wX_reads_47
  rw [bm_cl hj]
  exact br_c (fun h5 => ⟨hi, br_c (fun hd => h1 ⟨Or.inl h5, hd⟩) (fun hd => h0 fun g => hd g.2)⟩) fun h5 => br_c (fun h8 => ⟨hi, br_c (fun hd => h1 ⟨Or.inr h8, hd⟩) fun hd => h0 fun g => hd g.2⟩) fun h8 => h0 fun g => g.1.elim h5 h8
theorem xr_reads {post : Int32 → Prop} {j : Nat} {r : Int32} (hj : j < 24) (h1 : bm_rd op d a b j r → post 1) (h0 : ¬ bm_rd op d a b j r → post 0) :
    wpX_reads post (f, R, M, op, d, a, b, wX, lX) (nI j) r := by
  have hi := bm_in hj
  unfold wpX_reads
  dsimp only
  rw [bm_cl hj]
  refine ⟨hi, fun x ex => ⟨hi, br_c (fun h => h1 (Or.inl h)) fun ha => ?_⟩⟩
  subst ex
  refine xr_nb (fun h5 => br_f bm_10 ⟨hi, br_c (fun hb => h1 (Or.inr (Or.inl ⟨h5, hb⟩))) fun hb => ?_⟩) (fun h5 => br_t rfl ?_)
  · refine xr_r36 hj (fun g => h1 (Or.inr (Or.inr g))) fun g => h0 fun z => ?_
    rcases z with z | z | z
    · exact ha z
    · exact hb z.2
    · exact g z
  · refine xr_r36 hj (fun g => h1 (Or.inr (Or.inr g))) fun g => h0 fun z => ?_
    rcases z with z | z | z
    · exact ha z
    · exact h5 z.1
    · exact g z
theorem xr_lw {post : Int32 → Prop} {r : Int32} {j : Nat} (h1 : ∀ i, i < j → bm_wr op d i r → (∀ k, i < k → k < j → ¬ bm_wr op d k r) → post (nI i)) (h0 : (∀ i, i < j → ¬ bm_wr op d i r) → post (-1)) :
    ∀ t : Nat, t ≤ j → t ≤ 24 → (∀ k, t ≤ k → k < j → ¬ bm_wr op d k r) → wX_lastWriterBefore_4 post r f R M op d a b wX lX (t + 1) (nI t - 1) := by
  intro t
  induction t with
  | zero =>
    intro _ _ hk
    have hn : nI 0 - 1 < 0 := by decide
    exact br_t hn (h0 fun i hi => hk i (Nat.zero_le i) hi)
  | succ t ih =>
    intro htj ht hk
    have hi : vp_in (nI t) 24 := bm_in (by omega)
    have hn : ¬ nI t < 0 := nI_pos (by omega)
    have hs : nI t + (-1) = nI t - 1 := (Int32.sub_eq_add_neg _ _).symm
    have nx : ¬ bm_wr op d t r → ∀ x : Int32, x = nI t + (-1) → wX_lastWriterBefore_4 post r f R M op d a b wX lX (t + 1) x := by
      intro hw x ex
      rw [ex, hs]
      refine ih (by omega) (by omega) fun k h1k h2k => ?_
      by_cases h : k = t
      · rw [h]; exact hw
      · exact hk k (by omega) h2k
    rw [nI_pred, wX_lastWriterBefore_4]
    dsimp only
    rw [bm_cl (j := t) (by omega)]
    exact br_f hn ⟨hi, br_c (fun h8 => nx fun g => g.1 h8) fun h8 => ⟨hi, br_c (fun hd => h1 t (by omega) ⟨h8, hd⟩ fun k a1 a2 => hk k (by omega) a2) fun hd => nx fun g => hd g.2⟩⟩
theorem xr_last {post : Int32 → Prop} {r : Int32} {j : Nat} (hj : j ≤ 24) (h1 : ∀ i, i < j → bm_wr op d i r → (∀ k, i < k → k < j → ¬ bm_wr op d k r) → post (nI i)) (h0 : (∀ i, i < j → ¬ bm_wr op d i r) → post (-1)) :
    wpX_lastWriterBefore post (f, R, M, op, d, a, b, wX, lX) (nI j) r := by
  intro x ex
  refine ⟨j + 1, ?_⟩
  rw [ex]
  exact xr_lw h1 h0 j (Nat.le_refl j) hj fun k h2 h3 => absurd h3 (by omega)
theorem xs_time {post : Int32 → Prop} (x : Int32) (h : post (nI (bm_tm x))) : wpX_timeOf post x := by
  unfold bm_tm at h
  by_cases h2 : x = 2
  · rw [if_pos h2] at h
    exact br_t h2 h
  · rw [if_neg h2] at h
    by_cases h7 : x = 7
    · rw [if_pos h7] at h
      exact br_f h2 (br_t h7 h)
    · rw [if_neg h7] at h
      exact br_f h2 (br_f h7 h)
theorem xs_35n {post : SX → Prop} {J7 : Int32 → Int32 → Int32 → Prop} {x1 x2 x3 : Int32} {r : Nat} (h : J7 x2 x3 (nI (r + 1))) :
    wX_settleWeightAndLinks_35 post J7 x1 x2 x3 (nI r) (-1) f R M op d a b wX lX :=
  br_t rfl (nm_r (nI_1 r) h)
theorem xs_35y {post : SX → Prop} {J7 : Int32 → Int32 → Int32 → Prop} {x1 : Int32} {h g r i v : Nat} (hi : i < 24) (hw : wX i = nI v) (hv : v ≤ 72) (hg : g ≤ 72)
    (k1 : v ≤ g → J7 (nI (h + 1)) (nI g) (nI (r + 1))) (k2 : g < v → J7 (nI (h + 1)) (nI v) (nI (r + 1))) :
    wX_settleWeightAndLinks_35 post J7 x1 (nI h) (nI g) (nI r) (nI i) f R M op d a b wX lX := by
  have hin := bm_in hi
  unfold wX_settleWeightAndLinks_35
  rw [bm_cl hi, hw]
  exact br_f (bm_ne (by omega)) (nm_r (nI_1 h) ⟨hin, pk_le v g (fun q => nm_r (nI_1 r) (k1 q)) (fun q => ⟨hin, nm_e (nm_r (nI_1 r) (k2 q))⟩)⟩)
theorem xs_7 {post : SX → Prop} {j : Nat} (hj : j < 24) {w : Nat → Nat} (hw : ∀ i, i < j → wX i = nI (w i) ∧ w i ≤ 72) (hd : ∀ i, i < j → ∃ q : Nat, q < 8 ∧ d i = nI q)
    (hp : ∀ m, bm_mx (bm_hg op d a b j) w j m → post (f, R, M, op, d, a, b, upd wX j (nI (bm_tm (op j) + m)), upd lX j (nI (bm_cn (bm_hg op d a b j) j)))) :
    ∀ t r g : Nat, r + t = 8 → g ≤ 72 → bm_mx (bm_hr op d a b j r) w j g → wX_settleWeightAndLinks_7 post (nI j) f R M op d a b wX lX (t + 1) (nI (bm_cn (bm_hr op d a b j r) j)) (nI g) (nI r) := by
  have hi := bm_in hj
  intro t
  induction t with
  | zero =>
    intro r g hr hg72 hg
    obtain rfl : r = 8 := by omega
    have h8 : (8 : Int32) ≤ nI 8 := by decide
    have e8 : ∀ i, i < j → (bm_hr op d a b j 8 i ↔ bm_hg op d a b j i) := fun i hi => bm_hr_8 (hd i hi)
    rw [bm_cn_c j e8, wX_settleWeightAndLinks_7]
    rw [bm_cl hj]
    refine br_t h8 ⟨hi, fun x ex => ⟨hi, xs_time _ ⟨hi, fun y ey => ?_⟩⟩⟩
    rw [ey, ex, nI_add]
    exact hp g (bm_mx_c e8 (fun _ _ => rfl) hg)
  | succ t ih =>
    intro r g hr hg72 hg
    have h8 : ¬ (8 : Int32) ≤ nI r := nI_ge (b := 8) (by omega) (by decide)
    have key : ∀ g', g' ≤ 72 → bm_mx (bm_hr op d a b j (r + 1)) w j g' → wX_settleWeightAndLinks_7 post (nI j) f R M op d a b wX lX (t + 1) (nI (bm_cn (bm_hr op d a b j (r + 1)) j)) (nI g') (nI (r + 1)) :=
      fun g' h1 h2 => ih (r + 1) g' (by omega) h1 h2
    have no : (¬ bm_rd op d a b j (nI r) ∨ ∀ i, i < j → ¬ bm_wr op d i (nI r)) → wX_settleWeightAndLinks_7 post (nI j) f R M op d a b wX lX (t + 1) (nI (bm_cn (bm_hr op d a b j r) j)) (nI g) (nI (r + 1)) := by
      intro hn
      have e := bm_hr_n hn
      rw [bm_cn_c j e]
      exact key g hg72 (bm_mx_c e (fun _ _ => rfl) hg)
    refine br_f h8 (xr_reads hj (fun hR => br_f bm_10 (xr_last (by omega) (fun i hij hwr hl => ?_) fun hn => xs_35n (no (Or.inr hn)))) fun hR => br_t rfl (xs_35n (no (Or.inl hR))))
    obtain ⟨ha, hb⟩ := bm_hr_y hij (by omega) hR hwr hl
    rw [bm_cn_1 i ha j hij hb] at key
    exact xs_35y (by omega) (hw i hij).1 (hw i hij).2 hg72 (fun q => key g hg72 (bm_mx_a hg hij hb q)) (fun q => key (w i) (hw i hij).2 (bm_mx_b hg hij hb (by omega)))
theorem xs_settle {post : SX → Prop} {j : Nat} (hj : j < 24) {w : Nat → Nat} (hw : ∀ i, i < j → wX i = nI (w i) ∧ w i ≤ 72) (hd : ∀ i, i < j → ∃ q : Nat, q < 8 ∧ d i = nI q)
    (hp : ∀ m, bm_mx (bm_hg op d a b j) w j m → post (f, R, M, op, d, a, b, upd wX j (nI (bm_tm (op j) + m)), upd lX j (nI (bm_cn (bm_hg op d a b j) j)))) :
    wpX_settleWeightAndLinks post (f, R, M, op, d, a, b, wX, lX) (nI j) := by
  have h := xs_7 (f := f) (R := R) (M := M) (a := a) (b := b) (lX := lX) hj hw hd hp 8 0 0 rfl (by omega) (bm_mx_n fun i _ => bm_hr_0)
  rw [bm_cn_n j fun i _ => bm_hr_0] at h
  exact ⟨9, h⟩
end BMX
end
section
/-! Y: reads, writes, hangs, weighAll -/
section BMY
variable {f : Int32} {R M op d a b wY : Nat → Int32}
theorem yr_r32 {post : Int32 → Prop} {j : Nat} {r : Int32} (hj : j < 24) (h1 : (op j = 5 ∨ op j = 8) ∧ d j = r → post 1) (h0 : ¬ ((op j = 5 ∨ op j = 8) ∧ d j = r) → post 0) :
    wY_reads_32 post (nI j) r f op d a b R M wY := by
  have hi := bm_in hj
  unfold wY_reads_32 wY_reads_53
  rw [bm_cl hj]
  exact ⟨hi, br_c (fun h5 => ⟨hi, br_c (fun hd => h1 ⟨Or.inl h5, hd⟩) (fun hd => h0 fun g => hd g.2)⟩) fun h5 => ⟨hi, br_c (fun h8 => ⟨hi, br_c (fun hd => h1 ⟨Or.inr h8, hd⟩) fun hd => h0 fun g => hd g.2⟩) fun h8 => h0 fun g => g.1.elim h5 h8⟩⟩
theorem yr_reads {post : Int32 → Prop} {j : Nat} {r : Int32} (hj : j < 24) (h1 : bm_rd op d a b j r → post 1) (h0 : ¬ bm_rd op d a b j r → post 0) :
    wpY_reads post (f, op, d, a, b, R, M, wY) (nI j) r := by
  have hi := bm_in hj
  unfold wpY_reads
  dsimp only
  rw [bm_cl hj]
  refine ⟨hi, br_c (fun h => h1 (Or.inl h)) fun ha => ⟨hi, br_c (fun h5 => ?_) fun h5 => ⟨hi, br_c (fun hb => h1 (Or.inr (Or.inl ⟨Int32.not_lt.mp h5, hb⟩))) fun hb => ?_⟩⟩⟩
  · refine yr_r32 hj (fun g => h1 (Or.inr (Or.inr g))) fun g => h0 fun z => ?_
    rcases z with z | z | z
    · exact ha z
    · exact Int32.not_le.mpr h5 z.1
    · exact g z
  · refine yr_r32 hj (fun g => h1 (Or.inr (Or.inr g))) fun g => h0 fun z => ?_
    rcases z with z | z | z
    · exact ha z
    · exact hb z.2
    · exact g z
theorem yr_writes {post : Int32 → Prop} {i : Nat} {r : Int32} (hj : i < 24) (h1 : bm_wr op d i r → post 1) (h0 : ¬ bm_wr op d i r → post 0) :
    wpY_writes post (f, op, d, a, b, R, M, wY) (nI i) r := by
  have hi := bm_in hj
  unfold wpY_writes
  dsimp only
  rw [bm_cl hj]
  exact ⟨hi, br_c (fun h8 => h0 fun g => g.1 h8) fun h8 => ⟨hi, br_c (fun hd => h1 ⟨h8, hd⟩) fun hd => h0 fun g => hd g.2⟩⟩
theorem yh_32 {post : Int32 → Prop} {i j : Nat} {r : Int32} (hj : j < 24) (h1 : (∀ k, i < k → k < j → ¬ bm_wr op d k r) → post 1) (h0 : (¬ ∀ k, i < k → k < j → ¬ bm_wr op d k r) → post 0) :
    ∀ t k : Nat, k + t = j → i < k → (∀ k', i < k' → k' < k → ¬ bm_wr op d k' r) → wY_hangs_32 post (nI j) r f op d a b R M wY (t + 1) (nI k) := by
  intro t
  induction t with
  | zero =>
    intro k hk hik hh
    obtain rfl : k = j := by omega
    have hn : nI k ≤ nI k := nI_le (Nat.le_refl k) (by omega)
    exact br_t hn (h1 hh)
  | succ t ih =>
    intro k hk hik hh
    have hn : ¬ nI j ≤ nI k := nI_ge (by omega) (by omega)
    refine br_f hn (yr_writes (by omega) (fun hw => br_f bm_10 (h0 fun g => g k hik (by omega) hw)) fun hw => br_t rfl (nm_r (nI_1 k) (ih (k + 1) (by omega) (by omega) fun k' a1 a2 => ?_)))
    by_cases h : k' = k
    · rw [h]; exact hw
    · exact hh k' a1 (by omega)
theorem yr_hangs {post : Int32 → Prop} {i j : Nat} (hij : i < j) (hj : j < 24) (h1 : bm_hg op d a b j i → post 1) (h0 : ¬ bm_hg op d a b j i → post 0) :
    wpY_hangs post (f, op, d, a, b, R, M, wY) (nI j) (nI i) := by
  have hi : vp_in (nI i) 24 := bm_in (by omega)
  unfold wpY_hangs
  dsimp only
  rw [bm_cl (j := i) (by omega)]
  refine ⟨hi, fun x ex => ?_⟩
  subst ex
  refine yr_writes (by omega) (fun hw => br_f bm_10 (yr_reads hj (fun hR => br_f bm_10 (nm_r (nI_1 i) ⟨j - (i + 1) + 1, ?_⟩)) fun hR => br_t rfl (h0 fun g => hR g.2.1))) fun hw => br_t rfl (h0 fun g => hw g.1)
  exact yh_32 hj (fun g => h1 ⟨hw, hR, g⟩) (fun g => h0 fun z => g z.2.2) (j - (i + 1)) (i + 1) (by omega) (by omega) fun k' a1 a2 => absurd a2 (by omega)
theorem yw_14 {post : SY → Prop} {J2 : Int32 → (Nat → Int32) → (Nat → Int32) → (Nat → Int32) → (Nat → Int32) → (Nat → Int32) → (Nat → Int32) → (Nat → Int32) → Prop} {j : Nat} (hj : j < 24) {w : Nat → Nat} (hw : ∀ i, i < j → wY i = nI (w i) ∧ w i ≤ 72)
    (hJ : ∀ m, bm_mx (bm_hg op d a b j) w j m → J2 (nI (j + 1)) op d a b R M (upd wY j (nI (bm_tm (op j) + m)))) :
    ∀ t i g : Nat, i + t = j → g ≤ 72 → bm_mx (bm_hg op d a b j) w i g → wY_weighAll_14 post J2 (nI j) f op d a b R M wY (t + 1) (nI g) (nI i) := by
  have hin := bm_in hj
  intro t
  induction t with
  | zero =>
    intro i g hi hg72 hg
    obtain rfl : i = j := by omega
    have hn : nI i ≤ nI i := nI_le (Nat.le_refl i) (by omega)
    have hJ' := hJ g hg
    rw [wY_weighAll_14]
    dsimp only
    rw [bm_cl hj]
    have e3 : nI g + 3 = nI (3 + g) := (nI_add g 3).trans (by rw [Nat.add_comm])
    have e2 : nI g + 2 = nI (2 + g) := (nI_add g 2).trans (by rw [Nat.add_comm])
    have e1 : nI g + 1 = nI (1 + g) := (nI_add g 1).trans (by rw [Nat.add_comm])
    rw [e3, e2, e1]
    unfold bm_tm at hJ'
    refine br_t hn ⟨hin, br_c (fun h2 => ⟨hin, nm_e (nm_r (nI_1 i) ?_)⟩) fun h2 => ⟨hin, br_c (fun h7 => ⟨hin, nm_e (nm_r (nI_1 i) ?_)⟩) fun h7 => ⟨hin, nm_e (nm_r (nI_1 i) ?_)⟩⟩⟩
    · rw [if_pos h2] at hJ'
      exact hJ'
    · rw [if_neg h2, if_pos h7] at hJ'
      exact hJ'
    · rw [if_neg h2, if_neg h7] at hJ'
      exact hJ'
  | succ t ih =>
    intro i g hi hg72 hg
    have hn : ¬ nI j ≤ nI i := nI_ge (by omega) (by omega)
    have hii : vp_in (nI i) 24 := bm_in (by omega)
    have hwi := hw i (by omega)
    rw [wY_weighAll_14]
    dsimp only
    rw [bm_cl (j := i) (by omega), hwi.1]
    refine br_f hn (yr_hangs (by omega) hj (fun h => br_f bm_10 ⟨hii, pk_le (w i) g (fun q => nm_r (nI_1 i) (ih (i + 1) g (by omega) hg72 (bm_mx_k hg fun _ => q))) (fun q => ⟨hii, nm_e (nm_r (nI_1 i) (ih (i + 1) (w i) (by omega) hwi.2 (bm_mx_s hg h (by omega))))⟩)⟩) fun h => br_t rfl (nm_r (nI_1 i) (ih (i + 1) g (by omega) hg72 (bm_mx_k hg fun p => absurd p h))))
theorem yw_2 {post : SY → Prop} {c : Nat} (hc : c ≤ 24) {w : Nat → Nat} (hs : ∀ j, j < c → (∃ m, bm_mx (bm_hg op d a b j) w j m ∧ w j = bm_tm (op j) + m) ∧ w j ≤ 72)
    (hp : ∀ wY' : Nat → Int32, (∀ i, i < c → wY' i = nI (w i)) → post (nI c, op, d, a, b, R, M, wY')) :
    ∀ (t j : Nat) (wY : Nat → Int32), j + t = c → (∀ i, i < j → wY i = nI (w i)) → wY_weighAll_2 post (nI c) (t + 1) (nI j) op d a b R M wY := by
  intro t
  induction t with
  | zero =>
    intro j wY hj h
    obtain rfl : j = c := by omega
    have hn : nI j ≤ nI j := nI_le (Nat.le_refl j) (by omega)
    exact br_t hn (hp wY h)
  | succ t ih =>
    intro j wY hj h
    have hn : ¬ nI c ≤ nI j := nI_ge (by omega) (by omega)
    refine br_f hn ⟨j + 1, ?_⟩
    refine yw_14 (w := w) (by omega) (fun i hi => ⟨h i hi, (hs i (by omega)).2⟩) (fun m hm => ih (j + 1) _ (by omega) fun i hi => ?_) j 0 0 (by omega) (by omega) bm_mx_0
    by_cases hij : i = j
    · subst hij
      obtain ⟨⟨m', hm', e⟩, _⟩ := hs i (by omega)
      rw [pk_us, e, bm_mx_u hm hm']
    · rw [pk_un hij]
      exact h i (by omega)
theorem yw_all {post : SY → Prop} {c : Nat} (hc : c ≤ 24) {w : Nat → Nat} (hs : ∀ j, j < c → (∃ m, bm_mx (bm_hg op d a b j) w j m ∧ w j = bm_tm (op j) + m) ∧ w j ≤ 72)
    (hp : ∀ wY' : Nat → Int32, (∀ i, i < c → wY' i = nI (w i)) → post (nI c, op, d, a, b, R, M, wY')) :
    wpY_weighAll post (nI c, op, d, a, b, R, M, wY) :=
  ⟨c + 1, yw_2 hc hs hp c 0 wY (by omega) fun i hi => absurd hi (Nat.not_lt_zero i)⟩
end BMY
end
section
/-! run, heaviest, links -/
section BMR
variable {f : Int32} {R M op d a b wX lX wY : Nat → Int32}
def bm_rg (x : Int32) : Prop := ∃ q : Nat, q < 8 ∧ x = nI q
def bm_ok (op d a b : Nat → Int32) (i : Nat) : Prop :=
  (∃ q : Nat, q ≤ 8 ∧ op i = nI q) ∧ bm_rg (d i) ∧ bm_rg (a i) ∧ (op i ≤ 5 → bm_rg (b i))
theorem bm_m16 (x : Int32) : vp_in (x &&& 15) 16 := pk_andIn x (m := 15) 4 (by decide) (by decide)
/-- what one instruction leaves, on both sides -/
def bm_sx (R M op d a b : Nat → Int32) (i : Nat) (R' M' : Nat → Int32) : Prop :=
  (∀ (post : SX → Prop) (f : Int32) (wX lX : Nat → Int32), post (f, R', M', op, d, a, b, wX, lX) → wpX_perform post (f, R, M, op, d, a, b, wX, lX) (nI i)) ∧
  (∀ (post : SY → Prop) (f : Int32) (wY : Nat → Int32), post (f, op, d, a, b, R', M', wY) → wpY_execute post (f, op, d, a, b, R, M, wY) (nI i))
/-! Y's execute: what follows when no later case is met -/
theorem yt_276 {post : SY → Prop} {i : Nat} {x4 : Int32} (vi : vp_in (nI i) 24) (n8 : ¬ op (nI i).toNatClampNeg = 8) (h : post (f, op, d, a, b, R, M, wY)) : wY_execute_276 post (nI i) x4 f op d a b R M wY := ⟨vi, br_f n8 h⟩
theorem yt_247 {post : SY → Prop} {i : Nat} {x4 : Int32} (vi : vp_in (nI i) 24) (n7 : ¬ op (nI i).toNatClampNeg = 7) (n8 : ¬ op (nI i).toNatClampNeg = 8) (h : post (f, op, d, a, b, R, M, wY)) : wY_execute_247 post (nI i) x4 f op d a b R M wY := ⟨vi, br_f n7 (yt_276 vi n8 h)⟩
theorem yt_217 {post : SY → Prop} {i : Nat} {x2 x4 : Int32} (vi : vp_in (nI i) 24) (n6 : ¬ op (nI i).toNatClampNeg = 6) (n7 : ¬ op (nI i).toNatClampNeg = 7) (n8 : ¬ op (nI i).toNatClampNeg = 8) (h : post (f, op, d, a, b, R, M, wY)) : wY_execute_217 post (nI i) x2 x4 f op d a b R M wY := ⟨vi, br_f n6 (yt_247 vi n7 n8 h)⟩
theorem yt_177 {post : SY → Prop} {i : Nat} {x2 x3 x4 : Int32} (vi : vp_in (nI i) 24) (n5 : ¬ op (nI i).toNatClampNeg = 5) (n6 : ¬ op (nI i).toNatClampNeg = 6) (n7 : ¬ op (nI i).toNatClampNeg = 7) (n8 : ¬ op (nI i).toNatClampNeg = 8) (h : post (f, op, d, a, b, R, M, wY)) : wY_execute_177 post (nI i) x2 x3 x4 f op d a b R M wY := ⟨vi, br_f n5 (yt_217 vi n6 n7 n8 h)⟩
theorem yt_146 {post : SY → Prop} {i : Nat} {x2 x3 x4 : Int32} (vi : vp_in (nI i) 24) (n4 : ¬ op (nI i).toNatClampNeg = 4) (n5 : ¬ op (nI i).toNatClampNeg = 5) (n6 : ¬ op (nI i).toNatClampNeg = 6) (n7 : ¬ op (nI i).toNatClampNeg = 7) (n8 : ¬ op (nI i).toNatClampNeg = 8) (h : post (f, op, d, a, b, R, M, wY)) : wY_execute_146 post (nI i) x2 x3 x4 f op d a b R M wY := ⟨vi, br_f n4 (yt_177 vi n5 n6 n7 n8 h)⟩
theorem yt_122 {post : SY → Prop} {i : Nat} {x2 x3 x4 : Int32} (vi : vp_in (nI i) 24) (n3 : ¬ op (nI i).toNatClampNeg = 3) (n4 : ¬ op (nI i).toNatClampNeg = 4) (n5 : ¬ op (nI i).toNatClampNeg = 5) (n6 : ¬ op (nI i).toNatClampNeg = 6) (n7 : ¬ op (nI i).toNatClampNeg = 7) (n8 : ¬ op (nI i).toNatClampNeg = 8) (h : post (f, op, d, a, b, R, M, wY)) : wY_execute_122 post (nI i) x2 x3 x4 f op d a b R M wY := ⟨vi, br_f n3 (yt_146 vi n4 n5 n6 n7 n8 h)⟩
theorem yt_98 {post : SY → Prop} {i : Nat} {x2 x3 x4 : Int32} (vi : vp_in (nI i) 24) (n2 : ¬ op (nI i).toNatClampNeg = 2) (n3 : ¬ op (nI i).toNatClampNeg = 3) (n4 : ¬ op (nI i).toNatClampNeg = 4) (n5 : ¬ op (nI i).toNatClampNeg = 5) (n6 : ¬ op (nI i).toNatClampNeg = 6) (n7 : ¬ op (nI i).toNatClampNeg = 7) (n8 : ¬ op (nI i).toNatClampNeg = 8) (h : post (f, op, d, a, b, R, M, wY)) : wY_execute_98 post (nI i) x2 x3 x4 f op d a b R M wY := ⟨vi, br_f n2 (yt_122 vi n3 n4 n5 n6 n7 n8 h)⟩
theorem yt_74 {post : SY → Prop} {i : Nat} {x2 x3 x4 : Int32} (vi : vp_in (nI i) 24) (n1 : ¬ op (nI i).toNatClampNeg = 1) (n2 : ¬ op (nI i).toNatClampNeg = 2) (n3 : ¬ op (nI i).toNatClampNeg = 3) (n4 : ¬ op (nI i).toNatClampNeg = 4) (n5 : ¬ op (nI i).toNatClampNeg = 5) (n6 : ¬ op (nI i).toNatClampNeg = 6) (n7 : ¬ op (nI i).toNatClampNeg = 7) (n8 : ¬ op (nI i).toNatClampNeg = 8) (h : post (f, op, d, a, b, R, M, wY)) : wY_execute_74 post (nI i) x2 x3 x4 f op d a b R M wY := ⟨vi, br_f n1 (yt_98 vi n2 n3 n4 n5 n6 n7 n8 h)⟩
theorem bm_stA {i p q s o : Nat} (hi : i < 24) (ho : o ≤ 5) (eo : op i = nI o) (hq : q < 8) (ed : d i = nI q) (hp : p < 8) (ea : a i = nI p) (hs : s < 8) (eb : b i = nI s) :
    ∃ R' M' : Nat → Int32, bm_sx R M op d a b i R' M' := by
  have vi := bm_in hi
  have ci := bm_cl hi
  have vq : vp_in (nI q) 8 := vp_in_nI hq (by decide)
  have cq : (nI q).toNatClampNeg = q := nI_clamp (by omega)
  have vp : vp_in (nI p) 8 := vp_in_nI hp (by decide)
  have cp : (nI p).toNatClampNeg = p := nI_clamp (by omega)
  have vd : vp_in (d (nI i).toNatClampNeg) 8 := by rw [ci, ed]; exact vq
  have va : vp_in (a (nI i).toNatClampNeg) 8 := by rw [ci, ea]; exact vp
  have ca : (a (nI i).toNatClampNeg).toNatClampNeg = p := by rw [ci, ea, cp]
  have cd : (d (nI i).toNatClampNeg).toNatClampNeg = q := by rw [ci, ed, cq]
  have vs : vp_in (nI s) 8 := vp_in_nI hs (by decide)
  have cs : (nI s).toNatClampNeg = s := nI_clamp (by omega)
  have vb : vp_in (b (nI i).toNatClampNeg) 8 := by rw [ci, eb]; exact vs
  have cb : (b (nI i).toNatClampNeg).toNatClampNeg = s := by rw [ci, eb, cs]
  have h5 : ¬ 5 < op (nI i).toNatClampNeg := by rw [ci, eo]; exact nI_nlt (a := 5) ho (by decide)
  have ho' : o = 0 ∨ o = 1 ∨ o = 2 ∨ o = 3 ∨ o = 4 ∨ o = 5 := by omega
  rcases ho' with rfl | rfl | rfl | rfl | rfl | rfl
  · have eo' : op i = 0 := eo
    have n1 : ¬ op (nI i).toNatClampNeg = 1 := by rw [ci, eo']; decide
    have n2 : ¬ op (nI i).toNatClampNeg = 2 := by rw [ci, eo']; decide
    have n3 : ¬ op (nI i).toNatClampNeg = 3 := by rw [ci, eo']; decide
    have n4 : ¬ op (nI i).toNatClampNeg = 4 := by rw [ci, eo']; decide
    have n5 : ¬ op (nI i).toNatClampNeg = 5 := by rw [ci, eo']; decide
    have n6 : ¬ op (nI i).toNatClampNeg = 6 := by rw [ci, eo']; decide
    have n7 : ¬ op (nI i).toNatClampNeg = 7 := by rw [ci, eo']; decide
    have n8 : ¬ op (nI i).toNatClampNeg = 8 := by rw [ci, eo']; decide
    have e0 : op (nI i).toNatClampNeg = 0 := by rw [ci, eo']
    refine ⟨upd R q (R p + R s), M, fun post f wX lX h => ?_, fun post f wY h => ?_⟩
    · simp [wpX_perform, wX_perform_54, wpX_result, wpX_namesRegisterInB, vi, ci, vq, cq, vp, cp, eo', ed, ea, bm_m16, vs, cs, eb]
      exact h
    · refine ⟨vi, va, nm_r (congrArg R ca) ⟨vi, br_f h5 ⟨vi, vb, ?_⟩⟩⟩
      rw [cb]
      refine ⟨vi, nm_e ?_⟩
      exact ⟨vi, br_t e0 ⟨vi, vd, nm_r (by rw [cd]) (yt_74 vi n1 n2 n3 n4 n5 n6 n7 n8 h)⟩⟩
  · have eo' : op i = 1 := eo
    have n0 : ¬ op (nI i).toNatClampNeg = 0 := by rw [ci, eo']; decide
    have n2 : ¬ op (nI i).toNatClampNeg = 2 := by rw [ci, eo']; decide
    have n3 : ¬ op (nI i).toNatClampNeg = 3 := by rw [ci, eo']; decide
    have n4 : ¬ op (nI i).toNatClampNeg = 4 := by rw [ci, eo']; decide
    have n5 : ¬ op (nI i).toNatClampNeg = 5 := by rw [ci, eo']; decide
    have n6 : ¬ op (nI i).toNatClampNeg = 6 := by rw [ci, eo']; decide
    have n7 : ¬ op (nI i).toNatClampNeg = 7 := by rw [ci, eo']; decide
    have n8 : ¬ op (nI i).toNatClampNeg = 8 := by rw [ci, eo']; decide
    have e1 : op (nI i).toNatClampNeg = 1 := by rw [ci, eo']
    refine ⟨upd R q (R p - R s), M, fun post f wX lX h => ?_, fun post f wY h => ?_⟩
    · simp [wpX_perform, wX_perform_54, wpX_result, wpX_namesRegisterInB, vi, ci, vq, cq, vp, cp, eo', ed, ea, bm_m16, vs, cs, eb]
      exact h
    · refine ⟨vi, va, nm_r (congrArg R ca) ⟨vi, br_f h5 ⟨vi, vb, ?_⟩⟩⟩
      rw [cb]
      refine ⟨vi, nm_e ?_⟩
      exact ⟨vi, br_f n0 ⟨vi, br_t e1 ⟨vi, vd, nm_r (by rw [cd]) (yt_98 vi n2 n3 n4 n5 n6 n7 n8 h)⟩⟩⟩
  · have eo' : op i = 2 := eo
    have n0 : ¬ op (nI i).toNatClampNeg = 0 := by rw [ci, eo']; decide
    have n1 : ¬ op (nI i).toNatClampNeg = 1 := by rw [ci, eo']; decide
    have n3 : ¬ op (nI i).toNatClampNeg = 3 := by rw [ci, eo']; decide
    have n4 : ¬ op (nI i).toNatClampNeg = 4 := by rw [ci, eo']; decide
    have n5 : ¬ op (nI i).toNatClampNeg = 5 := by rw [ci, eo']; decide
    have n6 : ¬ op (nI i).toNatClampNeg = 6 := by rw [ci, eo']; decide
    have n7 : ¬ op (nI i).toNatClampNeg = 7 := by rw [ci, eo']; decide
    have n8 : ¬ op (nI i).toNatClampNeg = 8 := by rw [ci, eo']; decide
    have e2 : op (nI i).toNatClampNeg = 2 := by rw [ci, eo']
    refine ⟨upd R q (R p * R s), M, fun post f wX lX h => ?_, fun post f wY h => ?_⟩
    · simp [wpX_perform, wX_perform_54, wpX_result, wpX_namesRegisterInB, vi, ci, vq, cq, vp, cp, eo', ed, ea, bm_m16, vs, cs, eb]
      exact h
    · refine ⟨vi, va, nm_r (congrArg R ca) ⟨vi, br_f h5 ⟨vi, vb, ?_⟩⟩⟩
      rw [cb]
      refine ⟨vi, nm_e ?_⟩
      exact ⟨vi, br_f n0 ⟨vi, br_f n1 ⟨vi, br_t e2 ⟨vi, vd, nm_r (by rw [cd]) (yt_122 vi n3 n4 n5 n6 n7 n8 h)⟩⟩⟩⟩
  · have eo' : op i = 3 := eo
    have n0 : ¬ op (nI i).toNatClampNeg = 0 := by rw [ci, eo']; decide
    have n1 : ¬ op (nI i).toNatClampNeg = 1 := by rw [ci, eo']; decide
    have n2 : ¬ op (nI i).toNatClampNeg = 2 := by rw [ci, eo']; decide
    have n4 : ¬ op (nI i).toNatClampNeg = 4 := by rw [ci, eo']; decide
    have n5 : ¬ op (nI i).toNatClampNeg = 5 := by rw [ci, eo']; decide
    have n6 : ¬ op (nI i).toNatClampNeg = 6 := by rw [ci, eo']; decide
    have n7 : ¬ op (nI i).toNatClampNeg = 7 := by rw [ci, eo']; decide
    have n8 : ¬ op (nI i).toNatClampNeg = 8 := by rw [ci, eo']; decide
    have e3 : op (nI i).toNatClampNeg = 3 := by rw [ci, eo']
    refine ⟨upd R q (R p ^^^ R s), M, fun post f wX lX h => ?_, fun post f wY h => ?_⟩
    · simp [wpX_perform, wX_perform_54, wpX_result, wpX_namesRegisterInB, vi, ci, vq, cq, vp, cp, eo', ed, ea, bm_m16, vs, cs, eb]
      exact h
    · refine ⟨vi, va, nm_r (congrArg R ca) ⟨vi, br_f h5 ⟨vi, vb, ?_⟩⟩⟩
      rw [cb]
      refine ⟨vi, nm_e ?_⟩
      exact ⟨vi, br_f n0 ⟨vi, br_f n1 ⟨vi, br_f n2 ⟨vi, br_t e3 ⟨vi, vd, nm_r (by rw [cd]) (yt_146 vi n4 n5 n6 n7 n8 h)⟩⟩⟩⟩⟩
  · have eo' : op i = 4 := eo
    have n0 : ¬ op (nI i).toNatClampNeg = 0 := by rw [ci, eo']; decide
    have n1 : ¬ op (nI i).toNatClampNeg = 1 := by rw [ci, eo']; decide
    have n2 : ¬ op (nI i).toNatClampNeg = 2 := by rw [ci, eo']; decide
    have n3 : ¬ op (nI i).toNatClampNeg = 3 := by rw [ci, eo']; decide
    have n5 : ¬ op (nI i).toNatClampNeg = 5 := by rw [ci, eo']; decide
    have n6 : ¬ op (nI i).toNatClampNeg = 6 := by rw [ci, eo']; decide
    have n7 : ¬ op (nI i).toNatClampNeg = 7 := by rw [ci, eo']; decide
    have n8 : ¬ op (nI i).toNatClampNeg = 8 := by rw [ci, eo']; decide
    have e4 : op (nI i).toNatClampNeg = 4 := by rw [ci, eo']
    by_cases hl : R s ≤ R p
    · have hl1 : (R s ≤ R p) = True := eq_true hl
      have hl2 : (R p < R s) = False := eq_false (Int32.not_lt.mpr hl)
      refine ⟨upd R q 0, M, fun post f wX lX h => ?_, fun post f wY h => ?_⟩
      · simp [wpX_perform, wX_perform_54, wpX_result, wpX_namesRegisterInB, vi, ci, vq, cq, vp, cp, eo', ed, ea, bm_m16, vs, cs, eb, hl1, hl2]
        exact h
      · refine ⟨vi, va, nm_r (congrArg R ca) ⟨vi, br_f h5 ⟨vi, vb, ?_⟩⟩⟩
        rw [cb]
        refine ⟨vi, nm_e ?_⟩
        exact ⟨vi, br_f n0 ⟨vi, br_f n1 ⟨vi, br_f n2 ⟨vi, br_f n3 ⟨vi, br_t e4 ⟨vi, br_t hl ⟨vd, nm_r (by rw [cd]) (yt_177 vi n5 n6 n7 n8 h)⟩⟩⟩⟩⟩⟩⟩
    · have hl1 : (R s ≤ R p) = False := eq_false hl
      have hl2 : (R p < R s) = True := eq_true (Int32.not_le.mp hl)
      refine ⟨upd R q 1, M, fun post f wX lX h => ?_, fun post f wY h => ?_⟩
      · simp [wpX_perform, wX_perform_54, wpX_result, wpX_namesRegisterInB, vi, ci, vq, cq, vp, cp, eo', ed, ea, bm_m16, vs, cs, eb, hl1, hl2]
        exact h
      · refine ⟨vi, va, nm_r (congrArg R ca) ⟨vi, br_f h5 ⟨vi, vb, ?_⟩⟩⟩
        rw [cb]
        refine ⟨vi, nm_e ?_⟩
        exact ⟨vi, br_f n0 ⟨vi, br_f n1 ⟨vi, br_f n2 ⟨vi, br_f n3 ⟨vi, br_t e4 ⟨vi, br_f hl ⟨vd, nm_r (by rw [cd]) (yt_177 vi n5 n6 n7 n8 h)⟩⟩⟩⟩⟩⟩⟩
  · have eo' : op i = 5 := eo
    have n0 : ¬ op (nI i).toNatClampNeg = 0 := by rw [ci, eo']; decide
    have n1 : ¬ op (nI i).toNatClampNeg = 1 := by rw [ci, eo']; decide
    have n2 : ¬ op (nI i).toNatClampNeg = 2 := by rw [ci, eo']; decide
    have n3 : ¬ op (nI i).toNatClampNeg = 3 := by rw [ci, eo']; decide
    have n4 : ¬ op (nI i).toNatClampNeg = 4 := by rw [ci, eo']; decide
    have n6 : ¬ op (nI i).toNatClampNeg = 6 := by rw [ci, eo']; decide
    have n7 : ¬ op (nI i).toNatClampNeg = 7 := by rw [ci, eo']; decide
    have n8 : ¬ op (nI i).toNatClampNeg = 8 := by rw [ci, eo']; decide
    have e5 : op (nI i).toNatClampNeg = 5 := by rw [ci, eo']
    by_cases hl : R q = 0
    · have hl2 : R (d (nI i).toNatClampNeg).toNatClampNeg = 0 := by rw [cd]; exact hl
      refine ⟨upd R q (R s), M, fun post f wX lX h => ?_, fun post f wY h => ?_⟩
      · simp [wpX_perform, wX_perform_54, wpX_result, wpX_namesRegisterInB, vi, ci, vq, cq, vp, cp, eo', ed, ea, bm_m16, vs, cs, eb, hl]
        exact h
      · refine ⟨vi, va, nm_r (congrArg R ca) ⟨vi, br_f h5 ⟨vi, vb, ?_⟩⟩⟩
        rw [cb]
        refine ⟨vi, nm_e ?_⟩
        exact ⟨vi, br_f n0 ⟨vi, br_f n1 ⟨vi, br_f n2 ⟨vi, br_f n3 ⟨vi, br_f n4 ⟨vi, br_t e5 ⟨vi, vi, vd, br_t hl2 ⟨vd, nm_r (by rw [cd]) (yt_217 vi n6 n7 n8 h)⟩⟩⟩⟩⟩⟩⟩⟩
    · have hl2 : ¬ R (d (nI i).toNatClampNeg).toNatClampNeg = 0 := by rw [cd]; exact hl
      refine ⟨upd R q (R p), M, fun post f wX lX h => ?_, fun post f wY h => ?_⟩
      · simp [wpX_perform, wX_perform_54, wpX_result, wpX_namesRegisterInB, vi, ci, vq, cq, vp, cp, eo', ed, ea, bm_m16, vs, cs, eb, hl]
        exact h
      · refine ⟨vi, va, nm_r (congrArg R ca) ⟨vi, br_f h5 ⟨vi, vb, ?_⟩⟩⟩
        rw [cb]
        refine ⟨vi, nm_e ?_⟩
        exact ⟨vi, br_f n0 ⟨vi, br_f n1 ⟨vi, br_f n2 ⟨vi, br_f n3 ⟨vi, br_f n4 ⟨vi, br_t e5 ⟨vi, vi, vd, br_f hl2 ⟨vd, nm_r (by rw [cd]) (yt_217 vi n6 n7 n8 h)⟩⟩⟩⟩⟩⟩⟩⟩
theorem bm_stB {i p q o : Nat} (hi : i < 24) (ho : 6 ≤ o ∧ o ≤ 8) (eo : op i = nI o) (hq : q < 8) (ed : d i = nI q) (hp : p < 8) (ea : a i = nI p) :
    ∃ R' M' : Nat → Int32, bm_sx R M op d a b i R' M' := by
  have vi := bm_in hi
  have ci := bm_cl hi
  have vq : vp_in (nI q) 8 := vp_in_nI hq (by decide)
  have cq : (nI q).toNatClampNeg = q := nI_clamp (by omega)
  have vp : vp_in (nI p) 8 := vp_in_nI hp (by decide)
  have cp : (nI p).toNatClampNeg = p := nI_clamp (by omega)
  have vd : vp_in (d (nI i).toNatClampNeg) 8 := by rw [ci, ed]; exact vq
  have va : vp_in (a (nI i).toNatClampNeg) 8 := by rw [ci, ea]; exact vp
  have ca : (a (nI i).toNatClampNeg).toNatClampNeg = p := by rw [ci, ea, cp]
  have cd : (d (nI i).toNatClampNeg).toNatClampNeg = q := by rw [ci, ed, cq]
  have h5 : 5 < op (nI i).toNatClampNeg := by rw [ci, eo]; exact nI_lt (a := 5) (by omega) (by omega)
  have cb : b (nI i).toNatClampNeg = b i := by rw [ci]
  have ho' : o = 6 ∨ o = 7 ∨ o = 8 := by omega
  rcases ho' with rfl | rfl | rfl
  · have eo' : op i = 6 := eo
    have n0 : ¬ op (nI i).toNatClampNeg = 0 := by rw [ci, eo']; decide
    have n1 : ¬ op (nI i).toNatClampNeg = 1 := by rw [ci, eo']; decide
    have n2 : ¬ op (nI i).toNatClampNeg = 2 := by rw [ci, eo']; decide
    have n3 : ¬ op (nI i).toNatClampNeg = 3 := by rw [ci, eo']; decide
    have n4 : ¬ op (nI i).toNatClampNeg = 4 := by rw [ci, eo']; decide
    have n5 : ¬ op (nI i).toNatClampNeg = 5 := by rw [ci, eo']; decide
    have n7 : ¬ op (nI i).toNatClampNeg = 7 := by rw [ci, eo']; decide
    have n8 : ¬ op (nI i).toNatClampNeg = 8 := by rw [ci, eo']; decide
    have e6 : op (nI i).toNatClampNeg = 6 := by rw [ci, eo']
    refine ⟨upd R q (R p + b i), M, fun post f wX lX h => ?_, fun post f wY h => ?_⟩
    · simp [wpX_perform, wX_perform_54, wpX_result, wpX_namesRegisterInB, vi, ci, vq, cq, vp, cp, eo', ed, ea, bm_m16]
      exact h
    · refine ⟨vi, va, nm_r (congrArg R ca) ⟨vi, br_t h5 ?_⟩⟩
      refine ⟨vi, nm_e ?_⟩
      rw [cb]
      exact ⟨vi, br_f n0 ⟨vi, br_f n1 ⟨vi, br_f n2 ⟨vi, br_f n3 ⟨vi, br_f n4 ⟨vi, br_f n5 ⟨vi, br_t e6 ⟨vi, vi, vd, nm_r (by rw [cd, cb]) (yt_247 vi n7 n8 h)⟩⟩⟩⟩⟩⟩⟩⟩
  · have eo' : op i = 7 := eo
    have n0 : ¬ op (nI i).toNatClampNeg = 0 := by rw [ci, eo']; decide
    have n1 : ¬ op (nI i).toNatClampNeg = 1 := by rw [ci, eo']; decide
    have n2 : ¬ op (nI i).toNatClampNeg = 2 := by rw [ci, eo']; decide
    have n3 : ¬ op (nI i).toNatClampNeg = 3 := by rw [ci, eo']; decide
    have n4 : ¬ op (nI i).toNatClampNeg = 4 := by rw [ci, eo']; decide
    have n5 : ¬ op (nI i).toNatClampNeg = 5 := by rw [ci, eo']; decide
    have n6 : ¬ op (nI i).toNatClampNeg = 6 := by rw [ci, eo']; decide
    have n8 : ¬ op (nI i).toNatClampNeg = 8 := by rw [ci, eo']; decide
    have e7 : op (nI i).toNatClampNeg = 7 := by rw [ci, eo']
    refine ⟨upd R q (M ((R p + b i) &&& 15).toNatClampNeg), M, fun post f wX lX h => ?_, fun post f wY h => ?_⟩
    · simp [wpX_perform, wX_perform_54, wpX_result, wpX_namesRegisterInB, vi, ci, vq, cq, vp, cp, eo', ed, ea, bm_m16]
      exact h
    · refine ⟨vi, va, nm_r (congrArg R ca) ⟨vi, br_t h5 ?_⟩⟩
      refine ⟨vi, nm_e ?_⟩
      rw [cb]
      exact ⟨vi, br_f n0 ⟨vi, br_f n1 ⟨vi, br_f n2 ⟨vi, br_f n3 ⟨vi, br_f n4 ⟨vi, br_f n5 ⟨vi, br_f n6 ⟨vi, br_t e7 ⟨vi, bm_m16 _, vd, nm_r (by rw [cd]) (yt_276 vi n8 h)⟩⟩⟩⟩⟩⟩⟩⟩⟩
  · have eo' : op i = 8 := eo
    have n0 : ¬ op (nI i).toNatClampNeg = 0 := by rw [ci, eo']; decide
    have n1 : ¬ op (nI i).toNatClampNeg = 1 := by rw [ci, eo']; decide
    have n2 : ¬ op (nI i).toNatClampNeg = 2 := by rw [ci, eo']; decide
    have n3 : ¬ op (nI i).toNatClampNeg = 3 := by rw [ci, eo']; decide
    have n4 : ¬ op (nI i).toNatClampNeg = 4 := by rw [ci, eo']; decide
    have n5 : ¬ op (nI i).toNatClampNeg = 5 := by rw [ci, eo']; decide
    have n6 : ¬ op (nI i).toNatClampNeg = 6 := by rw [ci, eo']; decide
    have n7 : ¬ op (nI i).toNatClampNeg = 7 := by rw [ci, eo']; decide
    have e8 : op (nI i).toNatClampNeg = 8 := by rw [ci, eo']
    refine ⟨R, upd M ((R p + b i) &&& 15).toNatClampNeg (R q), fun post f wX lX h => ?_, fun post f wY h => ?_⟩
    · simp [wpX_perform, wX_perform_54, wpX_result, wpX_namesRegisterInB, vi, ci, vq, cq, vp, cp, eo', ed, ea, bm_m16]
      exact h
    · refine ⟨vi, va, nm_r (congrArg R ca) ⟨vi, br_t h5 ?_⟩⟩
      refine ⟨vi, nm_e ?_⟩
      rw [cb]
      exact ⟨vi, br_f n0 ⟨vi, br_f n1 ⟨vi, br_f n2 ⟨vi, br_f n3 ⟨vi, br_f n4 ⟨vi, br_f n5 ⟨vi, br_f n6 ⟨vi, br_f n7 ⟨vi, br_t e8 ⟨vi, vd, bm_m16 _, nm_r (by rw [cd]) h⟩⟩⟩⟩⟩⟩⟩⟩⟩⟩
theorem bm_step {i : Nat} (hi : i < 24) (h : bm_ok op d a b i) : ∃ R' M' : Nat → Int32, bm_sx R M op d a b i R' M' := by
  obtain ⟨⟨o, ho, eo⟩, ⟨q, hq, ed⟩, ⟨p, hp, ea⟩, hb⟩ := h
  by_cases h5 : o ≤ 5
  · obtain ⟨s, hs, eb⟩ := hb (by rw [eo]; exact nI_le (b := 5) h5 (by decide))
    exact bm_stA hi h5 eo hq ed hp ea hs eb
  · exact bm_stB hi ⟨by omega, ho⟩ eo hq ed hp ea
theorem bm_run {c : Nat} (hc : c ≤ 24) (hok : ∀ i, i < c → bm_ok op d a b i) : ∀ (t i : Nat) (R M : Nat → Int32), i + t = c → ∃ R' M' : Nat → Int32,
    (∀ (post : Int32 → SX → Prop) (wX lX : Nat → Int32), post (nI c) (nI c, R', M', op, d, a, b, wX, lX) → wX_run_2 post (t + 1) (nI i) (nI c) R M op d a b wX lX) ∧
    (∀ (post : Int32 → SY → Prop) (wY : Nat → Int32), post (nI c) (nI c, op, d, a, b, R', M', wY) → wY_run_2 post (t + 1) (nI i) (nI c) op d a b R M wY) := by
  intro t
  induction t with
  | zero =>
    intro i R M hi
    obtain rfl : i = c := by omega
    have hn : nI i ≤ nI i := nI_le (Nat.le_refl i) (by omega)
    exact ⟨R, M, fun post wX lX h => br_t hn h, fun post wY h => br_t hn h⟩
  | succ t ih =>
    intro i R M hi
    have hn : ¬ nI c ≤ nI i := nI_ge (by omega) (by omega)
    obtain ⟨R1, M1, hX, hY⟩ := bm_step (R := R) (M := M) (by omega) (hok i (by omega))
    obtain ⟨R2, M2, kX, kY⟩ := ih (i + 1) R1 M1 (by omega)
    refine ⟨R2, M2, fun post wX lX h => br_f hn (hX _ _ _ _ ?_), fun post wY h => br_f hn (hY _ _ _ ?_)⟩
    · exact nm_r (nI_1 i) (kX post wX lX h)
    · exact nm_r (nI_1 i) (kY post wY h)
theorem xh_4 {post : Int32 → Prop} {c : Nat} (hc : c ≤ 24) {w : Nat → Nat} (hw : ∀ i, i < c → wX i = nI (w i) ∧ w i ≤ 72) (hp : ∀ m, bm_mx (fun _ => True) w c m → post (nI m)) :
    ∀ t i g : Nat, i + t = c → g ≤ 72 → bm_mx (fun _ => True) w i g → wX_heaviest_4 post (nI c) R M op d a b wX lX (t + 1) (nI g) (nI i) := by
  intro t
  induction t with
  | zero =>
    intro i g hi hg72 hg
    obtain rfl : i = c := by omega
    have hn : nI i ≤ nI i := nI_le (Nat.le_refl i) (by omega)
    exact br_t hn (hp g hg)
  | succ t ih =>
    intro i g hi hg72 hg
    have hn : ¬ nI c ≤ nI i := nI_ge (by omega) (by omega)
    have hii : vp_in (nI i) 24 := bm_in (by omega)
    have hwi := hw i (by omega)
    rw [wX_heaviest_4]
    dsimp only
    rw [bm_cl (j := i) (by omega), hwi.1]
    exact br_f hn ⟨hii, pk_le (w i) g (fun q => nm_r (nI_1 i) (ih (i + 1) g (by omega) hg72 (bm_mx_k hg fun _ => q))) (fun q => ⟨hii, nm_e (nm_r (nI_1 i) (ih (i + 1) (w i) (by omega) hwi.2 (bm_mx_s hg True.intro (by omega))))⟩)⟩
theorem yh_8 {post : Int32 → SY → Prop} {c : Nat} (hc : c ≤ 24) {w : Nat → Nat} (hw : ∀ i, i < c → wY i = nI (w i) ∧ w i ≤ 72) (hp : ∀ m, bm_mx (fun _ => True) w c m → post (nI m) (nI c, op, d, a, b, R, M, wY)) :
    ∀ t i g : Nat, i + t = c → g ≤ 72 → bm_mx (fun _ => True) w i g → wY_heaviest_8 post (nI c) op d a b R M wY (t + 1) (nI g) (nI i) := by
  intro t
  induction t with
  | zero =>
    intro i g hi hg72 hg
    obtain rfl : i = c := by omega
    have hn : nI i ≤ nI i := nI_le (Nat.le_refl i) (by omega)
    exact br_t hn (hp g hg)
  | succ t ih =>
    intro i g hi hg72 hg
    have hn : ¬ nI c ≤ nI i := nI_ge (by omega) (by omega)
    have hii : vp_in (nI i) 24 := bm_in (by omega)
    have hwi := hw i (by omega)
    rw [wY_heaviest_8]
    dsimp only
    rw [bm_cl (j := i) (by omega), hwi.1]
    exact br_f hn ⟨hii, pk_le (w i) g (fun q => nm_r (nI_1 i) (ih (i + 1) g (by omega) hg72 (bm_mx_k hg fun _ => q))) (fun q => ⟨hii, nm_e (nm_r (nI_1 i) (ih (i + 1) (w i) (by omega) hwi.2 (bm_mx_s hg True.intro (by omega))))⟩)⟩
theorem xl_4 {post : Int32 → Prop} {c : Nat} (hc : c ≤ 24) {L : Nat → Nat} (hl : ∀ i, i < c → lX i = nI (L i)) (hp : post (nI (bm_ls L c))) :
    ∀ t i : Nat, i + t = c → wX_links_4 post (nI c) R M op d a b wX lX (t + 1) (nI (bm_ls L i)) (nI i) := by
  intro t
  induction t with
  | zero =>
    intro i hi
    obtain rfl : i = c := by omega
    have hn : nI i ≤ nI i := nI_le (Nat.le_refl i) (by omega)
    exact br_t hn hp
  | succ t ih =>
    intro i hi
    have hn : ¬ nI c ≤ nI i := nI_ge (by omega) (by omega)
    have hii : vp_in (nI i) 24 := bm_in (by omega)
    rw [wX_links_4]
    dsimp only
    rw [bm_cl (j := i) (by omega), hl i (by omega)]
    exact br_f hn ⟨hii, nm_r (nI_add _ _) (nm_r (nI_1 i) (ih (i + 1) (by omega)))⟩
theorem yl_14 {post : Int32 → Prop} {J4 : Int32 → Int32 → Prop} {j s : Nat} (hj : j < 24) (hJ : J4 (nI (s + bm_cn (bm_hg op d a b j) j)) (nI (j + 1))) :
    ∀ t i : Nat, i + t = j → wY_links_14 post J4 (nI j) f op d a b R M wY (t + 1) (nI (s + bm_cn (bm_hg op d a b j) i)) (nI i) := by
  intro t
  induction t with
  | zero =>
    intro i hi
    obtain rfl : i = j := by omega
    have hn : nI i ≤ nI i := nI_le (Nat.le_refl i) (by omega)
    exact br_t hn (nm_r (nI_1 i) hJ)
  | succ t ih =>
    intro i hi
    have hn : ¬ nI j ≤ nI i := nI_ge (by omega) (by omega)
    have k := ih (i + 1) (by omega)
    refine br_f hn (yr_hangs (by omega) hj (fun h => br_f bm_10 ?_) fun h => br_t rfl ?_)
    · rw [bm_cn_t h] at k
      exact nm_r (nI_1 _) (nm_r (nI_1 i) k)
    · rw [bm_cn_f h] at k
      exact nm_r (nI_1 i) k
theorem yl_4 {post : Int32 → Prop} {c : Nat} (hc : c ≤ 24) (hp : post (nI (bm_ls (fun j => bm_cn (bm_hg op d a b j) j) c))) :
    ∀ t j : Nat, j + t = c → wY_links_4 post (nI c) op d a b R M wY (t + 1) (nI (bm_ls (fun j => bm_cn (bm_hg op d a b j) j) j)) (nI j) := by
  intro t
  induction t with
  | zero =>
    intro i hi
    obtain rfl : i = c := by omega
    have hn : nI i ≤ nI i := nI_le (Nat.le_refl i) (by omega)
    exact br_t hn hp
  | succ t ih =>
    intro j hj
    have hn : ¬ nI c ≤ nI j := nI_ge (by omega) (by omega)
    exact br_f hn ⟨j + 1, yl_14 (s := bm_ls (fun j => bm_cn (bm_hg op d a b j) j) j) (by omega) (ih (j + 1) (by omega)) j 0 (by omega)⟩
end BMR
end
section
/-! the relation, and what is owed -/
/-- what holds of the instructions and of X's weights and links, below c -/
def bm_st (op d a b wX lX : Nat → Int32) (w : Nat → Nat) (c : Nat) : Prop :=
  ∀ j, j < c → bm_ok op d a b j ∧ (∃ m, bm_mx (bm_hg op d a b j) w j m ∧ w j = bm_tm (op j) + m) ∧ wX j = nI (w j) ∧ w j ≤ 3 * (j + 1) ∧ lX j = nI (bm_cn (bm_hg op d a b j) j)
/-- both hold one program, one row of registers, one memory; X's weights and links are settled below its count; Y's weights are free -/
def i_Rel (_ : Nat) (u : SX) (v : SY) : Prop :=
  ∃ (c : Nat) (R M op d a b wX lX wY : Nat → Int32) (w : Nat → Nat), u = (nI c, R, M, op, d, a, b, wX, lX) ∧ v = (nI c, op, d, a, b, R, M, wY) ∧ c ≤ 24 ∧ bm_st op d a b wX lX w c
theorem bm_st_m {op d a b wX lX : Nat → Int32} {w : Nat → Nat} {c c' : Nat} (h : bm_st op d a b wX lX w c) (hc : c' ≤ c) : bm_st op d a b wX lX w c' := fun j hj => h j (by omega)
theorem bm_st_w {op d a b wX lX : Nat → Int32} {w : Nat → Nat} {c : Nat} (h : bm_st op d a b wX lX w c) (hc : c ≤ 24) : ∀ i, i < c → wX i = nI (w i) ∧ w i ≤ 72 := by
  intro i hi
  obtain ⟨_, _, h3, h4, _⟩ := h i hi
  exact ⟨h3, by omega⟩
theorem bm_st_y {op d a b wX lX : Nat → Int32} {w : Nat → Nat} {c : Nat} (h : bm_st op d a b wX lX w c) (hc : c ≤ 24) : ∀ j, j < c → (∃ m, bm_mx (bm_hg op d a b j) w j m ∧ w j = bm_tm (op j) + m) ∧ w j ≤ 72 := by
  intro i hi
  obtain ⟨_, h2, _, h4, _⟩ := h i hi
  exact ⟨h2, by omega⟩
def bm_vi (x0 x1 x2 x3 : Int32) : Prop := ¬ x0 < 0 ∧ ¬ 8 < x0 ∧ bm_rg x1 ∧ bm_rg x2 ∧ (x0 ≤ 5 → bm_rg x3)
theorem bm_st_s {op d a b wX lX : Nat → Int32} {w : Nat → Nat} {c m : Nat} {x0 x1 x2 x3 : Int32} (hs : bm_st op d a b wX lX w c) (hv : bm_vi x0 x1 x2 x3)
    (hm : bm_mx (bm_hg (upd op c x0) (upd d c x1) (upd a c x2) (upd b c x3) c) w c m) :
    bm_st (upd op c x0) (upd d c x1) (upd a c x2) (upd b c x3) (upd wX c (nI (bm_tm (upd op c x0 c) + m))) (upd lX c (nI (bm_cn (bm_hg (upd op c x0) (upd d c x1) (upd a c x2) (upd b c x3) c) c))) (fun i => if i = c then bm_tm x0 + m else w i) (c + 1) := by
  intro j hj
  by_cases hjc : j = c
  · subst hjc
    obtain ⟨v0, v8, v1, v2, v3⟩ := hv
    have hle := bm_mx_le hm fun i hi => (hs i hi).2.2.2.1
    have h3 := bm_tm_3 x0
    have e : (if j = j then bm_tm x0 + m else w j) = bm_tm x0 + m := if_pos rfl
    refine ⟨⟨?_, ?_, ?_, ?_⟩, ⟨m, bm_mx_c (fun i hi => Iff.rfl) (fun i hi => (if_neg (by omega)).symm) hm, ?_⟩, ?_, ?_, ?_⟩
    · rw [pk_us]
      exact nI_of2 (M := 8) (by decide) v0 (Int32.not_lt.mp v8)
    · rw [pk_us]; exact v1
    · rw [pk_us]; exact v2
    · rw [pk_us, pk_us]; exact v3
    · rw [pk_us]; exact e
    · rw [pk_us, pk_us]; exact congrArg nI e.symm
    · show (if j = j then bm_tm x0 + m else w j) ≤ 3 * (j + 1)
      rw [e]
      omega
    · rw [pk_us]
  · have hjc' : j < c := by omega
    obtain ⟨⟨k1, k2, k3, k4⟩, ⟨m', hm', ew⟩, k5, k6, k7⟩ := hs j hjc'
    have g1 : ∀ i, i ≤ j → upd op c x0 i = op i := fun i hi => pk_un (by omega)
    have g2 : ∀ i, i ≤ j → upd d c x1 i = d i := fun i hi => pk_un (by omega)
    have g3 : ∀ i, i ≤ j → upd a c x2 i = a i := fun i hi => pk_un (by omega)
    have g4 : ∀ i, i ≤ j → upd b c x3 i = b i := fun i hi => pk_un (by omega)
    have e := bm_hg_c g1 g2 g3 g4
    have ej : (if j = c then bm_tm x0 + m else w j) = w j := if_neg hjc
    have jj := Nat.le_refl j
    refine ⟨⟨?_, ?_, ?_, ?_⟩, ⟨m', bm_mx_c e (fun i hi => (if_neg (by omega)).symm) hm', ?_⟩, ?_, ?_, ?_⟩
    · rw [g1 j jj]; exact k1
    · rw [g2 j jj]; exact k2
    · rw [g3 j jj]; exact k3
    · rw [g1 j jj, g4 j jj]; exact k4
    · rw [g1 j jj]; exact ej.trans ew
    · rw [pk_un hjc]; exact k5.trans (congrArg nI ej.symm)
    · show (if j = c then bm_tm x0 + m else w j) ≤ 3 * (j + 1)
      rw [ej]
      exact k6
    · rw [pk_un hjc, k7, bm_cn_c j e]
/-! registers and cells -/
theorem bm_rg_n {x : Int32} (h : x < 0) : ¬ bm_rg x := fun g => by
  obtain ⟨q, hq, rfl⟩ := g
  exact nI_pos (by omega) h
theorem bm_rg_8 {x : Int32} (h : nI 8 ≤ x) : ¬ bm_rg x := fun g => by
  obtain ⟨q, hq, rfl⟩ := g
  exact nI_ge hq (by decide) h
theorem bm_ge0 {x : Int32} {n : Nat} (hn : n < 2 ^ 31) (h : nI n ≤ x) : ¬ x < 0 := fun g => nI_pos hn (Int32.lt_of_le_of_lt h g)
theorem xe_ir {post : Int32 → Prop} {x : Int32} (h1 : bm_rg x → post 1) (h0 : ¬ bm_rg x → post 0) : wpX_isRegister post x := by
  rcases pk_ix x (n := 8) (by decide) with h | h | ⟨q, hq, rfl⟩
  · exact br_t h (h0 (bm_rg_n h))
  · exact br_f (bm_ge0 (by decide) h) (br_t h (h0 (bm_rg_8 h)))
  · exact br_f (nI_pos (by omega)) (br_f (nI_ge (b := 8) hq (by decide)) (h1 ⟨q, hq, rfl⟩))
theorem ye_ir {f : Int32} {R M op d a b wY : Nat → Int32} {post : Int32 → Prop} {x : Int32} (h1 : bm_rg x → post 1) (h0 : ¬ bm_rg x → post 0) : wpY_isRegister post (f, op, d, a, b, R, M, wY) x := by
  rcases pk_ix x (n := 8) (by decide) with h | h | ⟨q, hq, rfl⟩
  · exact br_t h (h0 (bm_rg_n h))
  · have h7 : (7 : Int32) < x := Int32.lt_of_lt_of_le (show (7 : Int32) < nI 8 by decide) h
    exact br_f (bm_ge0 (by decide) h) (br_t h7 (h0 (bm_rg_8 h)))
  · exact br_f (nI_pos (by omega)) (br_f (nI_nlt (a := 7) (by omega) (by decide)) (h1 ⟨q, hq, rfl⟩))
theorem xe_ii {post : Int32 → Prop} {x0 x1 x2 x3 : Int32} (h1 : bm_vi x0 x1 x2 x3 → post 1) (h0 : ¬ bm_vi x0 x1 x2 x3 → post 0) : wpX_isInstruction post x0 x1 x2 x3 :=
  br_c (fun h => h0 fun v => v.1 h) fun hn => br_c (fun h => h0 fun v => v.2.1 h) fun h8 =>
    xe_ir (fun g1 => br_f bm_10 (xe_ir (fun g2 => br_f bm_10 (xr_nb (fun h5 => br_f bm_10 (xe_ir (fun g3 => br_f bm_10 (h1 ⟨hn, h8, g1, g2, fun _ => g3⟩)) fun g3 => br_t rfl (h0 fun v => g3 (v.2.2.2.2 h5)))) fun h5 => br_t rfl (h1 ⟨hn, h8, g1, g2, fun h => absurd h h5⟩)))
      fun g2 => br_t rfl (h0 fun v => g2 v.2.2.2.1))) fun g1 => br_t rfl (h0 fun v => g1 v.2.2.1)
theorem ye_emit {f : Int32} {R M op d a b wY : Nat → Int32} {post : Int32 → SY → Prop} {x0 x1 x2 x3 : Int32} (hf : ¬ f = 24) (h1 : bm_vi x0 x1 x2 x3 → wY_emit_54 post x0 x1 x2 x3 f op d a b R M wY) (h0 : ¬ bm_vi x0 x1 x2 x3 → post (-1) (f, op, d, a, b, R, M, wY)) :
    wpY_emit post (f, op, d, a, b, R, M, wY) x0 x1 x2 x3 :=
  br_f hf (br_c (fun h => h0 fun v => v.1 h) fun hn => br_c (fun h => h0 fun v => v.2.1 h) fun h8 =>
    ye_ir (fun g1 => br_f bm_10 (ye_ir (fun g2 => br_f bm_10 (br_c (fun h5 => h1 ⟨hn, h8, g1, g2, fun h => absurd h (Int32.not_le.mpr h5)⟩) fun h5 => ye_ir (fun g3 => br_f bm_10 (h1 ⟨hn, h8, g1, g2, fun _ => g3⟩)) fun g3 => br_t rfl (h0 fun v => g3 (v.2.2.2.2 (Int32.not_lt.mp h5)))))
      fun g2 => br_t rfl (h0 fun v => g2 v.2.2.2.1))) fun g1 => br_t rfl (h0 fun v => g1 v.2.2.1))
theorem ye_54 {R M op d a b wY : Nat → Int32} {post : Int32 → SY → Prop} {x0 x1 x2 x3 : Int32} {c : Nat} (hc : c < 24) (h : post (nI (c + 1)) (nI (c + 1), upd op c x0, upd d c x1, upd a c x2, upd b c x3, R, M, wY)) :
    wY_emit_54 post x0 x1 x2 x3 (nI c) op d a b R M wY := by
  have hi := bm_in hc
  unfold wY_emit_54
  rw [bm_cl hc]
  exact ⟨hi, nm_e ⟨hi, nm_e ⟨hi, nm_e ⟨hi, nm_e (nm_r (nI_1 c) h)⟩⟩⟩⟩
/-! owed -/
theorem i_up {k : Nat} {u : SX} {v : SY} (h : i_Rel k u v) : i_Rel (k + 5) u v := h
theorem i_vc0 : wpX_init (fun u => wpY_init (fun v => i_Rel 0 u v)) :=
  ⟨0, fun _ => 0, fun _ => 0, fun _ => 0, fun _ => 0, fun _ => 0, fun _ => 0, fun _ => 0, fun _ => 0, fun _ => 0, fun _ => 0, rfl, rfl, by omega, fun j hj => absurd hj (Nat.not_lt_zero j)⟩
theorem i_vc_emit {k : Nat} {u : SX} {v : SY} (I : i_Rel k u v) (hk : k + 5 ≤ 2560) (v1 : Int32) (v2 : Int32) (v3 : Int32) (v4 : Int32) : wpX_emit (fun r u' => wpY_emit (fun r' v' => r' = r ∧ i_Rel (k + 5) u' v') v v1 v2 v3 v4) u v1 v2 v3 v4 := by
  obtain ⟨c, R, M, op, d, a, b, wX, lX, wY, w, rfl, rfl, hc, hs⟩ := I
  have J : i_Rel (k + 5) (nI c, R, M, op, d, a, b, wX, lX) (nI c, op, d, a, b, R, M, wY) := ⟨c, R, M, op, d, a, b, wX, lX, wY, w, rfl, rfl, hc, hs⟩
  by_cases h24 : c < 24
  · have hi := bm_in h24
    have hlt : nI c < 24 := nI_lt (b := 24) h24 (by decide)
    have hne : ¬ nI c = 24 := fun e => absurd ((nI_eq (b := 24) (by omega) (by decide)).mp e) (by omega)
    refine br_t hlt (xe_ii (fun hv => br_f bm_10 ?_) (fun hv => br_t rfl ?_))
    · refine ⟨hi, fun o eo => ⟨hi, fun p ep => ⟨hi, fun q eq => ⟨hi, fun r er => ?_⟩⟩⟩⟩
      rw [bm_cl h24] at eo ep eq er
      subst eo ep eq er
      have hd : ∀ i, i < c → ∃ q : Nat, q < 8 ∧ upd d c v2 i = nI q := fun i hi => by
        rw [pk_un (by omega)]
        exact (hs i hi).1.2.1
      refine xs_settle h24 (bm_st_w hs hc) hd fun m hm => ?_
      refine nm_r (nI_1 c) ?_
      refine ye_emit hne (fun _ => ye_54 h24 ?_) fun hn => absurd hv hn
      exact ⟨rfl, c + 1, R, M, _, _, _, _, _, _, wY, _, rfl, rfl, by omega, bm_st_s hs hv hm⟩
    · exact ye_emit hne (fun hv' => absurd hv' hv) fun _ => ⟨rfl, J⟩
  · obtain rfl : c = 24 := by omega
    have hn : ¬ nI 24 < 24 := by decide
    have he : nI 24 = 24 := by decide
    exact br_f hn (br_t he ⟨rfl, J⟩)
theorem i_vc_retract {k : Nat} {u : SX} {v : SY} (I : i_Rel k u v) (hk : k + 5 ≤ 2560) : wpX_retract (fun r u' => wpY_retract (fun r' v' => r' = r ∧ i_Rel (k + 5) u' v') v) u := by
  obtain ⟨c, R, M, op, d, a, b, wX, lX, wY, w, rfl, rfl, hc, hs⟩ := I
  have J : i_Rel (k + 5) (nI c, R, M, op, d, a, b, wX, lX) (nI c, op, d, a, b, R, M, wY) := ⟨c, R, M, op, d, a, b, wX, lX, wY, w, rfl, rfl, hc, hs⟩
  cases c with
  | zero => exact br_t rfl (br_t rfl ⟨rfl, J⟩)
  | succ c =>
    have hn : ¬ nI (c + 1) = 0 := nI_ne0 (by omega) (by omega)
    exact br_f hn (nm_r (nI_pred c) (br_f hn (nm_r (nI_pred c) ⟨rfl, c, R, M, op, d, a, b, wX, lX, wY, w, rfl, rfl, by omega, bm_st_m hs (by omega)⟩)))
theorem i_vc_drop {k : Nat} {u : SX} {v : SY} (I : i_Rel k u v) (hk : k + 5 ≤ 2560) : wpX_drop (fun r u' => wpY_drop (fun r' v' => r' = r ∧ i_Rel (k + 5) u' v') v) u := by
  obtain ⟨c, R, M, op, d, a, b, wX, lX, wY, w, rfl, rfl, hc, hs⟩ := I
  exact ⟨rfl, 0, R, M, op, d, a, b, wX, lX, wY, w, rfl, rfl, by omega, bm_st_m hs (Nat.zero_le c)⟩
theorem i_vc_run {k : Nat} {u : SX} {v : SY} (I : i_Rel k u v) (hk : k + 5 ≤ 2560) : wpX_run (fun r u' => wpY_run (fun r' v' => r' = r ∧ i_Rel (k + 5) u' v') v) u := by
  obtain ⟨c, R, M, op, d, a, b, wX, lX, wY, w, rfl, rfl, hc, hs⟩ := I
  obtain ⟨R', M', hX, hY⟩ := bm_run hc (fun i hi => (hs i hi).1) c 0 R M (by omega)
  exact ⟨c + 1, hX _ wX lX ⟨c + 1, hY _ wY ⟨rfl, c, R', M', op, d, a, b, wX, lX, wY, w, rfl, rfl, hc, hs⟩⟩⟩
theorem i_vc_register {k : Nat} {u : SX} {v : SY} (I : i_Rel k u v) (hk : k + 5 ≤ 2560) (v1 : Int32) : wpX_register (fun r => wpY_register (fun r' => r' = r ∧ i_Rel (k + 5) u v) v v1) u v1 := by
  obtain ⟨c, R, M, op, d, a, b, wX, lX, wY, w, rfl, rfl, hc, hs⟩ := I
  have J : i_Rel (k + 5) (nI c, R, M, op, d, a, b, wX, lX) (nI c, op, d, a, b, R, M, wY) := ⟨c, R, M, op, d, a, b, wX, lX, wY, w, rfl, rfl, hc, hs⟩
  unfold wpX_register wpY_register
  dsimp only
  refine xe_ir (fun g => br_f bm_10 ?_) (fun g => br_t rfl ?_)
  · have hv : vp_in v1 8 := by
      obtain ⟨q, hq, rfl⟩ := g
      exact vp_in_nI hq (by decide)
    exact ⟨hv, ye_ir (fun _ => br_f bm_10 ⟨hv, rfl, J⟩) fun n => absurd g n⟩
  · exact ye_ir (fun g' => absurd g' g) fun _ => br_t rfl ⟨rfl, J⟩
theorem i_vc_setRegister {k : Nat} {u : SX} {v : SY} (I : i_Rel k u v) (hk : k + 5 ≤ 2560) (v1 : Int32) (v2 : Int32) : wpX_setRegister (fun r u' => wpY_setRegister (fun r' v' => r' = r ∧ i_Rel (k + 5) u' v') v v1 v2) u v1 v2 := by
  obtain ⟨c, R, M, op, d, a, b, wX, lX, wY, w, rfl, rfl, hc, hs⟩ := I
  have J : ∀ R' : Nat → Int32, i_Rel (k + 5) (nI c, R', M, op, d, a, b, wX, lX) (nI c, op, d, a, b, R', M, wY) := fun R' => ⟨c, R', M, op, d, a, b, wX, lX, wY, w, rfl, rfl, hc, hs⟩
  unfold wpX_setRegister wpY_setRegister
  dsimp only
  refine xe_ir (fun g => br_f bm_10 ?_) (fun g => br_t rfl ?_)
  · have hv : vp_in v1 8 := by
      obtain ⟨q, hq, rfl⟩ := g
      exact vp_in_nI hq (by decide)
    exact ⟨hv, nm_e (ye_ir (fun _ => br_f bm_10 ⟨hv, nm_e ⟨rfl, J _⟩⟩) fun n => absurd g n)⟩
  · exact ye_ir (fun g' => absurd g' g) fun _ => br_t rfl ⟨rfl, J R⟩
theorem i_vc_memory {k : Nat} {u : SX} {v : SY} (I : i_Rel k u v) (hk : k + 5 ≤ 2560) (v1 : Int32) : wpX_memory (fun r => wpY_memory (fun r' => r' = r ∧ i_Rel (k + 5) u v) v v1) u v1 := by
  obtain ⟨c, R, M, op, d, a, b, wX, lX, wY, w, rfl, rfl, hc, hs⟩ := I
  have J : i_Rel (k + 5) (nI c, R, M, op, d, a, b, wX, lX) (nI c, op, d, a, b, R, M, wY) := ⟨c, R, M, op, d, a, b, wX, lX, wY, w, rfl, rfl, hc, hs⟩
  unfold wpX_memory wpY_memory wpX_isCell
  dsimp only
  rcases pk_ix v1 (n := 16) (by decide) with h | h | ⟨q, hq, rfl⟩
  · exact br_t h (br_t rfl (br_t h ⟨rfl, J⟩))
  · have h0 := bm_ge0 (by decide) h
    have h15 : (15 : Int32) < v1 := Int32.lt_of_lt_of_le (show (15 : Int32) < nI 16 by decide) h
    exact br_f h0 (br_t h (br_t rfl (br_f h0 (br_t h15 ⟨rfl, J⟩))))
  · have h0 : ¬ nI q < 0 := nI_pos (by omega)
    have h16 : ¬ (16 : Int32) ≤ nI q := nI_ge (b := 16) hq (by decide)
    have h15 : ¬ (15 : Int32) < nI q := nI_nlt (a := 15) (by omega) (by decide)
    have hv : vp_in (nI q) 16 := vp_in_nI hq (by decide)
    exact br_f h0 (br_f h16 (br_f bm_10 ⟨hv, br_f h0 (br_f h15 ⟨hv, rfl, J⟩)⟩))
theorem i_vc_setMemory {k : Nat} {u : SX} {v : SY} (I : i_Rel k u v) (hk : k + 5 ≤ 2560) (v1 : Int32) (v2 : Int32) : wpX_setMemory (fun r u' => wpY_setMemory (fun r' v' => r' = r ∧ i_Rel (k + 5) u' v') v v1 v2) u v1 v2 := by
  obtain ⟨c, R, M, op, d, a, b, wX, lX, wY, w, rfl, rfl, hc, hs⟩ := I
  have J : ∀ M' : Nat → Int32, i_Rel (k + 5) (nI c, R, M', op, d, a, b, wX, lX) (nI c, op, d, a, b, R, M', wY) := fun M' => ⟨c, R, M', op, d, a, b, wX, lX, wY, w, rfl, rfl, hc, hs⟩
  unfold wpX_setMemory wpY_setMemory wpX_isCell
  dsimp only
  rcases pk_ix v1 (n := 16) (by decide) with h | h | ⟨q, hq, rfl⟩
  · exact br_t h (br_t rfl (br_t h ⟨rfl, J M⟩))
  · have h0 := bm_ge0 (by decide) h
    have h15 : ¬ v1 ≤ (15 : Int32) := Int32.not_le.mpr (Int32.lt_of_lt_of_le (show (15 : Int32) < nI 16 by decide) h)
    exact br_f h0 (br_t h (br_t rfl (br_f h0 (br_f h15 ⟨rfl, J M⟩))))
  · have h0 : ¬ nI q < 0 := nI_pos (by omega)
    have h16 : ¬ (16 : Int32) ≤ nI q := nI_ge (b := 16) hq (by decide)
    have h15 : nI q ≤ (15 : Int32) := nI_le (b := 15) (by omega) (by decide)
    have hv : vp_in (nI q) 16 := vp_in_nI hq (by decide)
    exact br_f h0 (br_f h16 (br_f bm_10 ⟨hv, nm_e (br_f h0 (br_t h15 ⟨hv, nm_e ⟨rfl, J _⟩⟩))⟩))
theorem i_vc_weight {k : Nat} {u : SX} {v : SY} (I : i_Rel k u v) (hk : k + 5 ≤ 2560) (v1 : Int32) : wpX_weight (fun r => wpY_weight (fun r' v' => r' = r ∧ i_Rel (k + 5) u v') v v1) u v1 := by
  obtain ⟨c, R, M, op, d, a, b, wX, lX, wY, w, rfl, rfl, hc, hs⟩ := I
  have J : ∀ wY' : Nat → Int32, i_Rel (k + 5) (nI c, R, M, op, d, a, b, wX, lX) (nI c, op, d, a, b, R, M, wY') := fun wY' => ⟨c, R, M, op, d, a, b, wX, lX, wY', w, rfl, rfl, hc, hs⟩
  rcases pk_ix v1 (n := c) (by omega) with h | h | ⟨q, hq, rfl⟩
  · exact br_t h (br_t h ⟨rfl, J wY⟩)
  · have h0 := bm_ge0 (by omega) h
    exact br_f h0 (br_t h (br_f h0 (br_f (Int32.not_lt.mpr h) ⟨rfl, J wY⟩)))
  · have h0 : ¬ nI q < 0 := nI_pos (by omega)
    have h1 : ¬ nI c ≤ nI q := nI_ge hq (by omega)
    have h2 : nI q < nI c := nI_lt hq (by omega)
    have hv : vp_in (nI q) 24 := bm_in (by omega)
    have cq : (nI q).toNatClampNeg = q := bm_cl (by omega)
    refine br_f h0 (br_f h1 ⟨hv, br_f h0 (br_t h2 (yw_all hc (bm_st_y hs hc) fun wY' hw => ⟨hv, ?_, J wY'⟩))⟩)
    rw [cq, hw q hq, (hs q hq).2.2.1]
theorem i_vc_heaviest {k : Nat} {u : SX} {v : SY} (I : i_Rel k u v) (hk : k + 5 ≤ 2560) : wpX_heaviest (fun r => wpY_heaviest (fun r' v' => r' = r ∧ i_Rel (k + 5) u v') v) u := by
  obtain ⟨c, R, M, op, d, a, b, wX, lX, wY, w, rfl, rfl, hc, hs⟩ := I
  have J : ∀ wY' : Nat → Int32, i_Rel (k + 5) (nI c, R, M, op, d, a, b, wX, lX) (nI c, op, d, a, b, R, M, wY') := fun wY' => ⟨c, R, M, op, d, a, b, wX, lX, wY', w, rfl, rfl, hc, hs⟩
  have hw := bm_st_w hs hc
  refine ⟨c + 1, xh_4 hc hw (fun m hm => ?_) c 0 0 (by omega) (by omega) bm_mx_0⟩
  unfold wpY_heaviest
  dsimp only
  refine yw_all hc (bm_st_y hs hc) fun wY' hw' => ⟨c + 1, ?_⟩
  exact yh_8 hc (fun i hi => ⟨hw' i hi, (hw i hi).2⟩) (fun m' hm' => ⟨congrArg nI (bm_mx_u hm' hm), J wY'⟩) c 0 0 (by omega) (by omega) bm_mx_0
theorem i_vc_links {k : Nat} {u : SX} {v : SY} (I : i_Rel k u v) (hk : k + 5 ≤ 2560) : wpX_links (fun r => wpY_links (fun r' => r' = r ∧ i_Rel (k + 5) u v) v) u := by
  obtain ⟨c, R, M, op, d, a, b, wX, lX, wY, w, rfl, rfl, hc, hs⟩ := I
  have J : i_Rel (k + 5) (nI c, R, M, op, d, a, b, wX, lX) (nI c, op, d, a, b, R, M, wY) := ⟨c, R, M, op, d, a, b, wX, lX, wY, w, rfl, rfl, hc, hs⟩
  refine ⟨c + 1, xl_4 (L := fun j => bm_cn (bm_hg op d a b j) j) hc (fun i hi => (hs i hi).2.2.2.2) ?_ c 0 (by omega)⟩
  exact ⟨c + 1, yl_4 hc ⟨rfl, J⟩ c 0 (by omega)⟩
end
