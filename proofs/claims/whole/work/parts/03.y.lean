/-! Y: reads, writes, hangs, weighAll -/
section BMY
variable {f : Int32} {R M op d a b wY : Nat → Int32}
theorem yr_r32 {post : Int32 → Prop} {j : Nat} {r : Int32} (hj : j < 24) (h1 : (op j = 5 ∨ op j = 8) ∧ d j = r → post 1) (h0 : ¬ ((op j = 5 ∨ op j = 8) ∧ d j = r) → post 0) :
    wY_reads_32 post (nI j) r f op d a b R M wY := by
  have hi := bm_in hj
  unfold wY_reads_32 wY_reads_53
  rw [bm_cl hj]
  exact ⟨hi, br_c (fun h5 => ⟨hi, br_c (fun hd => h1 ⟨Or.inl h5, hd⟩) (fun hd => h0 fun g => hd g.2)⟩) fun h5 => ⟨hi, br_c (fun h8 => ⟨hi, br_c (fun hd => h1 ⟨Or.inr h8, hd⟩) fun hd => h0 fun g => hd g.2⟩) fun h8 => h0 fun g => g.1.elim h5 h8⟩⟩
theorem yr_reads {post : Int32 → Prop} {j : Nat} {r : Int32} (hj : j < 24) (h1 : bm_rd op d a b j r → post 1) (h0 : ¬ bm_rd op d a b j r → post 0) :
    wpY_reads post (f, op, d, a, b, R, M, wY) (nI j) r := by
  have hi := bm_in hj
  unfold wpY_reads
  dsimp only
  rw [bm_cl hj]
  refine ⟨hi, br_c (fun h => h1 (Or.inl h)) fun ha => ⟨hi, br_c (fun h5 => ?_) fun h5 => ⟨hi, br_c (fun hb => h1 (Or.inr (Or.inl ⟨Int32.not_lt.mp h5, hb⟩))) fun hb => ?_⟩⟩⟩
  · refine yr_r32 hj (fun g => h1 (Or.inr (Or.inr g))) fun g => h0 fun z => ?_
    rcases z with z | z | z
    · exact ha z
    · exact Int32.not_le.mpr h5 z.1
    · exact g z
  · refine yr_r32 hj (fun g => h1 (Or.inr (Or.inr g))) fun g => h0 fun z => ?_
    rcases z with z | z | z
    · exact ha z
    · exact hb z.2
    · exact g z
theorem yr_writes {post : Int32 → Prop} {i : Nat} {r : Int32} (hj : i < 24) (h1 : bm_wr op d i r → post 1) (h0 : ¬ bm_wr op d i r → post 0) :
    wpY_writes post (f, op, d, a, b, R, M, wY) (nI i) r := by
  have hi := bm_in hj
  unfold wpY_writes
  dsimp only
  rw [bm_cl hj]
  exact ⟨hi, br_c (fun h8 => h0 fun g => g.1 h8) fun h8 => ⟨hi, br_c (fun hd => h1 ⟨h8, hd⟩) fun hd => h0 fun g => hd g.2⟩⟩
theorem yh_32 {post : Int32 → Prop} {i j : Nat} {r : Int32} (hj : j < 24) (h1 : (∀ k, i < k → k < j → ¬ bm_wr op d k r) → post 1) (h0 : (¬ ∀ k, i < k → k < j → ¬ bm_wr op d k r) → post 0) :
    ∀ t k : Nat, k + t = j → i < k → (∀ k', i < k' → k' < k → ¬ bm_wr op d k' r) → wY_hangs_32 post (nI j) r f op d a b R M wY (t + 1) (nI k) := by
  intro t
  induction t with
  | zero =>
    intro k hk hik hh
    obtain rfl : k = j := by omega
    have hn : nI k ≤ nI k := nI_le (Nat.le_refl k) (by omega)
    exact br_t hn (h1 hh)
  | succ t ih =>
    intro k hk hik hh
    have hn : ¬ nI j ≤ nI k := nI_ge (by omega) (by omega)
    refine br_f hn (yr_writes (by omega) (fun hw => br_f bm_10 (h0 fun g => g k hik (by omega) hw)) fun hw => br_t rfl (nm_r (nI_1 k) (ih (k + 1) (by omega) (by omega) fun k' a1 a2 => ?_)))
    by_cases h : k' = k
    · rw [h]; exact hw
    · exact hh k' a1 (by omega)
theorem yr_hangs {post : Int32 → Prop} {i j : Nat} (hij : i < j) (hj : j < 24) (h1 : bm_hg op d a b j i → post 1) (h0 : ¬ bm_hg op d a b j i → post 0) :
    wpY_hangs post (f, op, d, a, b, R, M, wY) (nI j) (nI i) := by
  have hi : vp_in (nI i) 24 := bm_in (by omega)
  unfold wpY_hangs
  dsimp only
  rw [bm_cl (j := i) (by omega)]
  refine ⟨hi, fun x ex => ?_⟩
  subst ex
  refine yr_writes (by omega) (fun hw => br_f bm_10 (yr_reads hj (fun hR => br_f bm_10 (nm_r (nI_1 i) ⟨j - (i + 1) + 1, ?_⟩)) fun hR => br_t rfl (h0 fun g => hR g.2.1))) fun hw => br_t rfl (h0 fun g => hw g.1)
  exact yh_32 hj (fun g => h1 ⟨hw, hR, g⟩) (fun g => h0 fun z => g z.2.2) (j - (i + 1)) (i + 1) (by omega) (by omega) fun k' a1 a2 => absurd a2 (by omega)
theorem yw_14 {post : SY → Prop} {J2 : Int32 → (Nat → Int32) → (Nat → Int32) → (Nat → Int32) → (Nat → Int32) → (Nat → Int32) → (Nat → Int32) → (Nat → Int32) → Prop} {j : Nat} (hj : j < 24) {w : Nat → Nat} (hw : ∀ i, i < j → wY i = nI (w i) ∧ w i ≤ 72)
    (hJ : ∀ m, bm_mx (bm_hg op d a b j) w j m → J2 (nI (j + 1)) op d a b R M (upd wY j (nI (bm_tm (op j) + m)))) :
    ∀ t i g : Nat, i + t = j → g ≤ 72 → bm_mx (bm_hg op d a b j) w i g → wY_weighAll_14 post J2 (nI j) f op d a b R M wY (t + 1) (nI g) (nI i) := by
  have hin := bm_in hj
  intro t
  induction t with
  | zero =>
    intro i g hi hg72 hg
    obtain rfl : i = j := by omega
    have hn : nI i ≤ nI i := nI_le (Nat.le_refl i) (by omega)
    have hJ' := hJ g hg
    rw [wY_weighAll_14]
    dsimp only
    rw [bm_cl hj]
    have e3 : nI g + 3 = nI (3 + g) := (nI_add g 3).trans (by rw [Nat.add_comm])
    have e2 : nI g + 2 = nI (2 + g) := (nI_add g 2).trans (by rw [Nat.add_comm])
    have e1 : nI g + 1 = nI (1 + g) := (nI_add g 1).trans (by rw [Nat.add_comm])
    rw [e3, e2, e1]
    unfold bm_tm at hJ'
    refine br_t hn ⟨hin, br_c (fun h2 => ⟨hin, nm_e (nm_r (nI_1 i) ?_)⟩) fun h2 => ⟨hin, br_c (fun h7 => ⟨hin, nm_e (nm_r (nI_1 i) ?_)⟩) fun h7 => ⟨hin, nm_e (nm_r (nI_1 i) ?_)⟩⟩⟩
    · rw [if_pos h2] at hJ'
      exact hJ'
    · rw [if_neg h2, if_pos h7] at hJ'
      exact hJ'
    · rw [if_neg h2, if_neg h7] at hJ'
      exact hJ'
  | succ t ih =>
    intro i g hi hg72 hg
    have hn : ¬ nI j ≤ nI i := nI_ge (by omega) (by omega)
    have hii : vp_in (nI i) 24 := bm_in (by omega)
    have hwi := hw i (by omega)
    rw [wY_weighAll_14]
    dsimp only
    rw [bm_cl (j := i) (by omega), hwi.1]
    refine br_f hn (yr_hangs (by omega) hj (fun h => br_f bm_10 ⟨hii, pk_le (w i) g (fun q => nm_r (nI_1 i) (ih (i + 1) g (by omega) hg72 (bm_mx_k hg fun _ => q))) (fun q => ⟨hii, nm_e (nm_r (nI_1 i) (ih (i + 1) (w i) (by omega) hwi.2 (bm_mx_s hg h (by omega))))⟩)⟩) fun h => br_t rfl (nm_r (nI_1 i) (ih (i + 1) g (by omega) hg72 (bm_mx_k hg fun p => absurd p h))))
theorem yw_2 {post : SY → Prop} {c : Nat} (hc : c ≤ 24) {w : Nat → Nat} (hs : ∀ j, j < c → (∃ m, bm_mx (bm_hg op d a b j) w j m ∧ w j = bm_tm (op j) + m) ∧ w j ≤ 72)
    (hp : ∀ wY' : Nat → Int32, (∀ i, i < c → wY' i = nI (w i)) → post (nI c, op, d, a, b, R, M, wY')) :
    ∀ (t j : Nat) (wY : Nat → Int32), j + t = c → (∀ i, i < j → wY i = nI (w i)) → wY_weighAll_2 post (nI c) (t + 1) (nI j) op d a b R M wY := by
  intro t
  induction t with
  | zero =>
    intro j wY hj h
    obtain rfl : j = c := by omega
    have hn : nI j ≤ nI j := nI_le (Nat.le_refl j) (by omega)
    exact br_t hn (hp wY h)
  | succ t ih =>
    intro j wY hj h
    have hn : ¬ nI c ≤ nI j := nI_ge (by omega) (by omega)
    refine br_f hn ⟨j + 1, ?_⟩
    refine yw_14 (w := w) (by omega) (fun i hi => ⟨h i hi, (hs i (by omega)).2⟩) (fun m hm => ih (j + 1) _ (by omega) fun i hi => ?_) j 0 0 (by omega) (by omega) bm_mx_0
    by_cases hij : i = j
    · subst hij
      obtain ⟨⟨m', hm', e⟩, _⟩ := hs i (by omega)
      rw [pk_us, e, bm_mx_u hm hm']
    · rw [pk_un hij]
      exact h i (by omega)
theorem yw_all {post : SY → Prop} {c : Nat} (hc : c ≤ 24) {w : Nat → Nat} (hs : ∀ j, j < c → (∃ m, bm_mx (bm_hg op d a b j) w j m ∧ w j = bm_tm (op j) + m) ∧ w j ≤ 72)
    (hp : ∀ wY' : Nat → Int32, (∀ i, i < c → wY' i = nI (w i)) → post (nI c, op, d, a, b, R, M, wY')) :
    wpY_weighAll post (nI c, op, d, a, b, R, M, wY) :=
  ⟨c + 1, yw_2 hc hs hp c 0 wY (by omega) fun i hi => absurd hi (Nat.not_lt_zero i)⟩
end BMY
