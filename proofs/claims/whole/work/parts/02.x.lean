/-! X: reads, the last writer, settle -/
section BMX
variable {f : Int32} {R M op d a b wX lX : Nat → Int32}
theorem bm_in {j : Nat} (h : j < 24) : vp_in (nI j) 24 := vp_in_nI h (by decide)
theorem bm_cl {j : Nat} (h : j < 24) : (nI j).toNatClampNeg = j := nI_clamp (by omega)
theorem bm_10 : ¬ (1 : Int32) = 0 := by decide
theorem bm_ne {i : Nat} (h : i < 2 ^ 31) : ¬ nI i = -1 := by
  intro e
  have := nI_pos (n := i) h
  rw [e] at this
  exact this (by decide)
theorem xr_nb {post : Int32 → Prop} {x : Int32} (h1 : x ≤ 5 → post 1) (h0 : ¬ x ≤ 5 → post 0) : wpX_namesRegisterInB post x :=
  ⟨fun h => h0 (Int32.not_le.mpr h), fun h => h1 (Int32.not_lt.mp h)⟩
theorem xr_r36 {post : Int32 → Prop} {j : Nat} {r x : Int32} (hj : j < 24) (h1 : (x = 5 ∨ x = 8) ∧ d j = r → post 1) (h0 : ¬ ((x = 5 ∨ x = 8) ∧ d j = r) → post 0) :
    wX_reads_36 post (nI j) r x f R M op d a b wX lX := by
  have hi := bm_in hj
  unfold wX_reads_36 wX_reads_47
  rw [bm_cl hj]
  exact br_c (fun h5 => ⟨hi, br_c (fun hd => h1 ⟨Or.inl h5, hd⟩) (fun hd => h0 fun g => hd g.2)⟩) fun h5 => br_c (fun h8 => ⟨hi, br_c (fun hd => h1 ⟨Or.inr h8, hd⟩) fun hd => h0 fun g => hd g.2⟩) fun h8 => h0 fun g => g.1.elim h5 h8
theorem xr_reads {post : Int32 → Prop} {j : Nat} {r : Int32} (hj : j < 24) (h1 : bm_rd op d a b j r → post 1) (h0 : ¬ bm_rd op d a b j r → post 0) :
    wpX_reads post (f, R, M, op, d, a, b, wX, lX) (nI j) r := by
  have hi := bm_in hj
  unfold wpX_reads
  dsimp only
  rw [bm_cl hj]
  refine ⟨hi, fun x ex => ⟨hi, br_c (fun h => h1 (Or.inl h)) fun ha => ?_⟩⟩
  subst ex
  refine xr_nb (fun h5 => br_f bm_10 ⟨hi, br_c (fun hb => h1 (Or.inr (Or.inl ⟨h5, hb⟩))) fun hb => ?_⟩) (fun h5 => br_t rfl ?_)
  · refine xr_r36 hj (fun g => h1 (Or.inr (Or.inr g))) fun g => h0 fun z => ?_
    rcases z with z | z | z
    · exact ha z
    · exact hb z.2
    · exact g z
  · refine xr_r36 hj (fun g => h1 (Or.inr (Or.inr g))) fun g => h0 fun z => ?_
    rcases z with z | z | z
    · exact ha z
    · exact h5 z.1
    · exact g z
theorem xr_lw {post : Int32 → Prop} {r : Int32} {j : Nat} (h1 : ∀ i, i < j → bm_wr op d i r → (∀ k, i < k → k < j → ¬ bm_wr op d k r) → post (nI i)) (h0 : (∀ i, i < j → ¬ bm_wr op d i r) → post (-1)) :
    ∀ t : Nat, t ≤ j → t ≤ 24 → (∀ k, t ≤ k → k < j → ¬ bm_wr op d k r) → wX_lastWriterBefore_4 post r f R M op d a b wX lX (t + 1) (nI t - 1) := by
  intro t
  induction t with
  | zero =>
    intro _ _ hk
    have hn : nI 0 - 1 < 0 := by decide
    exact br_t hn (h0 fun i hi => hk i (Nat.zero_le i) hi)
  | succ t ih =>
    intro htj ht hk
    have hi : vp_in (nI t) 24 := bm_in (by omega)
    have hn : ¬ nI t < 0 := nI_pos (by omega)
    have hs : nI t + (-1) = nI t - 1 := (Int32.sub_eq_add_neg _ _).symm
    have nx : ¬ bm_wr op d t r → ∀ x : Int32, x = nI t + (-1) → wX_lastWriterBefore_4 post r f R M op d a b wX lX (t + 1) x := by
      intro hw x ex
      rw [ex, hs]
      refine ih (by omega) (by omega) fun k h1k h2k => ?_
      by_cases h : k = t
      · rw [h]; exact hw
      · exact hk k (by omega) h2k
    rw [nI_pred, wX_lastWriterBefore_4]
    dsimp only
    rw [bm_cl (j := t) (by omega)]
    exact br_f hn ⟨hi, br_c (fun h8 => nx fun g => g.1 h8) fun h8 => ⟨hi, br_c (fun hd => h1 t (by omega) ⟨h8, hd⟩ fun k a1 a2 => hk k (by omega) a2) fun hd => nx fun g => hd g.2⟩⟩
theorem xr_last {post : Int32 → Prop} {r : Int32} {j : Nat} (hj : j ≤ 24) (h1 : ∀ i, i < j → bm_wr op d i r → (∀ k, i < k → k < j → ¬ bm_wr op d k r) → post (nI i)) (h0 : (∀ i, i < j → ¬ bm_wr op d i r) → post (-1)) :
    wpX_lastWriterBefore post (f, R, M, op, d, a, b, wX, lX) (nI j) r := by
  intro x ex
  refine ⟨j + 1, ?_⟩
  rw [ex]
  exact xr_lw h1 h0 j (Nat.le_refl j) hj fun k h2 h3 => absurd h3 (by omega)
theorem xs_time {post : Int32 → Prop} (x : Int32) (h : post (nI (bm_tm x))) : wpX_timeOf post x := by
  unfold bm_tm at h
  by_cases h2 : x = 2
  · rw [if_pos h2] at h
    exact br_t h2 h
  · rw [if_neg h2] at h
    by_cases h7 : x = 7
    · rw [if_pos h7] at h
      exact br_f h2 (br_t h7 h)
    · rw [if_neg h7] at h
      exact br_f h2 (br_f h7 h)
theorem xs_35n {post : SX → Prop} {J7 : Int32 → Int32 → Int32 → Prop} {x1 x2 x3 : Int32} {r : Nat} (h : J7 x2 x3 (nI (r + 1))) :
    wX_settleWeightAndLinks_35 post J7 x1 x2 x3 (nI r) (-1) f R M op d a b wX lX :=
  br_t rfl (nm_r (nI_1 r) h)
theorem xs_35y {post : SX → Prop} {J7 : Int32 → Int32 → Int32 → Prop} {x1 : Int32} {h g r i v : Nat} (hi : i < 24) (hw : wX i = nI v) (hv : v ≤ 72) (hg : g ≤ 72)
    (k1 : v ≤ g → J7 (nI (h + 1)) (nI g) (nI (r + 1))) (k2 : g < v → J7 (nI (h + 1)) (nI v) (nI (r + 1))) :
    wX_settleWeightAndLinks_35 post J7 x1 (nI h) (nI g) (nI r) (nI i) f R M op d a b wX lX := by
  have hin := bm_in hi
  unfold wX_settleWeightAndLinks_35
  rw [bm_cl hi, hw]
  exact br_f (bm_ne (by omega)) (nm_r (nI_1 h) ⟨hin, pk_le v g (fun q => nm_r (nI_1 r) (k1 q)) (fun q => ⟨hin, nm_e (nm_r (nI_1 r) (k2 q))⟩)⟩)
theorem xs_7 {post : SX → Prop} {j : Nat} (hj : j < 24) {w : Nat → Nat} (hw : ∀ i, i < j → wX i = nI (w i) ∧ w i ≤ 72) (hd : ∀ i, i < j → ∃ q : Nat, q < 8 ∧ d i = nI q)
    (hp : ∀ m, bm_mx (bm_hg op d a b j) w j m → post (f, R, M, op, d, a, b, upd wX j (nI (bm_tm (op j) + m)), upd lX j (nI (bm_cn (bm_hg op d a b j) j)))) :
    ∀ t r g : Nat, r + t = 8 → g ≤ 72 → bm_mx (bm_hr op d a b j r) w j g → wX_settleWeightAndLinks_7 post (nI j) f R M op d a b wX lX (t + 1) (nI (bm_cn (bm_hr op d a b j r) j)) (nI g) (nI r) := by
  have hi := bm_in hj
  intro t
  induction t with
  | zero =>
    intro r g hr hg72 hg
    obtain rfl : r = 8 := by omega
    have h8 : (8 : Int32) ≤ nI 8 := by decide
    have e8 : ∀ i, i < j → (bm_hr op d a b j 8 i ↔ bm_hg op d a b j i) := fun i hi => bm_hr_8 (hd i hi)
    rw [bm_cn_c j e8, wX_settleWeightAndLinks_7]
    rw [bm_cl hj]
    refine br_t h8 ⟨hi, fun x ex => ⟨hi, xs_time _ ⟨hi, fun y ey => ?_⟩⟩⟩
    rw [ey, ex, nI_add]
    exact hp g (bm_mx_c e8 (fun _ _ => rfl) hg)
  | succ t ih =>
    intro r g hr hg72 hg
    have h8 : ¬ (8 : Int32) ≤ nI r := nI_ge (b := 8) (by omega) (by decide)
    have key : ∀ g', g' ≤ 72 → bm_mx (bm_hr op d a b j (r + 1)) w j g' → wX_settleWeightAndLinks_7 post (nI j) f R M op d a b wX lX (t + 1) (nI (bm_cn (bm_hr op d a b j (r + 1)) j)) (nI g') (nI (r + 1)) :=
      fun g' h1 h2 => ih (r + 1) g' (by omega) h1 h2
    have no : (¬ bm_rd op d a b j (nI r) ∨ ∀ i, i < j → ¬ bm_wr op d i (nI r)) → wX_settleWeightAndLinks_7 post (nI j) f R M op d a b wX lX (t + 1) (nI (bm_cn (bm_hr op d a b j r) j)) (nI g) (nI (r + 1)) := by
      intro hn
      have e := bm_hr_n hn
      rw [bm_cn_c j e]
      exact key g hg72 (bm_mx_c e (fun _ _ => rfl) hg)
    refine br_f h8 (xr_reads hj (fun hR => br_f bm_10 (xr_last (by omega) (fun i hij hwr hl => ?_) fun hn => xs_35n (no (Or.inr hn)))) fun hR => br_t rfl (xs_35n (no (Or.inl hR))))
    obtain ⟨ha, hb⟩ := bm_hr_y hij (by omega) hR hwr hl
    rw [bm_cn_1 i ha j hij hb] at key
    exact xs_35y (by omega) (hw i hij).1 (hw i hij).2 hg72 (fun q => key g hg72 (bm_mx_a hg hij hb q)) (fun q => key (w i) (hw i hij).2 (bm_mx_b hg hij hb (by omega)))
theorem xs_settle {post : SX → Prop} {j : Nat} (hj : j < 24) {w : Nat → Nat} (hw : ∀ i, i < j → wX i = nI (w i) ∧ w i ≤ 72) (hd : ∀ i, i < j → ∃ q : Nat, q < 8 ∧ d i = nI q)
    (hp : ∀ m, bm_mx (bm_hg op d a b j) w j m → post (f, R, M, op, d, a, b, upd wX j (nI (bm_tm (op j) + m)), upd lX j (nI (bm_cn (bm_hg op d a b j) j)))) :
    wpX_settleWeightAndLinks post (f, R, M, op, d, a, b, wX, lX) (nI j) := by
  have h := xs_7 (f := f) (R := R) (M := M) (a := a) (b := b) (lX := lX) hj hw hd hp 8 0 0 rfl (by omega) (bm_mx_n fun i _ => bm_hr_0)
  rw [bm_cn_n j fun i _ => bm_hr_0] at h
  exact ⟨9, h⟩
end BMX
