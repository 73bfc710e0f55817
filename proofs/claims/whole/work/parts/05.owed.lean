/-! the relation, and what is owed -/
/-- what holds of the instructions and of X's weights and links, below c -/
def bm_st (op d a b wX lX : Nat → Int32) (w : Nat → Nat) (c : Nat) : Prop :=
  ∀ j, j < c → bm_ok op d a b j ∧ (∃ m, bm_mx (bm_hg op d a b j) w j m ∧ w j = bm_tm (op j) + m) ∧ wX j = nI (w j) ∧ w j ≤ 3 * (j + 1) ∧ lX j = nI (bm_cn (bm_hg op d a b j) j)
/-- both hold one program, one row of registers, one memory; X's weights and links are settled below its count; Y's weights are free -/
def i_Rel (_ : Nat) (u : SX) (v : SY) : Prop :=
  ∃ (c : Nat) (R M op d a b wX lX wY : Nat → Int32) (w : Nat → Nat), u = (nI c, R, M, op, d, a, b, wX, lX) ∧ v = (nI c, op, d, a, b, R, M, wY) ∧ c ≤ 24 ∧ bm_st op d a b wX lX w c
theorem bm_st_m {op d a b wX lX : Nat → Int32} {w : Nat → Nat} {c c' : Nat} (h : bm_st op d a b wX lX w c) (hc : c' ≤ c) : bm_st op d a b wX lX w c' := fun j hj => h j (by omega)
theorem bm_st_w {op d a b wX lX : Nat → Int32} {w : Nat → Nat} {c : Nat} (h : bm_st op d a b wX lX w c) (hc : c ≤ 24) : ∀ i, i < c → wX i = nI (w i) ∧ w i ≤ 72 := by
  intro i hi
  obtain ⟨_, _, h3, h4, _⟩ := h i hi
  exact ⟨h3, by omega⟩
theorem bm_st_y {op d a b wX lX : Nat → Int32} {w : Nat → Nat} {c : Nat} (h : bm_st op d a b wX lX w c) (hc : c ≤ 24) : ∀ j, j < c → (∃ m, bm_mx (bm_hg op d a b j) w j m ∧ w j = bm_tm (op j) + m) ∧ w j ≤ 72 := by
  intro i hi
  obtain ⟨_, h2, _, h4, _⟩ := h i hi
  exact ⟨h2, by omega⟩
def bm_vi (x0 x1 x2 x3 : Int32) : Prop := ¬ x0 < 0 ∧ ¬ 8 < x0 ∧ bm_rg x1 ∧ bm_rg x2 ∧ (x0 ≤ 5 → bm_rg x3)
theorem bm_st_s {op d a b wX lX : Nat → Int32} {w : Nat → Nat} {c m : Nat} {x0 x1 x2 x3 : Int32} (hs : bm_st op d a b wX lX w c) (hv : bm_vi x0 x1 x2 x3)
    (hm : bm_mx (bm_hg (upd op c x0) (upd d c x1) (upd a c x2) (upd b c x3) c) w c m) :
    bm_st (upd op c x0) (upd d c x1) (upd a c x2) (upd b c x3) (upd wX c (nI (bm_tm (upd op c x0 c) + m))) (upd lX c (nI (bm_cn (bm_hg (upd op c x0) (upd d c x1) (upd a c x2) (upd b c x3) c) c))) (fun i => if i = c then bm_tm x0 + m else w i) (c + 1) := by
  intro j hj
  by_cases hjc : j = c
  · subst hjc
    obtain ⟨v0, v8, v1, v2, v3⟩ := hv
    have hle := bm_mx_le hm fun i hi => (hs i hi).2.2.2.1
    have h3 := bm_tm_3 x0
    have e : (if j = j then bm_tm x0 + m else w j) = bm_tm x0 + m := if_pos rfl
    refine ⟨⟨?_, ?_, ?_, ?_⟩, ⟨m, bm_mx_c (fun i hi => Iff.rfl) (fun i hi => (if_neg (by omega)).symm) hm, ?_⟩, ?_, ?_, ?_⟩
    · rw [pk_us]
      exact nI_of2 (M := 8) (by decide) v0 (Int32.not_lt.mp v8)
    · rw [pk_us]; exact v1
    · rw [pk_us]; exact v2
    · rw [pk_us, pk_us]; exact v3
    · rw [pk_us]; exact e
    · rw [pk_us, pk_us]; exact congrArg nI e.symm
    · show (if j = j then bm_tm x0 + m else w j) ≤ 3 * (j + 1)
      rw [e]
      omega
    · rw [pk_us]
  · have hjc' : j < c := by omega
    obtain ⟨⟨k1, k2, k3, k4⟩, ⟨m', hm', ew⟩, k5, k6, k7⟩ := hs j hjc'
    have g1 : ∀ i, i ≤ j → upd op c x0 i = op i := fun i hi => pk_un (by omega)
    have g2 : ∀ i, i ≤ j → upd d c x1 i = d i := fun i hi => pk_un (by omega)
    have g3 : ∀ i, i ≤ j → upd a c x2 i = a i := fun i hi => pk_un (by omega)
    have g4 : ∀ i, i ≤ j → upd b c x3 i = b i := fun i hi => pk_un (by omega)
    have e := bm_hg_c g1 g2 g3 g4
    have ej : (if j = c then bm_tm x0 + m else w j) = w j := if_neg hjc
    have jj := Nat.le_refl j
    refine ⟨⟨?_, ?_, ?_, ?_⟩, ⟨m', bm_mx_c e (fun i hi => (if_neg (by omega)).symm) hm', ?_⟩, ?_, ?_, ?_⟩
    · rw [g1 j jj]; exact k1
    · rw [g2 j jj]; exact k2
    · rw [g3 j jj]; exact k3
    · rw [g1 j jj, g4 j jj]; exact k4
    · rw [g1 j jj]; exact ej.trans ew
    · rw [pk_un hjc]; exact k5.trans (congrArg nI ej.symm)
    · show (if j = c then bm_tm x0 + m else w j) ≤ 3 * (j + 1)
      rw [ej]
      exact k6
    · rw [pk_un hjc, k7, bm_cn_c j e]
/-! registers and cells -/
theorem bm_rg_n {x : Int32} (h : x < 0) : ¬ bm_rg x := fun g => by
  obtain ⟨q, hq, rfl⟩ := g
  exact nI_pos (by omega) h
theorem bm_rg_8 {x : Int32} (h : nI 8 ≤ x) : ¬ bm_rg x := fun g => by
  obtain ⟨q, hq, rfl⟩ := g
  exact nI_ge hq (by decide) h
theorem bm_ge0 {x : Int32} {n : Nat} (hn : n < 2 ^ 31) (h : nI n ≤ x) : ¬ x < 0 := fun g => nI_pos hn (Int32.lt_of_le_of_lt h g)
theorem xe_ir {post : Int32 → Prop} {x : Int32} (h1 : bm_rg x → post 1) (h0 : ¬ bm_rg x → post 0) : wpX_isRegister post x := by
  rcases pk_ix x (n := 8) (by decide) with h | h | ⟨q, hq, rfl⟩
  · exact br_t h (h0 (bm_rg_n h))
  · exact br_f (bm_ge0 (by decide) h) (br_t h (h0 (bm_rg_8 h)))
  · exact br_f (nI_pos (by omega)) (br_f (nI_ge (b := 8) hq (by decide)) (h1 ⟨q, hq, rfl⟩))
theorem ye_ir {f : Int32} {R M op d a b wY : Nat → Int32} {post : Int32 → Prop} {x : Int32} (h1 : bm_rg x → post 1) (h0 : ¬ bm_rg x → post 0) : wpY_isRegister post (f, op, d, a, b, R, M, wY) x := by
  rcases pk_ix x (n := 8) (by decide) with h | h | ⟨q, hq, rfl⟩
  · exact br_t h (h0 (bm_rg_n h))
  · have h7 : (7 : Int32) < x := Int32.lt_of_lt_of_le (show (7 : Int32) < nI 8 by decide) h
    exact br_f (bm_ge0 (by decide) h) (br_t h7 (h0 (bm_rg_8 h)))
  · exact br_f (nI_pos (by omega)) (br_f (nI_nlt (a := 7) (by omega) (by decide)) (h1 ⟨q, hq, rfl⟩))
theorem xe_ii {post : Int32 → Prop} {x0 x1 x2 x3 : Int32} (h1 : bm_vi x0 x1 x2 x3 → post 1) (h0 : ¬ bm_vi x0 x1 x2 x3 → post 0) : wpX_isInstruction post x0 x1 x2 x3 :=
  br_c (fun h => h0 fun v => v.1 h) fun hn => br_c (fun h => h0 fun v => v.2.1 h) fun h8 =>
    xe_ir (fun g1 => br_f bm_10 (xe_ir (fun g2 => br_f bm_10 (xr_nb (fun h5 => br_f bm_10 (xe_ir (fun g3 => br_f bm_10 (h1 ⟨hn, h8, g1, g2, fun _ => g3⟩)) fun g3 => br_t rfl (h0 fun v => g3 (v.2.2.2.2 h5)))) fun h5 => br_t rfl (h1 ⟨hn, h8, g1, g2, fun h => absurd h h5⟩)))
      fun g2 => br_t rfl (h0 fun v => g2 v.2.2.2.1))) fun g1 => br_t rfl (h0 fun v => g1 v.2.2.1)
theorem ye_emit {f : Int32} {R M op d a b wY : Nat → Int32} {post : Int32 → SY → Prop} {x0 x1 x2 x3 : Int32} (hf : ¬ f = 24) (h1 : bm_vi x0 x1 x2 x3 → wY_emit_54 post x0 x1 x2 x3 f op d a b R M wY) (h0 : ¬ bm_vi x0 x1 x2 x3 → post (-1) (f, op, d, a, b, R, M, wY)) :
    wpY_emit post (f, op, d, a, b, R, M, wY) x0 x1 x2 x3 :=
  br_f hf (br_c (fun h => h0 fun v => v.1 h) fun hn => br_c (fun h => h0 fun v => v.2.1 h) fun h8 =>
    ye_ir (fun g1 => br_f bm_10 (ye_ir (fun g2 => br_f bm_10 (br_c (fun h5 => h1 ⟨hn, h8, g1, g2, fun h => absurd h (Int32.not_le.mpr h5)⟩) fun h5 => ye_ir (fun g3 => br_f bm_10 (h1 ⟨hn, h8, g1, g2, fun _ => g3⟩)) fun g3 => br_t rfl (h0 fun v => g3 (v.2.2.2.2 (Int32.not_lt.mp h5)))))
      fun g2 => br_t rfl (h0 fun v => g2 v.2.2.2.1))) fun g1 => br_t rfl (h0 fun v => g1 v.2.2.1))
theorem ye_54 {R M op d a b wY : Nat → Int32} {post : Int32 → SY → Prop} {x0 x1 x2 x3 : Int32} {c : Nat} (hc : c < 24) (h : post (nI (c + 1)) (nI (c + 1), upd op c x0, upd d c x1, upd a c x2, upd b c x3, R, M, wY)) :
    wY_emit_54 post x0 x1 x2 x3 (nI c) op d a b R M wY := by
  have hi := bm_in hc
  unfold wY_emit_54
  rw [bm_cl hc]
  exact ⟨hi, nm_e ⟨hi, nm_e ⟨hi, nm_e ⟨hi, nm_e (nm_r (nI_1 c) h)⟩⟩⟩⟩
/-! owed -/
theorem i_up {k : Nat} {u : SX} {v : SY} (h : i_Rel k u v) : i_Rel (k + 5) u v := h
theorem i_vc0 : wpX_init (fun u => wpY_init (fun v => i_Rel 0 u v)) :=
  ⟨0, fun _ => 0, fun _ => 0, fun _ => 0, fun _ => 0, fun _ => 0, fun _ => 0, fun _ => 0, fun _ => 0, fun _ => 0, fun _ => 0, rfl, rfl, by omega, fun j hj => absurd hj (Nat.not_lt_zero j)⟩
theorem i_vc_emit {k : Nat} {u : SX} {v : SY} (I : i_Rel k u v) (hk : k + 5 ≤ 2560) (v1 : Int32) (v2 : Int32) (v3 : Int32) (v4 : Int32) : wpX_emit (fun r u' => wpY_emit (fun r' v' => r' = r ∧ i_Rel (k + 5) u' v') v v1 v2 v3 v4) u v1 v2 v3 v4 := by
  obtain ⟨c, R, M, op, d, a, b, wX, lX, wY, w, rfl, rfl, hc, hs⟩ := I
  have J : i_Rel (k + 5) (nI c, R, M, op, d, a, b, wX, lX) (nI c, op, d, a, b, R, M, wY) := ⟨c, R, M, op, d, a, b, wX, lX, wY, w, rfl, rfl, hc, hs⟩
  by_cases h24 : c < 24
  · have hi := bm_in h24
    have hlt : nI c < 24 := nI_lt (b := 24) h24 (by decide)
    have hne : ¬ nI c = 24 := fun e => absurd ((nI_eq (b := 24) (by omega) (by decide)).mp e) (by omega)
    refine br_t hlt (xe_ii (fun hv => br_f bm_10 ?_) (fun hv => br_t rfl ?_))
    · refine ⟨hi, fun o eo => ⟨hi, fun p ep => ⟨hi, fun q eq => ⟨hi, fun r er => ?_⟩⟩⟩⟩
      rw [bm_cl h24] at eo ep eq er
      subst eo ep eq er
      have hd : ∀ i, i < c → ∃ q : Nat, q < 8 ∧ upd d c v2 i = nI q := fun i hi => by
        rw [pk_un (by omega)]
        exact (hs i hi).1.2.1
      refine xs_settle h24 (bm_st_w hs hc) hd fun m hm => ?_
      refine nm_r (nI_1 c) ?_
      refine ye_emit hne (fun _ => ye_54 h24 ?_) fun hn => absurd hv hn
      exact ⟨rfl, c + 1, R, M, _, _, _, _, _, _, wY, _, rfl, rfl, by omega, bm_st_s hs hv hm⟩
    · exact ye_emit hne (fun hv' => absurd hv' hv) fun _ => ⟨rfl, J⟩
  · obtain rfl : c = 24 := by omega
    have hn : ¬ nI 24 < 24 := by decide
    have he : nI 24 = 24 := by decide
    exact br_f hn (br_t he ⟨rfl, J⟩)
theorem i_vc_retract {k : Nat} {u : SX} {v : SY} (I : i_Rel k u v) (hk : k + 5 ≤ 2560) : wpX_retract (fun r u' => wpY_retract (fun r' v' => r' = r ∧ i_Rel (k + 5) u' v') v) u := by
  obtain ⟨c, R, M, op, d, a, b, wX, lX, wY, w, rfl, rfl, hc, hs⟩ := I
  have J : i_Rel (k + 5) (nI c, R, M, op, d, a, b, wX, lX) (nI c, op, d, a, b, R, M, wY) := ⟨c, R, M, op, d, a, b, wX, lX, wY, w, rfl, rfl, hc, hs⟩
  cases c with
  | zero => exact br_t rfl (br_t rfl ⟨rfl, J⟩)
  | succ c =>
    have hn : ¬ nI (c + 1) = 0 := nI_ne0 (by omega) (by omega)
    exact br_f hn (nm_r (nI_pred c) (br_f hn (nm_r (nI_pred c) ⟨rfl, c, R, M, op, d, a, b, wX, lX, wY, w, rfl, rfl, by omega, bm_st_m hs (by omega)⟩)))
theorem i_vc_drop {k : Nat} {u : SX} {v : SY} (I : i_Rel k u v) (hk : k + 5 ≤ 2560) : wpX_drop (fun r u' => wpY_drop (fun r' v' => r' = r ∧ i_Rel (k + 5) u' v') v) u := by
  obtain ⟨c, R, M, op, d, a, b, wX, lX, wY, w, rfl, rfl, hc, hs⟩ := I
  exact ⟨rfl, 0, R, M, op, d, a, b, wX, lX, wY, w, rfl, rfl, by omega, bm_st_m hs (Nat.zero_le c)⟩
theorem i_vc_run {k : Nat} {u : SX} {v : SY} (I : i_Rel k u v) (hk : k + 5 ≤ 2560) : wpX_run (fun r u' => wpY_run (fun r' v' => r' = r ∧ i_Rel (k + 5) u' v') v) u := by
  obtain ⟨c, R, M, op, d, a, b, wX, lX, wY, w, rfl, rfl, hc, hs⟩ := I
  obtain ⟨R', M', hX, hY⟩ := bm_run hc (fun i hi => (hs i hi).1) c 0 R M (by omega)
  exact ⟨c + 1, hX _ wX lX ⟨c + 1, hY _ wY ⟨rfl, c, R', M', op, d, a, b, wX, lX, wY, w, rfl, rfl, hc, hs⟩⟩⟩
theorem i_vc_register {k : Nat} {u : SX} {v : SY} (I : i_Rel k u v) (hk : k + 5 ≤ 2560) (v1 : Int32) : wpX_register (fun r => wpY_register (fun r' => r' = r ∧ i_Rel (k + 5) u v) v v1) u v1 := by
  obtain ⟨c, R, M, op, d, a, b, wX, lX, wY, w, rfl, rfl, hc, hs⟩ := I
  have J : i_Rel (k + 5) (nI c, R, M, op, d, a, b, wX, lX) (nI c, op, d, a, b, R, M, wY) := ⟨c, R, M, op, d, a, b, wX, lX, wY, w, rfl, rfl, hc, hs⟩
  unfold wpX_register wpY_register
  dsimp only
  refine xe_ir (fun g => br_f bm_10 ?_) (fun g => br_t rfl ?_)
  · have hv : vp_in v1 8 := by
      obtain ⟨q, hq, rfl⟩ := g
      exact vp_in_nI hq (by decide)
    exact ⟨hv, ye_ir (fun _ => br_f bm_10 ⟨hv, rfl, J⟩) fun n => absurd g n⟩
  · exact ye_ir (fun g' => absurd g' g) fun _ => br_t rfl ⟨rfl, J⟩
theorem i_vc_setRegister {k : Nat} {u : SX} {v : SY} (I : i_Rel k u v) (hk : k + 5 ≤ 2560) (v1 : Int32) (v2 : Int32) : wpX_setRegister (fun r u' => wpY_setRegister (fun r' v' => r' = r ∧ i_Rel (k + 5) u' v') v v1 v2) u v1 v2 := by
  obtain ⟨c, R, M, op, d, a, b, wX, lX, wY, w, rfl, rfl, hc, hs⟩ := I
  have J : ∀ R' : Nat → Int32, i_Rel (k + 5) (nI c, R', M, op, d, a, b, wX, lX) (nI c, op, d, a, b, R', M, wY) := fun R' => ⟨c, R', M, op, d, a, b, wX, lX, wY, w, rfl, rfl, hc, hs⟩
  unfold wpX_setRegister wpY_setRegister
  dsimp only
  refine xe_ir (fun g => br_f bm_10 ?_) (fun g => br_t rfl ?_)
  · have hv : vp_in v1 8 := by
      obtain ⟨q, hq, rfl⟩ := g
      exact vp_in_nI hq (by decide)
    exact ⟨hv, nm_e (ye_ir (fun _ => br_f bm_10 ⟨hv, nm_e ⟨rfl, J _⟩⟩) fun n => absurd g n)⟩
  · exact ye_ir (fun g' => absurd g' g) fun _ => br_t rfl ⟨rfl, J R⟩
theorem i_vc_memory {k : Nat} {u : SX} {v : SY} (I : i_Rel k u v) (hk : k + 5 ≤ 2560) (v1 : Int32) : wpX_memory (fun r => wpY_memory (fun r' => r' = r ∧ i_Rel (k + 5) u v) v v1) u v1 := by
  obtain ⟨c, R, M, op, d, a, b, wX, lX, wY, w, rfl, rfl, hc, hs⟩ := I
  have J : i_Rel (k + 5) (nI c, R, M, op, d, a, b, wX, lX) (nI c, op, d, a, b, R, M, wY) := ⟨c, R, M, op, d, a, b, wX, lX, wY, w, rfl, rfl, hc, hs⟩
  unfold wpX_memory wpY_memory wpX_isCell
  dsimp only
  rcases pk_ix v1 (n := 16) (by decide) with h | h | ⟨q, hq, rfl⟩
  · exact br_t h (br_t rfl (br_t h ⟨rfl, J⟩))
  · have h0 := bm_ge0 (by decide) h
    have h15 : (15 : Int32) < v1 := Int32.lt_of_lt_of_le (show (15 : Int32) < nI 16 by decide) h
    exact br_f h0 (br_t h (br_t rfl (br_f h0 (br_t h15 ⟨rfl, J⟩))))
  · have h0 : ¬ nI q < 0 := nI_pos (by omega)
    have h16 : ¬ (16 : Int32) ≤ nI q := nI_ge (b := 16) hq (by decide)
    have h15 : ¬ (15 : Int32) < nI q := nI_nlt (a := 15) (by omega) (by decide)
    have hv : vp_in (nI q) 16 := vp_in_nI hq (by decide)
    exact br_f h0 (br_f h16 (br_f bm_10 ⟨hv, br_f h0 (br_f h15 ⟨hv, rfl, J⟩)⟩))
theorem i_vc_setMemory {k : Nat} {u : SX} {v : SY} (I : i_Rel k u v) (hk : k + 5 ≤ 2560) (v1 : Int32) (v2 : Int32) : wpX_setMemory (fun r u' => wpY_setMemory (fun r' v' => r' = r ∧ i_Rel (k + 5) u' v') v v1 v2) u v1 v2 := by
  obtain ⟨c, R, M, op, d, a, b, wX, lX, wY, w, rfl, rfl, hc, hs⟩ := I
  have J : ∀ M' : Nat → Int32, i_Rel (k + 5) (nI c, R, M', op, d, a, b, wX, lX) (nI c, op, d, a, b, R, M', wY) := fun M' => ⟨c, R, M', op, d, a, b, wX, lX, wY, w, rfl, rfl, hc, hs⟩
  unfold wpX_setMemory wpY_setMemory wpX_isCell
  dsimp only
  rcases pk_ix v1 (n := 16) (by decide) with h | h | ⟨q, hq, rfl⟩
  · exact br_t h (br_t rfl (br_t h ⟨rfl, J M⟩))
  · have h0 := bm_ge0 (by decide) h
    have h15 : ¬ v1 ≤ (15 : Int32) := Int32.not_le.mpr (Int32.lt_of_lt_of_le (show (15 : Int32) < nI 16 by decide) h)
    exact br_f h0 (br_t h (br_t rfl (br_f h0 (br_f h15 ⟨rfl, J M⟩))))
  · have h0 : ¬ nI q < 0 := nI_pos (by omega)
    have h16 : ¬ (16 : Int32) ≤ nI q := nI_ge (b := 16) hq (by decide)
    have h15 : nI q ≤ (15 : Int32) := nI_le (b := 15) (by omega) (by decide)
    have hv : vp_in (nI q) 16 := vp_in_nI hq (by decide)
    exact br_f h0 (br_f h16 (br_f bm_10 ⟨hv, nm_e (br_f h0 (br_t h15 ⟨hv, nm_e ⟨rfl, J _⟩⟩))⟩))
theorem i_vc_weight {k : Nat} {u : SX} {v : SY} (I : i_Rel k u v) (hk : k + 5 ≤ 2560) (v1 : Int32) : wpX_weight (fun r => wpY_weight (fun r' v' => r' = r ∧ i_Rel (k + 5) u v') v v1) u v1 := by
  obtain ⟨c, R, M, op, d, a, b, wX, lX, wY, w, rfl, rfl, hc, hs⟩ := I
  have J : ∀ wY' : Nat → Int32, i_Rel (k + 5) (nI c, R, M, op, d, a, b, wX, lX) (nI c, op, d, a, b, R, M, wY') := fun wY' => ⟨c, R, M, op, d, a, b, wX, lX, wY', w, rfl, rfl, hc, hs⟩
  rcases pk_ix v1 (n := c) (by omega) with h | h | ⟨q, hq, rfl⟩
  · exact br_t h (br_t h ⟨rfl, J wY⟩)
  · have h0 := bm_ge0 (by omega) h
    exact br_f h0 (br_t h (br_f h0 (br_f (Int32.not_lt.mpr h) ⟨rfl, J wY⟩)))
  · have h0 : ¬ nI q < 0 := nI_pos (by omega)
    have h1 : ¬ nI c ≤ nI q := nI_ge hq (by omega)
    have h2 : nI q < nI c := nI_lt hq (by omega)
    have hv : vp_in (nI q) 24 := bm_in (by omega)
    have cq : (nI q).toNatClampNeg = q := bm_cl (by omega)
    refine br_f h0 (br_f h1 ⟨hv, br_f h0 (br_t h2 (yw_all hc (bm_st_y hs hc) fun wY' hw => ⟨hv, ?_, J wY'⟩))⟩)
    rw [cq, hw q hq, (hs q hq).2.2.1]
theorem i_vc_heaviest {k : Nat} {u : SX} {v : SY} (I : i_Rel k u v) (hk : k + 5 ≤ 2560) : wpX_heaviest (fun r => wpY_heaviest (fun r' v' => r' = r ∧ i_Rel (k + 5) u v') v) u := by
  obtain ⟨c, R, M, op, d, a, b, wX, lX, wY, w, rfl, rfl, hc, hs⟩ := I
  have J : ∀ wY' : Nat → Int32, i_Rel (k + 5) (nI c, R, M, op, d, a, b, wX, lX) (nI c, op, d, a, b, R, M, wY') := fun wY' => ⟨c, R, M, op, d, a, b, wX, lX, wY', w, rfl, rfl, hc, hs⟩
  have hw := bm_st_w hs hc
  refine ⟨c + 1, xh_4 hc hw (fun m hm => ?_) c 0 0 (by omega) (by omega) bm_mx_0⟩
  unfold wpY_heaviest
  dsimp only
  refine yw_all hc (bm_st_y hs hc) fun wY' hw' => ⟨c + 1, ?_⟩
  exact yh_8 hc (fun i hi => ⟨hw' i hi, (hw i hi).2⟩) (fun m' hm' => ⟨congrArg nI (bm_mx_u hm' hm), J wY'⟩) c 0 0 (by omega) (by omega) bm_mx_0
theorem i_vc_links {k : Nat} {u : SX} {v : SY} (I : i_Rel k u v) (hk : k + 5 ≤ 2560) : wpX_links (fun r => wpY_links (fun r' => r' = r ∧ i_Rel (k + 5) u v) v) u := by
  obtain ⟨c, R, M, op, d, a, b, wX, lX, wY, w, rfl, rfl, hc, hs⟩ := I
  have J : i_Rel (k + 5) (nI c, R, M, op, d, a, b, wX, lX) (nI c, op, d, a, b, R, M, wY) := ⟨c, R, M, op, d, a, b, wX, lX, wY, w, rfl, rfl, hc, hs⟩
  refine ⟨c + 1, xl_4 (L := fun j => bm_cn (bm_hg op d a b j) j) hc (fun i hi => (hs i hi).2.2.2.2) ?_ c 0 (by omega)⟩
  exact ⟨c + 1, yl_4 hc ⟨rfl, J⟩ c 0 (by omega)⟩
