/-! run, heaviest, links -/
section BMR
variable {f : Int32} {R M op d a b wX lX wY : Nat → Int32}
def bm_rg (x : Int32) : Prop := ∃ q : Nat, q < 8 ∧ x = nI q
def bm_ok (op d a b : Nat → Int32) (i : Nat) : Prop :=
  (∃ q : Nat, q ≤ 8 ∧ op i = nI q) ∧ bm_rg (d i) ∧ bm_rg (a i) ∧ (op i ≤ 5 → bm_rg (b i))
theorem bm_m16 (x : Int32) : vp_in (x &&& 15) 16 := pk_andIn x (m := 15) 4 (by decide) (by decide)
/-- what one instruction leaves, on both sides -/
def bm_sx (R M op d a b : Nat → Int32) (i : Nat) (R' M' : Nat → Int32) : Prop :=
  (∀ (post : SX → Prop) (f : Int32) (wX lX : Nat → Int32), post (f, R', M', op, d, a, b, wX, lX) → wpX_perform post (f, R, M, op, d, a, b, wX, lX) (nI i)) ∧
  (∀ (post : SY → Prop) (f : Int32) (wY : Nat → Int32), post (f, op, d, a, b, R', M', wY) → wpY_execute post (f, op, d, a, b, R, M, wY) (nI i))
/-! Y's execute: what follows when no later case is met -/
theorem yt_276 {post : SY → Prop} {i : Nat} {x4 : Int32} (vi : vp_in (nI i) 24) (n8 : ¬ op (nI i).toNatClampNeg = 8) (h : post (f, op, d, a, b, R, M, wY)) : wY_execute_276 post (nI i) x4 f op d a b R M wY := ⟨vi, br_f n8 h⟩
theorem yt_247 {post : SY → Prop} {i : Nat} {x4 : Int32} (vi : vp_in (nI i) 24) (n7 : ¬ op (nI i).toNatClampNeg = 7) (n8 : ¬ op (nI i).toNatClampNeg = 8) (h : post (f, op, d, a, b, R, M, wY)) : wY_execute_247 post (nI i) x4 f op d a b R M wY := ⟨vi, br_f n7 (yt_276 vi n8 h)⟩
theorem yt_217 {post : SY → Prop} {i : Nat} {x2 x4 : Int32} (vi : vp_in (nI i) 24) (n6 : ¬ op (nI i).toNatClampNeg = 6) (n7 : ¬ op (nI i).toNatClampNeg = 7) (n8 : ¬ op (nI i).toNatClampNeg = 8) (h : post (f, op, d, a, b, R, M, wY)) : wY_execute_217 post (nI i) x2 x4 f op d a b R M wY := ⟨vi, br_f n6 (yt_247 vi n7 n8 h)⟩
theorem yt_177 {post : SY → Prop} {i : Nat} {x2 x3 x4 : Int32} (vi : vp_in (nI i) 24) (n5 : ¬ op (nI i).toNatClampNeg = 5) (n6 : ¬ op (nI i).toNatClampNeg = 6) (n7 : ¬ op (nI i).toNatClampNeg = 7) (n8 : ¬ op (nI i).toNatClampNeg = 8) (h : post (f, op, d, a, b, R, M, wY)) : wY_execute_177 post (nI i) x2 x3 x4 f op d a b R M wY := ⟨vi, br_f n5 (yt_217 vi n6 n7 n8 h)⟩
theorem yt_146 {post : SY → Prop} {i : Nat} {x2 x3 x4 : Int32} (vi : vp_in (nI i) 24) (n4 : ¬ op (nI i).toNatClampNeg = 4) (n5 : ¬ op (nI i).toNatClampNeg = 5) (n6 : ¬ op (nI i).toNatClampNeg = 6) (n7 : ¬ op (nI i).toNatClampNeg = 7) (n8 : ¬ op (nI i).toNatClampNeg = 8) (h : post (f, op, d, a, b, R, M, wY)) : wY_execute_146 post (nI i) x2 x3 x4 f op d a b R M wY := ⟨vi, br_f n4 (yt_177 vi n5 n6 n7 n8 h)⟩
theorem yt_122 {post : SY → Prop} {i : Nat} {x2 x3 x4 : Int32} (vi : vp_in (nI i) 24) (n3 : ¬ op (nI i).toNatClampNeg = 3) (n4 : ¬ op (nI i).toNatClampNeg = 4) (n5 : ¬ op (nI i).toNatClampNeg = 5) (n6 : ¬ op (nI i).toNatClampNeg = 6) (n7 : ¬ op (nI i).toNatClampNeg = 7) (n8 : ¬ op (nI i).toNatClampNeg = 8) (h : post (f, op, d, a, b, R, M, wY)) : wY_execute_122 post (nI i) x2 x3 x4 f op d a b R M wY := ⟨vi, br_f n3 (yt_146 vi n4 n5 n6 n7 n8 h)⟩
theorem yt_98 {post : SY → Prop} {i : Nat} {x2 x3 x4 : Int32} (vi : vp_in (nI i) 24) (n2 : ¬ op (nI i).toNatClampNeg = 2) (n3 : ¬ op (nI i).toNatClampNeg = 3) (n4 : ¬ op (nI i).toNatClampNeg = 4) (n5 : ¬ op (nI i).toNatClampNeg = 5) (n6 : ¬ op (nI i).toNatClampNeg = 6) (n7 : ¬ op (nI i).toNatClampNeg = 7) (n8 : ¬ op (nI i).toNatClampNeg = 8) (h : post (f, op, d, a, b, R, M, wY)) : wY_execute_98 post (nI i) x2 x3 x4 f op d a b R M wY := ⟨vi, br_f n2 (yt_122 vi n3 n4 n5 n6 n7 n8 h)⟩
theorem yt_74 {post : SY → Prop} {i : Nat} {x2 x3 x4 : Int32} (vi : vp_in (nI i) 24) (n1 : ¬ op (nI i).toNatClampNeg = 1) (n2 : ¬ op (nI i).toNatClampNeg = 2) (n3 : ¬ op (nI i).toNatClampNeg = 3) (n4 : ¬ op (nI i).toNatClampNeg = 4) (n5 : ¬ op (nI i).toNatClampNeg = 5) (n6 : ¬ op (nI i).toNatClampNeg = 6) (n7 : ¬ op (nI i).toNatClampNeg = 7) (n8 : ¬ op (nI i).toNatClampNeg = 8) (h : post (f, op, d, a, b, R, M, wY)) : wY_execute_74 post (nI i) x2 x3 x4 f op d a b R M wY := ⟨vi, br_f n1 (yt_98 vi n2 n3 n4 n5 n6 n7 n8 h)⟩
theorem bm_stA {i p q s o : Nat} (hi : i < 24) (ho : o ≤ 5) (eo : op i = nI o) (hq : q < 8) (ed : d i = nI q) (hp : p < 8) (ea : a i = nI p) (hs : s < 8) (eb : b i = nI s) :
    ∃ R' M' : Nat → Int32, bm_sx R M op d a b i R' M' := by
  have vi := bm_in hi
  have ci := bm_cl hi
  have vq : vp_in (nI q) 8 := vp_in_nI hq (by decide)
  have cq : (nI q).toNatClampNeg = q := nI_clamp (by omega)
  have vp : vp_in (nI p) 8 := vp_in_nI hp (by decide)
  have cp : (nI p).toNatClampNeg = p := nI_clamp (by omega)
  have vd : vp_in (d (nI i).toNatClampNeg) 8 := by rw [ci, ed]; exact vq
  have va : vp_in (a (nI i).toNatClampNeg) 8 := by rw [ci, ea]; exact vp
  have ca : (a (nI i).toNatClampNeg).toNatClampNeg = p := by rw [ci, ea, cp]
  have cd : (d (nI i).toNatClampNeg).toNatClampNeg = q := by rw [ci, ed, cq]
  have vs : vp_in (nI s) 8 := vp_in_nI hs (by decide)
  have cs : (nI s).toNatClampNeg = s := nI_clamp (by omega)
  have vb : vp_in (b (nI i).toNatClampNeg) 8 := by rw [ci, eb]; exact vs
  have cb : (b (nI i).toNatClampNeg).toNatClampNeg = s := by rw [ci, eb, cs]
  have h5 : ¬ 5 < op (nI i).toNatClampNeg := by rw [ci, eo]; exact nI_nlt (a := 5) ho (by decide)
  have ho' : o = 0 ∨ o = 1 ∨ o = 2 ∨ o = 3 ∨ o = 4 ∨ o = 5 := by omega
  rcases ho' with rfl | rfl | rfl | rfl | rfl | rfl
  · have eo' : op i = 0 := eo
    have n1 : ¬ op (nI i).toNatClampNeg = 1 := by rw [ci, eo']; decide
    have n2 : ¬ op (nI i).toNatClampNeg = 2 := by rw [ci, eo']; decide
    have n3 : ¬ op (nI i).toNatClampNeg = 3 := by rw [ci, eo']; decide
    have n4 : ¬ op (nI i).toNatClampNeg = 4 := by rw [ci, eo']; decide
    have n5 : ¬ op (nI i).toNatClampNeg = 5 := by rw [ci, eo']; decide
    have n6 : ¬ op (nI i).toNatClampNeg = 6 := by rw [ci, eo']; decide
    have n7 : ¬ op (nI i).toNatClampNeg = 7 := by rw [ci, eo']; decide
    have n8 : ¬ op (nI i).toNatClampNeg = 8 := by rw [ci, eo']; decide
    have e0 : op (nI i).toNatClampNeg = 0 := by rw [ci, eo']
    refine ⟨upd R q (R p + R s), M, fun post f wX lX h => ?_, fun post f wY h => ?_⟩
    · simp [wpX_perform, wX_perform_54, wpX_result, wpX_namesRegisterInB, vi, ci, vq, cq, vp, cp, eo', ed, ea, bm_m16, vs, cs, eb]
      exact h
    · refine ⟨vi, va, nm_r (congrArg R ca) ⟨vi, br_f h5 ⟨vi, vb, ?_⟩⟩⟩
      rw [cb]
      refine ⟨vi, nm_e ?_⟩
      exact ⟨vi, br_t e0 ⟨vi, vd, nm_r (by rw [cd]) (yt_74 vi n1 n2 n3 n4 n5 n6 n7 n8 h)⟩⟩
  · have eo' : op i = 1 := eo
    have n0 : ¬ op (nI i).toNatClampNeg = 0 := by rw [ci, eo']; decide
    have n2 : ¬ op (nI i).toNatClampNeg = 2 := by rw [ci, eo']; decide
    have n3 : ¬ op (nI i).toNatClampNeg = 3 := by rw [ci, eo']; decide
    have n4 : ¬ op (nI i).toNatClampNeg = 4 := by rw [ci, eo']; decide
    have n5 : ¬ op (nI i).toNatClampNeg = 5 := by rw [ci, eo']; decide
    have n6 : ¬ op (nI i).toNatClampNeg = 6 := by rw [ci, eo']; decide
    have n7 : ¬ op (nI i).toNatClampNeg = 7 := by rw [ci, eo']; decide
    have n8 : ¬ op (nI i).toNatClampNeg = 8 := by rw [ci, eo']; decide
    have e1 : op (nI i).toNatClampNeg = 1 := by rw [ci, eo']
    refine ⟨upd R q (R p - R s), M, fun post f wX lX h => ?_, fun post f wY h => ?_⟩
    · simp [wpX_perform, wX_perform_54, wpX_result, wpX_namesRegisterInB, vi, ci, vq, cq, vp, cp, eo', ed, ea, bm_m16, vs, cs, eb]
      exact h
    · refine ⟨vi, va, nm_r (congrArg R ca) ⟨vi, br_f h5 ⟨vi, vb, ?_⟩⟩⟩
      rw [cb]
      refine ⟨vi, nm_e ?_⟩
      exact ⟨vi, br_f n0 ⟨vi, br_t e1 ⟨vi, vd, nm_r (by rw [cd]) (yt_98 vi n2 n3 n4 n5 n6 n7 n8 h)⟩⟩⟩
  · have eo' : op i = 2 := eo
    have n0 : ¬ op (nI i).toNatClampNeg = 0 := by rw [ci, eo']; decide
    have n1 : ¬ op (nI i).toNatClampNeg = 1 := by rw [ci, eo']; decide
    have n3 : ¬ op (nI i).toNatClampNeg = 3 := by rw [ci, eo']; decide
    have n4 : ¬ op (nI i).toNatClampNeg = 4 := by rw [ci, eo']; decide
    have n5 : ¬ op (nI i).toNatClampNeg = 5 := by rw [ci, eo']; decide
    have n6 : ¬ op (nI i).toNatClampNeg = 6 := by rw [ci, eo']; decide
    have n7 : ¬ op (nI i).toNatClampNeg = 7 := by rw [ci, eo']; decide
    have n8 : ¬ op (nI i).toNatClampNeg = 8 := by rw [ci, eo']; decide
    have e2 : op (nI i).toNatClampNeg = 2 := by rw [ci, eo']
    refine ⟨upd R q (R p * R s), M, fun post f wX lX h => ?_, fun post f wY h => ?_⟩
    · simp [wpX_perform, wX_perform_54, wpX_result, wpX_namesRegisterInB, vi, ci, vq, cq, vp, cp, eo', ed, ea, bm_m16, vs, cs, eb]
      exact h
    · refine ⟨vi, va, nm_r (congrArg R ca) ⟨vi, br_f h5 ⟨vi, vb, ?_⟩⟩⟩
      rw [cb]
      refine ⟨vi, nm_e ?_⟩
      exact ⟨vi, br_f n0 ⟨vi, br_f n1 ⟨vi, br_t e2 ⟨vi, vd, nm_r (by rw [cd]) (yt_122 vi n3 n4 n5 n6 n7 n8 h)⟩⟩⟩⟩
  · have eo' : op i = 3 := eo
    have n0 : ¬ op (nI i).toNatClampNeg = 0 := by rw [ci, eo']; decide
    have n1 : ¬ op (nI i).toNatClampNeg = 1 := by rw [ci, eo']; decide
    have n2 : ¬ op (nI i).toNatClampNeg = 2 := by rw [ci, eo']; decide
    have n4 : ¬ op (nI i).toNatClampNeg = 4 := by rw [ci, eo']; decide
    have n5 : ¬ op (nI i).toNatClampNeg = 5 := by rw [ci, eo']; decide
    have n6 : ¬ op (nI i).toNatClampNeg = 6 := by rw [ci, eo']; decide
    have n7 : ¬ op (nI i).toNatClampNeg = 7 := by rw [ci, eo']; decide
    have n8 : ¬ op (nI i).toNatClampNeg = 8 := by rw [ci, eo']; decide
    have e3 : op (nI i).toNatClampNeg = 3 := by rw [ci, eo']
    refine ⟨upd R q (R p ^^^ R s), M, fun post f wX lX h => ?_, fun post f wY h => ?_⟩
    · simp [wpX_perform, wX_perform_54, wpX_result, wpX_namesRegisterInB, vi, ci, vq, cq, vp, cp, eo', ed, ea, bm_m16, vs, cs, eb]
      exact h
    · refine ⟨vi, va, nm_r (congrArg R ca) ⟨vi, br_f h5 ⟨vi, vb, ?_⟩⟩⟩
      rw [cb]
      refine ⟨vi, nm_e ?_⟩
      exact ⟨vi, br_f n0 ⟨vi, br_f n1 ⟨vi, br_f n2 ⟨vi, br_t e3 ⟨vi, vd, nm_r (by rw [cd]) (yt_146 vi n4 n5 n6 n7 n8 h)⟩⟩⟩⟩⟩
  · have eo' : op i = 4 := eo
    have n0 : ¬ op (nI i).toNatClampNeg = 0 := by rw [ci, eo']; decide
    have n1 : ¬ op (nI i).toNatClampNeg = 1 := by rw [ci, eo']; decide
    have n2 : ¬ op (nI i).toNatClampNeg = 2 := by rw [ci, eo']; decide
    have n3 : ¬ op (nI i).toNatClampNeg = 3 := by rw [ci, eo']; decide
    have n5 : ¬ op (nI i).toNatClampNeg = 5 := by rw [ci, eo']; decide
    have n6 : ¬ op (nI i).toNatClampNeg = 6 := by rw [ci, eo']; decide
    have n7 : ¬ op (nI i).toNatClampNeg = 7 := by rw [ci, eo']; decide
    have n8 : ¬ op (nI i).toNatClampNeg = 8 := by rw [ci, eo']; decide
    have e4 : op (nI i).toNatClampNeg = 4 := by rw [ci, eo']
    by_cases hl : R s ≤ R p
    · have hl1 : (R s ≤ R p) = True := eq_true hl
      have hl2 : (R p < R s) = False := eq_false (Int32.not_lt.mpr hl)
      refine ⟨upd R q 0, M, fun post f wX lX h => ?_, fun post f wY h => ?_⟩
      · simp [wpX_perform, wX_perform_54, wpX_result, wpX_namesRegisterInB, vi, ci, vq, cq, vp, cp, eo', ed, ea, bm_m16, vs, cs, eb, hl1, hl2]
        exact h
      · refine ⟨vi, va, nm_r (congrArg R ca) ⟨vi, br_f h5 ⟨vi, vb, ?_⟩⟩⟩
        rw [cb]
        refine ⟨vi, nm_e ?_⟩
        exact ⟨vi, br_f n0 ⟨vi, br_f n1 ⟨vi, br_f n2 ⟨vi, br_f n3 ⟨vi, br_t e4 ⟨vi, br_t hl ⟨vd, nm_r (by rw [cd]) (yt_177 vi n5 n6 n7 n8 h)⟩⟩⟩⟩⟩⟩⟩
    · have hl1 : (R s ≤ R p) = False := eq_false hl
      have hl2 : (R p < R s) = True := eq_true (Int32.not_le.mp hl)
      refine ⟨upd R q 1, M, fun post f wX lX h => ?_, fun post f wY h => ?_⟩
      · simp [wpX_perform, wX_perform_54, wpX_result, wpX_namesRegisterInB, vi, ci, vq, cq, vp, cp, eo', ed, ea, bm_m16, vs, cs, eb, hl1, hl2]
        exact h
      · refine ⟨vi, va, nm_r (congrArg R ca) ⟨vi, br_f h5 ⟨vi, vb, ?_⟩⟩⟩
        rw [cb]
        refine ⟨vi, nm_e ?_⟩
        exact ⟨vi, br_f n0 ⟨vi, br_f n1 ⟨vi, br_f n2 ⟨vi, br_f n3 ⟨vi, br_t e4 ⟨vi, br_f hl ⟨vd, nm_r (by rw [cd]) (yt_177 vi n5 n6 n7 n8 h)⟩⟩⟩⟩⟩⟩⟩
  · have eo' : op i = 5 := eo
    have n0 : ¬ op (nI i).toNatClampNeg = 0 := by rw [ci, eo']; decide
    have n1 : ¬ op (nI i).toNatClampNeg = 1 := by rw [ci, eo']; decide
    have n2 : ¬ op (nI i).toNatClampNeg = 2 := by rw [ci, eo']; decide
    have n3 : ¬ op (nI i).toNatClampNeg = 3 := by rw [ci, eo']; decide
    have n4 : ¬ op (nI i).toNatClampNeg = 4 := by rw [ci, eo']; decide
    have n6 : ¬ op (nI i).toNatClampNeg = 6 := by rw [ci, eo']; decide
    have n7 : ¬ op (nI i).toNatClampNeg = 7 := by rw [ci, eo']; decide
    have n8 : ¬ op (nI i).toNatClampNeg = 8 := by rw [ci, eo']; decide
    have e5 : op (nI i).toNatClampNeg = 5 := by rw [ci, eo']
    by_cases hl : R q = 0
    · have hl2 : R (d (nI i).toNatClampNeg).toNatClampNeg = 0 := by rw [cd]; exact hl
      refine ⟨upd R q (R s), M, fun post f wX lX h => ?_, fun post f wY h => ?_⟩
      · simp [wpX_perform, wX_perform_54, wpX_result, wpX_namesRegisterInB, vi, ci, vq, cq, vp, cp, eo', ed, ea, bm_m16, vs, cs, eb, hl]
        exact h
      · refine ⟨vi, va, nm_r (congrArg R ca) ⟨vi, br_f h5 ⟨vi, vb, ?_⟩⟩⟩
        rw [cb]
        refine ⟨vi, nm_e ?_⟩
        exact ⟨vi, br_f n0 ⟨vi, br_f n1 ⟨vi, br_f n2 ⟨vi, br_f n3 ⟨vi, br_f n4 ⟨vi, br_t e5 ⟨vi, vi, vd, br_t hl2 ⟨vd, nm_r (by rw [cd]) (yt_217 vi n6 n7 n8 h)⟩⟩⟩⟩⟩⟩⟩⟩
    · have hl2 : ¬ R (d (nI i).toNatClampNeg).toNatClampNeg = 0 := by rw [cd]; exact hl
      refine ⟨upd R q (R p), M, fun post f wX lX h => ?_, fun post f wY h => ?_⟩
      · simp [wpX_perform, wX_perform_54, wpX_result, wpX_namesRegisterInB, vi, ci, vq, cq, vp, cp, eo', ed, ea, bm_m16, vs, cs, eb, hl]
        exact h
      · refine ⟨vi, va, nm_r (congrArg R ca) ⟨vi, br_f h5 ⟨vi, vb, ?_⟩⟩⟩
        rw [cb]
        refine ⟨vi, nm_e ?_⟩
        exact ⟨vi, br_f n0 ⟨vi, br_f n1 ⟨vi, br_f n2 ⟨vi, br_f n3 ⟨vi, br_f n4 ⟨vi, br_t e5 ⟨vi, vi, vd, br_f hl2 ⟨vd, nm_r (by rw [cd]) (yt_217 vi n6 n7 n8 h)⟩⟩⟩⟩⟩⟩⟩⟩
theorem bm_stB {i p q o : Nat} (hi : i < 24) (ho : 6 ≤ o ∧ o ≤ 8) (eo : op i = nI o) (hq : q < 8) (ed : d i = nI q) (hp : p < 8) (ea : a i = nI p) :
    ∃ R' M' : Nat → Int32, bm_sx R M op d a b i R' M' := by
  have vi := bm_in hi
  have ci := bm_cl hi
  have vq : vp_in (nI q) 8 := vp_in_nI hq (by decide)
  have cq : (nI q).toNatClampNeg = q := nI_clamp (by omega)
  have vp : vp_in (nI p) 8 := vp_in_nI hp (by decide)
  have cp : (nI p).toNatClampNeg = p := nI_clamp (by omega)
  have vd : vp_in (d (nI i).toNatClampNeg) 8 := by rw [ci, ed]; exact vq
  have va : vp_in (a (nI i).toNatClampNeg) 8 := by rw [ci, ea]; exact vp
  have ca : (a (nI i).toNatClampNeg).toNatClampNeg = p := by rw [ci, ea, cp]
  have cd : (d (nI i).toNatClampNeg).toNatClampNeg = q := by rw [ci, ed, cq]
  have h5 : 5 < op (nI i).toNatClampNeg := by rw [ci, eo]; exact nI_lt (a := 5) (by omega) (by omega)
  have cb : b (nI i).toNatClampNeg = b i := by rw [ci]
  have ho' : o = 6 ∨ o = 7 ∨ o = 8 := by omega
  rcases ho' with rfl | rfl | rfl
  · have eo' : op i = 6 := eo
    have n0 : ¬ op (nI i).toNatClampNeg = 0 := by rw [ci, eo']; decide
    have n1 : ¬ op (nI i).toNatClampNeg = 1 := by rw [ci, eo']; decide
    have n2 : ¬ op (nI i).toNatClampNeg = 2 := by rw [ci, eo']; decide
    have n3 : ¬ op (nI i).toNatClampNeg = 3 := by rw [ci, eo']; decide
    have n4 : ¬ op (nI i).toNatClampNeg = 4 := by rw [ci, eo']; decide
    have n5 : ¬ op (nI i).toNatClampNeg = 5 := by rw [ci, eo']; decide
    have n7 : ¬ op (nI i).toNatClampNeg = 7 := by rw [ci, eo']; decide
    have n8 : ¬ op (nI i).toNatClampNeg = 8 := by rw [ci, eo']; decide
    have e6 : op (nI i).toNatClampNeg = 6 := by rw [ci, eo']
    refine ⟨upd R q (R p + b i), M, fun post f wX lX h => ?_, fun post f wY h => ?_⟩
    · simp [wpX_perform, wX_perform_54, wpX_result, wpX_namesRegisterInB, vi, ci, vq, cq, vp, cp, eo', ed, ea, bm_m16]
      exact h
    · refine ⟨vi, va, nm_r (congrArg R ca) ⟨vi, br_t h5 ?_⟩⟩
      refine ⟨vi, nm_e ?_⟩
      rw [cb]
      exact ⟨vi, br_f n0 ⟨vi, br_f n1 ⟨vi, br_f n2 ⟨vi, br_f n3 ⟨vi, br_f n4 ⟨vi, br_f n5 ⟨vi, br_t e6 ⟨vi, vi, vd, nm_r (by rw [cd, cb]) (yt_247 vi n7 n8 h)⟩⟩⟩⟩⟩⟩⟩⟩
  · have eo' : op i = 7 := eo
    have n0 : ¬ op (nI i).toNatClampNeg = 0 := by rw [ci, eo']; decide
    have n1 : ¬ op (nI i).toNatClampNeg = 1 := by rw [ci, eo']; decide
    have n2 : ¬ op (nI i).toNatClampNeg = 2 := by rw [ci, eo']; decide
    have n3 : ¬ op (nI i).toNatClampNeg = 3 := by rw [ci, eo']; decide
    have n4 : ¬ op (nI i).toNatClampNeg = 4 := by rw [ci, eo']; decide
    have n5 : ¬ op (nI i).toNatClampNeg = 5 := by rw [ci, eo']; decide
    have n6 : ¬ op (nI i).toNatClampNeg = 6 := by rw [ci, eo']; decide
    have n8 : ¬ op (nI i).toNatClampNeg = 8 := by rw [ci, eo']; decide
    have e7 : op (nI i).toNatClampNeg = 7 := by rw [ci, eo']
    refine ⟨upd R q (M ((R p + b i) &&& 15).toNatClampNeg), M, fun post f wX lX h => ?_, fun post f wY h => ?_⟩
    · simp [wpX_perform, wX_perform_54, wpX_result, wpX_namesRegisterInB, vi, ci, vq, cq, vp, cp, eo', ed, ea, bm_m16]
      exact h
    · refine ⟨vi, va, nm_r (congrArg R ca) ⟨vi, br_t h5 ?_⟩⟩
      refine ⟨vi, nm_e ?_⟩
      rw [cb]
      exact ⟨vi, br_f n0 ⟨vi, br_f n1 ⟨vi, br_f n2 ⟨vi, br_f n3 ⟨vi, br_f n4 ⟨vi, br_f n5 ⟨vi, br_f n6 ⟨vi, br_t e7 ⟨vi, bm_m16 _, vd, nm_r (by rw [cd]) (yt_276 vi n8 h)⟩⟩⟩⟩⟩⟩⟩⟩⟩
  · have eo' : op i = 8 := eo
    have n0 : ¬ op (nI i).toNatClampNeg = 0 := by rw [ci, eo']; decide
    have n1 : ¬ op (nI i).toNatClampNeg = 1 := by rw [ci, eo']; decide
    have n2 : ¬ op (nI i).toNatClampNeg = 2 := by rw [ci, eo']; decide
    have n3 : ¬ op (nI i).toNatClampNeg = 3 := by rw [ci, eo']; decide
    have n4 : ¬ op (nI i).toNatClampNeg = 4 := by rw [ci, eo']; decide
    have n5 : ¬ op (nI i).toNatClampNeg = 5 := by rw [ci, eo']; decide
    have n6 : ¬ op (nI i).toNatClampNeg = 6 := by rw [ci, eo']; decide
    have n7 : ¬ op (nI i).toNatClampNeg = 7 := by rw [ci, eo']; decide
    have e8 : op (nI i).toNatClampNeg = 8 := by rw [ci, eo']
    refine ⟨R, upd M ((R p + b i) &&& 15).toNatClampNeg (R q), fun post f wX lX h => ?_, fun post f wY h => ?_⟩
    · simp [wpX_perform, wX_perform_54, wpX_result, wpX_namesRegisterInB, vi, ci, vq, cq, vp, cp, eo', ed, ea, bm_m16]
      exact h
    · refine ⟨vi, va, nm_r (congrArg R ca) ⟨vi, br_t h5 ?_⟩⟩
      refine ⟨vi, nm_e ?_⟩
      rw [cb]
      exact ⟨vi, br_f n0 ⟨vi, br_f n1 ⟨vi, br_f n2 ⟨vi, br_f n3 ⟨vi, br_f n4 ⟨vi, br_f n5 ⟨vi, br_f n6 ⟨vi, br_f n7 ⟨vi, br_t e8 ⟨vi, vd, bm_m16 _, nm_r (by rw [cd]) h⟩⟩⟩⟩⟩⟩⟩⟩⟩⟩
theorem bm_step {i : Nat} (hi : i < 24) (h : bm_ok op d a b i) : ∃ R' M' : Nat → Int32, bm_sx R M op d a b i R' M' := by
  obtain ⟨⟨o, ho, eo⟩, ⟨q, hq, ed⟩, ⟨p, hp, ea⟩, hb⟩ := h
  by_cases h5 : o ≤ 5
  · obtain ⟨s, hs, eb⟩ := hb (by rw [eo]; exact nI_le (b := 5) h5 (by decide))
    exact bm_stA hi h5 eo hq ed hp ea hs eb
  · exact bm_stB hi ⟨by omega, ho⟩ eo hq ed hp ea
theorem bm_run {c : Nat} (hc : c ≤ 24) (hok : ∀ i, i < c → bm_ok op d a b i) : ∀ (t i : Nat) (R M : Nat → Int32), i + t = c → ∃ R' M' : Nat → Int32,
    (∀ (post : Int32 → SX → Prop) (wX lX : Nat → Int32), post (nI c) (nI c, R', M', op, d, a, b, wX, lX) → wX_run_2 post (t + 1) (nI i) (nI c) R M op d a b wX lX) ∧
    (∀ (post : Int32 → SY → Prop) (wY : Nat → Int32), post (nI c) (nI c, op, d, a, b, R', M', wY) → wY_run_2 post (t + 1) (nI i) (nI c) op d a b R M wY) := by
  intro t
  induction t with
  | zero =>
    intro i R M hi
    obtain rfl : i = c := by omega
    have hn : nI i ≤ nI i := nI_le (Nat.le_refl i) (by omega)
    exact ⟨R, M, fun post wX lX h => br_t hn h, fun post wY h => br_t hn h⟩
  | succ t ih =>
    intro i R M hi
    have hn : ¬ nI c ≤ nI i := nI_ge (by omega) (by omega)
    obtain ⟨R1, M1, hX, hY⟩ := bm_step (R := R) (M := M) (by omega) (hok i (by omega))
    obtain ⟨R2, M2, kX, kY⟩ := ih (i + 1) R1 M1 (by omega)
    refine ⟨R2, M2, fun post wX lX h => br_f hn (hX _ _ _ _ ?_), fun post wY h => br_f hn (hY _ _ _ ?_)⟩
    · exact nm_r (nI_1 i) (kX post wX lX h)
    · exact nm_r (nI_1 i) (kY post wY h)
theorem xh_4 {post : Int32 → Prop} {c : Nat} (hc : c ≤ 24) {w : Nat → Nat} (hw : ∀ i, i < c → wX i = nI (w i) ∧ w i ≤ 72) (hp : ∀ m, bm_mx (fun _ => True) w c m → post (nI m)) :
    ∀ t i g : Nat, i + t = c → g ≤ 72 → bm_mx (fun _ => True) w i g → wX_heaviest_4 post (nI c) R M op d a b wX lX (t + 1) (nI g) (nI i) := by
  intro t
  induction t with
  | zero =>
    intro i g hi hg72 hg
    obtain rfl : i = c := by omega
    have hn : nI i ≤ nI i := nI_le (Nat.le_refl i) (by omega)
    exact br_t hn (hp g hg)
  | succ t ih =>
    intro i g hi hg72 hg
    have hn : ¬ nI c ≤ nI i := nI_ge (by omega) (by omega)
    have hii : vp_in (nI i) 24 := bm_in (by omega)
    have hwi := hw i (by omega)
    rw [wX_heaviest_4]
    dsimp only
    rw [bm_cl (j := i) (by omega), hwi.1]
    exact br_f hn ⟨hii, pk_le (w i) g (fun q => nm_r (nI_1 i) (ih (i + 1) g (by omega) hg72 (bm_mx_k hg fun _ => q))) (fun q => ⟨hii, nm_e (nm_r (nI_1 i) (ih (i + 1) (w i) (by omega) hwi.2 (bm_mx_s hg True.intro (by omega))))⟩)⟩
theorem yh_8 {post : Int32 → SY → Prop} {c : Nat} (hc : c ≤ 24) {w : Nat → Nat} (hw : ∀ i, i < c → wY i = nI (w i) ∧ w i ≤ 72) (hp : ∀ m, bm_mx (fun _ => True) w c m → post (nI m) (nI c, op, d, a, b, R, M, wY)) :
    ∀ t i g : Nat, i + t = c → g ≤ 72 → bm_mx (fun _ => True) w i g → wY_heaviest_8 post (nI c) op d a b R M wY (t + 1) (nI g) (nI i) := by
  intro t
  induction t with
  | zero =>
    intro i g hi hg72 hg
    obtain rfl : i = c := by omega
    have hn : nI i ≤ nI i := nI_le (Nat.le_refl i) (by omega)
    exact br_t hn (hp g hg)
  | succ t ih =>
    intro i g hi hg72 hg
    have hn : ¬ nI c ≤ nI i := nI_ge (by omega) (by omega)
    have hii : vp_in (nI i) 24 := bm_in (by omega)
    have hwi := hw i (by omega)
    rw [wY_heaviest_8]
    dsimp only
    rw [bm_cl (j := i) (by omega), hwi.1]
    exact br_f hn ⟨hii, pk_le (w i) g (fun q => nm_r (nI_1 i) (ih (i + 1) g (by omega) hg72 (bm_mx_k hg fun _ => q))) (fun q => ⟨hii, nm_e (nm_r (nI_1 i) (ih (i + 1) (w i) (by omega) hwi.2 (bm_mx_s hg True.intro (by omega))))⟩)⟩
theorem xl_4 {post : Int32 → Prop} {c : Nat} (hc : c ≤ 24) {L : Nat → Nat} (hl : ∀ i, i < c → lX i = nI (L i)) (hp : post (nI (bm_ls L c))) :
    ∀ t i : Nat, i + t = c → wX_links_4 post (nI c) R M op d a b wX lX (t + 1) (nI (bm_ls L i)) (nI i) := by
  intro t
  induction t with
  | zero =>
    intro i hi
    obtain rfl : i = c := by omega
    have hn : nI i ≤ nI i := nI_le (Nat.le_refl i) (by omega)
    exact br_t hn hp
  | succ t ih =>
    intro i hi
    have hn : ¬ nI c ≤ nI i := nI_ge (by omega) (by omega)
    have hii : vp_in (nI i) 24 := bm_in (by omega)
    rw [wX_links_4]
    dsimp only
    rw [bm_cl (j := i) (by omega), hl i (by omega)]
    exact br_f hn ⟨hii, nm_r (nI_add _ _) (nm_r (nI_1 i) (ih (i + 1) (by omega)))⟩
theorem yl_14 {post : Int32 → Prop} {J4 : Int32 → Int32 → Prop} {j s : Nat} (hj : j < 24) (hJ : J4 (nI (s + bm_cn (bm_hg op d a b j) j)) (nI (j + 1))) :
    ∀ t i : Nat, i + t = j → wY_links_14 post J4 (nI j) f op d a b R M wY (t + 1) (nI (s + bm_cn (bm_hg op d a b j) i)) (nI i) := by
  intro t
  induction t with
  | zero =>
    intro i hi
    obtain rfl : i = j := by omega
    have hn : nI i ≤ nI i := nI_le (Nat.le_refl i) (by omega)
    exact br_t hn (nm_r (nI_1 i) hJ)
  | succ t ih =>
    intro i hi
    have hn : ¬ nI j ≤ nI i := nI_ge (by omega) (by omega)
    have k := ih (i + 1) (by omega)
    refine br_f hn (yr_hangs (by omega) hj (fun h => br_f bm_10 ?_) fun h => br_t rfl ?_)
    · rw [bm_cn_t h] at k
      exact nm_r (nI_1 _) (nm_r (nI_1 i) k)
    · rw [bm_cn_f h] at k
      exact nm_r (nI_1 i) k
theorem yl_4 {post : Int32 → Prop} {c : Nat} (hc : c ≤ 24) (hp : post (nI (bm_ls (fun j => bm_cn (bm_hg op d a b j) j) c))) :
    ∀ t j : Nat, j + t = c → wY_links_4 post (nI c) op d a b R M wY (t + 1) (nI (bm_ls (fun j => bm_cn (bm_hg op d a b j) j) j)) (nI j) := by
  intro t
  induction t with
  | zero =>
    intro i hi
    obtain rfl : i = c := by omega
    have hn : nI i ≤ nI i := nI_le (Nat.le_refl i) (by omega)
    exact br_t hn hp
  | succ t ih =>
    intro j hj
    have hn : ¬ nI c ≤ nI j := nI_ge (by omega) (by omega)
    exact br_f hn ⟨j + 1, yl_14 (s := bm_ls (fun j => bm_cn (bm_hg op d a b j) j) j) (by omega) (ih (j + 1) (by omega)) j 0 (by omega)⟩
end BMR
