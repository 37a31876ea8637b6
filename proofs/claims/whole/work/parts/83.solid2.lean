/-! the class: sets of cells, moved and asked -/
theorem x_isSame {M : xM} {k j : Nat} : fX6_isSame [.inr (.inr (6, k)), .inr (.inr (6, j))] M = some (some (.inl (bP (∀ c, c < 512 → sB M k c = sB M j c))), M) := by
  have hx := xfor_all (sg := gX6_isSame) (st := fun i => (2, [some (.inr (.inr (6, k))), some (.inr (.inr (6, j))), some (.inl (iZ (i)))], [], M)) (R := fun i => some (some (.inl (bP (∀ c, 64 * i ≤ c → c < 512 → sB M k c = sB M j c))), M)) (n := 8) (fun i hi ih => by
    rw [nS] at ih
    by_cases y : xL M (44, k) i = xL M (44, j) i
    · have hy : lg_cmp (xL M (44, k) i) (xL M (44, j) i) = iZ 0 := (lg_cmp_eq _ _).mpr y
      rw [xfix_unf, sX6_isSame_2]
      simp (disch := omega) only [xk_none, xk_inl, xk_inr, xk_ite, xri_v, xrl_v, xrv_v, xb_z0, xb_z1, xb_b2, if_true, if_false, ite_true, ite_false, iZ_lit, iZ_m1, iZ_m99, iZ_m8, iZ_add, iZ_sub, iZ_mul, iZ_neg, nz0, nzi, iZ_lt, iZ_le, iZ_inj, b2_z, b2_o, ite_bPz, ite_bPo, xb_bP, iZ_xin, if_pos, ite_self, ↓reduceIte, Int.reduceAdd, Int.reduceSub, Int.reduceMul, Int.reduceNeg, Int.reduceLT, Int.reduceLE, if_neg, nS, iZ_clampN, iZ_bit, iZ_one, iZ_and, iZ_or, iZ_ndn, hy]
      rw [ih]
      refine rP ⟨fun h c c1 c2 => ?_, fun h c c1 c2 => h c (by omega) c2⟩
      by_cases e : 64 * (i + 1) ≤ c
      · exact h c e c2
      · unfold sB
        rw [show c / 64 = i by omega, y]
    · have hy : ¬ lg_cmp (xL M (44, k) i) (xL M (44, j) i) = iZ 0 := fun z => y ((lg_cmp_eq _ _).mp z)
      rw [xfix_unf, sX6_isSame_2]
      simp (disch := omega) only [xk_none, xk_inl, xk_inr, xk_ite, xri_v, xrl_v, xrv_v, xb_z0, xb_z1, xb_b2, if_true, if_false, ite_true, ite_false, iZ_lit, iZ_m1, iZ_m99, iZ_m8, iZ_add, iZ_sub, iZ_mul, iZ_neg, nz0, nzi, iZ_lt, iZ_le, iZ_inj, b2_z, b2_o, ite_bPz, ite_bPo, xb_bP, iZ_xin, if_pos, ite_self, ↓reduceIte, Int.reduceAdd, Int.reduceSub, Int.reduceMul, Int.reduceNeg, Int.reduceLT, Int.reduceLE, if_neg, nS, iZ_clampN, iZ_bit, iZ_one, iZ_and, iZ_or, iZ_ndn, hy]
      refine congrArg (fun v => some (some (Sum.inl v), M)) (bP_f ?_).symm
      intro h
      refine y (lB_ext fun b hb => ?_)
      have := h (64 * i + b) (by omega) (by omega)
      unfold sB at this
      rw [show (64 * i + b) / 64 = i by omega, show (64 * i + b) % 64 = b by omega] at this
      exact this) (by
    have e8 : ((8 : Nat) : Int) = 8 := rfl
    rw [xfix_unf, sX6_isSame_2]
    simp (disch := omega) only [xk_none, xk_inl, xk_inr, xk_ite, xri_v, xrl_v, xrv_v, xb_z0, xb_z1, xb_b2, if_true, if_false, ite_true, ite_false, iZ_lit, iZ_m1, iZ_m99, iZ_m8, iZ_add, iZ_sub, iZ_mul, iZ_neg, nz0, nzi, iZ_lt, iZ_le, iZ_inj, b2_z, b2_o, ite_bPz, ite_bPo, xb_bP, iZ_xin, if_pos, ite_self, ↓reduceIte, Int.reduceAdd, Int.reduceSub, Int.reduceMul, Int.reduceNeg, Int.reduceLT, Int.reduceLE, if_neg, e8]
    refine congrArg (fun v => some (some (Sum.inl v), M)) (bP_t ?_).symm
    intro c c1 c2
    omega) (i := 0) (by omega)
  show xfix gX6_isSame (0, [some (.inr (.inr (6, k))), some (.inr (.inr (6, j))), none], [], M) = _; rw [xfix_unf, sX6_isSame_0]
  simp (disch := omega) only [xk_none, xk_inl, xk_inr, xk_ite, xri_v, xrl_v, xrv_v, xb_z0, xb_z1, xb_b2, if_true, if_false, ite_true, ite_false, iZ_lit, iZ_m1, iZ_m99, iZ_m8, iZ_add, iZ_sub, iZ_mul, iZ_neg, nz0, nzi, iZ_lt, iZ_le, iZ_inj, b2_z, b2_o, ite_bPz, ite_bPo, xb_bP, iZ_xin, if_pos, ite_self, ↓reduceIte, Int.reduceAdd, Int.reduceSub, Int.reduceMul, Int.reduceNeg, Int.reduceLT, Int.reduceLE, if_neg]
  refine Eq.trans hx (rP ⟨fun h c c2 => h c (by omega) c2, fun h c _ c2 => h c c2⟩)
theorem x_isCell {M : xM} {x y z : Int} (hx : r32 x) (hy : r32 y) (hz : r32 z) : fX6_isCell [.inl (iZ (x)), .inl (iZ (y)), .inl (iZ (z))] M = some (some (.inl (bP ((0 ≤ x ∧ x < 8) ∧ (0 ≤ y ∧ y < 8) ∧ (0 ≤ z ∧ z < 8)))), M) := by
  show xfix gX6_isCell (0, [some (.inl (iZ (x))), some (.inl (iZ (y))), some (.inl (iZ (z)))], [], M) = _; rw [xfix_unf, sX6_isCell_0]
  by_cases c : (0 ≤ x ∧ x < 8) ∧ (0 ≤ y ∧ y < 8) ∧ (0 ≤ z ∧ z < 8)
  · rw [bP_t c]
    simp (disch := omega) only [xk_none, xk_inl, xk_inr, xk_ite, xri_v, xrl_v, xrv_v, xb_z0, xb_z1, xb_b2, if_true, if_false, ite_true, ite_false, iZ_lit, iZ_m1, iZ_m99, iZ_m8, iZ_add, iZ_sub, iZ_mul, iZ_neg, nz0, nzi, iZ_lt, iZ_le, iZ_inj, b2_z, b2_o, ite_bPz, ite_bPo, xb_bP, iZ_xin, if_pos, ite_self, ↓reduceIte, Int.reduceAdd, Int.reduceSub, Int.reduceMul, Int.reduceNeg, Int.reduceLT, Int.reduceLE, if_neg]
  · rw [bP_f c]
    simp (disch := omega) only [xk_none, xk_inl, xk_inr, xk_ite, xri_v, xrl_v, xrv_v, xb_z0, xb_z1, xb_b2, if_true, if_false, ite_true, ite_false, iZ_lit, iZ_m1, iZ_m99, iZ_m8, iZ_add, iZ_sub, iZ_mul, iZ_neg, nz0, nzi, iZ_lt, iZ_le, iZ_inj, b2_z, b2_o, ite_bPz, ite_bPo, xb_bP, iZ_xin, if_pos, ite_self, ↓reduceIte, Int.reduceAdd, Int.reduceSub, Int.reduceMul, Int.reduceNeg, Int.reduceLT, Int.reduceLE, if_neg]
theorem x_put {M : xM} {k x y z : Nat} (hx : x < 8) (hy : y < 8) (hz : z < 8) : ∃ M', fX6_put [.inr (.inr (6, k)), .inl (iZ (x)), .inl (iZ (y)), .inl (iZ (z))] M = some (none, M') ∧ xSame (fun r => r = (44, k)) M M' ∧ ∀ c, c < 512 → sB M' k c = (sB M k c || decide (c = 64 * z + 8 * y + x)) := by
  have e1 : (8 : Int) * (y : Int) + (x : Int) = ((8 * y + x : Nat) : Int) := by omega
  have hc := x_isCell (M := M) (x := (x : Int)) (y := (y : Int)) (z := (z : Int)) (by unfold r32; omega) (by unfold r32; omega) (by unfold r32; omega)
  rw [bP_t (by omega)] at hc
  refine ⟨xpL M (44, k) z (xL M (44, k) z ||| ((1 : Int64) <<< ((iZ ((8 * y + x : Nat) : Int)).toInt64 &&& 63))), ?_, xSame.rf.pL rfl, fun c hc => ?_⟩
  · show xfix gX6_put (0, [some (.inr (.inr (6, k))), some (.inl (iZ (x))), some (.inl (iZ (y))), some (.inl (iZ (z)))], [], M) = _; rw [xfix_unf, sX6_put_0]
    simp (disch := omega) only [xk_none, xk_inl, xk_inr, xk_ite, xri_v, xrl_v, xrv_v, xb_z0, xb_z1, xb_b2, if_true, if_false, ite_true, ite_false, iZ_lit, iZ_m1, iZ_m99, iZ_m8, iZ_add, iZ_sub, iZ_mul, iZ_neg, nz0, nzi, iZ_lt, iZ_le, iZ_inj, b2_z, b2_o, ite_bPz, ite_bPo, xb_bP, iZ_xin, if_pos, ite_self, ↓reduceIte, Int.reduceAdd, Int.reduceSub, Int.reduceMul, Int.reduceNeg, Int.reduceLT, Int.reduceLE, if_neg, nS, iZ_clampN, iZ_bit, iZ_one, iZ_and, iZ_or, iZ_ndn, hc, e1]
  · rw [sB_pL]
    by_cases e : c / 64 = z
    · rw [if_pos ⟨rfl, e⟩, lB_or, lB_shl (by omega)]
      have h1 : lB (xL M (44, k) z) (c % 64) = sB M k c := by unfold sB; rw [e]
      rw [h1]
      congr 1
      by_cases e2 : 8 * y + x ≤ c % 64
      · rw [lB_1 _ (by omega)]
        have : (c % 64 < 64) := by omega
        simp [e2, this]
        omega
      · simp [e2]
        omega
    · rw [if_neg (fun q => e q.2)]
      have : ¬ c = 64 * z + 8 * y + x := by omega
      simp [this]
theorem x_has {M : xM} {k : Nat} {x y z : Int} (hx : r32 x) (hy : r32 y) (hz : r32 z) : fX6_has [.inr (.inr (6, k)), .inl (iZ (x)), .inl (iZ (y)), .inl (iZ (z))] M = some (some (.inl (bP (((0 ≤ x ∧ x < 8) ∧ (0 ≤ y ∧ y < 8) ∧ (0 ≤ z ∧ z < 8)) ∧ sB M k (64 * z + 8 * y + x).toNat = true))), M) := by
  have hc := x_isCell (M := M) hx hy hz
  by_cases c : (0 ≤ x ∧ x < 8) ∧ (0 ≤ y ∧ y < 8) ∧ (0 ≤ z ∧ z < 8)
  · rw [bP_t c] at hc
    obtain ⟨a, ha⟩ : ∃ a : Nat, x = a := ⟨x.toNat, by omega⟩
    obtain ⟨b, hb⟩ : ∃ b : Nat, y = b := ⟨y.toNat, by omega⟩
    obtain ⟨d, hd⟩ : ∃ d : Nat, z = d := ⟨z.toNat, by omega⟩
    subst ha
    subst hb
    subst hd
    have e1 : (8 : Int) * (b : Int) + (a : Int) = ((8 * b + a : Nat) : Int) := by omega
    have e2 : sB M k (64 * (d : Int) + 8 * (b : Int) + (a : Int)).toNat = lB (xL M (44, k) d) (8 * b + a) := by
      unfold sB
      rw [show (64 * (d : Int) + 8 * (b : Int) + (a : Int)).toNat / 64 = d by omega, show (64 * (d : Int) + 8 * (b : Int) + (a : Int)).toNat % 64 = 8 * b + a by omega]
    rw [e2]
    by_cases q : lB (xL M (44, k) d) (8 * b + a) = true
    · have hq : ¬ lg_cmp (((Int64.toUInt64 (xL M (44, k) d) >>> ((iZ ((8 * b + a : Nat) : Int)).toInt64.toUInt64 &&& Int64.toUInt64 63)).toInt64) &&& 1) 0 = iZ 0 := fun w => by
        rw [lB_ask (by omega)] at w
        rw [w] at q
        cases q
      rw [bP_t ⟨c, q⟩]
      show xfix gX6_has (0, [some (.inr (.inr (6, k))), some (.inl (iZ (a))), some (.inl (iZ (b))), some (.inl (iZ (d)))], [], M) = _; rw [xfix_unf, sX6_has_0]
      simp (disch := omega) only [xk_none, xk_inl, xk_inr, xk_ite, xri_v, xrl_v, xrv_v, xb_z0, xb_z1, xb_b2, if_true, if_false, ite_true, ite_false, iZ_lit, iZ_m1, iZ_m99, iZ_m8, iZ_add, iZ_sub, iZ_mul, iZ_neg, nz0, nzi, iZ_lt, iZ_le, iZ_inj, b2_z, b2_o, ite_bPz, ite_bPo, xb_bP, iZ_xin, if_pos, ite_self, ↓reduceIte, Int.reduceAdd, Int.reduceSub, Int.reduceMul, Int.reduceNeg, Int.reduceLT, Int.reduceLE, if_neg, nS, iZ_clampN, iZ_bit, iZ_one, iZ_and, iZ_or, iZ_ndn, hc, e1, hq]
    · have hq : lg_cmp (((Int64.toUInt64 (xL M (44, k) d) >>> ((iZ ((8 * b + a : Nat) : Int)).toInt64.toUInt64 &&& Int64.toUInt64 63)).toInt64) &&& 1) 0 = iZ 0 := (lB_ask (by omega)).mpr (by simpa using q)
      rw [bP_f (fun w => q w.2)]
      show xfix gX6_has (0, [some (.inr (.inr (6, k))), some (.inl (iZ (a))), some (.inl (iZ (b))), some (.inl (iZ (d)))], [], M) = _; rw [xfix_unf, sX6_has_0]
      simp (disch := omega) only [xk_none, xk_inl, xk_inr, xk_ite, xri_v, xrl_v, xrv_v, xb_z0, xb_z1, xb_b2, if_true, if_false, ite_true, ite_false, iZ_lit, iZ_m1, iZ_m99, iZ_m8, iZ_add, iZ_sub, iZ_mul, iZ_neg, nz0, nzi, iZ_lt, iZ_le, iZ_inj, b2_z, b2_o, ite_bPz, ite_bPo, xb_bP, iZ_xin, if_pos, ite_self, ↓reduceIte, Int.reduceAdd, Int.reduceSub, Int.reduceMul, Int.reduceNeg, Int.reduceLT, Int.reduceLE, if_neg, nS, iZ_clampN, iZ_bit, iZ_one, iZ_and, iZ_or, iZ_ndn, hc, e1, hq]
  · rw [bP_f c] at hc
    rw [bP_f (fun w => c w.1)]
    show xfix gX6_has (0, [some (.inr (.inr (6, k))), some (.inl (iZ (x))), some (.inl (iZ (y))), some (.inl (iZ (z)))], [], M) = _; rw [xfix_unf, sX6_has_0]
    simp (disch := omega) only [xk_none, xk_inl, xk_inr, xk_ite, xri_v, xrl_v, xrv_v, xb_z0, xb_z1, xb_b2, if_true, if_false, ite_true, ite_false, iZ_lit, iZ_m1, iZ_m99, iZ_m8, iZ_add, iZ_sub, iZ_mul, iZ_neg, nz0, nzi, iZ_lt, iZ_le, iZ_inj, b2_z, b2_o, ite_bPz, ite_bPo, xb_bP, iZ_xin, if_pos, ite_self, ↓reduceIte, Int.reduceAdd, Int.reduceSub, Int.reduceMul, Int.reduceNeg, Int.reduceLT, Int.reduceLE, if_neg, hc]
/-- one cell on -/
def stB (f : Nat → Bool) (w c : Nat) : Bool := if w = 0 then decide (c % 8 ≠ 0) && f (c - 1) else if w = 1 then decide (c % 8 ≠ 7) && f (c + 1) else if w = 2 then decide (c / 8 % 8 ≠ 0) && f (c - 8) else if w = 3 then decide (c / 8 % 8 ≠ 7) && f (c + 8) else if w = 4 then decide (64 ≤ c) && f (c - 64) else decide (c < 448) && f (c + 64)
