/-! the class: a shape's cells and joints -/
theorem x_partAt {M : xM} {s P : Nat} {C : Nat → Int} {x y z : Int} (h : cBd M s P C) (hC : ∀ c, c < 512 → -1 ≤ C c ∧ C c < P) (hx : r32 x) (hy : r32 y) (hz : r32 z) : fX5_partAt [.inr (.inr (5, s)), .inl (iZ (x)), .inl (iZ (y)), .inl (iZ (z))] M = some (some (.inl (iZ (if (0 ≤ x ∧ x < 8) ∧ (0 ≤ y ∧ y < 8) ∧ (0 ≤ z ∧ z < 8) then C (64 * z + 8 * y + x).toNat else -1))), M) := by
  obtain ⟨h0, hP, hB⟩ := h
  have top : fX5_partAt [.inr (.inr (5, s)), .inl (iZ (x)), .inl (iZ (y)), .inl (iZ (z))] M = xfix gX5_partAt (3, [some (.inr (.inr (5, s))), some (.inl (iZ (x))), some (.inl (iZ (y))), some (.inl (iZ (z))), some (.inl (iZ (((0 : Nat)))))], [], M) := by
    show xfix gX5_partAt (0, [some (.inr (.inr (5, s))), some (.inl (iZ (x))), some (.inl (iZ (y))), some (.inl (iZ (z))), none], [], M) = _; rw [xfix_unf, sX5_partAt_0]
    simp (disch := omega) only [xk_none, xk_inl, xk_inr, xk_ite, xri_v, xrl_v, xrv_v, xb_z0, xb_z1, xb_b2, if_true, if_false, ite_true, ite_false, iZ_lit, iZ_m1, iZ_m99, iZ_m8, iZ_add, iZ_sub, iZ_mul, iZ_neg, nz0, nzi, iZ_lt, iZ_le, iZ_inj, b2_z, b2_o, ite_bPz, ite_bPo, xb_bP, iZ_xin, if_pos, ite_self, ↓reduceIte, Int.reduceAdd, Int.reduceSub, Int.reduceMul, Int.reduceNeg, Int.reduceLT, Int.reduceLE, if_neg]
    rfl
  have bot : xfix gX5_partAt (3, [some (.inr (.inr (5, s))), some (.inl (iZ (x))), some (.inl (iZ (y))), some (.inl (iZ (z))), some (.inl (iZ (P)))], [], M) = some (some (.inl (iZ (-1))), M) := by
    rw [xfix_unf, sX5_partAt_3]
    simp (disch := omega) only [xk_none, xk_inl, xk_inr, xk_ite, xri_v, xrl_v, xrv_v, xb_z0, xb_z1, xb_b2, if_true, if_false, ite_true, ite_false, iZ_lit, iZ_m1, iZ_m99, iZ_m8, iZ_add, iZ_sub, iZ_mul, iZ_neg, nz0, nzi, iZ_lt, iZ_le, iZ_inj, b2_z, b2_o, ite_bPz, ite_bPo, xb_bP, iZ_xin, if_pos, ite_self, ↓reduceIte, Int.reduceAdd, Int.reduceSub, Int.reduceMul, Int.reduceNeg, Int.reduceLT, Int.reduceLE, if_neg, nS, iZ_clampN, iZ_bit, iZ_one, iZ_and, iZ_or, iZ_ndn, h0]
  by_cases c : (0 ≤ x ∧ x < 8) ∧ (0 ≤ y ∧ y < 8) ∧ (0 ≤ z ∧ z < 8)
  · rw [if_pos c]
    have hc : (64 * z + 8 * y + x).toNat < 512 := by omega
    have hv := hC _ hc
    generalize hcc : (64 * z + 8 * y + x).toNat = cc at *
    by_cases e : C cc = -1
    · have lp := xfor_F (sg := gX5_partAt) (fun i => (3, [some (.inr (.inr (5, s))), some (.inl (iZ (x))), some (.inl (iZ (y))), some (.inl (iZ (z))), some (.inl (iZ (i)))], [], M)) (a := 0) (n := P) (by omega) (fun i _ hi => by
        have hh := x_has (M := M) (k := 10 * s + 1 + i) hx hy hz
        rw [hcc, bP_f (fun w => by
          have := (hB i hi cc hc).mp w.2
          omega)] at hh
        rw [nS]
        rw [xfix_unf, sX5_partAt_3]
        simp (disch := omega) only [xk_none, xk_inl, xk_inr, xk_ite, xri_v, xrl_v, xrv_v, xb_z0, xb_z1, xb_b2, if_true, if_false, ite_true, ite_false, iZ_lit, iZ_m1, iZ_m99, iZ_m8, iZ_add, iZ_sub, iZ_mul, iZ_neg, nz0, nzi, iZ_lt, iZ_le, iZ_inj, b2_z, b2_o, ite_bPz, ite_bPo, xb_bP, iZ_xin, if_pos, ite_self, ↓reduceIte, Int.reduceAdd, Int.reduceSub, Int.reduceMul, Int.reduceNeg, Int.reduceLT, Int.reduceLE, if_neg, nS, iZ_clampN, iZ_bit, iZ_one, iZ_and, iZ_or, iZ_ndn, h0, hh])
      rw [top, lp, bot, e]
    · obtain ⟨p, hp⟩ : ∃ p : Nat, C cc = p := ⟨(C cc).toNat, by omega⟩
      have lp := xfor_F (sg := gX5_partAt) (fun i => (3, [some (.inr (.inr (5, s))), some (.inl (iZ (x))), some (.inl (iZ (y))), some (.inl (iZ (z))), some (.inl (iZ (i)))], [], M)) (a := 0) (n := p) (by omega) (fun i _ hi => by
        have hh := x_has (M := M) (k := 10 * s + 1 + i) hx hy hz
        rw [hcc, bP_f (fun w => by
          have := (hB i (by omega) cc hc).mp w.2
          omega)] at hh
        rw [nS]
        rw [xfix_unf, sX5_partAt_3]
        simp (disch := omega) only [xk_none, xk_inl, xk_inr, xk_ite, xri_v, xrl_v, xrv_v, xb_z0, xb_z1, xb_b2, if_true, if_false, ite_true, ite_false, iZ_lit, iZ_m1, iZ_m99, iZ_m8, iZ_add, iZ_sub, iZ_mul, iZ_neg, nz0, nzi, iZ_lt, iZ_le, iZ_inj, b2_z, b2_o, ite_bPz, ite_bPo, xb_bP, iZ_xin, if_pos, ite_self, ↓reduceIte, Int.reduceAdd, Int.reduceSub, Int.reduceMul, Int.reduceNeg, Int.reduceLT, Int.reduceLE, if_neg, nS, iZ_clampN, iZ_bit, iZ_one, iZ_and, iZ_or, iZ_ndn, h0, hh])
      have hh := x_has (M := M) (k := 10 * s + 1 + p) hx hy hz
      rw [hcc, bP_t ⟨c, (hB p (by omega) cc hc).mpr hp⟩] at hh
      rw [top, lp, hp]
      rw [xfix_unf, sX5_partAt_3]
      simp (disch := omega) only [xk_none, xk_inl, xk_inr, xk_ite, xri_v, xrl_v, xrv_v, xb_z0, xb_z1, xb_b2, if_true, if_false, ite_true, ite_false, iZ_lit, iZ_m1, iZ_m99, iZ_m8, iZ_add, iZ_sub, iZ_mul, iZ_neg, nz0, nzi, iZ_lt, iZ_le, iZ_inj, b2_z, b2_o, ite_bPz, ite_bPo, xb_bP, iZ_xin, if_pos, ite_self, ↓reduceIte, Int.reduceAdd, Int.reduceSub, Int.reduceMul, Int.reduceNeg, Int.reduceLT, Int.reduceLE, if_neg, nS, iZ_clampN, iZ_bit, iZ_one, iZ_and, iZ_or, iZ_ndn, h0, hh]
  · rw [if_neg c]
    have lp := xfor_F (sg := gX5_partAt) (fun i => (3, [some (.inr (.inr (5, s))), some (.inl (iZ (x))), some (.inl (iZ (y))), some (.inl (iZ (z))), some (.inl (iZ (i)))], [], M)) (a := 0) (n := P) (by omega) (fun i _ hi => by
      have hh := x_has (M := M) (k := 10 * s + 1 + i) hx hy hz
      rw [bP_f (fun w => c w.1)] at hh
      rw [nS]
      rw [xfix_unf, sX5_partAt_3]
      simp (disch := omega) only [xk_none, xk_inl, xk_inr, xk_ite, xri_v, xrl_v, xrv_v, xb_z0, xb_z1, xb_b2, if_true, if_false, ite_true, ite_false, iZ_lit, iZ_m1, iZ_m99, iZ_m8, iZ_add, iZ_sub, iZ_mul, iZ_neg, nz0, nzi, iZ_lt, iZ_le, iZ_inj, b2_z, b2_o, ite_bPz, ite_bPo, xb_bP, iZ_xin, if_pos, ite_self, ↓reduceIte, Int.reduceAdd, Int.reduceSub, Int.reduceMul, Int.reduceNeg, Int.reduceLT, Int.reduceLE, if_neg, nS, iZ_clampN, iZ_bit, iZ_one, iZ_and, iZ_or, iZ_ndn, h0, hh])
    rw [top, lp, bot]
/-- a joint between a half and the rest that isn't reached -/
def sjt (pr cv : Nat → Nat) (heap half j : Nat) : Prop := pr j &&& half ≠ 0 ∧ ndn (pr j &&& heap) half ≠ 0 ∧ cv j &&& heap ≠ 0
noncomputable def stJ (pr cv : Nat → Nat) (heap half J : Nat) : Nat := lst (sjt pr cv heap half) J
theorem x_stuckJoint {M : xM} {s J heap half : Nat} {pr cv : Nat → Nat} (h1 : xI M (5, s) 1 = iZ J) (hJ : J ≤ 8) (hp : ∀ j, j < J → xI M (41, s) j = iZ (pr j) ∧ xI M (42, s) j = iZ (cv j) ∧ pr j < 512 ∧ cv j < 512) : fX5_stuckJoint [.inr (.inr (5, s)), .inl (iZ (heap)), .inl (iZ (half))] M = some (some (.inl (iZ (if stJ pr cv heap half J < J then (stJ pr cv heap half J : Int) else -1))), M) := by
  have stp : ∀ j, j < J → xfix gX5_stuckJoint (2, [some (.inr (.inr (5, s))), some (.inl (iZ (heap))), some (.inl (iZ (half))), some (.inl (iZ (j))), none], [], M) = @ite _ (sjt pr cv heap half j) (Classical.propDecidable _) (some (some (.inl (iZ (j))), M)) (xfix gX5_stuckJoint (2, [some (.inr (.inr (5, s))), some (.inl (iZ (heap))), some (.inl (iZ (half))), some (.inl (iZ (((j : Int) + 1)))), none], [], M)) := fun j hj => by
    obtain ⟨f1, f2, f3, f4⟩ := hp j hj
    have l1 : pr j &&& half ≤ pr j := Nat.and_le_left
    have l2 : pr j &&& heap ≤ pr j := Nat.and_le_left
    have l3 := ndn_le (pr j &&& heap) half
    have l4 : cv j &&& heap ≤ cv j := Nat.and_le_left
    by_cases c1 : pr j &&& half = 0
    · rw [if_neg (fun z => z.1 c1)]
      rw [xfix_unf, sX5_stuckJoint_2]
      simp (disch := omega) only [xk_none, xk_inl, xk_inr, xk_ite, xri_v, xrl_v, xrv_v, xb_z0, xb_z1, xb_b2, if_true, if_false, ite_true, ite_false, iZ_lit, iZ_m1, iZ_m99, iZ_m8, iZ_add, iZ_sub, iZ_mul, iZ_neg, nz0, nzi, iZ_lt, iZ_le, iZ_inj, b2_z, b2_o, ite_bPz, ite_bPo, xb_bP, iZ_xin, if_pos, ite_self, ↓reduceIte, Int.reduceAdd, Int.reduceSub, Int.reduceMul, Int.reduceNeg, Int.reduceLT, Int.reduceLE, if_neg, nS, iZ_clampN, iZ_bit, iZ_one, iZ_and, iZ_or, iZ_ndn, h1, f1, c1]
      rw [xfix_unf, sX5_stuckJoint_41]
      simp (disch := omega) only [xk_none, xk_inl, xk_inr, xk_ite, xri_v, xrl_v, xrv_v, xb_z0, xb_z1, xb_b2, if_true, if_false, ite_true, ite_false, iZ_lit, iZ_m1, iZ_m99, iZ_m8, iZ_add, iZ_sub, iZ_mul, iZ_neg, nz0, nzi, iZ_lt, iZ_le, iZ_inj, b2_z, b2_o, ite_bPz, ite_bPo, xb_bP, iZ_xin, if_pos, ite_self, ↓reduceIte, Int.reduceAdd, Int.reduceSub, Int.reduceMul, Int.reduceNeg, Int.reduceLT, Int.reduceLE, if_neg, nS, iZ_clampN, iZ_bit, iZ_one, iZ_and, iZ_or, iZ_ndn]
    · by_cases c2 : ndn (pr j &&& heap) half = 0
      · rw [if_neg (fun z => z.2.1 c2)]
        rw [xfix_unf, sX5_stuckJoint_2]
        simp (disch := omega) only [xk_none, xk_inl, xk_inr, xk_ite, xri_v, xrl_v, xrv_v, xb_z0, xb_z1, xb_b2, if_true, if_false, ite_true, ite_false, iZ_lit, iZ_m1, iZ_m99, iZ_m8, iZ_add, iZ_sub, iZ_mul, iZ_neg, nz0, nzi, iZ_lt, iZ_le, iZ_inj, b2_z, b2_o, ite_bPz, ite_bPo, xb_bP, iZ_xin, if_pos, ite_self, ↓reduceIte, Int.reduceAdd, Int.reduceSub, Int.reduceMul, Int.reduceNeg, Int.reduceLT, Int.reduceLE, if_neg, nS, iZ_clampN, iZ_bit, iZ_one, iZ_and, iZ_or, iZ_ndn, h1, f1, c1, c2]
        rw [xfix_unf, sX5_stuckJoint_41]
        simp (disch := omega) only [xk_none, xk_inl, xk_inr, xk_ite, xri_v, xrl_v, xrv_v, xb_z0, xb_z1, xb_b2, if_true, if_false, ite_true, ite_false, iZ_lit, iZ_m1, iZ_m99, iZ_m8, iZ_add, iZ_sub, iZ_mul, iZ_neg, nz0, nzi, iZ_lt, iZ_le, iZ_inj, b2_z, b2_o, ite_bPz, ite_bPo, xb_bP, iZ_xin, if_pos, ite_self, ↓reduceIte, Int.reduceAdd, Int.reduceSub, Int.reduceMul, Int.reduceNeg, Int.reduceLT, Int.reduceLE, if_neg, nS, iZ_clampN, iZ_bit, iZ_one, iZ_and, iZ_or, iZ_ndn]
      · by_cases c3 : cv j &&& heap = 0
        · rw [if_neg (fun z => z.2.2 c3)]
          rw [xfix_unf, sX5_stuckJoint_2]
          simp (disch := omega) only [xk_none, xk_inl, xk_inr, xk_ite, xri_v, xrl_v, xrv_v, xb_z0, xb_z1, xb_b2, if_true, if_false, ite_true, ite_false, iZ_lit, iZ_m1, iZ_m99, iZ_m8, iZ_add, iZ_sub, iZ_mul, iZ_neg, nz0, nzi, iZ_lt, iZ_le, iZ_inj, b2_z, b2_o, ite_bPz, ite_bPo, xb_bP, iZ_xin, if_pos, ite_self, ↓reduceIte, Int.reduceAdd, Int.reduceSub, Int.reduceMul, Int.reduceNeg, Int.reduceLT, Int.reduceLE, if_neg, nS, iZ_clampN, iZ_bit, iZ_one, iZ_and, iZ_or, iZ_ndn, h1, f1, c1, c2]
          rw [xfix_unf, sX5_stuckJoint_41]
          simp (disch := omega) only [xk_none, xk_inl, xk_inr, xk_ite, xri_v, xrl_v, xrv_v, xb_z0, xb_z1, xb_b2, if_true, if_false, ite_true, ite_false, iZ_lit, iZ_m1, iZ_m99, iZ_m8, iZ_add, iZ_sub, iZ_mul, iZ_neg, nz0, nzi, iZ_lt, iZ_le, iZ_inj, b2_z, b2_o, ite_bPz, ite_bPo, xb_bP, iZ_xin, if_pos, ite_self, ↓reduceIte, Int.reduceAdd, Int.reduceSub, Int.reduceMul, Int.reduceNeg, Int.reduceLT, Int.reduceLE, if_neg, nS, iZ_clampN, iZ_bit, iZ_one, iZ_and, iZ_or, iZ_ndn, f2, c3]
        · rw [if_pos ⟨c1, c2, c3⟩]
          rw [xfix_unf, sX5_stuckJoint_2]
          simp (disch := omega) only [xk_none, xk_inl, xk_inr, xk_ite, xri_v, xrl_v, xrv_v, xb_z0, xb_z1, xb_b2, if_true, if_false, ite_true, ite_false, iZ_lit, iZ_m1, iZ_m99, iZ_m8, iZ_add, iZ_sub, iZ_mul, iZ_neg, nz0, nzi, iZ_lt, iZ_le, iZ_inj, b2_z, b2_o, ite_bPz, ite_bPo, xb_bP, iZ_xin, if_pos, ite_self, ↓reduceIte, Int.reduceAdd, Int.reduceSub, Int.reduceMul, Int.reduceNeg, Int.reduceLT, Int.reduceLE, if_neg, nS, iZ_clampN, iZ_bit, iZ_one, iZ_and, iZ_or, iZ_ndn, h1, f1, c1, c2]
          rw [xfix_unf, sX5_stuckJoint_41]
          simp (disch := omega) only [xk_none, xk_inl, xk_inr, xk_ite, xri_v, xrl_v, xrv_v, xb_z0, xb_z1, xb_b2, if_true, if_false, ite_true, ite_false, iZ_lit, iZ_m1, iZ_m99, iZ_m8, iZ_add, iZ_sub, iZ_mul, iZ_neg, nz0, nzi, iZ_lt, iZ_le, iZ_inj, b2_z, b2_o, ite_bPz, ite_bPo, xb_bP, iZ_xin, if_pos, ite_self, ↓reduceIte, Int.reduceAdd, Int.reduceSub, Int.reduceMul, Int.reduceNeg, Int.reduceLT, Int.reduceLE, if_neg, nS, iZ_clampN, iZ_bit, iZ_one, iZ_and, iZ_or, iZ_ndn, f2, c3]
  have hle : stJ pr cv heap half J ≤ J := lst_le _ _
  have lp := xfor_F (sg := gX5_stuckJoint) (fun i => (2, [some (.inr (.inr (5, s))), some (.inl (iZ (heap))), some (.inl (iZ (half))), some (.inl (iZ (i))), none], [], M)) (a := 0) (n := stJ pr cv heap half J) (by omega) (fun i _ hi => by
    have hno : ¬ sjt pr cv heap half i := lst_no (sjt pr cv heap half) J i hi
    rw [stp i (by omega), if_neg hno, nS])
  show xfix gX5_stuckJoint (0, [some (.inr (.inr (5, s))), some (.inl (iZ (heap))), some (.inl (iZ (half))), none, none], [], M) = _; rw [xfix_unf, sX5_stuckJoint_0]
  simp (disch := omega) only [xk_none, xk_inl, xk_inr, xk_ite, xri_v, xrl_v, xrv_v, xb_z0, xb_z1, xb_b2, if_true, if_false, ite_true, ite_false, iZ_lit, iZ_m1, iZ_m99, iZ_m8, iZ_add, iZ_sub, iZ_mul, iZ_neg, nz0, nzi, iZ_lt, iZ_le, iZ_inj, b2_z, b2_o, ite_bPz, ite_bPo, xb_bP, iZ_xin, if_pos, ite_self, ↓reduceIte, Int.reduceAdd, Int.reduceSub, Int.reduceMul, Int.reduceNeg, Int.reduceLT, Int.reduceLE, if_neg]
  refine Eq.trans lp ?_
  by_cases c : stJ pr cv heap half J < J
  · have hy : sjt pr cv heap half (stJ pr cv heap half J) := lst_is (sjt pr cv heap half) J c
    rw [if_pos c, stp _ c, if_pos hy]
  · rw [if_neg c]
    rw [xfix_unf, sX5_stuckJoint_2]
    simp (disch := omega) only [xk_none, xk_inl, xk_inr, xk_ite, xri_v, xrl_v, xrv_v, xb_z0, xb_z1, xb_b2, if_true, if_false, ite_true, ite_false, iZ_lit, iZ_m1, iZ_m99, iZ_m8, iZ_add, iZ_sub, iZ_mul, iZ_neg, nz0, nzi, iZ_lt, iZ_le, iZ_inj, b2_z, b2_o, ite_bPz, ite_bPo, xb_bP, iZ_xin, if_pos, ite_self, ↓reduceIte, Int.reduceAdd, Int.reduceSub, Int.reduceMul, Int.reduceNeg, Int.reduceLT, Int.reduceLE, if_neg, nS, iZ_clampN, iZ_bit, iZ_one, iZ_and, iZ_or, iZ_ndn, h1]
theorem x_collect {M : xM} {s P k set : Nat} {C : Nat → Int} (h : cBd M s P C) (hk : ∀ p, p < P → k ≠ 10 * s + 1 + p) (hs : set < 512) : ∃ M', fX5_collect [.inr (.inr (5, s)), .inl (iZ (set)), .inr (.inr (6, k))] M = some (none, M') ∧ xSame (fun r => r = (44, k)) M M' ∧ ∀ c, c < 512 → (sB M' k c = true ↔ ∃ p, p < P ∧ set.testBit p = true ∧ C c = (p : Int)) := by
  obtain ⟨h0, hP, hB⟩ := h
  obtain ⟨M1, a1, a2, a3⟩ := x_wipe (M := M) (k := k)
  obtain ⟨M2, b1, b2, b3⟩ := xfor_M (sg := gX5_collect) (st := fun i M => (6, [some (.inr (.inr (5, s))), some (.inl (iZ (set))), some (.inr (.inr (6, k))), some (.inl (iZ (i)))], [], M)) (I := fun n K => xSame (fun r => r = (44, k)) M K ∧ ∀ c, c < 512 → (sB K k c = true ↔ ∃ p, p < n ∧ set.testBit p = true ∧ C c = (p : Int))) (n := P) (fun i K hi hK => by
    obtain ⟨k1, k2⟩ := hK
    have g0 : xI K (5, s) 0 = iZ P := by rw [(k1 (5, s) (by simp)).1]; exact h0
    by_cases e : set.testBit i = true
    · obtain ⟨K2, c1, c2, c3⟩ := x_join (M := K) (hk i hi)
      refine ⟨K2, ?_, k1.tr c2, fun c hc => ?_⟩
      · rw [xfix_unf, sX5_collect_6]
        simp (disch := omega) only [xk_none, xk_inl, xk_inr, xk_ite, xri_v, xrl_v, xrv_v, xb_z0, xb_z1, xb_b2, if_true, if_false, ite_true, ite_false, iZ_lit, iZ_m1, iZ_m99, iZ_m8, iZ_add, iZ_sub, iZ_mul, iZ_neg, nz0, nzi, iZ_lt, iZ_le, iZ_inj, b2_z, b2_o, ite_bPz, ite_bPo, xb_bP, iZ_xin, if_pos, ite_self, ↓reduceIte, Int.reduceAdd, Int.reduceSub, Int.reduceMul, Int.reduceNeg, Int.reduceLT, Int.reduceLE, if_neg, nS, iZ_clampN, iZ_bit, iZ_one, iZ_and, iZ_or, iZ_ndn, g0, bP_t e, c1]
      · rw [c3 c hc, Bool.or_eq_true, k2 c hc, sB_same k1 (by simp; exact fun z => hk i hi z.symm) c, hB i hi c hc]
        constructor
        · rintro (⟨p, p1, p2⟩ | z)
          · exact ⟨p, by omega, p2⟩
          · exact ⟨i, by omega, e, z⟩
        · rintro ⟨p, p1, p2, p3⟩
          by_cases e2 : p = i
          · exact .inr (e2 ▸ p3)
          · exact .inl ⟨p, by omega, p2, p3⟩
    · refine ⟨K, ?_, k1, fun c hc => ?_⟩
      · rw [xfix_unf, sX5_collect_6]
        simp (disch := omega) only [xk_none, xk_inl, xk_inr, xk_ite, xri_v, xrl_v, xrv_v, xb_z0, xb_z1, xb_b2, if_true, if_false, ite_true, ite_false, iZ_lit, iZ_m1, iZ_m99, iZ_m8, iZ_add, iZ_sub, iZ_mul, iZ_neg, nz0, nzi, iZ_lt, iZ_le, iZ_inj, b2_z, b2_o, ite_bPz, ite_bPo, xb_bP, iZ_xin, if_pos, ite_self, ↓reduceIte, Int.reduceAdd, Int.reduceSub, Int.reduceMul, Int.reduceNeg, Int.reduceLT, Int.reduceLE, if_neg, nS, iZ_clampN, iZ_bit, iZ_one, iZ_and, iZ_or, iZ_ndn, g0, bP_f e]
      · rw [k2 c hc]
        constructor
        · rintro ⟨p, p1, p2⟩
          exact ⟨p, by omega, p2⟩
        · rintro ⟨p, p1, p2, p3⟩
          by_cases e2 : p = i
          · exact absurd (e2 ▸ p2) e
          · exact ⟨p, by omega, p2, p3⟩) (a := 0) (M := M1) (by omega) ⟨a2, fun c hc => by rw [a3 c hc]; exact ⟨fun z => Bool.noConfusion z, fun ⟨p, p1, _⟩ => by omega⟩⟩
  refine ⟨M2, ?_, b2, b3⟩
  have g0 : xI M2 (5, s) 0 = iZ P := by rw [(b2 (5, s) (by simp)).1]; exact h0
  show xfix gX5_collect (0, [some (.inr (.inr (5, s))), some (.inl (iZ (set))), some (.inr (.inr (6, k))), none], [], M) = _; rw [xfix_unf, sX5_collect_0]
  simp (disch := omega) only [xk_none, xk_inl, xk_inr, xk_ite, xri_v, xrl_v, xrv_v, xb_z0, xb_z1, xb_b2, if_true, if_false, ite_true, ite_false, iZ_lit, iZ_m1, iZ_m99, iZ_m8, iZ_add, iZ_sub, iZ_mul, iZ_neg, nz0, nzi, iZ_lt, iZ_le, iZ_inj, b2_z, b2_o, ite_bPz, ite_bPo, xb_bP, iZ_xin, if_pos, ite_self, ↓reduceIte, Int.reduceAdd, Int.reduceSub, Int.reduceMul, Int.reduceNeg, Int.reduceLT, Int.reduceLE, if_neg, a1]
  refine Eq.trans b1 ?_
  rw [xfix_unf, sX5_collect_6]
  simp (disch := omega) only [xk_none, xk_inl, xk_inr, xk_ite, xri_v, xrl_v, xrv_v, xb_z0, xb_z1, xb_b2, if_true, if_false, ite_true, ite_false, iZ_lit, iZ_m1, iZ_m99, iZ_m8, iZ_add, iZ_sub, iZ_mul, iZ_neg, nz0, nzi, iZ_lt, iZ_le, iZ_inj, b2_z, b2_o, ite_bPz, ite_bPo, xb_bP, iZ_xin, if_pos, ite_self, ↓reduceIte, Int.reduceAdd, Int.reduceSub, Int.reduceMul, Int.reduceNeg, Int.reduceLT, Int.reduceLE, if_neg, nS, iZ_clampN, iZ_bit, iZ_one, iZ_and, iZ_or, iZ_ndn, g0]
