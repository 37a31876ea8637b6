/-! the class: heaps while taking apart -/
theorem x_gather {M : xM} {k P : Nat} (hP : P ≤ 9) : ∃ M', fX3_gather [.inr (.inr (3, k)), .inl (iZ (P))] M = some (none, M') ∧ xSm (fun r j => r = (35, k) ∨ (r = (3, k) ∧ j = 1)) M M' ∧ xI M' (3, k) 1 = iZ 0 ∧ ∀ p, p < 9 → xI M' (35, k) p = iZ ((if p < P then 2 ^ P - 1 else 0 : Nat) : Int) := by
  have h9 : (2 : Nat) ^ P ≤ 512 := Nat.pow_le_pow_right (n := 2) (by omega) hP
  have h1 := Nat.two_pow_pos P
  have e0 : ((2 ^ P : Nat) : Int) - 1 = ((2 ^ P - 1 : Nat) : Int) := by omega
  obtain ⟨M2, b1, b2, b3⟩ := xfor_M (sg := gX3_gather) (st := fun i M => (7, [some (.inr (.inr (3, k))), some (.inl (iZ (P))), some (.inl (iZ (i)))], [], M)) (I := fun n K => xSame (fun r => r = (35, k)) (xpI M (3, k) 1 (iZ 0)) K ∧ ∀ p, p < n → xI K (35, k) p = iZ ((if p < P then 2 ^ P - 1 else 0 : Nat) : Int)) (n := 9) (fun i K hi hK => by
    refine ⟨xpI K (35, k) i (iZ ((if i < P then 2 ^ P - 1 else 0 : Nat) : Int)), ?_, hK.1.pI rfl, fun p hp => ?_⟩
    · by_cases e : i < P
      · rw [if_pos e]
        rw [xfix_unf, sX3_gather_7]
        simp (disch := omega) only [xk_none, xk_inl, xk_inr, xk_ite, xri_v, xrl_v, xrv_v, xb_z0, xb_z1, xb_b2, if_true, if_false, ite_true, ite_false, iZ_lit, iZ_m1, iZ_m99, iZ_m8, iZ_add, iZ_sub, iZ_mul, iZ_neg, nz0, nzi, iZ_lt, iZ_le, iZ_inj, b2_z, b2_o, ite_bPz, ite_bPo, xb_bP, iZ_xin, if_pos, ite_self, ↓reduceIte, Int.reduceAdd, Int.reduceSub, Int.reduceMul, Int.reduceNeg, Int.reduceLT, Int.reduceLE, if_neg, nS, iZ_clampN, iZ_bit, iZ_one, iZ_and, iZ_or, iZ_ndn, e0]
      · rw [if_neg e]
        have z0 : ((0 : Nat) : Int) = 0 := rfl
        rw [xfix_unf, sX3_gather_7]
        simp (disch := omega) only [xk_none, xk_inl, xk_inr, xk_ite, xri_v, xrl_v, xrv_v, xb_z0, xb_z1, xb_b2, if_true, if_false, ite_true, ite_false, iZ_lit, iZ_m1, iZ_m99, iZ_m8, iZ_add, iZ_sub, iZ_mul, iZ_neg, nz0, nzi, iZ_lt, iZ_le, iZ_inj, b2_z, b2_o, ite_bPz, ite_bPo, xb_bP, iZ_xin, if_pos, ite_self, ↓reduceIte, Int.reduceAdd, Int.reduceSub, Int.reduceMul, Int.reduceNeg, Int.reduceLT, Int.reduceLE, if_neg, nS, iZ_clampN, iZ_bit, iZ_one, iZ_and, iZ_or, iZ_ndn, z0]
    · rw [xI_pI]
      by_cases e : p = i
      · rw [if_pos ⟨rfl, e⟩, e]
      · rw [if_neg (fun z => e z.2)]; exact hK.2 p (by omega)) (a := 0) (M := xpI M (3, k) 1 (iZ 0)) (by omega) ⟨xSame.rf, fun p hp => by omega⟩
  refine ⟨M2, ?_, (xSm.rf.pI (.inr ⟨rfl, rfl⟩)).tr (b2.sm.wk fun r j z => .inl z), ?_, b3⟩
  · have e9 : ((9 : Nat) : Int) = 9 := rfl
    show xfix gX3_gather (0, [some (.inr (.inr (3, k))), some (.inl (iZ (P))), none], [], M) = _; rw [xfix_unf, sX3_gather_0]
    simp (disch := omega) only [xk_none, xk_inl, xk_inr, xk_ite, xri_v, xrl_v, xrv_v, xb_z0, xb_z1, xb_b2, if_true, if_false, ite_true, ite_false, iZ_lit, iZ_m1, iZ_m99, iZ_m8, iZ_add, iZ_sub, iZ_mul, iZ_neg, nz0, nzi, iZ_lt, iZ_le, iZ_inj, b2_z, b2_o, ite_bPz, ite_bPo, xb_bP, iZ_xin, if_pos, ite_self, ↓reduceIte, Int.reduceAdd, Int.reduceSub, Int.reduceMul, Int.reduceNeg, Int.reduceLT, Int.reduceLE, if_neg]
    refine Eq.trans b1 ?_
    rw [xfix_unf, sX3_gather_7]
    simp (disch := omega) only [xk_none, xk_inl, xk_inr, xk_ite, xri_v, xrl_v, xrv_v, xb_z0, xb_z1, xb_b2, if_true, if_false, ite_true, ite_false, iZ_lit, iZ_m1, iZ_m99, iZ_m8, iZ_add, iZ_sub, iZ_mul, iZ_neg, nz0, nzi, iZ_lt, iZ_le, iZ_inj, b2_z, b2_o, ite_bPz, ite_bPo, xb_bP, iZ_xin, if_pos, ite_self, ↓reduceIte, Int.reduceAdd, Int.reduceSub, Int.reduceMul, Int.reduceNeg, Int.reduceLT, Int.reduceLE, if_neg, e9]
  · rw [(b2 (3, k) (by simp)).1, xI_pI, if_pos ⟨rfl, rfl⟩]
