/-! the class: heaps while taking apart -/
theorem x_gather {M : xM} {k P : Nat} (hP : P ≤ 9) : ∃ M', fX3_gather [.inr (.inr (3, k)), .inl (iZ (P))] M = some (none, M') ∧ xSm (fun r j => r = (35, k) ∨ (r = (3, k) ∧ j = 1)) M M' ∧ xI M' (3, k) 1 = iZ 0 ∧ ∀ p, p < 9 → xI M' (35, k) p = iZ ((if p < P then 2 ^ P - 1 else 0 : Nat) : Int) := by
  have h9 : (2 : Nat) ^ P ≤ 512 := Nat.pow_le_pow_right (n := 2) (by omega) hP
  have h1 := Nat.two_pow_pos P
  have e0 : ((2 ^ P : Nat) : Int) - 1 = ((2 ^ P - 1 : Nat) : Int) := by omega
  obtain ⟨M2, b1, b2, b3⟩ := xfor_M (sg := gX3_gather) (st := fun i M => (7, [some (.inr (.inr (3, k))), some (.inl (iZ (P))), some (.inl (iZ (i)))], [], M)) (I := fun n K => xSame (fun r => r = (35, k)) (xpI M (3, k) 1 (iZ 0)) K ∧ ∀ p, p < n → xI K (35, k) p = iZ ((if p < P then 2 ^ P - 1 else 0 : Nat) : Int)) (n := 9) (fun i K hi hK => by
    refine ⟨xpI K (35, k) i (iZ ((if i < P then 2 ^ P - 1 else 0 : Nat) : Int)), ?_, hK.1.pI rfl, fun p hp => ?_⟩
    · by_cases e : i < P
      · rw [if_pos e]
        rw [xfix_unf, sX3_gather_7]
        simp (disch := omega) only [xk_none, xk_inl, xk_inr, xk_ite, xri_v, xrl_v, xrv_v, xb_z0, xb_z1, xb_b2, if_true, if_false, ite_true, ite_false, iZ_lit, iZ_m1, iZ_m99, iZ_m8, iZ_add, iZ_sub, iZ_mul, iZ_neg, nz0, nzi, iZ_lt, iZ_le, iZ_inj, b2_z, b2_o, ite_bPz, ite_bPo, xb_bP, iZ_xin, if_pos, ite_self, ↓reduceIte, Int.reduceAdd, Int.reduceSub, Int.reduceMul, Int.reduceNeg, Int.reduceLT, Int.reduceLE, if_neg, nS, iZ_clampN, iZ_bit, iZ_one, iZ_and, iZ_or, iZ_ndn, e0]
      · rw [if_neg e]
        have z0 : ((0 : Nat) : Int) = 0 := rfl
        rw [xfix_unf, sX3_gather_7]
        simp (disch := omega) only [xk_none, xk_inl, xk_inr, xk_ite, xri_v, xrl_v, xrv_v, xb_z0, xb_z1, xb_b2, if_true, if_false, ite_true, ite_false, iZ_lit, iZ_m1, iZ_m99, iZ_m8, iZ_add, iZ_sub, iZ_mul, iZ_neg, nz0, nzi, iZ_lt, iZ_le, iZ_inj, b2_z, b2_o, ite_bPz, ite_bPo, xb_bP, iZ_xin, if_pos, ite_self, ↓reduceIte, Int.reduceAdd, Int.reduceSub, Int.reduceMul, Int.reduceNeg, Int.reduceLT, Int.reduceLE, if_neg, nS, iZ_clampN, iZ_bit, iZ_one, iZ_and, iZ_or, iZ_ndn, z0]
    · rw [xI_pI]
      by_cases e : p = i
      · rw [if_pos ⟨rfl, e⟩, e]
      · rw [if_neg (fun z => e z.2)]; exact hK.2 p (by omega)) (a := 0) (M := xpI M (3, k) 1 (iZ 0)) (by omega) ⟨xSame.rf, fun p hp => by omega⟩
  refine ⟨M2, ?_, (xSm.rf.pI (.inr ⟨rfl, rfl⟩)).tr (b2.sm.wk fun r j z => .inl z), ?_, b3⟩
  · have e9 : ((9 : Nat) : Int) = 9 := rfl
    show xfix gX3_gather (0, [some (.inr (.inr (3, k))), some (.inl (iZ (P))), none], [], M) = _; rw [xfix_unf, sX3_gather_0]
    simp (disch := omega) only [xk_none, xk_inl, xk_inr, xk_ite, xri_v, xrl_v, xrv_v, xb_z0, xb_z1, xb_b2, if_true, if_false, ite_true, ite_false, iZ_lit, iZ_m1, iZ_m99, iZ_m8, iZ_add, iZ_sub, iZ_mul, iZ_neg, nz0, nzi, iZ_lt, iZ_le, iZ_inj, b2_z, b2_o, ite_bPz, ite_bPo, xb_bP, iZ_xin, if_pos, ite_self, ↓reduceIte, Int.reduceAdd, Int.reduceSub, Int.reduceMul, Int.reduceNeg, Int.reduceLT, Int.reduceLE, if_neg]
    refine Eq.trans b1 ?_
    rw [xfix_unf, sX3_gather_7]
    simp (disch := omega) only [xk_none, xk_inl, xk_inr, xk_ite, xri_v, xrl_v, xrv_v, xb_z0, xb_z1, xb_b2, if_true, if_false, ite_true, ite_false, iZ_lit, iZ_m1, iZ_m99, iZ_m8, iZ_add, iZ_sub, iZ_mul, iZ_neg, nz0, nzi, iZ_lt, iZ_le, iZ_inj, b2_z, b2_o, ite_bPz, ite_bPo, xb_bP, iZ_xin, if_pos, ite_self, ↓reduceIte, Int.reduceAdd, Int.reduceSub, Int.reduceMul, Int.reduceNeg, Int.reduceLT, Int.reduceLE, if_neg, e9]
  · rw [(b2 (3, k) (by simp)).1, xI_pI, if_pos ⟨rfl, rfl⟩]
theorem x_divide {M : xM} {k heap half : Nat} {n : Int} {G : Nat → Nat} (hh : heap < 512) (hf : half < 512) (hn : xI M (3, k) 1 = iZ n) (hG : ∀ p, p < 9 → xI M (35, k) p = iZ (G p)) : ∃ M', fX3_divide [.inr (.inr (3, k)), .inl (iZ (heap)), .inl (iZ (half))] M = some (none, M') ∧ xSm (fun r j => r = (35, k) ∨ (r = (3, k) ∧ j = 1)) M M' ∧ xI M' (3, k) 1 = iZ (n + 1) ∧ ∀ p, p < 9 → xI M' (35, k) p = iZ ((if half.testBit p = true then half else if heap.testBit p = true then ndn heap half else G p : Nat) : Int) := by
  obtain ⟨M2, b1, b2, b3⟩ := xfor_M (sg := gX3_divide) (st := fun i M => (12, [some (.inr (.inr (3, k))), some (.inl (iZ (heap))), some (.inl (iZ (half))), some (.inl (iZ (i)))], [], M)) (I := fun m K => xSame (fun r => r = (35, k)) (xpI M (3, k) 1 (iZ (n + 1))) K ∧ ∀ p, p < 9 → xI K (35, k) p = iZ ((if p < m then (if half.testBit p = true then half else if heap.testBit p = true then ndn heap half else G p) else G p : Nat) : Int)) (n := 9) (fun i K hi hK => by
    obtain ⟨k1, k2⟩ := hK
    have fin : ∀ v : Nat, v = (if half.testBit i = true then half else if heap.testBit i = true then ndn heap half else G i) → ∀ p, p < 9 → xI (xpI K (35, k) i (iZ v)) (35, k) p = iZ ((if p < i + 1 then (if half.testBit p = true then half else if heap.testBit p = true then ndn heap half else G p) else G p : Nat) : Int) := fun v hv p hp => by
      rw [xI_pI]
      by_cases e : p = i
      · subst e
        rw [if_pos ⟨rfl, rfl⟩, if_pos (show p < p + 1 by omega), hv]
      · rw [if_neg (fun z => e z.2), k2 p hp]
        by_cases e2 : p < i
        · rw [if_pos e2, if_pos (show p < i + 1 by omega)]
        · rw [if_neg e2, if_neg (show ¬ p < i + 1 by omega)]
    by_cases y : half.testBit i = true
    · refine ⟨xpI K (35, k) i (iZ half), ?_, k1.pI rfl, fin half (by rw [if_pos y])⟩
      rw [xfix_unf, sX3_divide_12]
      simp (disch := omega) only [xk_none, xk_inl, xk_inr, xk_ite, xri_v, xrl_v, xrv_v, xb_z0, xb_z1, xb_b2, if_true, if_false, ite_true, ite_false, iZ_lit, iZ_m1, iZ_m99, iZ_m8, iZ_add, iZ_sub, iZ_mul, iZ_neg, nz0, nzi, iZ_lt, iZ_le, iZ_inj, b2_z, b2_o, ite_bPz, ite_bPo, xb_bP, iZ_xin, if_pos, ite_self, ↓reduceIte, Int.reduceAdd, Int.reduceSub, Int.reduceMul, Int.reduceNeg, Int.reduceLT, Int.reduceLE, if_neg, nS, iZ_clampN, iZ_bit, iZ_one, iZ_and, iZ_or, iZ_ndn, bP_t (c := half.testBit i = true) y]
    · by_cases y2 : heap.testBit i = true
      · refine ⟨xpI K (35, k) i (iZ (ndn heap half)), ?_, k1.pI rfl, fin _ (by rw [if_neg y, if_pos y2])⟩
        rw [xfix_unf, sX3_divide_12]
        simp (disch := omega) only [xk_none, xk_inl, xk_inr, xk_ite, xri_v, xrl_v, xrv_v, xb_z0, xb_z1, xb_b2, if_true, if_false, ite_true, ite_false, iZ_lit, iZ_m1, iZ_m99, iZ_m8, iZ_add, iZ_sub, iZ_mul, iZ_neg, nz0, nzi, iZ_lt, iZ_le, iZ_inj, b2_z, b2_o, ite_bPz, ite_bPo, xb_bP, iZ_xin, if_pos, ite_self, ↓reduceIte, Int.reduceAdd, Int.reduceSub, Int.reduceMul, Int.reduceNeg, Int.reduceLT, Int.reduceLE, if_neg, nS, iZ_clampN, iZ_bit, iZ_one, iZ_and, iZ_or, iZ_ndn, bP_f (c := half.testBit i = true) y, bP_t (c := heap.testBit i = true) y2]
      · refine ⟨K, ?_, k1, fun p hp => ?_⟩
        · rw [xfix_unf, sX3_divide_12]
          simp (disch := omega) only [xk_none, xk_inl, xk_inr, xk_ite, xri_v, xrl_v, xrv_v, xb_z0, xb_z1, xb_b2, if_true, if_false, ite_true, ite_false, iZ_lit, iZ_m1, iZ_m99, iZ_m8, iZ_add, iZ_sub, iZ_mul, iZ_neg, nz0, nzi, iZ_lt, iZ_le, iZ_inj, b2_z, b2_o, ite_bPz, ite_bPo, xb_bP, iZ_xin, if_pos, ite_self, ↓reduceIte, Int.reduceAdd, Int.reduceSub, Int.reduceMul, Int.reduceNeg, Int.reduceLT, Int.reduceLE, if_neg, nS, iZ_clampN, iZ_bit, iZ_one, iZ_and, iZ_or, iZ_ndn, bP_f (c := half.testBit i = true) y, bP_f (c := heap.testBit i = true) y2]
        · rw [k2 p hp]
          by_cases e : p = i
          · subst e
            rw [if_neg (show ¬ p < p by omega), if_pos (show p < p + 1 by omega), if_neg y, if_neg y2]
          · by_cases e2 : p < i
            · rw [if_pos e2, if_pos (show p < i + 1 by omega)]
            · rw [if_neg e2, if_neg (show ¬ p < i + 1 by omega)]) (a := 0) (M := xpI M (3, k) 1 (iZ (n + 1))) (by omega) ⟨xSame.rf, fun p hp => by rw [if_neg (by omega), xI_pI, if_neg (by simp)]; exact hG p hp⟩
  refine ⟨M2, ?_, (xSm.rf.pI (.inr ⟨rfl, rfl⟩)).tr (b2.sm.wk fun r j z => .inl z), ?_, fun p hp => by rw [b3 p hp, if_pos hp]⟩
  · have e9 : ((9 : Nat) : Int) = 9 := rfl
    show xfix gX3_divide (0, [some (.inr (.inr (3, k))), some (.inl (iZ (heap))), some (.inl (iZ (half))), none], [], M) = _; rw [xfix_unf, sX3_divide_0]
    simp (disch := omega) only [xk_none, xk_inl, xk_inr, xk_ite, xri_v, xrl_v, xrv_v, xb_z0, xb_z1, xb_b2, if_true, if_false, ite_true, ite_false, iZ_lit, iZ_m1, iZ_m99, iZ_m8, iZ_add, iZ_sub, iZ_mul, iZ_neg, nz0, nzi, iZ_lt, iZ_le, iZ_inj, b2_z, b2_o, ite_bPz, ite_bPo, xb_bP, iZ_xin, if_pos, ite_self, ↓reduceIte, Int.reduceAdd, Int.reduceSub, Int.reduceMul, Int.reduceNeg, Int.reduceLT, Int.reduceLE, if_neg, hn]
    refine Eq.trans b1 ?_
    rw [xfix_unf, sX3_divide_12]
    simp (disch := omega) only [xk_none, xk_inl, xk_inr, xk_ite, xri_v, xrl_v, xrv_v, xb_z0, xb_z1, xb_b2, if_true, if_false, ite_true, ite_false, iZ_lit, iZ_m1, iZ_m99, iZ_m8, iZ_add, iZ_sub, iZ_mul, iZ_neg, nz0, nzi, iZ_lt, iZ_le, iZ_inj, b2_z, b2_o, ite_bPz, ite_bPo, xb_bP, iZ_xin, if_pos, ite_self, ↓reduceIte, Int.reduceAdd, Int.reduceSub, Int.reduceMul, Int.reduceNeg, Int.reduceLT, Int.reduceLE, if_neg, e9]
  · rw [(b2 (3, k) (by simp)).1, xI_pI, if_pos ⟨rfl, rfl⟩]
