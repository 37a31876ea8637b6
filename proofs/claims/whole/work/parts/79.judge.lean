/-! the reference: judging a step -/
noncomputable def jB (A : dA) (heap half way : Nat) : Nat → Nat
  | 0 => 0
  | p + 1 => if half.testBit p = true then jB A heap half way p ||| ndn (barS A (6 * p + way) &&& heap) half else jB A heap half way p
def jLo (A : dA) (heap half j : Nat) : Prop := heap.testBit (aOne A j) = true ∧ heap.testBit (aTwo A j) = true ∧ half.testBit (aOne A j) ≠ half.testBit (aTwo A j) ∧ ¬ rchd A j heap
def jHf (A : dA) (heap half : Nat) : Prop := half < heap ∧ heap < 2 ^ aP A ∧ ndn half heap = 0
noncomputable def jLw (half n : Nat) : Nat := lst (fun p => half.testBit p = true) n
noncomputable def jJt (A : dA) (heap half : Nat) : Nat := lst (fun j => jLo A heap half j) (aJ A)
noncomputable def jH (A : dA) (G : Nat → Nat) (heap half way : Nat) : Int × Int × (Nat → Nat) := @ite _ (jHf A heap half) (Classical.propDecidable _) (if jB A heap half way (aP A) = 0 then (if jJt A heap half < aJ A then (3, (jJt A heap half : Int), G) else (0, -1, fun p => if heap.testBit p = true then (if half.testBit p = true then half else ndn heap half) else G p)) else (2, (jLw (jB A heap half way (aP A)) (aP A) : Int), G)) (1, -1, G)
noncomputable def jOne (A : dA) (G : Nat → Nat) (half way : Nat) : Int × Int × (Nat → Nat) := jH A G (G (jLw half 9)) half way
theorem jB_lt (A : dA) {heap half way : Nat} (hh : heap < 2 ^ aP A) : ∀ i, jB A heap half way i < 2 ^ aP A := by
  intro i
  induction i with
  | zero => exact Nat.two_pow_pos _
  | succ i ih =>
    unfold jB
    split
    · refine Nat.or_lt_two_pow ih (Nat.lt_of_le_of_lt (ndn_le _ _) (Nat.lt_of_le_of_lt Nat.and_le_right hh))
    · exact ih
theorem jLw_lt {a n : Nat} (h0 : a ≠ 0) (h : a < 2 ^ n) : jLw a n < n := by
  refine Classical.byContradiction fun c => ?_
  have hn : jLw a n = n := Nat.le_antisymm (lst_le _ _) (by omega)
  refine h0 (Nat.eq_of_testBit_eq fun i => ?_)
  rw [Nat.zero_testBit]
  by_cases hi : i < n
  · have := lst_no (fun p => a.testBit p = true) n i (by unfold jLw at hn; omega)
    simpa using this
  · exact Nat.testBit_lt_two_pow (Nat.lt_of_lt_of_le h (Nat.pow_le_pow_right (by omega) (by omega)))
theorem m_judgesOne {A : dA} {M : xM} {G : Nat → Nat} {half way : Nat} (hA : mA M A) (hB : mB M (barS A)) (hG : ∀ p, p < 9 → xI M (169, 0) p = iZ (G p) ∧ G p < 512) (h1 : 1 ≤ half) (h2 : half < 2 ^ aP A) (hw : way < 6) : ∃ M', fX12_judgesOne [.inr (.inr (12, 0)), .inl (iZ (half)), .inl (iZ (way))] M = some (some (.inl (iZ ((jOne A G half way).1))), M') ∧ xSm (fun r j => r = (169, 0) ∨ (r = (12, 0) ∧ j = 74)) M M' ∧ (∀ p, p < 9 → xI M' (169, 0) p = iZ ((jOne A G half way).2.2 p) ∧ (jOne A G half way).2.2 p < 512) ∧ xI M' (12, 0) 74 = iZ (jOne A G half way).2.1 ∧ (0 ≤ (jOne A G half way).1 ∧ (jOne A G half way).1 ≤ 3) := by
  have hP := hA.ok.P
  have hJ : aJ A ≤ 8 := hA.1.2.1
  have h9 : (2 : Nat) ^ aP A ≤ 512 := Nat.pow_le_pow_right (n := 2) (by omega) hP
  have hl := jLw_lt (a := half) (n := 9) (by omega) (by omega)
  have hl1 : half.testBit (jLw half 9) = true := lst_is (fun p => half.testBit p = true) 9 hl
  unfold jOne
  have hg := hG _ hl
  have hl2 := xfor_F (sg := gX12_judgesOne) (fun q => (2, [some (.inr (.inr (12, 0))), some (.inl (iZ (half))), some (.inl (iZ (way))), some (.inl (iZ (q))), none, none, none, none, none, none], [], M)) (a := 0) (n := jLw half 9) (by omega) (fun q _ hq => by
    have hno : ¬ half.testBit q = true := lst_no (fun p => half.testBit p = true) 9 q hq
    rw [nS]
    rw [xfix_unf, sX12_judgesOne_2]
    simp (disch := omega) only [xk_none, xk_inl, xk_inr, xk_ite, xri_v, xrl_v, xrv_v, xb_z0, xb_z1, xb_b2, if_true, if_false, ite_true, ite_false, iZ_lit, iZ_m1, iZ_m99, iZ_m8, iZ_add, iZ_sub, iZ_mul, iZ_neg, nz0, nzi, iZ_lt, iZ_le, iZ_inj, b2_z, b2_o, ite_bPz, ite_bPo, xb_bP, iZ_xin, if_pos, ite_self, ↓reduceIte, Int.reduceAdd, Int.reduceSub, Int.reduceMul, Int.reduceNeg, Int.reduceLT, Int.reduceLE, if_neg, nS, iZ_clampN, iZ_bit, iZ_one, iZ_and, iZ_or, iZ_ndn, bP_f hno])
  generalize hlw : jLw half 9 = l at *
  generalize hhp : G l = heap at *
  have hMM : mA (xpI M (12, 0) 74 (iZ (-1))) A := hA.sm (P := fun r j => r = (12, 0) ∧ j = 74) (xSm.rf.pI ⟨rfl, rfl⟩) (by simp) (by simp) (by intro r hr j; simp only [List.mem_cons, List.mem_nil_iff, or_false] at hr; rcases hr with e | e | e | e | e | e | e | e <;> subst e <;> simp)
  have hs0 : xSm (fun r j => r = (169, 0) ∨ (r = (12, 0) ∧ j = 74)) M (xpI M (12, 0) 74 (iZ (-1))) := xSm.rf.pI (.inr ⟨rfl, rfl⟩)
  have hG1 : ∀ p, p < 9 → xI (xpI M (12, 0) 74 (iZ (-1))) (169, 0) p = iZ (G p) ∧ G p < 512 := fun p hp => by rw [xI_pI, if_neg (by simp)]; exact hG p hp
  have hB1 : ∀ k, k < 54 → xI (xpI M (12, 0) 74 (iZ (-1))) (132, 0) k = iZ (barS A k) := fun k hk => by rw [xI_pI, if_neg (by simp)]; exact hB.1 k hk
  have f74 : xI (xpI M (12, 0) 74 (iZ (-1))) (12, 0) 74 = iZ (-1) := pF_eq
  have f2 : xI (xpI M (12, 0) 74 (iZ (-1))) (12, 0) 2 = iZ (aP A) := hMM.2.1
  have f3 : xI (xpI M (12, 0) 74 (iZ (-1))) (12, 0) 3 = iZ (aJ A) := hMM.2.2.1
  have hih := m_isHalf (P := aP A) (heap : Int) (half : Int) (xpI M (12, 0) 74 (iZ (-1))) ⟨f2, hP⟩ (by omega) (by omega)
  have top : fX12_judgesOne [.inr (.inr (12, 0)), .inl (iZ (half)), .inl (iZ (way))] M = xfix gX12_judgesOne (2, [some (.inr (.inr (12, 0))), some (.inl (iZ (half))), some (.inl (iZ (way))), some (.inl (iZ (l))), none, none, none, none, none, none], [], M) := by
    show xfix gX12_judgesOne (0, [some (.inr (.inr (12, 0))), some (.inl (iZ (half))), some (.inl (iZ (way))), none, none, none, none, none, none, none], [], M) = _; rw [xfix_unf, sX12_judgesOne_0]
    simp (disch := omega) only [xk_none, xk_inl, xk_inr, xk_ite, xri_v, xrl_v, xrv_v, xb_z0, xb_z1, xb_b2, if_true, if_false, ite_true, ite_false, iZ_lit, iZ_m1, iZ_m99, iZ_m8, iZ_add, iZ_sub, iZ_mul, iZ_neg, nz0, nzi, iZ_lt, iZ_le, iZ_inj, b2_z, b2_o, ite_bPz, ite_bPo, xb_bP, iZ_xin, if_pos, ite_self, ↓reduceIte, Int.reduceAdd, Int.reduceSub, Int.reduceMul, Int.reduceNeg, Int.reduceLT, Int.reduceLE, if_neg]
    exact hl2
  rw [top]
  unfold jH
  by_cases c1 : jHf A heap half
  · rw [if_pos c1]
    have hh := c1.2.1
    rw [bP_t ⟨heap, half, rfl, rfl, h1, c1.1, c1.2.1, c1.2.2⟩] at hih
    have st1 : xfix gX12_judgesOne (2, [some (.inr (.inr (12, 0))), some (.inl (iZ (half))), some (.inl (iZ (way))), some (.inl (iZ (l))), none, none, none, none, none, none], [], M) = xfix gX12_judgesOne (47, [some (.inr (.inr (12, 0))), some (.inl (iZ (half))), some (.inl (iZ (way))), none, some (.inl (iZ (heap))), some (.inl (iZ ((jB A heap half way 0 : Nat)))), some (.inl (iZ (((0 : Nat))))), none, none, none], [], (xpI M (12, 0) 74 (iZ (-1)))) := by
      rw [xfix_unf, sX12_judgesOne_2]
      simp (disch := omega) only [xk_none, xk_inl, xk_inr, xk_ite, xri_v, xrl_v, xrv_v, xb_z0, xb_z1, xb_b2, if_true, if_false, ite_true, ite_false, iZ_lit, iZ_m1, iZ_m99, iZ_m8, iZ_add, iZ_sub, iZ_mul, iZ_neg, nz0, nzi, iZ_lt, iZ_le, iZ_inj, b2_z, b2_o, ite_bPz, ite_bPo, xb_bP, iZ_xin, if_pos, ite_self, ↓reduceIte, Int.reduceAdd, Int.reduceSub, Int.reduceMul, Int.reduceNeg, Int.reduceLT, Int.reduceLE, if_neg, nS, iZ_clampN, iZ_bit, iZ_one, iZ_and, iZ_or, iZ_ndn, bP_t hl1, hg.1, hih]
      rfl
    generalize hM1 : xpI M (12, 0) 74 (iZ (-1)) = M1 at *
    have lp47 := xfor_F (sg := gX12_judgesOne) (fun i => (47, [some (.inr (.inr (12, 0))), some (.inl (iZ (half))), some (.inl (iZ (way))), none, some (.inl (iZ (heap))), some (.inl (iZ ((jB A heap half way i : Nat)))), some (.inl (iZ (i))), none, none, none], [], M1)) (a := 0) (n := aP A) (by omega) (fun i _ hi => by
      have ecl : Int32.toNatClampNeg (iZ (6 * (i : Int) + (way : Int))) = 6 * i + way := by rw [iZ_clamp (by omega)]; omega
      have hb := hB1 (6 * i + way) (by omega)
      have hb5 := jB_lt A (half := half) (way := way) hh i
      rw [nS]
      by_cases e : half.testBit i = true
      · have eS : jB A heap half way (i + 1) = jB A heap half way i ||| ndn (barS A (6 * i + way) &&& heap) half := by
          show (if half.testBit i = true then _ else _) = _
          rw [if_pos e]
        rw [eS]
        rw [xfix_unf, sX12_judgesOne_47]
        simp (disch := omega) only [xk_none, xk_inl, xk_inr, xk_ite, xri_v, xrl_v, xrv_v, xb_z0, xb_z1, xb_b2, if_true, if_false, ite_true, ite_false, iZ_lit, iZ_m1, iZ_m99, iZ_m8, iZ_add, iZ_sub, iZ_mul, iZ_neg, nz0, nzi, iZ_lt, iZ_le, iZ_inj, b2_z, b2_o, ite_bPz, ite_bPo, xb_bP, iZ_xin, if_pos, ite_self, ↓reduceIte, Int.reduceAdd, Int.reduceSub, Int.reduceMul, Int.reduceNeg, Int.reduceLT, Int.reduceLE, if_neg, nS, iZ_clampN, iZ_bit, iZ_one, iZ_and, iZ_or, iZ_ndn, f2, bP_t e, ecl, hb]
      · have eS : jB A heap half way (i + 1) = jB A heap half way i := by
          show (if half.testBit i = true then _ else _) = _
          rw [if_neg e]
        rw [eS]
        rw [xfix_unf, sX12_judgesOne_47]
        simp (disch := omega) only [xk_none, xk_inl, xk_inr, xk_ite, xri_v, xrl_v, xrv_v, xb_z0, xb_z1, xb_b2, if_true, if_false, ite_true, ite_false, iZ_lit, iZ_m1, iZ_m99, iZ_m8, iZ_add, iZ_sub, iZ_mul, iZ_neg, nz0, nzi, iZ_lt, iZ_le, iZ_inj, b2_z, b2_o, ite_bPz, ite_bPo, xb_bP, iZ_xin, if_pos, ite_self, ↓reduceIte, Int.reduceAdd, Int.reduceSub, Int.reduceMul, Int.reduceNeg, Int.reduceLT, Int.reduceLE, if_neg, nS, iZ_clampN, iZ_bit, iZ_one, iZ_and, iZ_or, iZ_ndn, f2, bP_f e])
    have hb5 := jB_lt A (half := half) (way := way) hh (aP A)
    have st2 : xfix gX12_judgesOne (47, [some (.inr (.inr (12, 0))), some (.inl (iZ (half))), some (.inl (iZ (way))), none, some (.inl (iZ (heap))), some (.inl (iZ ((jB A heap half way (aP A) : Nat)))), some (.inl (iZ ((aP A)))), none, none, none], [], M1) = xfix gX12_judgesOne (99, [some (.inr (.inr (12, 0))), some (.inl (iZ (half))), none, none, some (.inl (iZ (heap))), some (.inl (iZ ((jB A heap half way (aP A) : Nat)))), some (.inl (iZ (((0 : Nat))))), none, none, none], [], M1) := by
      rw [xfix_unf, sX12_judgesOne_47]
      simp (disch := omega) only [xk_none, xk_inl, xk_inr, xk_ite, xri_v, xrl_v, xrv_v, xb_z0, xb_z1, xb_b2, if_true, if_false, ite_true, ite_false, iZ_lit, iZ_m1, iZ_m99, iZ_m8, iZ_add, iZ_sub, iZ_mul, iZ_neg, nz0, nzi, iZ_lt, iZ_le, iZ_inj, b2_z, b2_o, ite_bPz, ite_bPo, xb_bP, iZ_xin, if_pos, ite_self, ↓reduceIte, Int.reduceAdd, Int.reduceSub, Int.reduceMul, Int.reduceNeg, Int.reduceLT, Int.reduceLE, if_neg, nS, iZ_clampN, iZ_bit, iZ_one, iZ_and, iZ_or, iZ_ndn, f2]
      rfl
    rw [st1, lp47, st2]
    generalize jB A heap half way (aP A) = b at *
    by_cases c2 : b = 0
    · rw [if_pos c2]
      have st3 : xfix gX12_judgesOne (99, [some (.inr (.inr (12, 0))), some (.inl (iZ (half))), none, none, some (.inl (iZ (heap))), some (.inl (iZ (b))), some (.inl (iZ (((0 : Nat))))), none, none, none], [], M1) = xfix gX12_judgesOne (143, [some (.inr (.inr (12, 0))), some (.inl (iZ (half))), none, none, some (.inl (iZ (heap))), none, some (.inl (iZ (((0 : Nat))))), none, none, none], [], M1) := by
        subst c2
        have e00 : ((0 : Nat) : Int) = 0 := rfl
        rw [xfix_unf, sX12_judgesOne_99]
        simp (disch := omega) only [xk_none, xk_inl, xk_inr, xk_ite, xri_v, xrl_v, xrv_v, xb_z0, xb_z1, xb_b2, if_true, if_false, ite_true, ite_false, iZ_lit, iZ_m1, iZ_m99, iZ_m8, iZ_add, iZ_sub, iZ_mul, iZ_neg, nz0, nzi, iZ_lt, iZ_le, iZ_inj, b2_z, b2_o, ite_bPz, ite_bPo, xb_bP, iZ_xin, if_pos, ite_self, ↓reduceIte, Int.reduceAdd, Int.reduceSub, Int.reduceMul, Int.reduceNeg, Int.reduceLT, Int.reduceLE, if_neg, f2, e00]
      rw [st3]
      have hj8 : jJt A heap half ≤ aJ A := lst_le _ _
      have stp : ∀ j, j < aJ A → xfix gX12_judgesOne (143, [some (.inr (.inr (12, 0))), some (.inl (iZ (half))), none, none, some (.inl (iZ (heap))), none, some (.inl (iZ (j))), none, none, none], [], M1) = @ite _ (jLo A heap half j) (Classical.propDecidable _) (some (some (.inl (iZ (3))), xpI M1 (12, 0) 74 (iZ j))) (xfix gX12_judgesOne (143, [some (.inr (.inr (12, 0))), some (.inl (iZ (half))), none, none, some (.inl (iZ (heap))), none, some (.inl (iZ (((j : Int) + 1)))), none, none, none], [], M1)) := fun j hj => by
        obtain ⟨o1, o2, o3, o4, o5⟩ := hMM.1.2.2.2.1 j hj
        obtain ⟨g1, g2, _, _⟩ := hMM.2.2.2.2.1 j hj
        have hr := m_isReached hMM hj (show heap < 512 by omega)
        by_cases e1 : heap.testBit (aOne A j) = true
        · by_cases e2 : heap.testBit (aTwo A j) = true
          · by_cases e3 : half.testBit (aOne A j) = half.testBit (aTwo A j)
            · rw [if_neg (fun z => z.2.2.1 e3)]
              rw [xfix_unf, sX12_judgesOne_143]
              simp (disch := omega) only [xk_none, xk_inl, xk_inr, xk_ite, xri_v, xrl_v, xrv_v, xb_z0, xb_z1, xb_b2, if_true, if_false, ite_true, ite_false, iZ_lit, iZ_m1, iZ_m99, iZ_m8, iZ_add, iZ_sub, iZ_mul, iZ_neg, nz0, nzi, iZ_lt, iZ_le, iZ_inj, b2_z, b2_o, ite_bPz, ite_bPo, xb_bP, iZ_xin, if_pos, ite_self, ↓reduceIte, Int.reduceAdd, Int.reduceSub, Int.reduceMul, Int.reduceNeg, Int.reduceLT, Int.reduceLE, if_neg, nS, iZ_clampN, iZ_bit, iZ_one, iZ_and, iZ_or, iZ_ndn, f3, g1, g2, bP_t (c := heap.testBit (aOne A j) = true) e1, bP_t (c := heap.testBit (aTwo A j) = true) e2, e3]
              rw [xfix_unf, sX12_judgesOne_212]
              simp (disch := omega) only [xk_none, xk_inl, xk_inr, xk_ite, xri_v, xrl_v, xrv_v, xb_z0, xb_z1, xb_b2, if_true, if_false, ite_true, ite_false, iZ_lit, iZ_m1, iZ_m99, iZ_m8, iZ_add, iZ_sub, iZ_mul, iZ_neg, nz0, nzi, iZ_lt, iZ_le, iZ_inj, b2_z, b2_o, ite_bPz, ite_bPo, xb_bP, iZ_xin, if_pos, ite_self, ↓reduceIte, Int.reduceAdd, Int.reduceSub, Int.reduceMul, Int.reduceNeg, Int.reduceLT, Int.reduceLE, if_neg, nS, iZ_clampN, iZ_bit, iZ_one, iZ_and, iZ_or, iZ_ndn]
            · have e3' : ¬ bP (half.testBit (aOne A j) = true) = bP (half.testBit (aTwo A j) = true) := fun z => e3 (bP_ne.mp z)
              by_cases e4 : rchd A j heap
              · rw [if_neg (fun z => z.2.2.2 e4)]
                rw [bP_t e4] at hr
                rw [xfix_unf, sX12_judgesOne_143]
                simp (disch := omega) only [xk_none, xk_inl, xk_inr, xk_ite, xri_v, xrl_v, xrv_v, xb_z0, xb_z1, xb_b2, if_true, if_false, ite_true, ite_false, iZ_lit, iZ_m1, iZ_m99, iZ_m8, iZ_add, iZ_sub, iZ_mul, iZ_neg, nz0, nzi, iZ_lt, iZ_le, iZ_inj, b2_z, b2_o, ite_bPz, ite_bPo, xb_bP, iZ_xin, if_pos, ite_self, ↓reduceIte, Int.reduceAdd, Int.reduceSub, Int.reduceMul, Int.reduceNeg, Int.reduceLT, Int.reduceLE, if_neg, nS, iZ_clampN, iZ_bit, iZ_one, iZ_and, iZ_or, iZ_ndn, f3, g1, g2, bP_t (c := heap.testBit (aOne A j) = true) e1, bP_t (c := heap.testBit (aTwo A j) = true) e2, e3']
                rw [xfix_unf, sX12_judgesOne_212]
                simp (disch := omega) only [xk_none, xk_inl, xk_inr, xk_ite, xri_v, xrl_v, xrv_v, xb_z0, xb_z1, xb_b2, if_true, if_false, ite_true, ite_false, iZ_lit, iZ_m1, iZ_m99, iZ_m8, iZ_add, iZ_sub, iZ_mul, iZ_neg, nz0, nzi, iZ_lt, iZ_le, iZ_inj, b2_z, b2_o, ite_bPz, ite_bPo, xb_bP, iZ_xin, if_pos, ite_self, ↓reduceIte, Int.reduceAdd, Int.reduceSub, Int.reduceMul, Int.reduceNeg, Int.reduceLT, Int.reduceLE, if_neg, nS, iZ_clampN, iZ_bit, iZ_one, iZ_and, iZ_or, iZ_ndn, hr]
              · rw [if_pos ⟨e1, e2, e3, e4⟩]
                rw [bP_f e4] at hr
                rw [xfix_unf, sX12_judgesOne_143]
                simp (disch := omega) only [xk_none, xk_inl, xk_inr, xk_ite, xri_v, xrl_v, xrv_v, xb_z0, xb_z1, xb_b2, if_true, if_false, ite_true, ite_false, iZ_lit, iZ_m1, iZ_m99, iZ_m8, iZ_add, iZ_sub, iZ_mul, iZ_neg, nz0, nzi, iZ_lt, iZ_le, iZ_inj, b2_z, b2_o, ite_bPz, ite_bPo, xb_bP, iZ_xin, if_pos, ite_self, ↓reduceIte, Int.reduceAdd, Int.reduceSub, Int.reduceMul, Int.reduceNeg, Int.reduceLT, Int.reduceLE, if_neg, nS, iZ_clampN, iZ_bit, iZ_one, iZ_and, iZ_or, iZ_ndn, f3, g1, g2, bP_t (c := heap.testBit (aOne A j) = true) e1, bP_t (c := heap.testBit (aTwo A j) = true) e2, e3']
                rw [xfix_unf, sX12_judgesOne_212]
                simp (disch := omega) only [xk_none, xk_inl, xk_inr, xk_ite, xri_v, xrl_v, xrv_v, xb_z0, xb_z1, xb_b2, if_true, if_false, ite_true, ite_false, iZ_lit, iZ_m1, iZ_m99, iZ_m8, iZ_add, iZ_sub, iZ_mul, iZ_neg, nz0, nzi, iZ_lt, iZ_le, iZ_inj, b2_z, b2_o, ite_bPz, ite_bPo, xb_bP, iZ_xin, if_pos, ite_self, ↓reduceIte, Int.reduceAdd, Int.reduceSub, Int.reduceMul, Int.reduceNeg, Int.reduceLT, Int.reduceLE, if_neg, nS, iZ_clampN, iZ_bit, iZ_one, iZ_and, iZ_or, iZ_ndn, hr]
          · rw [if_neg (fun z => e2 z.2.1)]
            rw [xfix_unf, sX12_judgesOne_143]
            simp (disch := omega) only [xk_none, xk_inl, xk_inr, xk_ite, xri_v, xrl_v, xrv_v, xb_z0, xb_z1, xb_b2, if_true, if_false, ite_true, ite_false, iZ_lit, iZ_m1, iZ_m99, iZ_m8, iZ_add, iZ_sub, iZ_mul, iZ_neg, nz0, nzi, iZ_lt, iZ_le, iZ_inj, b2_z, b2_o, ite_bPz, ite_bPo, xb_bP, iZ_xin, if_pos, ite_self, ↓reduceIte, Int.reduceAdd, Int.reduceSub, Int.reduceMul, Int.reduceNeg, Int.reduceLT, Int.reduceLE, if_neg, nS, iZ_clampN, iZ_bit, iZ_one, iZ_and, iZ_or, iZ_ndn, f3, g1, g2, bP_t (c := heap.testBit (aOne A j) = true) e1, bP_f (c := heap.testBit (aTwo A j) = true) e2]
            rw [xfix_unf, sX12_judgesOne_212]
            simp (disch := omega) only [xk_none, xk_inl, xk_inr, xk_ite, xri_v, xrl_v, xrv_v, xb_z0, xb_z1, xb_b2, if_true, if_false, ite_true, ite_false, iZ_lit, iZ_m1, iZ_m99, iZ_m8, iZ_add, iZ_sub, iZ_mul, iZ_neg, nz0, nzi, iZ_lt, iZ_le, iZ_inj, b2_z, b2_o, ite_bPz, ite_bPo, xb_bP, iZ_xin, if_pos, ite_self, ↓reduceIte, Int.reduceAdd, Int.reduceSub, Int.reduceMul, Int.reduceNeg, Int.reduceLT, Int.reduceLE, if_neg, nS, iZ_clampN, iZ_bit, iZ_one, iZ_and, iZ_or, iZ_ndn]
        · rw [if_neg (fun z => e1 z.1)]
          rw [xfix_unf, sX12_judgesOne_143]
          simp (disch := omega) only [xk_none, xk_inl, xk_inr, xk_ite, xri_v, xrl_v, xrv_v, xb_z0, xb_z1, xb_b2, if_true, if_false, ite_true, ite_false, iZ_lit, iZ_m1, iZ_m99, iZ_m8, iZ_add, iZ_sub, iZ_mul, iZ_neg, nz0, nzi, iZ_lt, iZ_le, iZ_inj, b2_z, b2_o, ite_bPz, ite_bPo, xb_bP, iZ_xin, if_pos, ite_self, ↓reduceIte, Int.reduceAdd, Int.reduceSub, Int.reduceMul, Int.reduceNeg, Int.reduceLT, Int.reduceLE, if_neg, nS, iZ_clampN, iZ_bit, iZ_one, iZ_and, iZ_or, iZ_ndn, f3, g1, g2, bP_f (c := heap.testBit (aOne A j) = true) e1]
          rw [xfix_unf, sX12_judgesOne_212]
          simp (disch := omega) only [xk_none, xk_inl, xk_inr, xk_ite, xri_v, xrl_v, xrv_v, xb_z0, xb_z1, xb_b2, if_true, if_false, ite_true, ite_false, iZ_lit, iZ_m1, iZ_m99, iZ_m8, iZ_add, iZ_sub, iZ_mul, iZ_neg, nz0, nzi, iZ_lt, iZ_le, iZ_inj, b2_z, b2_o, ite_bPz, ite_bPo, xb_bP, iZ_xin, if_pos, ite_self, ↓reduceIte, Int.reduceAdd, Int.reduceSub, Int.reduceMul, Int.reduceNeg, Int.reduceLT, Int.reduceLE, if_neg, nS, iZ_clampN, iZ_bit, iZ_one, iZ_and, iZ_or, iZ_ndn]
      have lp143 := xfor_F (sg := gX12_judgesOne) (fun i => (143, [some (.inr (.inr (12, 0))), some (.inl (iZ (half))), none, none, some (.inl (iZ (heap))), none, some (.inl (iZ (i))), none, none, none], [], M1)) (a := 0) (n := jJt A heap half) (by omega) (fun i _ hi => by
        have hno : ¬ jLo A heap half i := lst_no (fun j => jLo A heap half j) (aJ A) i hi
        rw [stp i (by omega), if_neg hno, nS])
      rw [lp143]
      by_cases c3 : jJt A heap half < aJ A
      · rw [if_pos c3]
        have hy : jLo A heap half (jJt A heap half) := lst_is (fun j => jLo A heap half j) (aJ A) c3
        refine ⟨xpI M1 (12, 0) 74 (iZ (jJt A heap half)), ?_, hs0.pI (.inr ⟨rfl, rfl⟩), fun p hp => ?_, pF_eq, (by dsimp only; omega), (by dsimp only; omega)⟩
        · rw [stp _ c3, if_pos hy]
        · rw [xI_pI, if_neg (by simp)]; exact hG1 p hp
      · rw [if_neg c3]
        have ej : jJt A heap half = aJ A := by omega
        rw [ej]
        have st4 : xfix gX12_judgesOne (143, [some (.inr (.inr (12, 0))), some (.inl (iZ (half))), none, none, some (.inl (iZ (heap))), none, some (.inl (iZ ((aJ A)))), none, none, none], [], M1) = xfix gX12_judgesOne (250, [some (.inr (.inr (12, 0))), some (.inl (iZ (half))), none, none, some (.inl (iZ (heap))), none, some (.inl (iZ (((0 : Nat))))), none, none, none], [], M1) := by
          rw [xfix_unf, sX12_judgesOne_143]
          simp (disch := omega) only [xk_none, xk_inl, xk_inr, xk_ite, xri_v, xrl_v, xrv_v, xb_z0, xb_z1, xb_b2, if_true, if_false, ite_true, ite_false, iZ_lit, iZ_m1, iZ_m99, iZ_m8, iZ_add, iZ_sub, iZ_mul, iZ_neg, nz0, nzi, iZ_lt, iZ_le, iZ_inj, b2_z, b2_o, ite_bPz, ite_bPo, xb_bP, iZ_xin, if_pos, ite_self, ↓reduceIte, Int.reduceAdd, Int.reduceSub, Int.reduceMul, Int.reduceNeg, Int.reduceLT, Int.reduceLE, if_neg, nS, iZ_clampN, iZ_bit, iZ_one, iZ_and, iZ_or, iZ_ndn, f3]
          rfl
        rw [st4]
        obtain ⟨M2, q1, q2, q3⟩ := xfor_M (sg := gX12_judgesOne) (st := fun i M => (250, [some (.inr (.inr (12, 0))), some (.inl (iZ (half))), none, none, some (.inl (iZ (heap))), none, some (.inl (iZ (i))), none, none, none], [], M)) (I := fun k K => xSame (fun r => r = (169, 0)) M1 K ∧ ∀ p, p < 9 → xI K (169, 0) p = iZ ((if heap.testBit p = true ∧ p < k then (if half.testBit p = true then half else ndn heap half) else G p : Nat))) (n := aP A) (fun i K hi hK => by
          obtain ⟨k1, k2⟩ := hK
          have g2 : xI K (12, 0) 2 = iZ (aP A) := by rw [(k1 (12, 0) (by decide)).1]; exact f2
          by_cases e1 : heap.testBit i = true
          · by_cases e2 : half.testBit i = true
            · refine ⟨xpI K (169, 0) i (iZ half), ?_, k1.pI rfl, fun p hp => ?_⟩
              · rw [xfix_unf, sX12_judgesOne_250]
                simp (disch := omega) only [xk_none, xk_inl, xk_inr, xk_ite, xri_v, xrl_v, xrv_v, xb_z0, xb_z1, xb_b2, if_true, if_false, ite_true, ite_false, iZ_lit, iZ_m1, iZ_m99, iZ_m8, iZ_add, iZ_sub, iZ_mul, iZ_neg, nz0, nzi, iZ_lt, iZ_le, iZ_inj, b2_z, b2_o, ite_bPz, ite_bPo, xb_bP, iZ_xin, if_pos, ite_self, ↓reduceIte, Int.reduceAdd, Int.reduceSub, Int.reduceMul, Int.reduceNeg, Int.reduceLT, Int.reduceLE, if_neg, nS, iZ_clampN, iZ_bit, iZ_one, iZ_and, iZ_or, iZ_ndn, g2, bP_t (c := heap.testBit i = true) e1, bP_t (c := half.testBit i = true) e2]
              · rw [xI_pI]
                by_cases e : p = i
                · subst e
                  rw [if_pos ⟨rfl, rfl⟩, if_pos ⟨e1, by omega⟩, if_pos e2]
                · rw [if_neg (fun z => e z.2), k2 p hp]
                  by_cases e3 : heap.testBit p = true ∧ p < i
                  · rw [if_pos e3, if_pos (show heap.testBit p = true ∧ p < i + 1 from ⟨e3.1, by omega⟩)]
                  · rw [if_neg e3, if_neg (show ¬ (heap.testBit p = true ∧ p < i + 1) from fun z => e3 ⟨z.1, by omega⟩)]
            · refine ⟨xpI K (169, 0) i (iZ (ndn heap half)), ?_, k1.pI rfl, fun p hp => ?_⟩
              · rw [xfix_unf, sX12_judgesOne_250]
                simp (disch := omega) only [xk_none, xk_inl, xk_inr, xk_ite, xri_v, xrl_v, xrv_v, xb_z0, xb_z1, xb_b2, if_true, if_false, ite_true, ite_false, iZ_lit, iZ_m1, iZ_m99, iZ_m8, iZ_add, iZ_sub, iZ_mul, iZ_neg, nz0, nzi, iZ_lt, iZ_le, iZ_inj, b2_z, b2_o, ite_bPz, ite_bPo, xb_bP, iZ_xin, if_pos, ite_self, ↓reduceIte, Int.reduceAdd, Int.reduceSub, Int.reduceMul, Int.reduceNeg, Int.reduceLT, Int.reduceLE, if_neg, nS, iZ_clampN, iZ_bit, iZ_one, iZ_and, iZ_or, iZ_ndn, g2, bP_t (c := heap.testBit i = true) e1, bP_f (c := half.testBit i = true) e2]
              · rw [xI_pI]
                by_cases e : p = i
                · subst e
                  rw [if_pos ⟨rfl, rfl⟩, if_pos ⟨e1, by omega⟩, if_neg e2]
                · rw [if_neg (fun z => e z.2), k2 p hp]
                  by_cases e3 : heap.testBit p = true ∧ p < i
                  · rw [if_pos e3, if_pos (show heap.testBit p = true ∧ p < i + 1 from ⟨e3.1, by omega⟩)]
                  · rw [if_neg e3, if_neg (show ¬ (heap.testBit p = true ∧ p < i + 1) from fun z => e3 ⟨z.1, by omega⟩)]
          · refine ⟨K, ?_, k1, fun p hp => ?_⟩
            · rw [xfix_unf, sX12_judgesOne_250]
              simp (disch := omega) only [xk_none, xk_inl, xk_inr, xk_ite, xri_v, xrl_v, xrv_v, xb_z0, xb_z1, xb_b2, if_true, if_false, ite_true, ite_false, iZ_lit, iZ_m1, iZ_m99, iZ_m8, iZ_add, iZ_sub, iZ_mul, iZ_neg, nz0, nzi, iZ_lt, iZ_le, iZ_inj, b2_z, b2_o, ite_bPz, ite_bPo, xb_bP, iZ_xin, if_pos, ite_self, ↓reduceIte, Int.reduceAdd, Int.reduceSub, Int.reduceMul, Int.reduceNeg, Int.reduceLT, Int.reduceLE, if_neg, nS, iZ_clampN, iZ_bit, iZ_one, iZ_and, iZ_or, iZ_ndn, g2, bP_f (c := heap.testBit i = true) e1]
            · rw [k2 p hp]
              by_cases e3 : heap.testBit p = true ∧ p < i
              · rw [if_pos e3, if_pos (show heap.testBit p = true ∧ p < i + 1 from ⟨e3.1, by omega⟩)]
              · rw [if_neg e3, if_neg (show ¬ (heap.testBit p = true ∧ p < i + 1) from fun z => e3 ⟨z.1, by
                  have : p ≠ i := fun w => e1 (w ▸ z.1)
                  omega⟩)]) (a := 0) (M := M1) (by omega) ⟨xSame.rf, fun p hp => by rw [if_neg (fun z => by omega)]; exact (hG1 p hp).1⟩
        refine ⟨M2, q1.trans ?_, hs0.tr (q2.sm.wk fun r j z => .inl z), fun p hp => ?_, by rw [(q2 (12, 0) (by decide)).1]; exact f74, (by dsimp only; omega), (by dsimp only; omega)⟩
        · have g2 : xI M2 (12, 0) 2 = iZ (aP A) := by rw [(q2 (12, 0) (by decide)).1]; exact f2
          rw [xfix_unf, sX12_judgesOne_250]
          simp (disch := omega) only [xk_none, xk_inl, xk_inr, xk_ite, xri_v, xrl_v, xrv_v, xb_z0, xb_z1, xb_b2, if_true, if_false, ite_true, ite_false, iZ_lit, iZ_m1, iZ_m99, iZ_m8, iZ_add, iZ_sub, iZ_mul, iZ_neg, nz0, nzi, iZ_lt, iZ_le, iZ_inj, b2_z, b2_o, ite_bPz, ite_bPo, xb_bP, iZ_xin, if_pos, ite_self, ↓reduceIte, Int.reduceAdd, Int.reduceSub, Int.reduceMul, Int.reduceNeg, Int.reduceLT, Int.reduceLE, if_neg, nS, iZ_clampN, iZ_bit, iZ_one, iZ_and, iZ_or, iZ_ndn, g2]
        · show xI M2 (169, 0) p = iZ ((if heap.testBit p = true then (if half.testBit p = true then half else ndn heap half) else G p : Nat)) ∧ (if heap.testBit p = true then (if half.testBit p = true then half else ndn heap half) else G p) < 512
          rw [q3 p hp]
          have hnn := ndn_le heap half
          by_cases e1 : heap.testBit p = true
          · have : p < aP A := by
              refine Classical.byContradiction fun z => ?_
              have := Nat.testBit_lt_two_pow (Nat.lt_of_lt_of_le hh (Nat.pow_le_pow_right (n := 2) (by omega) (by omega : aP A ≤ p)))
              rw [this] at e1
              cases e1
            rw [if_pos ⟨e1, this⟩, if_pos e1]
            refine ⟨rfl, ?_⟩
            split <;> omega
          · rw [if_neg (fun z => e1 z.1), if_neg e1]
            exact ⟨rfl, (hG p hp).2⟩
    · rw [if_neg c2]
      have hbl := jLw_lt c2 hb5
      have hbi : b.testBit (jLw b (aP A)) = true := lst_is (fun p => b.testBit p = true) (aP A) hbl
      have lp99 := xfor_F (sg := gX12_judgesOne) (fun i => (99, [some (.inr (.inr (12, 0))), some (.inl (iZ (half))), none, none, some (.inl (iZ (heap))), some (.inl (iZ (b))), some (.inl (iZ (i))), none, none, none], [], M1)) (a := 0) (n := jLw b (aP A)) (by omega) (fun i _ hi => by
        have hno : ¬ b.testBit i = true := lst_no (fun p => b.testBit p = true) (aP A) i hi
        rw [nS]
        rw [xfix_unf, sX12_judgesOne_99]
        simp (disch := omega) only [xk_none, xk_inl, xk_inr, xk_ite, xri_v, xrl_v, xrv_v, xb_z0, xb_z1, xb_b2, if_true, if_false, ite_true, ite_false, iZ_lit, iZ_m1, iZ_m99, iZ_m8, iZ_add, iZ_sub, iZ_mul, iZ_neg, nz0, nzi, iZ_lt, iZ_le, iZ_inj, b2_z, b2_o, ite_bPz, ite_bPo, xb_bP, iZ_xin, if_pos, ite_self, ↓reduceIte, Int.reduceAdd, Int.reduceSub, Int.reduceMul, Int.reduceNeg, Int.reduceLT, Int.reduceLE, if_neg, nS, iZ_clampN, iZ_bit, iZ_one, iZ_and, iZ_or, iZ_ndn, f2, bP_f hno])
      rw [lp99]
      refine ⟨xpI M1 (12, 0) 74 (iZ (jLw b (aP A))), ?_, hs0.pI (.inr ⟨rfl, rfl⟩), fun p hp => ?_, pF_eq, (by dsimp only; omega), (by dsimp only; omega)⟩
      · rw [xfix_unf, sX12_judgesOne_99]
        simp (disch := omega) only [xk_none, xk_inl, xk_inr, xk_ite, xri_v, xrl_v, xrv_v, xb_z0, xb_z1, xb_b2, if_true, if_false, ite_true, ite_false, iZ_lit, iZ_m1, iZ_m99, iZ_m8, iZ_add, iZ_sub, iZ_mul, iZ_neg, nz0, nzi, iZ_lt, iZ_le, iZ_inj, b2_z, b2_o, ite_bPz, ite_bPo, xb_bP, iZ_xin, if_pos, ite_self, ↓reduceIte, Int.reduceAdd, Int.reduceSub, Int.reduceMul, Int.reduceNeg, Int.reduceLT, Int.reduceLE, if_neg, nS, iZ_clampN, iZ_bit, iZ_one, iZ_and, iZ_or, iZ_ndn, f2, bP_t hbi]
      · rw [xI_pI, if_neg (by simp)]; exact hG1 p hp
  · rw [if_neg c1]
    rw [bP_f (by
      rintro ⟨h, k, y1, y2, y3, y4, y5, y6⟩
      have e1 : heap = h := by omega
      have e2 : half = k := by omega
      subst e1
      subst e2
      exact c1 ⟨y4, y5, y6⟩)] at hih
    refine ⟨xpI M (12, 0) 74 (iZ (-1)), ?_, hs0, hG1, f74, (by dsimp only; omega), (by dsimp only; omega)⟩
    rw [xfix_unf, sX12_judgesOne_2]
    simp (disch := omega) only [xk_none, xk_inl, xk_inr, xk_ite, xri_v, xrl_v, xrv_v, xb_z0, xb_z1, xb_b2, if_true, if_false, ite_true, ite_false, iZ_lit, iZ_m1, iZ_m99, iZ_m8, iZ_add, iZ_sub, iZ_mul, iZ_neg, nz0, nzi, iZ_lt, iZ_le, iZ_inj, b2_z, b2_o, ite_bPz, ite_bPo, xb_bP, iZ_xin, if_pos, ite_self, ↓reduceIte, Int.reduceAdd, Int.reduceSub, Int.reduceMul, Int.reduceNeg, Int.reduceLT, Int.reduceLE, if_neg, nS, iZ_clampN, iZ_bit, iZ_one, iZ_and, iZ_or, iZ_ndn, bP_t hl1, hg.1, hih]
