/-! the class: its small functions of numbers -/
theorem x_bitCount {M : xM} {v : Nat} (hv : v < 512) : fJ6_bitCount_0f7a4 [.inl (iZ (v : Int))] M = some (some (.inl (iZ ((bc v : Nat)))), M) := by
  show xfix gJ6_bitCount_0f7a4 (0, [some (.inl (iZ (v : Int)))], [], M) = _
  refine xfix_done ?_
  rw [sJ6_bitCount_0f7a4_0]
  have : ∀ n : Nat, n < 512 → (fJ6_bitCount_0f7a4 [.inl (iZ (n : Int))] (fun _ _ => 0, fun _ _ => 0)) = (fJ6_bitCount_0f7a4 [.inl (iZ (n : Int))] (fun _ _ => 0, fun _ _ => 0)) := fun _ _ => rfl
  congr 4
  revert v
  decide +kernel
theorem x_leastOf {M : xM} {b : Nat} (hb : b < 2147483648) : fX11_leastOf [.inl (iZ (b))] M = some (some (.inl (iZ (if jLw b 9 < 9 then (jLw b 9 : Int) else -1))), M) := by
  have hl : jLw b 9 ≤ 9 := lst_le _ _
  have lp := xfor_F (sg := gX11_leastOf) (fun i => (2, [some (.inl (iZ (b))), some (.inl (iZ (i)))], [], M)) (a := 0) (n := jLw b 9) (by omega) (fun i _ hi => by
    have hno : ¬ b.testBit i = true := lst_no (fun p => b.testBit p = true) 9 i hi
    rw [nS]
    rw [xfix_unf, sX11_leastOf_2]
    simp (disch := omega) only [xk_none, xk_inl, xk_inr, xk_ite, xri_v, xrl_v, xrv_v, xb_z0, xb_z1, xb_b2, if_true, if_false, ite_true, ite_false, iZ_lit, iZ_m1, iZ_m99, iZ_m8, iZ_add, iZ_sub, iZ_mul, iZ_neg, nz0, nzi, iZ_lt, iZ_le, iZ_inj, b2_z, b2_o, ite_bPz, ite_bPo, xb_bP, iZ_xin, if_pos, ite_self, ↓reduceIte, Int.reduceAdd, Int.reduceSub, Int.reduceMul, Int.reduceNeg, Int.reduceLT, Int.reduceLE, if_neg, nS, iZ_clampN, iZ_bit, iZ_one, iZ_and, iZ_or, iZ_ndn, bP_f hno])
  show xfix gX11_leastOf (0, [some (.inl (iZ (b))), none], [], M) = _; rw [xfix_unf, sX11_leastOf_0]
  simp (disch := omega) only [xk_none, xk_inl, xk_inr, xk_ite, xri_v, xrl_v, xrv_v, xb_z0, xb_z1, xb_b2, if_true, if_false, ite_true, ite_false, iZ_lit, iZ_m1, iZ_m99, iZ_m8, iZ_add, iZ_sub, iZ_mul, iZ_neg, nz0, nzi, iZ_lt, iZ_le, iZ_inj, b2_z, b2_o, ite_bPz, ite_bPo, xb_bP, iZ_xin, if_pos, ite_self, ↓reduceIte, Int.reduceAdd, Int.reduceSub, Int.reduceMul, Int.reduceNeg, Int.reduceLT, Int.reduceLE, if_neg]
  refine Eq.trans lp ?_
  by_cases e : jLw b 9 < 9
  · rw [if_pos e]
    have hy : b.testBit (jLw b 9) = true := lst_is (fun p => b.testBit p = true) 9 e
    rw [xfix_unf, sX11_leastOf_2]
    simp (disch := omega) only [xk_none, xk_inl, xk_inr, xk_ite, xri_v, xrl_v, xrv_v, xb_z0, xb_z1, xb_b2, if_true, if_false, ite_true, ite_false, iZ_lit, iZ_m1, iZ_m99, iZ_m8, iZ_add, iZ_sub, iZ_mul, iZ_neg, nz0, nzi, iZ_lt, iZ_le, iZ_inj, b2_z, b2_o, ite_bPz, ite_bPo, xb_bP, iZ_xin, if_pos, ite_self, ↓reduceIte, Int.reduceAdd, Int.reduceSub, Int.reduceMul, Int.reduceNeg, Int.reduceLT, Int.reduceLE, if_neg, nS, iZ_clampN, iZ_bit, iZ_one, iZ_and, iZ_or, iZ_ndn, bP_t hy]
  · rw [if_neg e]
    have h9 : jLw b 9 = 9 := by omega
    rw [h9]
    have e9 : ((9 : Nat) : Int) = 9 := rfl
    rw [xfix_unf, sX11_leastOf_2]
    simp (disch := omega) only [xk_none, xk_inl, xk_inr, xk_ite, xri_v, xrl_v, xrv_v, xb_z0, xb_z1, xb_b2, if_true, if_false, ite_true, ite_false, iZ_lit, iZ_m1, iZ_m99, iZ_m8, iZ_add, iZ_sub, iZ_mul, iZ_neg, nz0, nzi, iZ_lt, iZ_le, iZ_inj, b2_z, b2_o, ite_bPz, ite_bPo, xb_bP, iZ_xin, if_pos, ite_self, ↓reduceIte, Int.reduceAdd, Int.reduceSub, Int.reduceMul, Int.reduceNeg, Int.reduceLT, Int.reduceLE, if_neg, e9]
theorem x_isWay {M : xM} {w : Int} (hw : r32 w) : fX11_isWay [.inl (iZ (w))] M = some (some (.inl (bP (vW w))), M) := by
  unfold vW
  show xfix gX11_isWay (0, [some (.inl (iZ (w)))], [], M) = _; rw [xfix_unf, sX11_isWay_0]
  by_cases c : 0 ≤ w ∧ w ≤ 5
  · rw [bP_t c]
    simp (disch := omega) only [xk_none, xk_inl, xk_inr, xk_ite, xri_v, xrl_v, xrv_v, xb_z0, xb_z1, xb_b2, if_true, if_false, ite_true, ite_false, iZ_lit, iZ_m1, iZ_m99, iZ_m8, iZ_add, iZ_sub, iZ_mul, iZ_neg, nz0, nzi, iZ_lt, iZ_le, iZ_inj, b2_z, b2_o, ite_bPz, ite_bPo, xb_bP, iZ_xin, if_pos, ite_self, ↓reduceIte, Int.reduceAdd, Int.reduceSub, Int.reduceMul, Int.reduceNeg, Int.reduceLT, Int.reduceLE, if_neg]
  · rw [bP_f c]
    simp (disch := omega) only [xk_none, xk_inl, xk_inr, xk_ite, xri_v, xrl_v, xrv_v, xb_z0, xb_z1, xb_b2, if_true, if_false, ite_true, ite_false, iZ_lit, iZ_m1, iZ_m99, iZ_m8, iZ_add, iZ_sub, iZ_mul, iZ_neg, nz0, nzi, iZ_lt, iZ_le, iZ_inj, b2_z, b2_o, ite_bPz, ite_bPo, xb_bP, iZ_xin, if_pos, ite_self, ↓reduceIte, Int.reduceAdd, Int.reduceSub, Int.reduceMul, Int.reduceNeg, Int.reduceLT, Int.reduceLE, if_neg]
theorem x_within {M : xM} {a b : Nat} (ha : a < 2147483648) : fX11_within [.inl (iZ (a)), .inl (iZ (b))] M = some (some (.inl (bP (ndn a b = 0))), M) := by
  have hl := ndn_le a b
  show xfix gX11_within (0, [some (.inl (iZ (a))), some (.inl (iZ (b)))], [], M) = _; rw [xfix_unf, sX11_within_0]
  by_cases c : ndn a b = 0
  · rw [bP_t c]
    simp (disch := omega) only [xk_none, xk_inl, xk_inr, xk_ite, xri_v, xrl_v, xrv_v, xb_z0, xb_z1, xb_b2, if_true, if_false, ite_true, ite_false, iZ_lit, iZ_m1, iZ_m99, iZ_m8, iZ_add, iZ_sub, iZ_mul, iZ_neg, nz0, nzi, iZ_lt, iZ_le, iZ_inj, b2_z, b2_o, ite_bPz, ite_bPo, xb_bP, iZ_xin, if_pos, ite_self, ↓reduceIte, Int.reduceAdd, Int.reduceSub, Int.reduceMul, Int.reduceNeg, Int.reduceLT, Int.reduceLE, if_neg, nS, iZ_clampN, iZ_bit, iZ_one, iZ_and, iZ_or, iZ_ndn, c]
  · rw [bP_f c]
    simp (disch := omega) only [xk_none, xk_inl, xk_inr, xk_ite, xri_v, xrl_v, xrv_v, xb_z0, xb_z1, xb_b2, if_true, if_false, ite_true, ite_false, iZ_lit, iZ_m1, iZ_m99, iZ_m8, iZ_add, iZ_sub, iZ_mul, iZ_neg, nz0, nzi, iZ_lt, iZ_le, iZ_inj, b2_z, b2_o, ite_bPz, ite_bPo, xb_bP, iZ_xin, if_pos, ite_self, ↓reduceIte, Int.reduceAdd, Int.reduceSub, Int.reduceMul, Int.reduceNeg, Int.reduceLT, Int.reduceLE, if_neg, nS, iZ_clampN, iZ_bit, iZ_one, iZ_and, iZ_or, iZ_ndn]
theorem x_nextHalf {M : xM} {heap half : Nat} (hh : heap < 2147483648) : fX11_nextHalf [.inl (iZ (heap)), .inl (iZ (half))] M = some (some (.inl (iZ ((nxt heap half : Nat)))), M) := by
  show xfix gX11_nextHalf (0, [some (.inl (iZ (heap))), some (.inl (iZ (half)))], [], M) = _; rw [xfix_unf, sX11_nextHalf_0]
  simp (disch := omega) only [xk_none, xk_inl, xk_inr, xk_ite, xri_v, xrl_v, xrv_v, xb_z0, xb_z1, xb_b2, if_true, if_false, ite_true, ite_false, iZ_lit, iZ_m1, iZ_m99, iZ_m8, iZ_add, iZ_sub, iZ_mul, iZ_neg, nz0, nzi, iZ_lt, iZ_le, iZ_inj, b2_z, b2_o, ite_bPz, ite_bPo, xb_bP, iZ_xin, if_pos, ite_self, ↓reduceIte, Int.reduceAdd, Int.reduceSub, Int.reduceMul, Int.reduceNeg, Int.reduceLT, Int.reduceLE, if_neg, iZ_nxt hh]
theorem x_halvesOf {M : xM} {heap : Nat} (hh : heap < 512) : fX11_halvesOf [.inl (iZ (heap))] M = some (some (.inl (iZ (((2 ^ bc heap : Nat) : Int) - 2))), M) := by
  have hb := bc_le heap
  show xfix gX11_halvesOf (0, [some (.inl (iZ (heap)))], [], M) = _; rw [xfix_unf, sX11_halvesOf_0]
  simp (disch := omega) only [xk_none, xk_inl, xk_inr, xk_ite, xri_v, xrl_v, xrv_v, xb_z0, xb_z1, xb_b2, if_true, if_false, ite_true, ite_false, iZ_lit, iZ_m1, iZ_m99, iZ_m8, iZ_add, iZ_sub, iZ_mul, iZ_neg, nz0, nzi, iZ_lt, iZ_le, iZ_inj, b2_z, b2_o, ite_bPz, ite_bPo, xb_bP, iZ_xin, if_pos, ite_self, ↓reduceIte, Int.reduceAdd, Int.reduceSub, Int.reduceMul, Int.reduceNeg, Int.reduceLT, Int.reduceLE, if_neg, nS, iZ_clampN, iZ_bit, iZ_one, iZ_and, iZ_or, iZ_ndn, x_bitCount hh]
theorem x_isOne {M : xM} {heap : Nat} (h1 : 1 ≤ heap) (hh : heap < 512) : fX11_isOne [.inl (iZ (heap))] M = some (some (.inl (bP (on1 heap))), M) := by
  have key : ∀ n : Nat, n < 512 → 1 ≤ n → (n &&& (n - 1) = 0 ↔ bc n = 1) := by decide +kernel
  have hk := key heap hh h1
  have e1 : (heap : Int) - 1 = ((heap - 1 : Nat) : Int) := by omega
  have hl : heap &&& (heap - 1) ≤ heap := Nat.and_le_left
  show xfix gX11_isOne (0, [some (.inl (iZ (heap)))], [], M) = _; rw [xfix_unf, sX11_isOne_0]
  by_cases c : bc heap = 1
  · rw [bP_t c]
    simp (disch := omega) only [xk_none, xk_inl, xk_inr, xk_ite, xri_v, xrl_v, xrv_v, xb_z0, xb_z1, xb_b2, if_true, if_false, ite_true, ite_false, iZ_lit, iZ_m1, iZ_m99, iZ_m8, iZ_add, iZ_sub, iZ_mul, iZ_neg, nz0, nzi, iZ_lt, iZ_le, iZ_inj, b2_z, b2_o, ite_bPz, ite_bPo, xb_bP, iZ_xin, if_pos, ite_self, ↓reduceIte, Int.reduceAdd, Int.reduceSub, Int.reduceMul, Int.reduceNeg, Int.reduceLT, Int.reduceLE, if_neg, nS, iZ_clampN, iZ_bit, iZ_one, iZ_and, iZ_or, iZ_ndn, e1, hk.mpr c]
  · rw [bP_f c]
    have c' : ¬ heap &&& (heap - 1) = 0 := fun z => c (hk.mp z)
    simp (disch := omega) only [xk_none, xk_inl, xk_inr, xk_ite, xri_v, xrl_v, xrv_v, xb_z0, xb_z1, xb_b2, if_true, if_false, ite_true, ite_false, iZ_lit, iZ_m1, iZ_m99, iZ_m8, iZ_add, iZ_sub, iZ_mul, iZ_neg, nz0, nzi, iZ_lt, iZ_le, iZ_inj, b2_z, b2_o, ite_bPz, ite_bPo, xb_bP, iZ_xin, if_pos, ite_self, ↓reduceIte, Int.reduceAdd, Int.reduceSub, Int.reduceMul, Int.reduceNeg, Int.reduceLT, Int.reduceLE, if_neg, nS, iZ_clampN, iZ_bit, iZ_one, iZ_and, iZ_or, iZ_ndn, e1]
theorem x_axisOf {M : xM} {w : Nat} (hw : w < 8) : fX11_axisOf [.inl (iZ (w))] M = some (some (.inl (iZ ((w / 2 : Nat)))), M) := by
  have key : ∀ n : Nat, n < 8 → iZ (n : Int) >>> ((1 : Int32) &&& 31) = iZ ((n / 2 : Nat) : Int) := by decide +kernel
  have := key w hw
  show xfix gX11_axisOf (0, [some (.inl (iZ (w : Int)))], [], M) = _
  refine xfix_done ?_
  rw [sX11_axisOf_0, this]
theorem x_signOf {M : xM} {w : Nat} (hw : w < 8) : fX11_signOf [.inl (iZ (w))] M = some (some (.inl (iZ (if w % 2 = 0 then 1 else -1))), M) := by
  have key : ∀ n : Nat, n < 8 → (iZ (n : Int) &&& 1 = 0 ↔ n % 2 = 0) := by decide +kernel
  show xfix gX11_signOf (0, [some (.inl (iZ (w : Int)))], [], M) = _
  refine xfix_done ?_
  rw [sX11_signOf_0]
  by_cases c : w % 2 = 0
  · rw [if_pos ((key w hw).mpr c), if_pos c]; rfl
  · rw [if_neg (fun z => c ((key w hw).mp z)), if_neg c]; rfl
