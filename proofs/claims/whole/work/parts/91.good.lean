/-! the class: good cuts -/
/-- the class's joints are those of the thing -/
def cJt (M : xM) (A : dA) : Prop := xI M (5, 0) 1 = iZ (aJ A) ∧ ∀ j, j < aJ A → xI M (41, 0) j = iZ ((2 ^ aOne A j ||| 2 ^ aTwo A j : Nat) : Int) ∧ xI M (42, 0) j = iZ (covS A j)
theorem jJt_l {A : dA} {heap half : Nat} : ¬ jJt A heap half < aJ A ↔ loose A heap half := by
  constructor
  · intro h j hj hb
    refine Classical.byContradiction fun z => ?_
    have hl : jJt A heap half ≤ aJ A := lst_le _ _
    exact lst_no (fun j => jLo A heap half j) (aJ A) j (by unfold jJt at h hl; omega) ⟨hb.1, hb.2.1, hb.2.2, z⟩
  · intro h z
    have hy : jLo A heap half (jJt A heap half) := lst_is (fun j => jLo A heap half j) (aJ A) z
    exact hy.2.2.2 (h _ z ⟨hy.1, hy.2.1, hy.2.2.1⟩)
theorem x_stuck {M : xM} {A : dA} {heap half : Nat} (hA : aOk A) (hJ : cJt M A) (hh : heap < 512) (hs : ndn half heap = 0) : fX5_stuckJoint [.inr (.inr (5, 0)), .inl (iZ (heap)), .inl (iZ (half))] M = some (some (.inl (iZ (if jJt A heap half < aJ A then (jJt A heap half : Int) else -1))), M) := by
  have hP := hA.1
  have e : stJ (fun j => 2 ^ aOne A j ||| 2 ^ aTwo A j) (covS A) heap half (aJ A) = jJt A heap half := lst_cg fun j hj => by
    obtain ⟨_, _, o3, _⟩ := hA.2.2.2.1 j hj
    rw [sjt_is o3 hh hs]
    exact ⟨fun ⟨b, r⟩ => ⟨b.1, b.2.1, b.2.2, r⟩, fun ⟨a, b, c, d⟩ => ⟨⟨a, b, c⟩, d⟩⟩
  rw [← e]
  refine x_stuckJoint hJ.1 hA.2.1 fun j hj => ⟨(hJ.2 j hj).1, (hJ.2 j hj).2, ?_, msk_lt _ 9⟩
  obtain ⟨o1, o2, _⟩ := hA.2.2.2.1 j hj
  exact Nat.or_lt_two_pow (n := 9) (Nat.pow_lt_pow_right (by omega) (by omega)) (Nat.pow_lt_pow_right (by omega) (by omega))
theorem x_isGood {M : xM} {A : dA} {k heap half w : Nat} {B : Nat → Nat} (hA : aOk A) (hJ : cJt M A) (hW : cWy M k (aP A) B) (hB : ∀ k, B k < 512) (hh : heap < 512) (hf : half < 2 ^ aP A) (hs : ndn half heap = 0) (hw : w < 6) : fX10_isGood [.inr (.inr (10, k)), .inl (iZ (heap)), .inl (iZ (half)), .inl (iZ (w))] M = some (some (.inl (bP (gdw A B heap half w))), M) := by
  have hb := x_barring hW hA.1 hf hw
  have hst := x_stuck hA hJ hh hs
  have hl := bwy_lv (P := aP A) (heap := heap) (half := half) (w := w) hB
  have hlt := bwy_lt (aP A) B half w
  generalize bwy (aP A) B half w = b at *
  have l1 : b &&& heap ≤ b := Nat.and_le_left
  have l2 := ndn_le (b &&& heap) half
  unfold gdw
  by_cases c1 : ndn (b &&& heap) half = 0
  · by_cases c2 : jJt A heap half < aJ A
    · rw [if_pos c2] at hst
      rw [bP_f (fun z => jJt_l.mpr z.2 c2)]
      have hj8 := hA.2.1
      show xfix gX10_isGood (0, [some (.inr (.inr (10, k))), some (.inl (iZ (heap))), some (.inl (iZ (half))), some (.inl (iZ (w)))], [], M) = _; rw [xfix_unf, sX10_isGood_0]
      simp (disch := omega) only [xk_none, xk_inl, xk_inr, xk_ite, xri_v, xrl_v, xrv_v, xb_z0, xb_z1, xb_b2, if_true, if_false, ite_true, ite_false, iZ_lit, iZ_m1, iZ_m99, iZ_m8, iZ_add, iZ_sub, iZ_mul, iZ_neg, nz0, nzi, iZ_lt, iZ_le, iZ_inj, b2_z, b2_o, ite_bPz, ite_bPo, xb_bP, iZ_xin, if_pos, ite_self, ↓reduceIte, Int.reduceAdd, Int.reduceSub, Int.reduceMul, Int.reduceNeg, Int.reduceLT, Int.reduceLE, if_neg, nS, iZ_clampN, iZ_bit, iZ_one, iZ_and, iZ_or, iZ_ndn, hb, c1, hst]
    · rw [if_neg c2] at hst
      rw [bP_t ⟨hl.mp c1, jJt_l.mp c2⟩]
      show xfix gX10_isGood (0, [some (.inr (.inr (10, k))), some (.inl (iZ (heap))), some (.inl (iZ (half))), some (.inl (iZ (w)))], [], M) = _; rw [xfix_unf, sX10_isGood_0]
      simp (disch := omega) only [xk_none, xk_inl, xk_inr, xk_ite, xri_v, xrl_v, xrv_v, xb_z0, xb_z1, xb_b2, if_true, if_false, ite_true, ite_false, iZ_lit, iZ_m1, iZ_m99, iZ_m8, iZ_add, iZ_sub, iZ_mul, iZ_neg, nz0, nzi, iZ_lt, iZ_le, iZ_inj, b2_z, b2_o, ite_bPz, ite_bPo, xb_bP, iZ_xin, if_pos, ite_self, ↓reduceIte, Int.reduceAdd, Int.reduceSub, Int.reduceMul, Int.reduceNeg, Int.reduceLT, Int.reduceLE, if_neg, nS, iZ_clampN, iZ_bit, iZ_one, iZ_and, iZ_or, iZ_ndn, hb, c1, hst]
  · rw [bP_f (fun z => c1 (hl.mpr z.1))]
    show xfix gX10_isGood (0, [some (.inr (.inr (10, k))), some (.inl (iZ (heap))), some (.inl (iZ (half))), some (.inl (iZ (w)))], [], M) = _; rw [xfix_unf, sX10_isGood_0]
    simp (disch := omega) only [xk_none, xk_inl, xk_inr, xk_ite, xri_v, xrl_v, xrv_v, xb_z0, xb_z1, xb_b2, if_true, if_false, ite_true, ite_false, iZ_lit, iZ_m1, iZ_m99, iZ_m8, iZ_add, iZ_sub, iZ_mul, iZ_neg, nz0, nzi, iZ_lt, iZ_le, iZ_inj, b2_z, b2_o, ite_bPz, ite_bPo, xb_bP, iZ_xin, if_pos, ite_self, ↓reduceIte, Int.reduceAdd, Int.reduceSub, Int.reduceMul, Int.reduceNeg, Int.reduceLT, Int.reduceLE, if_neg, nS, iZ_clampN, iZ_bit, iZ_one, iZ_and, iZ_or, iZ_ndn, hb, c1]
def shR (v : Int64) : Nat → Int64
  | 0 => v
  | n + 1 => (Int64.toUInt64 (shR v n) >>> ((iZ 9).toInt64.toUInt64 &&& Int64.toUInt64 63)).toInt64
theorem shR_b (v : Int64) : ∀ n i, lB (shR v n) i = lB v (9 * n + i)
  | 0, i => by unfold shR; rw [Nat.mul_zero, Nat.zero_add]
  | n + 1, i => by
    unfold shR
    refine (lB_shr (v := shR v n) (p := 9) (by omega) i).trans ?_
    rw [shR_b v n, show 9 * n + (9 + i) = 9 * (n + 1) + i by omega]
theorem lB_N (n : Nat) {i : Nat} (hi : i < 64) : lB (lZ (n : Int)) i = n.testBit i := by
  rw [← lZ_lN]
  unfold lB lN
  show (BitVec.ofNat 64 n).getLsbD i = n.testBit i
  rw [BitVec.getLsbD_ofNat, decide_eq_true hi, Bool.true_and]
theorem gw_lv {M : xM} {k P heap half w : Nat} {B : Nat → Nat} (hW : cWy M k P B) (hP : P ≤ 9) (hB : ∀ k, B k < 512) (hh : heap < 512) (hf : half < 2 ^ P) (hw : w < 6) : lg_cmp (shR (xL M (50, k) half) w &&& lZ ((ndn heap half : Nat) : Int)) 0 = iZ 0 ↔ lv P B heap half w := by
  have hlt := Nat.lt_of_le_of_lt (ndn_le heap half) hh
  rw [show iZ 0 = 0 from rfl, lg_cmp_eq, lB_z]
  constructor
  · intro h p hp hpb
    rw [ndn_z]
    intro i hi
    rw [Nat.testBit_and, Bool.and_eq_true] at hi
    refine Classical.byContradiction fun z => ?_
    have hi9 : i < 9 := by
      refine Classical.byContradiction fun y => ?_
      have := Nat.testBit_lt_two_pow (Nat.lt_of_lt_of_le (show heap < 2 ^ 9 from hh) (show (2 : Nat) ^ 9 ≤ 2 ^ i from Nat.pow_le_pow_right (by omega) (by omega)))
      rw [this] at hi
      cases hi.2
    have := h i (by omega)
    rw [lB_and, shR_b, lB_N _ (by omega), (hW half hf w hw i hi9).mpr ⟨p, hp, hpb, hi.1⟩, ndn_bit, hi.2] at this
    rw [Bool.not_eq_true] at z
    rw [z] at this
    cases this
  · intro h i hi
    rw [lB_and, shR_b, lB_N _ hi]
    by_cases y : (ndn heap half).testBit i = true
    · have hi9 : i < 9 := by
        refine Classical.byContradiction fun q => ?_
        have := Nat.testBit_lt_two_pow (Nat.lt_of_lt_of_le (show ndn heap half < 2 ^ 9 from hlt) (show (2 : Nat) ^ 9 ≤ 2 ^ i from Nat.pow_le_pow_right (by omega) (by omega)))
        rw [this] at y
        cases y
      by_cases q : lB (xL M (50, k) half) (9 * w + i) = true
      · obtain ⟨p, p1, p2, p3⟩ := (hW half hf w hw i hi9).mp q
        have := h p p1 p2
        rw [ndn_z] at this
        rw [ndn_bit, Bool.and_eq_true] at y
        have := this i (by rw [Nat.testBit_and, p3, y.1]; rfl)
        rw [this] at y
        cases y.2
      · rw [Bool.not_eq_true] at q
        rw [q, Bool.false_and]
    · rw [Bool.not_eq_true] at y
      rw [y, Bool.and_false]
/-- the good ways as a set -/
noncomputable def gwS (A : dA) (B : Nat → Nat) (heap half : Nat) : Nat := msk (fun w => gdw A B heap half w) 6
theorem x_goodWays {M : xM} {A : dA} {k heap half : Nat} {B : Nat → Nat} (hA : aOk A) (hJ : cJt M A) (hW : cWy M k (aP A) B) (hB : ∀ k, B k < 512) (hh : heap < 512) (hf : half < 2 ^ aP A) (hs : ndn half heap = 0) : fX10_goodWays [.inr (.inr (10, k)), .inl (iZ (heap)), .inl (iZ (half))] M = some (some (.inl (iZ ((gwS A B heap half : Nat)))), M) := by
  have h9 : (2 : Nat) ^ aP A ≤ 512 := Nat.pow_le_pow_right (n := 2) (by omega) hA.1
  have hst := x_stuck hA hJ hh hs
  have hr := Nat.lt_of_le_of_lt (ndn_le heap half) hh
  have e64 : (iZ ((ndn heap half : Nat) : Int)).toInt64 = lZ ((ndn heap half : Nat) : Int) := iL_toInt64 (by omega) (by omega)
  have lp := xfor_F (sg := gX10_goodWays) (fun i => (20, [some (.inr (.inr (10, k))), some (.inl (iZ (heap))), some (.inl (iZ (half))), some (.inl (iZ ((ndn heap half)))), some (.inr (.inl ((shR (xL M (50, k) half) i)))), none, some (.inl (iZ ((msk (fun w => lv (aP A) B heap half w) i : Nat)))), some (.inl (iZ (i)))], [], M)) (a := 0) (n := 6) (by omega) (fun i _ hi => by
    have hg := gw_lv (w := i) hW hA.1 hB hh hf hi
    rw [nS]
    have eS : shR (xL M (50, k) half) (i + 1) = (Int64.toUInt64 (shR (xL M (50, k) half) i) >>> ((iZ 9).toInt64.toUInt64 &&& Int64.toUInt64 63)).toInt64 := rfl
    rw [eS]
    by_cases y : lv (aP A) B heap half i
    · rw [msk_t y]
      have hy := hg.mpr y
      rw [xfix_unf, sX10_goodWays_20]
      simp (disch := omega) only [xk_none, xk_inl, xk_inr, xk_ite, xri_v, xrl_v, xrv_v, xb_z0, xb_z1, xb_b2, if_true, if_false, ite_true, ite_false, iZ_lit, iZ_m1, iZ_m99, iZ_m8, iZ_add, iZ_sub, iZ_mul, iZ_neg, nz0, nzi, iZ_lt, iZ_le, iZ_inj, b2_z, b2_o, ite_bPz, ite_bPo, xb_bP, iZ_xin, if_pos, ite_self, ↓reduceIte, Int.reduceAdd, Int.reduceSub, Int.reduceMul, Int.reduceNeg, Int.reduceLT, Int.reduceLE, if_neg, nS, iZ_clampN, iZ_bit, iZ_one, iZ_and, iZ_or, iZ_ndn, e64, hy]
    · rw [msk_f y]
      have hy : ¬ _ := fun z => y (hg.mp z)
      rw [xfix_unf, sX10_goodWays_20]
      simp (disch := omega) only [xk_none, xk_inl, xk_inr, xk_ite, xri_v, xrl_v, xrv_v, xb_z0, xb_z1, xb_b2, if_true, if_false, ite_true, ite_false, iZ_lit, iZ_m1, iZ_m99, iZ_m8, iZ_add, iZ_sub, iZ_mul, iZ_neg, nz0, nzi, iZ_lt, iZ_le, iZ_inj, b2_z, b2_o, ite_bPz, ite_bPo, xb_bP, iZ_xin, if_pos, ite_self, ↓reduceIte, Int.reduceAdd, Int.reduceSub, Int.reduceMul, Int.reduceNeg, Int.reduceLT, Int.reduceLE, if_neg, nS, iZ_clampN, iZ_bit, iZ_one, iZ_and, iZ_or, iZ_ndn, e64, hy])
  show xfix gX10_goodWays (0, [some (.inr (.inr (10, k))), some (.inl (iZ (heap))), some (.inl (iZ (half))), none, none, none, none, none], [], M) = _; rw [xfix_unf, sX10_goodWays_0]
  simp (disch := omega) only [xk_none, xk_inl, xk_inr, xk_ite, xri_v, xrl_v, xrv_v, xb_z0, xb_z1, xb_b2, if_true, if_false, ite_true, ite_false, iZ_lit, iZ_m1, iZ_m99, iZ_m8, iZ_add, iZ_sub, iZ_mul, iZ_neg, nz0, nzi, iZ_lt, iZ_le, iZ_inj, b2_z, b2_o, ite_bPz, ite_bPo, xb_bP, iZ_xin, if_pos, ite_self, ↓reduceIte, Int.reduceAdd, Int.reduceSub, Int.reduceMul, Int.reduceNeg, Int.reduceLT, Int.reduceLE, if_neg, nS, iZ_clampN, iZ_bit, iZ_one, iZ_and, iZ_or, iZ_ndn]
  refine Eq.trans lp ?_
  have hm6 := msk_lt (fun w => lv (aP A) B heap half w) 6
  have e6 : ((6 : Nat) : Int) = 6 := rfl
  have hmm : loose A heap half → msk (fun w => lv (aP A) B heap half w) 6 = gwS A B heap half := fun hl => msk_cg fun w hw => ⟨fun z => ⟨z, hl⟩, fun z => z.1⟩
  have hm0 : (msk (fun w => lv (aP A) B heap half w) 6 = 0 ∨ ¬ loose A heap half) → gwS A B heap half = 0 := fun h => by
    refine Nat.eq_of_testBit_eq fun w => ?_
    rw [Nat.zero_testBit]
    by_cases y : (gwS A B heap half).testBit w = true
    · obtain ⟨y1, y2⟩ := (msk_bit _ 6 w).mp y
      rcases h with h | h
      · have := (msk_bit (fun w => lv (aP A) B heap half w) 6 w).mpr ⟨y1, y2.1⟩
        rw [h, Nat.zero_testBit] at this
        cases this
      · exact absurd y2.2 h
    · simpa using y
  by_cases c1 : msk (fun w => lv (aP A) B heap half w) 6 = 0
  · rw [hm0 (.inl c1), c1]
    have e0 : ((0 : Nat) : Int) = 0 := rfl
    rw [xfix_unf, sX10_goodWays_20]
    simp (disch := omega) only [xk_none, xk_inl, xk_inr, xk_ite, xri_v, xrl_v, xrv_v, xb_z0, xb_z1, xb_b2, if_true, if_false, ite_true, ite_false, iZ_lit, iZ_m1, iZ_m99, iZ_m8, iZ_add, iZ_sub, iZ_mul, iZ_neg, nz0, nzi, iZ_lt, iZ_le, iZ_inj, b2_z, b2_o, ite_bPz, ite_bPo, xb_bP, iZ_xin, if_pos, ite_self, ↓reduceIte, Int.reduceAdd, Int.reduceSub, Int.reduceMul, Int.reduceNeg, Int.reduceLT, Int.reduceLE, if_neg, e6, e0]
  · have c1' : ¬ ((msk (fun w => lv (aP A) B heap half w) 6 : Nat) : Int) = 0 := by omega
    by_cases c2 : jJt A heap half < aJ A
    · rw [if_pos c2] at hst
      rw [hm0 (.inr fun z => jJt_l.mpr z c2)]
      have e0 : ((0 : Nat) : Int) = 0 := rfl
      have hj8 := hA.2.1
      rw [xfix_unf, sX10_goodWays_20]
      simp (disch := omega) only [xk_none, xk_inl, xk_inr, xk_ite, xri_v, xrl_v, xrv_v, xb_z0, xb_z1, xb_b2, if_true, if_false, ite_true, ite_false, iZ_lit, iZ_m1, iZ_m99, iZ_m8, iZ_add, iZ_sub, iZ_mul, iZ_neg, nz0, nzi, iZ_lt, iZ_le, iZ_inj, b2_z, b2_o, ite_bPz, ite_bPo, xb_bP, iZ_xin, if_pos, ite_self, ↓reduceIte, Int.reduceAdd, Int.reduceSub, Int.reduceMul, Int.reduceNeg, Int.reduceLT, Int.reduceLE, if_neg, e6, e0, c1', hst]
    · rw [if_neg c2] at hst
      rw [← hmm (jJt_l.mp c2)]
      rw [xfix_unf, sX10_goodWays_20]
      simp (disch := omega) only [xk_none, xk_inl, xk_inr, xk_ite, xri_v, xrl_v, xrv_v, xb_z0, xb_z1, xb_b2, if_true, if_false, ite_true, ite_false, iZ_lit, iZ_m1, iZ_m99, iZ_m8, iZ_add, iZ_sub, iZ_mul, iZ_neg, nz0, nzi, iZ_lt, iZ_le, iZ_inj, b2_z, b2_o, ite_bPz, ite_bPo, xb_bP, iZ_xin, if_pos, ite_self, ↓reduceIte, Int.reduceAdd, Int.reduceSub, Int.reduceMul, Int.reduceNeg, Int.reduceLT, Int.reduceLE, if_neg, e6, c1', hst]
