/-! the class: cells kept by their number at an axis -/
noncomputable def stc (a b : Nat) : Nat → Int64
  | 0 => 0
  | n + 1 => if b.testBit n = true then stc a b n ||| strp a n else stc a b n
theorem stc_b {a b : Nat} (ha : a < 2) : ∀ n i, n ≤ 8 → i < 64 → (lB (stc a b n) i = true ↔ alg i a < n ∧ b.testBit (alg i a) = true)
  | 0, i, _, _ => by unfold stc; rw [lB_0]; simp
  | n + 1, i, hn, hi => by
    unfold stc
    have ih := stc_b (b := b) ha n i (by omega) hi
    by_cases y : b.testBit n = true
    · rw [if_pos y, lB_or, Bool.or_eq_true, ih, strp_b ha (by omega) hi, decide_eq_true_eq]
      constructor
      · rintro (z | z)
        · exact ⟨by omega, z.2⟩
        · exact ⟨by omega, z ▸ y⟩
      · rintro ⟨z1, z2⟩
        by_cases e : alg i a = n
        · exact .inr e
        · exact .inl ⟨by omega, z2⟩
    · rw [if_neg y, ih]
      constructor
      · rintro ⟨z1, z2⟩; exact ⟨by omega, z2⟩
      · rintro ⟨z1, z2⟩
        refine ⟨?_, z2⟩
        by_cases e : alg i a = n
        · exact absurd (e ▸ z2) y
        · omega
theorem x_keep {M : xM} {k a b : Nat} (ha : a < 3) (hb : b < 2147483648) : ∃ M', fX6_keep [.inr (.inr (6, k)), .inl (iZ (a)), .inl (iZ (b))] M = some (none, M') ∧ xSame (fun r => r = (44, k)) M M' ∧ ∀ c, c < 512 → sB M' k c = (sB M k c && b.testBit (alg c a)) := by
  have e8 : ((8 : Nat) : Int) = 8 := rfl
  by_cases a2 : a = 2
  · subst a2
    have e2 : ((2 : Nat) : Int) = 2 := rfl
    obtain ⟨M2, b1, b2, b3⟩ := xfor_M (sg := gX6_keep) (st := fun i M => (5, [some (.inr (.inr (6, k))), some (.inl (iZ (((2 : Nat))))), some (.inl (iZ (b))), some (.inr (.inl (0))), none, some (.inl (iZ (i))), none], [], M)) (I := fun n K => xSame (fun r => r = (44, k)) M K ∧ ∀ z, xL K (44, k) z = if z < n ∧ b.testBit z = false then 0 else xL M (44, k) z) (n := 8) (fun i K hi hK => by
      have hz := hK.2 i
      rw [if_neg (by omega)] at hz
      by_cases y : b.testBit i = true
      · refine ⟨xpL K (44, k) i (xL M (44, k) i), ?_, hK.1.pL rfl, fun z => ?_⟩
        · rw [xfix_unf, sX6_keep_5]
          simp (disch := omega) only [xk_none, xk_inl, xk_inr, xk_ite, xri_v, xrl_v, xrv_v, xb_z0, xb_z1, xb_b2, if_true, if_false, ite_true, ite_false, iZ_lit, iZ_m1, iZ_m99, iZ_m8, iZ_add, iZ_sub, iZ_mul, iZ_neg, nz0, nzi, iZ_lt, iZ_le, iZ_inj, b2_z, b2_o, ite_bPz, ite_bPo, xb_bP, iZ_xin, if_pos, ite_self, ↓reduceIte, Int.reduceAdd, Int.reduceSub, Int.reduceMul, Int.reduceNeg, Int.reduceLT, Int.reduceLE, if_neg, nS, iZ_clampN, iZ_bit, iZ_one, iZ_and, iZ_or, iZ_ndn, bP_t y]
          rw [xfix_unf, sX6_keep_26]
          simp (disch := omega) only [xk_none, xk_inl, xk_inr, xk_ite, xri_v, xrl_v, xrv_v, xb_z0, xb_z1, xb_b2, if_true, if_false, ite_true, ite_false, iZ_lit, iZ_m1, iZ_m99, iZ_m8, iZ_add, iZ_sub, iZ_mul, iZ_neg, nz0, nzi, iZ_lt, iZ_le, iZ_inj, b2_z, b2_o, ite_bPz, ite_bPo, xb_bP, iZ_xin, if_pos, ite_self, ↓reduceIte, Int.reduceAdd, Int.reduceSub, Int.reduceMul, Int.reduceNeg, Int.reduceLT, Int.reduceLE, if_neg, nS, iZ_clampN, iZ_bit, iZ_one, iZ_and, iZ_or, iZ_ndn, e2, hz]
        · rw [xL_pL]
          by_cases e : z = i
          · rw [if_pos ⟨rfl, e⟩, if_neg (by rw [e, y]; simp), e]
          · rw [if_neg (fun q => e q.2), hK.2 z]
            by_cases e3 : z < i ∧ b.testBit z = false
            · rw [if_pos e3, if_pos ⟨by omega, e3.2⟩]
            · rw [if_neg e3, if_neg (fun q => e3 ⟨by omega, q.2⟩)]
      · refine ⟨xpL K (44, k) i 0, ?_, hK.1.pL rfl, fun z => ?_⟩
        · rw [xfix_unf, sX6_keep_5]
          simp (disch := omega) only [xk_none, xk_inl, xk_inr, xk_ite, xri_v, xrl_v, xrv_v, xb_z0, xb_z1, xb_b2, if_true, if_false, ite_true, ite_false, iZ_lit, iZ_m1, iZ_m99, iZ_m8, iZ_add, iZ_sub, iZ_mul, iZ_neg, nz0, nzi, iZ_lt, iZ_le, iZ_inj, b2_z, b2_o, ite_bPz, ite_bPo, xb_bP, iZ_xin, if_pos, ite_self, ↓reduceIte, Int.reduceAdd, Int.reduceSub, Int.reduceMul, Int.reduceNeg, Int.reduceLT, Int.reduceLE, if_neg, nS, iZ_clampN, iZ_bit, iZ_one, iZ_and, iZ_or, iZ_ndn, bP_f y]
          rw [xfix_unf, sX6_keep_26]
          simp (disch := omega) only [xk_none, xk_inl, xk_inr, xk_ite, xri_v, xrl_v, xrv_v, xb_z0, xb_z1, xb_b2, if_true, if_false, ite_true, ite_false, iZ_lit, iZ_m1, iZ_m99, iZ_m8, iZ_add, iZ_sub, iZ_mul, iZ_neg, nz0, nzi, iZ_lt, iZ_le, iZ_inj, b2_z, b2_o, ite_bPz, ite_bPo, xb_bP, iZ_xin, if_pos, ite_self, ↓reduceIte, Int.reduceAdd, Int.reduceSub, Int.reduceMul, Int.reduceNeg, Int.reduceLT, Int.reduceLE, if_neg, nS, iZ_clampN, iZ_bit, iZ_one, iZ_and, iZ_or, iZ_ndn, e2]
        · rw [xL_pL]
          by_cases e : z = i
          · rw [if_pos ⟨rfl, e⟩, if_pos ⟨by omega, by rw [e]; simpa using y⟩]
          · rw [if_neg (fun q => e q.2), hK.2 z]
            by_cases e3 : z < i ∧ b.testBit z = false
            · rw [if_pos e3, if_pos ⟨by omega, e3.2⟩]
            · rw [if_neg e3, if_neg (fun q => e3 ⟨by omega, q.2⟩)]) (a := 0) (M := M) (by omega) ⟨xSame.rf, fun z => by rw [if_neg (by omega)]⟩
    refine ⟨M2, ?_, b2, fun c hc => ?_⟩
    · show xfix gX6_keep (0, [some (.inr (.inr (6, k))), some (.inl (iZ (((2 : Nat))))), some (.inl (iZ (b))), none, none, none, none], [], M) = _; rw [xfix_unf, sX6_keep_0]
      simp (disch := omega) only [xk_none, xk_inl, xk_inr, xk_ite, xri_v, xrl_v, xrv_v, xb_z0, xb_z1, xb_b2, if_true, if_false, ite_true, ite_false, iZ_lit, iZ_m1, iZ_m99, iZ_m8, iZ_add, iZ_sub, iZ_mul, iZ_neg, nz0, nzi, iZ_lt, iZ_le, iZ_inj, b2_z, b2_o, ite_bPz, ite_bPo, xb_bP, iZ_xin, if_pos, ite_self, ↓reduceIte, Int.reduceAdd, Int.reduceSub, Int.reduceMul, Int.reduceNeg, Int.reduceLT, Int.reduceLE, if_neg]
      refine Eq.trans b1 ?_
      rw [xfix_unf, sX6_keep_5]
      simp (disch := omega) only [xk_none, xk_inl, xk_inr, xk_ite, xri_v, xrl_v, xrv_v, xb_z0, xb_z1, xb_b2, if_true, if_false, ite_true, ite_false, iZ_lit, iZ_m1, iZ_m99, iZ_m8, iZ_add, iZ_sub, iZ_mul, iZ_neg, nz0, nzi, iZ_lt, iZ_le, iZ_inj, b2_z, b2_o, ite_bPz, ite_bPo, xb_bP, iZ_xin, if_pos, ite_self, ↓reduceIte, Int.reduceAdd, Int.reduceSub, Int.reduceMul, Int.reduceNeg, Int.reduceLT, Int.reduceLE, if_neg, e8]
      rw [xfix_unf, sX6_keep_98]
      simp (disch := omega) only [xk_none, xk_inl, xk_inr, xk_ite, xri_v, xrl_v, xrv_v, xb_z0, xb_z1, xb_b2, if_true, if_false, ite_true, ite_false, iZ_lit, iZ_m1, iZ_m99, iZ_m8, iZ_add, iZ_sub, iZ_mul, iZ_neg, nz0, nzi, iZ_lt, iZ_le, iZ_inj, b2_z, b2_o, ite_bPz, ite_bPo, xb_bP, iZ_xin, if_pos, ite_self, ↓reduceIte, Int.reduceAdd, Int.reduceSub, Int.reduceMul, Int.reduceNeg, Int.reduceLT, Int.reduceLE, if_neg, e2]
    · have e : alg c 2 = c / 64 := rfl
      rw [e]
      unfold sB
      rw [b3]
      by_cases y : b.testBit (c / 64) = true
      · rw [if_neg (by rw [y]; simp), y, Bool.and_true]
      · rw [Bool.not_eq_true] at y
        rw [if_pos ⟨by omega, y⟩, y, Bool.and_false, lB_0]
  · have lp := xfor_F (sg := gX6_keep) (fun i => (5, [some (.inr (.inr (6, k))), some (.inl (iZ (a))), some (.inl (iZ (b))), some (.inr (.inl ((stc a b i)))), none, some (.inl (iZ (i))), none], [], M)) (a := 0) (n := 8) (by omega) (fun i _ hi => by
      rw [nS]
      have e1 : (8 : Int) * (i : Int) = ((8 * i : Nat) : Int) := by omega
      by_cases y : b.testBit i = true
      · have eS : stc a b (i + 1) = stc a b i ||| strp a i := by
          show (if b.testBit i = true then _ else _) = _
          rw [if_pos y]
        rw [eS]
        rw [xfix_unf, sX6_keep_5]
        simp (disch := omega) only [xk_none, xk_inl, xk_inr, xk_ite, xri_v, xrl_v, xrv_v, xb_z0, xb_z1, xb_b2, if_true, if_false, ite_true, ite_false, iZ_lit, iZ_m1, iZ_m99, iZ_m8, iZ_add, iZ_sub, iZ_mul, iZ_neg, nz0, nzi, iZ_lt, iZ_le, iZ_inj, b2_z, b2_o, ite_bPz, ite_bPo, xb_bP, iZ_xin, if_pos, ite_self, ↓reduceIte, Int.reduceAdd, Int.reduceSub, Int.reduceMul, Int.reduceNeg, Int.reduceLT, Int.reduceLE, if_neg, nS, iZ_clampN, iZ_bit, iZ_one, iZ_and, iZ_or, iZ_ndn, bP_t y]
        unfold strp
        by_cases c0 : a = 0
        · subst c0
          have e0 : ((0 : Nat) : Int) = 0 := rfl
          rw [xfix_unf, sX6_keep_26]
          simp (disch := omega) only [xk_none, xk_inl, xk_inr, xk_ite, xri_v, xrl_v, xrv_v, xb_z0, xb_z1, xb_b2, if_true, if_false, ite_true, ite_false, iZ_lit, iZ_m1, iZ_m99, iZ_m8, iZ_add, iZ_sub, iZ_mul, iZ_neg, nz0, nzi, iZ_lt, iZ_le, iZ_inj, b2_z, b2_o, ite_bPz, ite_bPo, xb_bP, iZ_xin, if_pos, ite_self, ↓reduceIte, Int.reduceAdd, Int.reduceSub, Int.reduceMul, Int.reduceNeg, Int.reduceLT, Int.reduceLE, if_neg, e0]
        · rw [if_neg c0]
          rw [xfix_unf, sX6_keep_26]
          simp (disch := omega) only [xk_none, xk_inl, xk_inr, xk_ite, xri_v, xrl_v, xrv_v, xb_z0, xb_z1, xb_b2, if_true, if_false, ite_true, ite_false, iZ_lit, iZ_m1, iZ_m99, iZ_m8, iZ_add, iZ_sub, iZ_mul, iZ_neg, nz0, nzi, iZ_lt, iZ_le, iZ_inj, b2_z, b2_o, ite_bPz, ite_bPo, xb_bP, iZ_xin, if_pos, ite_self, ↓reduceIte, Int.reduceAdd, Int.reduceSub, Int.reduceMul, Int.reduceNeg, Int.reduceLT, Int.reduceLE, if_neg, e1]
      · have eS : stc a b (i + 1) = stc a b i := by
          show (if b.testBit i = true then _ else _) = _
          rw [if_neg y]
        rw [eS]
        rw [xfix_unf, sX6_keep_5]
        simp (disch := omega) only [xk_none, xk_inl, xk_inr, xk_ite, xri_v, xrl_v, xrv_v, xb_z0, xb_z1, xb_b2, if_true, if_false, ite_true, ite_false, iZ_lit, iZ_m1, iZ_m99, iZ_m8, iZ_add, iZ_sub, iZ_mul, iZ_neg, nz0, nzi, iZ_lt, iZ_le, iZ_inj, b2_z, b2_o, ite_bPz, ite_bPo, xb_bP, iZ_xin, if_pos, ite_self, ↓reduceIte, Int.reduceAdd, Int.reduceSub, Int.reduceMul, Int.reduceNeg, Int.reduceLT, Int.reduceLE, if_neg, nS, iZ_clampN, iZ_bit, iZ_one, iZ_and, iZ_or, iZ_ndn, bP_f y]
        rw [xfix_unf, sX6_keep_26]
        simp (disch := omega) only [xk_none, xk_inl, xk_inr, xk_ite, xri_v, xrl_v, xrv_v, xb_z0, xb_z1, xb_b2, if_true, if_false, ite_true, ite_false, iZ_lit, iZ_m1, iZ_m99, iZ_m8, iZ_add, iZ_sub, iZ_mul, iZ_neg, nz0, nzi, iZ_lt, iZ_le, iZ_inj, b2_z, b2_o, ite_bPz, ite_bPo, xb_bP, iZ_xin, if_pos, ite_self, ↓reduceIte, Int.reduceAdd, Int.reduceSub, Int.reduceMul, Int.reduceNeg, Int.reduceLT, Int.reduceLE, if_neg])
    obtain ⟨M2, b1, b2, b3⟩ := xfor_M (sg := gX6_keep) (st := fun i M => (98, [some (.inr (.inr (6, k))), some (.inl (iZ (a))), none, some (.inr (.inl ((stc a b 8)))), none, some (.inl (iZ (i))), none], [], M)) (I := fun n K => xSame (fun r => r = (44, k)) M K ∧ ∀ z, xL K (44, k) z = if z < n then xL M (44, k) z &&& stc a b 8 else xL M (44, k) z) (n := 8) (fun i K hi hK => by
      have hz := hK.2 i
      rw [if_neg (by omega)] at hz
      refine ⟨xpL K (44, k) i (xL M (44, k) i &&& stc a b 8), ?_, hK.1.pL rfl, fun z => ?_⟩
      · rw [xfix_unf, sX6_keep_98]
        simp (disch := omega) only [xk_none, xk_inl, xk_inr, xk_ite, xri_v, xrl_v, xrv_v, xb_z0, xb_z1, xb_b2, if_true, if_false, ite_true, ite_false, iZ_lit, iZ_m1, iZ_m99, iZ_m8, iZ_add, iZ_sub, iZ_mul, iZ_neg, nz0, nzi, iZ_lt, iZ_le, iZ_inj, b2_z, b2_o, ite_bPz, ite_bPo, xb_bP, iZ_xin, if_pos, ite_self, ↓reduceIte, Int.reduceAdd, Int.reduceSub, Int.reduceMul, Int.reduceNeg, Int.reduceLT, Int.reduceLE, if_neg, nS, iZ_clampN, iZ_bit, iZ_one, iZ_and, iZ_or, iZ_ndn, hz]
      · rw [xL_pL]
        by_cases e : z = i
        · rw [if_pos ⟨rfl, e⟩, if_pos (by omega), e]
        · rw [if_neg (fun q => e q.2), hK.2 z]
          by_cases e3 : z < i
          · rw [if_pos e3, if_pos (by omega)]
          · rw [if_neg e3, if_neg (by omega)]) (a := 0) (M := M) (by omega) ⟨xSame.rf, fun z => by rw [if_neg (by omega)]⟩
    refine ⟨M2, ?_, b2, fun c hc => ?_⟩
    · show xfix gX6_keep (0, [some (.inr (.inr (6, k))), some (.inl (iZ (a))), some (.inl (iZ (b))), none, none, none, none], [], M) = _; rw [xfix_unf, sX6_keep_0]
      simp (disch := omega) only [xk_none, xk_inl, xk_inr, xk_ite, xri_v, xrl_v, xrv_v, xb_z0, xb_z1, xb_b2, if_true, if_false, ite_true, ite_false, iZ_lit, iZ_m1, iZ_m99, iZ_m8, iZ_add, iZ_sub, iZ_mul, iZ_neg, nz0, nzi, iZ_lt, iZ_le, iZ_inj, b2_z, b2_o, ite_bPz, ite_bPo, xb_bP, iZ_xin, if_pos, ite_self, ↓reduceIte, Int.reduceAdd, Int.reduceSub, Int.reduceMul, Int.reduceNeg, Int.reduceLT, Int.reduceLE, if_neg]
      refine Eq.trans lp ?_
      rw [xfix_unf, sX6_keep_5]
      simp (disch := omega) only [xk_none, xk_inl, xk_inr, xk_ite, xri_v, xrl_v, xrv_v, xb_z0, xb_z1, xb_b2, if_true, if_false, ite_true, ite_false, iZ_lit, iZ_m1, iZ_m99, iZ_m8, iZ_add, iZ_sub, iZ_mul, iZ_neg, nz0, nzi, iZ_lt, iZ_le, iZ_inj, b2_z, b2_o, ite_bPz, ite_bPo, xb_bP, iZ_xin, if_pos, ite_self, ↓reduceIte, Int.reduceAdd, Int.reduceSub, Int.reduceMul, Int.reduceNeg, Int.reduceLT, Int.reduceLE, if_neg, e8]
      refine Eq.trans b1 ?_
      rw [xfix_unf, sX6_keep_98]
      simp (disch := omega) only [xk_none, xk_inl, xk_inr, xk_ite, xri_v, xrl_v, xrv_v, xb_z0, xb_z1, xb_b2, if_true, if_false, ite_true, ite_false, iZ_lit, iZ_m1, iZ_m99, iZ_m8, iZ_add, iZ_sub, iZ_mul, iZ_neg, nz0, nzi, iZ_lt, iZ_le, iZ_inj, b2_z, b2_o, ite_bPz, ite_bPo, xb_bP, iZ_xin, if_pos, ite_self, ↓reduceIte, Int.reduceAdd, Int.reduceSub, Int.reduceMul, Int.reduceNeg, Int.reduceLT, Int.reduceLE, if_neg, e8]
    · have hm : c % 64 < 64 := Nat.mod_lt _ (by decide)
      have halg : alg (c % 64) a = alg c a := by
        unfold alg
        rcases (by omega : a = 0 ∨ a = 1) with e | e <;> subst e
        · rw [if_pos rfl, if_pos rfl]; omega
        · rw [if_neg (by decide), if_pos rfl, if_neg (by decide), if_pos rfl]; omega
      have hl := alg_lt hc a
      have hs := stc_b (b := b) (by omega : a < 2) 8 (c % 64) (by omega) hm
      rw [halg] at hs
      unfold sB
      rw [b3, if_pos (by omega), lB_and]
      congr 1
      rw [Bool.eq_iff_iff, hs]
      exact ⟨fun z => z.2, fun z => ⟨hl, z⟩⟩
