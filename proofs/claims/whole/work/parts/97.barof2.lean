/-! the class: barrersOf -/
abbrev swF (k : Nat) (r : xR) : Prop := r = (44, 11 * k + 30) ∨ r = (44, 11 * k + 31)
theorem x_barrersOf {M : xM} {k P p : Nat} (f0 : xI M (5, 0) 0 = iZ P) (hP : P ≤ 9) (hp : p < P) : ∃ M', fX10_barrersOf [.inr (.inr (10, k)), .inl (iZ (p))] M = some (some (.inr (.inl (bAll (hitB M k p) P 6))), M') ∧ xSame (swF k) M M' := by
  obtain ⟨M2, b1, b2⟩ := xfor_M (sg := gX10_barrersOf) (st := fun i M' => (5, [some (.inr (.inr (10, k))), some (.inl (iZ (p))), some (.inr (.inl ((bAll (hitB M k p) P i)))), none, some (.inl (iZ (i))), none], [], M')) (I := fun _ K => xSame (swF k) M K) (n := 6) (fun w K hw hK => by
    obtain ⟨K1, c1, c2, c3⟩ := x_sweep (M := K) (k := k) (j := 11 * k + 21 + p) hw (by omega) (by omega)
    have hK1 : xSame (swF k) M K1 := hK.tr c2
    have g0 : xI K1 (5, 0) 0 = iZ P := by rw [(hK1 (5, 0) (by simp)).1]; exact f0
    have hsB : ∀ q, q < 9 → ∀ c, sB K (11 * k + 21 + q) c = sB M (11 * k + 21 + q) c := fun q hq c => sB_same hK (by simp; omega) c
    have hsB1 : ∀ q, q < 9 → ∀ c, sB K1 (11 * k + 21 + q) c = sB M (11 * k + 21 + q) c := fun q hq c => sB_same hK1 (by simp; omega) c
    have eF : sB K (11 * k + 21 + p) = sB M (11 * k + 21 + p) := funext fun c => hsB p (by omega) c
    rw [eF] at c3
    have lp := xfor_F (sg := gX10_barrersOf) (fun q => (27, [some (.inr (.inr (10, k))), some (.inl (iZ (p))), some (.inr (.inl ((bRow (hitB M k p) (bAll (hitB M k p) P w) w q)))), none, some (.inl (iZ (w))), some (.inl (iZ (q)))], [], K1)) (a := 0) (n := P) (by omega) (fun q _ hq => by
      have e1 : (9 : Int) * (w : Int) + (q : Int) = ((9 * w + q : Nat) : Int) := by omega
      rw [nS]
      have eS : bRow (hitB M k p) (bAll (hitB M k p) P w) w (q + 1) = @ite _ (hitB M k p w q) (Classical.propDecidable _) (bRow (hitB M k p) (bAll (hitB M k p) P w) w q ||| ((1 : Int64) <<< ((iZ ((9 * w + q : Nat) : Int)).toInt64 &&& 63))) (bRow (hitB M k p) (bAll (hitB M k p) P w) w q) := rfl
      rw [eS]
      by_cases e : q = p
      · rw [if_neg (fun z => z.1 e)]
        subst e
        rw [xfix_unf, sX10_barrersOf_27]
        simp (disch := omega) only [xk_none, xk_inl, xk_inr, xk_ite, xri_v, xrl_v, xrv_v, xb_z0, xb_z1, xb_b2, if_true, if_false, ite_true, ite_false, iZ_lit, iZ_m1, iZ_m99, iZ_m8, iZ_add, iZ_sub, iZ_mul, iZ_neg, nz0, nzi, iZ_lt, iZ_le, iZ_inj, b2_z, b2_o, ite_bPz, ite_bPo, xb_bP, iZ_xin, if_pos, ite_self, ↓reduceIte, Int.reduceAdd, Int.reduceSub, Int.reduceMul, Int.reduceNeg, Int.reduceLT, Int.reduceLE, if_neg, nS, iZ_clampN, iZ_bit, iZ_one, iZ_and, iZ_or, iZ_ndn, g0]
      · have hm := x_meets (M := K1) (k := 11 * k + 31) (j := 11 * k + 21 + q)
        have hiff : (∃ c, c < 512 ∧ sB K1 (11 * k + 31) c = true ∧ sB K1 (11 * k + 21 + q) c = true) ↔ hitB M k p w q := by
          constructor
          · rintro ⟨c, x1, x2, x3⟩
            rw [hsB1 q (by omega)] at x3
            exact ⟨e, c, x1, (c3 c x1).mp x2, x3⟩
          · rintro ⟨_, c, x1, x2, x3⟩
            exact ⟨c, x1, (c3 c x1).mpr x2, by rw [hsB1 q (by omega)]; exact x3⟩
        by_cases y : hitB M k p w q
        · rw [if_pos y]
          rw [bP_t (hiff.mpr y)] at hm
          rw [xfix_unf, sX10_barrersOf_27]
          simp (disch := omega) only [xk_none, xk_inl, xk_inr, xk_ite, xri_v, xrl_v, xrv_v, xb_z0, xb_z1, xb_b2, if_true, if_false, ite_true, ite_false, iZ_lit, iZ_m1, iZ_m99, iZ_m8, iZ_add, iZ_sub, iZ_mul, iZ_neg, nz0, nzi, iZ_lt, iZ_le, iZ_inj, b2_z, b2_o, ite_bPz, ite_bPo, xb_bP, iZ_xin, if_pos, ite_self, ↓reduceIte, Int.reduceAdd, Int.reduceSub, Int.reduceMul, Int.reduceNeg, Int.reduceLT, Int.reduceLE, if_neg, nS, iZ_clampN, iZ_bit, iZ_one, iZ_and, iZ_or, iZ_ndn, g0, hm, e1]
        · rw [if_neg y]
          rw [bP_f (fun z => y (hiff.mp z))] at hm
          rw [xfix_unf, sX10_barrersOf_27]
          simp (disch := omega) only [xk_none, xk_inl, xk_inr, xk_ite, xri_v, xrl_v, xrv_v, xb_z0, xb_z1, xb_b2, if_true, if_false, ite_true, ite_false, iZ_lit, iZ_m1, iZ_m99, iZ_m8, iZ_add, iZ_sub, iZ_mul, iZ_neg, nz0, nzi, iZ_lt, iZ_le, iZ_inj, b2_z, b2_o, ite_bPz, ite_bPo, xb_bP, iZ_xin, if_pos, ite_self, ↓reduceIte, Int.reduceAdd, Int.reduceSub, Int.reduceMul, Int.reduceNeg, Int.reduceLT, Int.reduceLE, if_neg, nS, iZ_clampN, iZ_bit, iZ_one, iZ_and, iZ_or, iZ_ndn, g0, hm])
    refine ⟨K1, ?_, hK1⟩
    have eA : bAll (hitB M k p) P (w + 1) = bRow (hitB M k p) (bAll (hitB M k p) P w) w P := rfl
    rw [eA]
    have t1 : xfix gX10_barrersOf (5, [some (.inr (.inr (10, k))), some (.inl (iZ (p))), some (.inr (.inl ((bAll (hitB M k p) P w)))), none, some (.inl (iZ (w))), none], [], K) = xfix gX10_barrersOf (27, [some (.inr (.inr (10, k))), some (.inl (iZ (p))), some (.inr (.inl ((bAll (hitB M k p) P w)))), none, some (.inl (iZ (w))), some (.inl (iZ (((0 : Nat)))))], [], K1) := by
      rw [xfix_unf, sX10_barrersOf_5]
      simp (disch := omega) only [xk_none, xk_inl, xk_inr, xk_ite, xri_v, xrl_v, xrv_v, xb_z0, xb_z1, xb_b2, if_true, if_false, ite_true, ite_false, iZ_lit, iZ_m1, iZ_m99, iZ_m8, iZ_add, iZ_sub, iZ_mul, iZ_neg, nz0, nzi, iZ_lt, iZ_le, iZ_inj, b2_z, b2_o, ite_bPz, ite_bPo, xb_bP, iZ_xin, if_pos, ite_self, ↓reduceIte, Int.reduceAdd, Int.reduceSub, Int.reduceMul, Int.reduceNeg, Int.reduceLT, Int.reduceLE, if_neg, nS, iZ_clampN, iZ_bit, iZ_one, iZ_and, iZ_or, iZ_ndn, c1]
      rfl
    refine (t1.trans lp).trans ?_
    rw [nS]
    rw [xfix_unf, sX10_barrersOf_27]
    simp (disch := omega) only [xk_none, xk_inl, xk_inr, xk_ite, xri_v, xrl_v, xrv_v, xb_z0, xb_z1, xb_b2, if_true, if_false, ite_true, ite_false, iZ_lit, iZ_m1, iZ_m99, iZ_m8, iZ_add, iZ_sub, iZ_mul, iZ_neg, nz0, nzi, iZ_lt, iZ_le, iZ_inj, b2_z, b2_o, ite_bPz, ite_bPo, xb_bP, iZ_xin, if_pos, ite_self, ↓reduceIte, Int.reduceAdd, Int.reduceSub, Int.reduceMul, Int.reduceNeg, Int.reduceLT, Int.reduceLE, if_neg, nS, iZ_clampN, iZ_bit, iZ_one, iZ_and, iZ_or, iZ_ndn, g0]) (a := 0) (M := M) (by omega) xSame.rf
  refine ⟨M2, ?_, b2⟩
  have e6 : ((6 : Nat) : Int) = 6 := rfl
  show xfix gX10_barrersOf (0, [some (.inr (.inr (10, k))), some (.inl (iZ (p))), none, none, none, none], [], M) = _; rw [xfix_unf, sX10_barrersOf_0]
  simp (disch := omega) only [xk_none, xk_inl, xk_inr, xk_ite, xri_v, xrl_v, xrv_v, xb_z0, xb_z1, xb_b2, if_true, if_false, ite_true, ite_false, iZ_lit, iZ_m1, iZ_m99, iZ_m8, iZ_add, iZ_sub, iZ_mul, iZ_neg, nz0, nzi, iZ_lt, iZ_le, iZ_inj, b2_z, b2_o, ite_bPz, ite_bPo, xb_bP, iZ_xin, if_pos, ite_self, ↓reduceIte, Int.reduceAdd, Int.reduceSub, Int.reduceMul, Int.reduceNeg, Int.reduceLT, Int.reduceLE, if_neg]
  refine Eq.trans b1 ?_
  rw [xfix_unf, sX10_barrersOf_5]
  simp (disch := omega) only [xk_none, xk_inl, xk_inr, xk_ite, xri_v, xrl_v, xrv_v, xb_z0, xb_z1, xb_b2, if_true, if_false, ite_true, ite_false, iZ_lit, iZ_m1, iZ_m99, iZ_m8, iZ_add, iZ_sub, iZ_mul, iZ_neg, nz0, nzi, iZ_lt, iZ_le, iZ_inj, b2_z, b2_o, ite_bPz, ite_bPo, xb_bP, iZ_xin, if_pos, ite_self, ↓reduceIte, Int.reduceAdd, Int.reduceSub, Int.reduceMul, Int.reduceNeg, Int.reduceLT, Int.reduceLE, if_neg, e6]
