/-! the class: a set of cells is moved by one -/
noncomputable def spW (v : Int64) (w : Nat) : Int64 := if w = 0 then (v &&& 9187201950435737471) <<< ((iZ 1).toInt64 &&& 63) else if w = 1 then (Int64.toUInt64 (v &&& (-72340172838076674)) >>> ((iZ 1).toInt64.toUInt64 &&& Int64.toUInt64 63)).toInt64 else if w = 2 then v <<< ((iZ 8).toInt64 &&& 63) else (Int64.toUInt64 v >>> ((iZ 8).toInt64.toUInt64 &&& Int64.toUInt64 63)).toInt64
theorem x_stepPlane {M : xM} {v : Int64} {w : Nat} (hw : w < 4) : fX6_stepPlane [.inr (.inl (v)), .inl (iZ (w))] M = some (some (.inr (.inl (spW v w))), M) := by
  unfold spW
  rcases (by omega : w = 0 ∨ w = 1 ∨ w = 2 ∨ w = 3) with e | e | e | e <;> subst e
  · show xfix gX6_stepPlane (0, [some (.inr (.inl (v))), none, some (.inl (iZ (((0 : Nat)))))], [], M) = _; rw [xfix_unf, sX6_stepPlane_0]
    rw [if_pos rfl, if_pos (show iZ ((0 : Nat) : Int) = 0 from rfl)]
    rfl
  · show xfix gX6_stepPlane (0, [some (.inr (.inl (v))), none, some (.inl (iZ (((1 : Nat)))))], [], M) = _; rw [xfix_unf, sX6_stepPlane_0]
    rw [if_neg (show ¬ iZ ((1 : Nat) : Int) = 0 by decide +kernel), if_pos (show iZ ((1 : Nat) : Int) = 1 from rfl), if_neg (show ¬ (1 : Nat) = 0 by decide), if_pos (show (1 : Nat) = 1 from rfl)]
    rfl
  · show xfix gX6_stepPlane (0, [some (.inr (.inl (v))), none, some (.inl (iZ (((2 : Nat)))))], [], M) = _; rw [xfix_unf, sX6_stepPlane_0]
    rw [if_neg (show ¬ iZ ((2 : Nat) : Int) = 0 by decide +kernel), if_neg (show ¬ iZ ((2 : Nat) : Int) = 1 by decide +kernel), if_pos (show iZ ((2 : Nat) : Int) = 2 from rfl), if_neg (show ¬ (2 : Nat) = 0 by decide), if_neg (show ¬ (2 : Nat) = 1 by decide), if_pos (show (2 : Nat) = 2 from rfl)]
    rfl
  · show xfix gX6_stepPlane (0, [some (.inr (.inl (v))), none, some (.inl (iZ (((3 : Nat)))))], [], M) = _; rw [xfix_unf, sX6_stepPlane_0]
    rw [if_neg (show ¬ iZ ((3 : Nat) : Int) = 0 by decide +kernel), if_neg (show ¬ iZ ((3 : Nat) : Int) = 1 by decide +kernel), if_neg (show ¬ iZ ((3 : Nat) : Int) = 2 by decide +kernel), if_neg (show ¬ (3 : Nat) = 0 by decide), if_neg (show ¬ (3 : Nat) = 1 by decide), if_neg (show ¬ (3 : Nat) = 2 by decide)]
    rfl
theorem spW_b {v : Int64} {w i : Nat} (hw : w < 4) (hi : i < 64) : lB (spW v w) i = if w = 0 then decide (i % 8 ≠ 0) && lB v (i - 1) else if w = 1 then decide (i % 8 ≠ 7) && lB v (i + 1) else if w = 2 then decide (8 ≤ i) && lB v (i - 8) else lB v (i + 8) := by
  unfold spW
  rcases (by omega : w = 0 ∨ w = 1 ∨ w = 2 ∨ w = 3) with e | e | e | e <;> subst e
  · rw [if_pos rfl, if_pos rfl]
    have h := lB_shl (v := v &&& 9187201950435737471) (p := 1) (by omega) i
    refine h.trans ?_
    by_cases e : 1 ≤ i
    · rw [lB_and, lB_nl _ (by omega)]
      have e1 : decide ((i - 1) % 8 ≠ 7) = decide (i % 8 ≠ 0) := decide_eq_decide.mpr (by omega)
      rw [e1, decide_eq_true hi, decide_eq_true e, Bool.true_and, Bool.true_and, Bool.and_comm]
    · have e2 : i = 0 := by omega
      subst e2
      simp
  · rw [if_neg (by decide), if_pos rfl, if_neg (by decide), if_pos rfl]
    have h := lB_shr (v := v &&& (-72340172838076674)) (p := 1) (by omega) i
    refine h.trans ?_
    by_cases e : i < 63
    · rw [lB_and, lB_nf _ (by omega)]
      have e1 : decide ((1 + i) % 8 ≠ 0) = decide (i % 8 ≠ 7) := decide_eq_decide.mpr (by omega)
      rw [e1, Bool.and_comm, Nat.add_comm]
    · have e2 : i = 63 := by omega
      subst e2
      rw [lB_hi (by omega)]
      simp
  · rw [if_neg (by decide), if_neg (by decide), if_pos rfl, if_neg (by decide), if_neg (by decide), if_pos rfl]
    have h := lB_shl (v := v) (p := 8) (by omega) i
    refine h.trans ?_
    rw [decide_eq_true hi, Bool.true_and]
  · rw [if_neg (by decide), if_neg (by decide), if_neg (by decide), if_neg (by decide), if_neg (by decide), if_neg (by decide)]
    have h := lB_shr (v := v) (p := 8) (by omega) i
    refine h.trans ?_
    rw [Nat.add_comm]
theorem x_step {M : xM} {k w : Nat} (hw : w < 6) : ∃ M', fX6_step [.inr (.inr (6, k)), .inl (iZ (w))] M = some (none, M') ∧ xSame (fun r => r = (44, k)) M M' ∧ ∀ c, c < 512 → sB M' k c = stB (sB M k) w c := by
  have e8 : ((8 : Nat) : Int) = 8 := rfl
  have e7 : ((7 : Nat) : Int) = 7 := rfl
  by_cases w4 : w < 4
  · obtain ⟨M2, b1, b2, b3⟩ := xfor_M (sg := gX6_step) (st := fun i M => (88, [some (.inr (.inr (6, k))), some (.inl (iZ (w))), some (.inl (iZ (i)))], [], M)) (I := fun n K => xSame (fun r => r = (44, k)) M K ∧ ∀ z, xL K (44, k) z = if z < n then spW (xL M (44, k) z) w else xL M (44, k) z) (n := 8) (fun i K hi hK => by
      refine ⟨xpL K (44, k) i (spW (xL M (44, k) i) w), ?_, hK.1.pL rfl, fun z => ?_⟩
      · have hz := hK.2 i
        rw [if_neg (by omega)] at hz
        have hs := x_stepPlane (M := K) (v := xL M (44, k) i) w4
        rw [xfix_unf, sX6_step_88]
        simp (disch := omega) only [xk_none, xk_inl, xk_inr, xk_ite, xri_v, xrl_v, xrv_v, xb_z0, xb_z1, xb_b2, if_true, if_false, ite_true, ite_false, iZ_lit, iZ_m1, iZ_m99, iZ_m8, iZ_add, iZ_sub, iZ_mul, iZ_neg, nz0, nzi, iZ_lt, iZ_le, iZ_inj, b2_z, b2_o, ite_bPz, ite_bPo, xb_bP, iZ_xin, if_pos, ite_self, ↓reduceIte, Int.reduceAdd, Int.reduceSub, Int.reduceMul, Int.reduceNeg, Int.reduceLT, Int.reduceLE, if_neg, nS, iZ_clampN, iZ_bit, iZ_one, iZ_and, iZ_or, iZ_ndn, hz, hs]
      · rw [xL_pL]
        by_cases e : z = i
        · rw [if_pos ⟨rfl, e⟩, if_pos (by omega), e]
        · rw [if_neg (fun q => e q.2), hK.2 z]
          by_cases e2 : z < i
          · rw [if_pos e2, if_pos (by omega)]
          · rw [if_neg e2, if_neg (by omega)]) (a := 0) (M := M) (by omega) ⟨xSame.rf, fun z => by rw [if_neg (by omega)]⟩
    refine ⟨M2, ?_, b2, fun c hc => ?_⟩
    · show xfix gX6_step (0, [some (.inr (.inr (6, k))), some (.inl (iZ (w))), none], [], M) = _; rw [xfix_unf, sX6_step_0]
      simp (disch := omega) only [xk_none, xk_inl, xk_inr, xk_ite, xri_v, xrl_v, xrv_v, xb_z0, xb_z1, xb_b2, if_true, if_false, ite_true, ite_false, iZ_lit, iZ_m1, iZ_m99, iZ_m8, iZ_add, iZ_sub, iZ_mul, iZ_neg, nz0, nzi, iZ_lt, iZ_le, iZ_inj, b2_z, b2_o, ite_bPz, ite_bPo, xb_bP, iZ_xin, if_pos, ite_self, ↓reduceIte, Int.reduceAdd, Int.reduceSub, Int.reduceMul, Int.reduceNeg, Int.reduceLT, Int.reduceLE, if_neg]
      refine Eq.trans b1 ?_
      rw [xfix_unf, sX6_step_88]
      simp (disch := omega) only [xk_none, xk_inl, xk_inr, xk_ite, xri_v, xrl_v, xrv_v, xb_z0, xb_z1, xb_b2, if_true, if_false, ite_true, ite_false, iZ_lit, iZ_m1, iZ_m99, iZ_m8, iZ_add, iZ_sub, iZ_mul, iZ_neg, nz0, nzi, iZ_lt, iZ_le, iZ_inj, b2_z, b2_o, ite_bPz, ite_bPo, xb_bP, iZ_xin, if_pos, ite_self, ↓reduceIte, Int.reduceAdd, Int.reduceSub, Int.reduceMul, Int.reduceNeg, Int.reduceLT, Int.reduceLE, if_neg, e8]
    · have hm : c % 64 < 64 := Nat.mod_lt _ (by decide)
      have h1 : sB M2 k c = lB (spW (xL M (44, k) (c / 64)) w) (c % 64) := by
        unfold sB
        rw [b3, if_pos (by omega)]
      rw [h1, spW_b w4 hm]
      unfold stB
      rcases (by omega : w = 0 ∨ w = 1 ∨ w = 2 ∨ w = 3) with e | e | e | e <;> subst e
      · rw [if_pos rfl, if_pos rfl]
        by_cases q : c % 8 = 0
        · have q2 : c % 64 % 8 = 0 := by omega
          simp [q, q2]
        · have q2 : ¬ c % 64 % 8 = 0 := by omega
          simp only [q, q2, ne_eq, not_false_eq_true, decide_true, Bool.true_and]
          unfold sB
          rw [show (c - 1) / 64 = c / 64 by omega, show (c - 1) % 64 = c % 64 - 1 by omega]
      · rw [if_neg (by decide), if_pos rfl, if_neg (by decide), if_pos rfl]
        by_cases q : c % 8 = 7
        · have q2 : c % 64 % 8 = 7 := by omega
          simp [q, q2]
        · have q2 : ¬ c % 64 % 8 = 7 := by omega
          simp only [q, q2, ne_eq, not_false_eq_true, decide_true, Bool.true_and]
          unfold sB
          rw [show (c + 1) / 64 = c / 64 by omega, show (c + 1) % 64 = c % 64 + 1 by omega]
      · rw [if_neg (by decide), if_neg (by decide), if_pos rfl, if_neg (by decide), if_neg (by decide), if_pos rfl]
        by_cases q : c / 8 % 8 = 0
        · have q2 : ¬ 8 ≤ c % 64 := by omega
          simp [q, q2]
        · have q2 : 8 ≤ c % 64 := by omega
          simp only [q, q2, ne_eq, not_false_eq_true, decide_true, Bool.true_and]
          unfold sB
          rw [show (c - 8) / 64 = c / 64 by omega, show (c - 8) % 64 = c % 64 - 8 by omega]
      · rw [if_neg (by decide), if_neg (by decide), if_neg (by decide), if_neg (by decide), if_neg (by decide), if_neg (by decide), if_pos rfl]
        by_cases q : c / 8 % 8 = 7
        · rw [lB_hi (by omega)]
          simp [q]
        · simp only [q, ne_eq, not_false_eq_true, decide_true, Bool.true_and]
          unfold sB
          rw [show (c + 8) / 64 = c / 64 by omega, show (c + 8) % 64 = c % 64 + 8 by omega]
  · by_cases w5 : w = 4
    · subst w5
      obtain ⟨M2, b1, b2, b3⟩ := xfor_M (sg := gX6_step) (st := fun i M => (8, [some (.inr (.inr (6, k))), none, some (.inl (iZ (((7 : Int) - (i : Nat)))))], [], M)) (I := fun n K => xSame (fun r => r = (44, k)) M K ∧ ∀ z, xL K (44, k) z = if z ≤ 7 ∧ 7 < z + n then xL M (44, k) (z - 1) else xL M (44, k) z) (n := 7) (fun i K hi hK => by
        have c1 : Int32.toNatClampNeg (iZ ((7 : Int) - (i : Nat))) = 7 - i := by rw [iZ_clamp (by omega)]; omega
        have c2 : Int32.toNatClampNeg (iZ ((7 : Int) - (i : Nat) - 1)) = 6 - i := by rw [iZ_clamp (by omega)]; omega
        have hz := hK.2 (6 - i)
        rw [if_neg (by omega)] at hz
        refine ⟨xpL K (44, k) (7 - i) (xL M (44, k) (6 - i)), ?_, hK.1.pL rfl, fun z => ?_⟩
        · have e1 : (7 : Int) - ((i + 1 : Nat) : Int) = 7 - (i : Nat) + -1 := by omega
          rw [e1]
          rw [xfix_unf, sX6_step_8]
          simp (disch := omega) only [xk_none, xk_inl, xk_inr, xk_ite, xri_v, xrl_v, xrv_v, xb_z0, xb_z1, xb_b2, if_true, if_false, ite_true, ite_false, iZ_lit, iZ_m1, iZ_m99, iZ_m8, iZ_add, iZ_sub, iZ_mul, iZ_neg, nz0, nzi, iZ_lt, iZ_le, iZ_inj, b2_z, b2_o, ite_bPz, ite_bPo, xb_bP, iZ_xin, if_pos, ite_self, ↓reduceIte, Int.reduceAdd, Int.reduceSub, Int.reduceMul, Int.reduceNeg, Int.reduceLT, Int.reduceLE, if_neg, nS, iZ_clampN, iZ_bit, iZ_one, iZ_and, iZ_or, iZ_ndn, c1, c2, hz]
        · rw [xL_pL]
          by_cases e : z = 7 - i
          · rw [if_pos ⟨rfl, e⟩, if_pos (by omega), e, show 7 - i - 1 = 6 - i by omega]
          · rw [if_neg (fun q => e q.2), hK.2 z]
            by_cases e2 : z ≤ 7 ∧ 7 < z + i
            · rw [if_pos e2, if_pos (by omega)]
            · rw [if_neg e2, if_neg (by omega)]) (a := 0) (M := M) (by omega) ⟨xSame.rf, fun z => by rw [if_neg (by omega)]⟩
      refine ⟨xpL M2 (44, k) 0 0, ?_, b2.pL rfl, fun c hc => ?_⟩
      · show xfix gX6_step (0, [some (.inr (.inr (6, k))), some (.inl (iZ (((4 : Nat))))), none], [], M) = _; rw [xfix_unf, sX6_step_0]
        have e4 : ((4 : Nat) : Int) = 4 := rfl
        simp (disch := omega) only [xk_none, xk_inl, xk_inr, xk_ite, xri_v, xrl_v, xrv_v, xb_z0, xb_z1, xb_b2, if_true, if_false, ite_true, ite_false, iZ_lit, iZ_m1, iZ_m99, iZ_m8, iZ_add, iZ_sub, iZ_mul, iZ_neg, nz0, nzi, iZ_lt, iZ_le, iZ_inj, b2_z, b2_o, ite_bPz, ite_bPo, xb_bP, iZ_xin, if_pos, ite_self, ↓reduceIte, Int.reduceAdd, Int.reduceSub, Int.reduceMul, Int.reduceNeg, Int.reduceLT, Int.reduceLE, if_neg, e4]
        refine Eq.trans b1 ?_
        have e0 : (7 : Int) - ((7 : Nat) : Int) = 0 := rfl
        rw [e0]
        rw [xfix_unf, sX6_step_8]
        simp (disch := omega) only [xk_none, xk_inl, xk_inr, xk_ite, xri_v, xrl_v, xrv_v, xb_z0, xb_z1, xb_b2, if_true, if_false, ite_true, ite_false, iZ_lit, iZ_m1, iZ_m99, iZ_m8, iZ_add, iZ_sub, iZ_mul, iZ_neg, nz0, nzi, iZ_lt, iZ_le, iZ_inj, b2_z, b2_o, ite_bPz, ite_bPo, xb_bP, iZ_xin, if_pos, ite_self, ↓reduceIte, Int.reduceAdd, Int.reduceSub, Int.reduceMul, Int.reduceNeg, Int.reduceLT, Int.reduceLE, if_neg, cl_0]
      · rw [show stB (sB M k) 4 c = (decide (64 ≤ c) && sB M k (c - 64)) from rfl, sB_pL]
        by_cases e : c / 64 = 0
        · rw [if_pos ⟨rfl, e⟩, lB_0]
          have q : ¬ 64 ≤ c := by omega
          simp [q]
        · rw [if_neg (fun q => e q.2)]
          have q : 64 ≤ c := by omega
          simp only [q, decide_true, Bool.true_and]
          unfold sB
          rw [b3, if_pos (by omega), show (c - 64) / 64 = c / 64 - 1 by omega, show (c - 64) % 64 = c % 64 by omega]
    · have w6 : w = 5 := by omega
      subst w6
      obtain ⟨M2, b1, b2, b3⟩ := xfor_M (sg := gX6_step) (st := fun i M => (49, [some (.inr (.inr (6, k))), none, some (.inl (iZ (i)))], [], M)) (I := fun n K => xSame (fun r => r = (44, k)) M K ∧ ∀ z, xL K (44, k) z = if z < n then xL M (44, k) (z + 1) else xL M (44, k) z) (n := 7) (fun i K hi hK => by
        have c2 : Int32.toNatClampNeg (iZ ((i : Int) + 1)) = i + 1 := by rw [iZ_clamp (by omega)]; omega
        have hz := hK.2 (i + 1)
        rw [if_neg (by omega)] at hz
        refine ⟨xpL K (44, k) i (xL M (44, k) (i + 1)), ?_, hK.1.pL rfl, fun z => ?_⟩
        · rw [xfix_unf, sX6_step_49]
          simp (disch := omega) only [xk_none, xk_inl, xk_inr, xk_ite, xri_v, xrl_v, xrv_v, xb_z0, xb_z1, xb_b2, if_true, if_false, ite_true, ite_false, iZ_lit, iZ_m1, iZ_m99, iZ_m8, iZ_add, iZ_sub, iZ_mul, iZ_neg, nz0, nzi, iZ_lt, iZ_le, iZ_inj, b2_z, b2_o, ite_bPz, ite_bPo, xb_bP, iZ_xin, if_pos, ite_self, ↓reduceIte, Int.reduceAdd, Int.reduceSub, Int.reduceMul, Int.reduceNeg, Int.reduceLT, Int.reduceLE, if_neg, nS, iZ_clampN, iZ_bit, iZ_one, iZ_and, iZ_or, iZ_ndn, c2, hz]
        · rw [xL_pL]
          by_cases e : z = i
          · rw [if_pos ⟨rfl, e⟩, if_pos (by omega), e]
          · rw [if_neg (fun q => e q.2), hK.2 z]
            by_cases e2 : z < i
            · rw [if_pos e2, if_pos (by omega)]
            · rw [if_neg e2, if_neg (by omega)]) (a := 0) (M := M) (by omega) ⟨xSame.rf, fun z => by rw [if_neg (by omega)]⟩
      refine ⟨xpL M2 (44, k) 7 0, ?_, b2.pL rfl, fun c hc => ?_⟩
      · show xfix gX6_step (0, [some (.inr (.inr (6, k))), some (.inl (iZ (((5 : Nat))))), none], [], M) = _; rw [xfix_unf, sX6_step_0]
        have e5 : ((5 : Nat) : Int) = 5 := rfl
        simp (disch := omega) only [xk_none, xk_inl, xk_inr, xk_ite, xri_v, xrl_v, xrv_v, xb_z0, xb_z1, xb_b2, if_true, if_false, ite_true, ite_false, iZ_lit, iZ_m1, iZ_m99, iZ_m8, iZ_add, iZ_sub, iZ_mul, iZ_neg, nz0, nzi, iZ_lt, iZ_le, iZ_inj, b2_z, b2_o, ite_bPz, ite_bPo, xb_bP, iZ_xin, if_pos, ite_self, ↓reduceIte, Int.reduceAdd, Int.reduceSub, Int.reduceMul, Int.reduceNeg, Int.reduceLT, Int.reduceLE, if_neg, e5]
        refine Eq.trans b1 ?_
        have c7 : Int32.toNatClampNeg (iZ 7) = 7 := iZ_clampN (n := 7) (by omega)
        rw [xfix_unf, sX6_step_49]
        simp (disch := omega) only [xk_none, xk_inl, xk_inr, xk_ite, xri_v, xrl_v, xrv_v, xb_z0, xb_z1, xb_b2, if_true, if_false, ite_true, ite_false, iZ_lit, iZ_m1, iZ_m99, iZ_m8, iZ_add, iZ_sub, iZ_mul, iZ_neg, nz0, nzi, iZ_lt, iZ_le, iZ_inj, b2_z, b2_o, ite_bPz, ite_bPo, xb_bP, iZ_xin, if_pos, ite_self, ↓reduceIte, Int.reduceAdd, Int.reduceSub, Int.reduceMul, Int.reduceNeg, Int.reduceLT, Int.reduceLE, if_neg, e7, c7]
      · rw [show stB (sB M k) 5 c = (decide (c < 448) && sB M k (c + 64)) from rfl, sB_pL]
        by_cases e : c / 64 = 7
        · rw [if_pos ⟨rfl, e⟩, lB_0]
          have q : ¬ c < 448 := by omega
          simp [q]
        · rw [if_neg (fun q => e q.2)]
          have q : c < 448 := by omega
          simp only [q, decide_true, Bool.true_and]
          unfold sB
          rw [b3, if_pos (by omega), show (c + 64) / 64 = c / 64 + 1 by omega, show (c + 64) % 64 = c % 64 by omega]
