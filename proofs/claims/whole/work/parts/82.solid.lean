/-! the class: sets of cells -/
/-- a cell of a set -/
def sB (M : xM) (k c : Nat) : Bool := lB (xL M (44, k) (c / 64)) (c % 64)
theorem sB_pL {M : xM} {k k' z c : Nat} {v : Int64} : sB (xpL M (44, k) z v) k' c = if k' = k ∧ c / 64 = z then lB v (c % 64) else sB M k' c := by
  unfold sB
  rw [xL_pL]
  by_cases h : k' = k ∧ c / 64 = z
  · rw [if_pos h, if_pos ⟨by rw [h.1], h.2⟩]
  · rw [if_neg h, if_neg (fun q => h ⟨congrArg Prod.snd q.1, q.2⟩)]
theorem sB_same {P : xR → Prop} {M M' : xM} {k : Nat} (h : xSame P M M') (hk : ¬ P (44, k)) (c : Nat) : sB M' k c = sB M k c := by unfold sB; rw [(h (44, k) hk).2]
/-- a loop over the eight planes, each being written -/
theorem x_wipe {M : xM} {k : Nat} : ∃ M', fX6_wipe [.inr (.inr (6, k))] M = some (none, M') ∧ xSame (fun r => r = (44, k)) M M' ∧ ∀ c, c < 512 → sB M' k c = false := by
  obtain ⟨M2, b1, b2, b3⟩ := xfor_M (sg := gX6_wipe) (st := fun i M => (2, [some (.inr (.inr (6, k))), some (.inl (iZ (i)))], [], M)) (I := fun n K => xSame (fun r => r = (44, k)) M K ∧ ∀ c, c / 64 < n → sB K k c = false) (n := 8) (fun i K hi hK => by
    refine ⟨xpL K (44, k) i 0, ?_, hK.1.pL rfl, fun c hc => ?_⟩
    · rw [xfix_unf, sX6_wipe_2]
      simp (disch := omega) only [xk_none, xk_inl, xk_inr, xk_ite, xri_v, xrl_v, xrv_v, xb_z0, xb_z1, xb_b2, if_true, if_false, ite_true, ite_false, iZ_lit, iZ_m1, iZ_m99, iZ_m8, iZ_add, iZ_sub, iZ_mul, iZ_neg, nz0, nzi, iZ_lt, iZ_le, iZ_inj, b2_z, b2_o, ite_bPz, ite_bPo, xb_bP, iZ_xin, if_pos, ite_self, ↓reduceIte, Int.reduceAdd, Int.reduceSub, Int.reduceMul, Int.reduceNeg, Int.reduceLT, Int.reduceLE, if_neg, nS, iZ_clampN, iZ_bit, iZ_one, iZ_and, iZ_or, iZ_ndn]
    · rw [sB_pL]
      by_cases e : c / 64 = i
      · rw [if_pos ⟨rfl, e⟩, lB_0]
      · rw [if_neg (fun z => e z.2)]; exact hK.2 c (by omega)) (a := 0) (M := M) (by omega) ⟨xSame.rf, fun c hc => by omega⟩
  refine ⟨M2, ?_, b2, fun c hc => b3 c (by omega)⟩
  show xfix gX6_wipe (0, [some (.inr (.inr (6, k))), none], [], M) = _; rw [xfix_unf, sX6_wipe_0]
  simp (disch := omega) only [xk_none, xk_inl, xk_inr, xk_ite, xri_v, xrl_v, xrv_v, xb_z0, xb_z1, xb_b2, if_true, if_false, ite_true, ite_false, iZ_lit, iZ_m1, iZ_m99, iZ_m8, iZ_add, iZ_sub, iZ_mul, iZ_neg, nz0, nzi, iZ_lt, iZ_le, iZ_inj, b2_z, b2_o, ite_bPz, ite_bPo, xb_bP, iZ_xin, if_pos, ite_self, ↓reduceIte, Int.reduceAdd, Int.reduceSub, Int.reduceMul, Int.reduceNeg, Int.reduceLT, Int.reduceLE, if_neg]
  refine Eq.trans b1 ?_
  rw [xfix_unf, sX6_wipe_2]
  have e8 : ((8 : Nat) : Int) = 8 := rfl
  simp (disch := omega) only [xk_none, xk_inl, xk_inr, xk_ite, xri_v, xrl_v, xrv_v, xb_z0, xb_z1, xb_b2, if_true, if_false, ite_true, ite_false, iZ_lit, iZ_m1, iZ_m99, iZ_m8, iZ_add, iZ_sub, iZ_mul, iZ_neg, nz0, nzi, iZ_lt, iZ_le, iZ_inj, b2_z, b2_o, ite_bPz, ite_bPo, xb_bP, iZ_xin, if_pos, ite_self, ↓reduceIte, Int.reduceAdd, Int.reduceSub, Int.reduceMul, Int.reduceNeg, Int.reduceLT, Int.reduceLE, if_neg, e8]
theorem x_copy {M : xM} {k j : Nat} (hkj : k ≠ j) : ∃ M', fX6_copy [.inr (.inr (6, k)), .inr (.inr (6, j))] M = some (none, M') ∧ xSame (fun r => r = (44, k)) M M' ∧ ∀ c, c < 512 → sB M' k c = sB M j c := by
  obtain ⟨M2, b1, b2, b3⟩ := xfor_M (sg := gX6_copy) (st := fun i M => (2, [some (.inr (.inr (6, k))), some (.inr (.inr (6, j))), some (.inl (iZ (i)))], [], M)) (I := fun n K => xSame (fun r => r = (44, k)) M K ∧ ∀ c, sB K k c = if c / 64 < n then sB M j c else sB M k c) (n := 8) (fun i K hi hK => by
    have hj : ∀ z, xL K (44, j) z = xL M (44, j) z := fun z => (hK.1 (44, j) (by simp; exact fun e => hkj e.symm)).2 z
    refine ⟨xpL K (44, k) i (xL K (44, j) i), ?_, hK.1.pL rfl, fun c => ?_⟩
    · rw [xfix_unf, sX6_copy_2]
      simp (disch := omega) only [xk_none, xk_inl, xk_inr, xk_ite, xri_v, xrl_v, xrv_v, xb_z0, xb_z1, xb_b2, if_true, if_false, ite_true, ite_false, iZ_lit, iZ_m1, iZ_m99, iZ_m8, iZ_add, iZ_sub, iZ_mul, iZ_neg, nz0, nzi, iZ_lt, iZ_le, iZ_inj, b2_z, b2_o, ite_bPz, ite_bPo, xb_bP, iZ_xin, if_pos, ite_self, ↓reduceIte, Int.reduceAdd, Int.reduceSub, Int.reduceMul, Int.reduceNeg, Int.reduceLT, Int.reduceLE, if_neg, nS, iZ_clampN, iZ_bit, iZ_one, iZ_and, iZ_or, iZ_ndn]
    · rw [sB_pL]
      by_cases e : c / 64 = i
      · have h0 := hK.2 c
        rw [if_neg (by omega)] at h0
        rw [if_pos ⟨rfl, e⟩, if_pos (by omega)]
        have m := Nat.mod_lt c (show 64 > 0 by decide)
        unfold sB at h0 ⊢
        rw [e] at h0 ⊢
        rw [hj]
      · rw [if_neg (fun z => e z.2), hK.2 c]
        by_cases e2 : c / 64 < i
        · rw [if_pos e2, if_pos (by omega)]
        · rw [if_neg e2, if_neg (by omega)]) (a := 0) (M := M) (by omega) ⟨xSame.rf, fun c => by rw [if_neg (by omega)]⟩
  refine ⟨M2, ?_, b2, fun c hc => by rw [b3 c, if_pos (by omega)]⟩
  show xfix gX6_copy (0, [some (.inr (.inr (6, k))), some (.inr (.inr (6, j))), none], [], M) = _; rw [xfix_unf, sX6_copy_0]
  simp (disch := omega) only [xk_none, xk_inl, xk_inr, xk_ite, xri_v, xrl_v, xrv_v, xb_z0, xb_z1, xb_b2, if_true, if_false, ite_true, ite_false, iZ_lit, iZ_m1, iZ_m99, iZ_m8, iZ_add, iZ_sub, iZ_mul, iZ_neg, nz0, nzi, iZ_lt, iZ_le, iZ_inj, b2_z, b2_o, ite_bPz, ite_bPo, xb_bP, iZ_xin, if_pos, ite_self, ↓reduceIte, Int.reduceAdd, Int.reduceSub, Int.reduceMul, Int.reduceNeg, Int.reduceLT, Int.reduceLE, if_neg]
  refine Eq.trans b1 ?_
  rw [xfix_unf, sX6_copy_2]
  have e8 : ((8 : Nat) : Int) = 8 := rfl
  simp (disch := omega) only [xk_none, xk_inl, xk_inr, xk_ite, xri_v, xrl_v, xrv_v, xb_z0, xb_z1, xb_b2, if_true, if_false, ite_true, ite_false, iZ_lit, iZ_m1, iZ_m99, iZ_m8, iZ_add, iZ_sub, iZ_mul, iZ_neg, nz0, nzi, iZ_lt, iZ_le, iZ_inj, b2_z, b2_o, ite_bPz, ite_bPo, xb_bP, iZ_xin, if_pos, ite_self, ↓reduceIte, Int.reduceAdd, Int.reduceSub, Int.reduceMul, Int.reduceNeg, Int.reduceLT, Int.reduceLE, if_neg, e8]
theorem x_join {M : xM} {k j : Nat} (hkj : k ≠ j) : ∃ M', fX6_join [.inr (.inr (6, k)), .inr (.inr (6, j))] M = some (none, M') ∧ xSame (fun r => r = (44, k)) M M' ∧ ∀ c, c < 512 → sB M' k c = (sB M k c || sB M j c) := by
  obtain ⟨M2, b1, b2, b3⟩ := xfor_M (sg := gX6_join) (st := fun i M => (2, [some (.inr (.inr (6, k))), some (.inr (.inr (6, j))), some (.inl (iZ (i)))], [], M)) (I := fun n K => xSame (fun r => r = (44, k)) M K ∧ ∀ c, sB K k c = if c / 64 < n then (sB M k c || sB M j c) else sB M k c) (n := 8) (fun i K hi hK => by
    have hj : ∀ z, xL K (44, j) z = xL M (44, j) z := fun z => (hK.1 (44, j) (by simp; exact fun e => hkj e.symm)).2 z
    refine ⟨xpL K (44, k) i (xL K (44, k) i ||| xL K (44, j) i), ?_, hK.1.pL rfl, fun c => ?_⟩
    · rw [xfix_unf, sX6_join_2]
      simp (disch := omega) only [xk_none, xk_inl, xk_inr, xk_ite, xri_v, xrl_v, xrv_v, xb_z0, xb_z1, xb_b2, if_true, if_false, ite_true, ite_false, iZ_lit, iZ_m1, iZ_m99, iZ_m8, iZ_add, iZ_sub, iZ_mul, iZ_neg, nz0, nzi, iZ_lt, iZ_le, iZ_inj, b2_z, b2_o, ite_bPz, ite_bPo, xb_bP, iZ_xin, if_pos, ite_self, ↓reduceIte, Int.reduceAdd, Int.reduceSub, Int.reduceMul, Int.reduceNeg, Int.reduceLT, Int.reduceLE, if_neg, nS, iZ_clampN, iZ_bit, iZ_one, iZ_and, iZ_or, iZ_ndn]
    · rw [sB_pL]
      by_cases e : c / 64 = i
      · have h0 := hK.2 c
        rw [if_neg (by omega)] at h0
        rw [if_pos ⟨rfl, e⟩, if_pos (by omega)]
        have m := Nat.mod_lt c (show 64 > 0 by decide)
        unfold sB at h0 ⊢
        rw [e] at h0 ⊢
        rw [lB_or, h0, hj]
      · rw [if_neg (fun z => e z.2), hK.2 c]
        by_cases e2 : c / 64 < i
        · rw [if_pos e2, if_pos (by omega)]
        · rw [if_neg e2, if_neg (by omega)]) (a := 0) (M := M) (by omega) ⟨xSame.rf, fun c => by rw [if_neg (by omega)]⟩
  refine ⟨M2, ?_, b2, fun c hc => by rw [b3 c, if_pos (by omega)]⟩
  show xfix gX6_join (0, [some (.inr (.inr (6, k))), some (.inr (.inr (6, j))), none], [], M) = _; rw [xfix_unf, sX6_join_0]
  simp (disch := omega) only [xk_none, xk_inl, xk_inr, xk_ite, xri_v, xrl_v, xrv_v, xb_z0, xb_z1, xb_b2, if_true, if_false, ite_true, ite_false, iZ_lit, iZ_m1, iZ_m99, iZ_m8, iZ_add, iZ_sub, iZ_mul, iZ_neg, nz0, nzi, iZ_lt, iZ_le, iZ_inj, b2_z, b2_o, ite_bPz, ite_bPo, xb_bP, iZ_xin, if_pos, ite_self, ↓reduceIte, Int.reduceAdd, Int.reduceSub, Int.reduceMul, Int.reduceNeg, Int.reduceLT, Int.reduceLE, if_neg]
  refine Eq.trans b1 ?_
  rw [xfix_unf, sX6_join_2]
  have e8 : ((8 : Nat) : Int) = 8 := rfl
  simp (disch := omega) only [xk_none, xk_inl, xk_inr, xk_ite, xri_v, xrl_v, xrv_v, xb_z0, xb_z1, xb_b2, if_true, if_false, ite_true, ite_false, iZ_lit, iZ_m1, iZ_m99, iZ_m8, iZ_add, iZ_sub, iZ_mul, iZ_neg, nz0, nzi, iZ_lt, iZ_le, iZ_inj, b2_z, b2_o, ite_bPz, ite_bPo, xb_bP, iZ_xin, if_pos, ite_self, ↓reduceIte, Int.reduceAdd, Int.reduceSub, Int.reduceMul, Int.reduceNeg, Int.reduceLT, Int.reduceLE, if_neg, e8]
theorem x_drop {M : xM} {k j : Nat} (hkj : k ≠ j) : ∃ M', fX6_drop [.inr (.inr (6, k)), .inr (.inr (6, j))] M = some (none, M') ∧ xSame (fun r => r = (44, k)) M M' ∧ ∀ c, c < 512 → sB M' k c = (sB M k c && !sB M j c) := by
  obtain ⟨M2, b1, b2, b3⟩ := xfor_M (sg := gX6_drop) (st := fun i M => (2, [some (.inr (.inr (6, k))), some (.inr (.inr (6, j))), some (.inl (iZ (i)))], [], M)) (I := fun n K => xSame (fun r => r = (44, k)) M K ∧ ∀ c, sB K k c = if c / 64 < n then (sB M k c && !sB M j c) else sB M k c) (n := 8) (fun i K hi hK => by
    have hj : ∀ z, xL K (44, j) z = xL M (44, j) z := fun z => (hK.1 (44, j) (by simp; exact fun e => hkj e.symm)).2 z
    refine ⟨xpL K (44, k) i (xL K (44, k) i &&& (xL K (44, j) i ^^^ (-1))), ?_, hK.1.pL rfl, fun c => ?_⟩
    · rw [xfix_unf, sX6_drop_2]
      simp (disch := omega) only [xk_none, xk_inl, xk_inr, xk_ite, xri_v, xrl_v, xrv_v, xb_z0, xb_z1, xb_b2, if_true, if_false, ite_true, ite_false, iZ_lit, iZ_m1, iZ_m99, iZ_m8, iZ_add, iZ_sub, iZ_mul, iZ_neg, nz0, nzi, iZ_lt, iZ_le, iZ_inj, b2_z, b2_o, ite_bPz, ite_bPo, xb_bP, iZ_xin, if_pos, ite_self, ↓reduceIte, Int.reduceAdd, Int.reduceSub, Int.reduceMul, Int.reduceNeg, Int.reduceLT, Int.reduceLE, if_neg, nS, iZ_clampN, iZ_bit, iZ_one, iZ_and, iZ_or, iZ_ndn]
    · rw [sB_pL]
      by_cases e : c / 64 = i
      · have h0 := hK.2 c
        rw [if_neg (by omega)] at h0
        rw [if_pos ⟨rfl, e⟩, if_pos (by omega)]
        have m := Nat.mod_lt c (show 64 > 0 by decide)
        unfold sB at h0 ⊢
        rw [e] at h0 ⊢
        rw [lB_and, lB_not _ m, h0, hj]
      · rw [if_neg (fun z => e z.2), hK.2 c]
        by_cases e2 : c / 64 < i
        · rw [if_pos e2, if_pos (by omega)]
        · rw [if_neg e2, if_neg (by omega)]) (a := 0) (M := M) (by omega) ⟨xSame.rf, fun c => by rw [if_neg (by omega)]⟩
  refine ⟨M2, ?_, b2, fun c hc => by rw [b3 c, if_pos (by omega)]⟩
  show xfix gX6_drop (0, [some (.inr (.inr (6, k))), some (.inr (.inr (6, j))), none], [], M) = _; rw [xfix_unf, sX6_drop_0]
  simp (disch := omega) only [xk_none, xk_inl, xk_inr, xk_ite, xri_v, xrl_v, xrv_v, xb_z0, xb_z1, xb_b2, if_true, if_false, ite_true, ite_false, iZ_lit, iZ_m1, iZ_m99, iZ_m8, iZ_add, iZ_sub, iZ_mul, iZ_neg, nz0, nzi, iZ_lt, iZ_le, iZ_inj, b2_z, b2_o, ite_bPz, ite_bPo, xb_bP, iZ_xin, if_pos, ite_self, ↓reduceIte, Int.reduceAdd, Int.reduceSub, Int.reduceMul, Int.reduceNeg, Int.reduceLT, Int.reduceLE, if_neg]
  refine Eq.trans b1 ?_
  rw [xfix_unf, sX6_drop_2]
  have e8 : ((8 : Nat) : Int) = 8 := rfl
  simp (disch := omega) only [xk_none, xk_inl, xk_inr, xk_ite, xri_v, xrl_v, xrv_v, xb_z0, xb_z1, xb_b2, if_true, if_false, ite_true, ite_false, iZ_lit, iZ_m1, iZ_m99, iZ_m8, iZ_add, iZ_sub, iZ_mul, iZ_neg, nz0, nzi, iZ_lt, iZ_le, iZ_inj, b2_z, b2_o, ite_bPz, ite_bPo, xb_bP, iZ_xin, if_pos, ite_self, ↓reduceIte, Int.reduceAdd, Int.reduceSub, Int.reduceMul, Int.reduceNeg, Int.reduceLT, Int.reduceLE, if_neg, e8]
/-- they meet: some cell is of both -/
theorem x_meets {M : xM} {k j : Nat} : fX6_meets [.inr (.inr (6, k)), .inr (.inr (6, j))] M = some (some (.inl (bP (∃ c, c < 512 ∧ sB M k c = true ∧ sB M j c = true))), M) := by
  have hx := xfor_all (sg := gX6_meets) (st := fun i => (2, [some (.inr (.inr (6, k))), some (.inr (.inr (6, j))), some (.inl (iZ (i)))], [], M)) (R := fun i => some (some (.inl (bP (∃ c, 64 * i ≤ c ∧ c < 512 ∧ sB M k c = true ∧ sB M j c = true))), M)) (n := 8) (fun i hi ih => by
    rw [nS] at ih
    by_cases y : xL M (44, k) i &&& xL M (44, j) i = 0
    · have hy : lg_cmp (xL M (44, k) i &&& xL M (44, j) i) 0 = iZ 0 := (lg_cmp_eq _ _).mpr y
      rw [xfix_unf, sX6_meets_2]
      simp (disch := omega) only [xk_none, xk_inl, xk_inr, xk_ite, xri_v, xrl_v, xrv_v, xb_z0, xb_z1, xb_b2, if_true, if_false, ite_true, ite_false, iZ_lit, iZ_m1, iZ_m99, iZ_m8, iZ_add, iZ_sub, iZ_mul, iZ_neg, nz0, nzi, iZ_lt, iZ_le, iZ_inj, b2_z, b2_o, ite_bPz, ite_bPo, xb_bP, iZ_xin, if_pos, ite_self, ↓reduceIte, Int.reduceAdd, Int.reduceSub, Int.reduceMul, Int.reduceNeg, Int.reduceLT, Int.reduceLE, if_neg, nS, iZ_clampN, iZ_bit, iZ_one, iZ_and, iZ_or, iZ_ndn, hy]
      rw [ih]
      refine rP ⟨fun ⟨c, c1, c2, c3⟩ => ⟨c, by omega, c2, c3⟩, fun ⟨c, c1, c2, c3, c4⟩ => ⟨c, ?_, c2, c3, c4⟩⟩
      refine Classical.byContradiction fun z => ?_
      have e : c / 64 = i := by omega
      have := (lB_z.mp y) (c % 64) (Nat.mod_lt _ (by decide))
      rw [lB_and] at this
      unfold sB at c3 c4
      rw [e] at c3 c4
      rw [c3, c4] at this
      cases this
    · have hy : ¬ lg_cmp (xL M (44, k) i &&& xL M (44, j) i) 0 = iZ 0 := fun z => y ((lg_cmp_eq _ _).mp z)
      rw [xfix_unf, sX6_meets_2]
      simp (disch := omega) only [xk_none, xk_inl, xk_inr, xk_ite, xri_v, xrl_v, xrv_v, xb_z0, xb_z1, xb_b2, if_true, if_false, ite_true, ite_false, iZ_lit, iZ_m1, iZ_m99, iZ_m8, iZ_add, iZ_sub, iZ_mul, iZ_neg, nz0, nzi, iZ_lt, iZ_le, iZ_inj, b2_z, b2_o, ite_bPz, ite_bPo, xb_bP, iZ_xin, if_pos, ite_self, ↓reduceIte, Int.reduceAdd, Int.reduceSub, Int.reduceMul, Int.reduceNeg, Int.reduceLT, Int.reduceLE, if_neg, nS, iZ_clampN, iZ_bit, iZ_one, iZ_and, iZ_or, iZ_ndn, hy]
      refine congrArg (fun v => some (some (Sum.inl v), M)) (bP_t ?_).symm
      refine Classical.byContradiction fun z => y (lB_z.mpr fun b hb => ?_)
      rw [lB_and]
      by_cases e1 : lB (xL M (44, k) i) b = true
      · by_cases e2 : lB (xL M (44, j) i) b = true
        · refine absurd ⟨64 * i + b, by omega, by omega, ?_, ?_⟩ z
          · unfold sB
            rw [show (64 * i + b) / 64 = i by omega, show (64 * i + b) % 64 = b by omega]
            exact e1
          · unfold sB
            rw [show (64 * i + b) / 64 = i by omega, show (64 * i + b) % 64 = b by omega]
            exact e2
        · rw [Bool.not_eq_true] at e2
          rw [e2, Bool.and_false]
      · rw [Bool.not_eq_true] at e1
        rw [e1, Bool.false_and]) (by
    have e8 : ((8 : Nat) : Int) = 8 := rfl
    rw [xfix_unf, sX6_meets_2]
    simp (disch := omega) only [xk_none, xk_inl, xk_inr, xk_ite, xri_v, xrl_v, xrv_v, xb_z0, xb_z1, xb_b2, if_true, if_false, ite_true, ite_false, iZ_lit, iZ_m1, iZ_m99, iZ_m8, iZ_add, iZ_sub, iZ_mul, iZ_neg, nz0, nzi, iZ_lt, iZ_le, iZ_inj, b2_z, b2_o, ite_bPz, ite_bPo, xb_bP, iZ_xin, if_pos, ite_self, ↓reduceIte, Int.reduceAdd, Int.reduceSub, Int.reduceMul, Int.reduceNeg, Int.reduceLT, Int.reduceLE, if_neg, e8]
    refine congrArg (fun v => some (some (Sum.inl v), M)) (bP_f ?_).symm
    rintro ⟨c, c1, c2, _⟩
    omega) (i := 0) (by omega)
  show xfix gX6_meets (0, [some (.inr (.inr (6, k))), some (.inr (.inr (6, j))), none], [], M) = _; rw [xfix_unf, sX6_meets_0]
  simp (disch := omega) only [xk_none, xk_inl, xk_inr, xk_ite, xri_v, xrl_v, xrv_v, xb_z0, xb_z1, xb_b2, if_true, if_false, ite_true, ite_false, iZ_lit, iZ_m1, iZ_m99, iZ_m8, iZ_add, iZ_sub, iZ_mul, iZ_neg, nz0, nzi, iZ_lt, iZ_le, iZ_inj, b2_z, b2_o, ite_bPz, ite_bPo, xb_bP, iZ_xin, if_pos, ite_self, ↓reduceIte, Int.reduceAdd, Int.reduceSub, Int.reduceMul, Int.reduceNeg, Int.reduceLT, Int.reduceLE, if_neg]
  refine Eq.trans hx (rP ⟨fun ⟨c, c1, c2⟩ => ⟨c, c2⟩, fun ⟨c, c2⟩ => ⟨c, by omega, c2⟩⟩)
