/-! the class: the whole net -/
theorem x_fillN {M : xM} : ∃ M', fJ7_fill_53178 [.inr (.inr (28, 0)), .inl (iZ 0)] M = some (none, M') ∧ xSame (fun r => r = (28, 0)) M M' ∧ ∀ w, w < 512 → xI M' (28, 0) w = iZ 0 := by
  have e6 : Int32.ofNat 512 = iZ 512 := rfl
  obtain ⟨M2, b1, b2, b3⟩ := xfor_M (sg := gJ7_fill_53178) (st := fun i M => (5, [some (.inr (.inr (28, 0))), some (.inl (iZ ((0 : Int)))), some (.inl (iZ (i))), some (.inl (iZ ((512 : Int))))], [], M)) (I := fun n K => xSame (fun r => r = (28, 0)) M K ∧ ∀ w, w < n → xI K (28, 0) w = iZ 0) (n := 512) (fun i K hi hK => by
    refine ⟨xpI K (28, 0) i (iZ 0), ?_, hK.1.pI rfl, fun w hw => ?_⟩
    · rw [nS, xfix_unf, sJ7_fill_53178_28_5]
      simp (disch := omega) only [xk_none, xk_inl, xk_inr, xk_ite, xri_v, xrl_v, xrv_v, xb_z0, xb_z1, xb_b2, if_true, if_false, ite_true, ite_false, iZ_lit, iZ_m1, iZ_m99, iZ_m8, iZ_add, iZ_sub, iZ_mul, iZ_neg, nz0, nzi, iZ_lt, iZ_le, iZ_inj, b2_z, b2_o, ite_bPz, ite_bPo, xb_bP, iZ_xin, if_pos, ite_self, ↓reduceIte, Int.reduceAdd, Int.reduceSub, Int.reduceMul, Int.reduceNeg, Int.reduceLT, Int.reduceLE, if_neg, iZ_clampN]
    · by_cases e : w = i
      · rw [e, pR_eq]
      · rw [pR_ne e]; exact hK.2 w (by omega)) (a := 0) (M := M) (by omega) ⟨xSame.rf, fun w hw => by omega⟩
  refine ⟨M2, ?_, b2, b3⟩
  have e6' : ((512 : Nat) : Int) = 512 := rfl
  have e0 : ((0 : Nat) : Int) = 0 := rfl
  rw [e6', e0] at b1
  show xfix gJ7_fill_53178 (0, [some (.inr (.inr (28, 0))), some (.inl (iZ 0)), none, none], [], M) = _
  rw [xfix_unf, sJ7_fill_53178_28_0, e6]
  simp (disch := omega) only [xk_none, xk_inl, xk_inr, xk_ite, xri_v, xrl_v, xrv_v, xb_z0, xb_z1, xb_b2, if_true, if_false, ite_true, ite_false, iZ_lit, iZ_m1, iZ_m99, iZ_m8, iZ_add, iZ_sub, iZ_mul, iZ_neg, nz0, nzi, iZ_lt, iZ_le, iZ_inj, b2_z, b2_o, ite_bPz, ite_bPo, xb_bP, iZ_xin, if_pos, ite_self, ↓reduceIte, Int.reduceAdd, Int.reduceSub, Int.reduceMul, Int.reduceNeg, Int.reduceLT, Int.reduceLE, if_neg]
  refine Eq.trans b1 ?_
  rw [xfix_unf, sJ7_fill_53178_28_5]
  simp (disch := omega) only [xk_none, xk_inl, xk_inr, xk_ite, xri_v, xrl_v, xrv_v, xb_z0, xb_z1, xb_b2, if_true, if_false, ite_true, ite_false, iZ_lit, iZ_m1, iZ_m99, iZ_m8, iZ_add, iZ_sub, iZ_mul, iZ_neg, nz0, nzi, iZ_lt, iZ_le, iZ_inj, b2_z, b2_o, ite_bPz, ite_bPo, xb_bP, iZ_xin, if_pos, ite_self, ↓reduceIte, Int.reduceAdd, Int.reduceSub, Int.reduceMul, Int.reduceNeg, Int.reduceLT, Int.reduceLE, if_neg]
theorem liv_net {A : dA} {i k : Nat} (h : clo (lsS A) (lvV A) i k) : clo (nsS A) (ptV A) i k := clo_mono (fun _ hk => hk.1) (fun _ _ hab => hab.1) h
theorem x_fillMarks {M : xM} {A : dA} (hA : aOk A) (f0 : xI M (5, 0) 0 = iZ (aP A)) (hJ : cJt M A) (hW : cWy M 0 (aP A) (barS A)) (hB : ∀ k, barS A k < 512) (hT : cOr M 0 0 on1 (ordA A) (leaA A) (2 ^ aP A)) : ∃ M', fX1_fillMarks [.inr (.inr (1, 0)), .inr (.inr (2, 0))] M = some (none, M') ∧ xSame (fun r => r = (28, 0)) M M' ∧ cMk M' (netA A) (livA A) := by
  have hP := hA.P
  have h9 := pow9 hP
  obtain ⟨M1, a1, a2, a3⟩ := x_fillN (M := M)
  have hw := x_whole (M := M) (s := 0) f0 hP
  have l0 : (0 : Int64) = lZ 0 := by decide +kernel
  have ew : ((2 ^ aP A : Nat) : Int) - 1 = ((2 ^ aP A - 1 : Nat) : Int) := by omega
  rw [ew] at hw
  have st : ∃ M2, fX1_fillMarks [.inr (.inr (1, 0)), .inr (.inr (2, 0))] M = xfix gX1_fillMarks (44, [some (.inr (.inr (1, 0))), some (.inr (.inr (2, 0))), none, some (.inl (iZ (((2 ^ aP A - 1 : Nat)))))], [], M2) ∧ xSame (fun r => r = (28, 0)) M M2 ∧ cMk M2 (nsS A) (lsS A) := by
    by_cases eP : aP A = 0
    · have e0 : 2 ^ aP A - 1 = 0 := by rw [eP]
      refine ⟨M1, ?_, a2, fun k hk => ?_⟩
      · rw [e0] at hw ⊢
        have zz : ((0 : Nat) : Int) = 0 := rfl
        rw [zz] at hw ⊢
        show xfix gX1_fillMarks (0, [some (.inr (.inr (1, 0))), some (.inr (.inr (2, 0))), none, none], [], M) = _; rw [xfix_unf, sX1_fillMarks_0]
        simp (disch := omega) only [xk_none, xk_inl, xk_inr, xk_ite, xri_v, xrl_v, xrv_v, xb_z0, xb_z1, xb_b2, if_true, if_false, ite_true, ite_false, iZ_lit, iZ_m1, iZ_m99, iZ_m8, iZ_add, iZ_sub, iZ_mul, iZ_neg, nz0, nzi, iZ_lt, iZ_le, iZ_inj, b2_z, b2_o, ite_bPz, ite_bPo, xb_bP, iZ_xin, if_pos, ite_self, ↓reduceIte, Int.reduceAdd, Int.reduceSub, Int.reduceMul, Int.reduceNeg, Int.reduceLT, Int.reduceLE, if_neg, hw, a1]
      · rw [a3 k hk, mkv_0 (fun z => z.1.1 eP) (fun z => z.1 eP)]; first | rfl | done
    · have h2 : 2 ≤ 2 ^ aP A := by
        calc 2 = 2 ^ 1 := rfl
          _ ≤ 2 ^ aP A := Nat.pow_le_pow_right (by omega) (by omega)
      have c1 : xL M1 (30, 0) (2 ^ aP A - 1) = lZ (ordA A (2 ^ aP A - 1)) := by rw [(a2 (30, 0) (by simp)).2]; exact (hT _ (by omega) (by omega) (hAN_0 _)).1
      have o1 := ordA_b A (k := 2 ^ aP A - 1) (by omega) (by omega)
      have q1 := lZ_cle (a := ordA A (2 ^ aP A - 1)) (by omega)
      have hW1 : 1 ≤ 2 ^ aP A - 1 ∧ 2 ^ aP A - 1 < 512 := by omega
      by_cases b1 : 0 < ordA A (2 ^ aP A - 1)
      · refine ⟨xpI M1 (28, 0) (2 ^ aP A - 1) (iZ 3), ?_, a2.pI rfl, fun k hk => ?_⟩
        · generalize ordA A (2 ^ aP A - 1) = oa at *
          generalize 2 ^ aP A - 1 = W at *
          show xfix gX1_fillMarks (0, [some (.inr (.inr (1, 0))), some (.inr (.inr (2, 0))), none, none], [], M) = _; rw [xfix_unf, sX1_fillMarks_0]
          simp (disch := omega) only [xk_none, xk_inl, xk_inr, xk_ite, xri_v, xrl_v, xrv_v, xb_z0, xb_z1, xb_b2, if_true, if_false, ite_true, ite_false, iZ_lit, iZ_m1, iZ_m99, iZ_m8, iZ_add, iZ_sub, iZ_mul, iZ_neg, nz0, nzi, iZ_lt, iZ_le, iZ_inj, b2_z, b2_o, ite_bPz, ite_bPo, xb_bP, iZ_xin, if_pos, ite_self, ↓reduceIte, Int.reduceAdd, Int.reduceSub, Int.reduceMul, Int.reduceNeg, Int.reduceLT, Int.reduceLE, if_neg, hw, a1, iZ_clampN, c1, l0, q1]
        · by_cases e : k = 2 ^ aP A - 1
          · rw [e, pR_eq, mkv_3 ⟨⟨eP, rfl⟩, b1⟩]; rfl
          · rw [pR_ne e, a3 k hk, mkv_0 (fun z => e z.1.2) (fun z => e z.2)]; rfl
      · refine ⟨xpI M1 (28, 0) (2 ^ aP A - 1) (iZ 1), ?_, a2.pI rfl, fun k hk => ?_⟩
        · generalize ordA A (2 ^ aP A - 1) = oa at *
          generalize 2 ^ aP A - 1 = W at *
          show xfix gX1_fillMarks (0, [some (.inr (.inr (1, 0))), some (.inr (.inr (2, 0))), none, none], [], M) = _; rw [xfix_unf, sX1_fillMarks_0]
          simp (disch := omega) only [xk_none, xk_inl, xk_inr, xk_ite, xri_v, xrl_v, xrv_v, xb_z0, xb_z1, xb_b2, if_true, if_false, ite_true, ite_false, iZ_lit, iZ_m1, iZ_m99, iZ_m8, iZ_add, iZ_sub, iZ_mul, iZ_neg, nz0, nzi, iZ_lt, iZ_le, iZ_inj, b2_z, b2_o, ite_bPz, ite_bPo, xb_bP, iZ_xin, if_pos, ite_self, ↓reduceIte, Int.reduceAdd, Int.reduceSub, Int.reduceMul, Int.reduceNeg, Int.reduceLT, Int.reduceLE, if_neg, hw, a1, iZ_clampN, c1, l0, q1]
        · by_cases e : k = 2 ^ aP A - 1
          · rw [e, pR_eq, mkv_1 (fun z => b1 z.2) ⟨eP, rfl⟩]; rfl
          · rw [pR_ne e, a3 k hk, mkv_0 (fun z => e z.1.2) (fun z => e z.2)]; rfl
  obtain ⟨M2, t1, t2, t3⟩ := st
  obtain ⟨M3, g1, g2, g3⟩ := xfor_M (sg := gX1_fillMarks) (st := fun k M => (44, [some (.inr (.inr (1, 0))), some (.inr (.inr (2, 0))), none, some (.inl (iZ (((2 ^ aP A - 1 : Nat) - (k : Int)))))], [], M)) (I := fun k N => xSame (fun r => r = (28, 0)) M N ∧ cMk N (clo (nsS A) (ptV A) (2 ^ aP A - 1 - k)) (clo (lsS A) (lvV A) (2 ^ aP A - 1 - k))) (n := 2 ^ aP A - 1) (fun k K hk hI => by
    obtain ⟨i1, i3⟩ := hI
    obtain ⟨heap, eh⟩ : ∃ heap, heap = 2 ^ aP A - 1 - k := ⟨_, rfl⟩
    have h1 : 1 ≤ heap := by omega
    have hh : heap < 2 ^ aP A := by omega
    have e0 : ((2 ^ aP A - 1 : Nat) : Int) - (k : Int) = (heap : Int) := by omega
    have e1 : ((2 ^ aP A - 1 : Nat) : Int) - ((k + 1 : Nat) : Int) = (heap : Int) + -1 := by omega
    have e2 : heap = (2 ^ aP A - 1 - (k + 1)) + 1 := by omega
    rw [← eh] at i3
    rw [e0, e1]
    have f28 := i3 heap (by omega)
    by_cases y : clo (nsS A) (ptV A) heap heap
    · obtain ⟨K', d1, d2, d3⟩ := x_markHalves (M := K) (heap := heap) hA (hJ.sm i1.sm (by simp) (by simp) (by simp)) (hW.same i1 (by simp)) hB (fun h q1 q2 q3 => by
        rw [(i1 (30, 0) (by simp)).2, (i1 (31, 0) (by simp)).1, (i1 (32, 0) (by simp)).1, (i1 (33, 0) (by simp)).1]; exact hT h q1 q2 q3) h1 hh i3
      refine ⟨K', ?_, i1.tr d2, d3.cg (fun x _ => ?_) (fun x _ => ?_)⟩
      · have nz : mkv (clo (nsS A) (ptV A) heap) (clo (lsS A) (lvV A) heap) heap ≠ 0 := by
          by_cases z : clo (lsS A) (lvV A) heap heap
          · rw [mkv_3 z]; omega
          · rw [mkv_1 z y]; omega
        have ml := mkv_le (clo (nsS A) (ptV A) heap) (clo (lsS A) (lvV A) heap) heap
        generalize mkv (clo (nsS A) (ptV A) heap) (clo (lsS A) (lvV A) heap) heap = mv at *
        rw [xfix_unf, sX1_fillMarks_44]
        simp (disch := omega) only [xk_none, xk_inl, xk_inr, xk_ite, xri_v, xrl_v, xrv_v, xb_z0, xb_z1, xb_b2, if_true, if_false, ite_true, ite_false, iZ_lit, iZ_m1, iZ_m99, iZ_m8, iZ_add, iZ_sub, iZ_mul, iZ_neg, nz0, nzi, iZ_lt, iZ_le, iZ_inj, b2_z, b2_o, ite_bPz, ite_bPo, xb_bP, iZ_xin, if_pos, ite_self, ↓reduceIte, Int.reduceAdd, Int.reduceSub, Int.reduceMul, Int.reduceNeg, Int.reduceLT, Int.reduceLE, if_neg, iZ_clampN, f28, d1]
      · rw [clo_step (i := 2 ^ aP A - 1 - (k + 1)) (fun _ _ => ptV_lt), ← e2]
        exact or_congr_right ⟨fun z => ⟨y, z⟩, fun z => z.2⟩
      · rw [clo_step (i := 2 ^ aP A - 1 - (k + 1)) (fun _ _ => lvV_lt), ← e2]
    · have nl : ¬ clo (lsS A) (lvV A) heap heap := fun z => y (liv_net z)
      refine ⟨K, ?_, i1, i3.cg (fun x _ => ?_) (fun x _ => ?_)⟩
      · rw [mkv_0 nl y] at f28
        have zz : ((0 : Nat) : Int) = 0 := rfl
        rw [zz] at f28
        rw [xfix_unf, sX1_fillMarks_44]
        simp (disch := omega) only [xk_none, xk_inl, xk_inr, xk_ite, xri_v, xrl_v, xrv_v, xb_z0, xb_z1, xb_b2, if_true, if_false, ite_true, ite_false, iZ_lit, iZ_m1, iZ_m99, iZ_m8, iZ_add, iZ_sub, iZ_mul, iZ_neg, nz0, nzi, iZ_lt, iZ_le, iZ_inj, b2_z, b2_o, ite_bPz, ite_bPo, xb_bP, iZ_xin, if_pos, ite_self, ↓reduceIte, Int.reduceAdd, Int.reduceSub, Int.reduceMul, Int.reduceNeg, Int.reduceLT, Int.reduceLE, if_neg, iZ_clampN, f28]
      · rw [clo_step (i := 2 ^ aP A - 1 - (k + 1)) (fun _ _ => ptV_lt), ← e2]
        exact ⟨.inl, fun z => z.elim id fun z => absurd z.1 y⟩
      · rw [clo_step (i := 2 ^ aP A - 1 - (k + 1)) (fun _ _ => lvV_lt), ← e2]
        exact ⟨.inl, fun z => z.elim id fun z => absurd z.1 nl⟩) (a := 0) (M := M2) (by omega) ⟨t2, t3.cg (fun x _ => (clo_top (fun k hk => by have := hk.2; omega) (fun _ _ => ptV_lt)).symm) (fun x _ => (clo_top (fun k hk => by have := hk.1.2; omega) (fun _ _ => lvV_lt)).symm)⟩
  refine ⟨M3, ?_, g2, g3.cg (fun x _ => by rw [Nat.sub_self]; exact Iff.rfl) (fun x _ => by rw [Nat.sub_self]; exact Iff.rfl)⟩
  have e0 : ((2 ^ aP A - 1 : Nat) : Int) - ((0 : Nat) : Int) = ((2 ^ aP A - 1 : Nat) : Int) := by omega
  have e1 : ((2 ^ aP A - 1 : Nat) : Int) - ((2 ^ aP A - 1 : Nat) : Int) = 0 := by omega
  rw [e0, e1] at g1
  refine t1.trans (g1.trans ?_)
  rw [xfix_unf, sX1_fillMarks_44]
  simp (disch := omega) only [xk_none, xk_inl, xk_inr, xk_ite, xri_v, xrl_v, xrv_v, xb_z0, xb_z1, xb_b2, if_true, if_false, ite_true, ite_false, iZ_lit, iZ_m1, iZ_m99, iZ_m8, iZ_add, iZ_sub, iZ_mul, iZ_neg, nz0, nzi, iZ_lt, iZ_le, iZ_inj, b2_z, b2_o, ite_bPz, ite_bPo, xb_bP, iZ_xin, if_pos, ite_self, ↓reduceIte, Int.reduceAdd, Int.reduceSub, Int.reduceMul, Int.reduceNeg, Int.reduceLT, Int.reduceLE, if_neg]
/-- what the net knows -/
def cNt (M : xM) (A : dA) : Prop := (∀ k, 1 ≤ k → k < 2 ^ aP A → xI M (24, 0) k = iZ (ptC A (barS A) k k) ∧ xI M (25, 0) k = iZ (rndA A k)) ∧ cMk M (netA A) (livA A)
abbrev ntF (r : xR) (j : Nat) : Prop := r = (24, 0) ∨ r = (25, 0) ∨ r = (28, 0) ∨ (r = (1, 0) ∧ j = 6)
theorem x_nrefresh {M : xM} {A : dA} (hA : aOk A) (f0 : xI M (5, 0) 0 = iZ (aP A)) (hJ : cJt M A) (hW : cWy M 0 (aP A) (barS A)) (hB : ∀ k, barS A k < 512) (hT : cOr M 0 0 on1 (ordA A) (leaA A) (2 ^ aP A)) (hf : xI M (1, 0) 6 = iZ 0 ∨ (xI M (1, 0) 6 = iZ 1 ∧ cNt M A)) : ∃ M', fX1_refresh [.inr (.inr (1, 0)), .inr (.inr (2, 0))] M = some (none, M') ∧ xSm ntF M M' ∧ xI M' (1, 0) 6 = iZ 1 ∧ cNt M' A := by
  have hP := hA.P
  have h9 := pow9 hP
  rcases hf with hf | ⟨hf, hn⟩
  · obtain ⟨M2, b1, b2, b3⟩ := xfor_M (sg := gX1_refresh) (st := fun i M => (10, [some (.inr (.inr (1, 0))), some (.inr (.inr (2, 0))), some (.inl (iZ (((i + 1 : Nat)))))], [], M)) (I := fun n K => xSame (fun r => r = (24, 0) ∨ r = (25, 0)) M K ∧ ∀ k, 1 ≤ k → k < n + 1 → xI K (24, 0) k = iZ (ptC A (barS A) k k) ∧ xI K (25, 0) k = iZ (rndA A k)) (n := 2 ^ aP A - 1) (fun i K hi hK => by
      obtain ⟨k1, k2⟩ := hK
      obtain ⟨heap, eh⟩ : ∃ heap, heap = i + 1 := ⟨_, rfl⟩
      have g0 : xI K (5, 0) 0 = iZ (aP A) := by rw [(k1 (5, 0) (by simp)).1]; exact f0
      have hw := x_whole (M := K) (s := 0) g0 hP
      obtain ⟨K', d1, d2, d3, d4⟩ := x_fillPartings (M := K) (heap := heap) hA (hJ.sm k1.sm (by simp) (by simp) (by simp)) (hW.same k1 (by simp)) hB (by omega) (by omega) (fun k q1 q2 => (k2 k q1 (by omega)).2)
      have hwb : (heap : Int) ≤ ((2 ^ aP A : Nat) : Int) - 1 ∧ ((2 ^ aP A : Nat) : Int) - 1 ≤ 511 := by omega
      refine ⟨K', ?_, k1.tr (d2.S fun r j z => z.2), fun k q1 q2 => ?_⟩
      · show xfix gX1_refresh (10, [some (.inr (.inr (1, 0))), some (.inr (.inr (2, 0))), some (.inl (iZ (((i + 1 : Nat)))))], [], K) = xfix gX1_refresh (10, [some (.inr (.inr (1, 0))), some (.inr (.inr (2, 0))), some (.inl (iZ (((i + 1 + 1 : Nat)))))], [], K')
        rw [← eh, nS]
        generalize ((2 ^ aP A : Nat) : Int) - 1 = W at *
        rw [xfix_unf, sX1_refresh_10]
        simp (disch := omega) only [xk_none, xk_inl, xk_inr, xk_ite, xri_v, xrl_v, xrv_v, xb_z0, xb_z1, xb_b2, if_true, if_false, ite_true, ite_false, iZ_lit, iZ_m1, iZ_m99, iZ_m8, iZ_add, iZ_sub, iZ_mul, iZ_neg, nz0, nzi, iZ_lt, iZ_le, iZ_inj, b2_z, b2_o, ite_bPz, ite_bPo, xb_bP, iZ_xin, if_pos, ite_self, ↓reduceIte, Int.reduceAdd, Int.reduceSub, Int.reduceMul, Int.reduceNeg, Int.reduceLT, Int.reduceLE, if_neg, hw, d1]
      · by_cases z : k = heap
        · rw [z]; exact ⟨d3, d4⟩
        · rw [(d2 (24, 0) k (fun w => z w.1)).1, (d2 (25, 0) k (fun w => z w.1)).1]
          exact k2 k q1 (by omega)) (a := 0) (M := M) (by omega) ⟨xSame.rf, fun k q1 q2 => by omega⟩
    have g0 : xI M2 (5, 0) 0 = iZ (aP A) := by rw [(b2 (5, 0) (by simp)).1]; exact f0
    obtain ⟨M3, c1, c2, c3⟩ := x_fillMarks (M := M2) hA g0 (hJ.sm b2.sm (by simp) (by simp) (by simp)) (hW.same b2 (by simp)) hB (fun h q1 q2 q3 => by
        rw [(b2 (30, 0) (by simp)).2, (b2 (31, 0) (by simp)).1, (b2 (32, 0) (by simp)).1, (b2 (33, 0) (by simp)).1]; exact hT h q1 q2 q3)
    refine ⟨xpI M3 (1, 0) 6 (iZ 1), ?_, ((b2.sm.wk fun r j z => by rcases z with z | z <;> subst z <;> simp [ntF]).tr (c2.sm.wk fun r j z => by subst z; simp [ntF])).pI (.inr (.inr (.inr ⟨rfl, rfl⟩))), pR_eq, fun k q1 q2 => ?_, fun k hk => ?_⟩
    · have hw := x_whole (M := M2) (s := 0) g0 hP
      have e1 : ((0 + 1 : Nat) : Int) = 1 := rfl
      have e2 : ((2 ^ aP A - 1 + 1 : Nat) : Int) = ((2 ^ aP A : Nat) : Int) := by omega
      rw [e1, e2] at b1
      show xfix gX1_refresh (0, [some (.inr (.inr (1, 0))), some (.inr (.inr (2, 0))), none], [], M) = _; rw [xfix_unf, sX1_refresh_0]
      simp (disch := omega) only [xk_none, xk_inl, xk_inr, xk_ite, xri_v, xrl_v, xrv_v, xb_z0, xb_z1, xb_b2, if_true, if_false, ite_true, ite_false, iZ_lit, iZ_m1, iZ_m99, iZ_m8, iZ_add, iZ_sub, iZ_mul, iZ_neg, nz0, nzi, iZ_lt, iZ_le, iZ_inj, b2_z, b2_o, ite_bPz, ite_bPo, xb_bP, iZ_xin, if_pos, ite_self, ↓reduceIte, Int.reduceAdd, Int.reduceSub, Int.reduceMul, Int.reduceNeg, Int.reduceLT, Int.reduceLE, if_neg, hf]
      refine Eq.trans b1 ?_
      have hW9 : 0 ≤ ((2 ^ aP A : Nat) : Int) ∧ ((2 ^ aP A : Nat) : Int) ≤ 512 := by omega
      generalize ((2 ^ aP A : Nat) : Int) = W at *
      rw [xfix_unf, sX1_refresh_10]
      simp (disch := omega) only [xk_none, xk_inl, xk_inr, xk_ite, xri_v, xrl_v, xrv_v, xb_z0, xb_z1, xb_b2, if_true, if_false, ite_true, ite_false, iZ_lit, iZ_m1, iZ_m99, iZ_m8, iZ_add, iZ_sub, iZ_mul, iZ_neg, nz0, nzi, iZ_lt, iZ_le, iZ_inj, b2_z, b2_o, ite_bPz, ite_bPo, xb_bP, iZ_xin, if_pos, ite_self, ↓reduceIte, Int.reduceAdd, Int.reduceSub, Int.reduceMul, Int.reduceNeg, Int.reduceLT, Int.reduceLE, if_neg, hw, c1]
    · rw [pR_nr (by omega), pR_nr (by omega), (c2 (24, 0) (by simp)).1, (c2 (25, 0) (by simp)).1]
      exact b3 k q1 (by omega)
    · rw [pR_nr (by omega)]; exact c3 k hk
  · refine ⟨M, ?_, xSm.rf, hf, hn⟩
    show xfix gX1_refresh (0, [some (.inr (.inr (1, 0))), some (.inr (.inr (2, 0))), none], [], M) = _; rw [xfix_unf, sX1_refresh_0]
    simp (disch := omega) only [xk_none, xk_inl, xk_inr, xk_ite, xri_v, xrl_v, xrv_v, xb_z0, xb_z1, xb_b2, if_true, if_false, ite_true, ite_false, iZ_lit, iZ_m1, iZ_m99, iZ_m8, iZ_add, iZ_sub, iZ_mul, iZ_neg, nz0, nzi, iZ_lt, iZ_le, iZ_inj, b2_z, b2_o, ite_bPz, ite_bPo, xb_bP, iZ_xin, if_pos, ite_self, ↓reduceIte, Int.reduceAdd, Int.reduceSub, Int.reduceMul, Int.reduceNeg, Int.reduceLT, Int.reduceLE, if_neg, hf]
theorem x_isNever {M : xM} {A : dA} {k : Nat} (h : cNt M A) (h1 : 1 ≤ k) (hk : k < 2 ^ aP A) (hP : aP A ≤ 9) : fX1_isNever [.inr (.inr (1, 0)), .inl (iZ (k))] M = some (some (.inl (bP (1 < bc k ∧ ptC A (barS A) k k = 0))), M) := by
  have h512 := Nat.lt_of_lt_of_le hk (pow9 hP).2
  have ho := x_isOne (M := M) h1 h512
  have f := (h.1 k h1 hk).1
  have pb := sm_ind (ptW A (barS A) k) k
  have pb' : 0 ≤ ptC A (barS A) k k ∧ ptC A (barS A) k k ≤ k := pb
  have b1 := bc_pos h1 h512
  generalize ptC A (barS A) k k = pc at *
  by_cases c1 : bc k = 1
  · rw [bP_t c1] at ho
    rw [bP_f (by omega)]
    show xfix gX1_isNever (0, [some (.inr (.inr (1, 0))), some (.inl (iZ (k)))], [], M) = _; rw [xfix_unf, sX1_isNever_0]
    simp (disch := omega) only [xk_none, xk_inl, xk_inr, xk_ite, xri_v, xrl_v, xrv_v, xb_z0, xb_z1, xb_b2, if_true, if_false, ite_true, ite_false, iZ_lit, iZ_m1, iZ_m99, iZ_m8, iZ_add, iZ_sub, iZ_mul, iZ_neg, nz0, nzi, iZ_lt, iZ_le, iZ_inj, b2_z, b2_o, ite_bPz, ite_bPo, xb_bP, iZ_xin, if_pos, ite_self, ↓reduceIte, Int.reduceAdd, Int.reduceSub, Int.reduceMul, Int.reduceNeg, Int.reduceLT, Int.reduceLE, if_neg, ho]
  · rw [bP_f c1] at ho
    by_cases c2 : pc = 0
    · rw [bP_t ⟨by omega, c2⟩]
      show xfix gX1_isNever (0, [some (.inr (.inr (1, 0))), some (.inl (iZ (k)))], [], M) = _; rw [xfix_unf, sX1_isNever_0]
      simp (disch := omega) only [xk_none, xk_inl, xk_inr, xk_ite, xri_v, xrl_v, xrv_v, xb_z0, xb_z1, xb_b2, if_true, if_false, ite_true, ite_false, iZ_lit, iZ_m1, iZ_m99, iZ_m8, iZ_add, iZ_sub, iZ_mul, iZ_neg, nz0, nzi, iZ_lt, iZ_le, iZ_inj, b2_z, b2_o, ite_bPz, ite_bPo, xb_bP, iZ_xin, if_pos, ite_self, ↓reduceIte, Int.reduceAdd, Int.reduceSub, Int.reduceMul, Int.reduceNeg, Int.reduceLT, Int.reduceLE, if_neg, ho, iZ_clampN, f]
    · rw [bP_f fun z => c2 z.2]
      show xfix gX1_isNever (0, [some (.inr (.inr (1, 0))), some (.inl (iZ (k)))], [], M) = _; rw [xfix_unf, sX1_isNever_0]
      simp (disch := omega) only [xk_none, xk_inl, xk_inr, xk_ite, xri_v, xrl_v, xrv_v, xb_z0, xb_z1, xb_b2, if_true, if_false, ite_true, ite_false, iZ_lit, iZ_m1, iZ_m99, iZ_m8, iZ_add, iZ_sub, iZ_mul, iZ_neg, nz0, nzi, iZ_lt, iZ_le, iZ_inj, b2_z, b2_o, ite_bPz, ite_bPo, xb_bP, iZ_xin, if_pos, ite_self, ↓reduceIte, Int.reduceAdd, Int.reduceSub, Int.reduceMul, Int.reduceNeg, Int.reduceLT, Int.reduceLE, if_neg, ho, iZ_clampN, f]
theorem x_howMany {M : xM} {A : dA} {w : Nat} (hA : aOk A) (f0 : xI M (5, 0) 0 = iZ (aP A)) (h : cNt M A) (hw : w < 3) : fX1_howMany [.inr (.inr (1, 0)), .inl (iZ (w))] M = some (some (.inl (iZ (sNet A w))), M) := by
  have hP := hA.P
  have h9 := pow9 hP
  have hww := x_whole (M := M) (s := 0) f0 hP
  obtain ⟨p, ep⟩ : ∃ p : Nat → Prop, p = if w = 0 then netA A else if w = 1 then livA A else nvr A := ⟨_, rfl⟩
  have eS : sNet A w = cnU p (2 ^ aP A) := by
    rw [ep]
    unfold sNet
    have : w = 0 ∨ w = 1 ∨ w = 2 := by omega
    rcases this with z | z | z <;> subst z <;> rfl
  rw [eS]
  have hl : ∀ k, livA A k → netA A k := fun k z => liv_net z
  have lp := xfor_F (sg := gX1_howMany) (fun i => (4, [some (.inr (.inr (1, 0))), some (.inl (iZ (w))), some (.inl (iZ ((cnU p i)))), some (.inl (iZ (i))), none], [], M)) (a := 1) (n := 2 ^ aP A) h9.1 (fun i h1 hi => by
    have hb := cnU_b p i
    have h512 : i < 512 := by omega
    have hlv := x_isLive h.2 h512
    have hnt := x_inNet h.2 h512 (hl i)
    have hnv := x_isNever h h1 hi hP
    have eU : cnU p (i + 1) = cnU p i + ind (1 ≤ i ∧ p i) := rfl
    have hwb : (i : Int) ≤ ((2 ^ aP A : Nat) : Int) - 1 ∧ ((2 ^ aP A : Nat) : Int) - 1 ≤ 511 := by omega
    have fin : xfix gX1_howMany (53, [some (.inr (.inr (1, 0))), some (.inl (iZ (w))), some (.inl (iZ ((cnU p i)))), some (.inl (iZ (i))), none], [.inl (bP ((p i)))], M) = xfix gX1_howMany (4, [some (.inr (.inr (1, 0))), some (.inl (iZ (w))), some (.inl (iZ ((cnU p (i + 1))))), some (.inl (iZ (((i + 1 : Nat))))), none], [], M) := by
      rw [eU, nS]
      by_cases z : p i
      · rw [bP_t z, ind_t ⟨h1, z⟩]
        rw [xfix_unf, sX1_howMany_53]
        simp (disch := omega) only [xk_none, xk_inl, xk_inr, xk_ite, xri_v, xrl_v, xrv_v, xb_z0, xb_z1, xb_b2, if_true, if_false, ite_true, ite_false, iZ_lit, iZ_m1, iZ_m99, iZ_m8, iZ_add, iZ_sub, iZ_mul, iZ_neg, nz0, nzi, iZ_lt, iZ_le, iZ_inj, b2_z, b2_o, ite_bPz, ite_bPo, xb_bP, iZ_xin, if_pos, ite_self, ↓reduceIte, Int.reduceAdd, Int.reduceSub, Int.reduceMul, Int.reduceNeg, Int.reduceLT, Int.reduceLE, if_neg]
      · rw [bP_f z, ind_f fun q => z q.2]
        rw [xfix_unf, sX1_howMany_53]
        simp (disch := omega) only [xk_none, xk_inl, xk_inr, xk_ite, xri_v, xrl_v, xrv_v, xb_z0, xb_z1, xb_b2, if_true, if_false, ite_true, ite_false, iZ_lit, iZ_m1, iZ_m99, iZ_m8, iZ_add, iZ_sub, iZ_mul, iZ_neg, nz0, nzi, iZ_lt, iZ_le, iZ_inj, b2_z, b2_o, ite_bPz, ite_bPo, xb_bP, iZ_xin, if_pos, ite_self, ↓reduceIte, Int.reduceAdd, Int.reduceSub, Int.reduceMul, Int.reduceNeg, Int.reduceLT, Int.reduceLE, if_neg]
    rw [← fin]
    have epi : p i = if w = 0 then netA A i else if w = 1 then livA A i else nvr A i := by
      rw [ep]
      by_cases z : w = 0
      · rw [if_pos z, if_pos z]
      · rw [if_neg z, if_neg z]
        by_cases z2 : w = 1
        · rw [if_pos z2, if_pos z2]
        · rw [if_neg z2, if_neg z2]
    rw [epi]
    generalize cnU p i = cu at *
    generalize ((2 ^ aP A : Nat) : Int) - 1 = W at *
    have : w = 0 ∨ w = 1 ∨ w = 2 := by omega
    rcases this with z | z | z
    · subst z
      rw [if_pos rfl]
      have zz : ((0 : Nat) : Int) = 0 := rfl
      by_cases q : netA A i
      · rw [bP_t q] at hnt ⊢
        rw [xfix_unf, sX1_howMany_4]
        simp (disch := omega) only [xk_none, xk_inl, xk_inr, xk_ite, xri_v, xrl_v, xrv_v, xb_z0, xb_z1, xb_b2, if_true, if_false, ite_true, ite_false, iZ_lit, iZ_m1, iZ_m99, iZ_m8, iZ_add, iZ_sub, iZ_mul, iZ_neg, nz0, nzi, iZ_lt, iZ_le, iZ_inj, b2_z, b2_o, ite_bPz, ite_bPo, xb_bP, iZ_xin, if_pos, ite_self, ↓reduceIte, Int.reduceAdd, Int.reduceSub, Int.reduceMul, Int.reduceNeg, Int.reduceLT, Int.reduceLE, if_neg, hww, hnt, zz]
      · rw [bP_f q] at hnt ⊢
        rw [xfix_unf, sX1_howMany_4]
        simp (disch := omega) only [xk_none, xk_inl, xk_inr, xk_ite, xri_v, xrl_v, xrv_v, xb_z0, xb_z1, xb_b2, if_true, if_false, ite_true, ite_false, iZ_lit, iZ_m1, iZ_m99, iZ_m8, iZ_add, iZ_sub, iZ_mul, iZ_neg, nz0, nzi, iZ_lt, iZ_le, iZ_inj, b2_z, b2_o, ite_bPz, ite_bPo, xb_bP, iZ_xin, if_pos, ite_self, ↓reduceIte, Int.reduceAdd, Int.reduceSub, Int.reduceMul, Int.reduceNeg, Int.reduceLT, Int.reduceLE, if_neg, hww, hnt, zz]
    · subst z
      rw [if_neg (by omega), if_pos rfl]
      have zz : ((1 : Nat) : Int) = 1 := rfl
      rw [xfix_unf, sX1_howMany_4]
      simp (disch := omega) only [xk_none, xk_inl, xk_inr, xk_ite, xri_v, xrl_v, xrv_v, xb_z0, xb_z1, xb_b2, if_true, if_false, ite_true, ite_false, iZ_lit, iZ_m1, iZ_m99, iZ_m8, iZ_add, iZ_sub, iZ_mul, iZ_neg, nz0, nzi, iZ_lt, iZ_le, iZ_inj, b2_z, b2_o, ite_bPz, ite_bPo, xb_bP, iZ_xin, if_pos, ite_self, ↓reduceIte, Int.reduceAdd, Int.reduceSub, Int.reduceMul, Int.reduceNeg, Int.reduceLT, Int.reduceLE, if_neg, hww, hlv, zz]
    · subst z
      rw [if_neg (by omega), if_neg (by omega)]
      have zz : ((2 : Nat) : Int) = 2 := rfl
      by_cases q : netA A i
      · rw [bP_t q] at hnt
        by_cases q2 : 1 < bc i ∧ ptC A (barS A) i i = 0
        · rw [bP_t q2] at hnv
          rw [bP_t (c := nvr A i) ⟨q, q2⟩]
          rw [xfix_unf, sX1_howMany_4]
          simp (disch := omega) only [xk_none, xk_inl, xk_inr, xk_ite, xri_v, xrl_v, xrv_v, xb_z0, xb_z1, xb_b2, if_true, if_false, ite_true, ite_false, iZ_lit, iZ_m1, iZ_m99, iZ_m8, iZ_add, iZ_sub, iZ_mul, iZ_neg, nz0, nzi, iZ_lt, iZ_le, iZ_inj, b2_z, b2_o, ite_bPz, ite_bPo, xb_bP, iZ_xin, if_pos, ite_self, ↓reduceIte, Int.reduceAdd, Int.reduceSub, Int.reduceMul, Int.reduceNeg, Int.reduceLT, Int.reduceLE, if_neg, hww, hnt, hnv, zz]
        · rw [bP_f q2] at hnv
          rw [bP_f (c := nvr A i) fun z => q2 z.2]
          rw [xfix_unf, sX1_howMany_4]
          simp (disch := omega) only [xk_none, xk_inl, xk_inr, xk_ite, xri_v, xrl_v, xrv_v, xb_z0, xb_z1, xb_b2, if_true, if_false, ite_true, ite_false, iZ_lit, iZ_m1, iZ_m99, iZ_m8, iZ_add, iZ_sub, iZ_mul, iZ_neg, nz0, nzi, iZ_lt, iZ_le, iZ_inj, b2_z, b2_o, ite_bPz, ite_bPo, xb_bP, iZ_xin, if_pos, ite_self, ↓reduceIte, Int.reduceAdd, Int.reduceSub, Int.reduceMul, Int.reduceNeg, Int.reduceLT, Int.reduceLE, if_neg, hww, hnt, hnv, zz]
      · rw [bP_f q] at hnt
        rw [bP_f (c := nvr A i) fun z => q z.1]
        rw [xfix_unf, sX1_howMany_4]
        simp (disch := omega) only [xk_none, xk_inl, xk_inr, xk_ite, xri_v, xrl_v, xrv_v, xb_z0, xb_z1, xb_b2, if_true, if_false, ite_true, ite_false, iZ_lit, iZ_m1, iZ_m99, iZ_m8, iZ_add, iZ_sub, iZ_mul, iZ_neg, nz0, nzi, iZ_lt, iZ_le, iZ_inj, b2_z, b2_o, ite_bPz, ite_bPo, xb_bP, iZ_xin, if_pos, ite_self, ↓reduceIte, Int.reduceAdd, Int.reduceSub, Int.reduceMul, Int.reduceNeg, Int.reduceLT, Int.reduceLE, if_neg, hww, hnt, zz])
  have c1 : cnU p 1 = 0 := by
    show 0 + ind (1 ≤ 0 ∧ p 0) = 0
    rw [ind_f fun z => by omega]; rfl
  have e1 : ((1 : Nat) : Int) = 1 := rfl
  rw [c1, e1] at lp
  have hb := cnU_b p (2 ^ aP A)
  show xfix gX1_howMany (0, [some (.inr (.inr (1, 0))), some (.inl (iZ (w))), none, none, none], [], M) = _; rw [xfix_unf, sX1_howMany_0]
  simp (disch := omega) only [xk_none, xk_inl, xk_inr, xk_ite, xri_v, xrl_v, xrv_v, xb_z0, xb_z1, xb_b2, if_true, if_false, ite_true, ite_false, iZ_lit, iZ_m1, iZ_m99, iZ_m8, iZ_add, iZ_sub, iZ_mul, iZ_neg, nz0, nzi, iZ_lt, iZ_le, iZ_inj, b2_z, b2_o, ite_bPz, ite_bPo, xb_bP, iZ_xin, if_pos, ite_self, ↓reduceIte, Int.reduceAdd, Int.reduceSub, Int.reduceMul, Int.reduceNeg, Int.reduceLT, Int.reduceLE, if_neg]
  refine lp.trans ?_
  have hW9 : 0 ≤ ((2 ^ aP A : Nat) : Int) ∧ ((2 ^ aP A : Nat) : Int) ≤ 512 := by omega
  generalize cnU p (2 ^ aP A) = cu at *
  generalize ((2 ^ aP A : Nat) : Int) = W at *
  rw [xfix_unf, sX1_howMany_4]
  simp (disch := omega) only [xk_none, xk_inl, xk_inr, xk_ite, xri_v, xrl_v, xrv_v, xb_z0, xb_z1, xb_b2, if_true, if_false, ite_true, ite_false, iZ_lit, iZ_m1, iZ_m99, iZ_m8, iZ_add, iZ_sub, iZ_mul, iZ_neg, nz0, nzi, iZ_lt, iZ_le, iZ_inj, b2_z, b2_o, ite_bPz, ite_bPo, xb_bP, iZ_xin, if_pos, ite_self, ↓reduceIte, Int.reduceAdd, Int.reduceSub, Int.reduceMul, Int.reduceNeg, Int.reduceLT, Int.reduceLE, if_neg, hww]
theorem x_largest {M : xM} {A : dA} {p : Nat} (hA : aOk A) (f0 : xI M (5, 0) 0 = iZ (aP A)) (h : cNt M A) (hp : p < aP A) : fX1_largestLiveWithout [.inr (.inr (1, 0)), .inl (iZ (p))] M = some (some (.inl (iZ (misR A p (2 ^ aP A)))), M) := by
  have hP := hA.P
  have h9 := pow9 hP
  have hww := x_whole (M := M) (s := 0) f0 hP
  have pos : ∀ k, misR A p k = -1 ∨ 1 ≤ misR A p k := fun k => by
    induction k with
    | zero => exact .inl rfl
    | succ k ih =>
      show @ite _ (1 ≤ k ∧ livA A k ∧ k.testBit p = false ∧ (misR A p k = -1 ∨ bc (misR A p k).toNat < bc k)) (Classical.propDecidable _) (k : Int) (misR A p k) = -1 ∨ _ ≤ @ite _ _ (Classical.propDecidable _) (k : Int) (misR A p k)
      by_cases y : 1 ≤ k ∧ livA A k ∧ k.testBit p = false ∧ (misR A p k = -1 ∨ bc (misR A p k).toNat < bc k)
      · rw [if_pos y]; exact .inr (by omega)
      · rw [if_neg y]; exact ih
  have lp := xfor_F (sg := gX1_largestLiveWithout) (fun i => (4, [some (.inr (.inr (1, 0))), some (.inl (iZ (p))), some (.inl (iZ ((if misR A p i = -1 then 0 else misR A p i)))), some (.inl (iZ (i))), none], [], M)) (a := 1) (n := 2 ^ aP A) h9.1 (fun i h1 hi => by
    have hb := misR_b A p i
    have hps := pos i
    have h512 : i < 512 := by omega
    have hlv := x_isLive h.2 h512
    have eU : misR A p (i + 1) = @ite _ (1 ≤ i ∧ livA A i ∧ i.testBit p = false ∧ (misR A p i = -1 ∨ bc (misR A p i).toNat < bc i)) (Classical.propDecidable _) (i : Int) (misR A p i) := rfl
    have hwb : (i : Int) ≤ ((2 ^ aP A : Nat) : Int) - 1 ∧ ((2 ^ aP A : Nat) : Int) - 1 ≤ 511 := by omega
    obtain ⟨b, eb⟩ : ∃ b : Nat, (if misR A p i = -1 then 0 else misR A p i) = (b : Int) := ⟨(if misR A p i = -1 then 0 else misR A p i).toNat, by split <;> omega⟩
    have bl : b < 512 := by
      have : (b : Int) < 512 := by rw [← eb]; split <;> omega
      omega
    have b1 := x_bitCount (M := M) (v := i) h512
    have b2 := x_bitCount (M := M) (v := b) bl
    have bc0 : bc 0 = 0 := by decide
    have bp := bc_pos h1 h512
    have cnd : bc b < bc i ↔ (misR A p i = -1 ∨ bc (misR A p i).toNat < bc i) := by
      by_cases z : misR A p i = -1
      · rw [if_pos z] at eb
        have : b = 0 := by omega
        subst this
        exact ⟨fun _ => .inl z, fun _ => by omega⟩
      · rw [if_neg z] at eb
        rw [eb, Int.toNat_natCast]
        exact ⟨.inr, fun q => q.elim (fun w => by omega) id⟩
    have c1 := bc_le i
    have c2 := bc_le b
    rw [eb]
    have newv : (if misR A p (i + 1) = -1 then 0 else misR A p (i + 1)) = @ite _ (bc b < bc i ∧ i.testBit p = false ∧ livA A i) (Classical.propDecidable _) (i : Int) (b : Int) := by
      rw [eU]
      by_cases y : 1 ≤ i ∧ livA A i ∧ i.testBit p = false ∧ (misR A p i = -1 ∨ bc (misR A p i).toNat < bc i)
      · rw [if_pos y, if_neg (by omega), if_pos ⟨cnd.mpr y.2.2.2, y.2.2.1, y.2.1⟩]
      · rw [if_neg y, eb, if_neg fun z => y ⟨h1, z.2.2, z.2.1, cnd.mp z.1⟩]
    rw [newv, nS]
    generalize ((2 ^ aP A : Nat) : Int) - 1 = W at *
    by_cases y1 : bc b < bc i
    · by_cases y2 : i.testBit p = false
      · have y2' : ¬ i.testBit p = true := by rw [y2]; simp
        by_cases y3 : livA A i
        · rw [bP_t y3] at hlv
          rw [if_pos ⟨y1, y2, y3⟩]
          generalize bc b = bb at *
          generalize bc i = bi at *
          rw [xfix_unf, sX1_largestLiveWithout_4]
          simp (disch := omega) only [xk_none, xk_inl, xk_inr, xk_ite, xri_v, xrl_v, xrv_v, xb_z0, xb_z1, xb_b2, if_true, if_false, ite_true, ite_false, iZ_lit, iZ_m1, iZ_m99, iZ_m8, iZ_add, iZ_sub, iZ_mul, iZ_neg, nz0, nzi, iZ_lt, iZ_le, iZ_inj, b2_z, b2_o, ite_bPz, ite_bPo, xb_bP, iZ_xin, if_pos, ite_self, ↓reduceIte, Int.reduceAdd, Int.reduceSub, Int.reduceMul, Int.reduceNeg, Int.reduceLT, Int.reduceLE, if_neg, hww, b1, b2]
          rw [xfix_unf, sX1_largestLiveWithout_31]
          simp (disch := omega) only [xk_none, xk_inl, xk_inr, xk_ite, xri_v, xrl_v, xrv_v, xb_z0, xb_z1, xb_b2, if_true, if_false, ite_true, ite_false, iZ_lit, iZ_m1, iZ_m99, iZ_m8, iZ_add, iZ_sub, iZ_mul, iZ_neg, nz0, nzi, iZ_lt, iZ_le, iZ_inj, b2_z, b2_o, ite_bPz, ite_bPo, xb_bP, iZ_xin, if_pos, ite_self, ↓reduceIte, Int.reduceAdd, Int.reduceSub, Int.reduceMul, Int.reduceNeg, Int.reduceLT, Int.reduceLE, if_neg, iZ_bit, bP_f y2', hlv]
        · rw [bP_f y3] at hlv
          rw [if_neg fun z => y3 z.2.2]
          generalize bc b = bb at *
          generalize bc i = bi at *
          rw [xfix_unf, sX1_largestLiveWithout_4]
          simp (disch := omega) only [xk_none, xk_inl, xk_inr, xk_ite, xri_v, xrl_v, xrv_v, xb_z0, xb_z1, xb_b2, if_true, if_false, ite_true, ite_false, iZ_lit, iZ_m1, iZ_m99, iZ_m8, iZ_add, iZ_sub, iZ_mul, iZ_neg, nz0, nzi, iZ_lt, iZ_le, iZ_inj, b2_z, b2_o, ite_bPz, ite_bPo, xb_bP, iZ_xin, if_pos, ite_self, ↓reduceIte, Int.reduceAdd, Int.reduceSub, Int.reduceMul, Int.reduceNeg, Int.reduceLT, Int.reduceLE, if_neg, hww, b1, b2]
          rw [xfix_unf, sX1_largestLiveWithout_31]
          simp (disch := omega) only [xk_none, xk_inl, xk_inr, xk_ite, xri_v, xrl_v, xrv_v, xb_z0, xb_z1, xb_b2, if_true, if_false, ite_true, ite_false, iZ_lit, iZ_m1, iZ_m99, iZ_m8, iZ_add, iZ_sub, iZ_mul, iZ_neg, nz0, nzi, iZ_lt, iZ_le, iZ_inj, b2_z, b2_o, ite_bPz, ite_bPo, xb_bP, iZ_xin, if_pos, ite_self, ↓reduceIte, Int.reduceAdd, Int.reduceSub, Int.reduceMul, Int.reduceNeg, Int.reduceLT, Int.reduceLE, if_neg, iZ_bit, bP_f y2', hlv]
      · have y2' : i.testBit p = true := by simpa using y2
        rw [if_neg fun z => y2 z.2.1]
        generalize bc b = bb at *
        generalize bc i = bi at *
        rw [xfix_unf, sX1_largestLiveWithout_4]
        simp (disch := omega) only [xk_none, xk_inl, xk_inr, xk_ite, xri_v, xrl_v, xrv_v, xb_z0, xb_z1, xb_b2, if_true, if_false, ite_true, ite_false, iZ_lit, iZ_m1, iZ_m99, iZ_m8, iZ_add, iZ_sub, iZ_mul, iZ_neg, nz0, nzi, iZ_lt, iZ_le, iZ_inj, b2_z, b2_o, ite_bPz, ite_bPo, xb_bP, iZ_xin, if_pos, ite_self, ↓reduceIte, Int.reduceAdd, Int.reduceSub, Int.reduceMul, Int.reduceNeg, Int.reduceLT, Int.reduceLE, if_neg, hww, b1, b2]
        rw [xfix_unf, sX1_largestLiveWithout_31]
        simp (disch := omega) only [xk_none, xk_inl, xk_inr, xk_ite, xri_v, xrl_v, xrv_v, xb_z0, xb_z1, xb_b2, if_true, if_false, ite_true, ite_false, iZ_lit, iZ_m1, iZ_m99, iZ_m8, iZ_add, iZ_sub, iZ_mul, iZ_neg, nz0, nzi, iZ_lt, iZ_le, iZ_inj, b2_z, b2_o, ite_bPz, ite_bPo, xb_bP, iZ_xin, if_pos, ite_self, ↓reduceIte, Int.reduceAdd, Int.reduceSub, Int.reduceMul, Int.reduceNeg, Int.reduceLT, Int.reduceLE, if_neg, iZ_bit, bP_t y2']
    · rw [if_neg fun z => y1 z.1]
      generalize bc b = bb at *
      generalize bc i = bi at *
      rw [xfix_unf, sX1_largestLiveWithout_4]
      simp (disch := omega) only [xk_none, xk_inl, xk_inr, xk_ite, xri_v, xrl_v, xrv_v, xb_z0, xb_z1, xb_b2, if_true, if_false, ite_true, ite_false, iZ_lit, iZ_m1, iZ_m99, iZ_m8, iZ_add, iZ_sub, iZ_mul, iZ_neg, nz0, nzi, iZ_lt, iZ_le, iZ_inj, b2_z, b2_o, ite_bPz, ite_bPo, xb_bP, iZ_xin, if_pos, ite_self, ↓reduceIte, Int.reduceAdd, Int.reduceSub, Int.reduceMul, Int.reduceNeg, Int.reduceLT, Int.reduceLE, if_neg, hww, b1, b2]
      rw [xfix_unf, sX1_largestLiveWithout_31]
      simp (disch := omega) only [xk_none, xk_inl, xk_inr, xk_ite, xri_v, xrl_v, xrv_v, xb_z0, xb_z1, xb_b2, if_true, if_false, ite_true, ite_false, iZ_lit, iZ_m1, iZ_m99, iZ_m8, iZ_add, iZ_sub, iZ_mul, iZ_neg, nz0, nzi, iZ_lt, iZ_le, iZ_inj, b2_z, b2_o, ite_bPz, ite_bPo, xb_bP, iZ_xin, if_pos, ite_self, ↓reduceIte, Int.reduceAdd, Int.reduceSub, Int.reduceMul, Int.reduceNeg, Int.reduceLT, Int.reduceLE, if_neg])
  have m1 : misR A p 1 = -1 := by
    show @ite _ (1 ≤ 0 ∧ livA A 0 ∧ (0 : Nat).testBit p = false ∧ (misR A p 0 = -1 ∨ bc (misR A p 0).toNat < bc 0)) (Classical.propDecidable _) ((0 : Nat) : Int) (misR A p 0) = -1
    rw [if_neg fun z => by omega]
    rfl
  have e1 : ((1 : Nat) : Int) = 1 := rfl
  rw [m1, if_pos rfl, e1] at lp
  have hb := misR_b A p (2 ^ aP A)
  have hps := pos (2 ^ aP A)
  show xfix gX1_largestLiveWithout (0, [some (.inr (.inr (1, 0))), some (.inl (iZ (p))), none, none, none], [], M) = _; rw [xfix_unf, sX1_largestLiveWithout_0]
  simp (disch := omega) only [xk_none, xk_inl, xk_inr, xk_ite, xri_v, xrl_v, xrv_v, xb_z0, xb_z1, xb_b2, if_true, if_false, ite_true, ite_false, iZ_lit, iZ_m1, iZ_m99, iZ_m8, iZ_add, iZ_sub, iZ_mul, iZ_neg, nz0, nzi, iZ_lt, iZ_le, iZ_inj, b2_z, b2_o, ite_bPz, ite_bPo, xb_bP, iZ_xin, if_pos, ite_self, ↓reduceIte, Int.reduceAdd, Int.reduceSub, Int.reduceMul, Int.reduceNeg, Int.reduceLT, Int.reduceLE, if_neg]
  refine lp.trans ?_
  have hW9 : 0 ≤ ((2 ^ aP A : Nat) : Int) ∧ ((2 ^ aP A : Nat) : Int) ≤ 512 := by omega
  generalize misR A p (2 ^ aP A) = mm at *
  generalize ((2 ^ aP A : Nat) : Int) = W at *
  by_cases z : mm = -1
  · rw [if_pos z, z]
    rw [xfix_unf, sX1_largestLiveWithout_4]
    simp (disch := omega) only [xk_none, xk_inl, xk_inr, xk_ite, xri_v, xrl_v, xrv_v, xb_z0, xb_z1, xb_b2, if_true, if_false, ite_true, ite_false, iZ_lit, iZ_m1, iZ_m99, iZ_m8, iZ_add, iZ_sub, iZ_mul, iZ_neg, nz0, nzi, iZ_lt, iZ_le, iZ_inj, b2_z, b2_o, ite_bPz, ite_bPo, xb_bP, iZ_xin, if_pos, ite_self, ↓reduceIte, Int.reduceAdd, Int.reduceSub, Int.reduceMul, Int.reduceNeg, Int.reduceLT, Int.reduceLE, if_neg, hww]
  · rw [if_neg z]
    rw [xfix_unf, sX1_largestLiveWithout_4]
    simp (disch := omega) only [xk_none, xk_inl, xk_inr, xk_ite, xri_v, xrl_v, xrv_v, xb_z0, xb_z1, xb_b2, if_true, if_false, ite_true, ite_false, iZ_lit, iZ_m1, iZ_m99, iZ_m8, iZ_add, iZ_sub, iZ_mul, iZ_neg, nz0, nzi, iZ_lt, iZ_le, iZ_inj, b2_z, b2_o, ite_bPz, ite_bPo, xb_bP, iZ_xin, if_pos, ite_self, ↓reduceIte, Int.reduceAdd, Int.reduceSub, Int.reduceMul, Int.reduceNeg, Int.reduceLT, Int.reduceLE, if_neg, hww]
