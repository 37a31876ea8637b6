/-! the reference: the call thing -/
def thA (A : dA) (s : pS) : dA := (pP s, pC s, pJ s, pOne s, pTwo s, pAt s, pWy s, aPr A, (fun _ => false), fun _ => false)
def thS (S : dS) (s : pS) : dS := ((0, sT S), (0, -1), ((fun _ => 2 ^ pP s - 1), 0), (pNl s, fun q k => sT S (pNa s q + k)), (-1, (sJ S).2))
def nFlt (S : dS) (f : Int × Nat) : dS := ((0, sT S), (f.1, (f.2 : Int)), S.2.2)
noncomputable def tTh (A : dA) (S : dS) : Int × dA × dS := match pThing (sN S) (sT S) with
  | .inl f => (-1, A, nFlt S f)
  | .inr s => ((pP s : Int), thA A s, thS S s)
def s0P (N : Nat) (T : Nat → Nat) (st : Nat) : pS := (st, (0, (fun _ => 0), fun _ => 0), (0, (fun _ => 0), (fun _ => 0), (fun _ => 0), fun _ => 0), 0, fun _ => -1)
theorem th_read {A : dA} {S : dS} {M : xM} (h : mZ M A S) : ∃ M3, xSm (fun r j => rdF r j ∨ (r = (12, 0) ∧ j = 30)) M M3 ∧ ((∃ f, pThing (sN S) (sT S) = .inl f ∧ fX12_thing [.inr (.inr (12, 0))] M = some (some (.inl (iZ (-1))), xpI (xpI (xpI M3 (12, 0) 18 (iZ 0)) (12, 0) 25 (iZ f.1)) (12, 0) 29 (iZ (f.2 : Int)))) ∨ ∃ s, pThing (sN S) (sT S) = .inr s ∧ fX12_thing [.inr (.inr (12, 0))] M = xfix gX12_thing (114, [some (.inr (.inr (12, 0))), none, some (.inl (iZ (((0 : Nat))))), none], [], (xpI (xpI (xpI (xpI (xpI M3 (12, 0) 18 (iZ 0)) (12, 0) 25 (iZ 0)) (12, 0) 29 (iZ (-1))) (12, 0) 2 (iZ (pP s))) (12, 0) 3 (iZ (pJ s)))) ∧ pM M3 (sN S) (sT S) s ∧ pOk (sN S) (sT S) s (pP s)) := by
  obtain ⟨hQ, hS, hO, hF⟩ := h
  obtain ⟨⟨a1, a2⟩, hS2⟩ := hS
  generalize hM0 : xpI (xpI (xpI (xpI (xpI (xpI M (12, 0) 30 (iZ 0)) (12, 0) 23 (iZ 0)) (12, 0) 19 (iZ 0)) (12, 0) 26 (iZ 0)) (12, 0) 27 (iZ 0)) (12, 0) 28 (iZ 0) = M0
  have s0 : xSm (fun r j => rdF r j ∨ (r = (12, 0) ∧ j = 30)) M M0 := by
    rw [← hM0]
    exact (((((xSm.rf.pI (.inr ⟨rfl, rfl⟩)).pI (by simp [rdF])).pI (by simp [rdF])).pI (by simp [rdF])).pI (by simp [rdF])).pI (by simp [rdF])
  have top0 : fX12_thing [.inr (.inr (12, 0))] M = xfix gX12_thing (32, [some (.inr (.inr (12, 0))), some (.inl (iZ (((0 : Nat))))), none, none], [], M0) := by
    show xfix gX12_thing (0, [some (.inr (.inr (12, 0))), none, none, none], [], M) = _; rw [xfix_unf, sX12_thing_0]
    simp (disch := omega) only [xk_none, xk_inl, xk_inr, xk_ite, xri_v, xrl_v, xrv_v, xb_z0, xb_z1, xb_b2, if_true, if_false, ite_true, ite_false, iZ_lit, iZ_m1, iZ_m99, iZ_m8, iZ_add, iZ_sub, iZ_mul, iZ_neg, nz0, nzi, iZ_lt, iZ_le, iZ_inj, b2_z, b2_o, ite_bPz, ite_bPo, xb_bP, iZ_xin, if_pos, ite_self, ↓reduceIte, Int.reduceAdd, Int.reduceSub, Int.reduceMul, Int.reduceNeg, Int.reduceLT, Int.reduceLE, if_neg]
    rw [hM0]
    rfl
  obtain ⟨M1, b1, b2, b3⟩ := xfor_M (sg := gX12_thing) (st := fun i M => (32, [some (.inr (.inr (12, 0))), some (.inl (iZ (i))), none, none], [], M)) (I := fun k K => xSame (fun r => r = (101, 0)) M0 K ∧ ∀ c, c < k → xI K (101, 0) c = iZ (-1)) (n := 512) (fun i K hi hK => by
    obtain ⟨k1, k2⟩ := hK
    refine ⟨xpI K (101, 0) i (iZ (-1)), ?_, k1.pI rfl, fun c hc => ?_⟩
    · rw [xfix_unf, sX12_thing_32]
      simp (disch := omega) only [xk_none, xk_inl, xk_inr, xk_ite, xri_v, xrl_v, xrv_v, xb_z0, xb_z1, xb_b2, if_true, if_false, ite_true, ite_false, iZ_lit, iZ_m1, iZ_m99, iZ_m8, iZ_add, iZ_sub, iZ_mul, iZ_neg, nz0, nzi, iZ_lt, iZ_le, iZ_inj, b2_z, b2_o, ite_bPz, ite_bPo, xb_bP, iZ_xin, if_pos, ite_self, ↓reduceIte, Int.reduceAdd, Int.reduceSub, Int.reduceMul, Int.reduceNeg, Int.reduceLT, Int.reduceLE, if_neg, nS, iZ_clampN, iZ_bit, iZ_one, iZ_and, iZ_or, iZ_ndn]
    · rw [xI_pI]
      by_cases e : c = i
      · rw [if_pos ⟨rfl, e⟩]
      · rw [if_neg (fun z => e z.2)]; exact k2 c (by omega)) (a := 0) (M := M0) (by omega) ⟨xSame.rf, fun c hc => by omega⟩
  have f1 : ∀ j, xI M1 (12, 0) j = xI M0 (12, 0) j := fun j => (b2 (12, 0) (by decide)).1 j
  have s1 : xSm (fun r j => rdF r j ∨ (r = (12, 0) ∧ j = 30)) M M1 := s0.tr (b2.sm.wk fun r j z => by subst z; simp [rdF])
  have hT : rT M1 (sN S) (sT S) := ⟨by rw [(s1 (12, 0) 18 (by simp [rdF])).1]; exact a1, hO.1, fun k hk => ⟨by rw [(s1 (110, 0) k (by simp [rdF])).1]; exact a2 k hk, hO.2.1 k hk⟩⟩
  have g19 : xI M1 (12, 0) 19 = iZ ((0 : Nat) : Int) := by rw [f1, ← hM0, pF_ne (by decide), pF_ne (by decide), pF_ne (by decide), pF_eq]; rfl
  have g30 : xI M1 (12, 0) 30 = bP False := by rw [f1, ← hM0, pF_ne (by decide), pF_ne (by decide), pF_ne (by decide), pF_ne (by decide), pF_ne (by decide), pF_eq, bP_f (fun z => z)]
  have g23 : xI M1 (12, 0) 23 = iZ 0 := by rw [f1, ← hM0, pF_ne (by decide), pF_ne (by decide), pF_ne (by decide), pF_ne (by decide), pF_eq]
  have g26 : xI M1 (12, 0) 26 = iZ 0 := by rw [f1, ← hM0, pF_ne (by decide), pF_ne (by decide), pF_eq]
  have g27 : xI M1 (12, 0) 27 = iZ 0 := by rw [f1, ← hM0, pF_ne (by decide), pF_eq]
  have g28 : xI M1 (12, 0) 28 = iZ 0 := by rw [f1, ← hM0, pF_eq]
  obtain ⟨M2, c1, c2, c3⟩ := m_next0 hT g19 (by omega) g30
  have hsk : sk (sN S) (sT S) 0 ≤ sN S := (rn_b (P := isB) (T := sT S) (i := 0) (Nat.zero_le _)).2
  have hM2 : pM M2 (sN S) (sT S) (s0P (sN S) (sT S) (sk (sN S) (sT S) 0)) := by
    refine ⟨⟨hT.nx c2, ⟨by rw [(c2 (12, 0) 30 (by decide)).1]; exact g30, by rw [(c2 (12, 0) 23 (by decide)).1]; exact g23⟩, hsk, c3⟩, ⟨?_, ?_, ?_⟩, fun q hq => absurd hq (Nat.not_lt_zero _), fun q hq => absurd hq (Nat.not_lt_zero _), fun c hc => ?_⟩
    · rw [(c2 (12, 0) 26 (by decide)).1]; exact g26
    · rw [(c2 (12, 0) 27 (by decide)).1]; exact g27
    · rw [(c2 (12, 0) 28 (by decide)).1]; exact g28
    · rw [(c2 (101, 0) c (by simp)).1]; exact b3 c hc
  have hO2 : pOk (sN S) (sT S) (s0P (sN S) (sT S) (sk (sN S) (sT S) 0)) 0 := ⟨⟨Nat.zero_le _, Nat.zero_le _, Nat.zero_le _, Nat.zero_le _⟩, fun q hq => absurd hq (Nat.not_lt_zero _), fun q hq => absurd hq (Nat.not_lt_zero _), fun c hc => ⟨Int.le_refl _, show (-1 : Int) < ((0 : Nat) : Int) by omega⟩, fun q hq => absurd hq (Nat.not_lt_zero _)⟩
  have hN := hO.1
  obtain ⟨M3, d1, d2⟩ := m_reads 900 M2 (s0P (sN S) (sT S) (sk (sN S) (sT S) 0)) (by omega) hM2 hO2
  have hrd : fX12_reads [.inr (.inr (12, 0))] M2 = xfix gX12_reads (0, [some (.inr (.inr (12, 0)))], [], M2) := rfl
  have s3 : xSm (fun r j => rdF r j ∨ (r = (12, 0) ∧ j = 30)) M M3 := (s1.tr ((rdF_nx c2).wk fun r j z => .inl z)).tr (d1.wk fun r j z => .inl z)
  have e512 : ((512 : Nat) : Int) = 512 := rfl
  refine ⟨M3, s3, ?_⟩
  rcases d2 with ⟨f, x1, x2, x3⟩ | ⟨s, x1, x2, x3, x4⟩
  · refine .inl ⟨f, x1, (top0.trans b1).trans ?_⟩
    have k23 : xI (xpI M3 (12, 0) 18 (iZ 0)) (12, 0) 23 = iZ f.1 := by rw [pF_ne (by decide)]; exact x3.1
    have k24 : xI (xpI (xpI M3 (12, 0) 18 (iZ 0)) (12, 0) 25 (iZ f.1)) (12, 0) 24 = iZ f.2 := by rw [pF_ne (by decide), pF_ne (by decide)]; exact x3.2
    rw [← hrd] at x2
    rw [xfix_unf, sX12_thing_32]
    simp (disch := omega) only [xk_none, xk_inl, xk_inr, xk_ite, xri_v, xrl_v, xrv_v, xb_z0, xb_z1, xb_b2, if_true, if_false, ite_true, ite_false, iZ_lit, iZ_m1, iZ_m99, iZ_m8, iZ_add, iZ_sub, iZ_mul, iZ_neg, nz0, nzi, iZ_lt, iZ_le, iZ_inj, b2_z, b2_o, ite_bPz, ite_bPo, xb_bP, iZ_xin, if_pos, ite_self, ↓reduceIte, Int.reduceAdd, Int.reduceSub, Int.reduceMul, Int.reduceNeg, Int.reduceLT, Int.reduceLE, if_neg, e512, c1, x2, k23, k24]
    rw [xfix_unf, sX12_thing_87]
    simp (disch := omega) only [xk_none, xk_inl, xk_inr, xk_ite, xri_v, xrl_v, xrv_v, xb_z0, xb_z1, xb_b2, if_true, if_false, ite_true, ite_false, iZ_lit, iZ_m1, iZ_m99, iZ_m8, iZ_add, iZ_sub, iZ_mul, iZ_neg, nz0, nzi, iZ_lt, iZ_le, iZ_inj, b2_z, b2_o, ite_bPz, ite_bPo, xb_bP, iZ_xin, if_pos, ite_self, ↓reduceIte, Int.reduceAdd, Int.reduceSub, Int.reduceMul, Int.reduceNeg, Int.reduceLT, Int.reduceLE, if_neg]
  · refine .inr ⟨s, x1, (top0.trans b1).trans ?_, x3, x4⟩
    have k23 : xI (xpI M3 (12, 0) 18 (iZ 0)) (12, 0) 23 = iZ 0 := by rw [pF_ne (by decide)]; exact x3.1.2.1.2
    have k26 : xI (xpI (xpI (xpI M3 (12, 0) 18 (iZ 0)) (12, 0) 25 (iZ 0)) (12, 0) 29 (iZ (-1))) (12, 0) 26 = iZ (pP s) := by rw [pF_ne (by decide), pF_ne (by decide), pF_ne (by decide)]; exact x3.2.1.1
    have k27 : xI (xpI (xpI (xpI (xpI M3 (12, 0) 18 (iZ 0)) (12, 0) 25 (iZ 0)) (12, 0) 29 (iZ (-1))) (12, 0) 2 (iZ (pP s))) (12, 0) 27 = iZ (pJ s) := by rw [pF_ne (by decide), pF_ne (by decide), pF_ne (by decide), pF_ne (by decide)]; exact x3.2.1.2.1
    rw [← hrd] at x2
    rw [xfix_unf, sX12_thing_32]
    simp (disch := omega) only [xk_none, xk_inl, xk_inr, xk_ite, xri_v, xrl_v, xrv_v, xb_z0, xb_z1, xb_b2, if_true, if_false, ite_true, ite_false, iZ_lit, iZ_m1, iZ_m99, iZ_m8, iZ_add, iZ_sub, iZ_mul, iZ_neg, nz0, nzi, iZ_lt, iZ_le, iZ_inj, b2_z, b2_o, ite_bPz, ite_bPo, xb_bP, iZ_xin, if_pos, ite_self, ↓reduceIte, Int.reduceAdd, Int.reduceSub, Int.reduceMul, Int.reduceNeg, Int.reduceLT, Int.reduceLE, if_neg, e512, c1, x2, k23]
    rw [xfix_unf, sX12_thing_87]
    simp (disch := omega) only [xk_none, xk_inl, xk_inr, xk_ite, xri_v, xrl_v, xrv_v, xb_z0, xb_z1, xb_b2, if_true, if_false, ite_true, ite_false, iZ_lit, iZ_m1, iZ_m99, iZ_m8, iZ_add, iZ_sub, iZ_mul, iZ_neg, nz0, nzi, iZ_lt, iZ_le, iZ_inj, b2_z, b2_o, ite_bPz, ite_bPo, xb_bP, iZ_xin, if_pos, ite_self, ↓reduceIte, Int.reduceAdd, Int.reduceSub, Int.reduceMul, Int.reduceNeg, Int.reduceLT, Int.reduceLE, if_neg, k26, k27]
    rfl
