/-! the reference: a record's steps -/
theorem rc_step {A : dA} {S : dS} {N : Nat} {T : Nat → Nat} {M : xM} {s : rS} (h : rM M A N T s) (hm : mNm M A S) : ∃ M', xSm rcF M M' ∧ ((∃ f, rSt A S N T s = .inl f ∧ fX12_aStep [.inr (.inr (12, 0))] M = some (some (.inl (iZ (0))), M') ∧ rFl M' f) ∨ ∃ s', rSt A S N T s = .inr s' ∧ fX12_aStep [.inr (.inr (12, 0))] M = some (some (.inl (iZ (1))), M') ∧ rM M' A N T s' ∧ s'.2.1 = s.2.1 + 1) := by
  have h' := h
  obtain ⟨⟨k1, k2, k3, d1, d2, d3, d4⟩, ⟨b1, b2⟩, c⟩ := h'
  have hb := tk_b True N T s.1
  have hN := k1.2.1
  obtain ⟨M1, x1, x2⟩ := rc_ps (S := S) 801 0 M s (by omega) h hm (Nat.two_pow_pos _)
  have top : xfix gX12_aStep (18, [some (.inr (.inr (12, 0))), some (.inl (iZ (((0 : Nat))))), some (.inl (iZ ((1 : Int)))), none], [], M) = fX12_aStep [.inr (.inr (12, 0))] M := by
    by_cases c1 : tk True N T s.1 = 3
    · symm
      show xfix gX12_aStep (0, [some (.inr (.inr (12, 0))), none, none, none], [], M) = _; rw [xfix_unf, sX12_aStep_0]
      simp (disch := omega) only [xk_none, xk_inl, xk_inr, xk_ite, xri_v, xrl_v, xrv_v, xb_z0, xb_z1, xb_b2, if_true, if_false, ite_true, ite_false, iZ_lit, iZ_m1, iZ_m99, iZ_m8, iZ_add, iZ_sub, iZ_mul, iZ_neg, nz0, nzi, iZ_lt, iZ_le, iZ_inj, b2_z, b2_o, ite_bPz, ite_bPo, xb_bP, iZ_xin, if_pos, ite_self, ↓reduceIte, Int.reduceAdd, Int.reduceSub, Int.reduceMul, Int.reduceNeg, Int.reduceLT, Int.reduceLE, if_neg, d3, c1]
      rfl
    · obtain ⟨M', y1, y2, y3⟩ := m_badN (k := 1) d1
      have e1 : fX12_aStep [.inr (.inr (12, 0))] M = some (some (.inl (iZ (0))), M') := by
        show xfix gX12_aStep (0, [some (.inr (.inr (12, 0))), none, none, none], [], M) = _; rw [xfix_unf, sX12_aStep_0]
        simp (disch := omega) only [xk_none, xk_inl, xk_inr, xk_ite, xri_v, xrl_v, xrv_v, xb_z0, xb_z1, xb_b2, if_true, if_false, ite_true, ite_false, iZ_lit, iZ_m1, iZ_m99, iZ_m8, iZ_add, iZ_sub, iZ_mul, iZ_neg, nz0, nzi, iZ_lt, iZ_le, iZ_inj, b2_z, b2_o, ite_bPz, ite_bPo, xb_bP, iZ_xin, if_pos, ite_self, ↓reduceIte, Int.reduceAdd, Int.reduceSub, Int.reduceMul, Int.reduceNeg, Int.reduceLT, Int.reduceLE, if_neg, d3, c1, y1]
      rw [e1]
      rw [xfix_unf, sX12_aStep_18]
      simp (disch := omega) only [xk_none, xk_inl, xk_inr, xk_ite, xri_v, xrl_v, xrv_v, xb_z0, xb_z1, xb_b2, if_true, if_false, ite_true, ite_false, iZ_lit, iZ_m1, iZ_m99, iZ_m8, iZ_add, iZ_sub, iZ_mul, iZ_neg, nz0, nzi, iZ_lt, iZ_le, iZ_inj, b2_z, b2_o, ite_bPz, ite_bPo, xb_bP, iZ_xin, if_pos, ite_self, ↓reduceIte, Int.reduceAdd, Int.reduceSub, Int.reduceMul, Int.reduceNeg, Int.reduceLT, Int.reduceLE, if_neg, d3, c1, y1]
  rw [top] at x2
  unfold rSt
  rcases x2 with ⟨f, y1, y2, y3⟩ | ⟨h', st', y1, y2, y3, y4, y5, y6⟩
  · rw [y1]
    exact ⟨M1, rcF_num x1, .inl ⟨f, rfl, y2, y3⟩⟩
  rw [y1]
  have y3' := y3
  obtain ⟨⟨k1', k2', k3', d1', d2', d3', d4'⟩, ⟨b1', b2'⟩, c'⟩ := y3'
  simp only at d1' d3' b1'
  have htk := tk_b True N T st'
  by_cases c0 : 20 ≤ tk True N T st' ∧ tk True N T st' ≤ 25
  · have c0' : (20 : Int) ≤ (tk True N T st' : Nat) ∧ ((tk True N T st' : Nat) : Int) ≤ 25 := by omega
    have eW : ((tk True N T st' : Nat) : Int) - 20 = ((tk True N T st' - 20 : Nat) : Int) := by omega
    have hw6 : tk True N T st' - 20 < 6 := by omega
    have s1 : xSm (fun r j => r = (167, 0) ∨ r = (168, 0) ∨ (r = (12, 0) ∧ j = 70)) M1 (xpI (xpI (xpI M1 (167, 0) s.2.1 (iZ h')) (168, 0) s.2.1 (iZ ((tk True N T st' - 20 : Nat) : Int))) (12, 0) 70 (iZ ((s.2.1 : Int) + 1))) := ((xSm.rf.pI (.inl rfl)).pI (.inr (.inl rfl))).pI (.inr (.inr ⟨rfl, rfl⟩))
    have hK1 := y3.1.sm s1 (fun j hj => by simp; omega) (fun j => by simp)
    obtain ⟨M2, z1, z2, z3⟩ := hK1.nx
    have hb2 := tk_b True N T (adv N T st')
    have e20 := z3.2.2.2.2.2.1
    have e21 := z3.2.2.2.1
    have sm2 : xSm rcF M M2 := ((rcF_num x1).tr (s1.wk fun r j z => by
      rcases z with z | z | z
      · exact .inr (.inl z)
      · exact .inr (.inr (.inl z))
      · exact .inl ⟨z.1, by omega⟩)).tr (rcF_nx z2)
    have bot : ∀ (v : Int) (M3 : xM), (v = 0 ∨ v = 1) → fX12_need [.inr (.inr (12, 0)), .inl (iZ ((59 : Int)))] M2 = some (some (.inl (iZ (v))), M3) → fX12_aStep [.inr (.inr (12, 0))] M = some (some (.inl (iZ (v))), M3) := fun v M3 hv hn => by
      rw [y2]
      rcases hv with e | e
      · subst e
        rw [xfix_unf, sX12_aStep_18]
        simp (disch := omega) only [xk_none, xk_inl, xk_inr, xk_ite, xri_v, xrl_v, xrv_v, xb_z0, xb_z1, xb_b2, if_true, if_false, ite_true, ite_false, iZ_lit, iZ_m1, iZ_m99, iZ_m8, iZ_add, iZ_sub, iZ_mul, iZ_neg, nz0, nzi, iZ_lt, iZ_le, iZ_inj, b2_z, b2_o, ite_bPz, ite_bPo, xb_bP, iZ_xin, if_pos, ite_self, ↓reduceIte, Int.reduceAdd, Int.reduceSub, Int.reduceMul, Int.reduceNeg, Int.reduceLT, Int.reduceLE, if_neg, d3', k_isIn, c0', and_self, b1', pA12, iZ_clampN, eW, z1, hn]
      · subst e
        rw [xfix_unf, sX12_aStep_18]
        simp (disch := omega) only [xk_none, xk_inl, xk_inr, xk_ite, xri_v, xrl_v, xrv_v, xb_z0, xb_z1, xb_b2, if_true, if_false, ite_true, ite_false, iZ_lit, iZ_m1, iZ_m99, iZ_m8, iZ_add, iZ_sub, iZ_mul, iZ_neg, nz0, nzi, iZ_lt, iZ_le, iZ_inj, b2_z, b2_o, ite_bPz, ite_bPo, xb_bP, iZ_xin, if_pos, ite_self, ↓reduceIte, Int.reduceAdd, Int.reduceSub, Int.reduceMul, Int.reduceNeg, Int.reduceLT, Int.reduceLE, if_neg, d3', k_isIn, c0', and_self, b1', pA12, iZ_clampN, eW, z1, hn]
    by_cases c5 : tk True N T (adv N T st') = 59
    · obtain ⟨M3, w1, w2, w3⟩ := z3.nx
      have hn : fX12_need [.inr (.inr (12, 0)), .inl (iZ ((59 : Int)))] M2 = some (some (.inl (iZ (1))), M3) := by
        rw [c5] at e20
        have e59 : ((59 : Nat) : Int) = 59 := rfl
        show xfix gX12_need (0, [some (.inr (.inr (12, 0))), some (.inl (iZ ((59 : Int))))], [], M2) = _; rw [xfix_unf, sX12_need_0]
        simp (disch := omega) only [xk_none, xk_inl, xk_inr, xk_ite, xri_v, xrl_v, xrv_v, xb_z0, xb_z1, xb_b2, if_true, if_false, ite_true, ite_false, iZ_lit, iZ_m1, iZ_m99, iZ_m8, iZ_add, iZ_sub, iZ_mul, iZ_neg, nz0, nzi, iZ_lt, iZ_le, iZ_inj, b2_z, b2_o, ite_bPz, ite_bPo, xb_bP, iZ_xin, if_pos, ite_self, ↓reduceIte, Int.reduceAdd, Int.reduceSub, Int.reduceMul, Int.reduceNeg, Int.reduceLT, Int.reduceLE, if_neg, e20, e59, w1]
      refine ⟨M3, sm2.tr (rcF_nx w2), .inr ⟨(adv N T (adv N T st'), s.2.1 + 1, (fun j => if j = s.2.1 then h' else s.2.2.1 j), fun j => if j = s.2.1 then tk True N T st' - 20 else s.2.2.2 j), ?_, bot 1 M3 (.inr rfl) hn, ⟨w3, ⟨?_, by show s.2.1 + 1 ≤ 16; omega⟩, fun j hj => ?_⟩, rfl⟩⟩
      · dsimp only
        rw [if_pos c0, if_pos c5]
      · rw [(w2 (12, 0) 70 (by decide)).1, (z2 (12, 0) 70 (by decide)).1, pF_eq]; rfl
      · have hj2 : j < s.2.1 + 1 := hj
        show (xI M3 (167, 0) j = iZ ((if j = s.2.1 then h' else s.2.2.1 j : Nat)) ∧ xI M3 (168, 0) j = iZ ((if j = s.2.1 then tk True N T st' - 20 else s.2.2.2 j : Nat))) ∧ 1 ≤ (if j = s.2.1 then h' else s.2.2.1 j) ∧ (if j = s.2.1 then h' else s.2.2.1 j) < 2 ^ aP A ∧ (if j = s.2.1 then tk True N T st' - 20 else s.2.2.2 j) < 6
        rw [(w2 (167, 0) j (by simp)).1, (w2 (168, 0) j (by simp)).1, (z2 (167, 0) j (by simp)).1, (z2 (168, 0) j (by simp)).1]
        simp only [xI_pI]
        by_cases e : j = s.2.1
        · subst e
          simp [y4, y5, hw6]
        · have := c' j (show j < s.2.1 by omega)
          simp [e]
          simpa using this
    · obtain ⟨M3, w1, w2, w3⟩ := m_badN (k := 1) e21
      have hn : fX12_need [.inr (.inr (12, 0)), .inl (iZ ((59 : Int)))] M2 = some (some (.inl (iZ (0))), M3) := by
        show xfix gX12_need (0, [some (.inr (.inr (12, 0))), some (.inl (iZ ((59 : Int))))], [], M2) = _; rw [xfix_unf, sX12_need_0]
        simp (disch := omega) only [xk_none, xk_inl, xk_inr, xk_ite, xri_v, xrl_v, xrv_v, xb_z0, xb_z1, xb_b2, if_true, if_false, ite_true, ite_false, iZ_lit, iZ_m1, iZ_m99, iZ_m8, iZ_add, iZ_sub, iZ_mul, iZ_neg, nz0, nzi, iZ_lt, iZ_le, iZ_inj, b2_z, b2_o, ite_bPz, ite_bPo, xb_bP, iZ_xin, if_pos, ite_self, ↓reduceIte, Int.reduceAdd, Int.reduceSub, Int.reduceMul, Int.reduceNeg, Int.reduceLT, Int.reduceLE, if_neg, e20, c5, w1]
      refine ⟨M3, sm2.tr (rcF_num w2), .inl ⟨(1, adv N T st'), ?_, bot 0 M3 (.inl rfl) hn, w3⟩⟩
      dsimp only
      rw [if_pos c0, if_neg c5]
  · have c0' : ¬ ((20 : Int) ≤ (tk True N T st' : Nat) ∧ ((tk True N T st' : Nat) : Int) ≤ 25) := by omega
    obtain ⟨M3, w1, w2, w3⟩ := m_badN (k := 1) d1'
    refine ⟨M3, (rcF_num x1).tr (rcF_num w2), .inl ⟨(1, st'), ?_, ?_, w3⟩⟩
    · dsimp only
      rw [if_neg c0]
    · rw [y2]
      rw [xfix_unf, sX12_aStep_18]
      simp (disch := omega) only [xk_none, xk_inl, xk_inr, xk_ite, xri_v, xrl_v, xrv_v, xb_z0, xb_z1, xb_b2, if_true, if_false, ite_true, ite_false, iZ_lit, iZ_m1, iZ_m99, iZ_m8, iZ_add, iZ_sub, iZ_mul, iZ_neg, nz0, nzi, iZ_lt, iZ_le, iZ_inj, b2_z, b2_o, ite_bPz, ite_bPo, xb_bP, iZ_xin, if_pos, ite_self, ↓reduceIte, Int.reduceAdd, Int.reduceSub, Int.reduceMul, Int.reduceNeg, Int.reduceLT, Int.reduceLE, if_neg, d3', k_isIn, c0', w1]
theorem rc_all {A : dA} {S : dS} {N : Nat} {T : Nat → Nat} : ∀ (n : Nat) (M : xM) (s : rS), 17 ≤ s.2.1 + n → rM M A N T s → mNm M A S → ∃ M', xSm rcF M M' ∧ ((∃ f, rAll A S N T n s = .inl f ∧ xfix gX12_record (26, [some (.inr (.inr (12, 0))), some (.inl (iZ ((1 : Int)))), none], [], M) = xfix gX12_record (45, [some (.inr (.inr (12, 0))), some (.inl (iZ ((0 : Int)))), none], [], M') ∧ rFl M' f) ∨ ∃ s', rAll A S N T n s = .inr s' ∧ xfix gX12_record (26, [some (.inr (.inr (12, 0))), some (.inl (iZ ((1 : Int)))), none], [], M) = xfix gX12_record (45, [some (.inr (.inr (12, 0))), some (.inl (iZ ((1 : Int)))), none], [], M') ∧ rM M' A N T s') := by
  intro n
  induction n with
  | zero =>
    intro M s hn hM hm
    have := hM.2.1.2
    omega
  | succ n ih =>
    intro M s hn hM hm
    have h20 := hM.1.2.2.2.2.2.1
    have hb := tk_b True N T s.1
    unfold rAll
    by_cases c0 : tk True N T s.1 = 0
    · rw [if_pos c0]
      refine ⟨M, xSm.rf, .inr ⟨s, rfl, ?_, hM⟩⟩
      rw [xfix_unf, sX12_record_26]
      simp (disch := omega) only [xk_none, xk_inl, xk_inr, xk_ite, xri_v, xrl_v, xrv_v, xb_z0, xb_z1, xb_b2, if_true, if_false, ite_true, ite_false, iZ_lit, iZ_m1, iZ_m99, iZ_m8, iZ_add, iZ_sub, iZ_mul, iZ_neg, nz0, nzi, iZ_lt, iZ_le, iZ_inj, b2_z, b2_o, ite_bPz, ite_bPo, xb_bP, iZ_xin, if_pos, ite_self, ↓reduceIte, Int.reduceAdd, Int.reduceSub, Int.reduceMul, Int.reduceNeg, Int.reduceLT, Int.reduceLE, if_neg, h20, c0]
    rw [if_neg c0]
    obtain ⟨M1, x1, x2⟩ := rc_step hM hm
    rcases x2 with ⟨f, y1, y2, y3⟩ | ⟨s', y1, y2, y3, y4⟩
    · rw [y1]
      refine ⟨M1, x1, .inl ⟨f, rfl, ?_, y3⟩⟩
      rw [xfix_unf, sX12_record_26]
      simp (disch := omega) only [xk_none, xk_inl, xk_inr, xk_ite, xri_v, xrl_v, xrv_v, xb_z0, xb_z1, xb_b2, if_true, if_false, ite_true, ite_false, iZ_lit, iZ_m1, iZ_m99, iZ_m8, iZ_add, iZ_sub, iZ_mul, iZ_neg, nz0, nzi, iZ_lt, iZ_le, iZ_inj, b2_z, b2_o, ite_bPz, ite_bPo, xb_bP, iZ_xin, if_pos, ite_self, ↓reduceIte, Int.reduceAdd, Int.reduceSub, Int.reduceMul, Int.reduceNeg, Int.reduceLT, Int.reduceLE, if_neg, h20, c0, y2]
      rw [xfix_unf, sX12_record_26]
      simp (disch := omega) only [xk_none, xk_inl, xk_inr, xk_ite, xri_v, xrl_v, xrv_v, xb_z0, xb_z1, xb_b2, if_true, if_false, ite_true, ite_false, iZ_lit, iZ_m1, iZ_m99, iZ_m8, iZ_add, iZ_sub, iZ_mul, iZ_neg, nz0, nzi, iZ_lt, iZ_le, iZ_inj, b2_z, b2_o, ite_bPz, ite_bPo, xb_bP, iZ_xin, if_pos, ite_self, ↓reduceIte, Int.reduceAdd, Int.reduceSub, Int.reduceMul, Int.reduceNeg, Int.reduceLT, Int.reduceLE, if_neg]
    · rw [y1]
      obtain ⟨M2, z1, z2⟩ := ih M1 s' (by omega) y3 (hm.rc x1)
      have top : xfix gX12_record (26, [some (.inr (.inr (12, 0))), some (.inl (iZ ((1 : Int)))), none], [], M) = xfix gX12_record (26, [some (.inr (.inr (12, 0))), some (.inl (iZ ((1 : Int)))), none], [], M1) := by
        rw [xfix_unf, sX12_record_26]
        simp (disch := omega) only [xk_none, xk_inl, xk_inr, xk_ite, xri_v, xrl_v, xrv_v, xb_z0, xb_z1, xb_b2, if_true, if_false, ite_true, ite_false, iZ_lit, iZ_m1, iZ_m99, iZ_m8, iZ_add, iZ_sub, iZ_mul, iZ_neg, nz0, nzi, iZ_lt, iZ_le, iZ_inj, b2_z, b2_o, ite_bPz, ite_bPo, xb_bP, iZ_xin, if_pos, ite_self, ↓reduceIte, Int.reduceAdd, Int.reduceSub, Int.reduceMul, Int.reduceNeg, Int.reduceLT, Int.reduceLE, if_neg, h20, c0, y2]
      rw [top]
      exact ⟨M2, x1.tr z1, z2⟩
