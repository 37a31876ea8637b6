/-! the reference: the next token -/
abbrev nxF (r : xR) (j : Nat) : Prop := r = (12, 0) ∧ (j = 19 ∨ j = 20 ∨ j = 21 ∨ j = 22)
theorem rT.sm {M M' : xM} {N : Nat} {T : Nat → Nat} {P : xR → Nat → Prop} (h : rT M N T) (hs : xSm P M M') (h1 : ¬ P (12, 0) 18) (h2 : ∀ k, ¬ P (110, 0) k) : rT M' N T := ⟨by rw [(hs _ _ h1).1]; exact h.1, h.2.1, fun k hk => ⟨by rw [(hs _ _ (h2 k)).1]; exact (h.2.2 k hk).1, (h.2.2 k hk).2⟩⟩
theorem rT.nx {M M' : xM} {N : Nat} {T : Nat → Nat} (h : rT M N T) (hs : xSm nxF M M') : rT M' N T := h.sm hs (by decide) (fun k => by simp)
def tokS (M : xM) (rc : Prop) (N : Nat) (T : Nat → Nat) (st : Nat) : Prop := xI M (12, 0) 21 = iZ st ∧ xI M (12, 0) 19 = iZ (tE N T st) ∧ xI M (12, 0) 20 = iZ (tk rc N T st) ∧ (tk rc N T st = 2 → xI M (12, 0) 22 = iZ (dv T st (tE N T st - st)))
theorem pF_eq {M : xM} {j : Nat} {v : Int32} : xI (xpI M (12, 0) j v) (12, 0) j = v := by rw [xI_pI, if_pos ⟨rfl, rfl⟩]
theorem pF_ne {M : xM} {j k : Nat} {v : Int32} (h : k ≠ j) : xI (xpI M (12, 0) j v) (12, 0) k = xI M (12, 0) k := by rw [xI_pI, if_neg (fun z => h z.2)]
theorem nx_word {M : xM} {N st : Nat} {T : Nat → Nat} {rc : Prop} (h : rT M N T) (hst : st < N) (hl : isL (T st)) (f1 : xI M (12, 0) 21 = iZ st) (f2 : xI M (12, 0) 19 = iZ st) (f3 : xI M (12, 0) 30 = bP rc) : ∃ M', xfix gX12_next0 (76, [some (.inr (.inr (12, 0))), none], [], M) = some (none, M') ∧ xSm nxF M M' ∧ tokS M' rc N T st := by
  have hN := h.2.1
  have eE : tE N T st = rn isL N T st := by unfold tE; rw [if_neg (by omega), if_pos hl]
  have eT : tk rc N T st = tW rc T st (rn isL N T st) := by unfold tk; rw [if_neg (by omega), if_pos hl, eE]
  have hr := rn_b (P := isL) (T := T) (by omega : st ≤ N)
  obtain ⟨M1, a1, a2, a3⟩ := xfor_M (sg := gX12_next0) (st := fun _ M => (76, [some (.inr (.inr (12, 0))), none], [], M)) (I := fun j K => xSm nxF M K ∧ xI K (12, 0) 21 = iZ st ∧ xI K (12, 0) 19 = iZ j ∧ st ≤ j) (n := rn isL N T st) (fun j K hj hK => by
    obtain ⟨k1, k2, k3, k4⟩ := hK
    obtain ⟨j1, j2⟩ := rn_in k4 hj
    have hT := h.nx k1
    have hb := (hT.2.2 j j1).2
    have hs := m_see hT (k := j) (by omega)
    rw [if_pos j1] at hs
    have hz : (97 : Int) ≤ T j ∧ (T j : Int) ≤ 122 := by omega
    refine ⟨xpI K (12, 0) 19 (iZ ((j : Int) + 1)), ?_, k1.pI ⟨rfl, .inl rfl⟩, by rw [pF_ne (by decide)]; exact k2, by rw [pF_eq]; rfl, by omega⟩
    rw [xfix_unf, sX12_next0_76]
    simp (disch := omega) only [xk_none, xk_inl, xk_inr, xk_ite, xri_v, xrl_v, xrv_v, xb_z0, xb_z1, xb_b2, if_true, if_false, ite_true, ite_false, iZ_lit, iZ_m1, iZ_m99, iZ_m8, iZ_add, iZ_sub, iZ_mul, iZ_neg, nz0, nzi, iZ_lt, iZ_le, iZ_inj, b2_z, b2_o, ite_bPz, ite_bPo, xb_bP, iZ_xin, if_pos, ite_self, ↓reduceIte, Int.reduceAdd, Int.reduceSub, Int.reduceMul, Int.reduceNeg, Int.reduceLT, Int.reduceLE, if_neg, nS, iZ_clampN, iZ_bit, iZ_one, iZ_and, iZ_or, iZ_ndn, k3, hs, m_isLetter, if_pos hz]) (a := st) (M := M) hr.1 ⟨xSm.rf, f1, f2, Nat.le_refl _⟩
  obtain ⟨b1, b2, b3⟩ := a3
  have hT := h.nx a2
  have hw := m_word (rc := rc) hT hr.1 hr.2 b1 b2 (by rw [(a2 (12, 0) 30 (by decide)).1]; exact f3)
  have hs := m_see hT (k := rn isL N T st) (by omega)
  have hno : ¬ ((97 : Int) ≤ (if rn isL N T st < N then (T (rn isL N T st) : Int) else -1) ∧ (if rn isL N T st < N then (T (rn isL N T st) : Int) else -1) ≤ 122) := by
    by_cases c : rn isL N T st < N
    · rw [if_pos c]
      have := rn_end (P := isL) (T := T) (by omega : st ≤ N) c
      omega
    · rw [if_neg c]; omega
  have hb : -1 ≤ (if rn isL N T st < N then (T (rn isL N T st) : Int) else -1) ∧ (if rn isL N T st < N then (T (rn isL N T st) : Int) else -1) < 256 := by
    split
    · rename_i c; have := (hT.2.2 _ c).2; omega
    · omega
  have hl := m_isLetter (M := M1) hb
  generalize (if rn isL N T st < N then (T (rn isL N T st) : Int) else -1) = v at *
  refine ⟨xpI M1 (12, 0) 20 (iZ (tW rc T st (rn isL N T st))), a1.trans ?_, a2.pI ⟨rfl, .inr (.inl rfl)⟩, by rw [pF_ne (by decide)]; exact b1, by rw [pF_ne (by decide), eE]; exact b2, by rw [pF_eq, eT], fun z => ?_⟩
  · rw [xfix_unf, sX12_next0_76]
    simp (disch := omega) only [xk_none, xk_inl, xk_inr, xk_ite, xri_v, xrl_v, xrv_v, xb_z0, xb_z1, xb_b2, if_true, if_false, ite_true, ite_false, iZ_lit, iZ_m1, iZ_m99, iZ_m8, iZ_add, iZ_sub, iZ_mul, iZ_neg, nz0, nzi, iZ_lt, iZ_le, iZ_inj, b2_z, b2_o, ite_bPz, ite_bPo, xb_bP, iZ_xin, if_pos, ite_self, ↓reduceIte, Int.reduceAdd, Int.reduceSub, Int.reduceMul, Int.reduceNeg, Int.reduceLT, Int.reduceLE, if_neg, nS, iZ_clampN, iZ_bit, iZ_one, iZ_and, iZ_or, iZ_ndn, b2, hs, hl, if_neg hno, hw]
  · rw [eT] at z
    exfalso
    unfold tW cit at z
    (repeat' split at z) <;> omega
theorem nx_num {M : xM} {N st : Nat} {T : Nat → Nat} {rc : Prop} (h : rT M N T) (hst : st < N) (hnl : ¬ isL (T st)) (hl : isD (T st)) (f1 : xI M (12, 0) 21 = iZ st) (f2 : xI M (12, 0) 19 = iZ st) (f3 : xI M (12, 0) 22 = iZ 0) : ∃ M', xfix gX12_next0 (126, [some (.inr (.inr (12, 0))), none], [], M) = some (none, M') ∧ xSm nxF M M' ∧ tokS M' rc N T st := by
  have hN := h.2.1
  have eE : tE N T st = rn isD N T st := by unfold tE; rw [if_neg (by omega), if_neg hnl, if_pos hl]
  have eT : tk rc N T st = if rn isD N T st - st < 4 then 2 else 1 := by unfold tk; rw [if_neg (by omega), if_neg hnl, if_pos hl, eE]
  have hr := rn_b (P := isD) (T := T) (by omega : st ≤ N)
  obtain ⟨M1, a1, a2, a3⟩ := xfor_M (sg := gX12_next0) (st := fun _ M => (126, [some (.inr (.inr (12, 0))), none], [], M)) (I := fun j K => xSm nxF M K ∧ xI K (12, 0) 21 = iZ st ∧ xI K (12, 0) 19 = iZ j ∧ st ≤ j ∧ xI K (12, 0) 22 = iZ (dv T st (if j - st < 3 then j - st else 3))) (n := rn isD N T st) (fun j K hj hK => by
    obtain ⟨k1, k2, k3, k4, k5⟩ := hK
    obtain ⟨j1, j2⟩ := rn_in k4 hj
    have hT := h.nx k1
    have hb := (hT.2.2 j j1).2
    have hs := m_see hT (k := j) (by omega)
    rw [if_pos j1] at hs
    have hz : (48 : Int) ≤ T j ∧ (T j : Int) ≤ 57 := by omega
    by_cases c : j < st + 3
    · have e1 : (if j - st < 3 then j - st else 3) = j - st := if_pos (by omega)
      have e2 : (if j + 1 - st < 3 then j + 1 - st else 3) = (j - st) + 1 := by split <;> omega
      rw [e1] at k5
      have ev : 10 * dv T st (j - st) + (T j : Int) - 48 = dv T st ((j - st) + 1) := by
        show _ = 10 * dv T st (j - st) + (T (st + (j - st)) : Int) - 48
        rw [show st + (j - st) = j by omega]
      refine ⟨xpI (xpI K (12, 0) 22 (iZ (dv T st ((j - st) + 1)))) (12, 0) 19 (iZ ((j : Int) + 1)), ?_, (k1.pI ⟨rfl, .inr (.inr (.inr rfl))⟩).pI ⟨rfl, .inl rfl⟩, by rw [pF_ne (by decide), pF_ne (by decide)]; exact k2, by rw [pF_eq]; rfl, by omega, by rw [pF_ne (by decide), pF_eq, e2]⟩
      have f19 : xI (xpI K (12, 0) 22 (iZ (dv T st ((j - st) + 1)))) (12, 0) 19 = iZ j := by rw [pF_ne (by decide)]; exact k3
      rw [xfix_unf, sX12_next0_126]
      simp (disch := omega) only [xk_none, xk_inl, xk_inr, xk_ite, xri_v, xrl_v, xrv_v, xb_z0, xb_z1, xb_b2, if_true, if_false, ite_true, ite_false, iZ_lit, iZ_m1, iZ_m99, iZ_m8, iZ_add, iZ_sub, iZ_mul, iZ_neg, nz0, nzi, iZ_lt, iZ_le, iZ_inj, b2_z, b2_o, ite_bPz, ite_bPo, xb_bP, iZ_xin, if_pos, ite_self, ↓reduceIte, Int.reduceAdd, Int.reduceSub, Int.reduceMul, Int.reduceNeg, Int.reduceLT, Int.reduceLE, if_neg, nS, iZ_clampN, iZ_bit, iZ_one, iZ_and, iZ_or, iZ_ndn, k2, k3, hs, m_isDigit, if_pos hz, k5, ev, f19]
    · have e1 : (if j - st < 3 then j - st else 3) = 3 := if_neg (by omega)
      have e2 : (if j + 1 - st < 3 then j + 1 - st else 3) = 3 := if_neg (by omega)
      rw [e1] at k5
      refine ⟨xpI K (12, 0) 19 (iZ ((j : Int) + 1)), ?_, k1.pI ⟨rfl, .inl rfl⟩, by rw [pF_ne (by decide)]; exact k2, by rw [pF_eq]; rfl, by omega, by rw [pF_ne (by decide), e2]; exact k5⟩
      rw [xfix_unf, sX12_next0_126]
      simp (disch := omega) only [xk_none, xk_inl, xk_inr, xk_ite, xri_v, xrl_v, xrv_v, xb_z0, xb_z1, xb_b2, if_true, if_false, ite_true, ite_false, iZ_lit, iZ_m1, iZ_m99, iZ_m8, iZ_add, iZ_sub, iZ_mul, iZ_neg, nz0, nzi, iZ_lt, iZ_le, iZ_inj, b2_z, b2_o, ite_bPz, ite_bPo, xb_bP, iZ_xin, if_pos, ite_self, ↓reduceIte, Int.reduceAdd, Int.reduceSub, Int.reduceMul, Int.reduceNeg, Int.reduceLT, Int.reduceLE, if_neg, nS, iZ_clampN, iZ_bit, iZ_one, iZ_and, iZ_or, iZ_ndn, k2, k3, hs, m_isDigit, if_pos hz]) (a := st) (M := M) hr.1 ⟨xSm.rf, f1, f2, Nat.le_refl _, by rw [if_pos (by omega), Nat.sub_self]; exact f3⟩
  obtain ⟨b1, b2, b3, b4⟩ := a3
  have hT := h.nx a2
  have hs := m_see hT (k := rn isD N T st) (by omega)
  have hno : ¬ ((48 : Int) ≤ (if rn isD N T st < N then (T (rn isD N T st) : Int) else -1) ∧ (if rn isD N T st < N then (T (rn isD N T st) : Int) else -1) ≤ 57) := by
    by_cases c : rn isD N T st < N
    · rw [if_pos c]
      have := rn_end (P := isD) (T := T) (by omega : st ≤ N) c
      omega
    · rw [if_neg c]; omega
  have hb : -1 ≤ (if rn isD N T st < N then (T (rn isD N T st) : Int) else -1) ∧ (if rn isD N T st < N then (T (rn isD N T st) : Int) else -1) < 256 := by
    split
    · rename_i c; have := (hT.2.2 _ c).2; omega
    · omega
  have hl := m_isDigit (M := M1) hb
  generalize (if rn isD N T st < N then (T (rn isD N T st) : Int) else -1) = v at *
  refine ⟨xpI M1 (12, 0) 20 (iZ (if rn isD N T st - st < 4 then 2 else 1 : Nat)), a1.trans ?_, a2.pI ⟨rfl, .inr (.inl rfl)⟩, by rw [pF_ne (by decide)]; exact b1, by rw [pF_ne (by decide), eE]; exact b2, by rw [pF_eq, eT], fun z => ?_⟩
  · rw [xfix_unf, sX12_next0_126]
    simp (disch := omega) only [xk_none, xk_inl, xk_inr, xk_ite, xri_v, xrl_v, xrv_v, xb_z0, xb_z1, xb_b2, if_true, if_false, ite_true, ite_false, iZ_lit, iZ_m1, iZ_m99, iZ_m8, iZ_add, iZ_sub, iZ_mul, iZ_neg, nz0, nzi, iZ_lt, iZ_le, iZ_inj, b2_z, b2_o, ite_bPz, ite_bPo, xb_bP, iZ_xin, if_pos, ite_self, ↓reduceIte, Int.reduceAdd, Int.reduceSub, Int.reduceMul, Int.reduceNeg, Int.reduceLT, Int.reduceLE, if_neg, nS, iZ_clampN, iZ_bit, iZ_one, iZ_and, iZ_or, iZ_ndn, b1, b2, hs, hl, if_neg hno]
    by_cases c : rn isD N T st - st < 4
    · rw [if_pos c, if_neg (by omega)]; rfl
    · rw [if_neg c, if_pos (by omega)]; rfl
  · rw [eT] at z
    have c : rn isD N T st - st < 4 := by
      refine Classical.byContradiction fun y => ?_
      rw [if_neg y] at z
      omega
    rw [pF_ne (by decide), b4, eE]
    congr 2
    split <;> omega
theorem m_next0 {M : xM} {N i : Nat} {T : Nat → Nat} {rc : Prop} (h : rT M N T) (f0 : xI M (12, 0) 19 = iZ i) (hi : i ≤ N) (f3 : xI M (12, 0) 30 = bP rc) : ∃ M', fX12_next0 [.inr (.inr (12, 0))] M = some (none, M') ∧ xSm nxF M M' ∧ tokS M' rc N T (sk N T i) := by
  have hN := h.2.1
  have hr := rn_b (P := isB) (T := T) hi
  obtain ⟨M1, a1, a2, a3, a4⟩ := xfor_M (sg := gX12_next0) (st := fun _ M => (0, [some (.inr (.inr (12, 0))), none], [], M)) (I := fun j K => xSm nxF M K ∧ xI K (12, 0) 19 = iZ j ∧ i ≤ j) (n := rn isB N T i) (fun j K hj hK => by
    obtain ⟨k1, k2, k3⟩ := hK
    obtain ⟨j1, j2⟩ := rn_in k3 hj
    have hT := h.nx k1
    have hs := m_see hT (k := j) (by omega)
    rw [if_pos j1] at hs
    refine ⟨xpI K (12, 0) 19 (iZ ((j : Int) + 1)), ?_, k1.pI ⟨rfl, .inl rfl⟩, by rw [pF_eq]; rfl, by omega⟩
    rw [xfix_unf, sX12_next0_0, k2, hs, xri_v]
    rcases j2 with j2 | j2
    · rw [j2, if_pos (show iZ ((32 : Nat) : Int) = 32 from rfl), k2]
      simp (disch := omega) only [xk_none, xk_inl, xk_inr, xk_ite, xri_v, xrl_v, xrv_v, xb_z0, xb_z1, xb_b2, if_true, if_false, ite_true, ite_false, iZ_lit, iZ_m1, iZ_m99, iZ_m8, iZ_add, iZ_sub, iZ_mul, iZ_neg, nz0, nzi, iZ_lt, iZ_le, iZ_inj, b2_z, b2_o, ite_bPz, ite_bPo, xb_bP, iZ_xin, if_pos, ite_self, ↓reduceIte, Int.reduceAdd, Int.reduceSub, Int.reduceMul, Int.reduceNeg, Int.reduceLT, Int.reduceLE, if_neg, nS, iZ_clampN, iZ_bit, iZ_one, iZ_and, iZ_or, iZ_ndn]
    · rw [j2, if_neg (show ¬ iZ ((10 : Nat) : Int) = 32 by decide +kernel), k2, hs, xri_v, j2, if_pos (show iZ ((10 : Nat) : Int) = 10 from rfl), k2]
      simp (disch := omega) only [xk_none, xk_inl, xk_inr, xk_ite, xri_v, xrl_v, xrv_v, xb_z0, xb_z1, xb_b2, if_true, if_false, ite_true, ite_false, iZ_lit, iZ_m1, iZ_m99, iZ_m8, iZ_add, iZ_sub, iZ_mul, iZ_neg, nz0, nzi, iZ_lt, iZ_le, iZ_inj, b2_z, b2_o, ite_bPz, ite_bPo, xb_bP, iZ_xin, if_pos, ite_self, ↓reduceIte, Int.reduceAdd, Int.reduceSub, Int.reduceMul, Int.reduceNeg, Int.reduceLT, Int.reduceLE, if_neg, nS, iZ_clampN, iZ_bit, iZ_one, iZ_and, iZ_or, iZ_ndn]) (a := i) (M := M) hr.1 ⟨xSm.rf, f0, Nat.le_refl _⟩
  have hst : sk N T i = rn isB N T i := rfl
  rw [hst]
  generalize hsr : rn isB N T i = st at *
  have hT := h.nx a2
  have hs := m_see hT (k := st) (by omega)
  have top : fX12_next0 [.inr (.inr (12, 0))] M = xfix gX12_next0 (0, [some (.inr (.inr (12, 0))), none], [], M1) := a1
  have n1 : xSm nxF M (xpI M1 (12, 0) 21 (iZ st)) := a2.pI ⟨rfl, .inr (.inr (.inl rfl))⟩
  have hT1 := h.nx n1
  have hs1 := m_see hT1 (k := st) (by omega)
  have g19 : xI (xpI M1 (12, 0) 21 (iZ st)) (12, 0) 19 = iZ st := by rw [pF_ne (by decide)]; exact a3
  have g21 : xI (xpI M1 (12, 0) 21 (iZ st)) (12, 0) 21 = iZ st := pF_eq
  have g30 : xI (xpI M1 (12, 0) 21 (iZ st)) (12, 0) 30 = bP rc := by rw [(n1 (12, 0) 30 (by decide)).1]; exact f3
  by_cases c : st < N
  · rw [if_pos c] at hs hs1
    have hnb : ¬ isB (T st) := by
      have := rn_end (P := isB) (T := T) hi (by rw [hsr]; exact c)
      rw [hsr] at this; exact this
    have hb := (hT.2.2 st c).2
    have b1 : ¬ iZ (T st : Int) = (32 : Int32) := by
      rw [show (32 : Int32) = iZ 32 from rfl, iZ_inj (by omega) (by omega)]; omega
    have b2 : ¬ iZ (T st : Int) = (10 : Int32) := by
      rw [show (10 : Int32) = iZ 10 from rfl, iZ_inj (by omega) (by omega)]; omega
    have b3 : ¬ iZ (T st : Int) = (-1 : Int32) := by
      rw [iZ_m1, iZ_inj (by omega) (by omega)]; omega
    have pre : xfix gX12_next0 (0, [some (.inr (.inr (12, 0))), none], [], M1) = xk gX12_next0 (xri (fX12_isLetter [.inl (iZ ((T st)))] (xpI M1 (12, 0) 21 (iZ st))) (fun c4 M4 => (if c4 = 0 then xri (fX12_isDigit [.inl (iZ ((T st)))] M4) (fun c5 M5 => (if c5 = 0 then (if iZ (T st : Int) = 59 then some (.inl (none, xpI (xpI M5 (12, 0) 19 ((xI M5 (12, 0) 19) + 1)) (12, 0) 20 (iZ (T st : Int)))) else some (.inl (none, xpI (xpI M5 (12, 0) 19 ((xI M5 (12, 0) 19) + 1)) (12, 0) 20 1))) else some (.inr (126, [some (.inr (.inr (12, 0))), none], [], xpI M5 (12, 0) 22 0)))) else some (.inr (76, [some (.inr (.inr (12, 0))), none], [], M4))))) := by
      rw [xfix_unf, sX12_next0_0, a3, hs, xri_v, if_neg b1, a3, hs, xri_v, if_neg b2, a3, g19, hs1, xri_v, if_neg b3]
    rw [top, pre, m_isLetter (by omega), xri_v]
    by_cases c1 : isL (T st)
    · have c1' : (97 : Int) ≤ T st ∧ (T st : Int) ≤ 122 := by omega
      obtain ⟨M2, x1, x2, x3⟩ := nx_word hT1 c c1 g21 g19 g30
      refine ⟨M2, ?_, n1.tr x2, x3⟩
      rw [bP_t c1', if_neg (show ¬ iZ 1 = 0 by decide +kernel)]
      exact x1
    · have c1' : ¬ ((97 : Int) ≤ T st ∧ (T st : Int) ≤ 122) := by omega
      rw [bP_f c1', if_pos (show iZ 0 = 0 from rfl), m_isDigit (by omega), xri_v]
      by_cases c2 : isD (T st)
      · have c2' : (48 : Int) ≤ T st ∧ (T st : Int) ≤ 57 := by omega
        have n2 : xSm nxF M (xpI (xpI M1 (12, 0) 21 (iZ st)) (12, 0) 22 (iZ 0)) := n1.pI ⟨rfl, .inr (.inr (.inr rfl))⟩
        obtain ⟨M2, x1, x2, x3⟩ := nx_num (rc := rc) (h.nx n2) c c1 c2 (by rw [pF_ne (by decide)]; exact g21) (by rw [pF_ne (by decide)]; exact g19) pF_eq
        refine ⟨M2, ?_, n2.tr x2, x3⟩
        rw [bP_t c2', if_neg (show ¬ iZ 1 = 0 by decide +kernel)]
        exact x1
      · have c2' : ¬ ((48 : Int) ≤ T st ∧ (T st : Int) ≤ 57) := by omega
        rw [bP_f c2', if_pos (show iZ 0 = 0 from rfl)]
        have eE : tE N T st = st + 1 := by unfold tE; rw [if_neg (by omega), if_neg c1, if_neg c2]
        have eT : tk rc N T st = if T st = 59 then 59 else 1 := by unfold tk; rw [if_neg (by omega), if_neg c1, if_neg c2]
        refine ⟨xpI (xpI (xpI M1 (12, 0) 21 (iZ st)) (12, 0) 19 (iZ ((st : Int) + 1))) (12, 0) 20 (iZ (if T st = 59 then 59 else 1 : Nat)), ?_, (n1.pI ⟨rfl, .inl rfl⟩).pI ⟨rfl, .inr (.inl rfl)⟩, by rw [pF_ne (by decide), pF_ne (by decide)]; exact g21, by rw [pF_ne (by decide), pF_eq, eE]; rfl, by rw [pF_eq, eT], fun z => ?_⟩
        · simp (disch := omega) only [xk_none, xk_inl, xk_inr, xk_ite, xri_v, xrl_v, xrv_v, xb_z0, xb_z1, xb_b2, if_true, if_false, ite_true, ite_false, iZ_lit, iZ_m1, iZ_m99, iZ_m8, iZ_add, iZ_sub, iZ_mul, iZ_neg, nz0, nzi, iZ_lt, iZ_le, iZ_inj, b2_z, b2_o, ite_bPz, ite_bPo, xb_bP, iZ_xin, if_pos, ite_self, ↓reduceIte, Int.reduceAdd, Int.reduceSub, Int.reduceMul, Int.reduceNeg, Int.reduceLT, Int.reduceLE, if_neg, nS, iZ_clampN, iZ_bit, iZ_one, iZ_and, iZ_or, iZ_ndn, g19]
          by_cases c3 : T st = 59
          · rw [if_pos (by omega), if_pos c3, c3]
          · rw [if_neg (by omega), if_neg c3]; rfl
        · rw [eT] at z
          split at z <;> omega
  · rw [if_neg c] at hs hs1
    have eE : tE N T st = st := by unfold tE; rw [if_pos (by omega)]
    have eT : tk rc N T st = 0 := by unfold tk; rw [if_pos (by omega)]
    refine ⟨xpI (xpI M1 (12, 0) 21 (iZ st)) (12, 0) 20 (iZ 0), ?_, n1.pI ⟨rfl, .inr (.inl rfl)⟩, by rw [pF_ne (by decide)]; exact g21, by rw [pF_ne (by decide), eE]; exact g19, by rw [pF_eq, eT]; rfl, fun z => by rw [eT] at z; omega⟩
    rw [top, xfix_unf, sX12_next0_0, a3, hs, xri_v, if_neg (show ¬ iZ (-1) = 32 by decide +kernel), a3, hs, xri_v, if_neg (show ¬ iZ (-1) = 10 by decide +kernel), a3, g19, hs1, xri_v, if_pos (show iZ (-1) = -1 from iZ_m1.symm)]
    rfl
