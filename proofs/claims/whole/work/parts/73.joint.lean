/-! the reference: reading a joint -/
theorem pA12 {M : xM} {k i j : Nat} {v : Int32} (h : k ≠ 12) : xI (xpI M (k, 0) i v) (12, 0) j = xI M (12, 0) j := by rw [xI_pI, if_neg (fun z => h (congrArg Prod.fst z.1).symm)]
theorem pA117 {M : xM} {k i j : Nat} {v : Int32} (h : k ≠ 117) : xI (xpI M (k, 0) i v) (117, 0) j = xI M (117, 0) j := by rw [xI_pI, if_neg (fun z => h (congrArg Prod.fst z.1).symm)]
theorem rd_joint {N : Nat} {T : Nat → Nat} {v1 v2 : Nat} : ∀ (n k : Nat) (b : Nat → Int) (st : Nat) (M : xM), k + n = 3 → rK M False N T st → (∀ j, j < k → xI M (117, 0) j = iZ (b j)) → (∀ j, j < k → 0 ≤ b j ∧ b j ≤ 7) → ∃ M', xSm numF M M' ∧ ((∃ f, rdB N T 0 n k b st = .inl f ∧ xfix gX12_aJoint (94, [some (.inr (.inr (12, 0))), some (.inl (iZ (v1))), some (.inl (iZ (v2))), some (.inl (iZ (k)))], [], M) = some (some (.inl (iZ (0))), M') ∧ rFl M' f) ∨ ∃ b' st', rdB N T 0 n k b st = .inr (b', st') ∧ xfix gX12_aJoint (94, [some (.inr (.inr (12, 0))), some (.inl (iZ (v1))), some (.inl (iZ (v2))), some (.inl (iZ (k)))], [], M) = xfix gX12_aJoint (94, [some (.inr (.inr (12, 0))), some (.inl (iZ (v1))), some (.inl (iZ (v2))), some (.inl (iZ ((3 : Int))))], [], M') ∧ rK M' False N T st' ∧ (∀ j, j < 3 → xI M' (117, 0) j = iZ (b' j)) ∧ ∀ j, j < 3 → 0 ≤ b' j ∧ b' j ≤ 7) := by
  intro n
  induction n with
  | zero =>
    intro k b st M hk hK hb hB
    have e : k = 3 := by omega
    subst e
    exact ⟨M, xSm.rf, .inr ⟨b, st, rfl, rfl, hK, hb, hB⟩⟩
  | succ n ih =>
    intro k b st M hk hK hb hB
    have hlo : bLo k = 0 := by unfold bLo; rw [if_pos (by omega)]
    obtain ⟨M1, x0, x1, x2⟩ := m_number (k := k) (lo := 0) (hi := 7) hK (by omega) (by omega) (by omega)
    have xs : xSm numF M M1 := x1.wk fun r j z => z.imp id fun z => z.imp id fun z => z.1
    unfold rdB
    rw [if_neg (by omega), hlo]
    rcases x2 with ⟨f, y1, y2, y3⟩ | ⟨v, st', y1, y2, y3, y4, y5⟩
    · refine ⟨M1, xs, .inl ⟨f, by rw [y1], ?_, y3⟩⟩
      rw [xfix_unf, sX12_aJoint_94]
      simp (disch := omega) only [xk_none, xk_inl, xk_inr, xk_ite, xri_v, xrl_v, xrv_v, xb_z0, xb_z1, xb_b2, if_true, if_false, ite_true, ite_false, iZ_lit, iZ_m1, iZ_m99, iZ_m8, iZ_add, iZ_sub, iZ_mul, iZ_neg, nz0, nzi, iZ_lt, iZ_le, iZ_inj, b2_z, b2_o, ite_bPz, ite_bPo, xb_bP, iZ_xin, if_pos, ite_self, ↓reduceIte, Int.reduceAdd, Int.reduceSub, Int.reduceMul, Int.reduceNeg, Int.reduceLT, Int.reduceLE, if_neg, y2]
    · have hb2 : ∀ j, j < k + 1 → xI M1 (117, 0) j = iZ (if j = k then v else b j) := fun j hj => by
        by_cases e : j = k
        · rw [if_pos e, e]; exact y4
        · rw [if_neg e, (x1 (117, 0) j (by simp [e])).1]; exact hb j (by omega)
      have hB2 : ∀ j, j < k + 1 → 0 ≤ (if j = k then v else b j) ∧ (if j = k then v else b j) ≤ 7 := fun j hj => by
        by_cases e : j = k
        · rw [if_pos e]; exact y5
        · rw [if_neg e]; exact hB j (by omega)
      obtain ⟨M2, z0, z1⟩ := ih (k + 1) (fun j => if j = k then v else b j) st' M1 (by omega) y3 hb2 hB2
      rw [y1]
      have top : xfix gX12_aJoint (94, [some (.inr (.inr (12, 0))), some (.inl (iZ (v1))), some (.inl (iZ (v2))), some (.inl (iZ (k)))], [], M) = xfix gX12_aJoint (94, [some (.inr (.inr (12, 0))), some (.inl (iZ (v1))), some (.inl (iZ (v2))), some (.inl (iZ (((k + 1 : Nat)))))], [], M1) := by
        rw [nS]
        rw [xfix_unf, sX12_aJoint_94]
        simp (disch := omega) only [xk_none, xk_inl, xk_inr, xk_ite, xri_v, xrl_v, xrv_v, xb_z0, xb_z1, xb_b2, if_true, if_false, ite_true, ite_false, iZ_lit, iZ_m1, iZ_m99, iZ_m8, iZ_add, iZ_sub, iZ_mul, iZ_neg, nz0, nzi, iZ_lt, iZ_le, iZ_inj, b2_z, b2_o, ite_bPz, ite_bPo, xb_bP, iZ_xin, if_pos, ite_self, ↓reduceIte, Int.reduceAdd, Int.reduceSub, Int.reduceMul, Int.reduceNeg, Int.reduceLT, Int.reduceLE, if_neg, y2]
      rcases z1 with ⟨f, w1, w2, w3⟩ | ⟨b', st2, w1, w2, w3⟩
      · exact ⟨M2, xs.tr z0, .inl ⟨f, w1, top.trans w2, w3⟩⟩
      · exact ⟨M2, xs.tr z0, .inr ⟨b', st2, w1, top.trans w2, w3⟩⟩
theorem jt_end {M : xM} {N st : Nat} {T : Nat → Nat} {s : pS} {b : Nat → Int} {v1 v2 : Nat} (h : pM M N T (st, s.2)) (hb : ∀ j, j < 3 → xI M (117, 0) j = iZ (b j)) (hB : ∀ j, j < 3 → 0 ≤ b j ∧ b j ≤ 7) (hJ : pJ s < 8) (h1 : v1 < 9) (h2 : v2 < 9) : rRes rdF (fun s' => s'.2 = (s.2.1, (pJ s + 1, (fun j => if j = pJ s then v1 else pOne s j), (fun j => if j = pJ s then v2 else pTwo s j), (fun j => if j = pJ s then (64 * b 2 + 8 * b 1 + b 0).toNat else pAt s j), fun j => if j = pJ s then tk False N T st - 20 else pWy s j), s.2.2.2) ∧ 20 ≤ tk False N T st ∧ tk False N T st ≤ 25) M N T (xfix gX12_aJoint (94, [some (.inr (.inr (12, 0))), some (.inl (iZ (v1))), some (.inl (iZ (v2))), some (.inl (iZ ((3 : Int))))], [], M)) (if 20 ≤ tk False N T st ∧ tk False N T st ≤ 25 then pNeed False N T (adv N T st, s.2.1, (pJ s + 1, (fun j => if j = pJ s then v1 else pOne s j), (fun j => if j = pJ s then v2 else pTwo s j), (fun j => if j = pJ s then (64 * b 2 + 8 * b 1 + b 0).toNat else pAt s j), fun j => if j = pJ s then tk False N T st - 20 else pWy s j), s.2.2.2) 59 else .inl (1, st)) := by
  have h' := h
  obtain ⟨⟨k1, k2, k3, d1, d2, d3, d4⟩, ⟨b1, b2, b3⟩, hc, hd, he⟩ := h'
  have b2' : xI M (12, 0) 27 = iZ (pJ s) := b2
  have d1' : xI M (12, 0) 21 = iZ st := d1
  have d3' : xI M (12, 0) 20 = iZ (tk False N T st) := d3
  have htk := tk_b False N T st
  by_cases c : 20 ≤ tk False N T st ∧ tk False N T st ≤ 25
  · rw [if_pos c]
    have c' : (20 : Int) ≤ (tk False N T st : Nat) ∧ ((tk False N T st : Nat) : Int) ≤ 25 := by omega
    have g0 := hb 0 (by omega)
    have g1 := hb 1 (by omega)
    have g2 := hb 2 (by omega)
    have i0 := hB 0 (by omega)
    have i1 := hB 1 (by omega)
    have i2 := hB 2 (by omega)
    have eA : 64 * b 2 + 8 * b 1 + b 0 = ((64 * b 2 + 8 * b 1 + b 0).toNat : Nat) := by omega
    have eW : ((tk False N T st : Nat) : Int) - 20 = ((tk False N T st - 20 : Nat) : Int) := by omega
    generalize hat : (64 * b 2 + 8 * b 1 + b 0).toNat = a at *
    generalize hwy : tk False N T st - 20 = w at *
    have s1 : xSm (fun r j => r = (113, 0) ∨ r = (114, 0) ∨ r = (115, 0) ∨ r = (116, 0) ∨ (r = (12, 0) ∧ j = 27)) M (xpI (xpI (xpI (xpI (xpI M (113, 0) (pJ s) (iZ v1)) (114, 0) (pJ s) (iZ v2)) (115, 0) (pJ s) (iZ a)) (116, 0) (pJ s) (iZ w)) (12, 0) 27 (iZ ((pJ s : Int) + 1))) := ((((xSm.rf.pI (.inl rfl)).pI (.inr (.inl rfl))).pI (.inr (.inr (.inl rfl)))).pI (.inr (.inr (.inr (.inl rfl))))).pI (.inr (.inr (.inr (.inr ⟨rfl, rfl⟩))))
    have hK1 := h.1.sm s1 (fun j hj => by simp; omega) (fun j => by simp)
    obtain ⟨M2, x1, x2, x3⟩ := hK1.nx
    have hf : ∀ r j, ¬ (nxF r j ∨ r = (113, 0) ∨ r = (114, 0) ∨ r = (115, 0) ∨ r = (116, 0) ∨ (r = (12, 0) ∧ j = 27)) → xI M2 r j = xI M r j := fun r j hn => by
      rw [(x2 r j (fun z => hn (.inl z))).1, (s1 r j (fun z => hn (.inr z))).1]
    have hM2 : pM M2 N T (adv N T st, s.2.1, (pJ s + 1, (fun j => if j = pJ s then v1 else pOne s j), (fun j => if j = pJ s then v2 else pTwo s j), (fun j => if j = pJ s then a else pAt s j), fun j => if j = pJ s then w else pWy s j), s.2.2.2) := by
      refine ⟨x3, ⟨?_, ?_, ?_⟩, fun q hq => ⟨?_, ?_⟩, fun j hj => ?_, fun c hc => ?_⟩
      · rw [hf (12, 0) 26 (by decide)]; exact b1
      · rw [(x2 (12, 0) 27 (by decide)).1, pF_eq]; rfl
      · rw [hf (12, 0) 28 (by decide)]; exact b3
      · rw [hf (111, 0) q (by simp)]; exact (hc q hq).1
      · rw [hf (112, 0) q (by simp)]; exact (hc q hq).2
      · have hj2 : j < pJ s + 1 := hj
        show xI M2 (113, 0) j = iZ ((if j = pJ s then v1 else pOne s j : Nat)) ∧ xI M2 (114, 0) j = iZ ((if j = pJ s then v2 else pTwo s j : Nat)) ∧ xI M2 (115, 0) j = iZ ((if j = pJ s then a else pAt s j : Nat)) ∧ xI M2 (116, 0) j = iZ ((if j = pJ s then w else pWy s j : Nat))
        rw [(x2 (113, 0) j (by simp)).1, (x2 (114, 0) j (by simp)).1, (x2 (115, 0) j (by simp)).1, (x2 (116, 0) j (by simp)).1]
        simp only [xI_pI]
        by_cases e : j = pJ s
        · simp [e]
        · have := hd j (show j < pJ s by omega)
          simp [e]
          exact this
      · rw [hf (101, 0) c (by simp)]; exact he c hc
    obtain ⟨M3, y1, y2⟩ := m_need (c := 59) hM2 (by omega)
    have sm : xSm rdF M M3 := ((s1.wk fun r j z => by
      rcases z with z | z | z | z | z
      · subst z; simp [rdF]
      · subst z; simp [rdF]
      · subst z; simp [rdF]
      · subst z; simp [rdF]
      · exact .inl ⟨z.1, by omega⟩).tr (rdF_nx x2)).tr (numF_rd y1)
    have top : ∀ v : Int, (v = 0 ∨ v = 1) → fX12_need [.inr (.inr (12, 0)), .inl (iZ ((59 : Int)))] M2 = some (some (.inl (iZ (v))), M3) → xfix gX12_aJoint (94, [some (.inr (.inr (12, 0))), some (.inl (iZ (v1))), some (.inl (iZ (v2))), some (.inl (iZ ((3 : Int))))], [], M) = some (some (.inl (iZ (v))), M3) := fun v hv hn => by
      rcases hv with e | e
      · subst e
        rw [xfix_unf, sX12_aJoint_94]
        simp (disch := omega) only [xk_none, xk_inl, xk_inr, xk_ite, xri_v, xrl_v, xrv_v, xb_z0, xb_z1, xb_b2, if_true, if_false, ite_true, ite_false, iZ_lit, iZ_m1, iZ_m99, iZ_m8, iZ_add, iZ_sub, iZ_mul, iZ_neg, nz0, nzi, iZ_lt, iZ_le, iZ_inj, b2_z, b2_o, ite_bPz, ite_bPo, xb_bP, iZ_xin, if_pos, ite_self, ↓reduceIte, Int.reduceAdd, Int.reduceSub, Int.reduceMul, Int.reduceNeg, Int.reduceLT, Int.reduceLE, if_neg, d3', k_isIn, c', and_self, b2', pA12, pA117, iZ_clampN, cl_0, cl_1, cl_2, g0, g1, g2, eA, eW, x1, hn]
      · subst e
        rw [xfix_unf, sX12_aJoint_94]
        simp (disch := omega) only [xk_none, xk_inl, xk_inr, xk_ite, xri_v, xrl_v, xrv_v, xb_z0, xb_z1, xb_b2, if_true, if_false, ite_true, ite_false, iZ_lit, iZ_m1, iZ_m99, iZ_m8, iZ_add, iZ_sub, iZ_mul, iZ_neg, nz0, nzi, iZ_lt, iZ_le, iZ_inj, b2_z, b2_o, ite_bPz, ite_bPo, xb_bP, iZ_xin, if_pos, ite_self, ↓reduceIte, Int.reduceAdd, Int.reduceSub, Int.reduceMul, Int.reduceNeg, Int.reduceLT, Int.reduceLE, if_neg, d3', k_isIn, c', and_self, b2', pA12, pA117, iZ_clampN, cl_0, cl_1, cl_2, g0, g1, g2, eA, eW, x1, hn]
    rcases y2 with ⟨f, z1, z2, z3⟩ | ⟨s', z1, z2, z3, z4⟩
    · exact ⟨M3, sm, .inl ⟨f, z1, top 0 (.inl rfl) z2, z3⟩⟩
    · exact ⟨M3, sm, .inr ⟨s', z1, top 1 (.inr rfl) z2, z3, z4, c⟩⟩
  · rw [if_neg c]
    have c' : ¬ ((20 : Int) ≤ (tk False N T st : Nat) ∧ ((tk False N T st : Nat) : Int) ≤ 25) := by omega
    refine rRes.bad xSm.rf d1' fun M' x1 => ?_
    rw [xfix_unf, sX12_aJoint_94]
    simp (disch := omega) only [xk_none, xk_inl, xk_inr, xk_ite, xri_v, xrl_v, xrv_v, xb_z0, xb_z1, xb_b2, if_true, if_false, ite_true, ite_false, iZ_lit, iZ_m1, iZ_m99, iZ_m8, iZ_add, iZ_sub, iZ_mul, iZ_neg, nz0, nzi, iZ_lt, iZ_le, iZ_inj, b2_z, b2_o, ite_bPz, ite_bPo, xb_bP, iZ_xin, if_pos, ite_self, ↓reduceIte, Int.reduceAdd, Int.reduceSub, Int.reduceMul, Int.reduceNeg, Int.reduceLT, Int.reduceLE, if_neg, d3', k_isIn, c', x1]
theorem m_aJoint {M : xM} {N : Nat} {T : Nat → Nat} {s : pS} (h : pM M N T s) (hO : pOk N T s (pP s)) : rRes rdF (pNx N T s) M N T (fX12_aJoint [.inr (.inr (12, 0))] M) (pJoint N T s) := by
  have h' := h
  have hO' := hO
  obtain ⟨⟨k1, k2, k3, d1, d2, d3, d4⟩, ⟨b1, b2, b3⟩, hc, hd, he⟩ := h'
  obtain ⟨⟨o1, o2, o3, o4⟩, o5, o6, o7, o8⟩ := hO'
  unfold pJoint
  by_cases c1 : pJ s = 8
  · rw [if_pos c1]
    refine rRes.bad xSm.rf d1 fun M' x1 => ?_
    show xfix gX12_aJoint (0, [some (.inr (.inr (12, 0))), none, none, none], [], M) = _; rw [xfix_unf, sX12_aJoint_0]
    simp (disch := omega) only [xk_none, xk_inl, xk_inr, xk_ite, xri_v, xrl_v, xrv_v, xb_z0, xb_z1, xb_b2, if_true, if_false, ite_true, ite_false, iZ_lit, iZ_m1, iZ_m99, iZ_m8, iZ_add, iZ_sub, iZ_mul, iZ_neg, nz0, nzi, iZ_lt, iZ_le, iZ_inj, b2_z, b2_o, ite_bPz, ite_bPo, xb_bP, iZ_xin, if_pos, ite_self, ↓reduceIte, Int.reduceAdd, Int.reduceSub, Int.reduceMul, Int.reduceNeg, Int.reduceLT, Int.reduceLE, if_neg, b2, c1, x1]
  rw [if_neg c1]
  obtain ⟨M1, x1, x2, x3⟩ := h.1.nx
  have hM1 : pM M1 N T (adv N T (pSt s), s.2) := h.num (x2.wk fun r j z => .inl z) x3
  have e21 := x3.2.2.2.1
  have e20 := x3.2.2.2.2.2.1
  have hb := tk_b False N T (adv N T (pSt s))
  by_cases c2' : ¬ tk False N T (adv N T (pSt s)) = 3
  · rw [if_pos c2']
    refine rRes.bad (rdF_nx x2) e21 fun M' y1 => ?_
    show xfix gX12_aJoint (0, [some (.inr (.inr (12, 0))), none, none, none], [], M) = _; rw [xfix_unf, sX12_aJoint_0]
    simp (disch := omega) only [xk_none, xk_inl, xk_inr, xk_ite, xri_v, xrl_v, xrv_v, xb_z0, xb_z1, xb_b2, if_true, if_false, ite_true, ite_false, iZ_lit, iZ_m1, iZ_m99, iZ_m8, iZ_add, iZ_sub, iZ_mul, iZ_neg, nz0, nzi, iZ_lt, iZ_le, iZ_inj, b2_z, b2_o, ite_bPz, ite_bPo, xb_bP, iZ_xin, if_pos, ite_self, ↓reduceIte, Int.reduceAdd, Int.reduceSub, Int.reduceMul, Int.reduceNeg, Int.reduceLT, Int.reduceLE, if_neg, b2, x1, e20, c2', y1]
  rw [if_neg c2']
  have c2 : tk False N T (adv N T (pSt s)) = 3 := Classical.byContradiction c2'
  have hkn : fX12_known [.inr (.inr (12, 0))] M1 = some (some (.inl (iZ (if pKn N T s (adv N T (pSt s)) < pP s then (pKn N T s (adv N T (pSt s)) : Int) else -1))), M1) := m_known (s := (adv N T (pSt s), s.2)) hM1 rfl o1 (fun q hq => ⟨(o5 q hq).1, (o5 q hq).2.1, (o5 q hq).2.2.1⟩)
  by_cases c3' : ¬ pKn N T s (adv N T (pSt s)) < pP s
  · rw [if_neg c3'] at hkn
    rw [if_pos c3']
    refine rRes.bad (rdF_nx x2) e21 fun M' y1 => ?_
    show xfix gX12_aJoint (0, [some (.inr (.inr (12, 0))), none, none, none], [], M) = _; rw [xfix_unf, sX12_aJoint_0]
    simp (disch := omega) only [xk_none, xk_inl, xk_inr, xk_ite, xri_v, xrl_v, xrv_v, xb_z0, xb_z1, xb_b2, if_true, if_false, ite_true, ite_false, iZ_lit, iZ_m1, iZ_m99, iZ_m8, iZ_add, iZ_sub, iZ_mul, iZ_neg, nz0, nzi, iZ_lt, iZ_le, iZ_inj, b2_z, b2_o, ite_bPz, ite_bPo, xb_bP, iZ_xin, if_pos, ite_self, ↓reduceIte, Int.reduceAdd, Int.reduceSub, Int.reduceMul, Int.reduceNeg, Int.reduceLT, Int.reduceLE, if_neg, b2, x1, e20, c2, hkn, y1]
  rw [if_neg c3']
  have c3 : pKn N T s (adv N T (pSt s)) < pP s := by omega
  rw [if_pos c3] at hkn
  obtain ⟨M2, y1, y2, y3⟩ := x3.nx
  have hM2 : pM M2 N T (adv N T (adv N T (pSt s)), s.2) := hM1.num (y2.wk fun r j z => .inl z) y3
  have f21 := y3.2.2.2.1
  have f20 := y3.2.2.2.2.2.1
  have sm2 : xSm rdF M M2 := (rdF_nx x2).tr (rdF_nx y2)
  have hb2 := tk_b False N T (adv N T (adv N T (pSt s)))
  have hkn2 : fX12_known [.inr (.inr (12, 0))] M2 = some (some (.inl (iZ (if pKn N T s (adv N T (adv N T (pSt s))) < pP s then (pKn N T s (adv N T (adv N T (pSt s))) : Int) else -1))), M2) := m_known (s := (adv N T (adv N T (pSt s)), s.2)) hM2 rfl o1 (fun q hq => ⟨(o5 q hq).1, (o5 q hq).2.1, (o5 q hq).2.2.1⟩)
  generalize pKn N T s (adv N T (pSt s)) = p1 at *
  generalize hst2 : adv N T (adv N T (pSt s)) = st2 at *
  by_cases c4' : ¬ tk False N T st2 = 3
  · rw [if_pos c4']
    refine rRes.bad sm2 f21 fun M' z1 => ?_
    show xfix gX12_aJoint (0, [some (.inr (.inr (12, 0))), none, none, none], [], M) = _; rw [xfix_unf, sX12_aJoint_0]
    simp (disch := omega) only [xk_none, xk_inl, xk_inr, xk_ite, xri_v, xrl_v, xrv_v, xb_z0, xb_z1, xb_b2, if_true, if_false, ite_true, ite_false, iZ_lit, iZ_m1, iZ_m99, iZ_m8, iZ_add, iZ_sub, iZ_mul, iZ_neg, nz0, nzi, iZ_lt, iZ_le, iZ_inj, b2_z, b2_o, ite_bPz, ite_bPo, xb_bP, iZ_xin, if_pos, ite_self, ↓reduceIte, Int.reduceAdd, Int.reduceSub, Int.reduceMul, Int.reduceNeg, Int.reduceLT, Int.reduceLE, if_neg, b2, x1, e20, c2, hkn, y1, f20, c4', z1]
  rw [if_neg c4']
  have c4 : tk False N T st2 = 3 := Classical.byContradiction c4'
  by_cases c5 : ¬ pKn N T s st2 < pP s ∨ pKn N T s st2 = p1
  · rw [if_pos c5]
    refine rRes.bad sm2 f21 fun M' z1 => ?_
    by_cases c6 : pKn N T s st2 < pP s
    · have c7 : pKn N T s st2 = p1 := c5.resolve_left (fun z => z c6)
      rw [if_pos c6, c7] at hkn2
      show xfix gX12_aJoint (0, [some (.inr (.inr (12, 0))), none, none, none], [], M) = _; rw [xfix_unf, sX12_aJoint_0]
      simp (disch := omega) only [xk_none, xk_inl, xk_inr, xk_ite, xri_v, xrl_v, xrv_v, xb_z0, xb_z1, xb_b2, if_true, if_false, ite_true, ite_false, iZ_lit, iZ_m1, iZ_m99, iZ_m8, iZ_add, iZ_sub, iZ_mul, iZ_neg, nz0, nzi, iZ_lt, iZ_le, iZ_inj, b2_z, b2_o, ite_bPz, ite_bPo, xb_bP, iZ_xin, if_pos, ite_self, ↓reduceIte, Int.reduceAdd, Int.reduceSub, Int.reduceMul, Int.reduceNeg, Int.reduceLT, Int.reduceLE, if_neg, b2, x1, e20, c2, hkn, y1, f20, c4, hkn2, z1]
    · rw [if_neg c6] at hkn2
      show xfix gX12_aJoint (0, [some (.inr (.inr (12, 0))), none, none, none], [], M) = _; rw [xfix_unf, sX12_aJoint_0]
      simp (disch := omega) only [xk_none, xk_inl, xk_inr, xk_ite, xri_v, xrl_v, xrv_v, xb_z0, xb_z1, xb_b2, if_true, if_false, ite_true, ite_false, iZ_lit, iZ_m1, iZ_m99, iZ_m8, iZ_add, iZ_sub, iZ_mul, iZ_neg, nz0, nzi, iZ_lt, iZ_le, iZ_inj, b2_z, b2_o, ite_bPz, ite_bPo, xb_bP, iZ_xin, if_pos, ite_self, ↓reduceIte, Int.reduceAdd, Int.reduceSub, Int.reduceMul, Int.reduceNeg, Int.reduceLT, Int.reduceLE, if_neg, b2, x1, e20, c2, hkn, y1, f20, c4, hkn2, z1]
  rw [if_neg c5]
  have c6 : pKn N T s st2 < pP s := Classical.byContradiction fun z => c5 (.inl z)
  have c7 : ¬ pKn N T s st2 = p1 := fun z => c5 (.inr z)
  rw [if_pos c6] at hkn2
  generalize pKn N T s st2 = p2 at *
  obtain ⟨M3, z1, z2, z3⟩ := y3.nx
  have hM3 : pM M3 N T (adv N T st2, s.2) := hM2.num (z2.wk fun r j z => .inl z) z3
  have top : fX12_aJoint [.inr (.inr (12, 0))] M = xfix gX12_aJoint (94, [some (.inr (.inr (12, 0))), some (.inl (iZ (p1))), some (.inl (iZ (p2))), some (.inl (iZ (((0 : Nat)))))], [], M3) := by
    show xfix gX12_aJoint (0, [some (.inr (.inr (12, 0))), none, none, none], [], M) = _; rw [xfix_unf, sX12_aJoint_0]
    simp (disch := omega) only [xk_none, xk_inl, xk_inr, xk_ite, xri_v, xrl_v, xrv_v, xb_z0, xb_z1, xb_b2, if_true, if_false, ite_true, ite_false, iZ_lit, iZ_m1, iZ_m99, iZ_m8, iZ_add, iZ_sub, iZ_mul, iZ_neg, nz0, nzi, iZ_lt, iZ_le, iZ_inj, b2_z, b2_o, ite_bPz, ite_bPo, xb_bP, iZ_xin, if_pos, ite_self, ↓reduceIte, Int.reduceAdd, Int.reduceSub, Int.reduceMul, Int.reduceNeg, Int.reduceLT, Int.reduceLE, if_neg, b2, x1, e20, c2, hkn, y1, f20, c4, hkn2, z1]
    rfl
  have sm3 : xSm rdF M M3 := sm2.tr (rdF_nx z2)
  obtain ⟨M4, w1, w2⟩ := rd_joint (v1 := p1) (v2 := p2) 3 0 (fun _ => 0) (adv N T st2) M3 rfl z3 (fun j hj => by omega) (fun j hj => by omega)
  have sm4 : xSm rdF M M4 := sm3.tr (numF_rd w1)
  rcases w2 with ⟨f, u1, u2, u3⟩ | ⟨b', st', u1, u2, u3, u4, u5⟩
  · rw [u1]
    exact ⟨M4, sm4, .inl ⟨f, rfl, top.trans u2, u3⟩⟩
  · rw [u1]
    have hM4 : pM M4 N T (st', s.2) := hM3.num w1 u3
    obtain ⟨M5, v1, v2⟩ := jt_end (s := s) (v1 := p1) (v2 := p2) hM4 u4 u5 (by omega) (by omega) (by omega)
    refine ⟨M5, sm4.tr v1, ?_⟩
    rcases v2 with ⟨f, q1, q2, q3⟩ | ⟨s', q1, q2, q3, q4, q5⟩
    · exact .inl ⟨f, q1, (top.trans u2).trans q2, q3⟩
    · refine .inr ⟨s', q1, (top.trans u2).trans q2, q3, ?_⟩
      have i1 : pP s' = pP s := by unfold pP; rw [q4]
      have i2 : pNa s' = pNa s := by unfold pNa; rw [q4]
      have i3 : pNl s' = pNl s := by unfold pNl; rw [q4]
      have i4 : pJ s' = pJ s + 1 := by unfold pJ; rw [q4]; rfl
      have i5 : pX s' = pX s := by unfold pX; rw [q4]
      have i6 : pC s' = pC s := by unfold pC; rw [q4]
      have i7 : ∀ j, pOne s' j = if j = pJ s then p1 else pOne s j := fun j => by
        show s'.2.2.1.2.1 j = _
        rw [q4]
      have i8 : ∀ j, pTwo s' j = if j = pJ s then p2 else pTwo s j := fun j => by
        show s'.2.2.1.2.2.1 j = _
        rw [q4]
      have i9 : ∀ j, pAt s' j = if j = pJ s then (64 * b' 2 + 8 * b' 1 + b' 0).toNat else pAt s j := fun j => by
        show s'.2.2.1.2.2.2.1 j = _
        rw [q4]
      have i10 : ∀ j, pWy s' j = if j = pJ s then tk False N T st' - 20 else pWy s j := fun j => by
        show s'.2.2.1.2.2.2.2 j = _
        rw [q4]
      have r0 := u5 0 (by omega)
      have r1 := u5 1 (by omega)
      have r2 := u5 2 (by omega)
      refine ⟨⟨by omega, fun q hq => by rw [i2, i3]; exact o5 q (by omega), fun j hj => ?_, fun c hc => by rw [i6, i1]; exact o7 c hc, fun p hp => by rw [i6]; exact o8 p (by omega)⟩, by omega⟩
      rw [i7, i8, i9, i10, i1]
      by_cases e : j = pJ s
      · rw [if_pos e, if_pos e, if_pos e, if_pos e]
        omega
      · rw [if_neg e, if_neg e, if_neg e, if_neg e]
        exact o6 j (by omega)
theorem m_reads {N : Nat} {T : Nat → Nat} : ∀ (n : Nat) (M : xM) (s : pS), 18 ≤ pP s + pJ s + n → pM M N T s → pOk N T s (pP s) → rRes rdF (fun s' => pOk N T s' (pP s')) M N T (xfix gX12_reads (0, [some (.inr (.inr (12, 0)))], [], M)) (pAll N T n s) := by
  intro n
  induction n with
  | zero =>
    intro M s hn hM hO
    have := hO.1
    omega
  | succ n ih =>
    intro M s hn hM hO
    unfold pAll
    have hb := tk_b False N T (pSt s)
    have h20 := hM.1.2.2.2.2.2.1
    have h21 := hM.1.2.2.2.1
    by_cases c0 : tk False N T (pSt s) = 0
    · rw [if_pos c0]
      refine ⟨M, xSm.rf, .inr ⟨s, rfl, ?_, hM, hO⟩⟩
      rw [xfix_unf, sX12_reads_0]
      simp (disch := omega) only [xk_none, xk_inl, xk_inr, xk_ite, xri_v, xrl_v, xrv_v, xb_z0, xb_z1, xb_b2, if_true, if_false, ite_true, ite_false, iZ_lit, iZ_m1, iZ_m99, iZ_m8, iZ_add, iZ_sub, iZ_mul, iZ_neg, nz0, nzi, iZ_lt, iZ_le, iZ_inj, b2_z, b2_o, ite_bPz, ite_bPo, xb_bP, iZ_xin, if_pos, ite_self, ↓reduceIte, Int.reduceAdd, Int.reduceSub, Int.reduceMul, Int.reduceNeg, Int.reduceLT, Int.reduceLE, if_neg, h20, c0]
    rw [if_neg c0]
    have go : ∀ (M1 : xM) (s1 : pS), xSm rdF M M1 → xfix gX12_reads (0, [some (.inr (.inr (12, 0)))], [], M) = xfix gX12_reads (0, [some (.inr (.inr (12, 0)))], [], M1) → pM M1 N T s1 → pNx N T s s1 → rRes rdF (fun s' => pOk N T s' (pP s')) M N T (xfix gX12_reads (0, [some (.inr (.inr (12, 0)))], [], M)) (pAll N T n s1) := fun M1 s1 g1 g2 g3 g4 => by
      obtain ⟨M2, w1, w2⟩ := ih M1 s1 (by have := g4.2; omega) g3 g4.1
      rw [g2]
      exact ⟨M2, g1.tr w1, w2⟩
    by_cases c4 : tk False N T (pSt s) = 4
    · rw [if_pos c4]
      obtain ⟨M1, x1, x2⟩ := m_aPart hM hO
      rcases x2 with ⟨f, y1, y2, y3⟩ | ⟨s1, y1, y2, y3, y4⟩
      · rw [y1]
        refine ⟨M1, x1, .inl ⟨f, rfl, ?_, y3⟩⟩
        rw [xfix_unf, sX12_reads_0]
        simp (disch := omega) only [xk_none, xk_inl, xk_inr, xk_ite, xri_v, xrl_v, xrv_v, xb_z0, xb_z1, xb_b2, if_true, if_false, ite_true, ite_false, iZ_lit, iZ_m1, iZ_m99, iZ_m8, iZ_add, iZ_sub, iZ_mul, iZ_neg, nz0, nzi, iZ_lt, iZ_le, iZ_inj, b2_z, b2_o, ite_bPz, ite_bPo, xb_bP, iZ_xin, if_pos, ite_self, ↓reduceIte, Int.reduceAdd, Int.reduceSub, Int.reduceMul, Int.reduceNeg, Int.reduceLT, Int.reduceLE, if_neg, h20, c4]
        rw [xfix_unf, sX12_reads_30]
        simp (disch := omega) only [xk_none, xk_inl, xk_inr, xk_ite, xri_v, xrl_v, xrv_v, xb_z0, xb_z1, xb_b2, if_true, if_false, ite_true, ite_false, iZ_lit, iZ_m1, iZ_m99, iZ_m8, iZ_add, iZ_sub, iZ_mul, iZ_neg, nz0, nzi, iZ_lt, iZ_le, iZ_inj, b2_z, b2_o, ite_bPz, ite_bPo, xb_bP, iZ_xin, if_pos, ite_self, ↓reduceIte, Int.reduceAdd, Int.reduceSub, Int.reduceMul, Int.reduceNeg, Int.reduceLT, Int.reduceLE, if_neg, h20, c4, y2]
      · rw [y1]
        refine go M1 s1 x1 ?_ y3 y4
        rw [xfix_unf, sX12_reads_0]
        simp (disch := omega) only [xk_none, xk_inl, xk_inr, xk_ite, xri_v, xrl_v, xrv_v, xb_z0, xb_z1, xb_b2, if_true, if_false, ite_true, ite_false, iZ_lit, iZ_m1, iZ_m99, iZ_m8, iZ_add, iZ_sub, iZ_mul, iZ_neg, nz0, nzi, iZ_lt, iZ_le, iZ_inj, b2_z, b2_o, ite_bPz, ite_bPo, xb_bP, iZ_xin, if_pos, ite_self, ↓reduceIte, Int.reduceAdd, Int.reduceSub, Int.reduceMul, Int.reduceNeg, Int.reduceLT, Int.reduceLE, if_neg, h20, c4]
        rw [xfix_unf, sX12_reads_30]
        simp (disch := omega) only [xk_none, xk_inl, xk_inr, xk_ite, xri_v, xrl_v, xrv_v, xb_z0, xb_z1, xb_b2, if_true, if_false, ite_true, ite_false, iZ_lit, iZ_m1, iZ_m99, iZ_m8, iZ_add, iZ_sub, iZ_mul, iZ_neg, nz0, nzi, iZ_lt, iZ_le, iZ_inj, b2_z, b2_o, ite_bPz, ite_bPo, xb_bP, iZ_xin, if_pos, ite_self, ↓reduceIte, Int.reduceAdd, Int.reduceSub, Int.reduceMul, Int.reduceNeg, Int.reduceLT, Int.reduceLE, if_neg, h20, c4, y2]
    rw [if_neg c4]
    by_cases c6 : tk False N T (pSt s) = 6
    · rw [if_pos c6]
      obtain ⟨M1, x1, x2⟩ := m_aJoint hM hO
      rcases x2 with ⟨f, y1, y2, y3⟩ | ⟨s1, y1, y2, y3, y4⟩
      · rw [y1]
        refine ⟨M1, x1, .inl ⟨f, rfl, ?_, y3⟩⟩
        rw [xfix_unf, sX12_reads_0]
        simp (disch := omega) only [xk_none, xk_inl, xk_inr, xk_ite, xri_v, xrl_v, xrv_v, xb_z0, xb_z1, xb_b2, if_true, if_false, ite_true, ite_false, iZ_lit, iZ_m1, iZ_m99, iZ_m8, iZ_add, iZ_sub, iZ_mul, iZ_neg, nz0, nzi, iZ_lt, iZ_le, iZ_inj, b2_z, b2_o, ite_bPz, ite_bPo, xb_bP, iZ_xin, if_pos, ite_self, ↓reduceIte, Int.reduceAdd, Int.reduceSub, Int.reduceMul, Int.reduceNeg, Int.reduceLT, Int.reduceLE, if_neg, h20, c6]
        rw [xfix_unf, sX12_reads_30]
        simp (disch := omega) only [xk_none, xk_inl, xk_inr, xk_ite, xri_v, xrl_v, xrv_v, xb_z0, xb_z1, xb_b2, if_true, if_false, ite_true, ite_false, iZ_lit, iZ_m1, iZ_m99, iZ_m8, iZ_add, iZ_sub, iZ_mul, iZ_neg, nz0, nzi, iZ_lt, iZ_le, iZ_inj, b2_z, b2_o, ite_bPz, ite_bPo, xb_bP, iZ_xin, if_pos, ite_self, ↓reduceIte, Int.reduceAdd, Int.reduceSub, Int.reduceMul, Int.reduceNeg, Int.reduceLT, Int.reduceLE, if_neg, h20, c6, y2]
      · rw [y1]
        refine go M1 s1 x1 ?_ y3 y4
        rw [xfix_unf, sX12_reads_0]
        simp (disch := omega) only [xk_none, xk_inl, xk_inr, xk_ite, xri_v, xrl_v, xrv_v, xb_z0, xb_z1, xb_b2, if_true, if_false, ite_true, ite_false, iZ_lit, iZ_m1, iZ_m99, iZ_m8, iZ_add, iZ_sub, iZ_mul, iZ_neg, nz0, nzi, iZ_lt, iZ_le, iZ_inj, b2_z, b2_o, ite_bPz, ite_bPo, xb_bP, iZ_xin, if_pos, ite_self, ↓reduceIte, Int.reduceAdd, Int.reduceSub, Int.reduceMul, Int.reduceNeg, Int.reduceLT, Int.reduceLE, if_neg, h20, c6]
        rw [xfix_unf, sX12_reads_30]
        simp (disch := omega) only [xk_none, xk_inl, xk_inr, xk_ite, xri_v, xrl_v, xrv_v, xb_z0, xb_z1, xb_b2, if_true, if_false, ite_true, ite_false, iZ_lit, iZ_m1, iZ_m99, iZ_m8, iZ_add, iZ_sub, iZ_mul, iZ_neg, nz0, nzi, iZ_lt, iZ_le, iZ_inj, b2_z, b2_o, ite_bPz, ite_bPo, xb_bP, iZ_xin, if_pos, ite_self, ↓reduceIte, Int.reduceAdd, Int.reduceSub, Int.reduceMul, Int.reduceNeg, Int.reduceLT, Int.reduceLE, if_neg, h20, c6, y2]
    rw [if_neg c6]
    refine rRes.bad xSm.rf h21 fun M' x1 => ?_
    rw [xfix_unf, sX12_reads_0]
    simp (disch := omega) only [xk_none, xk_inl, xk_inr, xk_ite, xri_v, xrl_v, xrv_v, xb_z0, xb_z1, xb_b2, if_true, if_false, ite_true, ite_false, iZ_lit, iZ_m1, iZ_m99, iZ_m8, iZ_add, iZ_sub, iZ_mul, iZ_neg, nz0, nzi, iZ_lt, iZ_le, iZ_inj, b2_z, b2_o, ite_bPz, ite_bPo, xb_bP, iZ_xin, if_pos, ite_self, ↓reduceIte, Int.reduceAdd, Int.reduceSub, Int.reduceMul, Int.reduceNeg, Int.reduceLT, Int.reduceLE, if_neg, h20, c0, c4, c6, x1]
