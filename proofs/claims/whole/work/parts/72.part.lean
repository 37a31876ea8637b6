/-! the reference: reading a part -/
theorem tk3 {rc : Prop} {N : Nat} {T : Nat → Nat} {st : Nat} (h : tk rc N T st = 3) : st < N ∧ st < tE N T st ∧ tE N T st - st ≤ 6 ∧ tE N T st ≤ N ∧ ∀ k, k < tE N T st - st → isL (T (st + k)) := by
  unfold tk at h
  by_cases y0 : N ≤ st
  · rw [if_pos y0] at h; omega
  · rw [if_neg y0] at h
    by_cases y1 : isL (T st)
    · rw [if_pos y1] at h
      have hb := tE_b (N := N) (T := T) (st := st) (by omega)
      have h6 : tE N T st - st ≤ 6 := by
        unfold tW cit at h
        (repeat' split at h) <;> omega
      refine ⟨by omega, hb.2.2 (by omega), h6, hb.2.1, fun k hk => ?_⟩
      have eE : tE N T st = rn isL N T st := by unfold tE; rw [if_neg y0, if_pos y1]
      exact (rn_in (P := isL) (N := N) (T := T) (i := st) (by omega : st ≤ st + k) (by omega)).2
    · rw [if_neg y1] at h
      (repeat' split at h) <;> omega
/-- what boxes add -/
def bxR (s s' : pS) : Prop := s'.2.1 = s.2.1 ∧ s'.2.2.1 = s.2.2.1 ∧ pX s' ≤ 24 ∧ (∀ c, c < 512 → -1 ≤ pC s' c ∧ pC s' c ≤ pP s) ∧ (∃ c, c < 512 ∧ pC s' c = pP s) ∧ ∀ p : Nat, p < pP s → (∃ c, c < 512 ∧ pC s c = p) → ∃ c, c < 512 ∧ pC s' c = p
theorem pP_of {s s' : pS} (h : s'.2.1 = s.2.1) : pP s' = pP s := congrArg (fun x => x.1) h
theorem pNa_of {s s' : pS} (h : s'.2.1 = s.2.1) : pNa s' = pNa s := congrArg (fun x => x.2.1) h
theorem pNl_of {s s' : pS} (h : s'.2.1 = s.2.1) : pNl s' = pNl s := congrArg (fun x => x.2.2) h
theorem bxR.of {s s' : pS} (h : bxQ s s') : bxR s s' := ⟨h.1, h.2.1, h.2.2.1.2, h.2.2.2.1, h.2.2.2.2.1, h.2.2.2.2.2⟩
theorem bxR.tr {s s' s2 : pS} (h : bxR s s') (g : bxR s' s2) : bxR s s2 := by
  obtain ⟨h1, h2, h3, h4, h5, h6⟩ := h
  obtain ⟨g1, g2, g3, g4, g5, g6⟩ := g
  have e := pP_of h1
  rw [e] at g4 g5 g6
  exact ⟨g1.trans h1, g2.trans h2, g3, g4, g5, fun p hp w => g6 p hp (h6 p hp w)⟩
theorem m_boxes {N : Nat} {T : Nat → Nat} : ∀ (n : Nat) (M : xM) (s : pS), 25 ≤ pX s + n → pM M N T s → pP s < 9 → bxR s s → ∃ M', xSm bxF M M' ∧ ((∃ f, pBoxes N T n s = .inl f ∧ xfix gX12_aPart (95, [some (.inr (.inr (12, 0)))], [], M) = some (some (.inl (iZ (0))), M') ∧ rFl M' f) ∨ ∃ s', pBoxes N T n s = .inr s' ∧ xfix gX12_aPart (95, [some (.inr (.inr (12, 0)))], [], M) = xfix gX12_aPart (95, [some (.inr (.inr (12, 0)))], [], M') ∧ ¬ tk False N T (pSt s') = 5 ∧ pM M' N T s' ∧ bxR s s') := by
  intro n
  induction n with
  | zero =>
    intro M s hn hM hP hR
    have := hR.2.2.1
    omega
  | succ n ih =>
    intro M s hn hM hP hR
    unfold pBoxes
    have hb := tk_b False N T (pSt s)
    have h20 := hM.1.2.2.2.2.2.1
    have h26 := hM.2.1.1
    by_cases c : tk False N T (pSt s) = 5
    · rw [if_pos c]
      obtain ⟨M1, x1, x2⟩ := m_aBox hM hP hR.2.2.1 hR.2.2.2.1
      rcases x2 with ⟨f, y1, y2, y3⟩ | ⟨s1, y1, y2, y3, y4⟩
      · rw [y1]
        refine ⟨M1, x1, .inl ⟨f, rfl, ?_, y3⟩⟩
        rw [xfix_unf, sX12_aPart_95]
        simp (disch := omega) only [xk_none, xk_inl, xk_inr, xk_ite, xri_v, xrl_v, xrv_v, xb_z0, xb_z1, xb_b2, if_true, if_false, ite_true, ite_false, iZ_lit, iZ_m1, iZ_m99, iZ_m8, iZ_add, iZ_sub, iZ_mul, iZ_neg, nz0, nzi, iZ_lt, iZ_le, iZ_inj, b2_z, b2_o, ite_bPz, ite_bPo, xb_bP, iZ_xin, if_pos, ite_self, ↓reduceIte, Int.reduceAdd, Int.reduceSub, Int.reduceMul, Int.reduceNeg, Int.reduceLT, Int.reduceLE, if_neg, h20, c, h26, y2]
      · rw [y1]
        have y5 := bxR.of y4
        have e := pP_of y4.1
        have hR1 : bxR s1 s1 := ⟨rfl, rfl, y5.2.2.1, by rw [e]; exact y5.2.2.2.1, by rw [e]; exact y5.2.2.2.2.1, fun p _ w => w⟩
        obtain ⟨M2, z1, z2⟩ := ih M1 s1 (by have := y4.2.2.1; omega) y3 (by omega) hR1
        have top : xfix gX12_aPart (95, [some (.inr (.inr (12, 0)))], [], M) = xfix gX12_aPart (95, [some (.inr (.inr (12, 0)))], [], M1) := by
          rw [xfix_unf, sX12_aPart_95]
          simp (disch := omega) only [xk_none, xk_inl, xk_inr, xk_ite, xri_v, xrl_v, xrv_v, xb_z0, xb_z1, xb_b2, if_true, if_false, ite_true, ite_false, iZ_lit, iZ_m1, iZ_m99, iZ_m8, iZ_add, iZ_sub, iZ_mul, iZ_neg, nz0, nzi, iZ_lt, iZ_le, iZ_inj, b2_z, b2_o, ite_bPz, ite_bPo, xb_bP, iZ_xin, if_pos, ite_self, ↓reduceIte, Int.reduceAdd, Int.reduceSub, Int.reduceMul, Int.reduceNeg, Int.reduceLT, Int.reduceLE, if_neg, h20, c, h26, y2]
        rcases z2 with ⟨f, w1, w2, w3⟩ | ⟨s2, w1, w2, w3, w4, w5⟩
        · exact ⟨M2, x1.tr z1, .inl ⟨f, w1, top.trans w2, w3⟩⟩
        · exact ⟨M2, x1.tr z1, .inr ⟨s2, w1, top.trans w2, w3, w4, y5.tr w5⟩⟩
    · rw [if_neg c]
      exact ⟨M, xSm.rf, .inr ⟨s, rfl, rfl, c, hM, hR⟩⟩
theorem rRes.bad {Q : pS → Prop} {M M1 : xM} {N st : Nat} {T : Nat → Nat} {o : Option (Option xV × xM)} {k : Int} (h1 : xSm rdF M M1) (hk : xI M1 (12, 0) 21 = iZ st) (ho : ∀ M', fX12_bad [.inr (.inr (12, 0)), .inl (iZ (k))] M1 = some (some (.inl (iZ (0))), M') → o = some (some (.inl (iZ (0))), M')) : rRes rdF Q M N T o (.inl (k, st)) := by
  obtain ⟨M', x1, x2, x3⟩ := m_bad (k := k) hk
  exact ⟨M', h1.tr x2, .inl ⟨_, rfl, ho M' x1, x3⟩⟩
/-- a step more -/
def pNx (N : Nat) (T : Nat → Nat) (s s' : pS) : Prop := pOk N T s' (pP s') ∧ pP s' + pJ s' = pP s + pJ s + 1
theorem m_aPart {M : xM} {N : Nat} {T : Nat → Nat} {s : pS} (h : pM M N T s) (hO : pOk N T s (pP s)) : rRes rdF (pNx N T s) M N T (fX12_aPart [.inr (.inr (12, 0))] M) (pPart N T s) := by
  have h' := h
  have hO' := hO
  obtain ⟨⟨k1, k2, k3, d1, d2, d3, d4⟩, ⟨b1, b2, b3⟩, hc, hd, he⟩ := h'
  obtain ⟨⟨o1, o2, o3, _⟩, o5, o6, o7, o8⟩ := hO'
  unfold pPart
  by_cases c1 : pP s = 9
  · rw [if_pos c1]
    refine rRes.bad xSm.rf d1 fun M' x1 => ?_
    show xfix gX12_aPart (0, [some (.inr (.inr (12, 0)))], [], M) = _; rw [xfix_unf, sX12_aPart_0]
    simp (disch := omega) only [xk_none, xk_inl, xk_inr, xk_ite, xri_v, xrl_v, xrv_v, xb_z0, xb_z1, xb_b2, if_true, if_false, ite_true, ite_false, iZ_lit, iZ_m1, iZ_m99, iZ_m8, iZ_add, iZ_sub, iZ_mul, iZ_neg, nz0, nzi, iZ_lt, iZ_le, iZ_inj, b2_z, b2_o, ite_bPz, ite_bPo, xb_bP, iZ_xin, if_pos, ite_self, ↓reduceIte, Int.reduceAdd, Int.reduceSub, Int.reduceMul, Int.reduceNeg, Int.reduceLT, Int.reduceLE, if_neg, b1, c1, x1]
  rw [if_neg c1]
  obtain ⟨M1, x1, x2, x3⟩ := h.1.nx
  have hM1 : pM M1 N T (adv N T (pSt s), s.2) := h.num (x2.wk fun r j z => .inl z) x3
  have e1 : xI M1 (12, 0) 26 = iZ (pP s) := hM1.2.1.1
  have e21 := x3.2.2.2.1
  have e19 := x3.2.2.2.2.1
  have e20 := x3.2.2.2.2.2.1
  have hb := tk_b False N T (adv N T (pSt s))
  by_cases c2' : ¬ tk False N T (adv N T (pSt s)) = 3
  · have c2 := c2'
    rw [if_pos c2]
    refine rRes.bad (rdF_nx x2) e21 fun M' y1 => ?_
    show xfix gX12_aPart (0, [some (.inr (.inr (12, 0)))], [], M) = _; rw [xfix_unf, sX12_aPart_0]
    simp (disch := omega) only [xk_none, xk_inl, xk_inr, xk_ite, xri_v, xrl_v, xrv_v, xb_z0, xb_z1, xb_b2, if_true, if_false, ite_true, ite_false, iZ_lit, iZ_m1, iZ_m99, iZ_m8, iZ_add, iZ_sub, iZ_mul, iZ_neg, nz0, nzi, iZ_lt, iZ_le, iZ_inj, b2_z, b2_o, ite_bPz, ite_bPo, xb_bP, iZ_xin, if_pos, ite_self, ↓reduceIte, Int.reduceAdd, Int.reduceSub, Int.reduceMul, Int.reduceNeg, Int.reduceLT, Int.reduceLE, if_neg, b1, x1, e20, c2, y1]
  rw [if_neg c2']
  have c2 : tk False N T (adv N T (pSt s)) = 3 := Classical.byContradiction c2'
  obtain ⟨t1, t2, t3, t4, t5⟩ := tk3 c2
  have hkn : fX12_known [.inr (.inr (12, 0))] M1 = some (some (.inl (iZ (if pKn N T s (adv N T (pSt s)) < pP s then (pKn N T s (adv N T (pSt s)) : Int) else -1))), M1) := m_known (s := (adv N T (pSt s), s.2)) hM1 rfl o1 (fun q hq => ⟨(o5 q hq).1, (o5 q hq).2.1, (o5 q hq).2.2.1⟩)
  by_cases c3 : pKn N T s (adv N T (pSt s)) < pP s
  · rw [if_pos c3] at hkn ⊢
    refine rRes.bad (rdF_nx x2) e21 fun M' y1 => ?_
    show xfix gX12_aPart (0, [some (.inr (.inr (12, 0)))], [], M) = _; rw [xfix_unf, sX12_aPart_0]
    simp (disch := omega) only [xk_none, xk_inl, xk_inr, xk_ite, xri_v, xrl_v, xrv_v, xb_z0, xb_z1, xb_b2, if_true, if_false, ite_true, ite_false, iZ_lit, iZ_m1, iZ_m99, iZ_m8, iZ_add, iZ_sub, iZ_mul, iZ_neg, nz0, nzi, iZ_lt, iZ_le, iZ_inj, b2_z, b2_o, ite_bPz, ite_bPo, xb_bP, iZ_xin, if_pos, ite_self, ↓reduceIte, Int.reduceAdd, Int.reduceSub, Int.reduceMul, Int.reduceNeg, Int.reduceLT, Int.reduceLE, if_neg, b1, x1, e20, c2, hkn, y1]
  rw [if_neg c3] at hkn ⊢
  have hN := k1.2.1
  have hp : ∀ i v j, xI (xpI M1 (111, 0) i v) (12, 0) j = xI M1 (12, 0) j := fun i v j => by rw [xI_pI, if_neg (by simp)]
  have eL : ((tE N T (adv N T (pSt s)) : Nat) : Int) - (adv N T (pSt s) : Nat) = ((tE N T (adv N T (pSt s)) - adv N T (pSt s) : Nat) : Int) := by omega
  generalize hst : adv N T (pSt s) = st1 at *
  generalize hln : tE N T st1 - st1 = ln at *
  have s2 : xSm (fun r j => r = (111, 0) ∨ r = (112, 0)) M1 (xpI (xpI M1 (111, 0) (pP s) (iZ st1)) (112, 0) (pP s) (iZ ln)) := (xSm.rf.pI (.inl rfl)).pI (.inr rfl)
  have hK2 := x3.sm s2 (fun j _ => by simp) (fun j => by simp)
  obtain ⟨M3, y1, y2, y3⟩ := hK2.nx
  have s3 : xSm rdF M M3 := ((rdF_nx x2).tr (s2.wk fun r j z => by rcases z with z | z <;> subst z <;> simp [rdF])).tr (rdF_nx y2)
  have hf : ∀ r j, ¬ (nxF r j ∨ r = (111, 0) ∨ r = (112, 0)) → xI M3 r j = xI M r j := fun r j hn => by
    rw [(y2 r j (fun z => hn (.inl z))).1, (s2 r j (fun z => hn (.inr z))).1, (x2 r j (fun z => hn (.inl z))).1]
  have hna : ∀ q, q ≤ pP s → xI M3 (111, 0) q = iZ ((if q = pP s then st1 else pNa s q : Nat)) ∧ xI M3 (112, 0) q = iZ ((if q = pP s then ln else pNl s q : Nat)) := fun q hq => by
    rw [(y2 (111, 0) q (by simp)).1, (y2 (112, 0) q (by simp)).1, xI_pI, if_neg (by simp), xI_pI, xI_pI]
    by_cases e : q = pP s
    · rw [if_pos ⟨rfl, e⟩, if_pos e, if_pos ⟨rfl, e⟩, if_pos e]
      exact ⟨rfl, rfl⟩
    · rw [if_neg (fun z => e z.2), if_neg e, if_neg (fun z => e z.2), if_neg e, xI_pI, if_neg (by simp), (x2 (111, 0) q (by simp)).1, (x2 (112, 0) q (by simp)).1]
      exact hc q (by omega)
  have hM3 : pM M3 N T (adv N T st1, (pP s, (fun q => if q = pP s then st1 else pNa s q), fun q => if q = pP s then ln else pNl s q), s.2.2) := by
    refine ⟨y3, ⟨?_, ?_, ?_⟩, fun q hq => ?_, fun j hj => ⟨?_, ?_, ?_, ?_⟩, fun c hc => ?_⟩
    · rw [hf (12, 0) 26 (by decide)]; exact b1
    · rw [hf (12, 0) 27 (by decide)]; exact b2
    · rw [hf (12, 0) 28 (by decide)]; exact b3
    · exact hna q (Nat.le_of_lt hq)
    · rw [hf (113, 0) j (by simp)]; exact (hd j hj).1
    · rw [hf (114, 0) j (by simp)]; exact (hd j hj).2.1
    · rw [hf (115, 0) j (by simp)]; exact (hd j hj).2.2.1
    · rw [hf (116, 0) j (by simp)]; exact (hd j hj).2.2.2
    · rw [hf (101, 0) c (by simp)]; exact he c hc
  generalize hsB : (adv N T st1, (pP s, (fun q => if q = pP s then st1 else pNa s q), fun q => if q = pP s then ln else pNl s q), s.2.2) = sB at *
  have gP : pP sB = pP s := by rw [← hsB]; rfl
  have gX : pX sB = pX s := by rw [← hsB]; rfl
  have gC : pC sB = pC s := by rw [← hsB]; rfl
  have g22 : sB.2.2 = s.2.2 := by rw [← hsB]
  have gNa : ∀ q, pNa sB q = if q = pP s then st1 else pNa s q := fun q => by rw [← hsB]; rfl
  have gNl : ∀ q, pNl sB q = if q = pP s then ln else pNl s q := fun q => by rw [← hsB]; rfl
  obtain ⟨M4, z1, z2⟩ := m_aBox hM3 (by omega) (by omega) (fun c hc => by rw [gC, gP]; have := o7 c hc; omega)
  rw [gP] at z2
  have f26 : xI M3 (12, 0) 26 = iZ (pP s) := by rw [hM3.2.1.1, gP]
  rcases z2 with ⟨f, w1, w2, w3⟩ | ⟨s4, w1, w2, w3, w4⟩
  · rw [w1]
    refine ⟨M4, s3.tr (bxF_rd z1), .inl ⟨f, rfl, ?_, w3⟩⟩
    show xfix gX12_aPart (0, [some (.inr (.inr (12, 0)))], [], M) = _; rw [xfix_unf, sX12_aPart_0]
    simp (disch := omega) only [xk_none, xk_inl, xk_inr, xk_ite, xri_v, xrl_v, xrv_v, xb_z0, xb_z1, xb_b2, if_true, if_false, ite_true, ite_false, iZ_lit, iZ_m1, iZ_m99, iZ_m8, iZ_add, iZ_sub, iZ_mul, iZ_neg, nz0, nzi, iZ_lt, iZ_le, iZ_inj, b2_z, b2_o, ite_bPz, ite_bPo, xb_bP, iZ_xin, if_pos, ite_self, ↓reduceIte, Int.reduceAdd, Int.reduceSub, Int.reduceMul, Int.reduceNeg, Int.reduceLT, Int.reduceLE, if_neg, b1, x1, e20, c2, hkn, e1, e21, e19, eL, iZ_clampN, hp, y1, f26, w2]
  · rw [w1]
    have q4 := bxR.of w4
    have eP := (pP_of w4.1).trans gP
    have hR4 : bxR s4 s4 := ⟨rfl, rfl, q4.2.2.1, by rw [eP, ← gP]; exact q4.2.2.2.1, by rw [eP, ← gP]; exact q4.2.2.2.2.1, fun p _ w => w⟩
    obtain ⟨M5, v1, v2⟩ := m_boxes 30 M4 s4 (by omega) w3 (by omega) hR4
    have top : fX12_aPart [.inr (.inr (12, 0))] M = xfix gX12_aPart (95, [some (.inr (.inr (12, 0)))], [], M4) := by
      show xfix gX12_aPart (0, [some (.inr (.inr (12, 0)))], [], M) = _; rw [xfix_unf, sX12_aPart_0]
      simp (disch := omega) only [xk_none, xk_inl, xk_inr, xk_ite, xri_v, xrl_v, xrv_v, xb_z0, xb_z1, xb_b2, if_true, if_false, ite_true, ite_false, iZ_lit, iZ_m1, iZ_m99, iZ_m8, iZ_add, iZ_sub, iZ_mul, iZ_neg, nz0, nzi, iZ_lt, iZ_le, iZ_inj, b2_z, b2_o, ite_bPz, ite_bPo, xb_bP, iZ_xin, if_pos, ite_self, ↓reduceIte, Int.reduceAdd, Int.reduceSub, Int.reduceMul, Int.reduceNeg, Int.reduceLT, Int.reduceLE, if_neg, b1, x1, e20, c2, hkn, e1, e21, e19, eL, iZ_clampN, hp, y1, f26, w2]
    have s5 : xSm rdF M M5 := (s3.tr (bxF_rd z1)).tr (bxF_rd v1)
    rcases v2 with ⟨f, u1, u2, u3⟩ | ⟨s5', u1, u2, u3, u4, u5⟩
    · show rRes rdF (pNx N T s) M N T _ (match pBoxes N T 30 s4 with | .inl f => .inl f | .inr s2 => pNeed False N T (pSt s2, (pP s2 + 1, s2.2.1.2), s2.2.2) 59)
      rw [u1]
      exact ⟨M5, s5, .inl ⟨f, rfl, top.trans u2, u3⟩⟩
    · show rRes rdF (pNx N T s) M N T _ (match pBoxes N T 30 s4 with | .inl f => .inl f | .inr s2 => pNeed False N T (pSt s2, (pP s2 + 1, s2.2.1.2), s2.2.2) 59)
      rw [u1]
      have q5 := q4.tr u5
      have eP5 := (pP_of q5.1).trans gP
      have f5 := u4.2.1.1
      rw [eP5] at f5
      have hM6 : pM (xpI M5 (12, 0) 26 (iZ ((pP s : Int) + 1))) N T (pSt s5', (pP s5' + 1, s5'.2.1.2), s5'.2.2) := by
        obtain ⟨m1, ⟨m2, m3, m4⟩, m5, m6, m7⟩ := u4
        refine ⟨m1.sm (P := fun r j => r = (12, 0) ∧ j = 26) (xSm.rf.pI ⟨rfl, rfl⟩) (fun j hj z => by omega) (fun j => by simp), ⟨?_, ?_, ?_⟩, fun q hq => ?_, fun j hj => ?_, fun c hc => ?_⟩
        · rw [pF_eq]
          show iZ ((pP s : Int) + 1) = iZ ((pP s5' + 1 : Nat) : Int)
          rw [eP5]; rfl
        · rw [pF_ne (by decide)]; exact m3
        · rw [pF_ne (by decide)]; exact m4
        · have hq2 : q ≤ pP s := by
            have : q < pP s5' + 1 := hq
            omega
          show xI _ (111, 0) q = iZ (pNa s5' q) ∧ xI _ (112, 0) q = iZ (pNl s5' q)
          rw [pNa_of q5.1, pNl_of q5.1, xI_pI, if_neg (by simp), xI_pI, if_neg (by simp), (v1 (111, 0) q (by simp)).1, (v1 (112, 0) q (by simp)).1, (z1 (111, 0) q (by simp)).1, (z1 (112, 0) q (by simp)).1, gNa, gNl]
          exact hna q hq2
        · have := m6 j hj
          rw [xI_pI, if_neg (by simp), xI_pI, if_neg (by simp), xI_pI, if_neg (by simp), xI_pI, if_neg (by simp)]
          exact this
        · rw [xI_pI, if_neg (by simp)]; exact m7 c hc
      obtain ⟨M7, n1, n2⟩ := m_need (c := 59) hM6 (by omega)
      have tk5 := u4.1.2.2.2.2.2.1
      have hb5 := tk_b False N T (pSt s5')
      have s7 : xSm rdF M M7 := (s5.pI (.inl ⟨rfl, by omega⟩)).tr (numF_rd n1)
      rcases n2 with ⟨f, p1, p2, p3⟩ | ⟨s7', p1, p2, p3, p4⟩
      · refine ⟨M7, s7, .inl ⟨f, p1, (top.trans u2).trans ?_, p3⟩⟩
        have p2' : fX12_need [.inr (.inr (12, 0)), .inl (iZ ((59 : Int)))] (xpI M5 (12, 0) 26 (iZ ((pP s : Int) + 1))) = some (some (.inl (iZ (0))), M7) := p2
        rw [xfix_unf, sX12_aPart_95]
        simp (disch := omega) only [xk_none, xk_inl, xk_inr, xk_ite, xri_v, xrl_v, xrv_v, xb_z0, xb_z1, xb_b2, if_true, if_false, ite_true, ite_false, iZ_lit, iZ_m1, iZ_m99, iZ_m8, iZ_add, iZ_sub, iZ_mul, iZ_neg, nz0, nzi, iZ_lt, iZ_le, iZ_inj, b2_z, b2_o, ite_bPz, ite_bPo, xb_bP, iZ_xin, if_pos, ite_self, ↓reduceIte, Int.reduceAdd, Int.reduceSub, Int.reduceMul, Int.reduceNeg, Int.reduceLT, Int.reduceLE, if_neg, tk5, u3, f5, p2']
      · have p2' : fX12_need [.inr (.inr (12, 0)), .inl (iZ ((59 : Int)))] (xpI M5 (12, 0) 26 (iZ ((pP s : Int) + 1))) = some (some (.inl (iZ (1))), M7) := p2
        have j1 : s7'.2.1 = (pP s5' + 1, s5'.2.1.2) := by rw [p4]
        have j2 : s7'.2.2 = s5'.2.2 := by rw [p4]
        have i1 : pP s7' = pP s + 1 := (congrArg (fun x => x.1) j1).trans (by rw [eP5])
        have i2 : pNa s7' = pNa sB := (congrArg (fun x => x.2.1) j1).trans (pNa_of q5.1)
        have i3 : pNl s7' = pNl sB := (congrArg (fun x => x.2.2) j1).trans (pNl_of q5.1)
        have i4 : s7'.2.2.1 = s.2.2.1 := ((congrArg (fun x => x.1) j2).trans q5.2.1).trans (congrArg (fun x => x.1) g22)
        have i5 : pX s7' = pX s5' := congrArg (fun x => x.2.1) j2
        have i6 : pC s7' = pC s5' := congrArg (fun x => x.2.2) j2
        have i7 : pJ s7' = pJ s := congrArg (fun x => x.1) i4
        have i8 : pOne s7' = pOne s := congrArg (fun x => x.2.1) i4
        have i9 : pTwo s7' = pTwo s := congrArg (fun x => x.2.2.1) i4
        have i10 : pAt s7' = pAt s := congrArg (fun x => x.2.2.2.1) i4
        have i11 : pWy s7' = pWy s := congrArg (fun x => x.2.2.2.2) i4
        obtain ⟨_, _, r3, r4, r5, r6⟩ := q5
        rw [gP] at r4 r5 r6
        refine ⟨M7, s7, .inr ⟨s7', p1, (top.trans u2).trans ?_, p3, ⟨⟨by omega, by omega, by omega, by omega⟩, fun q hq => ?_, fun j hj => ?_, fun c hc => ?_, fun p hp => ?_⟩, by omega⟩⟩
        · rw [xfix_unf, sX12_aPart_95]
          simp (disch := omega) only [xk_none, xk_inl, xk_inr, xk_ite, xri_v, xrl_v, xrv_v, xb_z0, xb_z1, xb_b2, if_true, if_false, ite_true, ite_false, iZ_lit, iZ_m1, iZ_m99, iZ_m8, iZ_add, iZ_sub, iZ_mul, iZ_neg, nz0, nzi, iZ_lt, iZ_le, iZ_inj, b2_z, b2_o, ite_bPz, ite_bPo, xb_bP, iZ_xin, if_pos, ite_self, ↓reduceIte, Int.reduceAdd, Int.reduceSub, Int.reduceMul, Int.reduceNeg, Int.reduceLT, Int.reduceLE, if_neg, tk5, u3, f5, p2']
        · rw [i2, i3, gNa, gNl]
          by_cases e : q = pP s
          · rw [if_pos e, if_pos e]
            exact ⟨by omega, by omega, by omega, t5⟩
          · rw [if_neg e, if_neg e]
            exact o5 q (by omega)
        · rw [i8, i9, i10, i11]
          obtain ⟨l1, l2, l3⟩ := o6 j (by omega)
          exact ⟨by omega, by omega, l3⟩
        · rw [i6]
          have := r4 c hc
          omega
        · rw [i6]
          by_cases e : p = pP s
          · rw [e]; exact r5
          · exact r6 p (by omega) (by rw [gC]; exact o8 p (by omega))
