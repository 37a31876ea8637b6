/-! the class: a record's text -/
def cNm (M : xM) (A : dA) (S : dS) : Prop := (xI M (5, 0) 0 = iZ (aP A) ∧ aP A ≤ 9) ∧ ∀ q, q < aP A → xI M (40, 0) q = iZ (wv (sNc S q) (sNl S q)) ∧ 1 ≤ sNl S q ∧ sNl S q ≤ 6 ∧ ∀ k, k < sNl S q → 97 ≤ sNc S q k ∧ sNc S q k ≤ 122
theorem cNm.sm {M M' : xM} {A : dA} {S : dS} {P : xR → Nat → Prop} (h : cNm M A S) (hs : xSm P M M') (h1 : ¬ P (5, 0) 0) (h2 : ∀ j, ¬ P (40, 0) j) : cNm M' A S := ⟨⟨by rw [(hs _ _ h1).1]; exact h.1.1, h.1.2⟩, fun q hq => ⟨by rw [(hs _ _ (h2 q)).1]; exact (h.2 q hq).1, (h.2 q hq).2⟩⟩
theorem x_rname {M : xM} {A : dA} {S : dS} {N st : Nat} {T : Nat → Nat} (hT : pT M N T st) (hN : cNm M A S) (h3 : ck N T st = 1) : fX5_partNamed [.inr (.inr (5, 0)), .inl (iZ ((wv (fun k => T (st + k)) (tE N T st - st))))] M = some (some (.inl (iZ (if rKn A S N T st < aP A then (rKn A S N T st : Int) else -1))), M) := by
  obtain ⟨_, a3, a4, a5⟩ := ck1 h3
  have hv := (hT.val h3).2
  rw [x_partNamed (nm := fun q => wv (sNc S q) (sNl S q)) hN.1.2 hN.1.1 hv (fun q hq => ⟨(hN.2 q hq).1, by
    obtain ⟨_, x1, x2, x3⟩ := hN.2 q hq
    have := wv_b x2 x3
    unfold r32
    omega⟩)]
  have e : lst (fun q => wv (sNc S q) (sNl S q) = wv (fun k => T (st + k)) (tE N T st - st)) (aP A) = rKn A S N T st := lst_cg fun q hq => by
    obtain ⟨_, x1, x2, x3⟩ := hN.2 q hq
    unfold wNm
    constructor
    · intro z
      obtain ⟨y1, y2⟩ := wv_inj x3 a5 z
      exact ⟨y1, y2⟩
    · rintro ⟨y1, y2⟩
      rw [← y1]
      exact wv_cg y2
  rw [e]
theorem bc_or_d : ((List.range 512).all fun h => (List.range 9).all fun q => h.testBit q || bc (h ||| 2 ^ q) == bc h + 1) = true := by decide +kernel
theorem bc_or {h q : Nat} (hh : h < 512) (hq : q < 9) (hb : h.testBit q = false) : bc (h ||| 2 ^ q) = bc h + 1 := by
  have h1 := List.all_eq_true.mp (List.all_eq_true.mp bc_or_d h (List.mem_range.mpr hh)) q (List.mem_range.mpr hq)
  rw [hb, Bool.false_or] at h1
  exact eq_of_beq h1
theorem x_addName {M : xM} {A : dA} {S : dS} {N st h n : Nat} {T : Nat → Nat} (hT : pT M N T st) (hN : cNm M A S) (f5 : xI M (4, 0) 5 = iZ n) (hn : n ≤ 16) (h0 : h ≠ 0 → n < 16) (hh : h < 2 ^ aP A) : ∃ M', (tk True N T st ≠ 3 ∧ fX4_addName [.inr (.inr (4, 0)), .inl (iZ (h))] M = some (some (.inl (iZ (-1))), M') ∧ cFl M' (1, st) ∧ xSm ffF M M') ∨ (tk True N T st = 3 ∧ (¬ rKn A S N T st < aP A ∨ h.testBit (rKn A S N T st) = true) ∧ fX4_addName [.inr (.inr (4, 0)), .inl (iZ (h))] M = some (some (.inl (iZ (-1))), M') ∧ cFl M' (2, st) ∧ xSm ffF M M') ∨ (tk True N T st = 3 ∧ rKn A S N T st < aP A ∧ h.testBit (rKn A S N T st) = false ∧ n = 16 ∧ fX4_addName [.inr (.inr (4, 0)), .inl (iZ (h))] M = some (some (.inl (iZ (-1))), M') ∧ cFl M' (3, st) ∧ xSm ffF M M') ∨ (tk True N T st = 3 ∧ rKn A S N T st < aP A ∧ h.testBit (rKn A S N T st) = false ∧ n < 16 ∧ fX4_addName [.inr (.inr (4, 0)), .inl (iZ (h))] M = some (some (.inl (iZ (((h ||| 2 ^ rKn A S N T st : Nat) : Int)))), M') ∧ pT M' N T (adv N T st) ∧ xSm tpF M M') := by
  have hP := hN.1.2
  have h512 := Nat.lt_of_lt_of_le hh (pow9 hP).2
  have hs := x_says (k := 3) hT.1 hT.2.1 hT.2.2.1 (by omega)
  rw [bP_c tk_and] at hs
  have hw := x_wayHere True hT.1 hT.2.1 hT.2.2.1
  have hk := hT.2.1.2.2.1
  have hc := ck_b N T st
  by_cases e3 : tk True N T st = 3
  · have c1 := tk3_ck e3
    rw [c1] at hk
    rw [bP_f (by omega)] at hs
    have hw' : fX8_wayHere [.inr (.inr (8, 0))] M = some (some (.inl (iZ (-1))), M) := by rw [hw]; unfold wyA; rw [if_neg (by omega)]
    obtain ⟨v1, v2⟩ := hT.val c1
    have hnm := x_rname hT hN c1
    generalize wv (fun k => T (st + k)) (tE N T st - st) = w at *
    by_cases e4 : rKn A S N T st < aP A
    · rw [if_pos e4] at hnm
      by_cases e5 : h.testBit (rKn A S N T st) = true
      · obtain ⟨M1, a1, a2, a3⟩ := x_refuseTo hT 2
        refine ⟨M1, .inr (.inl ⟨e3, .inr e5, ?_, a3, a2⟩)⟩
        generalize rKn A S N T st = q at *
        show xfix gX4_addName (0, [some (.inr (.inr (4, 0))), some (.inl (iZ (h))), none], [], M) = _; rw [xfix_unf, sX4_addName_0]
        simp (disch := omega) only [xk_none, xk_inl, xk_inr, xk_ite, xri_v, xrl_v, xrv_v, xb_z0, xb_z1, xb_b2, if_true, if_false, ite_true, ite_false, iZ_lit, iZ_m1, iZ_m99, iZ_m8, iZ_add, iZ_sub, iZ_mul, iZ_neg, nz0, nzi, iZ_lt, iZ_le, iZ_inj, b2_z, b2_o, ite_bPz, ite_bPo, xb_bP, iZ_xin, if_pos, ite_self, ↓reduceIte, Int.reduceAdd, Int.reduceSub, Int.reduceMul, Int.reduceNeg, Int.reduceLT, Int.reduceLE, if_neg, nS, iZ_clampN, iZ_bit, iZ_one, iZ_and, iZ_or, iZ_ndn, hk, hs, hw', v1, hnm, bP_t e5, a1]
      · have e5' : h.testBit (rKn A S N T st) = false := by simpa using e5
        by_cases e6 : n = 16
        · obtain ⟨M1, a1, a2, a3⟩ := x_refuseTo hT 3
          refine ⟨M1, .inr (.inr (.inl ⟨e3, e4, e5', e6, ?_, a3, a2⟩))⟩
          have z : h = 0 := Classical.byContradiction fun z => by have := h0 z; omega
          generalize rKn A S N T st = q at *
          show xfix gX4_addName (0, [some (.inr (.inr (4, 0))), some (.inl (iZ (h))), none], [], M) = _; rw [xfix_unf, sX4_addName_0]
          simp (disch := omega) only [xk_none, xk_inl, xk_inr, xk_ite, xri_v, xrl_v, xrv_v, xb_z0, xb_z1, xb_b2, if_true, if_false, ite_true, ite_false, iZ_lit, iZ_m1, iZ_m99, iZ_m8, iZ_add, iZ_sub, iZ_mul, iZ_neg, nz0, nzi, iZ_lt, iZ_le, iZ_inj, b2_z, b2_o, ite_bPz, ite_bPo, xb_bP, iZ_xin, if_pos, ite_self, ↓reduceIte, Int.reduceAdd, Int.reduceSub, Int.reduceMul, Int.reduceNeg, Int.reduceLT, Int.reduceLE, if_neg, nS, iZ_clampN, iZ_bit, iZ_one, iZ_and, iZ_or, iZ_ndn, hk, hs, hw', v1, hnm, bP_f e5, f5, a1]
        · obtain ⟨M1, a1, a2, a3⟩ := x_adv hT
          refine ⟨M1, .inr (.inr (.inr ⟨e3, e4, e5', by omega, ?_, a3, a2⟩))⟩
          generalize rKn A S N T st = q at *
          by_cases z : h = 0
          · show xfix gX4_addName (0, [some (.inr (.inr (4, 0))), some (.inl (iZ (h))), none], [], M) = _; rw [xfix_unf, sX4_addName_0]
            simp (disch := omega) only [xk_none, xk_inl, xk_inr, xk_ite, xri_v, xrl_v, xrv_v, xb_z0, xb_z1, xb_b2, if_true, if_false, ite_true, ite_false, iZ_lit, iZ_m1, iZ_m99, iZ_m8, iZ_add, iZ_sub, iZ_mul, iZ_neg, nz0, nzi, iZ_lt, iZ_le, iZ_inj, b2_z, b2_o, ite_bPz, ite_bPo, xb_bP, iZ_xin, if_pos, ite_self, ↓reduceIte, Int.reduceAdd, Int.reduceSub, Int.reduceMul, Int.reduceNeg, Int.reduceLT, Int.reduceLE, if_neg, nS, iZ_clampN, iZ_bit, iZ_one, iZ_and, iZ_or, iZ_ndn, hk, hs, hw', v1, hnm, bP_f e5, f5, a1]
          · show xfix gX4_addName (0, [some (.inr (.inr (4, 0))), some (.inl (iZ (h))), none], [], M) = _; rw [xfix_unf, sX4_addName_0]
            simp (disch := omega) only [xk_none, xk_inl, xk_inr, xk_ite, xri_v, xrl_v, xrv_v, xb_z0, xb_z1, xb_b2, if_true, if_false, ite_true, ite_false, iZ_lit, iZ_m1, iZ_m99, iZ_m8, iZ_add, iZ_sub, iZ_mul, iZ_neg, nz0, nzi, iZ_lt, iZ_le, iZ_inj, b2_z, b2_o, ite_bPz, ite_bPo, xb_bP, iZ_xin, if_pos, ite_self, ↓reduceIte, Int.reduceAdd, Int.reduceSub, Int.reduceMul, Int.reduceNeg, Int.reduceLT, Int.reduceLE, if_neg, nS, iZ_clampN, iZ_bit, iZ_one, iZ_and, iZ_or, iZ_ndn, hk, hs, hw', v1, hnm, bP_f e5, f5, a1]
    · rw [if_neg e4] at hnm
      obtain ⟨M1, a1, a2, a3⟩ := x_refuseTo hT 2
      refine ⟨M1, .inr (.inl ⟨e3, .inl e4, ?_, a3, a2⟩)⟩
      show xfix gX4_addName (0, [some (.inr (.inr (4, 0))), some (.inl (iZ (h))), none], [], M) = _; rw [xfix_unf, sX4_addName_0]
      simp (disch := omega) only [xk_none, xk_inl, xk_inr, xk_ite, xri_v, xrl_v, xrv_v, xb_z0, xb_z1, xb_b2, if_true, if_false, ite_true, ite_false, iZ_lit, iZ_m1, iZ_m99, iZ_m8, iZ_add, iZ_sub, iZ_mul, iZ_neg, nz0, nzi, iZ_lt, iZ_le, iZ_inj, b2_z, b2_o, ite_bPz, ite_bPo, xb_bP, iZ_xin, if_pos, ite_self, ↓reduceIte, Int.reduceAdd, Int.reduceSub, Int.reduceMul, Int.reduceNeg, Int.reduceLT, Int.reduceLE, if_neg, nS, iZ_clampN, iZ_bit, iZ_one, iZ_and, iZ_or, iZ_ndn, hk, hs, hw', v1, hnm, a1]
  · obtain ⟨M1, a1, a2, a3⟩ := x_refuseTo hT 1
    refine ⟨M1, .inl ⟨e3, ?_, a3, a2⟩⟩
    by_cases c1 : ck N T st = 1
    · rw [c1] at hk
      by_cases e7 : tk True N T st = 7
      · rw [bP_t e7] at hs
        show xfix gX4_addName (0, [some (.inr (.inr (4, 0))), some (.inl (iZ (h))), none], [], M) = _; rw [xfix_unf, sX4_addName_0]
        simp (disch := omega) only [xk_none, xk_inl, xk_inr, xk_ite, xri_v, xrl_v, xrv_v, xb_z0, xb_z1, xb_b2, if_true, if_false, ite_true, ite_false, iZ_lit, iZ_m1, iZ_m99, iZ_m8, iZ_add, iZ_sub, iZ_mul, iZ_neg, nz0, nzi, iZ_lt, iZ_le, iZ_inj, b2_z, b2_o, ite_bPz, ite_bPo, xb_bP, iZ_xin, if_pos, ite_self, ↓reduceIte, Int.reduceAdd, Int.reduceSub, Int.reduceMul, Int.reduceNeg, Int.reduceLT, Int.reduceLE, if_neg, hk, hs, a1]
      · rw [bP_f e7] at hs
        have tw : 20 ≤ tk True N T st ∧ tk True N T st ≤ 25 := by
          have tb : tk True N T st = tW True T st (tE N T st) := tk_w c1
          have tc := tW_cs True T st (tE N T st) (ck1 c1).2.1
          rw [← tb] at tc
          rcases tc with ⟨j, j1, j2, _⟩ | ⟨_, _, j1⟩ | ⟨i, i1, _, i3⟩ | ⟨_, _, _, i4⟩
          · exact (j2 trivial).elim
          · omega
          · omega
          · omega
        have hw' : fX8_wayHere [.inr (.inr (8, 0))] M = some (some (.inl (iZ ((tk True N T st : Int) - 20))), M) := by rw [hw]; unfold wyA; rw [if_pos tw]
        generalize tk True N T st = y at *
        show xfix gX4_addName (0, [some (.inr (.inr (4, 0))), some (.inl (iZ (h))), none], [], M) = _; rw [xfix_unf, sX4_addName_0]
        simp (disch := omega) only [xk_none, xk_inl, xk_inr, xk_ite, xri_v, xrl_v, xrv_v, xb_z0, xb_z1, xb_b2, if_true, if_false, ite_true, ite_false, iZ_lit, iZ_m1, iZ_m99, iZ_m8, iZ_add, iZ_sub, iZ_mul, iZ_neg, nz0, nzi, iZ_lt, iZ_le, iZ_inj, b2_z, b2_o, ite_bPz, ite_bPo, xb_bP, iZ_xin, if_pos, ite_self, ↓reduceIte, Int.reduceAdd, Int.reduceSub, Int.reduceMul, Int.reduceNeg, Int.reduceLT, Int.reduceLE, if_neg, hk, hs, hw', a1]
    · generalize ck N T st = y at *
      show xfix gX4_addName (0, [some (.inr (.inr (4, 0))), some (.inl (iZ (h))), none], [], M) = _; rw [xfix_unf, sX4_addName_0]
      simp (disch := omega) only [xk_none, xk_inl, xk_inr, xk_ite, xri_v, xrl_v, xrv_v, xb_z0, xb_z1, xb_b2, if_true, if_false, ite_true, ite_false, iZ_lit, iZ_m1, iZ_m99, iZ_m8, iZ_add, iZ_sub, iZ_mul, iZ_neg, nz0, nzi, iZ_lt, iZ_le, iZ_inj, b2_z, b2_o, ite_bPz, ite_bPo, xb_bP, iZ_xin, if_pos, ite_self, ↓reduceIte, Int.reduceAdd, Int.reduceSub, Int.reduceMul, Int.reduceNeg, Int.reduceLT, Int.reduceLE, if_neg, hk, a1]
theorem x_recPs {A : dA} {S : dS} {N : Nat} {T : Nat → Nat} {n : Nat} (hn : n < 16) : ∀ (f i h st : Nat) (M : xM), 10 ≤ f + bc h → i + 1 ≤ bc h → h < 2 ^ aP A → h ≠ 0 → pT M N T st → cNm M A S → xI M (4, 0) 5 = iZ n → ∃ M', (∃ x, (if tk True N T st = 7 then rPs A S N T n f h (adv N T st) else .inr (h, st)) = .inl x ∧ xfix gX4_readStep (15, [some (.inr (.inr (4, 0))), some (.inl (iZ (h))), some (.inl (iZ (i)))], [], M) = some (some (.inl (iZ (0))), M') ∧ cFl M' x ∧ xSm (fun r j => r = (8, 0) ∧ 2 ≤ j ∧ j ≤ 7) M M') ∨ ∃ h' st', (if tk True N T st = 7 then rPs A S N T n f h (adv N T st) else .inr (h, st)) = .inr (h', st') ∧ xfix gX4_readStep (15, [some (.inr (.inr (4, 0))), some (.inl (iZ (h))), some (.inl (iZ (i)))], [], M) = xfix gX4_readStep (59, [some (.inr (.inr (4, 0))), some (.inl (iZ (h'))), none], [], M') ∧ pT M' N T st' ∧ xSm tpF M M' ∧ 1 ≤ h' ∧ h' < 2 ^ aP A := by
  intro f
  induction f with
  | zero =>
    intro i h st M h1 h2
    have := bc_le h
    omega
  | succ f ih =>
    intro i h st M h1 h2 h3 h4 hT hN f5
    have hP := hN.1.2
    have h512 := Nat.lt_of_lt_of_le h3 (pow9 hP).2
    have hb := bc_le h
    have hs := x_says (k := 3) hT.1 hT.2.1 hT.2.2.1 (by omega)
    rw [bP_c tk_and] at hs
    by_cases e7 : tk True N T st = 7
    · rw [bP_t e7] at hs
      rw [if_pos e7]
      obtain ⟨M1, a1, a2, a3⟩ := x_adv hT
      have g5 : xI M1 (4, 0) 5 = iZ n := by rw [(a2 (4, 0) 5 (by simp)).1]; exact f5
      have hN1 : cNm M1 A S := hN.sm a2 (by simp) (by simp)
      obtain ⟨u, eu⟩ : ∃ u, u = adv N T st := ⟨_, rfl⟩
      rw [← eu] at a3 ⊢
      obtain ⟨M2, b⟩ := x_addName a3 hN1 g5 (by omega) (fun _ => hn) h3
      have eR : rPs A S N T n (f + 1) h u = if tk True N T u ≠ 3 then .inl (1, u) else if ¬ rKn A S N T u < aP A ∨ h.testBit (rKn A S N T u) = true then .inl (2, u) else if n = 16 then .inl (3, u) else if tk True N T (adv N T u) = 7 then rPs A S N T n f (h ||| 2 ^ rKn A S N T u) (adv N T (adv N T u)) else .inr (h ||| 2 ^ rKn A S N T u, adv N T u) := rfl
      have w1 : xSm (fun r j => r = (8, 0) ∧ 2 ≤ j ∧ j ≤ 7) M M1 := a2.wk fun r j z => ⟨z.1, by omega⟩
      have ffw : ∀ {K K' : xM}, xSm ffF K K' → xSm (fun r j => r = (8, 0) ∧ 2 ≤ j ∧ j ≤ 7) K K' := fun h => h.wk fun r j z => ⟨z.1, by omega⟩
      rcases b with ⟨b1, b2, b3, b4⟩ | ⟨b0, b1, b2, b3, b4⟩ | ⟨b0, b1, b1', b1'', b2, b3, b4⟩ | ⟨b0, b1, b1', b1'', b2, b3, b4⟩
      · refine ⟨M2, .inl ⟨(1, u), by rw [eR, if_pos b1], ?_, b3, w1.tr (ffw b4)⟩⟩
        rw [xfix_unf, sX4_readStep_15]
        simp (disch := omega) only [xk_none, xk_inl, xk_inr, xk_ite, xri_v, xrl_v, xrv_v, xb_z0, xb_z1, xb_b2, if_true, if_false, ite_true, ite_false, iZ_lit, iZ_m1, iZ_m99, iZ_m8, iZ_add, iZ_sub, iZ_mul, iZ_neg, nz0, nzi, iZ_lt, iZ_le, iZ_inj, b2_z, b2_o, ite_bPz, ite_bPo, xb_bP, iZ_xin, if_pos, ite_self, ↓reduceIte, Int.reduceAdd, Int.reduceSub, Int.reduceMul, Int.reduceNeg, Int.reduceLT, Int.reduceLE, if_neg, hs, a1, b2]
      · refine ⟨M2, .inl ⟨(2, u), by rw [eR, if_neg (fun z => z b0), if_pos b1], ?_, b3, w1.tr (ffw b4)⟩⟩
        rw [xfix_unf, sX4_readStep_15]
        simp (disch := omega) only [xk_none, xk_inl, xk_inr, xk_ite, xri_v, xrl_v, xrv_v, xb_z0, xb_z1, xb_b2, if_true, if_false, ite_true, ite_false, iZ_lit, iZ_m1, iZ_m99, iZ_m8, iZ_add, iZ_sub, iZ_mul, iZ_neg, nz0, nzi, iZ_lt, iZ_le, iZ_inj, b2_z, b2_o, ite_bPz, ite_bPo, xb_bP, iZ_xin, if_pos, ite_self, ↓reduceIte, Int.reduceAdd, Int.reduceSub, Int.reduceMul, Int.reduceNeg, Int.reduceLT, Int.reduceLE, if_neg, hs, a1, b2]
      · omega
      · have hq : rKn A S N T u < 9 := by omega
        have hor := bc_or h512 hq b1'
        have hlt : h ||| 2 ^ rKn A S N T u < 2 ^ aP A := Nat.or_lt_two_pow h3 (Nat.pow_lt_pow_right (by omega) b1)
        have hnz : h ||| 2 ^ rKn A S N T u ≠ 0 := fun z => h4 (by
          have : h ≤ h ||| 2 ^ rKn A S N T u := Nat.left_le_or
          omega)
        have g5' : xI M2 (4, 0) 5 = iZ n := by rw [(b4 (4, 0) 5 (by simp)).1]; exact g5
        obtain ⟨M3, c⟩ := ih (i + 1) (h ||| 2 ^ rKn A S N T u) (adv N T u) M2 (by omega) (by omega) hlt hnz b3 (hN1.sm b4 (by simp) (by simp)) g5'
        have hl2 := Nat.lt_of_lt_of_le hlt (pow9 hP).2
        have t1 : xfix gX4_readStep (15, [some (.inr (.inr (4, 0))), some (.inl (iZ (h))), some (.inl (iZ (i)))], [], M) = xfix gX4_readStep (15, [some (.inr (.inr (4, 0))), some (.inl (iZ (((h ||| 2 ^ rKn A S N T u : Nat))))), some (.inl (iZ (((i + 1 : Nat)))))], [], M2) := by
          rw [nS]
          generalize (h ||| 2 ^ rKn A S N T u : Nat) = R at *
          rw [xfix_unf, sX4_readStep_15]
          simp (disch := omega) only [xk_none, xk_inl, xk_inr, xk_ite, xri_v, xrl_v, xrv_v, xb_z0, xb_z1, xb_b2, if_true, if_false, ite_true, ite_false, iZ_lit, iZ_m1, iZ_m99, iZ_m8, iZ_add, iZ_sub, iZ_mul, iZ_neg, nz0, nzi, iZ_lt, iZ_le, iZ_inj, b2_z, b2_o, ite_bPz, ite_bPo, xb_bP, iZ_xin, if_pos, ite_self, ↓reduceIte, Int.reduceAdd, Int.reduceSub, Int.reduceMul, Int.reduceNeg, Int.reduceLT, Int.reduceLE, if_neg, hs, a1, b2]
        rw [eR, if_neg (fun z => z b0), if_neg (fun z => z.elim (fun z => z b1) (fun z => by rw [b1'] at z; cases z)), if_neg (by omega), t1]
        rcases c with ⟨x, c1, c2, c3, c4⟩ | ⟨h', st', c1, c2, c3, c4, c5⟩
        · exact ⟨M3, .inl ⟨x, c1, c2, c3, (w1.tr (b4.wk fun r j z => ⟨z.1, by omega⟩)).tr c4⟩⟩
        · exact ⟨M3, .inr ⟨h', st', c1, c2, c3, (a2.tr b4).tr c4, c5⟩⟩
    · rw [bP_f e7] at hs
      rw [if_neg e7]
      refine ⟨M, .inr ⟨h, st, rfl, ?_, hT, xSm.rf, by omega, h3⟩⟩
      rw [xfix_unf, sX4_readStep_15]
      simp (disch := omega) only [xk_none, xk_inl, xk_inr, xk_ite, xri_v, xrl_v, xrv_v, xb_z0, xb_z1, xb_b2, if_true, if_false, ite_true, ite_false, iZ_lit, iZ_m1, iZ_m99, iZ_m8, iZ_add, iZ_sub, iZ_mul, iZ_neg, nz0, nzi, iZ_lt, iZ_le, iZ_inj, b2_z, b2_o, ite_bPz, ite_bPo, xb_bP, iZ_xin, if_pos, ite_self, ↓reduceIte, Int.reduceAdd, Int.reduceSub, Int.reduceMul, Int.reduceNeg, Int.reduceLT, Int.reduceLE, if_neg, hs]
/-- the steps read so far -/
def cRc (M : xM) (A : dA) (s : rS) : Prop := (xI M (4, 0) 5 = iZ s.2.1 ∧ s.2.1 ≤ 16) ∧ ∀ j, j < s.2.1 → (xI M (36, 0) j = iZ (s.2.2.1 j) ∧ xI M (37, 0) j = iZ (s.2.2.2 j)) ∧ 1 ≤ s.2.2.1 j ∧ s.2.2.1 j < 2 ^ aP A ∧ s.2.2.2 j < 6
abbrev rcC (r : xR) (j : Nat) : Prop := (r = (8, 0) ∧ 2 ≤ j ∧ j ≤ 7) ∨ (r = (4, 0) ∧ j = 5) ∨ r = (36, 0) ∨ r = (37, 0)
theorem x_readStep {M : xM} {A : dA} {S : dS} {N : Nat} {T : Nat → Nat} {s : rS} (hT : pT M N T s.1) (hN : cNm M A S) (hR : cRc M A s) : ∃ M', xSm rcC M M' ∧ ((∃ f, rSt A S N T s = .inl f ∧ fX4_readStep [.inr (.inr (4, 0))] M = some (some (.inl (iZ (0))), M') ∧ cFl M' f) ∨ ∃ s', rSt A S N T s = .inr s' ∧ fX4_readStep [.inr (.inr (4, 0))] M = some (some (.inl (iZ (1))), M') ∧ pT M' N T s'.1 ∧ cRc M' A s' ∧ s'.2.1 = s.2.1 + 1) := by
  have hP := hN.1.2
  have ffw : ∀ {K K' : xM}, xSm ffF K K' → xSm rcC K K' := fun h => h.wk fun r j z => .inl ⟨z.1, by omega⟩
  have tpw : ∀ {K K' : xM}, xSm tpF K K' → xSm rcC K K' := fun h => h.wk fun r j z => .inl ⟨z.1, by omega⟩
  obtain ⟨M1, a⟩ := x_addName (h := 0) hT hN hR.1.1 hR.1.2 (fun z => absurd rfl z) (Nat.two_pow_pos _)
  have eR : rPs A S N T s.2.1 801 0 s.1 = if tk True N T s.1 ≠ 3 then .inl (1, s.1) else if ¬ rKn A S N T s.1 < aP A ∨ (0 : Nat).testBit (rKn A S N T s.1) = true then .inl (2, s.1) else if s.2.1 = 16 then .inl (3, s.1) else if tk True N T (adv N T s.1) = 7 then rPs A S N T s.2.1 800 (0 ||| 2 ^ rKn A S N T s.1) (adv N T (adv N T s.1)) else .inr (0 ||| 2 ^ rKn A S N T s.1, adv N T s.1) := rfl
  have z0 : ((0 : Nat) : Int) = 0 := rfl
  rw [z0] at a
  rcases a with ⟨b1, b2, b3, b4⟩ | ⟨b0, b1, b2, b3, b4⟩ | ⟨b0, b1, b1', b1'', b2, b3, b4⟩ | ⟨b0, b1, b1', b1'', b2, b3, b4⟩
  · refine ⟨M1, ffw b4, .inl ⟨(1, s.1), by unfold rSt; rw [eR, if_pos b1], ?_, b3⟩⟩
    show xfix gX4_readStep (0, [some (.inr (.inr (4, 0))), none, none], [], M) = _; rw [xfix_unf, sX4_readStep_0]
    simp (disch := omega) only [xk_none, xk_inl, xk_inr, xk_ite, xri_v, xrl_v, xrv_v, xb_z0, xb_z1, xb_b2, if_true, if_false, ite_true, ite_false, iZ_lit, iZ_m1, iZ_m99, iZ_m8, iZ_add, iZ_sub, iZ_mul, iZ_neg, nz0, nzi, iZ_lt, iZ_le, iZ_inj, b2_z, b2_o, ite_bPz, ite_bPo, xb_bP, iZ_xin, if_pos, ite_self, ↓reduceIte, Int.reduceAdd, Int.reduceSub, Int.reduceMul, Int.reduceNeg, Int.reduceLT, Int.reduceLE, if_neg, b2]
  · refine ⟨M1, ffw b4, .inl ⟨(2, s.1), by unfold rSt; rw [eR, if_neg (fun z => z b0), if_pos b1], ?_, b3⟩⟩
    show xfix gX4_readStep (0, [some (.inr (.inr (4, 0))), none, none], [], M) = _; rw [xfix_unf, sX4_readStep_0]
    simp (disch := omega) only [xk_none, xk_inl, xk_inr, xk_ite, xri_v, xrl_v, xrv_v, xb_z0, xb_z1, xb_b2, if_true, if_false, ite_true, ite_false, iZ_lit, iZ_m1, iZ_m99, iZ_m8, iZ_add, iZ_sub, iZ_mul, iZ_neg, nz0, nzi, iZ_lt, iZ_le, iZ_inj, b2_z, b2_o, ite_bPz, ite_bPo, xb_bP, iZ_xin, if_pos, ite_self, ↓reduceIte, Int.reduceAdd, Int.reduceSub, Int.reduceMul, Int.reduceNeg, Int.reduceLT, Int.reduceLE, if_neg, b2]
  · refine ⟨M1, ffw b4, .inl ⟨(3, s.1), by unfold rSt; rw [eR, if_neg (fun z => z b0), if_neg (fun z => z.elim (fun z => z b1) (fun z => by rw [b1'] at z; cases z)), if_pos b1''], ?_, b3⟩⟩
    show xfix gX4_readStep (0, [some (.inr (.inr (4, 0))), none, none], [], M) = _; rw [xfix_unf, sX4_readStep_0]
    simp (disch := omega) only [xk_none, xk_inl, xk_inr, xk_ite, xri_v, xrl_v, xrv_v, xb_z0, xb_z1, xb_b2, if_true, if_false, ite_true, ite_false, iZ_lit, iZ_m1, iZ_m99, iZ_m8, iZ_add, iZ_sub, iZ_mul, iZ_neg, nz0, nzi, iZ_lt, iZ_le, iZ_inj, b2_z, b2_o, ite_bPz, ite_bPo, xb_bP, iZ_xin, if_pos, ite_self, ↓reduceIte, Int.reduceAdd, Int.reduceSub, Int.reduceMul, Int.reduceNeg, Int.reduceLT, Int.reduceLE, if_neg, b2]
  · have hlt : 0 ||| 2 ^ rKn A S N T s.1 < 2 ^ aP A := Nat.or_lt_two_pow (Nat.two_pow_pos _) (Nat.pow_lt_pow_right (by omega) b1)
    have hl2 := Nat.lt_of_lt_of_le hlt (pow9 hP).2
    have hbc := bc_or (h := 0) (q := rKn A S N T s.1) (by omega) (by omega) b1'
    have hnz : 0 ||| 2 ^ rKn A S N T s.1 ≠ 0 := by rw [Nat.zero_or]; have := Nat.two_pow_pos (rKn A S N T s.1); omega
    have g5 : xI M1 (4, 0) 5 = iZ s.2.1 := by rw [(b4 (4, 0) 5 (by simp)).1]; exact hR.1.1
    obtain ⟨M2, c⟩ := x_recPs (A := A) (S := S) (n := s.2.1) b1'' 800 0 (0 ||| 2 ^ rKn A S N T s.1) (adv N T s.1) M1 (by omega) (by omega) hlt hnz b3 (hN.sm b4 (by simp) (by simp)) g5
    have t0 : fX4_readStep [.inr (.inr (4, 0))] M = xfix gX4_readStep (15, [some (.inr (.inr (4, 0))), some (.inl (iZ (((0 ||| 2 ^ rKn A S N T s.1 : Nat))))), some (.inl (iZ (((0 : Nat)))))], [], M1) := by
      rw [z0]
      generalize (0 ||| 2 ^ rKn A S N T s.1 : Nat) = R at *
      show xfix gX4_readStep (0, [some (.inr (.inr (4, 0))), none, none], [], M) = _; rw [xfix_unf, sX4_readStep_0]
      simp (disch := omega) only [xk_none, xk_inl, xk_inr, xk_ite, xri_v, xrl_v, xrv_v, xb_z0, xb_z1, xb_b2, if_true, if_false, ite_true, ite_false, iZ_lit, iZ_m1, iZ_m99, iZ_m8, iZ_add, iZ_sub, iZ_mul, iZ_neg, nz0, nzi, iZ_lt, iZ_le, iZ_inj, b2_z, b2_o, ite_bPz, ite_bPo, xb_bP, iZ_xin, if_pos, ite_self, ↓reduceIte, Int.reduceAdd, Int.reduceSub, Int.reduceMul, Int.reduceNeg, Int.reduceLT, Int.reduceLE, if_neg, b2]
    have eR2 : rPs A S N T s.2.1 801 0 s.1 = if tk True N T (adv N T s.1) = 7 then rPs A S N T s.2.1 800 (0 ||| 2 ^ rKn A S N T s.1) (adv N T (adv N T s.1)) else .inr (0 ||| 2 ^ rKn A S N T s.1, adv N T s.1) := by
      rw [eR, if_neg (fun z => z b0), if_neg (fun z => z.elim (fun z => z b1) (fun z => by rw [b1'] at z; cases z)), if_neg (by omega)]
    rcases c with ⟨x, c1, c2, c3, c4⟩ | ⟨h', st', c1, c2, c3, c4, c5, c6⟩
    · refine ⟨M2, (tpw b4).tr (c4.wk fun r j z => .inl z), .inl ⟨x, by unfold rSt; rw [eR2, c1], t0.trans c2, c3⟩⟩
    · have s2 : xSm tpF M M2 := b4.tr c4
      have hw := x_wayHere True c3.1 c3.2.1 c3.2.2.1
      unfold wyA at hw
      have h6 := Nat.lt_of_lt_of_le c6 (pow9 hP).2
      by_cases e : 20 ≤ tk True N T st' ∧ tk True N T st' ≤ 25
      · rw [if_pos e] at hw
        obtain ⟨w, ew⟩ : ∃ w : Nat, (tk True N T st' : Int) - 20 = w := ⟨tk True N T st' - 20, by omega⟩
        have ew2 : tk True N T st' - 20 = w := by omega
        rw [ew] at hw
        obtain ⟨M3, d1, d2, d3⟩ := x_adv c3
        have hk := d3.2.1.2.2.1
        have hc := ck_b N T (adv N T st')
        have hnn := (tk_num (N := N) (T := T) (st := adv N T st') True).2.2
        by_cases e9 : tk True N T (adv N T st') = 59
        · rw [hnn.mpr e9] at hk
          obtain ⟨M4, g1, g2, g3⟩ := x_adv d3
          have s4 : xSm tpF M M4 := (s2.tr d2).tr g2
          have q5 : xI M4 (4, 0) 5 = iZ s.2.1 := by rw [(s4 (4, 0) 5 (by simp)).1]; exact hR.1.1
          have q51 : xI (xpI M4 (36, 0) s.2.1 (iZ h')) (4, 0) 5 = iZ s.2.1 := by rw [xI_pI_ne (by simp)]; exact q5
          have q52 : xI (xpI (xpI M4 (36, 0) s.2.1 (iZ h')) (37, 0) s.2.1 (iZ w)) (4, 0) 5 = iZ s.2.1 := by rw [xI_pI_ne (by simp)]; exact q51
          have hadd : fX4_addStep [.inr (.inr (4, 0)), .inl (iZ (h')), .inl (iZ (w))] M4 = some (none, xpI (xpI (xpI M4 (36, 0) s.2.1 (iZ h')) (37, 0) s.2.1 (iZ w)) (4, 0) 5 (iZ ((s.2.1 : Int) + 1))) := by
            generalize s.2.1 = m at *
            show xfix gX4_addStep (0, [some (.inr (.inr (4, 0))), some (.inl (iZ (h'))), some (.inl (iZ (w)))], [], M4) = _; rw [xfix_unf, sX4_addStep_0]
            simp (disch := omega) only [xk_none, xk_inl, xk_inr, xk_ite, xri_v, xrl_v, xrv_v, xb_z0, xb_z1, xb_b2, if_true, if_false, ite_true, ite_false, iZ_lit, iZ_m1, iZ_m99, iZ_m8, iZ_add, iZ_sub, iZ_mul, iZ_neg, nz0, nzi, iZ_lt, iZ_le, iZ_inj, b2_z, b2_o, ite_bPz, ite_bPo, xb_bP, iZ_xin, if_pos, ite_self, ↓reduceIte, Int.reduceAdd, Int.reduceSub, Int.reduceMul, Int.reduceNeg, Int.reduceLT, Int.reduceLE, if_neg, nS, iZ_clampN, iZ_bit, iZ_one, iZ_and, iZ_or, iZ_ndn, q5, q51, q52]
          have s5 : xSm rcC M (xpI (xpI (xpI M4 (36, 0) s.2.1 (iZ h')) (37, 0) s.2.1 (iZ w)) (4, 0) 5 (iZ ((s.2.1 : Int) + 1))) := (((tpw s4).pI (by first | exact ⟨rfl, by omega⟩ | exact .inl ⟨rfl, by omega⟩ | exact .inr (.inl rfl) | exact .inr (.inl ⟨rfl, rfl⟩) | exact .inr (.inr (.inl rfl)) | exact .inr (.inr (.inr rfl)))).pI (by first | exact ⟨rfl, by omega⟩ | exact .inl ⟨rfl, by omega⟩ | exact .inr (.inl rfl) | exact .inr (.inl ⟨rfl, rfl⟩) | exact .inr (.inr (.inl rfl)) | exact .inr (.inr (.inr rfl)))).pI (by first | exact ⟨rfl, by omega⟩ | exact .inl ⟨rfl, by omega⟩ | exact .inr (.inl rfl) | exact .inr (.inl ⟨rfl, rfl⟩) | exact .inr (.inr (.inl rfl)) | exact .inr (.inr (.inr rfl)))
          refine ⟨_, s5, .inr ⟨(adv N T (adv N T st'), s.2.1 + 1, (fun j => if j = s.2.1 then h' else s.2.2.1 j), fun j => if j = s.2.1 then tk True N T st' - 20 else s.2.2.2 j), by unfold rSt; rw [eR2, c1]; show (if 20 ≤ tk True N T st' ∧ tk True N T st' ≤ 25 then _ else _) = _; rw [if_pos e]; exact if_pos e9, ?_, ?_, ⟨⟨?_, ?_⟩, fun j hj => ?_⟩, rfl⟩⟩
          · refine (t0.trans c2).trans ?_
            generalize s.2.1 = m at *
            rw [xfix_unf, sX4_readStep_59]
            simp (disch := omega) only [xk_none, xk_inl, xk_inr, xk_ite, xri_v, xrl_v, xrv_v, xb_z0, xb_z1, xb_b2, if_true, if_false, ite_true, ite_false, iZ_lit, iZ_m1, iZ_m99, iZ_m8, iZ_add, iZ_sub, iZ_mul, iZ_neg, nz0, nzi, iZ_lt, iZ_le, iZ_inj, b2_z, b2_o, ite_bPz, ite_bPo, xb_bP, iZ_xin, if_pos, ite_self, ↓reduceIte, Int.reduceAdd, Int.reduceSub, Int.reduceMul, Int.reduceNeg, Int.reduceLT, Int.reduceLE, if_neg, hw, d1, hk, g1, hadd]
          · exact g3.sm (P := fun r j => r = (36, 0) ∨ r = (37, 0) ∨ r = (4, 0)) (((xSm.rf.pI (.inl rfl)).pI (.inr (.inl rfl))).pI (.inr (.inr rfl))) (by simp) (by simp)
          · rw [pR_eq]; rfl
          · show s.2.1 + 1 ≤ 16
            omega
          · have hj' : j < s.2.1 + 1 := hj
            show (_ = iZ ((if j = s.2.1 then h' else s.2.2.1 j : Nat) : Int) ∧ _ = iZ ((if j = s.2.1 then tk True N T st' - 20 else s.2.2.2 j : Nat) : Int)) ∧ 1 ≤ (if j = s.2.1 then h' else s.2.2.1 j) ∧ (if j = s.2.1 then h' else s.2.2.1 j) < 2 ^ aP A ∧ (if j = s.2.1 then tk True N T st' - 20 else s.2.2.2 j) < 6
            have r36 : ∀ v, xI (xpI (xpI (xpI M4 (36, 0) s.2.1 (iZ h')) (37, 0) s.2.1 (iZ w)) (4, 0) 5 v) (36, 0) j = if j = s.2.1 then iZ h' else xI M4 (36, 0) j := fun v => by
              rw [pR_nr (by omega), pR_nr (by omega), xI_pI]
              by_cases z : j = s.2.1
              · rw [if_pos ⟨rfl, z⟩, if_pos z]
              · rw [if_neg (fun q => z q.2), if_neg z]
            have r37 : ∀ v, xI (xpI (xpI (xpI M4 (36, 0) s.2.1 (iZ h')) (37, 0) s.2.1 (iZ w)) (4, 0) 5 v) (37, 0) j = if j = s.2.1 then iZ w else xI M4 (37, 0) j := fun v => by
              rw [pR_nr (by omega), xI_pI]
              by_cases z : j = s.2.1
              · rw [if_pos ⟨rfl, z⟩, if_pos z]
              · rw [if_neg (fun q => z q.2), if_neg z, pR_nr (by omega)]
            rw [r36, r37, ew2]
            by_cases z : j = s.2.1
            · rw [if_pos z, if_pos z, if_pos z, if_pos z]
              exact ⟨⟨rfl, rfl⟩, c5, c6, by omega⟩
            · rw [if_neg z, if_neg z, if_neg z, if_neg z, (s4 (36, 0) j (by simp)).1, (s4 (37, 0) j (by simp)).1]
              exact hR.2 j (by omega)
        · have e9' : ¬ ck N T (adv N T st') = 3 := fun z => e9 (hnn.mp z)
          obtain ⟨M4, g1, g2, g3⟩ := x_refuseTo d3 1
          refine ⟨M4, ((tpw s2).tr (tpw d2)).tr (ffw g2), .inl ⟨(1, adv N T st'), by unfold rSt; rw [eR2, c1]; show (if 20 ≤ tk True N T st' ∧ tk True N T st' ≤ 25 then _ else _) = _; rw [if_pos e]; exact if_neg e9, ?_, g3⟩⟩
          refine (t0.trans c2).trans ?_
          generalize ck N T (adv N T st') = y at *
          rw [xfix_unf, sX4_readStep_59]
          simp (disch := omega) only [xk_none, xk_inl, xk_inr, xk_ite, xri_v, xrl_v, xrv_v, xb_z0, xb_z1, xb_b2, if_true, if_false, ite_true, ite_false, iZ_lit, iZ_m1, iZ_m99, iZ_m8, iZ_add, iZ_sub, iZ_mul, iZ_neg, nz0, nzi, iZ_lt, iZ_le, iZ_inj, b2_z, b2_o, ite_bPz, ite_bPo, xb_bP, iZ_xin, if_pos, ite_self, ↓reduceIte, Int.reduceAdd, Int.reduceSub, Int.reduceMul, Int.reduceNeg, Int.reduceLT, Int.reduceLE, if_neg, hw, d1, hk, g1]
      · rw [if_neg e] at hw
        obtain ⟨M3, d1, d2, d3⟩ := x_refuseTo c3 1
        refine ⟨M3, (tpw s2).tr (ffw d2), .inl ⟨(1, st'), by unfold rSt; rw [eR2, c1]; exact if_neg e, ?_, d3⟩⟩
        refine (t0.trans c2).trans ?_
        rw [xfix_unf, sX4_readStep_59]
        simp (disch := omega) only [xk_none, xk_inl, xk_inr, xk_ite, xri_v, xrl_v, xrv_v, xb_z0, xb_z1, xb_b2, if_true, if_false, ite_true, ite_false, iZ_lit, iZ_m1, iZ_m99, iZ_m8, iZ_add, iZ_sub, iZ_mul, iZ_neg, nz0, nzi, iZ_lt, iZ_le, iZ_inj, b2_z, b2_o, ite_bPz, ite_bPo, xb_bP, iZ_xin, if_pos, ite_self, ↓reduceIte, Int.reduceAdd, Int.reduceSub, Int.reduceMul, Int.reduceNeg, Int.reduceLT, Int.reduceLE, if_neg, hw, d1]
theorem x_recReads {A : dA} {S : dS} {N : Nat} {T : Nat → Nat} : ∀ (n : Nat) (M : xM) (s : rS), 17 ≤ s.2.1 + n → pT M N T s.1 → cNm M A S → cRc M A s → ∃ M', xSm rcC M M' ∧ ((∃ f, rAll A S N T n s = .inl f ∧ xfix gX4_readAll (14, [some (.inr (.inr (4, 0))), some (.inl (iZ ((s.2.1))))], [], M) = some (some (.inl (iZ (0))), M') ∧ cFl M' f) ∨ ∃ s', rAll A S N T n s = .inr s' ∧ xfix gX4_readAll (14, [some (.inr (.inr (4, 0))), some (.inl (iZ ((s.2.1))))], [], M) = some (some (.inl (iZ (1))), M') ∧ pT M' N T s'.1 ∧ cRc M' A s') := by
  intro n
  induction n with
  | zero =>
    intro M s h1 _ _ hR
    have := hR.1.2
    omega
  | succ n ih =>
    intro M s h1 hT hN hR
    have hb := hR.1.2
    have hk := hT.2.1.2.2.1
    have hc := ck_b N T s.1
    have hn := (tk_num (N := N) (T := T) (st := s.1) True).2.1
    by_cases e0 : tk True N T s.1 = 0
    · refine ⟨M, xSm.rf, .inr ⟨s, if_pos e0, ?_, hT, hR⟩⟩
      rw [hn.mpr e0] at hk
      generalize s.2.1 = m at *
      rw [xfix_unf, sX4_readAll_14]
      simp (disch := omega) only [xk_none, xk_inl, xk_inr, xk_ite, xri_v, xrl_v, xrv_v, xb_z0, xb_z1, xb_b2, if_true, if_false, ite_true, ite_false, iZ_lit, iZ_m1, iZ_m99, iZ_m8, iZ_add, iZ_sub, iZ_mul, iZ_neg, nz0, nzi, iZ_lt, iZ_le, iZ_inj, b2_z, b2_o, ite_bPz, ite_bPo, xb_bP, iZ_xin, if_pos, ite_self, ↓reduceIte, Int.reduceAdd, Int.reduceSub, Int.reduceMul, Int.reduceNeg, Int.reduceLT, Int.reduceLE, if_neg, hk]
    · have e0' : ¬ ck N T s.1 = 0 := fun z => e0 (hn.mp z)
      have eA : rAll A S N T (n + 1) s = match rSt A S N T s with
        | .inl f => .inl f
        | .inr s' => rAll A S N T n s' := by
        show (if tk True N T s.1 = 0 then _ else _) = _
        rw [if_neg e0]
        cases rSt A S N T s <;> rfl
      obtain ⟨M1, a1, a2⟩ := x_readStep hT hN hR
      rcases a2 with ⟨f, b1, b2, b3⟩ | ⟨s', b1, b2, b3, b4, b5⟩
      · refine ⟨M1, a1, .inl ⟨f, by rw [eA, b1], ?_, b3⟩⟩
        generalize s.2.1 = m at *
        generalize ck N T s.1 = y at *
        rw [xfix_unf, sX4_readAll_14]
        simp (disch := omega) only [xk_none, xk_inl, xk_inr, xk_ite, xri_v, xrl_v, xrv_v, xb_z0, xb_z1, xb_b2, if_true, if_false, ite_true, ite_false, iZ_lit, iZ_m1, iZ_m99, iZ_m8, iZ_add, iZ_sub, iZ_mul, iZ_neg, nz0, nzi, iZ_lt, iZ_le, iZ_inj, b2_z, b2_o, ite_bPz, ite_bPo, xb_bP, iZ_xin, if_pos, ite_self, ↓reduceIte, Int.reduceAdd, Int.reduceSub, Int.reduceMul, Int.reduceNeg, Int.reduceLT, Int.reduceLE, if_neg, hk, b2]
      · obtain ⟨M2, g1, g2⟩ := ih M1 s' (by omega) b3 (hN.sm a1 (by simp) (by simp)) b4
        have t1 : xfix gX4_readAll (14, [some (.inr (.inr (4, 0))), some (.inl (iZ ((s.2.1))))], [], M) = xfix gX4_readAll (14, [some (.inr (.inr (4, 0))), some (.inl (iZ ((s'.2.1))))], [], M1) := by
          rw [b5, nS]
          generalize s.2.1 = m at *
          generalize ck N T s.1 = y at *
          rw [xfix_unf, sX4_readAll_14]
          simp (disch := omega) only [xk_none, xk_inl, xk_inr, xk_ite, xri_v, xrl_v, xrv_v, xb_z0, xb_z1, xb_b2, if_true, if_false, ite_true, ite_false, iZ_lit, iZ_m1, iZ_m99, iZ_m8, iZ_add, iZ_sub, iZ_mul, iZ_neg, nz0, nzi, iZ_lt, iZ_le, iZ_inj, b2_z, b2_o, ite_bPz, ite_bPo, xb_bP, iZ_xin, if_pos, ite_self, ↓reduceIte, Int.reduceAdd, Int.reduceSub, Int.reduceMul, Int.reduceNeg, Int.reduceLT, Int.reduceLE, if_neg, hk, b2]
        rw [eA, b1, t1]
        exact ⟨M2, a1.tr g1, g2⟩
theorem x_recAll {M : xM} {A : dA} {S : dS} {N : Nat} {T : Nat → Nat} (h : cT M N T) (hN : cNm M A S) : ∃ M', xSm rcC M M' ∧ ((∃ f, pRec A S N T = .inl f ∧ fX4_readAll [.inr (.inr (4, 0))] M = some (some (.inl (iZ (0))), M') ∧ cFl M' f) ∨ ∃ s', pRec A S N T = .inr s' ∧ fX4_readAll [.inr (.inr (4, 0))] M = some (some (.inl (iZ (1))), M') ∧ pT M' N T s'.1 ∧ cRc M' A s') := by
  have s1 : xSm rcC M (xpI M (4, 0) 5 (iZ 0)) := xSm.rf.pI (by first | exact ⟨rfl, by omega⟩ | exact .inl ⟨rfl, by omega⟩ | exact .inr (.inl rfl) | exact .inr (.inl ⟨rfl, rfl⟩) | exact .inr (.inr (.inl rfl)) | exact .inr (.inr (.inr rfl)))
  obtain ⟨M2, b1, b2, b3⟩ := x_rewind (h.sm s1 (by simp) (by simp))
  have s2 : xSm rcC M M2 := s1.tr (b2.wk fun r j z => .inl z)
  obtain ⟨M3, g1, g2⟩ := x_recReads (A := A) (S := S) (N := N) (T := T) 30 M2 (sk N T 0, 0, (fun _ => 0), fun _ => 0) (by show 17 ≤ 0 + 30; omega) b3 (hN.sm s2 (by simp) (by simp)) ⟨⟨by rw [(b2 (4, 0) 5 (by simp)).1, pR_eq]; rfl, by show 0 ≤ 16; omega⟩, fun j hj => absurd hj (Nat.not_lt_zero j)⟩
  have t0 : fX4_readAll [.inr (.inr (4, 0))] M = xfix gX4_readAll (14, [some (.inr (.inr (4, 0))), some (.inl (iZ (((0 : Nat)))))], [], M2) := by
    have z0 : ((0 : Nat) : Int) = 0 := rfl
    rw [z0]
    show xfix gX4_readAll (0, [some (.inr (.inr (4, 0))), none], [], M) = _; rw [xfix_unf, sX4_readAll_0]
    simp (disch := omega) only [xk_none, xk_inl, xk_inr, xk_ite, xri_v, xrl_v, xrv_v, xb_z0, xb_z1, xb_b2, if_true, if_false, ite_true, ite_false, iZ_lit, iZ_m1, iZ_m99, iZ_m8, iZ_add, iZ_sub, iZ_mul, iZ_neg, nz0, nzi, iZ_lt, iZ_le, iZ_inj, b2_z, b2_o, ite_bPz, ite_bPo, xb_bP, iZ_xin, if_pos, ite_self, ↓reduceIte, Int.reduceAdd, Int.reduceSub, Int.reduceMul, Int.reduceNeg, Int.reduceLT, Int.reduceLE, if_neg, b1]
  rw [t0]
  exact ⟨M3, s2.tr g1, g2⟩
