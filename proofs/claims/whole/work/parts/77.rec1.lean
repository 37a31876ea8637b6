/-! the reference: reading a record -/
def wNm (l : Nat) (nc T : Nat → Nat) (st e : Nat) : Prop := l = e - st ∧ ∀ k, k < l → nc k = T (st + k)
/-- the part that a word names -/
noncomputable def rKn (A : dA) (S : dS) (N : Nat) (T : Nat → Nat) (st : Nat) : Nat := lst (fun q => wNm (sNl S q) (sNc S q) T st (tE N T st)) (aP A)
/-- where; steps; halves; ways -/
abbrev rS : Type := Nat × Nat × (Nat → Nat) × (Nat → Nat)
noncomputable def rPs (A : dA) (S : dS) (N : Nat) (T : Nat → Nat) (n : Nat) : Nat → Nat → Nat → pR (Nat × Nat)
  | 0, h, st => .inr (h, st)
  | f + 1, h, st => if tk True N T st ≠ 3 then .inl (1, st) else if ¬ rKn A S N T st < aP A ∨ h.testBit (rKn A S N T st) = true then .inl (2, st) else if n = 16 then .inl (3, st) else if tk True N T (adv N T st) = 7 then rPs A S N T n f (h ||| 2 ^ rKn A S N T st) (adv N T (adv N T st)) else .inr (h ||| 2 ^ rKn A S N T st, adv N T st)
noncomputable def rSt (A : dA) (S : dS) (N : Nat) (T : Nat → Nat) (s : rS) : pR rS := match rPs A S N T s.2.1 801 0 s.1 with
  | .inl f => .inl f
  | .inr x => if 20 ≤ tk True N T x.2 ∧ tk True N T x.2 ≤ 25 then (if tk True N T (adv N T x.2) = 59 then .inr (adv N T (adv N T x.2), s.2.1 + 1, (fun j => if j = s.2.1 then x.1 else s.2.2.1 j), fun j => if j = s.2.1 then tk True N T x.2 - 20 else s.2.2.2 j) else .inl (1, adv N T x.2)) else .inl (1, x.2)
noncomputable def rAll (A : dA) (S : dS) (N : Nat) (T : Nat → Nat) : Nat → rS → pR rS
  | 0, s => .inr s
  | f + 1, s => if tk True N T s.1 = 0 then .inr s else match rSt A S N T s with
    | .inl f => .inl f
    | .inr s' => rAll A S N T f s'
noncomputable def pRec (A : dA) (S : dS) (N : Nat) (T : Nat → Nat) : pR rS := rAll A S N T 30 (sk N T 0, 0, (fun _ => 0), fun _ => 0)
/-- the names of the thing -/
def mNm (M : xM) (A : dA) (S : dS) : Prop := (xI M (12, 0) 2 = iZ (aP A) ∧ aP A ≤ 9) ∧ (∀ q, q < aP A → xI M (166, 0) q = iZ (sNl S q) ∧ ∀ k, k < sNl S q → xI M (165, 0) (6 * q + k) = iZ (sNc S q k)) ∧ ∀ q, q < aP A → 1 ≤ sNl S q ∧ sNl S q ≤ 6 ∧ ∀ k, k < sNl S q → 97 ≤ sNc S q k ∧ sNc S q k ≤ 122
theorem mNm.sm {M M' : xM} {A : dA} {S : dS} {P : xR → Nat → Prop} (h : mNm M A S) (hs : xSm P M M') (h1 : ¬ P (12, 0) 2) (h2 : ∀ j, ¬ P (166, 0) j) (h3 : ∀ j, ¬ P (165, 0) j) : mNm M' A S := by
  obtain ⟨⟨a, b⟩, c, d⟩ := h
  refine ⟨⟨by rw [(hs _ _ h1).1]; exact a, b⟩, fun q hq => ⟨by rw [(hs _ _ (h2 q)).1]; exact (c q hq).1, fun k hk => by rw [(hs _ _ (h3 _)).1]; exact (c q hq).2 k hk⟩, d⟩
theorem m_knownPart {M : xM} {A : dA} {S : dS} {N st : Nat} {T : Nat → Nat} {rc : Prop} (h : rK M rc N T st) (hn : mNm M A S) : fX12_knownPart [.inr (.inr (12, 0))] M = some (some (.inl (iZ (if rKn A S N T st < aP A then (rKn A S N T st : Int) else -1))), M) := by
  obtain ⟨⟨r1, r2, r3⟩, k2, k3, d1, d2, d3, d4⟩ := h
  obtain ⟨⟨b1, hP⟩, hc, hO⟩ := hn
  have hE := tE_b (T := T) k3
  have row : ∀ q : Nat, q < aP A → xfix gX12_knownPart (2, [some (.inr (.inr (12, 0))), some (.inl (iZ (q))), none, none], [], M) = @ite _ (wNm (sNl S q) (sNc S q) T st (tE N T st)) (Classical.propDecidable _) (some (some (.inl (iZ (q))), M)) (xfix gX12_knownPart (2, [some (.inr (.inr (12, 0))), some (.inl (iZ (((q : Int) + 1)))), none, none], [], M)) := fun q hq => by
    obtain ⟨o2, o3, o4⟩ := hO q hq
    obtain ⟨f2, f1⟩ := hc q hq
    by_cases c1 : sNl S q = tE N T st - st
    · have hx := xfor_all (sg := gX12_knownPart) (st := fun i => (36, [some (.inr (.inr (12, 0))), some (.inl (iZ (q))), some (.inl (iZ ((1 : Int)))), some (.inl (iZ (i)))], [], M)) (R := fun i => @ite _ (∀ k, i ≤ k → k < sNl S q → sNc S q k = T (st + k)) (Classical.propDecidable _) (some (some (.inl (iZ (q))), M)) (xfix gX12_knownPart (2, [some (.inr (.inr (12, 0))), some (.inl (iZ (((q : Int) + 1)))), none, none], [], M))) (n := sNl S q) (fun i hi ih => by
        have g1 := f1 i hi
        have g2 := r3 (st + i) (by omega)
        have e1 : Int32.toNatClampNeg (iZ (6 * (q : Int) + i)) = 6 * q + i := by rw [iZ_clamp (by omega)]; omega
        have e2 : Int32.toNatClampNeg (iZ ((st : Int) + i)) = st + i := by rw [iZ_clamp (by omega)]; omega
        have g3 := o4 i hi
        have g4 := g2.2
        rw [nS] at ih
        rw [xfix_unf, sX12_knownPart_36]
        simp (disch := omega) only [xk_none, xk_inl, xk_inr, xk_ite, xri_v, xrl_v, xrv_v, xb_z0, xb_z1, xb_b2, if_true, if_false, ite_true, ite_false, iZ_lit, iZ_m1, iZ_m99, iZ_m8, iZ_add, iZ_sub, iZ_mul, iZ_neg, nz0, nzi, iZ_lt, iZ_le, iZ_inj, b2_z, b2_o, ite_bPz, ite_bPo, xb_bP, iZ_xin, if_pos, ite_self, ↓reduceIte, Int.reduceAdd, Int.reduceSub, Int.reduceMul, Int.reduceNeg, Int.reduceLT, Int.reduceLE, if_neg, nS, iZ_clampN, iZ_bit, iZ_one, iZ_and, iZ_or, iZ_ndn, f2, d1, e1, e2, g1, g2.1]
        by_cases y : sNc S q i = T (st + i)
        · rw [if_pos y, ih]
          by_cases y2 : ∀ k, i + 1 ≤ k → k < sNl S q → sNc S q k = T (st + k)
          · rw [if_pos y2, if_pos ((all_from (P := fun k => sNc S q k = T (st + k)) hi).mpr ⟨y, y2⟩)]
          · rw [if_neg y2, if_neg (fun z => y2 ((all_from (P := fun k => sNc S q k = T (st + k)) hi).mp z).2)]
        · rw [if_neg y, if_neg (fun z => y (z i (Nat.le_refl _) hi))]
          rw [xfix_unf, sX12_knownPart_36]
          by_cases y2 : sNl S q ≤ i + 1
          · simp (disch := omega) only [xk_none, xk_inl, xk_inr, xk_ite, xri_v, xrl_v, xrv_v, xb_z0, xb_z1, xb_b2, if_true, if_false, ite_true, ite_false, iZ_lit, iZ_m1, iZ_m99, iZ_m8, iZ_add, iZ_sub, iZ_mul, iZ_neg, nz0, nzi, iZ_lt, iZ_le, iZ_inj, b2_z, b2_o, ite_bPz, ite_bPo, xb_bP, iZ_xin, if_pos, ite_self, ↓reduceIte, Int.reduceAdd, Int.reduceSub, Int.reduceMul, Int.reduceNeg, Int.reduceLT, Int.reduceLE, if_neg, nS, iZ_clampN, iZ_bit, iZ_one, iZ_and, iZ_or, iZ_ndn, f2]
          · simp (disch := omega) only [xk_none, xk_inl, xk_inr, xk_ite, xri_v, xrl_v, xrv_v, xb_z0, xb_z1, xb_b2, if_true, if_false, ite_true, ite_false, iZ_lit, iZ_m1, iZ_m99, iZ_m8, iZ_add, iZ_sub, iZ_mul, iZ_neg, nz0, nzi, iZ_lt, iZ_le, iZ_inj, b2_z, b2_o, ite_bPz, ite_bPo, xb_bP, iZ_xin, if_pos, ite_self, ↓reduceIte, Int.reduceAdd, Int.reduceSub, Int.reduceMul, Int.reduceNeg, Int.reduceLT, Int.reduceLE, if_neg, nS, iZ_clampN, iZ_bit, iZ_one, iZ_and, iZ_or, iZ_ndn, f2]) (by
        rw [if_pos (fun k k1 k2 => by omega)]
        rw [xfix_unf, sX12_knownPart_36]
        simp (disch := omega) only [xk_none, xk_inl, xk_inr, xk_ite, xri_v, xrl_v, xrv_v, xb_z0, xb_z1, xb_b2, if_true, if_false, ite_true, ite_false, iZ_lit, iZ_m1, iZ_m99, iZ_m8, iZ_add, iZ_sub, iZ_mul, iZ_neg, nz0, nzi, iZ_lt, iZ_le, iZ_inj, b2_z, b2_o, ite_bPz, ite_bPo, xb_bP, iZ_xin, if_pos, ite_self, ↓reduceIte, Int.reduceAdd, Int.reduceSub, Int.reduceMul, Int.reduceNeg, Int.reduceLT, Int.reduceLE, if_neg, nS, iZ_clampN, iZ_bit, iZ_one, iZ_and, iZ_or, iZ_ndn, f2]) (i := 0) (by omega)
      have e0 : ((tE N T st : Nat) : Int) - (st : Nat) = ((tE N T st - st : Nat) : Int) := by omega
      have top : xfix gX12_knownPart (2, [some (.inr (.inr (12, 0))), some (.inl (iZ (q))), none, none], [], M) = xfix gX12_knownPart (36, [some (.inr (.inr (12, 0))), some (.inl (iZ (q))), some (.inl (iZ ((1 : Int)))), some (.inl (iZ (((0 : Nat)))))], [], M) := by
        rw [xfix_unf, sX12_knownPart_2]
        simp (disch := omega) only [xk_none, xk_inl, xk_inr, xk_ite, xri_v, xrl_v, xrv_v, xb_z0, xb_z1, xb_b2, if_true, if_false, ite_true, ite_false, iZ_lit, iZ_m1, iZ_m99, iZ_m8, iZ_add, iZ_sub, iZ_mul, iZ_neg, nz0, nzi, iZ_lt, iZ_le, iZ_inj, b2_z, b2_o, ite_bPz, ite_bPo, xb_bP, iZ_xin, if_pos, ite_self, ↓reduceIte, Int.reduceAdd, Int.reduceSub, Int.reduceMul, Int.reduceNeg, Int.reduceLT, Int.reduceLE, if_neg, nS, iZ_clampN, iZ_bit, iZ_one, iZ_and, iZ_or, iZ_ndn, b1, f2, d1, d2, e0, c1]
        rfl
      rw [top, hx]
      by_cases y : wNm (sNl S q) (sNc S q) T st (tE N T st)
      · rw [if_pos y, if_pos (fun k _ hk => y.2 k hk)]
      · rw [if_neg y, if_neg (fun z => y ⟨c1, fun k hk => z k (by omega) hk⟩)]
    · rw [if_neg (fun z => c1 z.1)]
      rw [xfix_unf, sX12_knownPart_2]
      simp (disch := omega) only [xk_none, xk_inl, xk_inr, xk_ite, xri_v, xrl_v, xrv_v, xb_z0, xb_z1, xb_b2, if_true, if_false, ite_true, ite_false, iZ_lit, iZ_m1, iZ_m99, iZ_m8, iZ_add, iZ_sub, iZ_mul, iZ_neg, nz0, nzi, iZ_lt, iZ_le, iZ_inj, b2_z, b2_o, ite_bPz, ite_bPo, xb_bP, iZ_xin, if_pos, ite_self, ↓reduceIte, Int.reduceAdd, Int.reduceSub, Int.reduceMul, Int.reduceNeg, Int.reduceLT, Int.reduceLE, if_neg, nS, iZ_clampN, iZ_bit, iZ_one, iZ_and, iZ_or, iZ_ndn, b1, f2, d1, d2]
      rw [xfix_unf, sX12_knownPart_36]
      simp (disch := omega) only [xk_none, xk_inl, xk_inr, xk_ite, xri_v, xrl_v, xrv_v, xb_z0, xb_z1, xb_b2, if_true, if_false, ite_true, ite_false, iZ_lit, iZ_m1, iZ_m99, iZ_m8, iZ_add, iZ_sub, iZ_mul, iZ_neg, nz0, nzi, iZ_lt, iZ_le, iZ_inj, b2_z, b2_o, ite_bPz, ite_bPo, xb_bP, iZ_xin, if_pos, ite_self, ↓reduceIte, Int.reduceAdd, Int.reduceSub, Int.reduceMul, Int.reduceNeg, Int.reduceLT, Int.reduceLE, if_neg, nS, iZ_clampN, iZ_bit, iZ_one, iZ_and, iZ_or, iZ_ndn, f2]
  have hle : rKn A S N T st ≤ aP A := lst_le _ _
  have hl := xfor_F (sg := gX12_knownPart) (fun q => (2, [some (.inr (.inr (12, 0))), some (.inl (iZ (q))), none, none], [], M)) (a := 0) (n := rKn A S N T st) (by omega) (fun q _ hq => by
    have hno : ¬ wNm (sNl S q) (sNc S q) T st (tE N T st) := lst_no (fun q => wNm (sNl S q) (sNc S q) T st (tE N T st)) (aP A) q hq
    rw [row q (by omega), if_neg hno, nS])
  show xfix gX12_knownPart (0, [some (.inr (.inr (12, 0))), none, none, none], [], M) = _; rw [xfix_unf, sX12_knownPart_0]
  simp (disch := omega) only [xk_none, xk_inl, xk_inr, xk_ite, xri_v, xrl_v, xrv_v, xb_z0, xb_z1, xb_b2, if_true, if_false, ite_true, ite_false, iZ_lit, iZ_m1, iZ_m99, iZ_m8, iZ_add, iZ_sub, iZ_mul, iZ_neg, nz0, nzi, iZ_lt, iZ_le, iZ_inj, b2_z, b2_o, ite_bPz, ite_bPo, xb_bP, iZ_xin, if_pos, ite_self, ↓reduceIte, Int.reduceAdd, Int.reduceSub, Int.reduceMul, Int.reduceNeg, Int.reduceLT, Int.reduceLE, if_neg]
  refine hl.trans ?_
  by_cases c : rKn A S N T st < aP A
  · have hw : wNm (sNl S (rKn A S N T st)) (sNc S (rKn A S N T st)) T st (tE N T st) := lst_is (fun q => wNm (sNl S q) (sNc S q) T st (tE N T st)) (aP A) c
    rw [if_pos c, row _ c, if_pos hw]
  · rw [if_neg c]
    rw [xfix_unf, sX12_knownPart_2]
    simp (disch := omega) only [xk_none, xk_inl, xk_inr, xk_ite, xri_v, xrl_v, xrv_v, xb_z0, xb_z1, xb_b2, if_true, if_false, ite_true, ite_false, iZ_lit, iZ_m1, iZ_m99, iZ_m8, iZ_add, iZ_sub, iZ_mul, iZ_neg, nz0, nzi, iZ_lt, iZ_le, iZ_inj, b2_z, b2_o, ite_bPz, ite_bPo, xb_bP, iZ_xin, if_pos, ite_self, ↓reduceIte, Int.reduceAdd, Int.reduceSub, Int.reduceMul, Int.reduceNeg, Int.reduceLT, Int.reduceLE, if_neg, nS, iZ_clampN, iZ_bit, iZ_one, iZ_and, iZ_or, iZ_ndn, b1]
/-- what the reader of a record writes -/
abbrev rcF (r : xR) (j : Nat) : Prop := (r = (12, 0) ∧ (j = 19 ∨ j = 20 ∨ j = 21 ∨ j = 22 ∨ j = 23 ∨ j = 24 ∨ j = 30 ∨ j = 70)) ∨ r = (167, 0) ∨ r = (168, 0) ∨ r = (117, 0)
theorem rcF_nx {M M' : xM} (h : xSm nxF M M') : xSm rcF M M' := h.wk fun r j z => .inl ⟨z.1, by omega⟩
theorem rcF_num {M M' : xM} (h : xSm numF M M') : xSm rcF M M' := h.wk fun r j z => by
  rcases z with z | z | z
  · exact .inl ⟨z.1, by omega⟩
  · exact .inl ⟨z.1, by omega⟩
  · exact .inr (.inr (.inr z))
theorem mNm.rc {M M' : xM} {A : dA} {S : dS} (h : mNm M A S) (hs : xSm rcF M M') : mNm M' A S := h.sm hs (by decide) (fun j => by simp) (fun j => by simp)
/-- steps that were read -/
def rM (M : xM) (A : dA) (N : Nat) (T : Nat → Nat) (s : rS) : Prop := rK M True N T s.1 ∧ (xI M (12, 0) 70 = iZ s.2.1 ∧ s.2.1 ≤ 16) ∧ ∀ j, j < s.2.1 → (xI M (167, 0) j = iZ (s.2.2.1 j) ∧ xI M (168, 0) j = iZ (s.2.2.2 j)) ∧ 1 ≤ s.2.2.1 j ∧ s.2.2.1 j < 2 ^ aP A ∧ s.2.2.2 j < 6
theorem rM.nx {M M' : xM} {A : dA} {N : Nat} {T : Nat → Nat} {s : rS} {st' : Nat} (h : rM M A N T s) (hs : xSm numF M M') (hk : rK M' True N T st') : rM M' A N T (st', s.2) := by
  obtain ⟨a, ⟨b1, b2⟩, c⟩ := h
  refine ⟨hk, ⟨by rw [(hs (12, 0) 70 (by decide)).1]; exact b1, b2⟩, fun j hj => ⟨⟨?_, ?_⟩, (c j hj).2⟩⟩
  · rw [(hs (167, 0) j (by simp)).1]; exact (c j hj).1.1
  · rw [(hs (168, 0) j (by simp)).1]; exact (c j hj).1.2
theorem rc_ps {A : dA} {S : dS} {N : Nat} {T : Nat → Nat} : ∀ (f h : Nat) (M : xM) (s : rS), N < s.1 + f → rM M A N T s → mNm M A S → h < 2 ^ aP A → ∃ M', xSm numF M M' ∧ ((∃ x, rPs A S N T s.2.1 f h s.1 = .inl x ∧ xfix gX12_aStep (18, [some (.inr (.inr (12, 0))), some (.inl (iZ (h))), some (.inl (iZ ((1 : Int)))), none], [], M) = some (some (.inl (iZ (0))), M') ∧ rFl M' x) ∨ ∃ h' st', rPs A S N T s.2.1 f h s.1 = .inr (h', st') ∧ xfix gX12_aStep (18, [some (.inr (.inr (12, 0))), some (.inl (iZ (h))), some (.inl (iZ ((1 : Int)))), none], [], M) = xfix gX12_aStep (18, [some (.inr (.inr (12, 0))), some (.inl (iZ (h'))), some (.inl (iZ ((0 : Int)))), none], [], M') ∧ rM M' A N T (st', s.2) ∧ 1 ≤ h' ∧ h' < 2 ^ aP A ∧ s.2.1 < 16) := by
  intro f
  induction f with
  | zero =>
    intro h M s hN hM hm hh
    have := hM.1.2.2.1
    omega
  | succ f ih =>
    intro h M s hN hM hm hh
    have hM' := hM
    obtain ⟨⟨k1, k2, k3, d1, d2, d3, d4⟩, ⟨b1, b2⟩, c⟩ := hM'
    have hb := tk_b True N T s.1
    have hP := hm.1.2
    have h9 : (2 : Nat) ^ aP A ≤ 512 := Nat.pow_le_pow_right (n := 2) (by omega) hP
    unfold rPs
    by_cases c1 : ¬ tk True N T s.1 = 3
    · rw [if_pos c1]
      obtain ⟨M', x1, x2, x3⟩ := m_badN (k := 1) d1
      refine ⟨M', x2, .inl ⟨_, rfl, ?_, x3⟩⟩
      rw [xfix_unf, sX12_aStep_18]
      simp (disch := omega) only [xk_none, xk_inl, xk_inr, xk_ite, xri_v, xrl_v, xrv_v, xb_z0, xb_z1, xb_b2, if_true, if_false, ite_true, ite_false, iZ_lit, iZ_m1, iZ_m99, iZ_m8, iZ_add, iZ_sub, iZ_mul, iZ_neg, nz0, nzi, iZ_lt, iZ_le, iZ_inj, b2_z, b2_o, ite_bPz, ite_bPo, xb_bP, iZ_xin, if_pos, ite_self, ↓reduceIte, Int.reduceAdd, Int.reduceSub, Int.reduceMul, Int.reduceNeg, Int.reduceLT, Int.reduceLE, if_neg, d3, c1, x1]
    rw [if_neg c1]
    have c1' : tk True N T s.1 = 3 := by omega
    have hkn := m_knownPart hM.1 hm
    by_cases c2 : rKn A S N T s.1 < aP A
    · rw [if_pos c2] at hkn
      generalize rKn A S N T s.1 = q at *
      by_cases c3 : h.testBit q = true
      · rw [if_pos (.inr c3)]
        obtain ⟨M', x1, x2, x3⟩ := m_badN (k := 2) d1
        refine ⟨M', x2, .inl ⟨_, rfl, ?_, x3⟩⟩
        rw [xfix_unf, sX12_aStep_18]
        simp (disch := omega) only [xk_none, xk_inl, xk_inr, xk_ite, xri_v, xrl_v, xrv_v, xb_z0, xb_z1, xb_b2, if_true, if_false, ite_true, ite_false, iZ_lit, iZ_m1, iZ_m99, iZ_m8, iZ_add, iZ_sub, iZ_mul, iZ_neg, nz0, nzi, iZ_lt, iZ_le, iZ_inj, b2_z, b2_o, ite_bPz, ite_bPo, xb_bP, iZ_xin, if_pos, ite_self, ↓reduceIte, Int.reduceAdd, Int.reduceSub, Int.reduceMul, Int.reduceNeg, Int.reduceLT, Int.reduceLE, if_neg, nS, iZ_clampN, iZ_bit, iZ_one, iZ_and, iZ_or, iZ_ndn, d3, c1', hkn, bP_t c3, x1]
      rw [if_neg (fun z => z.elim (fun y => y c2) c3)]
      by_cases c4 : s.2.1 = 16
      · rw [if_pos c4]
        obtain ⟨M', x1, x2, x3⟩ := m_badN (k := 3) d1
        refine ⟨M', x2, .inl ⟨_, rfl, ?_, x3⟩⟩
        rw [xfix_unf, sX12_aStep_18]
        simp (disch := omega) only [xk_none, xk_inl, xk_inr, xk_ite, xri_v, xrl_v, xrv_v, xb_z0, xb_z1, xb_b2, if_true, if_false, ite_true, ite_false, iZ_lit, iZ_m1, iZ_m99, iZ_m8, iZ_add, iZ_sub, iZ_mul, iZ_neg, nz0, nzi, iZ_lt, iZ_le, iZ_inj, b2_z, b2_o, ite_bPz, ite_bPo, xb_bP, iZ_xin, if_pos, ite_self, ↓reduceIte, Int.reduceAdd, Int.reduceSub, Int.reduceMul, Int.reduceNeg, Int.reduceLT, Int.reduceLE, if_neg, nS, iZ_clampN, iZ_bit, iZ_one, iZ_and, iZ_or, iZ_ndn, d3, c1', hkn, bP_f c3, b1, c4, x1]
      rw [if_neg c4]
      obtain ⟨M1, x1, x2, x3⟩ := hM.1.nx
      have hM1 := hM.nx (x2.wk fun r j z => .inl z) x3
      have e20 := x3.2.2.2.2.2.1
      have hb1 := tk_b True N T (adv N T s.1)
      have hst : s.1 < N := (tk3 c1').1
      have ha := (adv_b (T := T) k3).2 hst
      have hq2 : h ||| 2 ^ q < 2 ^ aP A := Nat.or_lt_two_pow hh (Nat.pow_lt_pow_right (by omega) c2)
      have hq1 : 1 ≤ h ||| 2 ^ q := by
        have e : (h ||| 2 ^ q).testBit q = true := by rw [Nat.testBit_or, Nat.testBit_two_pow_self, Bool.or_true]
        have := Nat.ge_two_pow_of_testBit e
        have := Nat.two_pow_pos q
        omega
      by_cases c5 : tk True N T (adv N T s.1) = 7
      · rw [if_pos c5]
        obtain ⟨M2, y1, y2, y3⟩ := x3.nx
        have hM2 : rM M2 A N T (adv N T (adv N T s.1), s.2) := hM1.nx (y2.wk fun r j z => .inl z) y3
        have s2 : xSm numF M M2 := (x2.wk fun r j z => .inl z).tr (y2.wk fun r j z => .inl z)
        have ha2 := adv_b (T := T) (adv_b (T := T) k3).1
        have ha3 : adv N T s.1 ≤ adv N T (adv N T s.1) := by
          by_cases z : adv N T s.1 < N
          · have := ha2.2 z; omega
          · have hz := tE_b (T := T) (adv_b (T := T) k3).1
            have hz2 := rn_b (P := isB) (T := T) hz.2.1
            unfold adv at hz hz2 ⊢
            unfold sk at hz hz2 ⊢
            omega
        obtain ⟨M3, z1, z2⟩ := ih (h ||| 2 ^ q) M2 (adv N T (adv N T s.1), s.2) (by show N < adv N T (adv N T s.1) + f; omega) hM2 (hm.rc (rcF_num s2)) hq2
        have top : xfix gX12_aStep (18, [some (.inr (.inr (12, 0))), some (.inl (iZ (h))), some (.inl (iZ ((1 : Int)))), none], [], M) = xfix gX12_aStep (18, [some (.inr (.inr (12, 0))), some (.inl (iZ (((h ||| 2 ^ q : Nat))))), some (.inl (iZ ((1 : Int)))), none], [], M2) := by
          rw [xfix_unf, sX12_aStep_18]
          simp (disch := omega) only [xk_none, xk_inl, xk_inr, xk_ite, xri_v, xrl_v, xrv_v, xb_z0, xb_z1, xb_b2, if_true, if_false, ite_true, ite_false, iZ_lit, iZ_m1, iZ_m99, iZ_m8, iZ_add, iZ_sub, iZ_mul, iZ_neg, nz0, nzi, iZ_lt, iZ_le, iZ_inj, b2_z, b2_o, ite_bPz, ite_bPo, xb_bP, iZ_xin, if_pos, ite_self, ↓reduceIte, Int.reduceAdd, Int.reduceSub, Int.reduceMul, Int.reduceNeg, Int.reduceLT, Int.reduceLE, if_neg, nS, iZ_clampN, iZ_bit, iZ_one, iZ_and, iZ_or, iZ_ndn, d3, c1', hkn, bP_f c3, b1, x1, e20, c5, y1]
        rcases z2 with ⟨x, w1, w2, w3⟩ | ⟨h', st', w1, w2, w3⟩
        · exact ⟨M3, s2.tr z1, .inl ⟨x, w1, top.trans w2, w3⟩⟩
        · exact ⟨M3, s2.tr z1, .inr ⟨h', st', w1, top.trans w2, w3⟩⟩
      · rw [if_neg c5]
        refine ⟨M1, x2.wk fun r j z => .inl z, .inr ⟨_, _, rfl, ?_, hM1, hq1, hq2, by omega⟩⟩
        rw [xfix_unf, sX12_aStep_18]
        simp (disch := omega) only [xk_none, xk_inl, xk_inr, xk_ite, xri_v, xrl_v, xrv_v, xb_z0, xb_z1, xb_b2, if_true, if_false, ite_true, ite_false, iZ_lit, iZ_m1, iZ_m99, iZ_m8, iZ_add, iZ_sub, iZ_mul, iZ_neg, nz0, nzi, iZ_lt, iZ_le, iZ_inj, b2_z, b2_o, ite_bPz, ite_bPo, xb_bP, iZ_xin, if_pos, ite_self, ↓reduceIte, Int.reduceAdd, Int.reduceSub, Int.reduceMul, Int.reduceNeg, Int.reduceLT, Int.reduceLE, if_neg, nS, iZ_clampN, iZ_bit, iZ_one, iZ_and, iZ_or, iZ_ndn, d3, c1', hkn, bP_f c3, b1, x1, e20, c5]
    · rw [if_neg c2] at hkn
      rw [if_pos (.inl c2)]
      obtain ⟨M', x1, x2, x3⟩ := m_badN (k := 2) d1
      refine ⟨M', x2, .inl ⟨_, rfl, ?_, x3⟩⟩
      rw [xfix_unf, sX12_aStep_18]
      simp (disch := omega) only [xk_none, xk_inl, xk_inr, xk_ite, xri_v, xrl_v, xrv_v, xb_z0, xb_z1, xb_b2, if_true, if_false, ite_true, ite_false, iZ_lit, iZ_m1, iZ_m99, iZ_m8, iZ_add, iZ_sub, iZ_mul, iZ_neg, nz0, nzi, iZ_lt, iZ_le, iZ_inj, b2_z, b2_o, ite_bPz, ite_bPo, xb_bP, iZ_xin, if_pos, ite_self, ↓reduceIte, Int.reduceAdd, Int.reduceSub, Int.reduceMul, Int.reduceNeg, Int.reduceLT, Int.reduceLE, if_neg, d3, c1', hkn, x1]
