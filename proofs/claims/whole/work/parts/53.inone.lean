/-! the reference: two made in one, and safe orders -/
def dI (rO rL : xR) (M : xM) (heap : Nat) (o l : Int) (N : xM) : Prop := xSm (fun r j => j = heap ∧ (r = rO ∨ r = rL)) M N ∧ xL N rO heap = lZ o ∧ xI N rL heap = iZ l
theorem dI.S {rO rL : xR} {M N : xM} {heap : Nat} {o l : Int} (h : dI rO rL M heap o l N) : xSame (fun r => r = rO ∨ r = rL) M N := h.1.S fun _ _ z => z.2
theorem dI.pO {rO rL : xR} {M N : xM} {heap : Nat} {o l : Int} (h : dI rO rL M heap o l N) (o' : Int) : dI rO rL M heap o' l (xpL N rO heap (lZ o')) := ⟨h.1.pL ⟨rfl, .inl rfl⟩, by rw [xL_pL, if_pos ⟨rfl, rfl⟩], h.2.2⟩
theorem dI.pl {rO rL : xR} {M N : xM} {heap : Nat} {o l : Int} (h : dI rO rL M heap o l N) (l' : Int) : dI rO rL M heap o l' (xpI N rL heap (iZ l')) := ⟨h.1.pI ⟨rfl, .inr rfl⟩, h.2.1, by rw [xI_pI, if_pos ⟨rfl, rfl⟩]⟩
theorem dI.oO {rO rL : xR} {M N : xM} {heap k : Nat} {o l : Int} (h : dI rO rL M heap o l N) (r : xR) (hk : k ≠ heap) : xL N r k = xL M r k ∧ xI N r k = xI M r k := ⟨(h.1 r k (fun z => hk z.1)).2, (h.1 r k (fun z => hk z.1)).1⟩
def onp (pair h : Nat) : Prop := bc h = 1 ∨ h = pair
def okp (pair heap half : Nat) : Prop := ¬ ((half &&& pair) ≠ 0 ∧ (ndn heap half &&& pair) ≠ 0)
theorem leaW_S {gw : Nat → Nat → Nat → Prop} {cst : Nat → Nat → Int} {heap half : Nat} {b : Int} {s : Int × Nat × Nat} {w : Nat} : (leaW gw cst heap half b s (w + 1)).1 = @ite _ (gw heap half w ∧ ((leaW gw cst heap half b s w).1 = -1 ∨ cst heap w + b < (leaW gw cst heap half b s w).1)) (Classical.propDecidable _) (cst heap w + b) (leaW gw cst heap half b s w).1 := by
  rw [show leaW gw cst heap half b s (w + 1) = @ite _ (gw heap half w ∧ ((leaW gw cst heap half b s w).1 = -1 ∨ cst heap w + b < (leaW gw cst heap half b s w).1)) (Classical.propDecidable _) (cst heap w + b, half, w) (leaW gw cst heap half b s w) from rfl]
  split <;> rfl
theorem co_ways {A : dA} {B : Nat → Nat} {M M' : xM} {heap half pair : Nat} {o a b : Int} {l : Int × Nat × Nat} (hA : mA M A) (hB : mB M B) (hH : mH M A) (h1 : 1 ≤ heap) (hh : heap < 2 ^ aP A) (hk : half &&& heap = half) (hk1 : 1 ≤ half) (hk2 : half < heap) (hl : loose A heap half) (ha : 0 ≤ a ∧ a ≤ 600000) (hb : 0 ≤ b ∧ b ≤ 600000) (hlb : -1 ≤ l.1 ∧ l.1 ≤ 1300000) (e1 : xI M (150, 0) half = iZ a) (e2 : xI M (150, 0) (ndn heap half) = iZ b) (hI : dI (149, 0) (150, 0) M heap o l.1 M') :
    ∃ M'', xfix gX12_countsOne (187, [some (.inr (.inr (12, 0))), some (.inl (iZ (heap))), some (.inl (iZ (pair))), some (.inl (iZ ((0 : Int)))), some (.inl (iZ (half))), some (.inl (iZ ((ndn heap half)))), none, some (.inl (iZ ((0 : Nat)))), none], [], M') = xfix gX12_countsOne (52, [some (.inr (.inr (12, 0))), some (.inl (iZ (heap))), some (.inl (iZ (pair))), some (.inl (iZ ((0 : Int)))), some (.inl (iZ (((half : Int) + 1)))), none, none, none, none], [], M'') ∧ dI (149, 0) (150, 0) M heap o (leaW (gdw A B) (cstA A) heap half (a + b) l 6).1 M'' := by
  have hP := pow9 hA.ok.P
  have hrest := ndn_add heap half hk
  obtain ⟨M2, g1, g2⟩ := xfor_M (sg := gX12_countsOne) (st := fun w M => (187, [some (.inr (.inr (12, 0))), some (.inl (iZ (heap))), some (.inl (iZ (pair))), some (.inl (iZ ((0 : Int)))), some (.inl (iZ (half))), some (.inl (iZ ((ndn heap half)))), none, some (.inl (iZ (w))), none], [], M)) (I := fun w M' => dI (149, 0) (150, 0) M heap o (leaW (gdw A B) (cstA A) heap half (a + b) l w).1 M') (n := 6) (fun w N hw hN => by
    have hbd := leaW_b (gw := gdw A B) (cst := cstA A) (heap := heap) (half := half) (b := a + b) (s := l) (C := 1300000) (by omega) (fun w hw => by have := cstA_b hA.ok heap hw; omega) hlb w (by omega)
    have hc := cstA_b hA.ok heap hw
    have hNA := hA.fr hN.S (by decide)
    have hNB := hB.fr hN.S (by decide)
    have f1 : xI N (150, 0) half = iZ a := by rw [(hN.oO _ (by omega)).2, e1]
    have f2 : xI N (150, 0) (ndn heap half) = iZ b := by rw [(hN.oO _ (by omega)).2, e2]
    have f3 : xI N (139, 0) heap = iZ (hnd A heap) := by rw [(hN.S (139, 0) (by decide)).1, hH heap h1 hh]
    have f4 := hN.2.2
    have ec : (aPr A w : Int) + aPr A 6 * hnd A heap + a + b = cstA A heap w + (a + b) := by unfold cstA; omega
    rw [leaW_S]
    generalize leaW (gdw A B) (cstA A) heap half (a + b) l w = s at *
    by_cases c1 : lv (aP A) B heap half w
    · by_cases c2 : s.1 = -1 ∨ cstA A heap w + (a + b) < s.1
      · rw [if_pos ⟨⟨c1, hl⟩, c2⟩]
        refine ⟨_, ?_, hN.pl _⟩
        rw [xfix_unf, sX12_countsOne_187]
        simp (disch := omega) only [xk_none, xk_inl, xk_inr, xk_ite, xri_v, xrl_v, xrv_v, xb_z0, xb_z1, xb_b2, if_true, if_false, ite_true, ite_false, iZ_lit, iZ_m1, iZ_m99, iZ_m8, iZ_add, iZ_sub, iZ_mul, iZ_neg, nz0, nzi, iZ_lt, iZ_le, iZ_inj, b2_z, b2_o, ite_bPz, ite_bPo, xb_bP, iZ_xin, if_pos, ite_self, ↓reduceIte, Int.reduceAdd, Int.reduceSub, Int.reduceMul, Int.reduceNeg, Int.reduceLT, Int.reduceLE, if_neg, nS, iZ_clampN, iZ_bit, iZ_one, iZ_and, iZ_or, iZ_ndn, m_leaves hNA.P hNB (by omega : heap < 512) (by omega : half < 512) hw, hNA.pr (w := w) (by omega), hNA.pr (w := 6) (by omega), f1, f2, f3, f4, c1, cl_6, ec]
      · rw [if_neg (fun z => c2 z.2)]
        refine ⟨N, ?_, hN⟩
        rw [xfix_unf, sX12_countsOne_187]
        simp (disch := omega) only [xk_none, xk_inl, xk_inr, xk_ite, xri_v, xrl_v, xrv_v, xb_z0, xb_z1, xb_b2, if_true, if_false, ite_true, ite_false, iZ_lit, iZ_m1, iZ_m99, iZ_m8, iZ_add, iZ_sub, iZ_mul, iZ_neg, nz0, nzi, iZ_lt, iZ_le, iZ_inj, b2_z, b2_o, ite_bPz, ite_bPo, xb_bP, iZ_xin, if_pos, ite_self, ↓reduceIte, Int.reduceAdd, Int.reduceSub, Int.reduceMul, Int.reduceNeg, Int.reduceLT, Int.reduceLE, if_neg, nS, iZ_clampN, iZ_bit, iZ_one, iZ_and, iZ_or, iZ_ndn, m_leaves hNA.P hNB (by omega : heap < 512) (by omega : half < 512) hw, hNA.pr (w := w) (by omega), hNA.pr (w := 6) (by omega), f1, f2, f3, f4, c1, cl_6, ec]
    · rw [if_neg (fun z => c1 z.1.1)]
      refine ⟨N, ?_, hN⟩
      rw [xfix_unf, sX12_countsOne_187]
      simp (disch := omega) only [xk_none, xk_inl, xk_inr, xk_ite, xri_v, xrl_v, xrv_v, xb_z0, xb_z1, xb_b2, if_true, if_false, ite_true, ite_false, iZ_lit, iZ_m1, iZ_m99, iZ_m8, iZ_add, iZ_sub, iZ_mul, iZ_neg, nz0, nzi, iZ_lt, iZ_le, iZ_inj, b2_z, b2_o, ite_bPz, ite_bPo, xb_bP, iZ_xin, if_pos, ite_self, ↓reduceIte, Int.reduceAdd, Int.reduceSub, Int.reduceMul, Int.reduceNeg, Int.reduceLT, Int.reduceLE, if_neg, nS, iZ_clampN, iZ_bit, iZ_one, iZ_and, iZ_or, iZ_ndn, m_leaves hNA.P hNB (by omega : heap < 512) (by omega : half < 512) hw, c1]) (a := 0) (M := M') (by omega) hI
  refine ⟨M2, g1.trans ?_, g2⟩
  rw [xfix_unf, sX12_countsOne_187]
  simp (disch := omega) only [xk_none, xk_inl, xk_inr, xk_ite, xri_v, xrl_v, xrv_v, xb_z0, xb_z1, xb_b2, if_true, if_false, ite_true, ite_false, iZ_lit, iZ_m1, iZ_m99, iZ_m8, iZ_add, iZ_sub, iZ_mul, iZ_neg, nz0, nzi, iZ_lt, iZ_le, iZ_inj, b2_z, b2_o, ite_bPz, ite_bPo, xb_bP, iZ_xin, if_pos, ite_self, ↓reduceIte, Int.reduceAdd, Int.reduceSub, Int.reduceMul, Int.reduceNeg, Int.reduceLT, Int.reduceLE, if_neg]
theorem ordP_S {one : Nat → Prop} {ok pt : Nat → Nat → Prop} {heap : Nat} {T : Nat → Int} {k : Nat} : ordP one ok pt heap T (k + 1) = ordP one ok pt heap T k + @ite _ (hlf one ok heap k ∧ k < ndn heap k ∧ pt heap k) (Classical.propDecidable _) (T k * T (ndn heap k)) 0 := (Int.add_assoc _ _ _).symm
theorem ordP_1 {one : Nat → Prop} {ok pt : Nat → Nat → Prop} {heap : Nat} {T : Nat → Int} : ordP one ok pt heap T 1 = @ite _ (one heap) (Classical.propDecidable _) 1 0 := by
  rw [ordP_S, if_neg (c := hlf one ok heap 0 ∧ 0 < ndn heap 0 ∧ pt heap 0) (fun z => absurd z.1.2.1 (by decide)), Int.add_zero]
  unfold ordP sm
  omega
theorem leaP_1 {one : Nat → Prop} {ok : Nat → Nat → Prop} {gw : Nat → Nat → Nat → Prop} {cst : Nat → Nat → Int} {heap : Nat} {T : Nat → Int × Nat × Nat} : leaP one ok gw cst heap T 1 = @ite _ (one heap) (Classical.propDecidable _) (0, 0, 0) (-1, 0, 0) := by
  unfold leaP
  rw [if_neg (fun z => absurd z.1.2.1 (by decide))]
  rfl
theorem leaP_S {one : Nat → Prop} {ok : Nat → Nat → Prop} {gw : Nat → Nat → Nat → Prop} {cst : Nat → Nat → Int} {heap k : Nat} {T : Nat → Int × Nat × Nat} : leaP one ok gw cst heap T (k + 1) = @ite _ (hlf one ok heap k ∧ (T k).1 ≠ -1 ∧ (T (ndn heap k)).1 ≠ -1) (Classical.propDecidable _) (leaW gw cst heap k ((T k).1 + (T (ndn heap k)).1) (leaP one ok gw cst heap T k) 6) (leaP one ok gw cst heap T k) := rfl
theorem m_countsOne {A : dA} {B : Nat → Nat} {M : xM} {heap pair : Nat} {TO : Nat → Int} {TL : Nat → Int × Nat × Nat} (hA : mA M A) (hB : mB M B) (hH : mH M A) (h1 : 1 ≤ heap) (hh : heap < 2 ^ aP A) (hpr : pair < 512) (hO : ∀ k, 1 ≤ k → k < heap → xL M (149, 0) k = lZ (TO k)) (hL : ∀ k, 1 ≤ k → k < heap → xI M (150, 0) k = iZ (TL k).1) (bL : ∀ k, 1 ≤ k → k < heap → -1 ≤ (TL k).1 ∧ (TL k).1 ≤ 1089 * (k - 1)) :
    ∃ M', fX12_countsOne [.inr (.inr (12, 0)), .inl (iZ (heap)), .inl (iZ (pair))] M = some (none, M') ∧ dI (149, 0) (150, 0) M heap (ordP (onp pair) (okp pair) (prt A B) heap TO heap) (leaP (onp pair) (okp pair) (gdw A B) (cstA A) heap TL heap).1 M' := by
  have hP := pow9 hA.ok.P
  have hh5 : heap < 512 := by omega
  have hb := bc_le heap
  by_cases ho : onp pair heap
  · have e1 : ∀ k, ordP (onp pair) (okp pair) (prt A B) heap TO k = 1 := fun k => by
      induction k with
      | zero => unfold ordP sm; rw [if_pos ho]; rfl
      | succ k ih => rw [ordP_S, ih, if_neg (fun z => z.1.1 ho)]; rfl
    have e2 : ∀ k, leaP (onp pair) (okp pair) (gdw A B) (cstA A) heap TL k = (0, 0, 0) := fun k => by
      induction k with
      | zero => unfold leaP; rw [if_pos ho]
      | succ k ih => rw [leaP_S, ih, if_neg (fun z => z.1.1 ho)]
    rw [e1, e2]
    refine ⟨xpI (xpL M (149, 0) heap (lZ 1)) (150, 0) heap (iZ 0), ?_, (xSm.rf.pL ⟨rfl, .inl rfl⟩).pI ⟨rfl, .inr rfl⟩, by rw [xL_pI, xL_pL, if_pos ⟨rfl, rfl⟩], by rw [xI_pI, if_pos ⟨rfl, rfl⟩]⟩
    have e18 : fX12_countsOne [.inr (.inr (12, 0)), .inl (iZ (heap)), .inl (iZ (pair))] M = xfix gX12_countsOne (18, [some (.inr (.inr (12, 0))), some (.inl (iZ (heap))), some (.inl (iZ (pair))), none, none, none, none, none, none], [.inl (iZ ((1 : Int)))], M) := by
      show xfix gX12_countsOne (0, [some (.inr (.inr (12, 0))), some (.inl (iZ (heap))), some (.inl (iZ (pair))), none, none, none, none, none, none], [], M) = _; rw [xfix_unf, sX12_countsOne_0]
      simp (disch := omega) only [xk_none, xk_inl, xk_inr, xk_ite, xri_v, xrl_v, xrv_v, xb_z0, xb_z1, xb_b2, if_true, if_false, ite_true, ite_false, iZ_lit, iZ_m1, iZ_m99, iZ_m8, iZ_add, iZ_sub, iZ_mul, iZ_neg, nz0, nzi, iZ_lt, iZ_le, iZ_inj, b2_z, b2_o, ite_bPz, ite_bPo, xb_bP, iZ_xin, if_pos, ite_self, ↓reduceIte, Int.reduceAdd, Int.reduceSub, Int.reduceMul, Int.reduceNeg, Int.reduceLT, Int.reduceLE, if_neg, nS, iZ_clampN, iZ_bit, iZ_one, iZ_and, iZ_or, iZ_ndn, m_bits M (v := heap) (by omega)]
      rcases ho with ho | ho
      · rw [if_pos (by omega)]
      · rw [if_pos (by omega : heap = pair), ite_self]
    rw [e18]
    rw [xfix_unf, sX12_countsOne_18]
    simp (disch := omega) only [xk_none, xk_inl, xk_inr, xk_ite, xri_v, xrl_v, xrv_v, xb_z0, xb_z1, xb_b2, if_true, if_false, ite_true, ite_false, iZ_lit, iZ_m1, iZ_m99, iZ_m8, iZ_add, iZ_sub, iZ_mul, iZ_neg, nz0, nzi, iZ_lt, iZ_le, iZ_inj, b2_z, b2_o, ite_bPz, ite_bPo, xb_bP, iZ_xin, if_pos, ite_self, ↓reduceIte, Int.reduceAdd, Int.reduceSub, Int.reduceMul, Int.reduceNeg, Int.reduceLT, Int.reduceLE, if_neg]
    rw [xfix_unf, sX12_countsOne_33]
    simp (disch := omega) only [xk_none, xk_inl, xk_inr, xk_ite, xri_v, xrl_v, xrv_v, xb_z0, xb_z1, xb_b2, if_true, if_false, ite_true, ite_false, iZ_lit, iZ_m1, iZ_m99, iZ_m8, iZ_add, iZ_sub, iZ_mul, iZ_neg, nz0, nzi, iZ_lt, iZ_le, iZ_inj, b2_z, b2_o, ite_bPz, ite_bPo, xb_bP, iZ_xin, if_pos, ite_self, ↓reduceIte, Int.reduceAdd, Int.reduceSub, Int.reduceMul, Int.reduceNeg, Int.reduceLT, Int.reduceLE, if_neg, iZ_clampN, lZ_lit]
    rw [xfix_unf, sX12_countsOne_52]
    simp (disch := omega) only [xk_none, xk_inl, xk_inr, xk_ite, xri_v, xrl_v, xrv_v, xb_z0, xb_z1, xb_b2, if_true, if_false, ite_true, ite_false, iZ_lit, iZ_m1, iZ_m99, iZ_m8, iZ_add, iZ_sub, iZ_mul, iZ_neg, nz0, nzi, iZ_lt, iZ_le, iZ_inj, b2_z, b2_o, ite_bPz, ite_bPo, xb_bP, iZ_xin, if_pos, ite_self, ↓reduceIte, Int.reduceAdd, Int.reduceSub, Int.reduceMul, Int.reduceNeg, Int.reduceLT, Int.reduceLE, if_neg]
  · have hno : ¬ bc heap = 1 := fun z => ho (.inl z)
    have hno2 : ¬ heap = pair := fun z => ho (.inr z)
    have top : fX12_countsOne [.inr (.inr (12, 0)), .inl (iZ (heap)), .inl (iZ (pair))] M = xfix gX12_countsOne (52, [some (.inr (.inr (12, 0))), some (.inl (iZ (heap))), some (.inl (iZ (pair))), some (.inl (iZ ((0 : Int)))), some (.inl (iZ ((1 : Nat)))), none, none, none, none], [], xpI (xpL M (149, 0) heap (lZ 0)) (150, 0) heap (iZ (-1))) := by
      show xfix gX12_countsOne (0, [some (.inr (.inr (12, 0))), some (.inl (iZ (heap))), some (.inl (iZ (pair))), none, none, none, none, none, none], [], M) = _; rw [xfix_unf, sX12_countsOne_0]
      simp (disch := omega) only [xk_none, xk_inl, xk_inr, xk_ite, xri_v, xrl_v, xrv_v, xb_z0, xb_z1, xb_b2, if_true, if_false, ite_true, ite_false, iZ_lit, iZ_m1, iZ_m99, iZ_m8, iZ_add, iZ_sub, iZ_mul, iZ_neg, nz0, nzi, iZ_lt, iZ_le, iZ_inj, b2_z, b2_o, ite_bPz, ite_bPo, xb_bP, iZ_xin, if_pos, ite_self, ↓reduceIte, Int.reduceAdd, Int.reduceSub, Int.reduceMul, Int.reduceNeg, Int.reduceLT, Int.reduceLE, if_neg, nS, iZ_clampN, iZ_bit, iZ_one, iZ_and, iZ_or, iZ_ndn, m_bits M (v := heap) (by omega)]
      rw [xfix_unf, sX12_countsOne_18]
      simp (disch := omega) only [xk_none, xk_inl, xk_inr, xk_ite, xri_v, xrl_v, xrv_v, xb_z0, xb_z1, xb_b2, if_true, if_false, ite_true, ite_false, iZ_lit, iZ_m1, iZ_m99, iZ_m8, iZ_add, iZ_sub, iZ_mul, iZ_neg, nz0, nzi, iZ_lt, iZ_le, iZ_inj, b2_z, b2_o, ite_bPz, ite_bPo, xb_bP, iZ_xin, if_pos, ite_self, ↓reduceIte, Int.reduceAdd, Int.reduceSub, Int.reduceMul, Int.reduceNeg, Int.reduceLT, Int.reduceLE, if_neg]
      rw [xfix_unf, sX12_countsOne_33]
      simp (disch := omega) only [xk_none, xk_inl, xk_inr, xk_ite, xri_v, xrl_v, xrv_v, xb_z0, xb_z1, xb_b2, if_true, if_false, ite_true, ite_false, iZ_lit, iZ_m1, iZ_m99, iZ_m8, iZ_add, iZ_sub, iZ_mul, iZ_neg, nz0, nzi, iZ_lt, iZ_le, iZ_inj, b2_z, b2_o, ite_bPz, ite_bPo, xb_bP, iZ_xin, if_pos, ite_self, ↓reduceIte, Int.reduceAdd, Int.reduceSub, Int.reduceMul, Int.reduceNeg, Int.reduceLT, Int.reduceLE, if_neg, iZ_clampN, lZ_lit]
      rfl
    have s1 : dI (149, 0) (150, 0) M heap 0 (-1) (xpI (xpL M (149, 0) heap (lZ 0)) (150, 0) heap (iZ (-1))) := ⟨(xSm.rf.pL ⟨rfl, .inl rfl⟩).pI ⟨rfl, .inr rfl⟩, by rw [xL_pI, xL_pL, if_pos ⟨rfl, rfl⟩], by rw [xI_pI, if_pos ⟨rfl, rfl⟩]⟩
    obtain ⟨M2, b1, b2⟩ := xfor_M (sg := gX12_countsOne) (st := fun k M => (52, [some (.inr (.inr (12, 0))), some (.inl (iZ (heap))), some (.inl (iZ (pair))), some (.inl (iZ ((0 : Int)))), some (.inl (iZ (k))), none, none, none, none], [], M)) (I := fun k N => 1 ≤ k ∧ dI (149, 0) (150, 0) M heap (ordP (onp pair) (okp pair) (prt A B) heap TO k) (leaP (onp pair) (okp pair) (gdw A B) (cstA A) heap TL k).1 N) (n := heap) (fun k N hk hN => by
      obtain ⟨hk1, hN⟩ := hN
      have bb := leaP_b (one := onp pair) (ok := okp pair) (gw := gdw A B) h1 (fun w hw => cstA_b hA.ok heap hw) bL k (by omega)
      have hle := ndn_le k heap
      have hle2 := ndn_le heap k
      have z1 : (k &&& pair) < 512 := Nat.lt_of_le_of_lt Nat.and_le_left (by omega)
      have z2 : (ndn heap k &&& pair) < 512 := Nat.lt_of_le_of_lt Nat.and_le_left (by omega)
      have hNA := hA.fr hN.S (by decide)
      have hNB := hB.fr hN.S (by decide)
      have e89 : xfix gX12_countsOne (52, [some (.inr (.inr (12, 0))), some (.inl (iZ (heap))), some (.inl (iZ (pair))), some (.inl (iZ ((0 : Int)))), some (.inl (iZ (k))), none, none, none, none], [], N) = xfix gX12_countsOne (89, [some (.inr (.inr (12, 0))), some (.inl (iZ (heap))), some (.inl (iZ (pair))), some (.inl (iZ ((0 : Int)))), some (.inl (iZ (k))), some (.inl (iZ ((ndn heap k)))), none, none, none], [.inl (bP ((¬ okp pair heap k)))], N) := by
        rw [xfix_unf, sX12_countsOne_52]
        simp (disch := omega) only [xk_none, xk_inl, xk_inr, xk_ite, xri_v, xrl_v, xrv_v, xb_z0, xb_z1, xb_b2, if_true, if_false, ite_true, ite_false, iZ_lit, iZ_m1, iZ_m99, iZ_m8, iZ_add, iZ_sub, iZ_mul, iZ_neg, nz0, nzi, iZ_lt, iZ_le, iZ_inj, b2_z, b2_o, ite_bPz, ite_bPo, xb_bP, iZ_xin, if_pos, ite_self, ↓reduceIte, Int.reduceAdd, Int.reduceSub, Int.reduceMul, Int.reduceNeg, Int.reduceLT, Int.reduceLE, if_neg, nS, iZ_clampN, iZ_bit, iZ_one, iZ_and, iZ_or, iZ_ndn, iZ_z]
        by_cases y1 : k &&& pair = 0
        · rw [if_pos y1, bP_f (c := ¬ okp pair heap k) (fun z => z (fun y => y.1 y1))]
        · by_cases y2 : ndn heap k &&& pair = 0
          · rw [if_neg y1, if_pos y2, bP_f (c := ¬ okp pair heap k) (fun z => z (fun y => y.2 y2))]
          · rw [if_neg y1, if_neg y2, bP_t (c := ¬ okp pair heap k) (fun z => z ⟨y1, y2⟩)]
      by_cases c0 : hlf (onp pair) (okp pair) heap k
      · have hsub := c0.2.2.1
        have hr := hlf_rest c0 hk
        have hz : ndn k heap = 0 := ndn_and.mpr hsub
        rw [bP_f (c := ¬ okp pair heap k) (fun z => z c0.2.2.2)] at e89
        obtain ⟨N2, g1, g2⟩ : ∃ N2, xfix gX12_countsOne (52, [some (.inr (.inr (12, 0))), some (.inl (iZ (heap))), some (.inl (iZ (pair))), some (.inl (iZ ((0 : Int)))), some (.inl (iZ (k))), none, none, none, none], [], N) = xfix gX12_countsOne (149, [some (.inr (.inr (12, 0))), some (.inl (iZ (heap))), some (.inl (iZ (pair))), some (.inl (iZ ((0 : Int)))), some (.inl (iZ (k))), some (.inl (iZ ((ndn heap k)))), none, none, none], [], N2) ∧ dI (149, 0) (150, 0) M heap (ordP (onp pair) (okp pair) (prt A B) heap TO (k + 1)) (leaP (onp pair) (okp pair) (gdw A B) (cstA A) heap TL k).1 N2 := by
          rw [ordP_S, e89]
          have f1 : xL N (149, 0) k = lZ (TO k) := by rw [(hN.oO _ (by omega)).1]; exact hO k hk1 hk
          have f2 : xL N (149, 0) (ndn heap k) = lZ (TO (ndn heap k)) := by rw [(hN.oO _ (by omega)).1]; exact hO _ (by omega) (by omega)
          by_cases c1 : k < ndn heap k
          · by_cases c2 : prt A B heap k
            · rw [if_pos ⟨c0, c1, c2⟩]
              refine ⟨_, ?_, hN.pO _⟩
              rw [xfix_unf, sX12_countsOne_89]
              simp (disch := omega) only [xk_none, xk_inl, xk_inr, xk_ite, xri_v, xrl_v, xrv_v, xb_z0, xb_z1, xb_b2, if_true, if_false, ite_true, ite_false, iZ_lit, iZ_m1, iZ_m99, iZ_m8, iZ_add, iZ_sub, iZ_mul, iZ_neg, nz0, nzi, iZ_lt, iZ_le, iZ_inj, b2_z, b2_o, ite_bPz, ite_bPo, xb_bP, iZ_xin, if_pos, ite_self, ↓reduceIte, Int.reduceAdd, Int.reduceSub, Int.reduceMul, Int.reduceNeg, Int.reduceLT, Int.reduceLE, if_neg, nS, iZ_clampN, iZ_bit, iZ_one, iZ_and, iZ_or, iZ_ndn, hz, m_isParting hNA hNB hh5 (by omega : k < 512), c2, f1, f2, hN.2.1, lZ_mul, lZ_add]
            · rw [if_neg (fun z => c2 z.2.2), Int.add_zero]
              refine ⟨N, ?_, hN⟩
              rw [xfix_unf, sX12_countsOne_89]
              simp (disch := omega) only [xk_none, xk_inl, xk_inr, xk_ite, xri_v, xrl_v, xrv_v, xb_z0, xb_z1, xb_b2, if_true, if_false, ite_true, ite_false, iZ_lit, iZ_m1, iZ_m99, iZ_m8, iZ_add, iZ_sub, iZ_mul, iZ_neg, nz0, nzi, iZ_lt, iZ_le, iZ_inj, b2_z, b2_o, ite_bPz, ite_bPo, xb_bP, iZ_xin, if_pos, ite_self, ↓reduceIte, Int.reduceAdd, Int.reduceSub, Int.reduceMul, Int.reduceNeg, Int.reduceLT, Int.reduceLE, if_neg, nS, iZ_clampN, iZ_bit, iZ_one, iZ_and, iZ_or, iZ_ndn, hz, m_isParting hNA hNB hh5 (by omega : k < 512), c2]
          · rw [if_neg (fun z => c1 z.2.1), Int.add_zero]
            refine ⟨N, ?_, hN⟩
            rw [xfix_unf, sX12_countsOne_89]
            simp (disch := omega) only [xk_none, xk_inl, xk_inr, xk_ite, xri_v, xrl_v, xrv_v, xb_z0, xb_z1, xb_b2, if_true, if_false, ite_true, ite_false, iZ_lit, iZ_m1, iZ_m99, iZ_m8, iZ_add, iZ_sub, iZ_mul, iZ_neg, nz0, nzi, iZ_lt, iZ_le, iZ_inj, b2_z, b2_o, ite_bPz, ite_bPo, xb_bP, iZ_xin, if_pos, ite_self, ↓reduceIte, Int.reduceAdd, Int.reduceSub, Int.reduceMul, Int.reduceNeg, Int.reduceLT, Int.reduceLE, if_neg, nS, iZ_clampN, iZ_bit, iZ_one, iZ_and, iZ_or, iZ_ndn, hz]
        generalize ordP (onp pair) (okp pair) (prt A B) heap TO (k + 1) = o at *
        rw [leaP_S]
        have f1 : xI N2 (150, 0) k = iZ (TL k).1 := by rw [(g2.oO _ (by omega)).2]; exact hL k hk1 hk
        have f2 : xI N2 (150, 0) (ndn heap k) = iZ (TL (ndn heap k)).1 := by rw [(g2.oO _ (by omega)).2]; exact hL _ (by omega) (by omega)
        have q1 := bL k hk1 hk
        have q2 := bL (ndn heap k) (by omega) (by omega)
        have hNA2 := hA.fr g2.S (by decide)
        by_cases d1 : (TL k).1 ≠ -1 ∧ (TL (ndn heap k)).1 ≠ -1
        · rw [if_pos ⟨c0, d1⟩]
          by_cases d2 : loose A heap k
          · obtain ⟨N3, x1, x2⟩ := co_ways (pair := pair) hA hB hH h1 hh hsub hk1 hk d2 (a := (TL k).1) (b := (TL (ndn heap k)).1) (by omega) (by omega) (by omega) (hL k hk1 hk) (hL _ (by omega) (by omega)) g2
            refine ⟨N3, ?_, by omega, x2⟩
            rw [nS, ← x1, g1]
            rw [xfix_unf, sX12_countsOne_149]
            simp (disch := omega) only [xk_none, xk_inl, xk_inr, xk_ite, xri_v, xrl_v, xrv_v, xb_z0, xb_z1, xb_b2, if_true, if_false, ite_true, ite_false, iZ_lit, iZ_m1, iZ_m99, iZ_m8, iZ_add, iZ_sub, iZ_mul, iZ_neg, nz0, nzi, iZ_lt, iZ_le, iZ_inj, b2_z, b2_o, ite_bPz, ite_bPo, xb_bP, iZ_xin, if_pos, ite_self, ↓reduceIte, Int.reduceAdd, Int.reduceSub, Int.reduceMul, Int.reduceNeg, Int.reduceLT, Int.reduceLE, if_neg, nS, iZ_clampN, iZ_bit, iZ_one, iZ_and, iZ_or, iZ_ndn, f1, f2, m_isLoose hNA2 hh5 (by omega : k < 512), d2]
            rfl
          · rw [leaW_no (fun w z => d2 z.2)]
            refine ⟨N2, ?_, by omega, g2⟩
            rw [nS, g1]
            rw [xfix_unf, sX12_countsOne_149]
            simp (disch := omega) only [xk_none, xk_inl, xk_inr, xk_ite, xri_v, xrl_v, xrv_v, xb_z0, xb_z1, xb_b2, if_true, if_false, ite_true, ite_false, iZ_lit, iZ_m1, iZ_m99, iZ_m8, iZ_add, iZ_sub, iZ_mul, iZ_neg, nz0, nzi, iZ_lt, iZ_le, iZ_inj, b2_z, b2_o, ite_bPz, ite_bPo, xb_bP, iZ_xin, if_pos, ite_self, ↓reduceIte, Int.reduceAdd, Int.reduceSub, Int.reduceMul, Int.reduceNeg, Int.reduceLT, Int.reduceLE, if_neg, nS, iZ_clampN, iZ_bit, iZ_one, iZ_and, iZ_or, iZ_ndn, f1, f2, m_isLoose hNA2 hh5 (by omega : k < 512), d2]
        · rw [if_neg (fun z => d1 z.2)]
          refine ⟨N2, ?_, by omega, g2⟩
          rw [nS, g1]
          rw [xfix_unf, sX12_countsOne_149]
          simp (disch := omega) only [xk_none, xk_inl, xk_inr, xk_ite, xri_v, xrl_v, xrv_v, xb_z0, xb_z1, xb_b2, if_true, if_false, ite_true, ite_false, iZ_lit, iZ_m1, iZ_m99, iZ_m8, iZ_add, iZ_sub, iZ_mul, iZ_neg, nz0, nzi, iZ_lt, iZ_le, iZ_inj, b2_z, b2_o, ite_bPz, ite_bPo, xb_bP, iZ_xin, if_pos, ite_self, ↓reduceIte, Int.reduceAdd, Int.reduceSub, Int.reduceMul, Int.reduceNeg, Int.reduceLT, Int.reduceLE, if_neg, nS, iZ_clampN, iZ_bit, iZ_one, iZ_and, iZ_or, iZ_ndn, f1, f2]
      · rw [ordP_S, leaP_S, if_neg (fun z => c0 z.1), if_neg (fun z => c0 z.1), Int.add_zero]
        refine ⟨N, ?_, by omega, hN⟩
        rw [e89]
        rw [xfix_unf, sX12_countsOne_89]
        by_cases y : ndn k heap = 0
        · have y2 : ¬ okp pair heap k := fun z => c0 ⟨ho, hk1, ndn_and.mp y, z⟩
          rw [bP_t (c := ¬ okp pair heap k) y2]
          simp (disch := omega) only [xk_none, xk_inl, xk_inr, xk_ite, xri_v, xrl_v, xrv_v, xb_z0, xb_z1, xb_b2, if_true, if_false, ite_true, ite_false, iZ_lit, iZ_m1, iZ_m99, iZ_m8, iZ_add, iZ_sub, iZ_mul, iZ_neg, nz0, nzi, iZ_lt, iZ_le, iZ_inj, b2_z, b2_o, ite_bPz, ite_bPo, xb_bP, iZ_xin, if_pos, ite_self, ↓reduceIte, Int.reduceAdd, Int.reduceSub, Int.reduceMul, Int.reduceNeg, Int.reduceLT, Int.reduceLE, if_neg, nS, iZ_clampN, iZ_bit, iZ_one, iZ_and, iZ_or, iZ_ndn, y]
        · simp (disch := omega) only [xk_none, xk_inl, xk_inr, xk_ite, xri_v, xrl_v, xrv_v, xb_z0, xb_z1, xb_b2, if_true, if_false, ite_true, ite_false, iZ_lit, iZ_m1, iZ_m99, iZ_m8, iZ_add, iZ_sub, iZ_mul, iZ_neg, nz0, nzi, iZ_lt, iZ_le, iZ_inj, b2_z, b2_o, ite_bPz, ite_bPo, xb_bP, iZ_xin, if_pos, ite_self, ↓reduceIte, Int.reduceAdd, Int.reduceSub, Int.reduceMul, Int.reduceNeg, Int.reduceLT, Int.reduceLE, if_neg, nS, iZ_clampN, iZ_bit, iZ_one, iZ_and, iZ_or, iZ_ndn, y]) (a := 1) (M := _) h1 ⟨by omega, by rw [ordP_1, leaP_1, if_neg ho, if_neg ho]; exact s1⟩
    refine ⟨M2, top.trans (b1.trans ?_), b2.2⟩
    rw [xfix_unf, sX12_countsOne_52]
    simp (disch := omega) only [xk_none, xk_inl, xk_inr, xk_ite, xri_v, xrl_v, xrv_v, xb_z0, xb_z1, xb_b2, if_true, if_false, ite_true, ite_false, iZ_lit, iZ_m1, iZ_m99, iZ_m8, iZ_add, iZ_sub, iZ_mul, iZ_neg, nz0, nzi, iZ_lt, iZ_le, iZ_inj, b2_z, b2_o, ite_bPz, ite_bPo, xb_bP, iZ_xin, if_pos, ite_self, ↓reduceIte, Int.reduceAdd, Int.reduceSub, Int.reduceMul, Int.reduceNeg, Int.reduceLT, Int.reduceLE, if_neg, nS, iZ_clampN, iZ_bit, iZ_one, iZ_and, iZ_or, iZ_ndn]
noncomputable def ordG (A : dA) (pair k : Nat) : Int := ordT (onp pair) (okp pair) (prt A (barS A)) (k + 1) k
noncomputable def leaG (A : dA) (pair k : Nat) : Int × Nat × Nat := leaT (onp pair) (okp pair) (gdw A (barS A)) (cstA A) (k + 1) k
theorem ordG_eq (A : dA) (pair k : Nat) : ordG A pair k = ordP (onp pair) (okp pair) (prt A (barS A)) k (ordT (onp pair) (okp pair) (prt A (barS A)) k) k := tab_at _ _ (n := k + 1) (by omega)
theorem leaG_eq (A : dA) (pair k : Nat) : leaG A pair k = leaP (onp pair) (okp pair) (gdw A (barS A)) (cstA A) k (leaT (onp pair) (okp pair) (gdw A (barS A)) (cstA A) k) k := tab_at _ _ (n := k + 1) (by omega)
noncomputable def sInOne (A : dA) (p q what : Int) : Int := vI (vP A p ∧ vP A q ∧ p ≠ q ∧ 0 ≤ what ∧ what ≤ 1) (if what = 0 then ordG A (2 ^ p.toNat ||| 2 ^ q.toNat) (2 ^ aP A - 1) else (leaG A (2 ^ p.toNat ||| 2 ^ q.toNat) (2 ^ aP A - 1)).1)
theorem q_inOne {A : dA} {M : xM} (h : mQ M A) {p q what : Int} (hp : r32 p) (hq : r32 q) (hw : r32 what) : qR M A (fX12_inOne [.inr (.inr (12, 0)), .inl (iZ (p)), .inl (iZ (q)), .inl (iZ (what))] M) (.inr (.inl (lZ (sInOne A p q what)))) := by
  have hP := pow9 h.A.ok.P
  have hP9 := h.A.ok.P
  unfold sInOne
  by_cases e1 : vP A p
  · by_cases e2 : vP A q
    · by_cases e3 : p = q
      · refine qR.of h ?_
        rw [vI_f (fun z => z.2.2.1 e3)]
        show xfix gX12_inOne (0, [some (.inr (.inr (12, 0))), some (.inl (iZ (p))), some (.inl (iZ (q))), some (.inl (iZ (what))), none], [], M) = _; rw [xfix_unf, sX12_inOne_0]
        rw [k_isPart h.A hp, xri_v, k_isPart h.A hq]
        simp (disch := omega) only [xk_none, xk_inl, xk_inr, xk_ite, xri_v, xrl_v, xrv_v, xb_z0, xb_z1, xb_b2, if_true, if_false, ite_true, ite_false, iZ_lit, iZ_m1, iZ_m99, iZ_m8, iZ_add, iZ_sub, iZ_mul, iZ_neg, nz0, nzi, iZ_lt, iZ_le, iZ_inj, b2_z, b2_o, ite_bPz, ite_bPo, xb_bP, iZ_xin, if_pos, ite_self, ↓reduceIte, Int.reduceAdd, Int.reduceSub, Int.reduceMul, Int.reduceNeg, Int.reduceLT, Int.reduceLE, if_neg, e1, e2, e3, lZ_m1]
      · by_cases e4 : 0 ≤ what ∧ what ≤ 1
        · obtain ⟨M', a1, a2, a3, a4, a5⟩ := h.kn
          rw [vI_t ⟨e1, e2, e3, e4⟩]
          obtain ⟨p, rfl, h1⟩ := e1.n
          obtain ⟨q, rfl, h2⟩ := e2.n
          show qR M A _ (Sum.inr (Sum.inl (lZ (if what = 0 then ordG A (2 ^ p ||| 2 ^ q) (2 ^ aP A - 1) else (leaG A (2 ^ p ||| 2 ^ q) (2 ^ aP A - 1)).1))))
          have hpair : (2 ^ p ||| 2 ^ q) < 512 := Nat.or_lt_two_pow (n := 9) (Nat.pow_lt_pow_right (n := 9) (by decide) (by omega)) (Nat.pow_lt_pow_right (n := 9) (by decide) (by omega))
          generalize hpp : (2 ^ p ||| 2 ^ q) = pair at *
          have epp : iZ ((2 ^ p : Nat) : Int) ||| iZ ((2 ^ q : Nat) : Int) = iZ pair := by rw [iZ_or, hpp]
          obtain ⟨N, c1, c2, c3⟩ := xfor_M (sg := gX12_inOne) (st := fun k M => (41, [some (.inr (.inr (12, 0))), some (.inl (iZ (p))), some (.inl (iZ (q))), some (.inl (iZ (what))), some (.inl (iZ (k)))], [], M)) (I := fun k N => 1 ≤ k ∧ xSame (fun r => r = (149, 0) ∨ r = (150, 0)) M' N ∧ ∀ j, 1 ≤ j → j < k → xL N (149, 0) j = lZ (ordG A pair j) ∧ xI N (150, 0) j = iZ (leaG A pair j).1) (n := 2 ^ aP A) (fun k N hk hN => by
            obtain ⟨k1, n1, n2⟩ := hN
            have hNA := a2.A.fr n1 (by decide)
            have hNH : mH N A := fun x x1 x2 => by rw [(n1 (139, 0) (by decide)).1]; exact a2.H x x1 x2
            obtain ⟨N', g1, g2⟩ := m_countsOne (pair := pair) hNA (a4.1.fr n1 (by decide)) hNH k1 hk hpair (TO := ordT (onp pair) (okp pair) (prt A (barS A)) k) (TL := leaT (onp pair) (okp pair) (gdw A (barS A)) (cstA A) k) (fun j j1 j2 => by
              rw [show ordT (onp pair) (okp pair) (prt A (barS A)) k j = ordG A pair j from tab_st _ _ j2 (by omega)]; exact (n2 j j1 j2).1) (fun j j1 j2 => by
              rw [show leaT (onp pair) (okp pair) (gdw A (barS A)) (cstA A) k j = leaG A pair j from tab_st _ _ j2 (by omega)]; exact (n2 j j1 j2).2) (fun j j1 j2 => leaT_b (fun heap w hw => cstA_b h.A.ok heap hw) k j j1 j2)
            rw [← ordG_eq, ← leaG_eq] at g2
            refine ⟨N', ?_, by omega, n1.tr g2.S, fun j j1 j2 => ?_⟩
            · rw [nS, xfix_unf, sX12_inOne_41, m_whole N hNA.P]
              simp (disch := omega) only [xk_none, xk_inl, xk_inr, xk_ite, xri_v, xrl_v, xrv_v, xb_z0, xb_z1, xb_b2, if_true, if_false, ite_true, ite_false, iZ_lit, iZ_m1, iZ_m99, iZ_m8, iZ_add, iZ_sub, iZ_mul, iZ_neg, nz0, nzi, iZ_lt, iZ_le, iZ_inj, b2_z, b2_o, ite_bPz, ite_bPo, xb_bP, iZ_xin, if_pos, ite_self, ↓reduceIte, Int.reduceAdd, Int.reduceSub, Int.reduceMul, Int.reduceNeg, Int.reduceLT, Int.reduceLE, if_neg, iZ_one, epp, g1]
            · by_cases e : j = k
              · subst e; exact g2.2
              · rw [(g2.oO _ e).1, (g2.oO _ e).2]
                exact n2 j j1 (by omega)) (a := 1) (M := M') hP.1 ⟨by omega, xSame.rf, fun j j1 j2 => by omega⟩
          have hs : scr M' N := scr.of c3.1 (by rintro r (e | e) j <;> subst e <;> exact ⟨rfl, rfl⟩)
          have hN := a2.scr hs
          refine ⟨N, ?_, hN, a3.tr hs.fB⟩
          have hw1 : 2 ^ 1 ≤ 2 ^ aP A := Nat.pow_le_pow_right (by decide) (by omega)
          obtain ⟨f1, f2⟩ := c3.2 (2 ^ aP A - 1) (by omega) (by omega)
          have ew : ((2 ^ aP A : Nat) : Int) - 1 = ((2 ^ aP A - 1 : Nat) : Int) := by omega
          have bl := leaT_b (one := onp pair) (ok := okp pair) (gw := gdw A (barS A)) (cst := cstA A) (fun heap w hw => cstA_b h.A.ok heap hw) (2 ^ aP A) (2 ^ aP A - 1) (by omega) (by omega)
          rw [show leaT (onp pair) (okp pair) (gdw A (barS A)) (cstA A) (2 ^ aP A) (2 ^ aP A - 1) = leaG A pair (2 ^ aP A - 1) from tab_st _ _ (by omega) (by omega)] at bl
          have w0 := m_whole N hN.A.P
          rw [ew] at w0
          show xfix gX12_inOne (0, [some (.inr (.inr (12, 0))), some (.inl (iZ (p))), some (.inl (iZ (q))), some (.inl (iZ (what))), none], [], M) = _; rw [xfix_unf, sX12_inOne_0]
          rw [k_isPart h.A hp, xri_v, k_isPart h.A hq]
          simp (disch := omega) only [xk_none, xk_inl, xk_inr, xk_ite, xri_v, xrl_v, xrv_v, xb_z0, xb_z1, xb_b2, if_true, if_false, ite_true, ite_false, iZ_lit, iZ_m1, iZ_m99, iZ_m8, iZ_add, iZ_sub, iZ_mul, iZ_neg, nz0, nzi, iZ_lt, iZ_le, iZ_inj, b2_z, b2_o, ite_bPz, ite_bPo, xb_bP, iZ_xin, if_pos, ite_self, ↓reduceIte, Int.reduceAdd, Int.reduceSub, Int.reduceMul, Int.reduceNeg, Int.reduceLT, Int.reduceLE, if_neg, e1, e2, k_isIn, e4, and_self, a1]
          refine c1.trans ?_
          rw [xfix_unf, sX12_inOne_41, w0]
          generalize 2 ^ aP A - 1 = W at *
          simp (disch := omega) only [xk_none, xk_inl, xk_inr, xk_ite, xri_v, xrl_v, xrv_v, xb_z0, xb_z1, xb_b2, if_true, if_false, ite_true, ite_false, iZ_lit, iZ_m1, iZ_m99, iZ_m8, iZ_add, iZ_sub, iZ_mul, iZ_neg, nz0, nzi, iZ_lt, iZ_le, iZ_inj, b2_z, b2_o, ite_bPz, ite_bPo, xb_bP, iZ_xin, if_pos, ite_self, ↓reduceIte, Int.reduceAdd, Int.reduceSub, Int.reduceMul, Int.reduceNeg, Int.reduceLT, Int.reduceLE, if_neg, w0, iZ_clampN, f1, f2, iL_toInt64]
          by_cases d : what = 0
          · rw [if_pos d, if_pos d]
          · rw [if_neg d, if_neg d]
        · refine qR.of h ?_
          rw [vI_f (fun z => e4 z.2.2.2)]
          show xfix gX12_inOne (0, [some (.inr (.inr (12, 0))), some (.inl (iZ (p))), some (.inl (iZ (q))), some (.inl (iZ (what))), none], [], M) = _; rw [xfix_unf, sX12_inOne_0]
          rw [k_isPart h.A hp, xri_v, k_isPart h.A hq]
          simp (disch := omega) only [xk_none, xk_inl, xk_inr, xk_ite, xri_v, xrl_v, xrv_v, xb_z0, xb_z1, xb_b2, if_true, if_false, ite_true, ite_false, iZ_lit, iZ_m1, iZ_m99, iZ_m8, iZ_add, iZ_sub, iZ_mul, iZ_neg, nz0, nzi, iZ_lt, iZ_le, iZ_inj, b2_z, b2_o, ite_bPz, ite_bPo, xb_bP, iZ_xin, if_pos, ite_self, ↓reduceIte, Int.reduceAdd, Int.reduceSub, Int.reduceMul, Int.reduceNeg, Int.reduceLT, Int.reduceLE, if_neg, e1, e2, k_isIn, e4, lZ_m1]
    · refine qR.of h ?_
      rw [vI_f (fun z => e2 z.2.1)]
      show xfix gX12_inOne (0, [some (.inr (.inr (12, 0))), some (.inl (iZ (p))), some (.inl (iZ (q))), some (.inl (iZ (what))), none], [], M) = _; rw [xfix_unf, sX12_inOne_0]
      rw [k_isPart h.A hp, xri_v, k_isPart h.A hq]
      simp (disch := omega) only [xk_none, xk_inl, xk_inr, xk_ite, xri_v, xrl_v, xrv_v, xb_z0, xb_z1, xb_b2, if_true, if_false, ite_true, ite_false, iZ_lit, iZ_m1, iZ_m99, iZ_m8, iZ_add, iZ_sub, iZ_mul, iZ_neg, nz0, nzi, iZ_lt, iZ_le, iZ_inj, b2_z, b2_o, ite_bPz, ite_bPo, xb_bP, iZ_xin, if_pos, ite_self, ↓reduceIte, Int.reduceAdd, Int.reduceSub, Int.reduceMul, Int.reduceNeg, Int.reduceLT, Int.reduceLE, if_neg, e1, e2, lZ_m1]
  · refine qR.of h ?_
    rw [vI_f (fun z => e1 z.1)]
    show xfix gX12_inOne (0, [some (.inr (.inr (12, 0))), some (.inl (iZ (p))), some (.inl (iZ (q))), some (.inl (iZ (what))), none], [], M) = _; rw [xfix_unf, sX12_inOne_0]
    simp (disch := omega) only [xk_none, xk_inl, xk_inr, xk_ite, xri_v, xrl_v, xrv_v, xb_z0, xb_z1, xb_b2, if_true, if_false, ite_true, ite_false, iZ_lit, iZ_m1, iZ_m99, iZ_m8, iZ_add, iZ_sub, iZ_mul, iZ_neg, nz0, nzi, iZ_lt, iZ_le, iZ_inj, b2_z, b2_o, ite_bPz, ite_bPo, xb_bP, iZ_xin, if_pos, ite_self, ↓reduceIte, Int.reduceAdd, Int.reduceSub, Int.reduceMul, Int.reduceNeg, Int.reduceLT, Int.reduceLE, if_neg, k_isPart h.A hp, e1, lZ_m1]
