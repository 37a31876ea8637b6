/-! the reference: safe orders -/
theorem lZ_neg (a : Int) : -lZ a = lZ (-a) := (Int64.ofInt_neg a).symm
def gs2 (A : dA) (heap half w : Nat) : Prop := lv (aP A) (barS A) heap half w ∧ lv (aP A) (sbrS A) heap half w
def ptS (A : dA) (heap half : Nat) : Prop := loose A heap half ∧ ∃ w, w < 6 ∧ (gs2 A heap half w ∨ gs2 A heap (ndn heap half) w)
theorem cs_ways {A : dA} {M M' : xM} {heap half : Nat} {o : Int} {a b : Int} {l : Int × Nat × Nat} (hA : mA M A) (hB : mB M (barS A)) (hS : mSB M (sbrS A)) (hH : mH M A) (h1 : 1 ≤ heap) (hh : heap < 2 ^ aP A) (hk : half &&& heap = half) (hk1 : 1 ≤ half) (hk2 : half < heap) (hl : loose A heap half) (ha : -1 ≤ a ∧ a ≤ 600000) (hb : -1 ≤ b ∧ b ≤ 600000) (hlb : -1 ≤ l.1 ∧ l.1 ≤ 1300000) (e1 : xI M (163, 0) half = iZ a) (e2 : xI M (163, 0) (ndn heap half) = iZ b) (hI : dI (162, 0) (163, 0) M heap o l.1 M') :
    ∃ M'', xfix gX12_countsSafe (84, [some (.inr (.inr (12, 0))), some (.inl (iZ (heap))), none, some (.inl (iZ (half))), some (.inl (iZ ((ndn heap half)))), some (.inl (iZ ((0 : Int)))), some (.inl (iZ ((0 : Nat)))), none, none], [], M') = xfix gX12_countsSafe (84, [some (.inr (.inr (12, 0))), some (.inl (iZ (heap))), none, some (.inl (iZ (half))), some (.inl (iZ ((ndn heap half)))), some (.inl (bP ((∃ w, w < 6 ∧ (gs2 A heap half w ∨ gs2 A heap (ndn heap half) w))))), some (.inl (iZ ((6 : Nat)))), none, none], [], M'') ∧ dI (162, 0) (163, 0) M heap o (@ite _ (a ≠ -1 ∧ b ≠ -1) (Classical.propDecidable _) (leaW (gds A) (cstA A) heap half (a + b) l 6) l).1 M'' := by
  have hP := pow9 hA.ok.P
  have hrest := ndn_add heap half hk
  obtain ⟨M2, g1, g2⟩ := xfor_M (sg := gX12_countsSafe) (st := fun w M => (84, [some (.inr (.inr (12, 0))), some (.inl (iZ (heap))), none, some (.inl (iZ (half))), some (.inl (iZ ((ndn heap half)))), some (.inl (bP ((∃ v, v < w ∧ (gs2 A heap half v ∨ gs2 A heap (ndn heap half) v))))), some (.inl (iZ (w))), none, none], [], M)) (I := fun w M' => dI (162, 0) (163, 0) M heap o (@ite _ (a ≠ -1 ∧ b ≠ -1) (Classical.propDecidable _) (leaW (gds A) (cstA A) heap half (a + b) l w) l).1 M') (n := 6) (fun w N hw hN => by
    have hc := cstA_b hA.ok heap hw
    have hNA := hA.fr hN.S (by decide)
    have hNB := hB.fr hN.S (by decide)
    have hNS : mSB N (sbrS A) := ⟨fun k hk => by rw [(hN.S (160, 0) (by decide)).1]; exact hS.1 k hk, hS.2⟩
    have f1 : xI N (163, 0) half = iZ a := by rw [(hN.oO _ (by omega)).2, e1]
    have f2 : xI N (163, 0) (ndn heap half) = iZ b := by rw [(hN.oO _ (by omega)).2, e2]
    have f3 : xI N (139, 0) heap = iZ (hnd A heap) := by rw [(hN.S (139, 0) (by decide)).1, hH heap h1 hh]
    have f4 := hN.2.2
    have ec : (aPr A w : Int) + aPr A 6 * hnd A heap + a + b = cstA A heap w + (a + b) := by unfold cstA; omega
    have q1 : fX12_leavesSafely [.inr (.inr (12, 0)), .inl (iZ (heap)), .inl (iZ (half)), .inl (iZ (w))] N = some (some (.inl (bP (gs2 A heap half w))), N) := m_leavesSafely hNA.P hNB hNS (by omega : heap < 512) (by omega : half < 512) hw
    have q2 : fX12_leavesSafely [.inr (.inr (12, 0)), .inl (iZ (heap)), .inl (iZ ((ndn heap half))), .inl (iZ (w))] N = some (some (.inl (bP (gs2 A heap (ndn heap half) w))), N) := m_leavesSafely hNA.P hNB hNS (by omega : heap < 512) (by omega : ndn heap half < 512) hw
    have e128 : xfix gX12_countsSafe (84, [some (.inr (.inr (12, 0))), some (.inl (iZ (heap))), none, some (.inl (iZ (half))), some (.inl (iZ ((ndn heap half)))), some (.inl (bP ((∃ v, v < w ∧ (gs2 A heap half v ∨ gs2 A heap (ndn heap half) v))))), some (.inl (iZ (w))), none, none], [], N) = xfix gX12_countsSafe (128, [some (.inr (.inr (12, 0))), some (.inl (iZ (heap))), none, some (.inl (iZ (half))), some (.inl (iZ ((ndn heap half)))), none, some (.inl (iZ (w))), some (.inl (bP ((gs2 A heap half w)))), none], [.inl (bP ((∃ v, v < w + 1 ∧ (gs2 A heap half v ∨ gs2 A heap (ndn heap half) v))))], N) := by
      rw [xfix_unf, sX12_countsSafe_84]
      simp (disch := omega) only [xk_none, xk_inl, xk_inr, xk_ite, xri_v, xrl_v, xrv_v, xb_z0, xb_z1, xb_b2, if_true, if_false, ite_true, ite_false, iZ_lit, iZ_m1, iZ_m99, iZ_m8, iZ_add, iZ_sub, iZ_mul, iZ_neg, nz0, nzi, iZ_lt, iZ_le, iZ_inj, b2_z, b2_o, ite_bPz, ite_bPo, xb_bP, iZ_xin, if_pos, ite_self, ↓reduceIte, Int.reduceAdd, Int.reduceSub, Int.reduceMul, Int.reduceNeg, Int.reduceLT, Int.reduceLE, if_neg, nS, iZ_clampN, iZ_bit, iZ_one, iZ_and, iZ_or, iZ_ndn, q1, q2]
      by_cases y1 : ∃ v, v < w ∧ (gs2 A heap half v ∨ gs2 A heap (ndn heap half) v)
      · rw [if_pos y1, bP_t (c := ∃ v, v < w + 1 ∧ (gs2 A heap half v ∨ gs2 A heap (ndn heap half) v)) (by obtain ⟨v, v1, v2⟩ := y1; exact ⟨v, by omega, v2⟩)]
      · rw [if_neg y1]
        by_cases y2 : gs2 A heap half w
        · rw [if_pos y2, bP_t (c := ∃ v, v < w + 1 ∧ (gs2 A heap half v ∨ gs2 A heap (ndn heap half) v)) ⟨w, by omega, .inl y2⟩]
        · rw [if_neg y2]
          by_cases y3 : gs2 A heap (ndn heap half) w
          · rw [if_pos y3, bP_t (c := ∃ v, v < w + 1 ∧ (gs2 A heap half v ∨ gs2 A heap (ndn heap half) v)) ⟨w, by omega, .inr y3⟩]
          · rw [if_neg y3, bP_f (c := ∃ v, v < w + 1 ∧ (gs2 A heap half v ∨ gs2 A heap (ndn heap half) v)) (fun ⟨v, v1, v2⟩ => by
              by_cases e : v = w
              · subst e; exact v2.elim y2 y3
              · exact y1 ⟨v, by omega, v2⟩)]
    rw [e128]
    generalize (∃ v, v < w + 1 ∧ (gs2 A heap half v ∨ gs2 A heap (ndn heap half) v)) = sm1
    by_cases c0 : a ≠ -1 ∧ b ≠ -1
    · rw [if_pos c0] at hN f4 ⊢
      have hbd := leaW_b (gw := gds A) (cst := cstA A) (heap := heap) (half := half) (b := a + b) (s := l) (C := 1300000) (by omega) (fun w hw => by have := cstA_b hA.ok heap hw; omega) hlb w (by omega)
      rw [leaW_S]
      generalize leaW (gds A) (cstA A) heap half (a + b) l w = s at *
      by_cases c1 : gs2 A heap half w
      · by_cases c2 : s.1 = -1 ∨ cstA A heap w + (a + b) < s.1
        · rw [if_pos ⟨⟨c1, hl⟩, c2⟩]
          refine ⟨_, ?_, hN.pl _⟩
          rw [xfix_unf, sX12_countsSafe_128]
          simp (disch := omega) only [xk_none, xk_inl, xk_inr, xk_ite, xri_v, xrl_v, xrv_v, xb_z0, xb_z1, xb_b2, if_true, if_false, ite_true, ite_false, iZ_lit, iZ_m1, iZ_m99, iZ_m8, iZ_add, iZ_sub, iZ_mul, iZ_neg, nz0, nzi, iZ_lt, iZ_le, iZ_inj, b2_z, b2_o, ite_bPz, ite_bPo, xb_bP, iZ_xin, if_pos, ite_self, ↓reduceIte, Int.reduceAdd, Int.reduceSub, Int.reduceMul, Int.reduceNeg, Int.reduceLT, Int.reduceLE, if_neg, nS, iZ_clampN, iZ_bit, iZ_one, iZ_and, iZ_or, iZ_ndn, c1, hNA.pr (w := w) (by omega), hNA.pr (w := 6) (by omega), f1, f2, f3, f4, cl_6, ec]
        · rw [if_neg (fun z => c2 z.2)]
          refine ⟨N, ?_, hN⟩
          rw [xfix_unf, sX12_countsSafe_128]
          simp (disch := omega) only [xk_none, xk_inl, xk_inr, xk_ite, xri_v, xrl_v, xrv_v, xb_z0, xb_z1, xb_b2, if_true, if_false, ite_true, ite_false, iZ_lit, iZ_m1, iZ_m99, iZ_m8, iZ_add, iZ_sub, iZ_mul, iZ_neg, nz0, nzi, iZ_lt, iZ_le, iZ_inj, b2_z, b2_o, ite_bPz, ite_bPo, xb_bP, iZ_xin, if_pos, ite_self, ↓reduceIte, Int.reduceAdd, Int.reduceSub, Int.reduceMul, Int.reduceNeg, Int.reduceLT, Int.reduceLE, if_neg, nS, iZ_clampN, iZ_bit, iZ_one, iZ_and, iZ_or, iZ_ndn, c1, hNA.pr (w := w) (by omega), hNA.pr (w := 6) (by omega), f1, f2, f3, f4, cl_6, ec]
      · rw [if_neg (fun z => c1 z.1.1)]
        refine ⟨N, ?_, hN⟩
        rw [xfix_unf, sX12_countsSafe_128]
        simp (disch := omega) only [xk_none, xk_inl, xk_inr, xk_ite, xri_v, xrl_v, xrv_v, xb_z0, xb_z1, xb_b2, if_true, if_false, ite_true, ite_false, iZ_lit, iZ_m1, iZ_m99, iZ_m8, iZ_add, iZ_sub, iZ_mul, iZ_neg, nz0, nzi, iZ_lt, iZ_le, iZ_inj, b2_z, b2_o, ite_bPz, ite_bPo, xb_bP, iZ_xin, if_pos, ite_self, ↓reduceIte, Int.reduceAdd, Int.reduceSub, Int.reduceMul, Int.reduceNeg, Int.reduceLT, Int.reduceLE, if_neg, nS, iZ_clampN, iZ_bit, iZ_one, iZ_and, iZ_or, iZ_ndn, c1]
    · rw [if_neg c0] at hN f4 ⊢
      refine ⟨N, ?_, hN⟩
      rw [xfix_unf, sX12_countsSafe_128]
      by_cases c1 : gs2 A heap half w
      · simp (disch := omega) only [xk_none, xk_inl, xk_inr, xk_ite, xri_v, xrl_v, xrv_v, xb_z0, xb_z1, xb_b2, if_true, if_false, ite_true, ite_false, iZ_lit, iZ_m1, iZ_m99, iZ_m8, iZ_add, iZ_sub, iZ_mul, iZ_neg, nz0, nzi, iZ_lt, iZ_le, iZ_inj, b2_z, b2_o, ite_bPz, ite_bPo, xb_bP, iZ_xin, if_pos, ite_self, ↓reduceIte, Int.reduceAdd, Int.reduceSub, Int.reduceMul, Int.reduceNeg, Int.reduceLT, Int.reduceLE, if_neg, nS, iZ_clampN, iZ_bit, iZ_one, iZ_and, iZ_or, iZ_ndn, c1, f1, f2]
      · simp (disch := omega) only [xk_none, xk_inl, xk_inr, xk_ite, xri_v, xrl_v, xrv_v, xb_z0, xb_z1, xb_b2, if_true, if_false, ite_true, ite_false, iZ_lit, iZ_m1, iZ_m99, iZ_m8, iZ_add, iZ_sub, iZ_mul, iZ_neg, nz0, nzi, iZ_lt, iZ_le, iZ_inj, b2_z, b2_o, ite_bPz, ite_bPo, xb_bP, iZ_xin, if_pos, ite_self, ↓reduceIte, Int.reduceAdd, Int.reduceSub, Int.reduceMul, Int.reduceNeg, Int.reduceLT, Int.reduceLE, if_neg, nS, iZ_clampN, iZ_bit, iZ_one, iZ_and, iZ_or, iZ_ndn, c1]) (a := 0) (M := M') (by omega) (by
        have : (@ite _ (a ≠ -1 ∧ b ≠ -1) (Classical.propDecidable _) (leaW (gds A) (cstA A) heap half (a + b) l 0) l) = l := by split <;> rfl
        rw [this]; exact hI)
  refine ⟨M2, Eq.trans ?_ g1, g2⟩
  rw [bP_f (c := ∃ v, v < 0 ∧ (gs2 A heap half v ∨ gs2 A heap (ndn heap half) v)) (fun ⟨v, v1, _⟩ => by omega)]
theorem m_countsSafe {A : dA} {M : xM} {heap : Nat} {TO : Nat → Int} {TL : Nat → Int × Nat × Nat} (hA : mA M A) (hB : mB M (barS A)) (hS : mSB M (sbrS A)) (hH : mH M A) (h1 : 1 ≤ heap) (hh : heap < 2 ^ aP A) (hO : ∀ k, 1 ≤ k → k < heap → xL M (162, 0) k = lZ (TO k)) (hL : ∀ k, 1 ≤ k → k < heap → xI M (163, 0) k = iZ (TL k).1) (bL : ∀ k, 1 ≤ k → k < heap → -1 ≤ (TL k).1 ∧ (TL k).1 ≤ 1089 * (k - 1)) :
    ∃ M', fX12_countsSafe [.inr (.inr (12, 0)), .inl (iZ (heap))] M = some (none, M') ∧ dI (162, 0) (163, 0) M heap (ordP on1 ok1 (ptS A) heap TO heap) (leaP on1 ok1 (gds A) (cstA A) heap TL heap).1 M' := by
  have hP := pow9 hA.ok.P
  have hh5 : heap < 512 := by omega
  have hb := bc_le heap
  obtain ⟨M1, a1, a2⟩ : ∃ M1, fX12_countsSafe [.inr (.inr (12, 0)), .inl (iZ (heap))] M = xfix gX12_countsSafe (46, [some (.inr (.inr (12, 0))), some (.inl (iZ (heap))), none, some (.inl (iZ ((1 : Nat)))), none, none, none, none, none], [], M1) ∧ dI (162, 0) (163, 0) M heap (ordP on1 ok1 (ptS A) heap TO 1) (leaP on1 ok1 (gds A) (cstA A) heap TL 1).1 M1 := by
    rw [ordP_1, leaP_1]
    by_cases ho : on1 heap
    · rw [if_pos ho, if_pos ho]
      refine ⟨xpI (xpL M (162, 0) heap (lZ 1)) (163, 0) heap (iZ 0), ?_, (xSm.rf.pL ⟨rfl, .inl rfl⟩).pI ⟨rfl, .inr rfl⟩, by rw [xL_pI, xL_pL, if_pos ⟨rfl, rfl⟩], by rw [xI_pI, if_pos ⟨rfl, rfl⟩]⟩
      show xfix gX12_countsSafe (0, [some (.inr (.inr (12, 0))), some (.inl (iZ (heap))), none, none, none, none, none, none, none], [], M) = _; rw [xfix_unf, sX12_countsSafe_0]
      simp (disch := omega) only [xk_none, xk_inl, xk_inr, xk_ite, xri_v, xrl_v, xrv_v, xb_z0, xb_z1, xb_b2, if_true, if_false, ite_true, ite_false, iZ_lit, iZ_m1, iZ_m99, iZ_m8, iZ_add, iZ_sub, iZ_mul, iZ_neg, nz0, nzi, iZ_lt, iZ_le, iZ_inj, b2_z, b2_o, ite_bPz, ite_bPo, xb_bP, iZ_xin, if_pos, ite_self, ↓reduceIte, Int.reduceAdd, Int.reduceSub, Int.reduceMul, Int.reduceNeg, Int.reduceLT, Int.reduceLE, if_neg, nS, iZ_clampN, iZ_bit, iZ_one, iZ_and, iZ_or, iZ_ndn, m_bits M (v := heap) (by omega)]
      rw [xfix_unf, sX12_countsSafe_13]
      simp (disch := omega) only [xk_none, xk_inl, xk_inr, xk_ite, xri_v, xrl_v, xrv_v, xb_z0, xb_z1, xb_b2, if_true, if_false, ite_true, ite_false, iZ_lit, iZ_m1, iZ_m99, iZ_m8, iZ_add, iZ_sub, iZ_mul, iZ_neg, nz0, nzi, iZ_lt, iZ_le, iZ_inj, b2_z, b2_o, ite_bPz, ite_bPo, xb_bP, iZ_xin, if_pos, ite_self, ↓reduceIte, Int.reduceAdd, Int.reduceSub, Int.reduceMul, Int.reduceNeg, Int.reduceLT, Int.reduceLE, if_neg]
      rw [xfix_unf, sX12_countsSafe_28]
      simp (disch := omega) only [xk_none, xk_inl, xk_inr, xk_ite, xri_v, xrl_v, xrv_v, xb_z0, xb_z1, xb_b2, if_true, if_false, ite_true, ite_false, iZ_lit, iZ_m1, iZ_m99, iZ_m8, iZ_add, iZ_sub, iZ_mul, iZ_neg, nz0, nzi, iZ_lt, iZ_le, iZ_inj, b2_z, b2_o, ite_bPz, ite_bPo, xb_bP, iZ_xin, if_pos, ite_self, ↓reduceIte, Int.reduceAdd, Int.reduceSub, Int.reduceMul, Int.reduceNeg, Int.reduceLT, Int.reduceLE, if_neg, iZ_clampN, lZ_lit]
      rfl
    · rw [if_neg ho, if_neg ho]
      have ho' : ¬ bc heap = 1 := ho
      refine ⟨xpI (xpL M (162, 0) heap (lZ 0)) (163, 0) heap (iZ (-1)), ?_, (xSm.rf.pL ⟨rfl, .inl rfl⟩).pI ⟨rfl, .inr rfl⟩, by rw [xL_pI, xL_pL, if_pos ⟨rfl, rfl⟩], by rw [xI_pI, if_pos ⟨rfl, rfl⟩]⟩
      show xfix gX12_countsSafe (0, [some (.inr (.inr (12, 0))), some (.inl (iZ (heap))), none, none, none, none, none, none, none], [], M) = _; rw [xfix_unf, sX12_countsSafe_0]
      simp (disch := omega) only [xk_none, xk_inl, xk_inr, xk_ite, xri_v, xrl_v, xrv_v, xb_z0, xb_z1, xb_b2, if_true, if_false, ite_true, ite_false, iZ_lit, iZ_m1, iZ_m99, iZ_m8, iZ_add, iZ_sub, iZ_mul, iZ_neg, nz0, nzi, iZ_lt, iZ_le, iZ_inj, b2_z, b2_o, ite_bPz, ite_bPo, xb_bP, iZ_xin, if_pos, ite_self, ↓reduceIte, Int.reduceAdd, Int.reduceSub, Int.reduceMul, Int.reduceNeg, Int.reduceLT, Int.reduceLE, if_neg, nS, iZ_clampN, iZ_bit, iZ_one, iZ_and, iZ_or, iZ_ndn, m_bits M (v := heap) (by omega)]
      rw [xfix_unf, sX12_countsSafe_13]
      simp (disch := omega) only [xk_none, xk_inl, xk_inr, xk_ite, xri_v, xrl_v, xrv_v, xb_z0, xb_z1, xb_b2, if_true, if_false, ite_true, ite_false, iZ_lit, iZ_m1, iZ_m99, iZ_m8, iZ_add, iZ_sub, iZ_mul, iZ_neg, nz0, nzi, iZ_lt, iZ_le, iZ_inj, b2_z, b2_o, ite_bPz, ite_bPo, xb_bP, iZ_xin, if_pos, ite_self, ↓reduceIte, Int.reduceAdd, Int.reduceSub, Int.reduceMul, Int.reduceNeg, Int.reduceLT, Int.reduceLE, if_neg]
      rw [xfix_unf, sX12_countsSafe_28]
      simp (disch := omega) only [xk_none, xk_inl, xk_inr, xk_ite, xri_v, xrl_v, xrv_v, xb_z0, xb_z1, xb_b2, if_true, if_false, ite_true, ite_false, iZ_lit, iZ_m1, iZ_m99, iZ_m8, iZ_add, iZ_sub, iZ_mul, iZ_neg, nz0, nzi, iZ_lt, iZ_le, iZ_inj, b2_z, b2_o, ite_bPz, ite_bPo, xb_bP, iZ_xin, if_pos, ite_self, ↓reduceIte, Int.reduceAdd, Int.reduceSub, Int.reduceMul, Int.reduceNeg, Int.reduceLT, Int.reduceLE, if_neg, iZ_clampN, lZ_lit]
      rfl
  obtain ⟨M2, b1, b2⟩ := xfor_M (sg := gX12_countsSafe) (st := fun k M => (46, [some (.inr (.inr (12, 0))), some (.inl (iZ (heap))), none, some (.inl (iZ (k))), none, none, none, none, none], [], M)) (I := fun k N => 1 ≤ k ∧ dI (162, 0) (163, 0) M heap (ordP on1 ok1 (ptS A) heap TO k) (leaP on1 ok1 (gds A) (cstA A) heap TL k).1 N) (n := heap) (fun k N hk hN => by
    obtain ⟨hk1, hN⟩ := hN
    have bb := leaP_b (one := on1) (ok := ok1) (gw := gds A) h1 (fun w hw => cstA_b hA.ok heap hw) bL k (by omega)
    have hle := ndn_le k heap
    have hNA := hA.fr hN.S (by decide)
    by_cases hz : ndn k heap = 0
    · have hsub := ndn_and.mp hz
      have hrest := ndn_add heap k hsub
      have hno : ¬ on1 heap := fun z => bc_1 hh5 z hsub (by omega) hk
      have c0 : hlf on1 ok1 heap k := ⟨hno, hk1, hsub, trivial⟩
      by_cases c1 : loose A heap k
      · have q1 := bL k hk1 hk
        have q2 := bL (ndn heap k) (by omega) (by omega)
        obtain ⟨N2, g1, g2⟩ := cs_ways hA hB hS hH h1 hh hsub hk1 hk c1 (a := (TL k).1) (b := (TL (ndn heap k)).1) (by omega) (by omega) (by omega) (hL k hk1 hk) (hL _ (by omega) (by omega)) hN
        have e0 : (@ite _ ((TL k).1 ≠ -1 ∧ (TL (ndn heap k)).1 ≠ -1) (Classical.propDecidable _) (leaW (gds A) (cstA A) heap k ((TL k).1 + (TL (ndn heap k)).1) (leaP on1 ok1 (gds A) (cstA A) heap TL k) 6) (leaP on1 ok1 (gds A) (cstA A) heap TL k)) = leaP on1 ok1 (gds A) (cstA A) heap TL (k + 1) := by
          rw [leaP_S]
          by_cases d : (TL k).1 ≠ -1 ∧ (TL (ndn heap k)).1 ≠ -1
          · rw [if_pos d, if_pos ⟨c0, d⟩]
          · rw [if_neg d, if_neg (fun z => d z.2)]
        rw [e0] at g2
        have top : xfix gX12_countsSafe (46, [some (.inr (.inr (12, 0))), some (.inl (iZ (heap))), none, some (.inl (iZ (k))), none, none, none, none, none], [], N) = xfix gX12_countsSafe (84, [some (.inr (.inr (12, 0))), some (.inl (iZ (heap))), none, some (.inl (iZ (k))), some (.inl (iZ ((ndn heap k)))), some (.inl (iZ ((0 : Int)))), some (.inl (iZ ((0 : Nat)))), none, none], [], N) := by
          rw [xfix_unf, sX12_countsSafe_46]
          simp (disch := omega) only [xk_none, xk_inl, xk_inr, xk_ite, xri_v, xrl_v, xrv_v, xb_z0, xb_z1, xb_b2, if_true, if_false, ite_true, ite_false, iZ_lit, iZ_m1, iZ_m99, iZ_m8, iZ_add, iZ_sub, iZ_mul, iZ_neg, nz0, nzi, iZ_lt, iZ_le, iZ_inj, b2_z, b2_o, ite_bPz, ite_bPo, xb_bP, iZ_xin, if_pos, ite_self, ↓reduceIte, Int.reduceAdd, Int.reduceSub, Int.reduceMul, Int.reduceNeg, Int.reduceLT, Int.reduceLE, if_neg, nS, iZ_clampN, iZ_bit, iZ_one, iZ_and, iZ_or, iZ_ndn, hz, m_isLoose hNA hh5 (by omega : k < 512), c1]
          rfl
        have f1 : xL N2 (162, 0) k = lZ (TO k) := by rw [(g2.oO _ (by omega)).1]; exact hO k hk1 hk
        have f2 : xL N2 (162, 0) (ndn heap k) = lZ (TO (ndn heap k)) := by rw [(g2.oO _ (by omega)).1]; exact hO _ (by omega) (by omega)
        rw [ordP_S]
        by_cases d : k < ndn heap k ∧ ptS A heap k
        · rw [if_pos ⟨c0, d⟩]
          refine ⟨_, ?_, by omega, g2.pO _⟩
          rw [top, g1]
          have d1 := d.1
          rw [xfix_unf, sX12_countsSafe_84]
          simp (disch := omega) only [xk_none, xk_inl, xk_inr, xk_ite, xri_v, xrl_v, xrv_v, xb_z0, xb_z1, xb_b2, if_true, if_false, ite_true, ite_false, iZ_lit, iZ_m1, iZ_m99, iZ_m8, iZ_add, iZ_sub, iZ_mul, iZ_neg, nz0, nzi, iZ_lt, iZ_le, iZ_inj, b2_z, b2_o, ite_bPz, ite_bPo, xb_bP, iZ_xin, if_pos, ite_self, ↓reduceIte, Int.reduceAdd, Int.reduceSub, Int.reduceMul, Int.reduceNeg, Int.reduceLT, Int.reduceLE, if_neg, nS, if_pos d.2.2, iZ_clampN, f1, f2, g2.2.1, lZ_mul, lZ_add]
        · rw [if_neg (fun z => d z.2), Int.add_zero]
          refine ⟨N2, ?_, by omega, g2⟩
          rw [top, g1]
          rw [xfix_unf, sX12_countsSafe_84]
          by_cases d1 : k < ndn heap k
          · have d2 : ¬ ∃ w, w < 6 ∧ (gs2 A heap k w ∨ gs2 A heap (ndn heap k) w) := fun z => d ⟨d1, c1, z⟩
            simp (disch := omega) only [xk_none, xk_inl, xk_inr, xk_ite, xri_v, xrl_v, xrv_v, xb_z0, xb_z1, xb_b2, if_true, if_false, ite_true, ite_false, iZ_lit, iZ_m1, iZ_m99, iZ_m8, iZ_add, iZ_sub, iZ_mul, iZ_neg, nz0, nzi, iZ_lt, iZ_le, iZ_inj, b2_z, b2_o, ite_bPz, ite_bPo, xb_bP, iZ_xin, if_pos, ite_self, ↓reduceIte, Int.reduceAdd, Int.reduceSub, Int.reduceMul, Int.reduceNeg, Int.reduceLT, Int.reduceLE, if_neg, nS, if_neg d2]
          · simp (disch := omega) only [xk_none, xk_inl, xk_inr, xk_ite, xri_v, xrl_v, xrv_v, xb_z0, xb_z1, xb_b2, if_true, if_false, ite_true, ite_false, iZ_lit, iZ_m1, iZ_m99, iZ_m8, iZ_add, iZ_sub, iZ_mul, iZ_neg, nz0, nzi, iZ_lt, iZ_le, iZ_inj, b2_z, b2_o, ite_bPz, ite_bPo, xb_bP, iZ_xin, if_pos, ite_self, ↓reduceIte, Int.reduceAdd, Int.reduceSub, Int.reduceMul, Int.reduceNeg, Int.reduceLT, Int.reduceLE, if_neg, nS]
      · rw [ordP_S, if_neg (fun z => c1 z.2.2.1), Int.add_zero]
        refine ⟨N, ?_, by omega, ?_⟩
        · rw [xfix_unf, sX12_countsSafe_46]
          simp (disch := omega) only [xk_none, xk_inl, xk_inr, xk_ite, xri_v, xrl_v, xrv_v, xb_z0, xb_z1, xb_b2, if_true, if_false, ite_true, ite_false, iZ_lit, iZ_m1, iZ_m99, iZ_m8, iZ_add, iZ_sub, iZ_mul, iZ_neg, nz0, nzi, iZ_lt, iZ_le, iZ_inj, b2_z, b2_o, ite_bPz, ite_bPo, xb_bP, iZ_xin, if_pos, ite_self, ↓reduceIte, Int.reduceAdd, Int.reduceSub, Int.reduceMul, Int.reduceNeg, Int.reduceLT, Int.reduceLE, if_neg, nS, iZ_clampN, iZ_bit, iZ_one, iZ_and, iZ_or, iZ_ndn, hz, m_isLoose hNA hh5 (by omega : k < 512), c1]
        · rw [leaP_S]
          split
          · rw [leaW_no (fun w z => c1 z.2)]; exact hN
          · exact hN
    · have c0 : ¬ hlf on1 ok1 heap k := fun z => hz (ndn_and.mpr z.2.2.1)
      rw [ordP_S, leaP_S, if_neg (fun z => c0 z.1), if_neg (fun z => c0 z.1), Int.add_zero]
      refine ⟨N, ?_, by omega, hN⟩
      rw [xfix_unf, sX12_countsSafe_46]
      simp (disch := omega) only [xk_none, xk_inl, xk_inr, xk_ite, xri_v, xrl_v, xrv_v, xb_z0, xb_z1, xb_b2, if_true, if_false, ite_true, ite_false, iZ_lit, iZ_m1, iZ_m99, iZ_m8, iZ_add, iZ_sub, iZ_mul, iZ_neg, nz0, nzi, iZ_lt, iZ_le, iZ_inj, b2_z, b2_o, ite_bPz, ite_bPo, xb_bP, iZ_xin, if_pos, ite_self, ↓reduceIte, Int.reduceAdd, Int.reduceSub, Int.reduceMul, Int.reduceNeg, Int.reduceLT, Int.reduceLE, if_neg, nS, iZ_clampN, iZ_bit, iZ_one, iZ_and, iZ_or, iZ_ndn, hz]) (a := 1) (M := M1) h1 ⟨by omega, a2⟩
  refine ⟨M2, a1.trans (b1.trans ?_), b2.2⟩
  rw [xfix_unf, sX12_countsSafe_46]
  simp (disch := omega) only [xk_none, xk_inl, xk_inr, xk_ite, xri_v, xrl_v, xrv_v, xb_z0, xb_z1, xb_b2, if_true, if_false, ite_true, ite_false, iZ_lit, iZ_m1, iZ_m99, iZ_m8, iZ_add, iZ_sub, iZ_mul, iZ_neg, nz0, nzi, iZ_lt, iZ_le, iZ_inj, b2_z, b2_o, ite_bPz, ite_bPo, xb_bP, iZ_xin, if_pos, ite_self, ↓reduceIte, Int.reduceAdd, Int.reduceSub, Int.reduceMul, Int.reduceNeg, Int.reduceLT, Int.reduceLE, if_neg, nS, iZ_clampN, iZ_bit, iZ_one, iZ_and, iZ_or, iZ_ndn]
noncomputable def ordS (A : dA) (k : Nat) : Int := ordT on1 ok1 (ptS A) (k + 1) k
noncomputable def leaS (A : dA) (k : Nat) : Int × Nat × Nat := leaT on1 ok1 (gds A) (cstA A) (k + 1) k
theorem ordS_eq (A : dA) (k : Nat) : ordS A k = ordP on1 ok1 (ptS A) k (ordT on1 ok1 (ptS A) k) k := tab_at _ _ (n := k + 1) (by omega)
theorem leaS_eq (A : dA) (k : Nat) : leaS A k = leaP on1 ok1 (gds A) (cstA A) k (leaT on1 ok1 (gds A) (cstA A) k) k := tab_at _ _ (n := k + 1) (by omega)
noncomputable def fuR (A : dA) : Nat → Nat → Int
  | 0, _ => -1
  | n + 1, i => match plH A i with
    | none => -1
    | some h => @ite _ (gds A h (leaA A h).2.1 (leaA A h).2.2) (Classical.propDecidable _) (fuR A n (i + 1)) (i : Int)
theorem plH_no {A : dA} (hP : aP A ≤ 9) {k : Nat} (hk : aP A ≤ k + 1) : plH A k = none := by
  unfold plH
  by_cases c : 0 ≤ (k : Int) ∧ (k : Int) < 9 ∧ aP A ≠ 0 ∧ (leaA A (2 ^ aP A - 1)).1 ≠ -1
  · have hw1 : 2 ^ 1 ≤ 2 ^ aP A := Nat.pow_le_pow_right (by decide) (by omega)
    rw [if_pos c]
    refine plR_no hP _ _ _ (fun x hx => by
      simp only [List.mem_singleton] at hx
      rw [hx]; exact ⟨by omega, by omega, c.2.2.2⟩) ?_
    simp only [sbS, List.length_cons, List.length_nil]
    have e1 : ∀ n, fb_ct (fun k => (2 ^ aP A - 1).testBit k) n ≤ aP A := fun n => by
      by_cases hn : n ≤ aP A
      · have := fb_ct_le (fun k => (2 ^ aP A - 1).testBit k) n; omega
      · have h3 : fb_ct (fun k => (2 ^ aP A - 1).testBit k) (aP A + (n - aP A)) = fb_ct (fun k => (2 ^ aP A - 1).testBit k) (aP A) + fb_ct (fun k => (2 ^ aP A - 1).testBit (aP A + k)) (n - aP A) := fb_ct_split _ _ _
        have h4 : fb_ct (fun k => (2 ^ aP A - 1).testBit (aP A + k)) (n - aP A) = 0 := fb_ct_zero.mpr fun j hj => Nat.testBit_lt_two_pow (Nat.lt_of_lt_of_le (by omega : 2 ^ aP A - 1 < 2 ^ aP A) (Nat.pow_le_pow_right (by decide) (by omega)))
        have h5 := fb_ct_le (fun k => (2 ^ aP A - 1).testBit k) (aP A)
        rw [show aP A + (n - aP A) = n by omega] at h3
        omega
    have := e1 9
    have e2 : bc (2 ^ aP A - 1) = fb_ct (fun k => (2 ^ aP A - 1).testBit k) 9 := rfl
    have e3 : ((k : Int)).toNat = k := by omega
    omega
  · rw [if_neg c]
theorem plH_ok {A : dA} (hP : aP A ≤ 9) {k : Int} {h : Nat} (e : plH A k = some h) : 1 ≤ h ∧ h < 2 ^ aP A ∧ (leaA A h).1 ≠ -1 ∧ ¬ bc h = 1 := by
  unfold plH at e
  by_cases c : 0 ≤ k ∧ k < 9 ∧ aP A ≠ 0 ∧ (leaA A (2 ^ aP A - 1)).1 ≠ -1
  · have hw1 : 2 ^ 1 ≤ 2 ^ aP A := Nat.pow_le_pow_right (by decide) (by omega)
    have hw2 := Nat.two_pow_pos (aP A)
    rw [if_pos c] at e
    exact plR_mem hP _ _ _ _ (fun x hx => by
      simp only [List.mem_singleton] at hx
      rw [hx]; exact ⟨by omega, by omega, c.2.2.2⟩) e
  · rw [if_neg c] at e; cases e
theorem fuR_b (A : dA) : ∀ n i, -1 ≤ fuR A n i ∧ fuR A n i < i + n
  | 0, i => by unfold fuR; omega
  | n + 1, i => by
    have := fuR_b A n (i + 1)
    unfold fuR
    split
    · omega
    · split <;> omega
theorem fu_loop {A : dA} : ∀ (n i : Nat) (M : xM), mQ M A → i + n = 9 → qR M A (xfix gX12_firstUnsafe (2, [some (.inr (.inr (12, 0))), some (.inl (iZ (i))), none], [], M)) (.inl (iZ (fuR A n i)))
  | 0, i, M, h, hi => by
    have hP9 := h.A.ok.P
    refine qR.of h ?_
    rw [xfix_unf, sX12_firstUnsafe_2]
    simp (disch := omega) only [xk_none, xk_inl, xk_inr, xk_ite, xri_v, xrl_v, xrv_v, xb_z0, xb_z1, xb_b2, if_true, if_false, ite_true, ite_false, iZ_lit, iZ_m1, iZ_m99, iZ_m8, iZ_add, iZ_sub, iZ_mul, iZ_neg, nz0, nzi, iZ_lt, iZ_le, iZ_inj, b2_z, b2_o, ite_bPz, ite_bPo, xb_bP, iZ_xin, if_pos, ite_self, ↓reduceIte, Int.reduceAdd, Int.reduceSub, Int.reduceMul, Int.reduceNeg, Int.reduceLT, Int.reduceLE, if_neg, nS, iZ_clampN, iZ_bit, iZ_one, iZ_and, iZ_or, iZ_ndn, h.A.P.1]
    rfl
  | n + 1, i, M, h, hi => by
    have hP9 := h.A.ok.P
    by_cases c : aP A ≤ i + 1
    · refine qR.of h ?_
      unfold fuR
      rw [plH_no hP9 c]
      rw [xfix_unf, sX12_firstUnsafe_2]
      simp (disch := omega) only [xk_none, xk_inl, xk_inr, xk_ite, xri_v, xrl_v, xrv_v, xb_z0, xb_z1, xb_b2, if_true, if_false, ite_true, ite_false, iZ_lit, iZ_m1, iZ_m99, iZ_m8, iZ_add, iZ_sub, iZ_mul, iZ_neg, nz0, nzi, iZ_lt, iZ_le, iZ_inj, b2_z, b2_o, ite_bPz, ite_bPo, xb_bP, iZ_xin, if_pos, ite_self, ↓reduceIte, Int.reduceAdd, Int.reduceSub, Int.reduceMul, Int.reduceNeg, Int.reduceLT, Int.reduceLE, if_neg, nS, iZ_clampN, iZ_bit, iZ_one, iZ_and, iZ_or, iZ_ndn, h.A.P.1]
    · obtain ⟨M1, a1, a2, a3⟩ := q_plan h (k := (i : Int)) (what := 0) (by omega) (by omega)
      have hs0 : sPlan A i 0 = plW A 0 (plH A i) := rfl
      have hs1 : sPlan A i 1 = plW A 1 (plH A i) := rfl
      have hs2 : sPlan A i 2 = plW A 2 (plH A i) := rfl
      unfold fuR
      cases e : plH A i with
      | none =>
        refine ⟨M1, ?_, a2, a3⟩
        rw [hs0, e, show plW A 0 none = -1 from rfl] at a1
        rw [xfix_unf, sX12_firstUnsafe_2]
        simp (disch := omega) only [xk_none, xk_inl, xk_inr, xk_ite, xri_v, xrl_v, xrv_v, xb_z0, xb_z1, xb_b2, if_true, if_false, ite_true, ite_false, iZ_lit, iZ_m1, iZ_m99, iZ_m8, iZ_add, iZ_sub, iZ_mul, iZ_neg, nz0, nzi, iZ_lt, iZ_le, iZ_inj, b2_z, b2_o, ite_bPz, ite_bPo, xb_bP, iZ_xin, if_pos, ite_self, ↓reduceIte, Int.reduceAdd, Int.reduceSub, Int.reduceMul, Int.reduceNeg, Int.reduceLT, Int.reduceLE, if_neg, nS, iZ_clampN, iZ_bit, iZ_one, iZ_and, iZ_or, iZ_ndn, h.A.P.1, a1]
      | some x =>
        obtain ⟨x1, x2, x3, x4⟩ := plH_ok hP9 e
        obtain ⟨⟨y1, y2, y3⟩, y4, y5, y6, y7⟩ := leaA_ok (A := A) (h := x) x4 x3
        have hp := pow9 hP9
        obtain ⟨M2, b1, b2, b3⟩ := q_plan a2 (k := (i : Int)) (what := 1) (by omega) (by omega)
        obtain ⟨M3, c1, c2, c3⟩ := q_plan b2 (k := (i : Int)) (what := 2) (by omega) (by omega)
        obtain ⟨M4, d1, d2, d3⟩ := q_safeCut c2 (a := (x : Int)) (b := ((leaA A x).2.1 : Int)) (w := ((leaA A x).2.2 : Int)) (by omega) (by omega) (by omega)
        rw [hs0, e, show plW A 0 (some x) = x from rfl] at a1
        rw [hs1, e, show plW A 1 (some x) = (leaA A x).2.1 from rfl] at b1
        rw [hs2, e, show plW A 2 (some x) = (leaA A x).2.2 from rfl] at c1
        have e5 : sSafeCut A (x : Int) ((leaA A x).2.1 : Int) ((leaA A x).2.2 : Int) = ind (gds A x (leaA A x).2.1 (leaA A x).2.2) := by
          unfold sSafeCut
          rw [vI_t ⟨⟨x, (leaA A x).2.1, rfl, rfl, by omega, y2, x2, ndn_and.mpr y3⟩, by unfold vW; omega⟩]
          rfl
        rw [e5] at d1
        have gb := ind_b (gds A x (leaA A x).2.1 (leaA A x).2.2)
        have fx : fB M M4 := ((a3.tr b3).tr c3).tr d3
        have top : xfix gX12_firstUnsafe (2, [some (.inr (.inr (12, 0))), some (.inl (iZ (i))), none], [], M) = @ite _ (gds A x (leaA A x).2.1 (leaA A x).2.2) (Classical.propDecidable _) (xfix gX12_firstUnsafe (2, [some (.inr (.inr (12, 0))), some (.inl (iZ (((i : Int) + 1)))), none], [], M4)) (some (some (.inl (iZ (i))), M4)) := by
          rw [xfix_unf, sX12_firstUnsafe_2]
          simp (disch := omega) only [xk_none, xk_inl, xk_inr, xk_ite, xri_v, xrl_v, xrv_v, xb_z0, xb_z1, xb_b2, if_true, if_false, ite_true, ite_false, iZ_lit, iZ_m1, iZ_m99, iZ_m8, iZ_add, iZ_sub, iZ_mul, iZ_neg, nz0, nzi, iZ_lt, iZ_le, iZ_inj, b2_z, b2_o, ite_bPz, ite_bPo, xb_bP, iZ_xin, if_pos, ite_self, ↓reduceIte, Int.reduceAdd, Int.reduceSub, Int.reduceMul, Int.reduceNeg, Int.reduceLT, Int.reduceLE, if_neg, nS, iZ_clampN, iZ_bit, iZ_one, iZ_and, iZ_or, iZ_ndn, h.A.P.1, a1, b1, c1, d1]
          by_cases g : gds A x (leaA A x).2.1 (leaA A x).2.2
          · rw [ind_t g, if_pos g, if_neg (by omega)]
          · rw [ind_f g, if_neg g, if_pos rfl]
        rw [top]
        show qR M A _ (Sum.inl (iZ (@ite _ (gds A x (leaA A x).2.1 (leaA A x).2.2) (Classical.propDecidable _) (fuR A n (i + 1)) (i : Int))))
        by_cases g : gds A x (leaA A x).2.1 (leaA A x).2.2
        · rw [if_pos g, if_pos g]
          obtain ⟨M5, z1, z2, z3⟩ := fu_loop n (i + 1) M4 d2 (by omega)
          exact ⟨M5, z1, z2, fx.tr z3⟩
        · rw [if_neg g, if_neg g]
          exact ⟨M4, rfl, d2, fx⟩
noncomputable def sSafe (A : dA) (what : Int) : Int := if what = 0 then (if aP A = 0 then 0 else ordS A (2 ^ aP A - 1)) else if what = 1 then (if aP A = 0 then -1 else (leaS A (2 ^ aP A - 1)).1) else if what = 2 then fuR A 9 0 else -1
theorem q_safe {A : dA} {M : xM} (h : mQ M A) {what : Int} (hw : r32 what) : qR M A (fX12_safe [.inr (.inr (12, 0)), .inl (iZ (what))] M) (.inr (.inl (lZ (sSafe A what)))) := by
  have hP := pow9 h.A.ok.P
  have hP9 := h.A.ok.P
  by_cases e1 : 0 ≤ what ∧ what ≤ 2
  · obtain ⟨M', a1, a2, a3, a4, a5⟩ := h.kn
    unfold sSafe
    by_cases e2 : what = 2
    · rw [if_neg (by omega), if_neg (by omega), if_pos e2]
      obtain ⟨M2, b1, b2, b3⟩ := fu_loop 9 0 M' a2 rfl
      have hb := fuR_b A 9 0
      refine ⟨M2, ?_, b2, a3.tr b3⟩
      have b0 : fX12_firstUnsafe [.inr (.inr (12, 0))] M' = some (some (.inl (iZ (fuR A 9 0))), M2) := by
        refine Eq.trans ?_ b1
        show xfix gX12_firstUnsafe (0, [some (.inr (.inr (12, 0))), none, none], [], M') = _; rw [xfix_unf, sX12_firstUnsafe_0]
        simp (disch := omega) only [xk_none, xk_inl, xk_inr, xk_ite, xri_v, xrl_v, xrv_v, xb_z0, xb_z1, xb_b2, if_true, if_false, ite_true, ite_false, iZ_lit, iZ_m1, iZ_m99, iZ_m8, iZ_add, iZ_sub, iZ_mul, iZ_neg, nz0, nzi, iZ_lt, iZ_le, iZ_inj, b2_z, b2_o, ite_bPz, ite_bPo, xb_bP, iZ_xin, if_pos, ite_self, ↓reduceIte, Int.reduceAdd, Int.reduceSub, Int.reduceMul, Int.reduceNeg, Int.reduceLT, Int.reduceLE, if_neg]
        rfl
      generalize fuR A 9 0 = v at *
      show xfix gX12_safe (0, [some (.inr (.inr (12, 0))), some (.inl (iZ (what))), none], [], M) = _; rw [xfix_unf, sX12_safe_0]
      simp (disch := omega) only [xk_none, xk_inl, xk_inr, xk_ite, xri_v, xrl_v, xrv_v, xb_z0, xb_z1, xb_b2, if_true, if_false, ite_true, ite_false, iZ_lit, iZ_m1, iZ_m99, iZ_m8, iZ_add, iZ_sub, iZ_mul, iZ_neg, nz0, nzi, iZ_lt, iZ_le, iZ_inj, b2_z, b2_o, ite_bPz, ite_bPo, xb_bP, iZ_xin, if_pos, ite_self, ↓reduceIte, Int.reduceAdd, Int.reduceSub, Int.reduceMul, Int.reduceNeg, Int.reduceLT, Int.reduceLE, if_neg, k_isIn, e1, and_self, a1, b0, iL_toInt64]
    · by_cases e3 : aP A = 0
      · refine ⟨M', ?_, a2, a3⟩
        show xfix gX12_safe (0, [some (.inr (.inr (12, 0))), some (.inl (iZ (what))), none], [], M) = _; rw [xfix_unf, sX12_safe_0]
        simp (disch := omega) only [xk_none, xk_inl, xk_inr, xk_ite, xri_v, xrl_v, xrv_v, xb_z0, xb_z1, xb_b2, if_true, if_false, ite_true, ite_false, iZ_lit, iZ_m1, iZ_m99, iZ_m8, iZ_add, iZ_sub, iZ_mul, iZ_neg, nz0, nzi, iZ_lt, iZ_le, iZ_inj, b2_z, b2_o, ite_bPz, ite_bPo, xb_bP, iZ_xin, if_pos, ite_self, ↓reduceIte, Int.reduceAdd, Int.reduceSub, Int.reduceMul, Int.reduceNeg, Int.reduceLT, Int.reduceLE, if_neg, k_isIn, e1, and_self, a1, a2.A.P.1, e3, lZ_lit, lZ_neg]
        by_cases d : what = 0
        · rw [if_pos d, if_pos d]
        · rw [if_neg d, if_neg d]
      · have hw1 : 2 ^ 1 ≤ 2 ^ aP A := Nat.pow_le_pow_right (by decide) (by omega)
        obtain ⟨N, c1, c2, c3⟩ := xfor_M (sg := gX12_safe) (st := fun k M => (49, [some (.inr (.inr (12, 0))), some (.inl (iZ (what))), some (.inl (iZ (k)))], [], M)) (I := fun k N => 1 ≤ k ∧ xSame (fun r => r = (162, 0) ∨ r = (163, 0)) M' N ∧ ∀ j, 1 ≤ j → j < k → xL N (162, 0) j = lZ (ordS A j) ∧ xI N (163, 0) j = iZ (leaS A j).1) (n := 2 ^ aP A) (fun k N hk hN => by
          obtain ⟨k1, n1, n2⟩ := hN
          have hNA := a2.A.fr n1 (by decide)
          have hNH : mH N A := fun x x1 x2 => by rw [(n1 (139, 0) (by decide)).1]; exact a2.H x x1 x2
          have hNS : mSB N (sbrS A) := ⟨fun k hk => by rw [(n1 (160, 0) (by decide)).1]; exact a4.2.1.1 k hk, a4.2.1.2⟩
          obtain ⟨N', g1, g2⟩ := m_countsSafe hNA (a4.1.fr n1 (by decide)) hNS hNH k1 hk (TO := ordT on1 ok1 (ptS A) k) (TL := leaT on1 ok1 (gds A) (cstA A) k) (fun j j1 j2 => by
            rw [show ordT on1 ok1 (ptS A) k j = ordS A j from tab_st _ _ j2 (by omega)]; exact (n2 j j1 j2).1) (fun j j1 j2 => by
            rw [show leaT on1 ok1 (gds A) (cstA A) k j = leaS A j from tab_st _ _ j2 (by omega)]; exact (n2 j j1 j2).2) (fun j j1 j2 => leaT_b (fun heap w hw => cstA_b h.A.ok heap hw) k j j1 j2)
          rw [← ordS_eq, ← leaS_eq] at g2
          refine ⟨N', ?_, by omega, n1.tr g2.S, fun j j1 j2 => ?_⟩
          · rw [nS, xfix_unf, sX12_safe_49, m_whole N hNA.P]
            simp (disch := omega) only [xk_none, xk_inl, xk_inr, xk_ite, xri_v, xrl_v, xrv_v, xb_z0, xb_z1, xb_b2, if_true, if_false, ite_true, ite_false, iZ_lit, iZ_m1, iZ_m99, iZ_m8, iZ_add, iZ_sub, iZ_mul, iZ_neg, nz0, nzi, iZ_lt, iZ_le, iZ_inj, b2_z, b2_o, ite_bPz, ite_bPo, xb_bP, iZ_xin, if_pos, ite_self, ↓reduceIte, Int.reduceAdd, Int.reduceSub, Int.reduceMul, Int.reduceNeg, Int.reduceLT, Int.reduceLE, if_neg, g1]
          · by_cases e : j = k
            · subst e; exact g2.2
            · rw [(g2.oO _ e).1, (g2.oO _ e).2]
              exact n2 j j1 (by omega)) (a := 1) (M := M') hP.1 ⟨by omega, xSame.rf, fun j j1 j2 => by omega⟩
        have hs : scr M' N := scr.of c3.1 (by rintro r (e | e) j <;> subst e <;> exact ⟨rfl, rfl⟩)
        have hN := a2.scr hs
        refine ⟨N, ?_, hN, a3.tr hs.fB⟩
        obtain ⟨f1, f2⟩ := c3.2 (2 ^ aP A - 1) (by omega) (by omega)
        have ew : ((2 ^ aP A : Nat) : Int) - 1 = ((2 ^ aP A - 1 : Nat) : Int) := by omega
        have bl : -1 ≤ (leaS A (2 ^ aP A - 1)).1 ∧ (leaS A (2 ^ aP A - 1)).1 ≤ 1089 * ((2 ^ aP A - 1 : Nat) - 1) := leaT_b (one := on1) (ok := ok1) (gw := gds A) (cst := cstA A) (fun heap w hw => cstA_b h.A.ok heap hw) (2 ^ aP A - 1 + 1) (2 ^ aP A - 1) (by omega) (by omega)
        have w0 := m_whole N hN.A.P
        rw [ew] at w0
        show xfix gX12_safe (0, [some (.inr (.inr (12, 0))), some (.inl (iZ (what))), none], [], M) = _; rw [xfix_unf, sX12_safe_0]
        simp (disch := omega) only [xk_none, xk_inl, xk_inr, xk_ite, xri_v, xrl_v, xrv_v, xb_z0, xb_z1, xb_b2, if_true, if_false, ite_true, ite_false, iZ_lit, iZ_m1, iZ_m99, iZ_m8, iZ_add, iZ_sub, iZ_mul, iZ_neg, nz0, nzi, iZ_lt, iZ_le, iZ_inj, b2_z, b2_o, ite_bPz, ite_bPo, xb_bP, iZ_xin, if_pos, ite_self, ↓reduceIte, Int.reduceAdd, Int.reduceSub, Int.reduceMul, Int.reduceNeg, Int.reduceLT, Int.reduceLE, if_neg, k_isIn, e1, and_self, a1, a2.A.P.1]
        refine c1.trans ?_
        rw [xfix_unf, sX12_safe_49, w0]
        generalize 2 ^ aP A - 1 = W at *
        simp (disch := omega) only [xk_none, xk_inl, xk_inr, xk_ite, xri_v, xrl_v, xrv_v, xb_z0, xb_z1, xb_b2, if_true, if_false, ite_true, ite_false, iZ_lit, iZ_m1, iZ_m99, iZ_m8, iZ_add, iZ_sub, iZ_mul, iZ_neg, nz0, nzi, iZ_lt, iZ_le, iZ_inj, b2_z, b2_o, ite_bPz, ite_bPo, xb_bP, iZ_xin, if_pos, ite_self, ↓reduceIte, Int.reduceAdd, Int.reduceSub, Int.reduceMul, Int.reduceNeg, Int.reduceLT, Int.reduceLE, if_neg, w0, iZ_clampN, f1, f2, iL_toInt64]
        by_cases d : what = 0
        · rw [if_pos d, if_pos d]
        · rw [if_neg d, if_neg d]
  · refine qR.of h ?_
    unfold sSafe
    rw [if_neg (by omega), if_neg (by omega), if_neg (by omega)]
    show xfix gX12_safe (0, [some (.inr (.inr (12, 0))), some (.inl (iZ (what))), none], [], M) = _; rw [xfix_unf, sX12_safe_0]
    simp (disch := omega) only [xk_none, xk_inl, xk_inr, xk_ite, xri_v, xrl_v, xrv_v, xb_z0, xb_z1, xb_b2, if_true, if_false, ite_true, ite_false, iZ_lit, iZ_m1, iZ_m99, iZ_m8, iZ_add, iZ_sub, iZ_mul, iZ_neg, nz0, nzi, iZ_lt, iZ_le, iZ_inj, b2_z, b2_o, ite_bPz, ite_bPo, xb_bP, iZ_xin, if_pos, ite_self, ↓reduceIte, Int.reduceAdd, Int.reduceSub, Int.reduceMul, Int.reduceNeg, Int.reduceLT, Int.reduceLE, if_neg, k_isIn, e1, lZ_m1]
