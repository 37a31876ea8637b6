/-! the reference: holding, one by one, down -/
noncomputable def hldR (A : dA) (heap fl : Nat) : Nat → Nat
  | 0 => heap
  | k + 1 => if k &&& heap = k ∧ bc k < bc (hldR A heap fl k) ∧ rstS A heap fl k = heap then k else hldR A heap fl k
theorem hldR_le (A : dA) (heap fl : Nat) : ∀ k, k ≤ heap → hldR A heap fl k ≤ heap
  | 0, _ => Nat.le_refl _
  | k + 1, h => by
    unfold hldR
    have := hldR_le A heap fl k (by omega)
    split <;> omega
noncomputable def sHold (A : dA) (a : Int) : Int := vI (vH A a) (hldR A a.toNat (flr A a.toNat (aP A)) a.toNat)
theorem q_holding {A : dA} {M : xM} (h : mQ M A) {a : Int} (ha : r32 a) : qR M A (fX12_holding [.inr (.inr (12, 0)), .inl (iZ (a))] M) (.inl (iZ (sHold A a))) := by
  have hP := pow9 h.A.ok.P
  unfold sHold
  by_cases e1 : vH A a
  · refine qR.of h ?_
    rw [vI_t e1]
    obtain ⟨a, rfl, h1, h2⟩ := e1.n
    have en : ((a : Int)).toNat = a := by omega
    rw [en]
    have hf := flr_le A a (aP A)
    have m1 := m_floor h.A h.W (by omega : a < 512)
    generalize flr A a (aP A) = fl at *
    have hl := xfor_F (sg := gX12_holding) (fun i => (21, [some (.inr (.inr (12, 0))), some (.inl (iZ (a))), some (.inl (iZ (fl))), some (.inl (iZ ((hldR A a fl i)))), some (.inl (iZ (i)))], [], M)) (a := 0) (n := a) (by omega) (fun i _ hi => by
      have b1 := hldR_le A a fl i (by omega)
      have b2 := bc_le i
      have b3 := bc_le (hldR A a fl i)
      have b4 := ndn_le i a
      have b5 : rstS A a fl i < 512 := msk_lt _ 9
      rw [show hldR A a fl (i + 1) = if i &&& a = i ∧ bc i < bc (hldR A a fl i) ∧ rstS A a fl i = a then i else hldR A a fl i from rfl]
      generalize hldR A a fl i = r at *
      rw [xfix_unf, sX12_holding_21]
      by_cases c1 : ndn i a = 0
      · simp (disch := omega) only [xk_none, xk_inl, xk_inr, xk_ite, xri_v, xrl_v, xrv_v, xb_z0, xb_z1, xb_b2, if_true, if_false, ite_true, ite_false, iZ_lit, iZ_m1, iZ_m99, iZ_m8, iZ_add, iZ_sub, iZ_mul, iZ_neg, nz0, nzi, iZ_lt, iZ_le, iZ_inj, b2_z, b2_o, ite_bPz, ite_bPo, xb_bP, iZ_xin, if_pos, ite_self, ↓reduceIte, Int.reduceAdd, Int.reduceSub, Int.reduceMul, Int.reduceNeg, Int.reduceLT, Int.reduceLE, if_neg, nS, iZ_clampN, iZ_bit, iZ_one, iZ_and, iZ_or, iZ_ndn, c1, m_bits M (v := i) (by omega), m_bits M (v := r) (by omega), m_resting h.A h.W (by omega : a < 512) (by omega : i < 512) hf]
        by_cases c2 : bc i < bc r
        · rw [if_neg (by omega)]
          by_cases c3 : rstS A a fl i = a
          · rw [if_pos c3, if_pos ⟨ndn_and.mp c1, c2, c3⟩]
          · rw [if_neg c3, if_neg (fun z => c3 z.2.2)]
        · rw [if_pos (by omega), if_neg (fun z => c2 z.2.1)]
      · rw [if_neg (c := i &&& a = i ∧ bc i < bc r ∧ rstS A a fl i = a) (fun z => c1 (ndn_and.mpr z.1))]
        simp (disch := omega) only [xk_none, xk_inl, xk_inr, xk_ite, xri_v, xrl_v, xrv_v, xb_z0, xb_z1, xb_b2, if_true, if_false, ite_true, ite_false, iZ_lit, iZ_m1, iZ_m99, iZ_m8, iZ_add, iZ_sub, iZ_mul, iZ_neg, nz0, nzi, iZ_lt, iZ_le, iZ_inj, b2_z, b2_o, ite_bPz, ite_bPo, xb_bP, iZ_xin, if_pos, ite_self, ↓reduceIte, Int.reduceAdd, Int.reduceSub, Int.reduceMul, Int.reduceNeg, Int.reduceLT, Int.reduceLE, if_neg, nS, iZ_clampN, iZ_bit, iZ_one, iZ_and, iZ_or, iZ_ndn, c1])
    show xfix gX12_holding (0, [some (.inr (.inr (12, 0))), some (.inl (iZ (a))), none, none, none], [], M) = _; rw [xfix_unf, sX12_holding_0]
    simp (disch := omega) only [xk_none, xk_inl, xk_inr, xk_ite, xri_v, xrl_v, xrv_v, xb_z0, xb_z1, xb_b2, if_true, if_false, ite_true, ite_false, iZ_lit, iZ_m1, iZ_m99, iZ_m8, iZ_add, iZ_sub, iZ_mul, iZ_neg, nz0, nzi, iZ_lt, iZ_le, iZ_inj, b2_z, b2_o, ite_bPz, ite_bPo, xb_bP, iZ_xin, if_pos, ite_self, ↓reduceIte, Int.reduceAdd, Int.reduceSub, Int.reduceMul, Int.reduceNeg, Int.reduceLT, Int.reduceLE, if_neg, k_isHeap h.A ha, e1, m1]
    refine hl.trans ?_
    rw [xfix_unf, sX12_holding_21]
    simp (disch := omega) only [xk_none, xk_inl, xk_inr, xk_ite, xri_v, xrl_v, xrv_v, xb_z0, xb_z1, xb_b2, if_true, if_false, ite_true, ite_false, iZ_lit, iZ_m1, iZ_m99, iZ_m8, iZ_add, iZ_sub, iZ_mul, iZ_neg, nz0, nzi, iZ_lt, iZ_le, iZ_inj, b2_z, b2_o, ite_bPz, ite_bPo, xb_bP, iZ_xin, if_pos, ite_self, ↓reduceIte, Int.reduceAdd, Int.reduceSub, Int.reduceMul, Int.reduceNeg, Int.reduceLT, Int.reduceLE, if_neg, nS, iZ_clampN, iZ_bit, iZ_one, iZ_and, iZ_or, iZ_ndn]
  · refine qR.of h ?_
    rw [vI_f e1]
    show xfix gX12_holding (0, [some (.inr (.inr (12, 0))), some (.inl (iZ (a))), none, none, none], [], M) = _; rw [xfix_unf, sX12_holding_0]
    simp (disch := omega) only [xk_none, xk_inl, xk_inr, xk_ite, xri_v, xrl_v, xrv_v, xb_z0, xb_z1, xb_b2, if_true, if_false, ite_true, ite_false, iZ_lit, iZ_m1, iZ_m99, iZ_m8, iZ_add, iZ_sub, iZ_mul, iZ_neg, nz0, nzi, iZ_lt, iZ_le, iZ_inj, b2_z, b2_o, ite_bPz, ite_bPo, xb_bP, iZ_xin, if_pos, ite_self, ↓reduceIte, Int.reduceAdd, Int.reduceSub, Int.reduceMul, Int.reduceNeg, Int.reduceLT, Int.reduceLE, if_neg, k_isHeap h.A ha, e1]
def sgC (A : dA) (set p : Nat) : Prop := set.testBit p = true ∧ ndn set (2 ^ p) ≠ 0 ∧ ¬ (bc set = 2 ∧ ndn set (2 ^ p) < 2 ^ p) ∧ prt A (barS A) set (2 ^ p)
noncomputable def sngP (A : dA) (set : Nat) (T : Nat → Int) (i : Nat) : Int := (if bc set = 1 then 1 else 0) + sm (fun p => @ite _ (sgC A set p) (Classical.propDecidable _) (T (ndn set (2 ^ p))) 0) i
noncomputable def sngT (A : dA) : Nat → Nat → Int := tab 0 fun set T => sngP A set T (aP A)
noncomputable def sngA (A : dA) (k : Nat) : Int := sngT A (k + 1) k
theorem sngA_eq (A : dA) (k : Nat) : sngA A k = sngP A k (sngT A k) (aP A) := tab_at _ _ (n := k + 1) (by omega)
theorem sngA_st {A : dA} {k n : Nat} (h : k < n) : sngT A n k = sngA A k := tab_st _ _ h (by omega)
noncomputable def sOneByOne (A : dA) (a : Int) : Int := vI (vH A a) (sngA A a.toNat)
theorem two_sub {set p : Nat} (h : set.testBit p = true) : 2 ^ p &&& set = 2 ^ p := ndn_and.mp (ndn_z.mpr fun i hi => by
  rw [Nat.testBit_two_pow, decide_eq_true_iff] at hi
  subst hi; exact h)
theorem sng_set {A : dA} {M N : xM} {a set : Nat} (hA : mA M A) (hB : mB M (barS A)) (h1 : 1 ≤ set) (hs : set &&& a = set) (ha : a < 2 ^ aP A) {T : Nat → Int} (hT : ∀ k, 1 ≤ k → k < set → k &&& a = k → xL M (164, 0) k = lZ (T k)) (hN : xSm (fun r j => r = (164, 0) ∧ j = set) M N) (h0 : xL N (164, 0) set = lZ (if bc set = 1 then 1 else 0)) : ∃ N', xfix gX12_oneByOne (55, [some (.inr (.inr (12, 0))), some (.inl (iZ (a))), some (.inl (iZ (set))), some (.inl (iZ ((0 : Nat)))), none, none], [], N) = xfix gX12_oneByOne (18, [some (.inr (.inr (12, 0))), some (.inl (iZ (a))), some (.inl (iZ (((set : Int) + 1)))), none, none, none], [], N') ∧ xSm (fun r j => r = (164, 0) ∧ j = set) M N' ∧ xL N' (164, 0) set = lZ (sngP A set T (aP A)) := by
  have hP := pow9 hA.ok.P
  have hP9 := hA.ok.P
  have hsa := and_lt hs (by omega : a < 512)
  have hsle : set ≤ a := by have : set &&& a ≤ a := Nat.and_le_right
                            omega
  obtain ⟨N2, g1, g2, g3⟩ := xfor_M (sg := gX12_oneByOne) (st := fun p M => (55, [some (.inr (.inr (12, 0))), some (.inl (iZ (a))), some (.inl (iZ (set))), some (.inl (iZ (p))), none, none], [], M)) (I := fun p N => xSm (fun r j => r = (164, 0) ∧ j = set) M N ∧ xL N (164, 0) set = lZ (sngP A set T p)) (n := aP A) (fun p N hp hN => by
    obtain ⟨n1, n2⟩ := hN
    have n3 : xSame (fun r => r = (164, 0)) M N := n1.S fun _ _ z => z.1
    have hNA := hA.fr n3 (by decide)
    have hNB := hB.fr n3 (by decide)
    have h2p : 2 ^ p < 512 := Nat.pow_lt_pow_right (n := 9) (by decide) (by omega)
    have hle := ndn_le set (2 ^ p)
    have h2p0 := Nat.two_pow_pos p
    have hbc := bc_le set
    rw [show sngP A set T (p + 1) = sngP A set T p + @ite _ (sgC A set p) (Classical.propDecidable _) (T (ndn set (2 ^ p))) 0 from (Int.add_assoc _ _ _).symm]
    have e93 : xfix gX12_oneByOne (55, [some (.inr (.inr (12, 0))), some (.inl (iZ (a))), some (.inl (iZ (set))), some (.inl (iZ (p))), none, none], [], N) = xfix gX12_oneByOne (93, [some (.inr (.inr (12, 0))), some (.inl (iZ (a))), some (.inl (iZ (set))), some (.inl (iZ (p))), some (.inl (iZ ((ndn set (2 ^ p))))), none], [.inl (bP ((bc set = 2 ∧ ndn set (2 ^ p) < 2 ^ p)))], N) := by
      rw [xfix_unf, sX12_oneByOne_55]
      simp (disch := omega) only [xk_none, xk_inl, xk_inr, xk_ite, xri_v, xrl_v, xrv_v, xb_z0, xb_z1, xb_b2, if_true, if_false, ite_true, ite_false, iZ_lit, iZ_m1, iZ_m99, iZ_m8, iZ_add, iZ_sub, iZ_mul, iZ_neg, nz0, nzi, iZ_lt, iZ_le, iZ_inj, b2_z, b2_o, ite_bPz, ite_bPo, xb_bP, iZ_xin, if_pos, ite_self, ↓reduceIte, Int.reduceAdd, Int.reduceSub, Int.reduceMul, Int.reduceNeg, Int.reduceLT, Int.reduceLE, if_neg, nS, iZ_clampN, iZ_bit, iZ_one, iZ_and, iZ_or, iZ_ndn, hNA.P.1, m_bits N (v := set) (by omega)]
      by_cases y1 : bc set = 2
      · rw [if_pos (by omega)]
        by_cases y2 : ndn set (2 ^ p) < 2 ^ p
        · rw [if_neg (by omega), bP_t (c := bc set = 2 ∧ ndn set (2 ^ p) < 2 ^ p) ⟨y1, y2⟩]
        · rw [if_pos (by omega), bP_f (c := bc set = 2 ∧ ndn set (2 ^ p) < 2 ^ p) (fun z => y2 z.2)]
      · rw [if_neg (by omega), bP_f (c := bc set = 2 ∧ ndn set (2 ^ p) < 2 ^ p) (fun z => y1 z.1)]
    rw [e93]
    by_cases c : sgC A set p
    · rw [if_pos c]
      have hr := ndn_add set (2 ^ p) (two_sub c.1)
      have h2p1 := Nat.two_pow_pos p
      have hsub2 : ndn set (2 ^ p) &&& a = ndn set (2 ^ p) := ndn_and.mp (ndn_z.mpr fun i hi => by
        rw [ndn_bit] at hi
        exact ndn_z.mp (ndn_and.mpr hs) i (Bool.and_eq_true_iff.mp hi).1)
      have hne := c.2.1
      have f1 : xL N (164, 0) (ndn set (2 ^ p)) = lZ (T (ndn set (2 ^ p))) := by
        rw [(n1 (164, 0) (ndn set (2 ^ p)) (fun z => by omega)).2]
        exact hT _ (by omega) (by omega) hsub2
      refine ⟨xpL N (164, 0) set (lZ (sngP A set T p + T (ndn set (2 ^ p)))), ?_, n1.pL ⟨rfl, rfl⟩, by rw [xL_pL, if_pos ⟨rfl, rfl⟩]⟩
      rw [bP_f c.2.2.1]
      rw [xfix_unf, sX12_oneByOne_93]
      simp (disch := omega) only [xk_none, xk_inl, xk_inr, xk_ite, xri_v, xrl_v, xrv_v, xb_z0, xb_z1, xb_b2, if_true, if_false, ite_true, ite_false, iZ_lit, iZ_m1, iZ_m99, iZ_m8, iZ_add, iZ_sub, iZ_mul, iZ_neg, nz0, nzi, iZ_lt, iZ_le, iZ_inj, b2_z, b2_o, ite_bPz, ite_bPo, xb_bP, iZ_xin, if_pos, ite_self, ↓reduceIte, Int.reduceAdd, Int.reduceSub, Int.reduceMul, Int.reduceNeg, Int.reduceLT, Int.reduceLE, if_neg, nS, iZ_clampN, iZ_bit, iZ_one, iZ_and, iZ_or, iZ_ndn, if_pos c.1, m_isParting hNA hNB hsa h2p, c.2.2.2, n2, f1, lZ_add]
    · rw [if_neg c, Int.add_zero]
      refine ⟨N, ?_, n1, n2⟩
      rw [xfix_unf, sX12_oneByOne_93]
      by_cases y1 : set.testBit p = true
      · by_cases y2 : ndn set (2 ^ p) = 0
        · simp (disch := omega) only [xk_none, xk_inl, xk_inr, xk_ite, xri_v, xrl_v, xrv_v, xb_z0, xb_z1, xb_b2, if_true, if_false, ite_true, ite_false, iZ_lit, iZ_m1, iZ_m99, iZ_m8, iZ_add, iZ_sub, iZ_mul, iZ_neg, nz0, nzi, iZ_lt, iZ_le, iZ_inj, b2_z, b2_o, ite_bPz, ite_bPo, xb_bP, iZ_xin, if_pos, ite_self, ↓reduceIte, Int.reduceAdd, Int.reduceSub, Int.reduceMul, Int.reduceNeg, Int.reduceLT, Int.reduceLE, if_neg, nS, iZ_clampN, iZ_bit, iZ_one, iZ_and, iZ_or, iZ_ndn, if_pos y1, y2]
        · by_cases y3 : bc set = 2 ∧ ndn set (2 ^ p) < 2 ^ p
          · rw [bP_t y3]
            simp (disch := omega) only [xk_none, xk_inl, xk_inr, xk_ite, xri_v, xrl_v, xrv_v, xb_z0, xb_z1, xb_b2, if_true, if_false, ite_true, ite_false, iZ_lit, iZ_m1, iZ_m99, iZ_m8, iZ_add, iZ_sub, iZ_mul, iZ_neg, nz0, nzi, iZ_lt, iZ_le, iZ_inj, b2_z, b2_o, ite_bPz, ite_bPo, xb_bP, iZ_xin, if_pos, ite_self, ↓reduceIte, Int.reduceAdd, Int.reduceSub, Int.reduceMul, Int.reduceNeg, Int.reduceLT, Int.reduceLE, if_neg, nS, iZ_clampN, iZ_bit, iZ_one, iZ_and, iZ_or, iZ_ndn, if_pos y1]
          · have y4 : ¬ prt A (barS A) set (2 ^ p) := fun z => c ⟨y1, y2, y3, z⟩
            rw [bP_f y3]
            simp (disch := omega) only [xk_none, xk_inl, xk_inr, xk_ite, xri_v, xrl_v, xrv_v, xb_z0, xb_z1, xb_b2, if_true, if_false, ite_true, ite_false, iZ_lit, iZ_m1, iZ_m99, iZ_m8, iZ_add, iZ_sub, iZ_mul, iZ_neg, nz0, nzi, iZ_lt, iZ_le, iZ_inj, b2_z, b2_o, ite_bPz, ite_bPo, xb_bP, iZ_xin, if_pos, ite_self, ↓reduceIte, Int.reduceAdd, Int.reduceSub, Int.reduceMul, Int.reduceNeg, Int.reduceLT, Int.reduceLE, if_neg, nS, iZ_clampN, iZ_bit, iZ_one, iZ_and, iZ_or, iZ_ndn, if_pos y1, m_isParting hNA hNB hsa h2p, y4]
      · simp (disch := omega) only [xk_none, xk_inl, xk_inr, xk_ite, xri_v, xrl_v, xrv_v, xb_z0, xb_z1, xb_b2, if_true, if_false, ite_true, ite_false, iZ_lit, iZ_m1, iZ_m99, iZ_m8, iZ_add, iZ_sub, iZ_mul, iZ_neg, nz0, nzi, iZ_lt, iZ_le, iZ_inj, b2_z, b2_o, ite_bPz, ite_bPo, xb_bP, iZ_xin, if_pos, ite_self, ↓reduceIte, Int.reduceAdd, Int.reduceSub, Int.reduceMul, Int.reduceNeg, Int.reduceLT, Int.reduceLE, if_neg, nS, iZ_clampN, iZ_bit, iZ_one, iZ_and, iZ_or, iZ_ndn, if_neg y1]) (a := 0) (M := N) (by omega) ⟨hN, by
        rw [h0]
        unfold sngP sm
        rw [Int.add_zero]⟩
  refine ⟨N2, g1.trans ?_, g2, g3⟩
  have hNA := hA.fr (g2.S fun _ _ z => z.1 : xSame (fun r => r = (164, 0)) M N2) (by decide)
  rw [xfix_unf, sX12_oneByOne_55]
  simp (disch := omega) only [xk_none, xk_inl, xk_inr, xk_ite, xri_v, xrl_v, xrv_v, xb_z0, xb_z1, xb_b2, if_true, if_false, ite_true, ite_false, iZ_lit, iZ_m1, iZ_m99, iZ_m8, iZ_add, iZ_sub, iZ_mul, iZ_neg, nz0, nzi, iZ_lt, iZ_le, iZ_inj, b2_z, b2_o, ite_bPz, ite_bPo, xb_bP, iZ_xin, if_pos, ite_self, ↓reduceIte, Int.reduceAdd, Int.reduceSub, Int.reduceMul, Int.reduceNeg, Int.reduceLT, Int.reduceLE, if_neg, nS, iZ_clampN, iZ_bit, iZ_one, iZ_and, iZ_or, iZ_ndn, hNA.P.1]
theorem q_oneByOne {A : dA} {M : xM} (h : mQ M A) {a : Int} (ha : r32 a) : qR M A (fX12_oneByOne [.inr (.inr (12, 0)), .inl (iZ (a))] M) (.inr (.inl (lZ (sOneByOne A a)))) := by
  have hP := pow9 h.A.ok.P
  unfold sOneByOne
  by_cases e1 : vH A a
  · obtain ⟨M', a1, a2, a3, a4, a5⟩ := h.kn
    rw [vI_t e1]
    obtain ⟨a, rfl, h1, h2⟩ := e1.n
    have en : ((a : Int)).toNat = a := by omega
    rw [en]
    obtain ⟨N, c1, c2, c3, c4⟩ := xfor_M (sg := gX12_oneByOne) (st := fun k M => (18, [some (.inr (.inr (12, 0))), some (.inl (iZ (a))), some (.inl (iZ (k))), none, none, none], [], M)) (I := fun k N => 1 ≤ k ∧ xSame (fun r => r = (164, 0)) M' N ∧ ∀ j, 1 ≤ j → j < k → j &&& a = j → xL N (164, 0) j = lZ (sngA A j)) (n := a + 1) (fun k N hk hN => by
      obtain ⟨k1, n1, n2⟩ := hN
      have hNA := a2.A.fr n1 (by decide)
      have hNB := a4.1.fr n1 (by decide)
      have hle := ndn_le k a
      have hb := bc_le k
      by_cases c : ndn k a = 0
      · obtain ⟨N', g1, g2, g3⟩ := sng_set (N := xpL N (164, 0) k (lZ (if bc k = 1 then 1 else 0))) hNA hNB k1 (ndn_and.mp c) h2 (T := sngT A k) (fun j j1 j2 j3 => by rw [sngA_st j2]; exact n2 j j1 j2 j3) (xSm.rf.pL ⟨rfl, rfl⟩) (by rw [xL_pL, if_pos ⟨rfl, rfl⟩])
        rw [← sngA_eq] at g3
        refine ⟨N', ?_, by omega, n1.tr (g2.S fun _ _ z => z.1), fun j j1 j2 j3 => ?_⟩
        · rw [nS, ← g1]
          rw [xfix_unf, sX12_oneByOne_18]
          simp (disch := omega) only [xk_none, xk_inl, xk_inr, xk_ite, xri_v, xrl_v, xrv_v, xb_z0, xb_z1, xb_b2, if_true, if_false, ite_true, ite_false, iZ_lit, iZ_m1, iZ_m99, iZ_m8, iZ_add, iZ_sub, iZ_mul, iZ_neg, nz0, nzi, iZ_lt, iZ_le, iZ_inj, b2_z, b2_o, ite_bPz, ite_bPo, xb_bP, iZ_xin, if_pos, ite_self, ↓reduceIte, Int.reduceAdd, Int.reduceSub, Int.reduceMul, Int.reduceNeg, Int.reduceLT, Int.reduceLE, if_neg, nS, iZ_clampN, iZ_bit, iZ_one, iZ_and, iZ_or, iZ_ndn, c, m_bits N (v := k) (by omega), lZ_lit]
          by_cases d : bc k = 1
          · rw [if_pos d, if_pos (by omega)]; rfl
          · rw [if_neg d, if_neg (by omega)]; rfl
        · by_cases e : j = k
          · subst e; exact g3
          · rw [(g2 (164, 0) j (fun z => e z.2)).2]; exact n2 j j1 (by omega) j3
      · refine ⟨N, ?_, by omega, n1, fun j j1 j2 j3 => n2 j j1 (by
          by_cases e : j = k
          · subst e; exact absurd (ndn_and.mpr j3) c
          · omega) j3⟩
        rw [xfix_unf, sX12_oneByOne_18]
        simp (disch := omega) only [xk_none, xk_inl, xk_inr, xk_ite, xri_v, xrl_v, xrv_v, xb_z0, xb_z1, xb_b2, if_true, if_false, ite_true, ite_false, iZ_lit, iZ_m1, iZ_m99, iZ_m8, iZ_add, iZ_sub, iZ_mul, iZ_neg, nz0, nzi, iZ_lt, iZ_le, iZ_inj, b2_z, b2_o, ite_bPz, ite_bPo, xb_bP, iZ_xin, if_pos, ite_self, ↓reduceIte, Int.reduceAdd, Int.reduceSub, Int.reduceMul, Int.reduceNeg, Int.reduceLT, Int.reduceLE, if_neg, nS, iZ_clampN, iZ_bit, iZ_one, iZ_and, iZ_or, iZ_ndn, c]) (a := 1) (M := M') (by omega) ⟨by omega, xSame.rf, fun j j1 j2 => by omega⟩
    have hs : scr M' N := scr.of c3 (by rintro r e j; subst e; exact ⟨rfl, rfl⟩)
    refine ⟨N, ?_, a2.scr hs, a3.tr hs.fB⟩
    have f := c4 a h1 (by omega) (Nat.and_self a)
    show xfix gX12_oneByOne (0, [some (.inr (.inr (12, 0))), some (.inl (iZ (a))), none, none, none, none], [], M) = _; rw [xfix_unf, sX12_oneByOne_0]
    simp (disch := omega) only [xk_none, xk_inl, xk_inr, xk_ite, xri_v, xrl_v, xrv_v, xb_z0, xb_z1, xb_b2, if_true, if_false, ite_true, ite_false, iZ_lit, iZ_m1, iZ_m99, iZ_m8, iZ_add, iZ_sub, iZ_mul, iZ_neg, nz0, nzi, iZ_lt, iZ_le, iZ_inj, b2_z, b2_o, ite_bPz, ite_bPo, xb_bP, iZ_xin, if_pos, ite_self, ↓reduceIte, Int.reduceAdd, Int.reduceSub, Int.reduceMul, Int.reduceNeg, Int.reduceLT, Int.reduceLE, if_neg, k_isHeap h.A ha, e1, a1]
    refine c1.trans ?_
    rw [xfix_unf, sX12_oneByOne_18]
    simp (disch := omega) only [xk_none, xk_inl, xk_inr, xk_ite, xri_v, xrl_v, xrv_v, xb_z0, xb_z1, xb_b2, if_true, if_false, ite_true, ite_false, iZ_lit, iZ_m1, iZ_m99, iZ_m8, iZ_add, iZ_sub, iZ_mul, iZ_neg, nz0, nzi, iZ_lt, iZ_le, iZ_inj, b2_z, b2_o, ite_bPz, ite_bPo, xb_bP, iZ_xin, if_pos, ite_self, ↓reduceIte, Int.reduceAdd, Int.reduceSub, Int.reduceMul, Int.reduceNeg, Int.reduceLT, Int.reduceLE, if_neg, nS, iZ_clampN, iZ_bit, iZ_one, iZ_and, iZ_or, iZ_ndn, f]
  · refine qR.of h ?_
    rw [vI_f e1]
    show xfix gX12_oneByOne (0, [some (.inr (.inr (12, 0))), some (.inl (iZ (a))), none, none, none, none], [], M) = _; rw [xfix_unf, sX12_oneByOne_0]
    simp (disch := omega) only [xk_none, xk_inl, xk_inr, xk_ite, xri_v, xrl_v, xrv_v, xb_z0, xb_z1, xb_b2, if_true, if_false, ite_true, ite_false, iZ_lit, iZ_m1, iZ_m99, iZ_m8, iZ_add, iZ_sub, iZ_mul, iZ_neg, nz0, nzi, iZ_lt, iZ_le, iZ_inj, b2_z, b2_o, ite_bPz, ite_bPo, xb_bP, iZ_xin, if_pos, ite_self, ↓reduceIte, Int.reduceAdd, Int.reduceSub, Int.reduceMul, Int.reduceNeg, Int.reduceLT, Int.reduceLE, if_neg, k_isHeap h.A ha, e1, lZ_m1]
/-- the least number of a set, -1 of an empty one -/
def isM (S : Nat → Prop) (v : Int) : Prop := (v = -1 ∧ ∀ n, ¬ S n) ∨ ∃ m : Nat, v = m ∧ S m ∧ ∀ n, n < m → ¬ S n
theorem isM.cg {S T : Nat → Prop} {v : Int} (h : isM S v) (e : ∀ n, S n ↔ T n) : isM T v := by
  rcases h with ⟨h1, h2⟩ | ⟨m, h1, h2, h3⟩
  · exact .inl ⟨h1, fun n z => h2 n ((e n).mpr z)⟩
  · exact .inr ⟨m, h1, (e m).mp h2, fun n hn z => h3 n hn ((e n).mpr z)⟩
theorem isM.un {S T : Nat → Prop} {v u : Int} (h : isM S v) (h2 : isM T u) : isM (fun n => S n ∨ T n) (if u = -1 then v else if v = -1 ∨ u < v then u else v) := by
  rcases h with ⟨a1, a2⟩ | ⟨m, a1, a2, a3⟩
  · rcases h2 with ⟨b1, b2⟩ | ⟨k, b1, b2, b3⟩
    · rw [if_pos b1]; exact .inl ⟨a1, fun n z => z.elim (a2 n) (b2 n)⟩
    · rw [if_neg (by omega), if_pos (.inl a1)]; exact .inr ⟨k, b1, .inr b2, fun n hn z => z.elim (a2 n) (b3 n hn)⟩
  · rcases h2 with ⟨b1, b2⟩ | ⟨k, b1, b2, b3⟩
    · rw [if_pos b1]; exact .inr ⟨m, a1, .inl a2, fun n hn z => z.elim (a3 n hn) (b2 n)⟩
    · rw [if_neg (by omega)]
      by_cases e : k < m
      · rw [if_pos (by omega)]; exact .inr ⟨k, b1, .inr b2, fun n hn z => z.elim (a3 n (by omega)) (b3 n hn)⟩
      · rw [if_neg (by omega)]; exact .inr ⟨m, a1, .inl a2, fun n hn z => z.elim (a3 n hn) (b3 n (by omega))⟩
theorem isM.sh {S : Nat → Prop} {v : Int} (h : isM S v) : isM (fun n => ∃ k, n = k + 1 ∧ S k) (if v = -1 then -1 else v + 1) := by
  rcases h with ⟨a1, a2⟩ | ⟨m, a1, a2, a3⟩
  · rw [if_pos a1]; exact .inl ⟨rfl, fun n ⟨k, _, z⟩ => a2 k z⟩
  · rw [if_neg (by omega)]
    exact .inr ⟨m + 1, by omega, ⟨m, rfl, a2⟩, fun n hn ⟨k, e, z⟩ => a3 k (by omega) z⟩
theorem isM.u {S : Nat → Prop} {v u : Int} (h : isM S v) (h2 : isM S u) : v = u := by
  rcases h with ⟨a1, a2⟩ | ⟨m, a1, a2, a3⟩
  · rcases h2 with ⟨b1, b2⟩ | ⟨k, b1, b2, b3⟩
    · omega
    · exact absurd b2 (a2 k)
  · rcases h2 with ⟨b1, b2⟩ | ⟨k, b1, b2, b3⟩
    · exact absurd a2 (b2 m)
    · have : ¬ k < m := fun z => a3 k z b2
      have : ¬ m < k := fun z => b3 m z a2
      omega
/-- chains of steps -/
def pf (E : Nat → Nat → Prop) : Nat → Nat → Nat → Prop
  | 0, a, b => a = b
  | n + 1, a, b => ∃ c, pf E n a c ∧ E c b
theorem pf_pre {E : Nat → Nat → Prop} : ∀ {n a b}, pf E (n + 1) a b ↔ ∃ c, E a c ∧ pf E n c b
  | 0, a, b => ⟨fun ⟨c, h1, h2⟩ => ⟨b, by rw [show a = c from h1]; exact h2, rfl⟩, fun ⟨c, h1, h2⟩ => ⟨a, rfl, by rw [← show c = b from h2]; exact h1⟩⟩
  | n + 1, a, b => by
    constructor
    · rintro ⟨c, h1, h2⟩
      obtain ⟨d, h3, h4⟩ := pf_pre.mp h1
      exact ⟨d, h3, c, h4, h2⟩
    · rintro ⟨c, h1, d, h2, h3⟩
      exact ⟨d, pf_pre.mpr ⟨c, h1, h2⟩, h3⟩
theorem pf_lt {E : Nat → Nat → Prop} (hE : ∀ a b, E a b → b < a) : ∀ {n a b}, pf E n a b → b + n ≤ a
  | 0, a, b, h => by have : a = b := h
                     omega
  | n + 1, a, b, ⟨c, h1, h2⟩ => by
    have := pf_lt hE h1
    have := hE c b h2
    omega
def dnE (A : dA) (p heap half : Nat) : Prop := 1 ≤ half ∧ half < heap ∧ half &&& heap = half ∧ half.testBit p = true ∧ prt A (barS A) heap half
theorem dnE_lt {A : dA} {p : Nat} : ∀ a b, dnE A p a b → b < a := fun _ _ h => h.2.1
/-- chains to a heap whose last step is from above a bound -/
def dnI (A : dA) (p W i h n : Nat) : Prop := (n = 0 ∧ h = W) ∨ ∃ k, n = k + 1 ∧ ∃ g, i < g ∧ pf (dnE A p) k W g ∧ dnE A p g h
theorem dnI_all {A : dA} {p W i h n : Nat} (hi : i ≤ h) : dnI A p W i h n ↔ pf (dnE A p) n W h := by
  cases n with
  | zero => exact ⟨fun z => z.elim (fun z => z.2.symm) (fun ⟨k, z, _⟩ => by omega), fun z => .inl ⟨rfl, (show W = h from z).symm⟩⟩
  | succ n =>
    constructor
    · rintro (⟨z, _⟩ | ⟨k, z, g, _, g2, g3⟩)
      · omega
      · have : k = n := by omega
        subst this
        exact ⟨g, g2, g3⟩
    · rintro ⟨g, g2, g3⟩
      exact .inr ⟨n, rfl, g, by have := g3.2.1; omega, g2, g3⟩
theorem dn_half {A : dA} {N : xM} {p W heap half : Nat} {best : Int} (hA : mA N A) (hB : mB N (barS A)) (hp : p < aP A) (hW : W < 2 ^ aP A) (hh : heap ≤ W) (h1 : 1 ≤ half) (h2 : half < heap) {u v : Int} (hu : xI N (148, 0) heap = iZ u) (hu2 : isM (fun n => pf (dnE A p) n W heap) u) (hu3 : u ≠ -1) (hv : xI N (148, 0) half = iZ v) {S : Nat → Prop} (hv2 : isM S v) (hv3 : -1 ≤ v ∧ v ≤ 600) (hu4 : -1 ≤ u ∧ u ≤ 600) : ∃ N' v', xfix gX12_down (95, [some (.inr (.inr (12, 0))), some (.inl (iZ (p))), some (.inl (iZ (best))), some (.inl (iZ (heap))), some (.inl (iZ (half)))], [], N) = xfix gX12_down (95, [some (.inr (.inr (12, 0))), some (.inl (iZ (p))), some (.inl (iZ (best))), some (.inl (iZ (heap))), some (.inl (iZ (((half : Int) + 1))))], [], N') ∧ xSm (fun r j => r = (148, 0) ∧ j = half) N N' ∧ xI N' (148, 0) half = iZ v' ∧ isM (fun n => S n ∨ ∃ k, n = k + 1 ∧ pf (dnE A p) k W heap ∧ dnE A p heap half) v' := by
  have hP := pow9 hA.ok.P
  have hP9 := hA.ok.P
  have hle := ndn_le half heap
  by_cases c : dnE A p heap half
  · have hz : ndn half heap = 0 := ndn_and.mpr c.2.2.1
    have key := hv2.un hu2.sh
    rw [if_neg hu3] at key
    have key2 : isM (fun n => S n ∨ ∃ k, n = k + 1 ∧ pf (dnE A p) k W heap ∧ dnE A p heap half) (if v = -1 ∨ u + 1 < v then u + 1 else v) := by
      rw [if_neg (by omega)] at key
      exact key.cg fun n => or_congr Iff.rfl ⟨fun ⟨k, e, z⟩ => ⟨k, e, z, c⟩, fun ⟨k, e, z, _⟩ => ⟨k, e, z⟩⟩
    by_cases d : v = -1 ∨ u + 1 < v
    · rw [if_pos d] at key2
      have e161 : xfix gX12_down (161, [some (.inr (.inr (12, 0))), some (.inl (iZ (p))), some (.inl (iZ (best))), some (.inl (iZ (heap))), some (.inl (iZ (half)))], [], N) = xfix gX12_down (95, [some (.inr (.inr (12, 0))), some (.inl (iZ (p))), some (.inl (iZ (best))), some (.inl (iZ (heap))), some (.inl (iZ (((half : Int) + 1))))], [], xpI N (148, 0) half (iZ (u + 1))) := by
        rw [xfix_unf, sX12_down_161]
        simp (disch := omega) only [xk_none, xk_inl, xk_inr, xk_ite, xri_v, xrl_v, xrv_v, xb_z0, xb_z1, xb_b2, if_true, if_false, ite_true, ite_false, iZ_lit, iZ_m1, iZ_m99, iZ_m8, iZ_add, iZ_sub, iZ_mul, iZ_neg, nz0, nzi, iZ_lt, iZ_le, iZ_inj, b2_z, b2_o, ite_bPz, ite_bPo, xb_bP, iZ_xin, if_pos, ite_self, ↓reduceIte, Int.reduceAdd, Int.reduceSub, Int.reduceMul, Int.reduceNeg, Int.reduceLT, Int.reduceLE, if_neg, nS, iZ_clampN, iZ_bit, iZ_one, iZ_and, iZ_or, iZ_ndn, hu]
      refine ⟨_, u + 1, ?_, xSm.rf.pI (r := (148, 0)) (j := half) (v := iZ (u + 1)) ⟨rfl, rfl⟩, by rw [xI_pI, if_pos ⟨rfl, rfl⟩], key2⟩
      rw [← e161]
      rw [xfix_unf, sX12_down_95]
      simp (disch := omega) only [xk_none, xk_inl, xk_inr, xk_ite, xri_v, xrl_v, xrv_v, xb_z0, xb_z1, xb_b2, if_true, if_false, ite_true, ite_false, iZ_lit, iZ_m1, iZ_m99, iZ_m8, iZ_add, iZ_sub, iZ_mul, iZ_neg, nz0, nzi, iZ_lt, iZ_le, iZ_inj, b2_z, b2_o, ite_bPz, ite_bPo, xb_bP, iZ_xin, if_pos, ite_self, ↓reduceIte, Int.reduceAdd, Int.reduceSub, Int.reduceMul, Int.reduceNeg, Int.reduceLT, Int.reduceLE, if_neg, nS, iZ_clampN, iZ_bit, iZ_one, iZ_and, iZ_or, iZ_ndn, hz, if_pos c.2.2.2.1, m_isParting hA hB (by omega : heap < 512) (by omega : half < 512), c.2.2.2.2, hu, hv]
    · rw [if_neg d] at key2
      refine ⟨N, v, ?_, xSm.rf, hv, key2⟩
      rw [xfix_unf, sX12_down_95]
      simp (disch := omega) only [xk_none, xk_inl, xk_inr, xk_ite, xri_v, xrl_v, xrv_v, xb_z0, xb_z1, xb_b2, if_true, if_false, ite_true, ite_false, iZ_lit, iZ_m1, iZ_m99, iZ_m8, iZ_add, iZ_sub, iZ_mul, iZ_neg, nz0, nzi, iZ_lt, iZ_le, iZ_inj, b2_z, b2_o, ite_bPz, ite_bPo, xb_bP, iZ_xin, if_pos, ite_self, ↓reduceIte, Int.reduceAdd, Int.reduceSub, Int.reduceMul, Int.reduceNeg, Int.reduceLT, Int.reduceLE, if_neg, nS, iZ_clampN, iZ_bit, iZ_one, iZ_and, iZ_or, iZ_ndn, hz, if_pos c.2.2.2.1, m_isParting hA hB (by omega : heap < 512) (by omega : half < 512), c.2.2.2.2, hu, hv]
  · refine ⟨N, v, ?_, xSm.rf, hv, hv2.cg fun n => ⟨.inl, fun z => z.elim id fun ⟨_, _, _, z⟩ => absurd z c⟩⟩
    rw [xfix_unf, sX12_down_95]
    by_cases y1 : ndn half heap = 0
    · by_cases y2 : half.testBit p = true
      · have y3 : ¬ prt A (barS A) heap half := fun z => c ⟨h1, h2, ndn_and.mp y1, y2, z⟩
        simp (disch := omega) only [xk_none, xk_inl, xk_inr, xk_ite, xri_v, xrl_v, xrv_v, xb_z0, xb_z1, xb_b2, if_true, if_false, ite_true, ite_false, iZ_lit, iZ_m1, iZ_m99, iZ_m8, iZ_add, iZ_sub, iZ_mul, iZ_neg, nz0, nzi, iZ_lt, iZ_le, iZ_inj, b2_z, b2_o, ite_bPz, ite_bPo, xb_bP, iZ_xin, if_pos, ite_self, ↓reduceIte, Int.reduceAdd, Int.reduceSub, Int.reduceMul, Int.reduceNeg, Int.reduceLT, Int.reduceLE, if_neg, nS, iZ_clampN, iZ_bit, iZ_one, iZ_and, iZ_or, iZ_ndn, y1, if_pos y2, m_isParting hA hB (by omega : heap < 512) (by omega : half < 512), y3]
      · simp (disch := omega) only [xk_none, xk_inl, xk_inr, xk_ite, xri_v, xrl_v, xrv_v, xb_z0, xb_z1, xb_b2, if_true, if_false, ite_true, ite_false, iZ_lit, iZ_m1, iZ_m99, iZ_m8, iZ_add, iZ_sub, iZ_mul, iZ_neg, nz0, nzi, iZ_lt, iZ_le, iZ_inj, b2_z, b2_o, ite_bPz, ite_bPo, xb_bP, iZ_xin, if_pos, ite_self, ↓reduceIte, Int.reduceAdd, Int.reduceSub, Int.reduceMul, Int.reduceNeg, Int.reduceLT, Int.reduceLE, if_neg, nS, iZ_clampN, iZ_bit, iZ_one, iZ_and, iZ_or, iZ_ndn, y1, if_neg y2]
    · simp (disch := omega) only [xk_none, xk_inl, xk_inr, xk_ite, xri_v, xrl_v, xrv_v, xb_z0, xb_z1, xb_b2, if_true, if_false, ite_true, ite_false, iZ_lit, iZ_m1, iZ_m99, iZ_m8, iZ_add, iZ_sub, iZ_mul, iZ_neg, nz0, nzi, iZ_lt, iZ_le, iZ_inj, b2_z, b2_o, ite_bPz, ite_bPo, xb_bP, iZ_xin, if_pos, ite_self, ↓reduceIte, Int.reduceAdd, Int.reduceSub, Int.reduceMul, Int.reduceNeg, Int.reduceLT, Int.reduceLE, if_neg, nS, iZ_clampN, iZ_bit, iZ_one, iZ_and, iZ_or, iZ_ndn, y1]
/-- the distances as far as they are known when heaps above i are done -/
def dnR (A : dA) (p W i : Nat) (N : xM) : Prop := ∀ h, 1 ≤ h → h ≤ W → ∃ v, xI N (148, 0) h = iZ v ∧ (-1 ≤ v ∧ v ≤ 600) ∧ isM (dnI A p W i h) v
theorem isM_b {A : dA} {p W i h : Nat} {v : Int} (hW : W < 512) (hm : isM (dnI A p W i h) v) : -1 ≤ v ∧ v ≤ 600 := by
  rcases hm with ⟨a, _⟩ | ⟨m, a, b, _⟩
  · omega
  · rcases b with ⟨b, _⟩ | ⟨k, b, g, b2, b3, b4⟩
    · omega
    · have := pf_lt dnE_lt b3
      omega
theorem dn_heap {A : dA} {M N : xM} {p W heap : Nat} {best : Int} (hA : mA M A) (hB : mB M (barS A)) (hp : p < aP A) (hW : W < 2 ^ aP A) (h1 : 1 ≤ heap) (hh : heap ≤ W) (hN : xSame (fun r => r = (148, 0)) M N) (hI : dnR A p W heap N) (hbit : heap.testBit p = true) {u : Int} (hu : xI N (148, 0) heap = iZ u) (hu2 : isM (fun n => pf (dnE A p) n W heap) u) (hu3 : u ≠ -1) (hu4 : -1 ≤ u ∧ u ≤ 600) : ∃ N', xfix gX12_down (95, [some (.inr (.inr (12, 0))), some (.inl (iZ (p))), some (.inl (iZ (best))), some (.inl (iZ (heap))), some (.inl (iZ ((1 : Nat))))], [], N) = xfix gX12_down (53, [some (.inr (.inr (12, 0))), some (.inl (iZ (p))), some (.inl (iZ (best))), some (.inl (iZ (((heap : Int) - 1)))), none], [], N') ∧ xSame (fun r => r = (148, 0)) M N' ∧ dnR A p W (heap - 1) N' := by
  have hP := pow9 hA.ok.P
  obtain ⟨N2, g1, g2, g3, g4, g5⟩ := xfor_M (sg := gX12_down) (st := fun k M => (95, [some (.inr (.inr (12, 0))), some (.inl (iZ (p))), some (.inl (iZ (best))), some (.inl (iZ (heap))), some (.inl (iZ (k)))], [], M)) (I := fun k N' => xSame (fun r => r = (148, 0)) M N' ∧ 1 ≤ k ∧ (∀ h, heap ≤ h → h ≤ W → xI N' (148, 0) h = xI N (148, 0) h) ∧ ∀ h, 1 ≤ h → h < heap → ∃ v, xI N' (148, 0) h = iZ v ∧ isM (fun n => dnI A p W heap h n ∨ (h < k ∧ ∃ j, n = j + 1 ∧ pf (dnE A p) j W heap ∧ dnE A p heap h)) v) (n := heap) (fun k N' hk hI' => by
    obtain ⟨i1, i2, i3, i4⟩ := hI'
    obtain ⟨v, v1, v2⟩ := i4 k i2 hk
    have v2' := v2.cg (T := dnI A p W heap k) (fun n => ⟨fun z => z.elim id fun z => by omega, .inl⟩)
    have vb := isM_b (by omega) v2'
    obtain ⟨N'', v', j1, j2, j3, j4⟩ := dn_half (best := best) (hA.fr i1 (by decide)) (hB.fr i1 (by decide)) hp hW hh i2 hk (by rw [i3 heap (Nat.le_refl _) hh]; exact hu) hu2 hu3 v1 v2' vb hu4
    refine ⟨N'', by rw [nS]; exact j1, i1.tr (j2.S fun _ _ z => z.1), by omega, fun h x1 x2 => ?_, fun h x1 x2 => ?_⟩
    · rw [(j2 (148, 0) h (fun z => by omega)).1]; exact i3 h x1 x2
    · by_cases e : h = k
      · subst e
        exact ⟨v', j3, j4.cg fun n => or_congr Iff.rfl ⟨fun z => ⟨by omega, z⟩, fun z => z.2⟩⟩
      · obtain ⟨w, w1, w2⟩ := i4 h x1 x2
        exact ⟨w, by rw [(j2 (148, 0) h (fun z => e z.2)).1]; exact w1, w2.cg fun n => or_congr Iff.rfl ⟨fun z => ⟨by omega, z.2⟩, fun z => ⟨by omega, z.2⟩⟩⟩) (a := 1) (M := N) h1 ⟨hN, by omega, fun h _ _ => rfl, fun h x1 x2 => by
      obtain ⟨v, v1, v2, v3⟩ := hI h x1 (by omega)
      exact ⟨v, v1, v3.cg fun n => ⟨.inl, fun z => z.elim id fun z => by omega⟩⟩⟩
  refine ⟨N2, g1.trans ?_, g2, fun h x1 x2 => ?_⟩
  · have em : (heap : Int) + (-1) = (heap : Int) - 1 := by omega
    rw [xfix_unf, sX12_down_95]
    simp (disch := omega) only [xk_none, xk_inl, xk_inr, xk_ite, xri_v, xrl_v, xrv_v, xb_z0, xb_z1, xb_b2, if_true, if_false, ite_true, ite_false, iZ_lit, iZ_m1, iZ_m99, iZ_m8, iZ_add, iZ_sub, iZ_mul, iZ_neg, nz0, nzi, iZ_lt, iZ_le, iZ_inj, b2_z, b2_o, ite_bPz, ite_bPo, xb_bP, iZ_xin, if_pos, ite_self, ↓reduceIte, Int.reduceAdd, Int.reduceSub, Int.reduceMul, Int.reduceNeg, Int.reduceLT, Int.reduceLE, if_neg, nS, iZ_clampN, iZ_bit, iZ_one, iZ_and, iZ_or, iZ_ndn, em]
  · by_cases e : h < heap
    · obtain ⟨v, v1, v2⟩ := g5 h x1 e
      have key : isM (dnI A p W (heap - 1) h) v := v2.cg fun n => by
        constructor
        · rintro ((⟨a, b⟩ | ⟨k, a, g, b1, b2, b3⟩) | ⟨_, j, a, b, c⟩)
          · exact .inl ⟨a, b⟩
          · exact .inr ⟨k, a, g, by omega, b2, b3⟩
          · exact .inr ⟨j, a, heap, by omega, b, c⟩
        · rintro (⟨a, b⟩ | ⟨k, a, g, b1, b2, b3⟩)
          · exact .inl (.inl ⟨a, b⟩)
          · by_cases eg : g = heap
            · subst eg; exact .inr ⟨e, k, a, b2, b3⟩
            · exact .inl (.inr ⟨k, a, g, by omega, b2, b3⟩)
      exact ⟨v, v1, isM_b (by omega) key, key⟩
    · obtain ⟨v, v1, v2, v3⟩ := hI h x1 x2
      refine ⟨v, by rw [g4 h (by omega) x2]; exact v1, v2, v3.cg fun n => ?_⟩
      rw [dnI_all (by omega), dnI_all (by omega)]
noncomputable def sDown (A : dA) (p : Int) : Int := vI (vP A p) (lsI (fun n => pf (dnE A p.toNat) n (2 ^ aP A - 1) (2 ^ p.toNat)) 600)
theorem isM_ls {S : Nat → Prop} {v : Int} {n : Nat} (h : isM S v) (hn : v < n) : v = lsI S n := by
  rcases h with ⟨a, b⟩ | ⟨m, a, b, c⟩
  · have : lsI S n = lsI (fun _ => False) n := lsI_cg fun i _ => ⟨b i, False.elim⟩
    rw [this, lsI_F, a]
  · unfold lsI
    rw [lst_eq (k := m) (by omega) (fun i hi => c i hi) (fun _ => b), if_pos (by omega), a]
