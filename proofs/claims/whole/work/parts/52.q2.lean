/-! the reference: net, missing, minutes, time -/
theorem k_isIn {M : xM} {v lo hi : Int} (h1 : r32 v) (h2 : r32 lo) (h3 : r32 hi) : fX12_isIn [.inl (iZ (v)), .inl (iZ (lo)), .inl (iZ (hi))] M = some (some (.inl (bP (lo ≤ v ∧ v ≤ hi))), M) := m_isIn v lo hi M h1 h2 h3
noncomputable def cnU (p : Nat → Prop) : Nat → Int := sm fun k => ind (1 ≤ k ∧ p k)
theorem cnU_b (p : Nat → Prop) (n : Nat) : 0 ≤ cnU p n ∧ cnU p n ≤ n := sm_ind (fun k => 1 ≤ k ∧ p k) n
def nvr (A : dA) (k : Nat) : Prop := netA A k ∧ 1 < bc k ∧ ptC A (barS A) k k = 0
noncomputable def sNet (A : dA) (what : Int) : Int := if what = 0 then cnU (netA A) (2 ^ aP A) else if what = 1 then cnU (livA A) (2 ^ aP A) else if what = 2 then cnU (nvr A) (2 ^ aP A) else if what = 3 then aP A else if what = 4 then aJ A else if what = 5 then ((2 ^ aP A : Nat) : Int) - 1 else -1
theorem net_loop {A : dA} {M : xM} (h : mQ M A) {w : Nat} {p : Nat → Prop} (hp : ∀ k : Nat, 1 ≤ k → k < 2 ^ aP A → ∀ v : Int, xfix gX12_net (53, [some (.inr (.inr (12, 0))), some (.inl (iZ (w))), some (.inl (iZ (v))), some (.inl (iZ (k))), none], [], M) = xfix gX12_net (118, [some (.inr (.inr (12, 0))), some (.inl (iZ (w))), some (.inl (iZ (v))), some (.inl (iZ (k))), none], [.inl (bP ((p k)))], M)) : xfix gX12_net (53, [some (.inr (.inr (12, 0))), some (.inl (iZ (w))), some (.inl (iZ ((0 : Int)))), some (.inl (iZ ((1 : Nat)))), none], [], M) = some (some (.inl (iZ (cnU p (2 ^ aP A)))), M) := by
  have hP := pow9 h.A.ok.P
  have hl := xfor_F (sg := gX12_net) (fun i => (53, [some (.inr (.inr (12, 0))), some (.inl (iZ (w))), some (.inl (iZ ((cnU p i)))), some (.inl (iZ (i))), none], [], M)) (a := 1) (n := 2 ^ aP A) hP.1 (fun i h1 hi => by
    have hb := cnU_b p i
    refine (hp i h1 hi _).trans ?_
    rw [show cnU p (i + 1) = cnU p i + ind (1 ≤ i ∧ p i) from rfl]
    rw [xfix_unf, sX12_net_118]
    simp (disch := omega) only [xk_none, xk_inl, xk_inr, xk_ite, xri_v, xrl_v, xrv_v, xb_z0, xb_z1, xb_b2, if_true, if_false, ite_true, ite_false, iZ_lit, iZ_m1, iZ_m99, iZ_m8, iZ_add, iZ_sub, iZ_mul, iZ_neg, nz0, nzi, iZ_lt, iZ_le, iZ_inj, b2_z, b2_o, ite_bPz, ite_bPo, xb_bP, iZ_xin, if_pos, ite_self, ↓reduceIte, Int.reduceAdd, Int.reduceSub, Int.reduceMul, Int.reduceNeg, Int.reduceLT, Int.reduceLE, if_neg, nS, iZ_clampN, iZ_bit, iZ_one, iZ_and, iZ_or, iZ_ndn]
    by_cases e : p i
    · rw [if_pos e, ind_t ⟨h1, e⟩]
    · rw [if_neg e, ind_f (fun z => e z.2)])
  have e0 : cnU p 1 = 0 := by
    show (0 : Int) + ind (1 ≤ 0 ∧ p 0) = 0
    rw [ind_f (fun z => by omega)]
    rfl
  rw [e0] at hl
  refine hl.trans ?_
  rw [xfix_unf, sX12_net_53, m_whole M h.A.P]
  simp (disch := omega) only [xk_none, xk_inl, xk_inr, xk_ite, xri_v, xrl_v, xrv_v, xb_z0, xb_z1, xb_b2, if_true, if_false, ite_true, ite_false, iZ_lit, iZ_m1, iZ_m99, iZ_m8, iZ_add, iZ_sub, iZ_mul, iZ_neg, nz0, nzi, iZ_lt, iZ_le, iZ_inj, b2_z, b2_o, ite_bPz, ite_bPo, xb_bP, iZ_xin, if_pos, ite_self, ↓reduceIte, Int.reduceAdd, Int.reduceSub, Int.reduceMul, Int.reduceNeg, Int.reduceLT, Int.reduceLE, if_neg, nS, iZ_clampN, iZ_bit, iZ_one, iZ_and, iZ_or, iZ_ndn]
theorem q_net {A : dA} {M : xM} (h : mQ M A) {what : Int} (hw : r32 what) : qR M A (fX12_net [.inr (.inr (12, 0)), .inl (iZ (what))] M) (.inl (iZ (sNet A what))) := by
  have hP := pow9 h.A.ok.P
  have hP9 := h.A.ok.P
  by_cases e1 : 0 ≤ what ∧ what ≤ 5
  · obtain ⟨M', a1, a2, a3, a4, a5⟩ := h.kn
    refine ⟨M', ?_, a2, a3⟩
    obtain ⟨w, rfl⟩ : ∃ n : Nat, what = n := ⟨what.toNat, by omega⟩
    have top : fX12_net [.inr (.inr (12, 0)), .inl (iZ (w))] M = xk gX12_net (if iZ w ≤ 2 then some (.inr (53, [some (.inr (.inr (12, 0))), some (.inl (iZ (w))), some (.inl (iZ ((0 : Int)))), some (.inl (iZ ((1 : Int)))), none], [], M')) else if iZ w = 3 then some (.inl (some (.inl (xI M' (12, 0) 2)), M')) else if iZ w = 4 then some (.inl (some (.inl (xI M' (12, 0) 3)), M')) else xri (fX12_whole [.inr (.inr (12, 0))] M') fun c3 M3 => some (.inl (some (.inl c3), M3))) := by
      show xfix gX12_net (0, [some (.inr (.inr (12, 0))), some (.inl (iZ (w))), none, none, none], [], M) = _; rw [xfix_unf, sX12_net_0]
      rw [show (0 : Int32) = iZ 0 from rfl, show (5 : Int32) = iZ 5 from rfl, k_isIn hw (by omega) (by omega), xri_v, bP_t e1, if_neg (show ¬ iZ 1 = iZ 0 by decide +kernel), a1, xrv_v]
      rfl
    rw [top]
    unfold sNet
    by_cases w0 : w = 0
    · rw [if_pos (show ((w : Int)) = 0 by omega)]
      simp (disch := omega) only [xk_none, xk_inl, xk_inr, xk_ite, xri_v, xrl_v, xrv_v, xb_z0, xb_z1, xb_b2, if_true, if_false, ite_true, ite_false, iZ_lit, iZ_m1, iZ_m99, iZ_m8, iZ_add, iZ_sub, iZ_mul, iZ_neg, nz0, nzi, iZ_lt, iZ_le, iZ_inj, b2_z, b2_o, ite_bPz, ite_bPo, xb_bP, iZ_xin, if_pos, ite_self, ↓reduceIte, Int.reduceAdd, Int.reduceSub, Int.reduceMul, Int.reduceNeg, Int.reduceLT, Int.reduceLE, if_neg]
      refine net_loop a2 (w := w) (fun k k1 k2 v => ?_)
      obtain ⟨b5, b6⟩ := a4.2.2.2 k (by omega)
      rw [xfix_unf, sX12_net_53, m_whole M' a2.A.P]
      simp (disch := omega) only [xk_none, xk_inl, xk_inr, xk_ite, xri_v, xrl_v, xrv_v, xb_z0, xb_z1, xb_b2, if_true, if_false, ite_true, ite_false, iZ_lit, iZ_m1, iZ_m99, iZ_m8, iZ_add, iZ_sub, iZ_mul, iZ_neg, nz0, nzi, iZ_lt, iZ_le, iZ_inj, b2_z, b2_o, ite_bPz, ite_bPo, xb_bP, iZ_xin, if_pos, ite_self, ↓reduceIte, Int.reduceAdd, Int.reduceSub, Int.reduceMul, Int.reduceNeg, Int.reduceLT, Int.reduceLE, if_neg, iZ_clampN, b5]
    · rw [if_neg (show ¬ ((w : Int)) = 0 by omega)]
      by_cases w1 : w = 1
      · rw [if_pos (show ((w : Int)) = 1 by omega)]
        simp (disch := omega) only [xk_none, xk_inl, xk_inr, xk_ite, xri_v, xrl_v, xrv_v, xb_z0, xb_z1, xb_b2, if_true, if_false, ite_true, ite_false, iZ_lit, iZ_m1, iZ_m99, iZ_m8, iZ_add, iZ_sub, iZ_mul, iZ_neg, nz0, nzi, iZ_lt, iZ_le, iZ_inj, b2_z, b2_o, ite_bPz, ite_bPo, xb_bP, iZ_xin, if_pos, ite_self, ↓reduceIte, Int.reduceAdd, Int.reduceSub, Int.reduceMul, Int.reduceNeg, Int.reduceLT, Int.reduceLE, if_neg]
        refine net_loop a2 (w := w) (fun k k1 k2 v => ?_)
        obtain ⟨b5, b6⟩ := a4.2.2.2 k (by omega)
        rw [xfix_unf, sX12_net_53, m_whole M' a2.A.P]
        simp (disch := omega) only [xk_none, xk_inl, xk_inr, xk_ite, xri_v, xrl_v, xrv_v, xb_z0, xb_z1, xb_b2, if_true, if_false, ite_true, ite_false, iZ_lit, iZ_m1, iZ_m99, iZ_m8, iZ_add, iZ_sub, iZ_mul, iZ_neg, nz0, nzi, iZ_lt, iZ_le, iZ_inj, b2_z, b2_o, ite_bPz, ite_bPo, xb_bP, iZ_xin, if_pos, ite_self, ↓reduceIte, Int.reduceAdd, Int.reduceSub, Int.reduceMul, Int.reduceNeg, Int.reduceLT, Int.reduceLE, if_neg, iZ_clampN, b6]
      · rw [if_neg (show ¬ ((w : Int)) = 1 by omega)]
        by_cases w2 : w = 2
        · rw [if_pos (show ((w : Int)) = 2 by omega)]
          simp (disch := omega) only [xk_none, xk_inl, xk_inr, xk_ite, xri_v, xrl_v, xrv_v, xb_z0, xb_z1, xb_b2, if_true, if_false, ite_true, ite_false, iZ_lit, iZ_m1, iZ_m99, iZ_m8, iZ_add, iZ_sub, iZ_mul, iZ_neg, nz0, nzi, iZ_lt, iZ_le, iZ_inj, b2_z, b2_o, ite_bPz, ite_bPo, xb_bP, iZ_xin, if_pos, ite_self, ↓reduceIte, Int.reduceAdd, Int.reduceSub, Int.reduceMul, Int.reduceNeg, Int.reduceLT, Int.reduceLE, if_neg]
          refine net_loop a2 (w := w) (fun k k1 k2 v => ?_)
          obtain ⟨b5, b6⟩ := a4.2.2.2 k (by omega)
          have c2 : 0 ≤ ptC A (barS A) k k ∧ ptC A (barS A) k k ≤ k := sm_ind (ptW A (barS A) k) k
          have c3 := bc_le k
          rw [xfix_unf, sX12_net_53, m_whole M' a2.A.P]
          simp (disch := omega) only [xk_none, xk_inl, xk_inr, xk_ite, xri_v, xrl_v, xrv_v, xb_z0, xb_z1, xb_b2, if_true, if_false, ite_true, ite_false, iZ_lit, iZ_m1, iZ_m99, iZ_m8, iZ_add, iZ_sub, iZ_mul, iZ_neg, nz0, nzi, iZ_lt, iZ_le, iZ_inj, b2_z, b2_o, ite_bPz, ite_bPo, xb_bP, iZ_xin, if_pos, ite_self, ↓reduceIte, Int.reduceAdd, Int.reduceSub, Int.reduceMul, Int.reduceNeg, Int.reduceLT, Int.reduceLE, if_neg, iZ_clampN, b5, m_bits M' (v := k) (by omega), m_partings a2.A a4.1 k1 (by omega : k < 512)]
          by_cases d1 : netA A k
          · rw [if_pos d1]
            by_cases d2 : bc k ≤ 1
            · rw [if_pos (by omega), bP_f (fun z => by have := z.2.1; omega)]
            · rw [if_neg (by omega)]
              by_cases d3 : ptC A (barS A) k k = 0
              · rw [if_pos d3, bP_t ⟨d1, by omega, d3⟩]
              · rw [if_neg d3, bP_f (fun z => d3 z.2.2)]
          · rw [if_neg d1, bP_f (fun z => d1 z.1)]
        · rw [if_neg (show ¬ ((w : Int)) = 2 by omega)]
          by_cases w3 : w = 3
          · rw [if_pos (show ((w : Int)) = 3 by omega)]
            simp (disch := omega) only [xk_none, xk_inl, xk_inr, xk_ite, xri_v, xrl_v, xrv_v, xb_z0, xb_z1, xb_b2, if_true, if_false, ite_true, ite_false, iZ_lit, iZ_m1, iZ_m99, iZ_m8, iZ_add, iZ_sub, iZ_mul, iZ_neg, nz0, nzi, iZ_lt, iZ_le, iZ_inj, b2_z, b2_o, ite_bPz, ite_bPo, xb_bP, iZ_xin, if_pos, ite_self, ↓reduceIte, Int.reduceAdd, Int.reduceSub, Int.reduceMul, Int.reduceNeg, Int.reduceLT, Int.reduceLE, if_neg, a2.A.P.1]
          · rw [if_neg (show ¬ ((w : Int)) = 3 by omega)]
            by_cases w4 : w = 4
            · rw [if_pos (show ((w : Int)) = 4 by omega)]
              simp (disch := omega) only [xk_none, xk_inl, xk_inr, xk_ite, xri_v, xrl_v, xrv_v, xb_z0, xb_z1, xb_b2, if_true, if_false, ite_true, ite_false, iZ_lit, iZ_m1, iZ_m99, iZ_m8, iZ_add, iZ_sub, iZ_mul, iZ_neg, nz0, nzi, iZ_lt, iZ_le, iZ_inj, b2_z, b2_o, ite_bPz, ite_bPo, xb_bP, iZ_xin, if_pos, ite_self, ↓reduceIte, Int.reduceAdd, Int.reduceSub, Int.reduceMul, Int.reduceNeg, Int.reduceLT, Int.reduceLE, if_neg, a2.A.J]
            · rw [if_neg (show ¬ ((w : Int)) = 4 by omega), if_pos (show ((w : Int)) = 5 by omega), m_whole M' a2.A.P]
              simp (disch := omega) only [xk_none, xk_inl, xk_inr, xk_ite, xri_v, xrl_v, xrv_v, xb_z0, xb_z1, xb_b2, if_true, if_false, ite_true, ite_false, iZ_lit, iZ_m1, iZ_m99, iZ_m8, iZ_add, iZ_sub, iZ_mul, iZ_neg, nz0, nzi, iZ_lt, iZ_le, iZ_inj, b2_z, b2_o, ite_bPz, ite_bPo, xb_bP, iZ_xin, if_pos, ite_self, ↓reduceIte, Int.reduceAdd, Int.reduceSub, Int.reduceMul, Int.reduceNeg, Int.reduceLT, Int.reduceLE, if_neg]
  · refine qR.of h ?_
    have e0 : sNet A what = -1 := by
      unfold sNet
      rw [if_neg (by omega), if_neg (by omega), if_neg (by omega), if_neg (by omega), if_neg (by omega), if_neg (by omega)]
    rw [e0]
    show xfix gX12_net (0, [some (.inr (.inr (12, 0))), some (.inl (iZ (what))), none, none, none], [], M) = _; rw [xfix_unf, sX12_net_0]
    rw [show (0 : Int32) = iZ 0 from rfl, show (5 : Int32) = iZ 5 from rfl, k_isIn hw (by omega) (by omega), xri_v, bP_f e1, if_pos rfl]
    simp (disch := omega) only [xk_none, xk_inl, xk_inr, xk_ite, xri_v, xrl_v, xrv_v, xb_z0, xb_z1, xb_b2, if_true, if_false, ite_true, ite_false, iZ_lit, iZ_m1, iZ_m99, iZ_m8, iZ_add, iZ_sub, iZ_mul, iZ_neg, nz0, nzi, iZ_lt, iZ_le, iZ_inj, b2_z, b2_o, ite_bPz, ite_bPo, xb_bP, iZ_xin, if_pos, ite_self, ↓reduceIte, Int.reduceAdd, Int.reduceSub, Int.reduceMul, Int.reduceNeg, Int.reduceLT, Int.reduceLE, if_neg]
noncomputable def misR (A : dA) (p : Nat) : Nat → Int
  | 0 => -1
  | k + 1 => @ite _ (1 ≤ k ∧ livA A k ∧ k.testBit p = false ∧ (misR A p k = -1 ∨ bc (misR A p k).toNat < bc k)) (Classical.propDecidable _) (k : Int) (misR A p k)
theorem misR_b (A : dA) (p : Nat) : ∀ k, -1 ≤ misR A p k ∧ misR A p k < k
  | 0 => by unfold misR; omega
  | k + 1 => by
    have := misR_b A p k
    unfold misR
    split <;> omega
noncomputable def sMissing (A : dA) (p : Int) : Int := vI (vP A p) (misR A p.toNat (2 ^ aP A))
theorem q_missing {A : dA} {M : xM} (h : mQ M A) {p : Int} (hp : r32 p) : qR M A (fX12_missing [.inr (.inr (12, 0)), .inl (iZ (p))] M) (.inl (iZ (sMissing A p))) := by
  have hP := pow9 h.A.ok.P
  have hP9 := h.A.ok.P
  unfold sMissing
  by_cases e1 : vP A p
  · obtain ⟨M', a1, a2, a3, a4, a5⟩ := h.kn
    rw [vI_t e1]
    refine ⟨M', ?_, a2, a3⟩
    obtain ⟨p, rfl, h1⟩ := e1.n
    show _ = some (some (Sum.inl (iZ (misR A p (2 ^ aP A)))), M')
    have hl := xfor_F (sg := gX12_missing) (fun i => (18, [some (.inr (.inr (12, 0))), some (.inl (iZ (p))), some (.inl (iZ ((misR A p i)))), some (.inl (iZ (i)))], [], M')) (a := 1) (n := 2 ^ aP A) hP.1 (fun i h1 hi => by
      have hb := misR_b A p i
      obtain ⟨b5, b6⟩ := a4.2.2.2 i (by omega)
      have c3 := bc_le i
      rw [show misR A p (i + 1) = @ite _ (1 ≤ i ∧ livA A i ∧ i.testBit p = false ∧ (misR A p i = -1 ∨ bc (misR A p i).toNat < bc i)) (Classical.propDecidable _) (i : Int) (misR A p i) from rfl]
      generalize misR A p i = r at *
      rw [xfix_unf, sX12_missing_18, m_whole M' a2.A.P]
      by_cases d1 : livA A i
      · by_cases d2 : i.testBit p = true
        · rw [if_neg (c := 1 ≤ i ∧ livA A i ∧ i.testBit p = false ∧ (r = -1 ∨ bc r.toNat < bc i)) (fun z => by rw [d2] at z; cases z.2.2.1)]
          simp (disch := omega) only [xk_none, xk_inl, xk_inr, xk_ite, xri_v, xrl_v, xrv_v, xb_z0, xb_z1, xb_b2, if_true, if_false, ite_true, ite_false, iZ_lit, iZ_m1, iZ_m99, iZ_m8, iZ_add, iZ_sub, iZ_mul, iZ_neg, nz0, nzi, iZ_lt, iZ_le, iZ_inj, b2_z, b2_o, ite_bPz, ite_bPo, xb_bP, iZ_xin, if_pos, ite_self, ↓reduceIte, Int.reduceAdd, Int.reduceSub, Int.reduceMul, Int.reduceNeg, Int.reduceLT, Int.reduceLE, if_neg, nS, iZ_clampN, iZ_bit, iZ_one, iZ_and, iZ_or, iZ_ndn, b6, d1, if_pos d2]
        · by_cases d3 : r = -1
          · rw [if_pos (c := 1 ≤ i ∧ livA A i ∧ i.testBit p = false ∧ (r = -1 ∨ bc r.toNat < bc i)) ⟨h1, d1, Bool.eq_false_iff.mpr d2, .inl d3⟩]
            simp (disch := omega) only [xk_none, xk_inl, xk_inr, xk_ite, xri_v, xrl_v, xrv_v, xb_z0, xb_z1, xb_b2, if_true, if_false, ite_true, ite_false, iZ_lit, iZ_m1, iZ_m99, iZ_m8, iZ_add, iZ_sub, iZ_mul, iZ_neg, nz0, nzi, iZ_lt, iZ_le, iZ_inj, b2_z, b2_o, ite_bPz, ite_bPo, xb_bP, iZ_xin, if_pos, ite_self, ↓reduceIte, Int.reduceAdd, Int.reduceSub, Int.reduceMul, Int.reduceNeg, Int.reduceLT, Int.reduceLE, if_neg, nS, iZ_clampN, iZ_bit, iZ_one, iZ_and, iZ_or, iZ_ndn, b6, d1, if_neg d2]
          · obtain ⟨n, rfl⟩ : ∃ n : Nat, r = n := ⟨r.toNat, by omega⟩
            have c4 := bc_le n
            have en : ((n : Int)).toNat = n := by omega
            rw [en]
            by_cases d4 : bc n < bc i
            · rw [if_pos (c := 1 ≤ i ∧ livA A i ∧ i.testBit p = false ∧ ((n : Int) = -1 ∨ bc n < bc i)) ⟨h1, d1, Bool.eq_false_iff.mpr d2, .inr d4⟩]
              simp (disch := omega) only [xk_none, xk_inl, xk_inr, xk_ite, xri_v, xrl_v, xrv_v, xb_z0, xb_z1, xb_b2, if_true, if_false, ite_true, ite_false, iZ_lit, iZ_m1, iZ_m99, iZ_m8, iZ_add, iZ_sub, iZ_mul, iZ_neg, nz0, nzi, iZ_lt, iZ_le, iZ_inj, b2_z, b2_o, ite_bPz, ite_bPo, xb_bP, iZ_xin, if_pos, ite_self, ↓reduceIte, Int.reduceAdd, Int.reduceSub, Int.reduceMul, Int.reduceNeg, Int.reduceLT, Int.reduceLE, if_neg, nS, iZ_clampN, iZ_bit, iZ_one, iZ_and, iZ_or, iZ_ndn, b6, d1, if_neg d2, m_bits M' (v := i) (by omega), m_bits M' (v := n) (by omega)]
            · rw [if_neg (c := 1 ≤ i ∧ livA A i ∧ i.testBit p = false ∧ ((n : Int) = -1 ∨ bc n < bc i)) (fun z => by have := z.2.2.2; omega)]
              simp (disch := omega) only [xk_none, xk_inl, xk_inr, xk_ite, xri_v, xrl_v, xrv_v, xb_z0, xb_z1, xb_b2, if_true, if_false, ite_true, ite_false, iZ_lit, iZ_m1, iZ_m99, iZ_m8, iZ_add, iZ_sub, iZ_mul, iZ_neg, nz0, nzi, iZ_lt, iZ_le, iZ_inj, b2_z, b2_o, ite_bPz, ite_bPo, xb_bP, iZ_xin, if_pos, ite_self, ↓reduceIte, Int.reduceAdd, Int.reduceSub, Int.reduceMul, Int.reduceNeg, Int.reduceLT, Int.reduceLE, if_neg, nS, iZ_clampN, iZ_bit, iZ_one, iZ_and, iZ_or, iZ_ndn, b6, d1, if_neg d2, m_bits M' (v := i) (by omega), m_bits M' (v := n) (by omega)]
      · rw [if_neg (c := 1 ≤ i ∧ livA A i ∧ i.testBit p = false ∧ (r = -1 ∨ bc r.toNat < bc i)) (fun z => d1 z.2.1)]
        simp (disch := omega) only [xk_none, xk_inl, xk_inr, xk_ite, xri_v, xrl_v, xrv_v, xb_z0, xb_z1, xb_b2, if_true, if_false, ite_true, ite_false, iZ_lit, iZ_m1, iZ_m99, iZ_m8, iZ_add, iZ_sub, iZ_mul, iZ_neg, nz0, nzi, iZ_lt, iZ_le, iZ_inj, b2_z, b2_o, ite_bPz, ite_bPo, xb_bP, iZ_xin, if_pos, ite_self, ↓reduceIte, Int.reduceAdd, Int.reduceSub, Int.reduceMul, Int.reduceNeg, Int.reduceLT, Int.reduceLE, if_neg, nS, iZ_clampN, iZ_bit, iZ_one, iZ_and, iZ_or, iZ_ndn, b6, d1])
    have e0 : misR A p 1 = -1 := by
      unfold misR
      rw [if_neg (fun z => absurd z.1 (by decide))]
      rfl
    rw [e0] at hl
    show xfix gX12_missing (0, [some (.inr (.inr (12, 0))), some (.inl (iZ (p))), none, none], [], M) = _; rw [xfix_unf, sX12_missing_0]
    simp (disch := omega) only [xk_none, xk_inl, xk_inr, xk_ite, xri_v, xrl_v, xrv_v, xb_z0, xb_z1, xb_b2, if_true, if_false, ite_true, ite_false, iZ_lit, iZ_m1, iZ_m99, iZ_m8, iZ_add, iZ_sub, iZ_mul, iZ_neg, nz0, nzi, iZ_lt, iZ_le, iZ_inj, b2_z, b2_o, ite_bPz, ite_bPo, xb_bP, iZ_xin, if_pos, ite_self, ↓reduceIte, Int.reduceAdd, Int.reduceSub, Int.reduceMul, Int.reduceNeg, Int.reduceLT, Int.reduceLE, if_neg, k_isPart h.A hp, e1, a1]
    refine hl.trans ?_
    rw [xfix_unf, sX12_missing_18, m_whole M' a2.A.P]
    simp (disch := omega) only [xk_none, xk_inl, xk_inr, xk_ite, xri_v, xrl_v, xrv_v, xb_z0, xb_z1, xb_b2, if_true, if_false, ite_true, ite_false, iZ_lit, iZ_m1, iZ_m99, iZ_m8, iZ_add, iZ_sub, iZ_mul, iZ_neg, nz0, nzi, iZ_lt, iZ_le, iZ_inj, b2_z, b2_o, ite_bPz, ite_bPo, xb_bP, iZ_xin, if_pos, ite_self, ↓reduceIte, Int.reduceAdd, Int.reduceSub, Int.reduceMul, Int.reduceNeg, Int.reduceLT, Int.reduceLE, if_neg, nS, iZ_clampN, iZ_bit, iZ_one, iZ_and, iZ_or, iZ_ndn]
  · refine qR.of h ?_
    rw [vI_f e1]
    show xfix gX12_missing (0, [some (.inr (.inr (12, 0))), some (.inl (iZ (p))), none, none], [], M) = _; rw [xfix_unf, sX12_missing_0]
    simp (disch := omega) only [xk_none, xk_inl, xk_inr, xk_ite, xri_v, xrl_v, xrv_v, xb_z0, xb_z1, xb_b2, if_true, if_false, ite_true, ite_false, iZ_lit, iZ_m1, iZ_m99, iZ_m8, iZ_add, iZ_sub, iZ_mul, iZ_neg, nz0, nzi, iZ_lt, iZ_le, iZ_inj, b2_z, b2_o, ite_bPz, ite_bPo, xb_bP, iZ_xin, if_pos, ite_self, ↓reduceIte, Int.reduceAdd, Int.reduceSub, Int.reduceMul, Int.reduceNeg, Int.reduceLT, Int.reduceLE, if_neg, k_isPart h.A hp, e1]
noncomputable def sMinutes (A : dA) (a b w : Int) : Int := vI (vF A a b ∧ vW w ∧ gdw A (barS A) a.toNat b.toNat w.toNat) (mnt A a.toNat b.toNat w.toNat)
theorem q_minutes {A : dA} {M : xM} (h : mQ M A) {a b w : Int} (ha : r32 a) (hb : r32 b) (hw : r32 w) : qR M A (fX12_minutes [.inr (.inr (12, 0)), .inl (iZ (a)), .inl (iZ (b)), .inl (iZ (w))] M) (.inl (iZ (sMinutes A a b w))) := by
  have hP := pow9 h.A.ok.P
  obtain ⟨M1, a1, a2, a3⟩ := q_cut h ha hb hw
  unfold sMinutes
  by_cases e : vF A a b ∧ vW w ∧ gdw A (barS A) a.toNat b.toNat w.toNat
  · rw [vI_t e]
    have e0 : sCut A a b w = 1 := by
      unfold sCut
      rw [vI_t ⟨e.1, e.2.1⟩, ind_t e.2.2]
    rw [e0] at a1
    obtain ⟨a, b, rfl, rfl, x1, x2, x3, x4⟩ := e.1
    obtain ⟨w, rfl, h2⟩ := e.2.1.n
    obtain ⟨M2, b1, b2⟩ := m_minutesOf a2.A a2.L x3 (by omega : b < 2 ^ aP A) h2
    have hs : scr M1 M2 := scr.of b2 (by rintro r (e | e) j <;> subst e <;> exact ⟨rfl, rfl⟩)
    refine ⟨M2, ?_, a2.scr hs, a3.tr hs.fB⟩
    show xfix gX12_minutes (0, [some (.inr (.inr (12, 0))), some (.inl (iZ (a))), some (.inl (iZ (b))), some (.inl (iZ (w)))], [], M) = _; rw [xfix_unf, sX12_minutes_0]
    simp (disch := omega) only [xk_none, xk_inl, xk_inr, xk_ite, xri_v, xrl_v, xrv_v, xb_z0, xb_z1, xb_b2, if_true, if_false, ite_true, ite_false, iZ_lit, iZ_m1, iZ_m99, iZ_m8, iZ_add, iZ_sub, iZ_mul, iZ_neg, nz0, nzi, iZ_lt, iZ_le, iZ_inj, b2_z, b2_o, ite_bPz, ite_bPo, xb_bP, iZ_xin, if_pos, ite_self, ↓reduceIte, Int.reduceAdd, Int.reduceSub, Int.reduceMul, Int.reduceNeg, Int.reduceLT, Int.reduceLE, if_neg, a1, b1]
    rfl
  · rw [vI_f e]
    refine ⟨M1, ?_, a2, a3⟩
    have e0 : sCut A a b w ≠ 1 := by
      unfold sCut
      intro z
      by_cases c : vF A a b ∧ vW w
      · rw [vI_t c] at z
        by_cases c2 : gdw A (barS A) a.toNat b.toNat w.toNat
        · exact e ⟨c.1, c.2, c2⟩
        · rw [ind_f c2] at z; omega
      · rw [vI_f c] at z; omega
    have e2 : -1 ≤ sCut A a b w ∧ sCut A a b w ≤ 1 := by
      unfold sCut
      by_cases c : vF A a b ∧ vW w
      · rw [vI_t c]
        have := ind_b (gdw A (barS A) a.toNat b.toNat w.toNat)
        omega
      · rw [vI_f c]; omega
    generalize sCut A a b w = s at *
    show xfix gX12_minutes (0, [some (.inr (.inr (12, 0))), some (.inl (iZ (a))), some (.inl (iZ (b))), some (.inl (iZ (w)))], [], M) = _; rw [xfix_unf, sX12_minutes_0]
    simp (disch := omega) only [xk_none, xk_inl, xk_inr, xk_ite, xri_v, xrl_v, xrv_v, xb_z0, xb_z1, xb_b2, if_true, if_false, ite_true, ite_false, iZ_lit, iZ_m1, iZ_m99, iZ_m8, iZ_add, iZ_sub, iZ_mul, iZ_neg, nz0, nzi, iZ_lt, iZ_le, iZ_inj, b2_z, b2_o, ite_bPz, ite_bPo, xb_bP, iZ_xin, if_pos, ite_self, ↓reduceIte, Int.reduceAdd, Int.reduceSub, Int.reduceMul, Int.reduceNeg, Int.reduceLT, Int.reduceLE, if_neg, a1]
noncomputable def sTime (A : dA) (a what : Int) : Int := vI (vH A a ∧ 0 ≤ what ∧ what ≤ 1) (if what = 0 then (timA A a.toNat).1 else (timA A a.toNat).2)
theorem q_time {A : dA} {M : xM} (h : mQ M A) {a what : Int} (ha : r32 a) (hw : r32 what) : qR M A (fX12_time [.inr (.inr (12, 0)), .inl (iZ (a)), .inl (iZ (what))] M) (.inl (iZ (sTime A a what))) := by
  have hP := pow9 h.A.ok.P
  unfold sTime
  by_cases e1 : vH A a
  · by_cases e2 : 0 ≤ what ∧ what ≤ 1
    · obtain ⟨M', a1, a2, a3, a4, a5⟩ := h.kn
      rw [vI_t ⟨e1, e2⟩]
      obtain ⟨a, rfl, h1, h2⟩ := e1.n
      have en : ((a : Int)).toNat = a := by omega
      rw [en]
      obtain ⟨N, b1, b2, b3, b4, b5⟩ : ∃ N, xfix gX12_time (25, [some (.inr (.inr (12, 0))), some (.inl (iZ (a))), some (.inl (iZ (what))), some (.inl (iZ ((1 : Int))))], [], M') = xfix gX12_time (51, [some (.inr (.inr (12, 0))), some (.inl (iZ (a))), some (.inl (iZ (what))), none], [], N) ∧ fB M' N ∧ mKn N A ∧ mTm N A ∧ xI N (12, 0) 31 = iZ 1 := by
        rcases a2.2.2.2.2.2 with f | ⟨f, g⟩
        · obtain ⟨N, c1, c2, c3⟩ := xfor_M (sg := gX12_time) (st := fun k M => (25, [some (.inr (.inr (12, 0))), some (.inl (iZ (a))), some (.inl (iZ (what))), some (.inl (iZ (k)))], [], M)) (I := fun k N => 1 ≤ k ∧ xSame uR M' N ∧ ∀ j, 1 ≤ j → j < k → xI N (180, 0) j = iZ (timA A j).1 ∧ xI N (181, 0) j = iZ (timA A j).2) (n := 2 ^ aP A) (fun k N hk hN => by
            obtain ⟨k1, n1, n2⟩ := hN
            have hNA := a2.A.fr n1 (by decide)
            obtain ⟨N', g1, g2⟩ := m_times hNA (a4.1.fr n1 (by decide)) (a2.L.ur n1) k1 hk (T := timT A k) (fun j j1 j2 => timT_b k j j1 j2 (by omega)) (fun j j1 j2 => by rw [timA_st j2]; exact n2 j j1 j2)
            rw [← timA_eq] at g2
            refine ⟨N', ?_, by omega, n1.tr g2.S, fun j j1 j2 => ?_⟩
            · have f' : xI N (12, 0) 82 = iZ 0 := by rw [(n1 (12, 0) (by decide)).1]; exact f
              rw [nS, xfix_unf, sX12_time_25, m_whole N hNA.P]
              simp (disch := omega) only [xk_none, xk_inl, xk_inr, xk_ite, xri_v, xrl_v, xrv_v, xb_z0, xb_z1, xb_b2, if_true, if_false, ite_true, ite_false, iZ_lit, iZ_m1, iZ_m99, iZ_m8, iZ_add, iZ_sub, iZ_mul, iZ_neg, nz0, nzi, iZ_lt, iZ_le, iZ_inj, b2_z, b2_o, ite_bPz, ite_bPo, xb_bP, iZ_xin, if_pos, ite_self, ↓reduceIte, Int.reduceAdd, Int.reduceSub, Int.reduceMul, Int.reduceNeg, Int.reduceLT, Int.reduceLE, if_neg, nS, iZ_clampN, iZ_bit, iZ_one, iZ_and, iZ_or, iZ_ndn, f', g1]
            · by_cases e : j = k
              · subst e; exact g2.2
              · rw [(g2.1 (180, 0) j (fun z => by rcases z with z | z; revert z; decide; omega)).1, (g2.1 (181, 0) j (fun z => by rcases z with z | z; revert z; decide; omega)).1]
                exact n2 j j1 (by omega)) (a := 1) (M := M') hP.1 ⟨by omega, xSame.rf, fun j j1 j2 => by omega⟩
          obtain ⟨c3, c4, c5⟩ := (⟨c2, c3.1, c3.2⟩ : _ ∧ _ ∧ _)
          have hNA := a2.A.fr c4 (by decide)
          refine ⟨N, c1.trans ?_, fB.of c4.sm (by rintro r j (e | e | e | e) <;> subst e <;> rfl), ?_, c5, by rw [(c4 (12, 0) (by decide)).1]; exact a5⟩
          · rw [xfix_unf, sX12_time_25, m_whole N hNA.P]
            simp (disch := omega) only [xk_none, xk_inl, xk_inr, xk_ite, xri_v, xrl_v, xrv_v, xb_z0, xb_z1, xb_b2, if_true, if_false, ite_true, ite_false, iZ_lit, iZ_m1, iZ_m99, iZ_m8, iZ_add, iZ_sub, iZ_mul, iZ_neg, nz0, nzi, iZ_lt, iZ_le, iZ_inj, b2_z, b2_o, ite_bPz, ite_bPo, xb_bP, iZ_xin, if_pos, ite_self, ↓reduceIte, Int.reduceAdd, Int.reduceSub, Int.reduceMul, Int.reduceNeg, Int.reduceLT, Int.reduceLE, if_neg, nS, iZ_clampN, iZ_bit, iZ_one, iZ_and, iZ_or, iZ_ndn]
          · obtain ⟨⟨q1, q2⟩, ⟨q3, q4⟩, q5, q6⟩ := a4
            refine ⟨⟨fun k hk => ?_, q2⟩, ⟨fun k hk => ?_, q4⟩, fun k h1 h2 => ?_, fun k hk => ?_⟩
            · rw [(c4 (132, 0) (by decide)).1]; exact q1 k hk
            · rw [(c4 (160, 0) (by decide)).1]; exact q3 k hk
            · rw [(c4 (134, 0) (by decide)).2, (c4 (135, 0) (by decide)).1, (c4 (136, 0) (by decide)).1, (c4 (137, 0) (by decide)).1, (c4 (138, 0) (by decide)).1]; exact q5 k h1 h2
            · rw [(c4 (140, 0) (by decide)).1, (c4 (141, 0) (by decide)).1]; exact q6 k hk
        · refine ⟨M', ?_, fB.rf, a4, g a5, a5⟩
          rw [xfix_unf, sX12_time_25, m_whole M' a2.A.P]
          simp (disch := omega) only [xk_none, xk_inl, xk_inr, xk_ite, xri_v, xrl_v, xrv_v, xb_z0, xb_z1, xb_b2, if_true, if_false, ite_true, ite_false, iZ_lit, iZ_m1, iZ_m99, iZ_m8, iZ_add, iZ_sub, iZ_mul, iZ_neg, nz0, nzi, iZ_lt, iZ_le, iZ_inj, b2_z, b2_o, ite_bPz, ite_bPo, xb_bP, iZ_xin, if_pos, ite_self, ↓reduceIte, Int.reduceAdd, Int.reduceSub, Int.reduceMul, Int.reduceNeg, Int.reduceLT, Int.reduceLE, if_neg, f]
      have hs : fB M' (xpI N (12, 0) 82 (iZ 1)) := xSm.pI b2 (by decide)
      have hkn : mKn (xpI N (12, 0) 82 (iZ 1)) A := by
        obtain ⟨⟨q1, q2⟩, ⟨q3, q4⟩, q5, q6⟩ := b3
        refine ⟨⟨fun k hk => ?_, q2⟩, ⟨fun k hk => ?_, q4⟩, fun k h1 h2 => ?_, fun k hk => ?_⟩
        · rw [xI_pI_ne (by decide)]; exact q1 k hk
        · rw [xI_pI_ne (by decide)]; exact q3 k hk
        · rw [xL_pI, xI_pI_ne (by decide), xI_pI_ne (by decide), xI_pI_ne (by decide), xI_pI_ne (by decide)]; exact q5 k h1 h2
        · rw [xI_pI_ne (by decide), xI_pI_ne (by decide)]; exact q6 k hk
      have htm : mTm (xpI N (12, 0) 82 (iZ 1)) A := fun k k1 k2 => by
        rw [xI_pI_ne (by decide), xI_pI_ne (by decide)]; exact b4 k k1 k2
      refine ⟨xpI N (12, 0) 82 (iZ 1), ?_, ⟨a2.A.ro hs, a2.W.ro hs, a2.H.ro hs, a2.L.ro hs, ?_, .inr ⟨by rw [xI_pI, if_pos ⟨rfl, rfl⟩], fun _ => htm⟩⟩, a3.tr hs⟩
      · show xfix gX12_time (0, [some (.inr (.inr (12, 0))), some (.inl (iZ (a))), some (.inl (iZ (what))), none], [], M) = _; rw [xfix_unf, sX12_time_0]
        simp (disch := omega) only [xk_none, xk_inl, xk_inr, xk_ite, xri_v, xrl_v, xrv_v, xb_z0, xb_z1, xb_b2, if_true, if_false, ite_true, ite_false, iZ_lit, iZ_m1, iZ_m99, iZ_m8, iZ_add, iZ_sub, iZ_mul, iZ_neg, nz0, nzi, iZ_lt, iZ_le, iZ_inj, b2_z, b2_o, ite_bPz, ite_bPo, xb_bP, iZ_xin, if_pos, ite_self, ↓reduceIte, Int.reduceAdd, Int.reduceSub, Int.reduceMul, Int.reduceNeg, Int.reduceLT, Int.reduceLE, if_neg, k_isHeap h.A ha, e1, k_isIn, e2, a1, and_self]
        refine b1.trans ?_
        obtain ⟨f1, f2⟩ := htm a h1 h2
        rw [xfix_unf, sX12_time_51]
        simp (disch := omega) only [xk_none, xk_inl, xk_inr, xk_ite, xri_v, xrl_v, xrv_v, xb_z0, xb_z1, xb_b2, if_true, if_false, ite_true, ite_false, iZ_lit, iZ_m1, iZ_m99, iZ_m8, iZ_add, iZ_sub, iZ_mul, iZ_neg, nz0, nzi, iZ_lt, iZ_le, iZ_inj, b2_z, b2_o, ite_bPz, ite_bPo, xb_bP, iZ_xin, if_pos, ite_self, ↓reduceIte, Int.reduceAdd, Int.reduceSub, Int.reduceMul, Int.reduceNeg, Int.reduceLT, Int.reduceLE, if_neg, iZ_clampN, f1, f2]
        by_cases d : what = 0
        · rw [if_pos d, if_pos d]
        · rw [if_neg d, if_neg d]
      · exact .inr ⟨by rw [xI_pI, if_neg (by decide)]; exact b5, hkn⟩
    · refine qR.of h ?_
      rw [vI_f (fun z => e2 z.2)]
      show xfix gX12_time (0, [some (.inr (.inr (12, 0))), some (.inl (iZ (a))), some (.inl (iZ (what))), none], [], M) = _; rw [xfix_unf, sX12_time_0]
      simp (disch := omega) only [xk_none, xk_inl, xk_inr, xk_ite, xri_v, xrl_v, xrv_v, xb_z0, xb_z1, xb_b2, if_true, if_false, ite_true, ite_false, iZ_lit, iZ_m1, iZ_m99, iZ_m8, iZ_add, iZ_sub, iZ_mul, iZ_neg, nz0, nzi, iZ_lt, iZ_le, iZ_inj, b2_z, b2_o, ite_bPz, ite_bPo, xb_bP, iZ_xin, if_pos, ite_self, ↓reduceIte, Int.reduceAdd, Int.reduceSub, Int.reduceMul, Int.reduceNeg, Int.reduceLT, Int.reduceLE, if_neg, k_isHeap h.A ha, e1, k_isIn, e2]
  · refine qR.of h ?_
    rw [vI_f (fun z => e1 z.1)]
    show xfix gX12_time (0, [some (.inr (.inr (12, 0))), some (.inl (iZ (a))), some (.inl (iZ (what))), none], [], M) = _; rw [xfix_unf, sX12_time_0]
    simp (disch := omega) only [xk_none, xk_inl, xk_inr, xk_ite, xri_v, xrl_v, xrv_v, xb_z0, xb_z1, xb_b2, if_true, if_false, ite_true, ite_false, iZ_lit, iZ_m1, iZ_m99, iZ_m8, iZ_add, iZ_sub, iZ_mul, iZ_neg, nz0, nzi, iZ_lt, iZ_le, iZ_inj, b2_z, b2_o, ite_bPz, ite_bPo, xb_bP, iZ_xin, if_pos, ite_self, ↓reduceIte, Int.reduceAdd, Int.reduceSub, Int.reduceMul, Int.reduceNeg, Int.reduceLT, Int.reduceLE, if_neg, k_isHeap h.A ha, e1]
noncomputable def sCell (A : dA) (x y z : Int) : Int := aat A x y z
theorem q_cell {A : dA} {M : xM} (h : mQ M A) {x y z : Int} (hx : r32 x) (hy : r32 y) (hz : r32 z) : qR M A (fX12_cell [.inr (.inr (12, 0)), .inl (iZ (x)), .inl (iZ (y)), .inl (iZ (z))] M) (.inl (iZ (sCell A x y z))) := by
  refine qR.of h ?_
  show xfix gX12_cell (0, [some (.inr (.inr (12, 0))), some (.inl (iZ (x))), some (.inl (iZ (y))), some (.inl (iZ (z)))], [], M) = _; rw [xfix_unf, sX12_cell_0]
  simp (disch := omega) only [xk_none, xk_inl, xk_inr, xk_ite, xri_v, xrl_v, xrv_v, xb_z0, xb_z1, xb_b2, if_true, if_false, ite_true, ite_false, iZ_lit, iZ_m1, iZ_m99, iZ_m8, iZ_add, iZ_sub, iZ_mul, iZ_neg, nz0, nzi, iZ_lt, iZ_le, iZ_inj, b2_z, b2_o, ite_bPz, ite_bPo, xb_bP, iZ_xin, if_pos, ite_self, ↓reduceIte, Int.reduceAdd, Int.reduceSub, Int.reduceMul, Int.reduceNeg, Int.reduceLT, Int.reduceLE, if_neg, m_at x y z M h.A hx hy hz]
  rfl
