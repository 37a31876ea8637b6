/-! the reference: reading a thing -/
abbrev numF (r : xR) (j : Nat) : Prop := nxF r j ∨ (r = (12, 0) ∧ (j = 23 ∨ j = 24)) ∨ r = (117, 0)
theorem numF_rd {M M' : xM} (h : xSm numF M M') : xSm rdF M M' := h.wk fun r j z => by
  rcases z with z | z | z
  · exact .inl ⟨z.1, by omega⟩
  · exact .inl ⟨z.1, by omega⟩
  · subst z; simp [rdF]
theorem pM.num {M M' : xM} {N : Nat} {T : Nat → Nat} {s : pS} {st' : Nat} (h : pM M N T s) (hs : xSm numF M M') (hk : rK M' False N T st') : pM M' N T (st', s.2) := by
  obtain ⟨a, ⟨b1, b2, b3⟩, c, d, e⟩ := h
  refine ⟨hk, ⟨?_, ?_, ?_⟩, fun q hq => ⟨?_, ?_⟩, fun j hj => ⟨?_, ?_, ?_, ?_⟩, fun x hx => ?_⟩
  · rw [(hs (12, 0) 26 (by decide)).1]; exact b1
  · rw [(hs (12, 0) 27 (by decide)).1]; exact b2
  · rw [(hs (12, 0) 28 (by decide)).1]; exact b3
  · rw [(hs (111, 0) q (by simp)).1]; exact (c q hq).1
  · rw [(hs (112, 0) q (by simp)).1]; exact (c q hq).2
  · rw [(hs (113, 0) j (by simp)).1]; exact (d j hj).1
  · rw [(hs (114, 0) j (by simp)).1]; exact (d j hj).2.1
  · rw [(hs (115, 0) j (by simp)).1]; exact (d j hj).2.2.1
  · rw [(hs (116, 0) j (by simp)).1]; exact (d j hj).2.2.2
  · rw [(hs (101, 0) x (by simp)).1]; exact e x hx
/-- numbers as they were read -/
def bxB (b : Nat → Int) (k : Nat) : Prop := (∀ j, j < k → j < 3 → 0 ≤ b j ∧ b j ≤ 7) ∧ ∀ j, j < k → 3 ≤ j → 1 ≤ b j ∧ b j ≤ 8 - b (j - 3)
theorem rd_box {N : Nat} {T : Nat → Nat} {p at' : Nat} : ∀ (n k : Nat) (b : Nat → Int) (st : Nat) (M : xM), k + n = 6 → rK M False N T st → (∀ j, j < k → xI M (117, 0) j = iZ (b j)) → bxB b k → ∃ M', xSm numF M M' ∧ ((∃ f, rdB N T 6 n k b st = .inl f ∧ xfix gX12_aBox (if k < 3 then (50, [some (.inr (.inr (12, 0))), some (.inl (iZ (p))), some (.inl (iZ (at'))), some (.inl (iZ (k))), none, none, none], [], M) else (76, [some (.inr (.inr (12, 0))), some (.inl (iZ (p))), some (.inl (iZ (at'))), some (.inl (iZ (k))), none, none, none], [], M)) = some (some (.inl (iZ (0))), M') ∧ rFl M' f) ∨ ∃ b' st', rdB N T 6 n k b st = .inr (b', st') ∧ xfix gX12_aBox (if k < 3 then (50, [some (.inr (.inr (12, 0))), some (.inl (iZ (p))), some (.inl (iZ (at'))), some (.inl (iZ (k))), none, none, none], [], M) else (76, [some (.inr (.inr (12, 0))), some (.inl (iZ (p))), some (.inl (iZ (at'))), some (.inl (iZ (k))), none, none, none], [], M)) = xfix gX12_aBox (117, [some (.inr (.inr (12, 0))), some (.inl (iZ (p))), some (.inl (iZ (at'))), some (.inl (iZ ((b' 2)))), none, none, none], [], M') ∧ rK M' False N T st' ∧ (∀ j, j < 6 → xI M' (117, 0) j = iZ (b' j)) ∧ bxB b' 6) := by
  intro n
  induction n with
  | zero =>
    intro k b st M hk hK hb hB
    have e : k = 6 := by omega
    subst e
    refine ⟨M, xSm.rf, .inr ⟨b, st, rfl, ?_, hK, hb, hB⟩⟩
    rw [if_neg (by omega)]
    have f2 := hb 2 (by omega)
    rw [xfix_unf, sX12_aBox_76]
    simp (disch := omega) only [xk_none, xk_inl, xk_inr, xk_ite, xri_v, xrl_v, xrv_v, xb_z0, xb_z1, xb_b2, if_true, if_false, ite_true, ite_false, iZ_lit, iZ_m1, iZ_m99, iZ_m8, iZ_add, iZ_sub, iZ_mul, iZ_neg, nz0, nzi, iZ_lt, iZ_le, iZ_inj, b2_z, b2_o, ite_bPz, ite_bPo, xb_bP, iZ_xin, if_pos, ite_self, ↓reduceIte, Int.reduceAdd, Int.reduceSub, Int.reduceMul, Int.reduceNeg, Int.reduceLT, Int.reduceLE, if_neg, cl_2, f2]
  | succ n ih =>
    intro k b st M hk hK hb hB
    have hlo : -100 ≤ bLo k ∧ bLo k ≤ 100 := by unfold bLo; split <;> omega
    have hhi : -100 ≤ bHi k b ∧ bHi k b ≤ 100 := by
      unfold bHi
      split
      · omega
      · have := hB.1 (k - 3) (by omega) (by omega); omega
    obtain ⟨M1, x0, x1, x2⟩ := m_number (k := k) (lo := bLo k) (hi := bHi k b) hK (by omega) hlo hhi
    have xs : xSm numF M M1 := x1.wk fun r j z => z.imp id fun z => z.imp id fun z => z.1
    have hif : (if k < 6 then bHi k b else 7) = bHi k b := if_pos (by omega)
    have ecl : ¬ k < 3 → Int32.toNatClampNeg (iZ ((k : Int) - 3)) = k - 3 := fun z => by rw [iZ_clamp (by omega)]; omega
    have stp : ∀ (v : Int) (c : Prop), fX12_number [.inr (.inr (12, 0)), .inl (iZ (k)), .inl (iZ ((bLo k))), .inl (iZ ((bHi k b)))] M = some (some (.inl (iZ (v))), M1) → (v = 0 ∨ v = 1) → xfix gX12_aBox (if k < 3 then (50, [some (.inr (.inr (12, 0))), some (.inl (iZ (p))), some (.inl (iZ (at'))), some (.inl (iZ (k))), none, none, none], [], M) else (76, [some (.inr (.inr (12, 0))), some (.inl (iZ (p))), some (.inl (iZ (at'))), some (.inl (iZ (k))), none, none, none], [], M)) = if v = 0 then some (some (.inl (iZ (0))), M1) else xfix gX12_aBox (if k + 1 < 3 then (50, [some (.inr (.inr (12, 0))), some (.inl (iZ (p))), some (.inl (iZ (at'))), some (.inl (iZ (((k + 1 : Nat))))), none, none, none], [], M1) else (76, [some (.inr (.inr (12, 0))), some (.inl (iZ (p))), some (.inl (iZ (at'))), some (.inl (iZ (((k + 1 : Nat))))), none, none, none], [], M1)) := fun v c hv hv2 => by
      by_cases c3 : k < 3
      · rw [if_pos c3]
        have e1 : bLo k = 0 := by unfold bLo; rw [if_pos c3]
        have e2 : bHi k b = 7 := by unfold bHi; rw [if_pos c3]
        rw [e1, e2] at hv
        by_cases c4 : k + 1 < 3
        · rw [if_pos c4]
          rw [xfix_unf, sX12_aBox_50]
          simp (disch := omega) only [xk_none, xk_inl, xk_inr, xk_ite, xri_v, xrl_v, xrv_v, xb_z0, xb_z1, xb_b2, if_true, if_false, ite_true, ite_false, iZ_lit, iZ_m1, iZ_m99, iZ_m8, iZ_add, iZ_sub, iZ_mul, iZ_neg, nz0, nzi, iZ_lt, iZ_le, iZ_inj, b2_z, b2_o, ite_bPz, ite_bPo, xb_bP, iZ_xin, if_pos, ite_self, ↓reduceIte, Int.reduceAdd, Int.reduceSub, Int.reduceMul, Int.reduceNeg, Int.reduceLT, Int.reduceLE, if_neg, nS, iZ_clampN, iZ_bit, iZ_one, iZ_and, iZ_or, iZ_ndn, hv]
        · rw [if_neg c4]
          have e50 : xfix gX12_aBox (50, [some (.inr (.inr (12, 0))), some (.inl (iZ (p))), some (.inl (iZ (at'))), some (.inl (iZ (((k : Int) + 1)))), none, none, none], [], M1) = xfix gX12_aBox (76, [some (.inr (.inr (12, 0))), some (.inl (iZ (p))), some (.inl (iZ (at'))), some (.inl (iZ (((k : Int) + 1)))), none, none, none], [], M1) := by
            have ek : (k : Int) + 1 = 3 := by omega
            rw [ek]
            rw [xfix_unf, sX12_aBox_50]
            simp (disch := omega) only [xk_none, xk_inl, xk_inr, xk_ite, xri_v, xrl_v, xrv_v, xb_z0, xb_z1, xb_b2, if_true, if_false, ite_true, ite_false, iZ_lit, iZ_m1, iZ_m99, iZ_m8, iZ_add, iZ_sub, iZ_mul, iZ_neg, nz0, nzi, iZ_lt, iZ_le, iZ_inj, b2_z, b2_o, ite_bPz, ite_bPo, xb_bP, iZ_xin, if_pos, ite_self, ↓reduceIte, Int.reduceAdd, Int.reduceSub, Int.reduceMul, Int.reduceNeg, Int.reduceLT, Int.reduceLE, if_neg]
          rw [nS, ← e50]
          rw [xfix_unf, sX12_aBox_50]
          simp (disch := omega) only [xk_none, xk_inl, xk_inr, xk_ite, xri_v, xrl_v, xrv_v, xb_z0, xb_z1, xb_b2, if_true, if_false, ite_true, ite_false, iZ_lit, iZ_m1, iZ_m99, iZ_m8, iZ_add, iZ_sub, iZ_mul, iZ_neg, nz0, nzi, iZ_lt, iZ_le, iZ_inj, b2_z, b2_o, ite_bPz, ite_bPo, xb_bP, iZ_xin, if_pos, ite_self, ↓reduceIte, Int.reduceAdd, Int.reduceSub, Int.reduceMul, Int.reduceNeg, Int.reduceLT, Int.reduceLE, if_neg, nS, iZ_clampN, iZ_bit, iZ_one, iZ_and, iZ_or, iZ_ndn, hv]
      · rw [if_neg c3, if_neg (show ¬ k + 1 < 3 by omega)]
        have e1 : bLo k = 1 := by unfold bLo; rw [if_neg c3]
        have e2 : bHi k b = 8 - b (k - 3) := by unfold bHi; rw [if_neg c3]
        rw [e1, e2] at hv
        have f := hb (k - 3) (by omega)
        have hbb := hB.1 (k - 3) (by omega) (by omega)
        rw [xfix_unf, sX12_aBox_76]
        simp (disch := omega) only [xk_none, xk_inl, xk_inr, xk_ite, xri_v, xrl_v, xrv_v, xb_z0, xb_z1, xb_b2, if_true, if_false, ite_true, ite_false, iZ_lit, iZ_m1, iZ_m99, iZ_m8, iZ_add, iZ_sub, iZ_mul, iZ_neg, nz0, nzi, iZ_lt, iZ_le, iZ_inj, b2_z, b2_o, ite_bPz, ite_bPo, xb_bP, iZ_xin, if_pos, ite_self, ↓reduceIte, Int.reduceAdd, Int.reduceSub, Int.reduceMul, Int.reduceNeg, Int.reduceLT, Int.reduceLE, if_neg, nS, iZ_clampN, iZ_bit, iZ_one, iZ_and, iZ_or, iZ_ndn, ecl c3, f, hv]
    unfold rdB
    rw [hif]
    rcases x2 with ⟨f, y1, y2, y3⟩ | ⟨v, st', y1, y2, y3, y4, y5⟩
    · refine ⟨M1, xs, .inl ⟨f, by rw [y1], ?_, y3⟩⟩
      rw [stp 0 True y2 (.inl rfl), if_pos rfl]
    · have hb2 : ∀ j, j < k + 1 → xI M1 (117, 0) j = iZ (if j = k then v else b j) := fun j hj => by
        by_cases e : j = k
        · rw [if_pos e, e]; exact y4
        · rw [if_neg e, (x1 (117, 0) j (by simp [e])).1]; exact hb j (by omega)
      have hB2 : bxB (fun j => if j = k then v else b j) (k + 1) := by
        refine ⟨fun j hj hj3 => ?_, fun j hj hj3 => ?_⟩
        · show 0 ≤ (if j = k then v else b j) ∧ (if j = k then v else b j) ≤ 7
          by_cases e : j = k
          · rw [if_pos e]
            unfold bLo bHi at y5
            rw [if_pos (by omega), if_pos (by omega)] at y5
            exact y5
          · rw [if_neg e]; exact hB.1 j (by omega) hj3
        · show 1 ≤ (if j = k then v else b j) ∧ (if j = k then v else b j) ≤ 8 - (if j - 3 = k then v else b (j - 3))
          rw [if_neg (by omega : ¬ j - 3 = k)]
          by_cases e : j = k
          · rw [if_pos e, e]
            unfold bLo bHi at y5
            rw [if_neg (by omega), if_neg (by omega)] at y5
            exact y5
          · rw [if_neg e]; exact hB.2 j (by omega) hj3
      obtain ⟨M2, z0, z1⟩ := ih (k + 1) (fun j => if j = k then v else b j) st' M1 (by omega) y3 hb2 hB2
      rw [y1]
      have top := stp 1 True y2 (.inr rfl)
      rw [if_neg (show ¬ (1 : Int) = 0 by decide)] at top
      rcases z1 with ⟨f, w1, w2, w3⟩ | ⟨b', st2, w1, w2, w3⟩
      · exact ⟨M2, xs.tr z0, .inl ⟨f, w1, top.trans w2, w3⟩⟩
      · exact ⟨M2, xs.tr z0, .inr ⟨b', st2, w1, top.trans w2, w3⟩⟩
/-- how a reading ends -/
def rRes (F : xR → Nat → Prop) (Q : pS → Prop) (M : xM) (N : Nat) (T : Nat → Nat) (o : Option (Option xV × xM)) (r : pR pS) : Prop := ∃ M', xSm F M M' ∧ ((∃ f, r = .inl f ∧ o = some (some (.inl (iZ (0))), M') ∧ rFl M' f) ∨ ∃ s', r = .inr s' ∧ o = some (some (.inl (iZ (1))), M') ∧ pM M' N T s' ∧ Q s')
abbrev bxF (r : xR) (j : Nat) : Prop := numF r j ∨ r = (101, 0) ∨ (r = (12, 0) ∧ j = 28)
theorem bxF_rd {M M' : xM} (h : xSm bxF M M') : xSm rdF M M' := h.wk fun r j z => by
  rcases z with z | z | z
  · rcases z with z | z | z
    · exact .inl ⟨z.1, by omega⟩
    · exact .inl ⟨z.1, by omega⟩
    · subst z; simp [rdF]
  · subst z; simp [rdF]
  · exact .inl ⟨z.1, by omega⟩
theorem m_badN {M : xM} {k : Int} {st : Nat} (f : xI M (12, 0) 21 = iZ st) : ∃ M', fX12_bad [.inr (.inr (12, 0)), .inl (iZ (k))] M = some (some (.inl (iZ (0))), M') ∧ xSm numF M M' ∧ rFl M' (k, st) := by
  refine ⟨xpI (xpI M (12, 0) 23 (iZ k)) (12, 0) 24 (iZ st), ?_, (xSm.rf.pI (.inr (.inl ⟨rfl, by omega⟩))).pI (.inr (.inl ⟨rfl, by omega⟩)), by rw [pF_ne (by decide), pF_eq], pF_eq⟩
  show xfix gX12_bad (0, [some (.inr (.inr (12, 0))), some (.inl (iZ (k)))], [], M) = _; rw [xfix_unf, sX12_bad_0]
  simp (disch := omega) only [xk_none, xk_inl, xk_inr, xk_ite, xri_v, xrl_v, xrv_v, xb_z0, xb_z1, xb_b2, if_true, if_false, ite_true, ite_false, iZ_lit, iZ_m1, iZ_m99, iZ_m8, iZ_add, iZ_sub, iZ_mul, iZ_neg, nz0, nzi, iZ_lt, iZ_le, iZ_inj, b2_z, b2_o, ite_bPz, ite_bPo, xb_bP, iZ_xin, if_pos, ite_self, ↓reduceIte, Int.reduceAdd, Int.reduceSub, Int.reduceMul, Int.reduceNeg, Int.reduceLT, Int.reduceLE, if_neg, f, m_badAt]
/-- what a box adds -/
def bxQ (s s' : pS) : Prop := s'.2.1 = s.2.1 ∧ s'.2.2.1 = s.2.2.1 ∧ (pX s' = pX s + 1 ∧ pX s' ≤ 24) ∧ (∀ c, c < 512 → -1 ≤ pC s' c ∧ pC s' c ≤ pP s) ∧ (∃ c, c < 512 ∧ pC s' c = pP s) ∧ ∀ p : Nat, p < pP s → (∃ c, c < 512 ∧ pC s c = p) → ∃ c, c < 512 ∧ pC s' c = p
theorem m_aBox {M : xM} {N : Nat} {T : Nat → Nat} {s : pS} (h : pM M N T s) (hP : pP s < 9) (hX : pX s ≤ 24) (hC' : ∀ c, c < 512 → -1 ≤ pC s c ∧ pC s c ≤ pP s) : rRes bxF (bxQ s) M N T (fX12_aBox [.inr (.inr (12, 0)), .inl (iZ ((pP s)))] M) (pBox N T s) := by
  have hC : ∀ c, c < 512 → -1 ≤ pC s c ∧ pC s c < 9 := fun c hc => by have := hC' c hc; omega
  obtain ⟨⟨k1, k2, k3, d1, d2, d3, d4⟩, ⟨b1, b2, b3⟩, hc, hd, he⟩ := h
  have hb := tk_b False N T (pSt s)
  unfold pBox
  by_cases c1 : tk False N T (pSt s) = 5
  · rw [if_neg (fun z => z c1)]
    by_cases c2 : pX s = 24
    · rw [if_pos c2]
      obtain ⟨M', x1, x2, x3⟩ := m_badN (k := 3) d1
      refine ⟨M', x2.wk fun r j z => .inl z, .inl ⟨_, rfl, ?_, x3⟩⟩
      show xfix gX12_aBox (0, [some (.inr (.inr (12, 0))), some (.inl (iZ ((pP s)))), none, none, none, none, none], [], M) = _; rw [xfix_unf, sX12_aBox_0]
      simp (disch := omega) only [xk_none, xk_inl, xk_inr, xk_ite, xri_v, xrl_v, xrv_v, xb_z0, xb_z1, xb_b2, if_true, if_false, ite_true, ite_false, iZ_lit, iZ_m1, iZ_m99, iZ_m8, iZ_add, iZ_sub, iZ_mul, iZ_neg, nz0, nzi, iZ_lt, iZ_le, iZ_inj, b2_z, b2_o, ite_bPz, ite_bPo, xb_bP, iZ_xin, if_pos, ite_self, ↓reduceIte, Int.reduceAdd, Int.reduceSub, Int.reduceMul, Int.reduceNeg, Int.reduceLT, Int.reduceLE, if_neg, d3, c1, b3, c2, x1]
    · rw [if_neg c2]
      have s0 : xSm bxF M (xpI M (12, 0) 28 (iZ ((pX s : Int) + 1))) := xSm.rf.pI (.inr (.inr ⟨rfl, rfl⟩))
      have hK0 : rK (xpI M (12, 0) 28 (iZ ((pX s : Int) + 1))) False N T (pSt s) := rK.sm (P := fun r j => r = (12, 0) ∧ j = 28) ⟨k1, k2, k3, d1, d2, d3, d4⟩ (xSm.rf.pI ⟨rfl, rfl⟩) (fun j hj z => by omega) (fun j => by simp)
      obtain ⟨M1, x1, x2, x3⟩ := hK0.nx
      obtain ⟨M2, y0, y1⟩ := rd_box (p := pP s) (at' := pSt s) 6 0 (fun _ => 0) (adv N T (pSt s)) M1 rfl x3 (fun j hj => by omega) ⟨fun j hj => by omega, fun j hj => by omega⟩
      have top : fX12_aBox [.inr (.inr (12, 0)), .inl (iZ ((pP s)))] M = xfix gX12_aBox (50, [some (.inr (.inr (12, 0))), some (.inl (iZ ((pP s)))), some (.inl (iZ ((pSt s)))), some (.inl (iZ (((0 : Nat))))), none, none, none], [], M1) := by
        show xfix gX12_aBox (0, [some (.inr (.inr (12, 0))), some (.inl (iZ ((pP s)))), none, none, none, none, none], [], M) = _; rw [xfix_unf, sX12_aBox_0]
        simp (disch := omega) only [xk_none, xk_inl, xk_inr, xk_ite, xri_v, xrl_v, xrv_v, xb_z0, xb_z1, xb_b2, if_true, if_false, ite_true, ite_false, iZ_lit, iZ_m1, iZ_m99, iZ_m8, iZ_add, iZ_sub, iZ_mul, iZ_neg, nz0, nzi, iZ_lt, iZ_le, iZ_inj, b2_z, b2_o, ite_bPz, ite_bPo, xb_bP, iZ_xin, if_pos, ite_self, ↓reduceIte, Int.reduceAdd, Int.reduceSub, Int.reduceMul, Int.reduceNeg, Int.reduceLT, Int.reduceLE, if_neg, d3, c1, b3, x1, d1]
        rfl
      have s1 : xSm bxF M M1 := s0.tr (x2.wk fun r j z => .inl (.inl z))
      have s2 : xSm bxF M M2 := s1.tr (y0.wk fun r j z => .inl z)
      rw [if_pos (by omega)] at y1
      rcases y1 with ⟨f, z1, z2, z3⟩ | ⟨b', st', z1, z2, z3, z4, z5⟩
      · rw [z1]
        exact ⟨M2, s2, .inl ⟨f, rfl, top.trans z2, z3⟩⟩
      · rw [z1]
        have f101 : ∀ c, c < 512 → xI M2 (101, 0) c = iZ (pC s c) := fun c hc => by rw [(y0 (101, 0) c (by simp)).1, (x2 (101, 0) c (by simp)).1, xI_pI_ne (by decide)]; exact he c hc
        obtain ⟨M3, w0, w1⟩ := bx_fill (at' := pSt s) (p := pP s) (C := pC s) hP hC f101 z4 (fun k hk => z5.1 k (by omega) hk) (fun k hk => by
          have := z5.2 (k + 3) (by omega) (by omega)
          rw [show k + 3 - 3 = k by omega] at this
          exact this)
        have s3 : xSm bxF M M3 := s2.tr (w0.wk fun r j z => by
          rcases z with z | z
          · exact .inr (.inl z)
          · exact .inl (.inr (.inl z)))
        rcases w1 with ⟨v1, v2, v3⟩ | ⟨v1, v2, v3, v4⟩
        · show rRes bxF (bxQ s) M N T _ (@ite _ (cfl b' (pP s) (pC s)) (Classical.propDecidable _) _ _)
          rw [if_pos v1]
          exact ⟨M3, s3, .inl ⟨_, rfl, (top.trans z2).trans v2, v3⟩⟩
        · show rRes bxF (bxQ s) M N T _ (@ite _ (cfl b' (pP s) (pC s)) (Classical.propDecidable _) _ _)
          rw [if_neg v1]
          have q : bxQ s (st', s.2.1, s.2.2.1, pX s + 1, fil b' (pP s) (pC s)) := by
            refine ⟨rfl, rfl, ⟨rfl, by show pX s + 1 ≤ 24; omega⟩, fun c hc => ?_, ?_, fun p hp ⟨c, c1, c2⟩ => ?_⟩
            · show -1 ≤ fil b' (pP s) (pC s) c ∧ fil b' (pP s) (pC s) c ≤ pP s
              unfold fil
              split
              · omega
              · exact hC' c hc
            · have i0 := z5.1 0 (by omega) (by omega)
              have i1 := z5.1 1 (by omega) (by omega)
              have i2 := z5.1 2 (by omega) (by omega)
              have i3 := z5.2 3 (by omega) (by omega)
              have i4 := z5.2 4 (by omega) (by omega)
              have i5 := z5.2 5 (by omega) (by omega)
              refine ⟨(64 * b' 2 + 8 * b' 1 + b' 0).toNat, by omega, ?_⟩
              show fil b' (pP s) (pC s) _ = _
              unfold fil
              rw [if_pos (by unfold inBx; omega)]
            · refine ⟨c, c1, ?_⟩
              show fil b' (pP s) (pC s) _ = _
              unfold fil
              rw [if_neg (fun w => v1 ⟨c, c1, w, by omega, by omega⟩), c2]
          refine ⟨M3, s3, .inr ⟨_, rfl, (top.trans z2).trans v2, ?_, q⟩⟩
          have hf : ∀ r j, ¬ (r = (101, 0) ∨ numF r j ∨ (r = (12, 0) ∧ j = 28)) → xI M3 r j = xI M r j := fun r j hn => by
            have e1 : r ≠ (101, 0) := fun z => hn (.inl z)
            rw [(v3 r e1).1, (y0 r j (fun z => hn (.inr (.inl z)))).1, (x2 r j (fun z => hn (.inr (.inl (.inl z))))).1]
            rw [xI_pI, if_neg (fun z => hn (.inr (.inr z)))]
          refine ⟨?_, ⟨?_, ?_, ?_⟩, fun q hq => ⟨?_, ?_⟩, fun j hj => ⟨?_, ?_, ?_, ?_⟩, fun c hc => v4 c hc⟩
          · exact z3.sm (P := fun r j => r = (101, 0)) v3.sm (fun j _ => by decide) (fun j => by decide)
          · rw [hf (12, 0) 26 (by decide)]; exact b1
          · rw [hf (12, 0) 27 (by decide)]; exact b2
          · rw [(v3 (12, 0) (by decide)).1, (y0 (12, 0) 28 (by decide)).1, (x2 (12, 0) 28 (by decide)).1, pF_eq]; rfl
          · rw [hf (111, 0) q (by simp)]; exact (hc q hq).1
          · rw [hf (112, 0) q (by simp)]; exact (hc q hq).2
          · rw [hf (113, 0) j (by simp)]; exact (hd j hj).1
          · rw [hf (114, 0) j (by simp)]; exact (hd j hj).2.1
          · rw [hf (115, 0) j (by simp)]; exact (hd j hj).2.2.1
          · rw [hf (116, 0) j (by simp)]; exact (hd j hj).2.2.2
  · rw [if_pos c1]
    obtain ⟨M', x1, x2, x3⟩ := m_badN (k := 1) d1
    refine ⟨M', x2.wk fun r j z => .inl z, .inl ⟨_, rfl, ?_, x3⟩⟩
    show xfix gX12_aBox (0, [some (.inr (.inr (12, 0))), some (.inl (iZ ((pP s)))), none, none, none, none, none], [], M) = _; rw [xfix_unf, sX12_aBox_0]
    simp (disch := omega) only [xk_none, xk_inl, xk_inr, xk_ite, xri_v, xrl_v, xrv_v, xb_z0, xb_z1, xb_b2, if_true, if_false, ite_true, ite_false, iZ_lit, iZ_m1, iZ_m99, iZ_m8, iZ_add, iZ_sub, iZ_mul, iZ_neg, nz0, nzi, iZ_lt, iZ_le, iZ_inj, b2_z, b2_o, ite_bPz, ite_bPo, xb_bP, iZ_xin, if_pos, ite_self, ↓reduceIte, Int.reduceAdd, Int.reduceSub, Int.reduceMul, Int.reduceNeg, Int.reduceLT, Int.reduceLE, if_neg, d3, c1, x1]
theorem m_need {M : xM} {N : Nat} {T : Nat → Nat} {s : pS} {c : Nat} (h : pM M N T s) (hc : c < 100) : rRes numF (fun s' => s'.2 = s.2) M N T (fX12_need [.inr (.inr (12, 0)), .inl (iZ (c))] M) (pNeed False N T s c) := by
  have h' := h
  obtain ⟨⟨k1, k2, k3, d1, d2, d3, d4⟩, _⟩ := h'
  have hb := tk_b False N T (pSt s)
  unfold pNeed
  by_cases c1 : tk False N T (pSt s) = c
  · rw [if_pos c1]
    obtain ⟨M1, x1, x2, x3⟩ := h.1.nx
    refine ⟨M1, x2.wk fun r j z => .inl z, .inr ⟨_, rfl, ?_, h.num (x2.wk fun r j z => .inl z) x3, rfl⟩⟩
    rw [c1] at d3
    show xfix gX12_need (0, [some (.inr (.inr (12, 0))), some (.inl (iZ (c)))], [], M) = _; rw [xfix_unf, sX12_need_0]
    simp (disch := omega) only [xk_none, xk_inl, xk_inr, xk_ite, xri_v, xrl_v, xrv_v, xb_z0, xb_z1, xb_b2, if_true, if_false, ite_true, ite_false, iZ_lit, iZ_m1, iZ_m99, iZ_m8, iZ_add, iZ_sub, iZ_mul, iZ_neg, nz0, nzi, iZ_lt, iZ_le, iZ_inj, b2_z, b2_o, ite_bPz, ite_bPo, xb_bP, iZ_xin, if_pos, ite_self, ↓reduceIte, Int.reduceAdd, Int.reduceSub, Int.reduceMul, Int.reduceNeg, Int.reduceLT, Int.reduceLE, if_neg, d3, x1]
  · rw [if_neg c1]
    obtain ⟨M', x1, x2, x3⟩ := m_badN (k := 1) d1
    refine ⟨M', x2, .inl ⟨_, rfl, ?_, x3⟩⟩
    show xfix gX12_need (0, [some (.inr (.inr (12, 0))), some (.inl (iZ (c)))], [], M) = _; rw [xfix_unf, sX12_need_0]
    simp (disch := omega) only [xk_none, xk_inl, xk_inr, xk_ite, xri_v, xrl_v, xrv_v, xb_z0, xb_z1, xb_b2, if_true, if_false, ite_true, ite_false, iZ_lit, iZ_m1, iZ_m99, iZ_m8, iZ_add, iZ_sub, iZ_mul, iZ_neg, nz0, nzi, iZ_lt, iZ_le, iZ_inj, b2_z, b2_o, ite_bPz, ite_bPo, xb_bP, iZ_xin, if_pos, ite_self, ↓reduceIte, Int.reduceAdd, Int.reduceSub, Int.reduceMul, Int.reduceNeg, Int.reduceLT, Int.reduceLE, if_neg, d3, x1]
theorem m_known {M : xM} {N : Nat} {T : Nat → Nat} {s : pS} {n : Nat} (h : pM M N T s) (hn : n = pP s) (hP : pP s ≤ 9) (hO : ∀ q, q < pP s → pNa s q + pNl s q ≤ N ∧ 1 ≤ pNl s q ∧ pNl s q ≤ 6) : fX12_known [.inr (.inr (12, 0))] M = some (some (.inl (iZ (if pKn N T s (pSt s) < pP s then (pKn N T s (pSt s) : Int) else -1))), M) := by
  obtain ⟨⟨⟨r1, r2, r3⟩, k2, k3, d1, d2, d3, d4⟩, ⟨b1, b2, b3⟩, hc, hd, he⟩ := h
  have hE := tE_b (T := T) k3
  have row : ∀ q : Nat, q < pP s → xfix gX12_known (2, [some (.inr (.inr (12, 0))), some (.inl (iZ (q))), none, none], [], M) = @ite _ (wSm T (pNa s q) (pNl s q) (pSt s) (tE N T (pSt s))) (Classical.propDecidable _) (some (some (.inl (iZ (q))), M)) (xfix gX12_known (2, [some (.inr (.inr (12, 0))), some (.inl (iZ (((q : Int) + 1)))), none, none], [], M)) := fun q hq => by
    obtain ⟨o1, o2, o3⟩ := hO q hq
    obtain ⟨f1, f2⟩ := hc q hq
    by_cases c1 : pNl s q = tE N T (pSt s) - pSt s
    · have hx := xfor_all (sg := gX12_known) (st := fun i => (36, [some (.inr (.inr (12, 0))), some (.inl (iZ (q))), some (.inl (iZ ((1 : Int)))), some (.inl (iZ (i)))], [], M)) (R := fun i => @ite _ (∀ k, i ≤ k → k < pNl s q → T (pNa s q + k) = T (pSt s + k)) (Classical.propDecidable _) (some (some (.inl (iZ (q))), M)) (xfix gX12_known (2, [some (.inr (.inr (12, 0))), some (.inl (iZ (((q : Int) + 1)))), none, none], [], M))) (n := pNl s q) (fun i hi ih => by
        have g1 := r3 (pNa s q + i) (by omega)
        have g2 := r3 (pSt s + i) (by omega)
        have e1 : Int32.toNatClampNeg (iZ ((pNa s q : Int) + i)) = pNa s q + i := by rw [iZ_clamp (by omega)]; omega
        have e2 : Int32.toNatClampNeg (iZ ((pSt s : Int) + i)) = pSt s + i := by rw [iZ_clamp (by omega)]; omega
        have g3 := g1.2
        have g4 := g2.2
        rw [nS] at ih
        rw [xfix_unf, sX12_known_36]
        simp (disch := omega) only [xk_none, xk_inl, xk_inr, xk_ite, xri_v, xrl_v, xrv_v, xb_z0, xb_z1, xb_b2, if_true, if_false, ite_true, ite_false, iZ_lit, iZ_m1, iZ_m99, iZ_m8, iZ_add, iZ_sub, iZ_mul, iZ_neg, nz0, nzi, iZ_lt, iZ_le, iZ_inj, b2_z, b2_o, ite_bPz, ite_bPo, xb_bP, iZ_xin, if_pos, ite_self, ↓reduceIte, Int.reduceAdd, Int.reduceSub, Int.reduceMul, Int.reduceNeg, Int.reduceLT, Int.reduceLE, if_neg, nS, iZ_clampN, iZ_bit, iZ_one, iZ_and, iZ_or, iZ_ndn, f1, f2, d1, e1, e2, g1.1, g2.1]
        by_cases y : T (pNa s q + i) = T (pSt s + i)
        · rw [if_pos y, ih]
          by_cases y2 : ∀ k, i + 1 ≤ k → k < pNl s q → T (pNa s q + k) = T (pSt s + k)
          · rw [if_pos y2, if_pos ((all_from (P := fun k => T (pNa s q + k) = T (pSt s + k)) hi).mpr ⟨y, y2⟩)]
          · rw [if_neg y2, if_neg (fun z => y2 ((all_from (P := fun k => T (pNa s q + k) = T (pSt s + k)) hi).mp z).2)]
        · rw [if_neg y, if_neg (fun z => y (z i (Nat.le_refl _) hi))]
          rw [xfix_unf, sX12_known_36]
          by_cases y2 : pNl s q ≤ i + 1
          · simp (disch := omega) only [xk_none, xk_inl, xk_inr, xk_ite, xri_v, xrl_v, xrv_v, xb_z0, xb_z1, xb_b2, if_true, if_false, ite_true, ite_false, iZ_lit, iZ_m1, iZ_m99, iZ_m8, iZ_add, iZ_sub, iZ_mul, iZ_neg, nz0, nzi, iZ_lt, iZ_le, iZ_inj, b2_z, b2_o, ite_bPz, ite_bPo, xb_bP, iZ_xin, if_pos, ite_self, ↓reduceIte, Int.reduceAdd, Int.reduceSub, Int.reduceMul, Int.reduceNeg, Int.reduceLT, Int.reduceLE, if_neg, nS, iZ_clampN, iZ_bit, iZ_one, iZ_and, iZ_or, iZ_ndn, f2]
          · simp (disch := omega) only [xk_none, xk_inl, xk_inr, xk_ite, xri_v, xrl_v, xrv_v, xb_z0, xb_z1, xb_b2, if_true, if_false, ite_true, ite_false, iZ_lit, iZ_m1, iZ_m99, iZ_m8, iZ_add, iZ_sub, iZ_mul, iZ_neg, nz0, nzi, iZ_lt, iZ_le, iZ_inj, b2_z, b2_o, ite_bPz, ite_bPo, xb_bP, iZ_xin, if_pos, ite_self, ↓reduceIte, Int.reduceAdd, Int.reduceSub, Int.reduceMul, Int.reduceNeg, Int.reduceLT, Int.reduceLE, if_neg, nS, iZ_clampN, iZ_bit, iZ_one, iZ_and, iZ_or, iZ_ndn, f2]) (by
        rw [if_pos (fun k k1 k2 => by omega)]
        rw [xfix_unf, sX12_known_36]
        simp (disch := omega) only [xk_none, xk_inl, xk_inr, xk_ite, xri_v, xrl_v, xrv_v, xb_z0, xb_z1, xb_b2, if_true, if_false, ite_true, ite_false, iZ_lit, iZ_m1, iZ_m99, iZ_m8, iZ_add, iZ_sub, iZ_mul, iZ_neg, nz0, nzi, iZ_lt, iZ_le, iZ_inj, b2_z, b2_o, ite_bPz, ite_bPo, xb_bP, iZ_xin, if_pos, ite_self, ↓reduceIte, Int.reduceAdd, Int.reduceSub, Int.reduceMul, Int.reduceNeg, Int.reduceLT, Int.reduceLE, if_neg, nS, iZ_clampN, iZ_bit, iZ_one, iZ_and, iZ_or, iZ_ndn, f2]) (i := 0) (by omega)
      have e0 : ((tE N T (pSt s) : Nat) : Int) - (pSt s : Nat) = ((tE N T (pSt s) - pSt s : Nat) : Int) := by omega
      have top : xfix gX12_known (2, [some (.inr (.inr (12, 0))), some (.inl (iZ (q))), none, none], [], M) = xfix gX12_known (36, [some (.inr (.inr (12, 0))), some (.inl (iZ (q))), some (.inl (iZ ((1 : Int)))), some (.inl (iZ (((0 : Nat)))))], [], M) := by
        rw [xfix_unf, sX12_known_2]
        simp (disch := omega) only [xk_none, xk_inl, xk_inr, xk_ite, xri_v, xrl_v, xrv_v, xb_z0, xb_z1, xb_b2, if_true, if_false, ite_true, ite_false, iZ_lit, iZ_m1, iZ_m99, iZ_m8, iZ_add, iZ_sub, iZ_mul, iZ_neg, nz0, nzi, iZ_lt, iZ_le, iZ_inj, b2_z, b2_o, ite_bPz, ite_bPo, xb_bP, iZ_xin, if_pos, ite_self, ↓reduceIte, Int.reduceAdd, Int.reduceSub, Int.reduceMul, Int.reduceNeg, Int.reduceLT, Int.reduceLE, if_neg, nS, iZ_clampN, iZ_bit, iZ_one, iZ_and, iZ_or, iZ_ndn, b1, f2, d1, d2, e0, c1]
        rfl
      rw [top, hx]
      by_cases y : wSm T (pNa s q) (pNl s q) (pSt s) (tE N T (pSt s))
      · rw [if_pos y, if_pos (fun k _ hk => y.2 k hk)]
      · rw [if_neg y, if_neg (fun z => y ⟨c1, fun k hk => z k (by omega) hk⟩)]
    · rw [if_neg (fun z => c1 z.1)]
      rw [xfix_unf, sX12_known_2]
      simp (disch := omega) only [xk_none, xk_inl, xk_inr, xk_ite, xri_v, xrl_v, xrv_v, xb_z0, xb_z1, xb_b2, if_true, if_false, ite_true, ite_false, iZ_lit, iZ_m1, iZ_m99, iZ_m8, iZ_add, iZ_sub, iZ_mul, iZ_neg, nz0, nzi, iZ_lt, iZ_le, iZ_inj, b2_z, b2_o, ite_bPz, ite_bPo, xb_bP, iZ_xin, if_pos, ite_self, ↓reduceIte, Int.reduceAdd, Int.reduceSub, Int.reduceMul, Int.reduceNeg, Int.reduceLT, Int.reduceLE, if_neg, nS, iZ_clampN, iZ_bit, iZ_one, iZ_and, iZ_or, iZ_ndn, b1, f2, d1, d2]
      rw [xfix_unf, sX12_known_36]
      simp (disch := omega) only [xk_none, xk_inl, xk_inr, xk_ite, xri_v, xrl_v, xrv_v, xb_z0, xb_z1, xb_b2, if_true, if_false, ite_true, ite_false, iZ_lit, iZ_m1, iZ_m99, iZ_m8, iZ_add, iZ_sub, iZ_mul, iZ_neg, nz0, nzi, iZ_lt, iZ_le, iZ_inj, b2_z, b2_o, ite_bPz, ite_bPo, xb_bP, iZ_xin, if_pos, ite_self, ↓reduceIte, Int.reduceAdd, Int.reduceSub, Int.reduceMul, Int.reduceNeg, Int.reduceLT, Int.reduceLE, if_neg, nS, iZ_clampN, iZ_bit, iZ_one, iZ_and, iZ_or, iZ_ndn, f2]
  have hle : pKn N T s (pSt s) ≤ pP s := lst_le _ _
  have hl := xfor_F (sg := gX12_known) (fun q => (2, [some (.inr (.inr (12, 0))), some (.inl (iZ (q))), none, none], [], M)) (a := 0) (n := pKn N T s (pSt s)) (by omega) (fun q _ hq => by
    have hno : ¬ wSm T (pNa s q) (pNl s q) (pSt s) (tE N T (pSt s)) := lst_no (fun q => wSm T (pNa s q) (pNl s q) (pSt s) (tE N T (pSt s))) (pP s) q hq
    rw [row q (by omega), if_neg hno, nS])
  show xfix gX12_known (0, [some (.inr (.inr (12, 0))), none, none, none], [], M) = _; rw [xfix_unf, sX12_known_0]
  simp (disch := omega) only [xk_none, xk_inl, xk_inr, xk_ite, xri_v, xrl_v, xrv_v, xb_z0, xb_z1, xb_b2, if_true, if_false, ite_true, ite_false, iZ_lit, iZ_m1, iZ_m99, iZ_m8, iZ_add, iZ_sub, iZ_mul, iZ_neg, nz0, nzi, iZ_lt, iZ_le, iZ_inj, b2_z, b2_o, ite_bPz, ite_bPo, xb_bP, iZ_xin, if_pos, ite_self, ↓reduceIte, Int.reduceAdd, Int.reduceSub, Int.reduceMul, Int.reduceNeg, Int.reduceLT, Int.reduceLE, if_neg]
  refine hl.trans ?_
  by_cases c : pKn N T s (pSt s) < pP s
  · have hw : wSm T (pNa s (pKn N T s (pSt s))) (pNl s (pKn N T s (pSt s))) (pSt s) (tE N T (pSt s)) := lst_is (fun q => wSm T (pNa s q) (pNl s q) (pSt s) (tE N T (pSt s))) (pP s) c
    rw [if_pos c, row _ c, if_pos hw]
  · rw [if_neg c]
    rw [xfix_unf, sX12_known_2]
    simp (disch := omega) only [xk_none, xk_inl, xk_inr, xk_ite, xri_v, xrl_v, xrv_v, xb_z0, xb_z1, xb_b2, if_true, if_false, ite_true, ite_false, iZ_lit, iZ_m1, iZ_m99, iZ_m8, iZ_add, iZ_sub, iZ_mul, iZ_neg, nz0, nzi, iZ_lt, iZ_le, iZ_inj, b2_z, b2_o, ite_bPz, ite_bPo, xb_bP, iZ_xin, if_pos, ite_self, ↓reduceIte, Int.reduceAdd, Int.reduceSub, Int.reduceMul, Int.reduceNeg, Int.reduceLT, Int.reduceLE, if_neg, nS, iZ_clampN, iZ_bit, iZ_one, iZ_and, iZ_or, iZ_ndn, b1]
