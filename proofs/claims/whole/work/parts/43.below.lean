/-! the reference: hands, and what lies below -/
def hq (A : dA) (heap fl j n : Nat) : Prop := ∃ k, j ≤ k ∧ k ≤ heap ∧ k &&& heap = k ∧ bc k = n ∧ rstS A heap fl k = heap
noncomputable def fw (A : dA) (heap fl : Nat) : Nat := lst (hq A heap fl 0) 9
noncomputable def hnd (A : dA) (heap : Nat) : Nat := fw A heap (flr A heap (aP A)) + @ite _ (tps A heap (flr A heap (aP A))) (Classical.propDecidable _) 1 0
theorem hnd_le (A : dA) (heap : Nat) : hnd A heap ≤ 10 := by
  unfold hnd
  have : fw A heap (flr A heap (aP A)) ≤ 9 := lst_le _ 9
  split <;> omega
theorem m_handsFor {A : dA} {heap : Nat} {M : xM} (h : mA M A) (hW : mW M A) (hh : heap < 512) : fX12_handsFor [.inr (.inr (12, 0)), .inl (iZ (heap))] M = some (some (.inl (iZ ((hnd A heap : Nat)))), M) := by
  show xfix gX12_handsFor (0, [some (.inr (.inr (12, 0))), some (.inl (iZ (heap))), none, none, none], [], M) = _; rw [xfix_unf, sX12_handsFor_0]
  simp (disch := omega) only [xk_none, xk_inl, xk_inr, xk_ite, xri_v, xrl_v, xrv_v, xb_z0, xb_z1, xb_b2, if_true, if_false, ite_true, ite_false, iZ_lit, iZ_m1, iZ_m99, iZ_m8, iZ_add, iZ_sub, iZ_mul, iZ_neg, nz0, nzi, iZ_lt, iZ_le, iZ_inj, b2_z, b2_o, ite_bPz, ite_bPo, xb_bP, iZ_xin, if_pos, ite_self, ↓reduceIte, Int.reduceAdd, Int.reduceSub, Int.reduceMul, Int.reduceNeg, Int.reduceLT, Int.reduceLE, if_neg, nS, iZ_clampN, iZ_bit, iZ_one, iZ_and, iZ_or, iZ_ndn, m_floor h hW hh]
  have hf := flr_le A heap (aP A)
  unfold hnd
  generalize flr A heap (aP A) = fl at *
  have stp : ∀ k : Nat, k ≤ heap → k &&& heap = k → xfix gX12_handsFor (12, [some (.inr (.inr (12, 0))), some (.inl (iZ (heap))), some (.inl (iZ (fl))), some (.inl (iZ ((lst (hq A heap fl (k + 1)) 9)))), some (.inl (iZ (k)))], [], M) = xfix gX12_handsFor (44, [some (.inr (.inr (12, 0))), some (.inl (iZ (heap))), some (.inl (iZ (fl))), some (.inl (iZ ((lst (hq A heap fl k) 9)))), some (.inl (iZ (k)))], [], M) := by
    intro k h2 h3
    have hb := bc_le k
    have hl := lst_le (hq A heap fl (k + 1)) 9
    have hr : rstS A heap fl k < 512 := msk_lt _ 9
    rw [xfix_unf, sX12_handsFor_12]
    simp (disch := omega) only [xk_none, xk_inl, xk_inr, xk_ite, xri_v, xrl_v, xrv_v, xb_z0, xb_z1, xb_b2, if_true, if_false, ite_true, ite_false, iZ_lit, iZ_m1, iZ_m99, iZ_m8, iZ_add, iZ_sub, iZ_mul, iZ_neg, nz0, nzi, iZ_lt, iZ_le, iZ_inj, b2_z, b2_o, ite_bPz, ite_bPo, xb_bP, iZ_xin, if_pos, ite_self, ↓reduceIte, Int.reduceAdd, Int.reduceSub, Int.reduceMul, Int.reduceNeg, Int.reduceLT, Int.reduceLE, if_neg, nS, iZ_clampN, iZ_bit, iZ_one, iZ_and, iZ_or, iZ_ndn, m_bits M (v := k) (by omega), m_resting h hW hh (held := k) (by omega) hf]
    by_cases e : rstS A heap fl k = heap
    · have e1 : lst (hq A heap fl k) 9 = if bc k < lst (hq A heap fl (k + 1)) 9 then bc k else lst (hq A heap fl (k + 1)) 9 := by
        rw [← lst_or _ _ 9 hb]
        exact lst_cg (fun i _ => ⟨fun ⟨k', a, b, c, d, f⟩ => if e : k' = k then .inr (by rw [← d, e]) else .inl ⟨k', by omega, b, c, d, f⟩, fun z => z.elim (fun ⟨k', a, b⟩ => ⟨k', by omega, b⟩) (fun z => ⟨k, Nat.le_refl _, h2, h3, z.symm, e⟩)⟩)
      rw [e1, if_pos e]
      by_cases e2 : bc k < lst (hq A heap fl (k + 1)) 9
      · rw [if_neg (by omega), if_pos e2]
      · rw [if_pos (by omega), if_neg e2]
    · have e1 : lst (hq A heap fl k) 9 = lst (hq A heap fl (k + 1)) 9 := lst_cg (fun i _ => ⟨fun ⟨k', a, b, c, d, f⟩ => ⟨k', by
        by_cases e2 : k' = k
        · subst e2; exact absurd f e
        · omega, b, c, d, f⟩, fun ⟨k', a, b⟩ => ⟨k', by omega, b⟩⟩)
      rw [e1, if_neg e, ite_self]
  have key : ∀ d k : Nat, k ≤ d → k ≤ heap → k &&& heap = k → xfix gX12_handsFor (12, [some (.inr (.inr (12, 0))), some (.inl (iZ (heap))), some (.inl (iZ (fl))), some (.inl (iZ ((lst (hq A heap fl (k + 1)) 9)))), some (.inl (iZ (k)))], [], M) = some (some (.inl (iZ ((fw A heap fl + @ite _ (tps A heap fl) (Classical.propDecidable _) 1 0 : Nat)))), M) := by
    intro d
    induction d with
    | zero =>
      intro k h1 h2 h3
      have : k = 0 := by omega
      subst this
      refine (stp 0 h2 h3).trans ?_
      rw [xfix_unf, sX12_handsFor_44]
      simp (disch := omega) only [xk_none, xk_inl, xk_inr, xk_ite, xri_v, xrl_v, xrv_v, xb_z0, xb_z1, xb_b2, if_true, if_false, ite_true, ite_false, iZ_lit, iZ_m1, iZ_m99, iZ_m8, iZ_add, iZ_sub, iZ_mul, iZ_neg, nz0, nzi, iZ_lt, iZ_le, iZ_inj, b2_z, b2_o, ite_bPz, ite_bPo, xb_bP, iZ_xin, if_pos, ite_self, ↓reduceIte, Int.reduceAdd, Int.reduceSub, Int.reduceMul, Int.reduceNeg, Int.reduceLT, Int.reduceLE, if_neg]
      rw [xfix_unf, sX12_handsFor_12]
      simp (disch := omega) only [xk_none, xk_inl, xk_inr, xk_ite, xri_v, xrl_v, xrv_v, xb_z0, xb_z1, xb_b2, if_true, if_false, ite_true, ite_false, iZ_lit, iZ_m1, iZ_m99, iZ_m8, iZ_add, iZ_sub, iZ_mul, iZ_neg, nz0, nzi, iZ_lt, iZ_le, iZ_inj, b2_z, b2_o, ite_bPz, ite_bPo, xb_bP, iZ_xin, if_pos, ite_self, ↓reduceIte, Int.reduceAdd, Int.reduceSub, Int.reduceMul, Int.reduceNeg, Int.reduceLT, Int.reduceLE, if_neg, m_tips h hh hf]
      unfold fw
      by_cases e : tps A heap fl
      · rw [if_pos e, if_pos e]; rfl
      · rw [if_neg e, if_neg e, Nat.add_zero]; simp
    | succ d ih =>
      intro k h1 h2 h3
      by_cases e0 : k = 0
      · exact ih k (by omega) h2 h3
      · refine (stp k h2 h3).trans ?_
        have e1 : iZ ((k : Int) - 1) = iZ ((k - 1 : Nat) : Int) := by congr 1; omega
        have e2 : (k - 1) &&& heap ≤ k - 1 := Nat.and_le_left
        have e3 : (k - 1) &&& heap &&& heap = (k - 1) &&& heap := by rw [Nat.and_assoc, Nat.and_self]
        have e4 : lst (hq A heap fl k) 9 = lst (hq A heap fl (((k - 1) &&& heap) + 1)) 9 := lst_cg (fun i _ => ⟨fun ⟨k', a, b⟩ => ⟨k', by omega, b⟩, fun ⟨k', a, b, c, d⟩ => ⟨k', by
          by_cases e5 : k' < k
          · have := sub_prev k heap k' c h3 e5
            omega
          · omega, b, c, d⟩⟩)
        rw [xfix_unf, sX12_handsFor_44]
        simp (disch := omega) only [xk_none, xk_inl, xk_inr, xk_ite, xri_v, xrl_v, xrv_v, xb_z0, xb_z1, xb_b2, if_true, if_false, ite_true, ite_false, iZ_lit, iZ_m1, iZ_m99, iZ_m8, iZ_add, iZ_sub, iZ_mul, iZ_neg, nz0, nzi, iZ_lt, iZ_le, iZ_inj, b2_z, b2_o, ite_bPz, ite_bPo, xb_bP, iZ_xin, if_pos, ite_self, ↓reduceIte, Int.reduceAdd, Int.reduceSub, Int.reduceMul, Int.reduceNeg, Int.reduceLT, Int.reduceLE, if_neg, e1, iZ_and]
        rw [e4]
        exact ih _ (by omega) (by omega) e3
  have e9 : lst (hq A heap fl (heap + 1)) 9 = 9 := lst_eq (Nat.le_refl _) (fun i _ ⟨k, a, b, _⟩ => by omega) (fun z => by omega)
  have := key heap heap (Nat.le_refl _) (Nat.le_refl _) (Nat.and_self heap)
  rw [e9] at this
  exact this
theorem m_findsBelow {A : dA} {M : xM} (h : mA M A) : ∃ M', fX12_findsBelow [.inr (.inr (12, 0))] M = some (none, M') ∧ xSame (fun r => r = (139, 0) ∨ r = (142, 0) ∨ r = (143, 0)) M M' ∧ mW M' A ∧ ∀ heap, 1 ≤ heap → heap < 2 ^ aP A → xI M' (139, 0) heap = iZ (hnd A heap) := by
  have hP := h.ok.P
  obtain ⟨M1, a1, a2, a3, a4⟩ := xfor_M (sg := gX12_findsBelow) (st := fun k M => (2, [some (.inr (.inr (12, 0))), some (.inl (iZ (k))), none, none], [], M)) (I := fun i M' => xSame (fun r => r = (142, 0) ∨ r = (143, 0)) M M' ∧ (∀ k, k < i → xI M' (142, 0) k = iZ 8) ∧ ∀ k, k < i → xI M' (143, 0) k = iZ 0) (n := 9) (fun i M' hi hI => by
    refine ⟨xpI (xpI M' (142, 0) i (iZ 8)) (143, 0) i (iZ 0), ?_, (hI.1.pI (.inl rfl)).pI (.inr rfl), fun k hk => ?_, fun k hk => ?_⟩
    · rw [xfix_unf, sX12_findsBelow_2]
      simp (disch := omega) only [xk_none, xk_inl, xk_inr, xk_ite, xri_v, xrl_v, xrv_v, xb_z0, xb_z1, xb_b2, if_true, if_false, ite_true, ite_false, iZ_lit, iZ_m1, iZ_m99, iZ_m8, iZ_add, iZ_sub, iZ_mul, iZ_neg, nz0, nzi, iZ_lt, iZ_le, iZ_inj, b2_z, b2_o, ite_bPz, ite_bPo, xb_bP, iZ_xin, if_pos, ite_self, ↓reduceIte, Int.reduceAdd, Int.reduceSub, Int.reduceMul, Int.reduceNeg, Int.reduceLT, Int.reduceLE, if_neg, nS, iZ_clampN, iZ_bit, iZ_one, iZ_and, iZ_or, iZ_ndn]
    · rw [xI_pI_ne (by decide), xI_pI]
      by_cases e : k = i
      · rw [if_pos ⟨rfl, e⟩]
      · rw [if_neg (fun z => e z.2)]; exact hI.2.1 k (by omega)
    · rw [xI_pI]
      by_cases e : k = i
      · rw [if_pos ⟨rfl, e⟩]
      · rw [if_neg (fun z => e z.2), xI_pI_ne (by decide)]; exact hI.2.2 k (by omega)) (a := 0) (M := M) (by omega) ⟨xSame.rf, fun k hk => by omega, fun k hk => by omega⟩
  obtain ⟨M2, b1, b2, b3, b4⟩ := xfor_M (sg := gX12_findsBelow) (st := fun k M => (33, [some (.inr (.inr (12, 0))), some (.inl (iZ (((511 : Int) - (k : Int))))), none, none], [], M)) (I := fun i M' => xSame (fun r => r = (142, 0) ∨ r = (143, 0)) M M' ∧ (∀ p, p < 9 → ∃ l : Nat, xI M' (142, 0) p = iZ l ∧ l ≤ 8 ∧ (∀ c, 512 - i ≤ c → c < 512 → aC A c = p → l ≤ c / 64) ∧ (l = 8 ∨ ∃ c, 512 - i ≤ c ∧ c < 512 ∧ aC A c = p ∧ c / 64 = l)) ∧ mkI (143, 0) 9 (fun p q => ∃ c, 64 ≤ c ∧ 512 - i ≤ c ∧ c < 512 ∧ aC A c = p ∧ aC A (c - 64) = q ∧ q ≠ p) M') (n := 512) (fun i M' hi hI => by
    have hM : mA M' A := h.same hI.1 (by decide) (by decide) (by decide) (by decide) (by decide) (by decide) (by decide) (by decide) (by decide)
    obtain ⟨c, hc⟩ : ∃ c : Nat, (511 : Int) - i = c := ⟨511 - i, by omega⟩
    have hc2 : c < 512 := by omega
    have hn : (511 : Int) - ((i : Int) + 1) = (c : Int) + (-1) := by omega
    have hcc := hM.ok.C hc2
    rw [nS, hc, hn]
    by_cases e1 : aC A c = -1
    · refine ⟨M', ?_, hI.1, fun p hp => ?_, hI.2.2.cg fun p q hp => ?_⟩
      · rw [xfix_unf, sX12_findsBelow_33]
        simp (disch := omega) only [xk_none, xk_inl, xk_inr, xk_ite, xri_v, xrl_v, xrv_v, xb_z0, xb_z1, xb_b2, if_true, if_false, ite_true, ite_false, iZ_lit, iZ_m1, iZ_m99, iZ_m8, iZ_add, iZ_sub, iZ_mul, iZ_neg, nz0, nzi, iZ_lt, iZ_le, iZ_inj, b2_z, b2_o, ite_bPz, ite_bPo, xb_bP, iZ_xin, if_pos, ite_self, ↓reduceIte, Int.reduceAdd, Int.reduceSub, Int.reduceMul, Int.reduceNeg, Int.reduceLT, Int.reduceLE, if_neg, nS, iZ_clampN, iZ_bit, iZ_one, iZ_and, iZ_or, iZ_ndn, hM.C hc2]
      · obtain ⟨l, l1, l2, l3, l4⟩ := hI.2.1 p hp
        refine ⟨l, l1, l2, fun c' x1 x2 x3 => ?_, l4.imp id fun ⟨c', x1, x2⟩ => ⟨c', by omega, x2⟩⟩
        by_cases e : c' = c
        · rw [e] at x3; omega
        · exact l3 c' (by omega) x2 x3
      · constructor
        · rintro ⟨c', x1, x2, x3⟩; exact ⟨c', x1, by omega, x3⟩
        · rintro ⟨c', x1, x2, x3, x4, x5⟩
          refine ⟨c', x1, ?_, x3, x4, x5⟩
          by_cases e : c' = c
          · rw [e] at x4; omega
          · omega
    · obtain ⟨p, hp⟩ : ∃ p : Nat, aC A c = p := ⟨(aC A c).toNat, by omega⟩
      have hp9 : p < 9 := by omega
      have low : ∀ M'' : xM, xI M'' (142, 0) = xI (xpI M' (142, 0) p (iZ ((c / 64 : Nat) : Int))) (142, 0) → ∀ p', p' < 9 → ∃ l : Nat, xI M'' (142, 0) p' = iZ l ∧ l ≤ 8 ∧ (∀ c, 512 - (i + 1) ≤ c → c < 512 → aC A c = p' → l ≤ c / 64) ∧ (l = 8 ∨ ∃ c, 512 - (i + 1) ≤ c ∧ c < 512 ∧ aC A c = p' ∧ c / 64 = l) := fun M'' e2 p' hp' => by
        rw [e2, xI_pI]
        by_cases e : p' = p
        · rw [if_pos ⟨rfl, e⟩]
          refine ⟨c / 64, rfl, by omega, fun c' x1 x2 x3 => Nat.div_le_div_right (by omega), .inr ⟨c, by omega, hc2, by rw [hp, e], rfl⟩⟩
        · rw [if_neg (fun z => e z.2)]
          obtain ⟨l, l1, l2, l3, l4⟩ := hI.2.1 p' hp'
          refine ⟨l, l1, l2, fun c' x1 x2 x3 => ?_, l4.imp id fun ⟨c', x1, x2⟩ => ⟨c', by omega, x2⟩⟩
          by_cases e5 : c' = c
          · rw [e5, hp] at x3; omega
          · exact l3 c' (by omega) x2 x3
      have hk : mkI (143, 0) 9 (fun p q => ∃ c, 64 ≤ c ∧ 512 - i ≤ c ∧ c < 512 ∧ aC A c = p ∧ aC A (c - 64) = q ∧ q ≠ p) (xpI M' (142, 0) p (iZ ((c / 64 : Nat) : Int))) := hI.2.2.same (P := fun r => r = (142, 0)) (xSame.rf.pI rfl) (by decide)
      have none : ¬ (64 ≤ c ∧ ∃ q : Nat, aC A (c - 64) = q ∧ q ≠ p) → mkI (143, 0) 9 (fun p q => ∃ c, 64 ≤ c ∧ 512 - (i + 1) ≤ c ∧ c < 512 ∧ aC A c = p ∧ aC A (c - 64) = q ∧ q ≠ p) (xpI M' (142, 0) p (iZ ((c / 64 : Nat) : Int))) := fun hno => hk.cg fun p' q hp' => by
        constructor
        · rintro ⟨c', x1, x2, x3⟩; exact ⟨c', x1, by omega, x3⟩
        · rintro ⟨c', x1, x2, x3, x4, x5, x6⟩
          refine ⟨c', x1, ?_, x3, x4, x5, x6⟩
          by_cases e : c' = c
          · subst e; exact absurd ⟨x1, q, x5, by rw [hp] at x4; omega⟩ hno
          · omega
      by_cases e2 : 64 ≤ c
      · obtain ⟨c64, e64⟩ : ∃ k : Nat, (c : Int) - 64 = k := ⟨c - 64, by omega⟩
        have hu := hM.ok.C (c := c64) (by omega)
        by_cases e3 : aC A c64 = -1 ∨ aC A c64 = p
        · refine ⟨_, ?_, hI.1.pI (.inl rfl), low _ rfl, none fun ⟨_, q, x1, x2⟩ => ?_⟩
          · rw [xfix_unf, sX12_findsBelow_33]
            simp (disch := omega) only [xk_none, xk_inl, xk_inr, xk_ite, xri_v, xrl_v, xrv_v, xb_z0, xb_z1, xb_b2, if_true, if_false, ite_true, ite_false, iZ_lit, iZ_m1, iZ_m99, iZ_m8, iZ_add, iZ_sub, iZ_mul, iZ_neg, nz0, nzi, iZ_lt, iZ_le, iZ_inj, b2_z, b2_o, ite_bPz, ite_bPo, xb_bP, iZ_xin, if_pos, ite_self, ↓reduceIte, Int.reduceAdd, Int.reduceSub, Int.reduceMul, Int.reduceNeg, Int.reduceLT, Int.reduceLE, if_neg, nS, iZ_clampN, iZ_bit, iZ_one, iZ_and, iZ_or, iZ_ndn, hM.C hc2, hp, iZ_div, z64, e64, xI_pI_ne (show ((100, 0) : xR) ≠ (142, 0) by decide), hM.C (c := c64) (by omega)]
            rw [xfix_unf, sX12_findsBelow_81]
            simp (disch := omega) only [xk_none, xk_inl, xk_inr, xk_ite, xri_v, xrl_v, xrv_v, xb_z0, xb_z1, xb_b2, if_true, if_false, ite_true, ite_false, iZ_lit, iZ_m1, iZ_m99, iZ_m8, iZ_add, iZ_sub, iZ_mul, iZ_neg, nz0, nzi, iZ_lt, iZ_le, iZ_inj, b2_z, b2_o, ite_bPz, ite_bPo, xb_bP, iZ_xin, if_pos, ite_self, ↓reduceIte, Int.reduceAdd, Int.reduceSub, Int.reduceMul, Int.reduceNeg, Int.reduceLT, Int.reduceLE, if_neg, nS, iZ_clampN, iZ_bit, iZ_one, iZ_and, iZ_or, iZ_ndn]
          · rw [show c - 64 = c64 by omega] at x1
            omega
        · obtain ⟨q, hq⟩ : ∃ q : Nat, aC A c64 = q := ⟨(aC A c64).toNat, by omega⟩
          have hq9 : q < 9 := by omega
          refine ⟨_, ?_, (hI.1.pI (.inl rfl)).pI (.inr rfl), low _ ?_, (hk.or (k := p) (m := 2 ^ q) hp9 (Nat.pow_lt_pow_right (n := 9) (by decide) hq9)).cg fun p' q' hp' => ?_⟩
          · rw [xfix_unf, sX12_findsBelow_33]
            simp (disch := omega) only [xk_none, xk_inl, xk_inr, xk_ite, xri_v, xrl_v, xrv_v, xb_z0, xb_z1, xb_b2, if_true, if_false, ite_true, ite_false, iZ_lit, iZ_m1, iZ_m99, iZ_m8, iZ_add, iZ_sub, iZ_mul, iZ_neg, nz0, nzi, iZ_lt, iZ_le, iZ_inj, b2_z, b2_o, ite_bPz, ite_bPo, xb_bP, iZ_xin, if_pos, ite_self, ↓reduceIte, Int.reduceAdd, Int.reduceSub, Int.reduceMul, Int.reduceNeg, Int.reduceLT, Int.reduceLE, if_neg, nS, iZ_clampN, iZ_bit, iZ_one, iZ_and, iZ_or, iZ_ndn, hM.C hc2, hp, iZ_div, z64, e64, xI_pI_ne (show ((100, 0) : xR) ≠ (142, 0) by decide), hM.C (c := c64) (by omega)]
            rw [xfix_unf, sX12_findsBelow_81]
            simp (disch := omega) only [xk_none, xk_inl, xk_inr, xk_ite, xri_v, xrl_v, xrv_v, xb_z0, xb_z1, xb_b2, if_true, if_false, ite_true, ite_false, iZ_lit, iZ_m1, iZ_m99, iZ_m8, iZ_add, iZ_sub, iZ_mul, iZ_neg, nz0, nzi, iZ_lt, iZ_le, iZ_inj, b2_z, b2_o, ite_bPz, ite_bPo, xb_bP, iZ_xin, if_pos, ite_self, ↓reduceIte, Int.reduceAdd, Int.reduceSub, Int.reduceMul, Int.reduceNeg, Int.reduceLT, Int.reduceLE, if_neg, nS, iZ_clampN, iZ_bit, iZ_one, iZ_and, iZ_or, iZ_ndn, hq]
          · funext k
            rw [xI_pI_ne (by decide)]
          · rw [Nat.testBit_two_pow, decide_eq_true_iff]
            constructor
            · rintro (⟨c', x1, x2, x3⟩ | ⟨x1, x2⟩)
              · exact ⟨c', x1, by omega, x3⟩
              · exact ⟨c, e2, by omega, hc2, by rw [hp, x1], by rw [show c - 64 = c64 by omega, hq, x2], by omega⟩
            · rintro ⟨c', x1, x2, x3, x4, x5, x6⟩
              by_cases e : c' = c
              · subst e
                rw [show c' - 64 = c64 by omega] at x5
                exact .inr ⟨by omega, by omega⟩
              · exact .inl ⟨c', x1, by omega, x3, x4, x5, x6⟩
      · refine ⟨_, ?_, hI.1.pI (.inl rfl), low _ rfl, none fun z => e2 z.1⟩
        rw [xfix_unf, sX12_findsBelow_33]
        simp (disch := omega) only [xk_none, xk_inl, xk_inr, xk_ite, xri_v, xrl_v, xrv_v, xb_z0, xb_z1, xb_b2, if_true, if_false, ite_true, ite_false, iZ_lit, iZ_m1, iZ_m99, iZ_m8, iZ_add, iZ_sub, iZ_mul, iZ_neg, nz0, nzi, iZ_lt, iZ_le, iZ_inj, b2_z, b2_o, ite_bPz, ite_bPo, xb_bP, iZ_xin, if_pos, ite_self, ↓reduceIte, Int.reduceAdd, Int.reduceSub, Int.reduceMul, Int.reduceNeg, Int.reduceLT, Int.reduceLE, if_neg, nS, iZ_clampN, iZ_bit, iZ_one, iZ_and, iZ_or, iZ_ndn, hM.C hc2, hp, iZ_div, z64]
        rw [xfix_unf, sX12_findsBelow_81]
        simp (disch := omega) only [xk_none, xk_inl, xk_inr, xk_ite, xri_v, xrl_v, xrv_v, xb_z0, xb_z1, xb_b2, if_true, if_false, ite_true, ite_false, iZ_lit, iZ_m1, iZ_m99, iZ_m8, iZ_add, iZ_sub, iZ_mul, iZ_neg, nz0, nzi, iZ_lt, iZ_le, iZ_inj, b2_z, b2_o, ite_bPz, ite_bPo, xb_bP, iZ_xin, if_pos, ite_self, ↓reduceIte, Int.reduceAdd, Int.reduceSub, Int.reduceMul, Int.reduceNeg, Int.reduceLT, Int.reduceLE, if_neg, nS, iZ_clampN, iZ_bit, iZ_one, iZ_and, iZ_or, iZ_ndn]) (a := 0) (M := M1) (by omega) ⟨a2, fun p hp => ⟨8, a3 p hp, by omega, fun c x1 x2 => by omega, .inl rfl⟩, fun _ => 0, a4, fun k => by show 0 < 512; decide, fun p q hp => by
          rw [Nat.zero_testBit]
          exact ⟨fun z => (by cases z), fun ⟨c, x1, x2, x3, _⟩ => by omega⟩⟩
  have hM2 : mA M2 A := h.same b2 (by decide) (by decide) (by decide) (by decide) (by decide) (by decide) (by decide) (by decide) (by decide)
  have hW : mW M2 A := by
    refine ⟨fun p hp => ?_, fun p hp => ?_⟩
    · obtain ⟨l, l1, l2, l3, l4⟩ := b3 p (Nat.lt_of_lt_of_le hp h.ok.P)
      rw [l1]
      unfold lowS
      rw [lst_eq l2 (fun z hz ⟨c, x1, x2, x3⟩ => by have := l3 c (by omega) x1 x3; omega) (fun hl => by
        rcases l4 with l4 | ⟨c, x1, x2, x3, x4⟩
        · omega
        · exact ⟨c, x2, x4, x3⟩)]
    · obtain ⟨b, x1, x2, x3⟩ := b4.at (Nat.lt_of_lt_of_le hp h.ok.P)
      rw [x1]
      unfold belS
      rw [← msk_ext (n := 9) x2 (fun q hq => (x3 q).trans ⟨fun ⟨c, y1, y2, y3⟩ => ⟨c, y1, y3⟩, fun ⟨c, y1, y3⟩ => ⟨c, y1, by omega, y3⟩⟩)]
  have hw := pow9 hP
  obtain ⟨M3, c1, c2, c3⟩ := xfor_M (sg := gX12_findsBelow) (st := fun k M => (112, [some (.inr (.inr (12, 0))), some (.inl (iZ (k))), none, none], [], M)) (I := fun i M' => xSame (fun r => r = (139, 0)) M2 M' ∧ ∀ k, 1 ≤ k → k < i → xI M' (139, 0) k = iZ (hnd A k)) (n := 2 ^ aP A) (fun i M' hi hI => by
    have hM : mA M' A := hM2.same hI.1 (by decide) (by decide) (by decide) (by decide) (by decide) (by decide) (by decide) (by decide) (by decide)
    refine ⟨xpI M' (139, 0) i (iZ (hnd A i)), ?_, hI.1.pI rfl, fun k h1 hk => ?_⟩
    · rw [nS, xfix_unf, sX12_findsBelow_112, m_whole M' hM.P]
      simp (disch := omega) only [xk_none, xk_inl, xk_inr, xk_ite, xri_v, xrl_v, xrv_v, xb_z0, xb_z1, xb_b2, if_true, if_false, ite_true, ite_false, iZ_lit, iZ_m1, iZ_m99, iZ_m8, iZ_add, iZ_sub, iZ_mul, iZ_neg, nz0, nzi, iZ_lt, iZ_le, iZ_inj, b2_z, b2_o, ite_bPz, ite_bPo, xb_bP, iZ_xin, if_pos, ite_self, ↓reduceIte, Int.reduceAdd, Int.reduceSub, Int.reduceMul, Int.reduceNeg, Int.reduceLT, Int.reduceLE, if_neg, nS, iZ_clampN, iZ_bit, iZ_one, iZ_and, iZ_or, iZ_ndn, m_handsFor hM (hW.same hI.1 (by decide) (by decide)) (heap := i) (by omega)]
    · rw [xI_pI]
      by_cases e : k = i
      · rw [if_pos ⟨rfl, e⟩, e]
      · rw [if_neg (fun z => e z.2)]; exact hI.2 k h1 (by omega)) (a := 1) (M := M2) (by omega) ⟨xSame.rf, fun k h1 hk => by omega⟩
  refine ⟨M3, ?_, (b2.wk fun r hr => .inr hr).tr (c2.wk fun r hr => .inl hr), hW.same c2 (by decide) (by decide), fun k k1 k2 => c3 k k1 k2⟩
  have hM3 : mA M3 A := hM2.same c2 (by decide) (by decide) (by decide) (by decide) (by decide) (by decide) (by decide) (by decide) (by decide)
  show xfix gX12_findsBelow (0, [some (.inr (.inr (12, 0))), none, none, none], [], M) = _; rw [xfix_unf, sX12_findsBelow_0]
  simp (disch := omega) only [xk_none, xk_inl, xk_inr, xk_ite, xri_v, xrl_v, xrv_v, xb_z0, xb_z1, xb_b2, if_true, if_false, ite_true, ite_false, iZ_lit, iZ_m1, iZ_m99, iZ_m8, iZ_add, iZ_sub, iZ_mul, iZ_neg, nz0, nzi, iZ_lt, iZ_le, iZ_inj, b2_z, b2_o, ite_bPz, ite_bPo, xb_bP, iZ_xin, if_pos, ite_self, ↓reduceIte, Int.reduceAdd, Int.reduceSub, Int.reduceMul, Int.reduceNeg, Int.reduceLT, Int.reduceLE, if_neg]
  refine a1.trans (Eq.trans ?_ (b1.trans (Eq.trans ?_ (c1.trans ?_))))
  · rw [xfix_unf, sX12_findsBelow_2]
    simp (disch := omega) only [xk_none, xk_inl, xk_inr, xk_ite, xri_v, xrl_v, xrv_v, xb_z0, xb_z1, xb_b2, if_true, if_false, ite_true, ite_false, iZ_lit, iZ_m1, iZ_m99, iZ_m8, iZ_add, iZ_sub, iZ_mul, iZ_neg, nz0, nzi, iZ_lt, iZ_le, iZ_inj, b2_z, b2_o, ite_bPz, ite_bPo, xb_bP, iZ_xin, if_pos, ite_self, ↓reduceIte, Int.reduceAdd, Int.reduceSub, Int.reduceMul, Int.reduceNeg, Int.reduceLT, Int.reduceLE, if_neg]
    rfl
  · rw [xfix_unf, sX12_findsBelow_33]
    simp (disch := omega) only [xk_none, xk_inl, xk_inr, xk_ite, xri_v, xrl_v, xrv_v, xb_z0, xb_z1, xb_b2, if_true, if_false, ite_true, ite_false, iZ_lit, iZ_m1, iZ_m99, iZ_m8, iZ_add, iZ_sub, iZ_mul, iZ_neg, nz0, nzi, iZ_lt, iZ_le, iZ_inj, b2_z, b2_o, ite_bPz, ite_bPo, xb_bP, iZ_xin, if_pos, ite_self, ↓reduceIte, Int.reduceAdd, Int.reduceSub, Int.reduceMul, Int.reduceNeg, Int.reduceLT, Int.reduceLE, if_neg]
    rfl
  · rw [xfix_unf, sX12_findsBelow_112, m_whole M3 hM3.P]
    simp (disch := omega) only [xk_none, xk_inl, xk_inr, xk_ite, xri_v, xrl_v, xrv_v, xb_z0, xb_z1, xb_b2, if_true, if_false, ite_true, ite_false, iZ_lit, iZ_m1, iZ_m99, iZ_m8, iZ_add, iZ_sub, iZ_mul, iZ_neg, nz0, nzi, iZ_lt, iZ_le, iZ_inj, b2_z, b2_o, ite_bPz, ite_bPo, xb_bP, iZ_xin, if_pos, ite_self, ↓reduceIte, Int.reduceAdd, Int.reduceSub, Int.reduceMul, Int.reduceNeg, Int.reduceLT, Int.reduceLE, if_neg]
