/-! the reference: its small calls -/
/-- what of the state may be written at once -/
def stF (r : xR) (j : Nat) : Prop := (r = (12, 0) ∧ (j = 18 ∨ j = 25 ∨ j = 29 ∨ j = 58 ∨ j = 71 ∨ j = 72 ∨ j = 73 ∨ j = 74)) ∨ r = (110, 0) ∨ r = (157, 0) ∨ r = (169, 0)
theorem stF_fB {M M' : xM} (h : xSm stF M M') : (∀ r j, bsB r j = true → ¬ stF r j → xI M' r j = xI M r j) := fun r j _ h2 => (h r j h2).1
theorem mQ.st {M M' : xM} {A : dA} (h : mQ M A) (hs : xSm stF M M') : mQ M' A := by
  obtain ⟨a, b, c, d, e, f⟩ := h
  have e31 : xI M' (12, 0) 31 = xI M (12, 0) 31 := (hs (12, 0) 31 (by simp [stF])).1
  have e82 : xI M' (12, 0) 82 = xI M (12, 0) 82 := (hs (12, 0) 82 (by simp [stF])).1
  have kn : mKn M A → mKn M' A := fun ⟨⟨a1, a2⟩, ⟨b1, b2⟩, c, d⟩ => by
    refine ⟨⟨fun k hk => ?_, a2⟩, ⟨fun k hk => ?_, b2⟩, fun k h1 h2 => ?_, fun k hk => ?_⟩
    · rw [(hs (132, 0) k (by simp [stF])).1]; exact a1 k hk
    · rw [(hs (160, 0) k (by simp [stF])).1]; exact b1 k hk
    · rw [(hs (134, 0) k (by simp [stF])).2, (hs (135, 0) k (by simp [stF])).1, (hs (136, 0) k (by simp [stF])).1, (hs (137, 0) k (by simp [stF])).1, (hs (138, 0) k (by simp [stF])).1]
      exact c k h1 h2
    · rw [(hs (140, 0) k (by simp [stF])).1, (hs (141, 0) k (by simp [stF])).1]
      exact d k hk
  have tm : mTm M A → mTm M' A := fun h k h1 h2 => by
    rw [(hs (180, 0) k (by simp [stF])).1, (hs (181, 0) k (by simp [stF])).1]
    exact h k h1 h2
  refine ⟨a.sm hs (by simp [stF]) (by simp [stF]) (fun r hr j => ?_), ⟨fun p hp => ?_, fun p hp => ?_⟩, c.sm hs (fun j => by simp [stF]), d.sm hs (fun r hr j => ?_), ?_, ?_⟩
  · simp only [List.mem_cons, List.mem_nil_iff, or_false] at hr
    rcases hr with e | e | e | e | e | e | e | e <;> subst e <;> simp [stF]
  · rw [(hs (142, 0) p (by simp [stF])).1]; exact b.1 p hp
  · rw [(hs (143, 0) p (by simp [stF])).1]; exact b.2 p hp
  · simp only [List.mem_cons, List.mem_nil_iff, or_false] at hr
    rcases hr with e | e | e <;> subst e <;> simp [stF]
  · rw [e31]; exact e.imp id fun z => ⟨z.1, kn z.2⟩
  · rw [e31, e82]; exact f.imp id fun z => ⟨z.1, fun y => tm (z.2 y)⟩
noncomputable def sWhere (A : dA) (S : dS) (p : Int) : Int := vI (vP A p) (sH S p.toNat)
theorem z_where {A : dA} {S : dS} {M : xM} (h : mZ M A S) {p : Int} (hp : r32 p) : zR (fX12_where [.inr (.inr (12, 0)), .inl (iZ (p))] M) (.inl (iZ (sWhere A S p))) A S := by
  have hP9 := h.1.A.ok.P
  refine ⟨M, ?_, h⟩
  unfold sWhere
  by_cases c : vP A p
  · rw [vI_t c]
    obtain ⟨p, rfl, h1⟩ := c.n
    have f := h.2.1.2.2.1.1 p h1
    show xfix gX12_where (0, [some (.inr (.inr (12, 0))), some (.inl (iZ (p)))], [], M) = _; rw [xfix_unf, sX12_where_0]
    simp (disch := omega) only [xk_none, xk_inl, xk_inr, xk_ite, xri_v, xrl_v, xrv_v, xb_z0, xb_z1, xb_b2, if_true, if_false, ite_true, ite_false, iZ_lit, iZ_m1, iZ_m99, iZ_m8, iZ_add, iZ_sub, iZ_mul, iZ_neg, nz0, nzi, iZ_lt, iZ_le, iZ_inj, b2_z, b2_o, ite_bPz, ite_bPo, xb_bP, iZ_xin, if_pos, ite_self, ↓reduceIte, Int.reduceAdd, Int.reduceSub, Int.reduceMul, Int.reduceNeg, Int.reduceLT, Int.reduceLE, if_neg, k_isPart h.1.A hp, c, iZ_clampN, f]
    rfl
  · rw [vI_f c]
    show xfix gX12_where (0, [some (.inr (.inr (12, 0))), some (.inl (iZ (p)))], [], M) = _; rw [xfix_unf, sX12_where_0]
    simp (disch := omega) only [xk_none, xk_inl, xk_inr, xk_ite, xri_v, xrl_v, xrv_v, xb_z0, xb_z1, xb_b2, if_true, if_false, ite_true, ite_false, iZ_lit, iZ_m1, iZ_m99, iZ_m8, iZ_add, iZ_sub, iZ_mul, iZ_neg, nz0, nzi, iZ_lt, iZ_le, iZ_inj, b2_z, b2_o, ite_bPz, ite_bPo, xb_bP, iZ_xin, if_pos, ite_self, ↓reduceIte, Int.reduceAdd, Int.reduceSub, Int.reduceMul, Int.reduceNeg, Int.reduceLT, Int.reduceLE, if_neg, k_isPart h.1.A hp, c]
def wHp (S : dS) (f : Nat → Nat) (c : Int) : dS := (S.1, S.2.1, (f, c), S.2.2.2)
theorem bit_w {P p : Nat} (h : p < P) : (2 ^ P - 1).testBit p = true := by rw [Nat.testBit_two_pow_sub_one]; exact decide_eq_true h
def nTog (A : dA) (S : dS) : dS := wHp S (fun _ => 2 ^ aP A - 1) 0
theorem z_together {A : dA} {S : dS} {M : xM} (h : mZ M A S) : zR (fX12_together [.inr (.inr (12, 0))] M) (.inl (iZ (sC S))) A (nTog A S) := by
  obtain ⟨hQ, hS, hO, hF⟩ := h
  have hP := pow9 hQ.A.ok.P
  have hP9 := hQ.A.ok.P
  have ew : ((2 ^ aP A : Nat) : Int) - 1 = ((2 ^ aP A - 1 : Nat) : Int) := by omega
  obtain ⟨N, a1, a2, a3⟩ := xfor_M (sg := gX12_together) (st := fun k M => (7, [some (.inr (.inr (12, 0))), some (.inl (iZ ((sC S)))), some (.inl (iZ (k)))], [], M)) (I := fun k N => xSame (fun r => r = (157, 0)) M N ∧ ∀ j, j < k → xI N (157, 0) j = iZ ((2 ^ aP A - 1 : Nat) : Int)) (n := aP A) (fun k N hk hN => by
    have hNA := hQ.A.fr hN.1 (by decide)
    have w0 := m_whole N hNA.P
    rw [ew] at w0
    refine ⟨xpI N (157, 0) k (iZ ((2 ^ aP A - 1 : Nat) : Int)), ?_, hN.1.pI rfl, fun j hj => ?_⟩
    · rw [xfix_unf, sX12_together_7]
      simp (disch := omega) only [xk_none, xk_inl, xk_inr, xk_ite, xri_v, xrl_v, xrv_v, xb_z0, xb_z1, xb_b2, if_true, if_false, ite_true, ite_false, iZ_lit, iZ_m1, iZ_m99, iZ_m8, iZ_add, iZ_sub, iZ_mul, iZ_neg, nz0, nzi, iZ_lt, iZ_le, iZ_inj, b2_z, b2_o, ite_bPz, ite_bPo, xb_bP, iZ_xin, if_pos, ite_self, ↓reduceIte, Int.reduceAdd, Int.reduceSub, Int.reduceMul, Int.reduceNeg, Int.reduceLT, Int.reduceLE, if_neg, nS, iZ_clampN, iZ_bit, iZ_one, iZ_and, iZ_or, iZ_ndn, hNA.P.1, w0]
    · rw [xI_pI]
      by_cases e : j = k
      · rw [if_pos ⟨rfl, e⟩]
      · rw [if_neg (fun z => e z.2)]; exact hN.2 j (by omega)) (a := 0) (M := M) (by omega) ⟨xSame.rf, fun j hj => by omega⟩
  have hNA := hQ.A.fr a2 (by decide)
  have hs : xSm stF M (xpI N (12, 0) 58 (iZ 0)) := (a2.sm.wk fun r j z => .inr (.inr (.inl z))).pI (.inl ⟨rfl, .inr (.inr (.inr (.inl rfl)))⟩)
  refine ⟨xpI N (12, 0) 58 (iZ 0), ?_, hQ.st hs, ?_, ?_, hF⟩
  · have f := hS.2.2.1.2
    show xfix gX12_together (0, [some (.inr (.inr (12, 0))), none, none], [], M) = _; rw [xfix_unf, sX12_together_0]
    simp (disch := omega) only [xk_none, xk_inl, xk_inr, xk_ite, xri_v, xrl_v, xrv_v, xb_z0, xb_z1, xb_b2, if_true, if_false, ite_true, ite_false, iZ_lit, iZ_m1, iZ_m99, iZ_m8, iZ_add, iZ_sub, iZ_mul, iZ_neg, nz0, nzi, iZ_lt, iZ_le, iZ_inj, b2_z, b2_o, ite_bPz, ite_bPo, xb_bP, iZ_xin, if_pos, ite_self, ↓reduceIte, Int.reduceAdd, Int.reduceSub, Int.reduceMul, Int.reduceNeg, Int.reduceLT, Int.reduceLE, if_neg, f]
    refine a1.trans ?_
    rw [xfix_unf, sX12_together_7]
    simp (disch := omega) only [xk_none, xk_inl, xk_inr, xk_ite, xri_v, xrl_v, xrv_v, xb_z0, xb_z1, xb_b2, if_true, if_false, ite_true, ite_false, iZ_lit, iZ_m1, iZ_m99, iZ_m8, iZ_add, iZ_sub, iZ_mul, iZ_neg, nz0, nzi, iZ_lt, iZ_le, iZ_inj, b2_z, b2_o, ite_bPz, ite_bPo, xb_bP, iZ_xin, if_pos, ite_self, ↓reduceIte, Int.reduceAdd, Int.reduceSub, Int.reduceMul, Int.reduceNeg, Int.reduceLT, Int.reduceLE, if_neg, nS, iZ_clampN, iZ_bit, iZ_one, iZ_and, iZ_or, iZ_ndn, hNA.P.1]
  · obtain ⟨⟨b1, b2⟩, ⟨c1, c2⟩, ⟨d1, d2⟩, e, f1, f2, f3, f4⟩ := hS
    refine ⟨⟨?_, fun k hk => ?_⟩, ⟨?_, ?_⟩, ⟨fun p hp => ?_, ?_⟩, fun q hq => ⟨?_, fun k hk => ?_⟩, ?_, ?_, ?_, ?_⟩
    · rw [xI_pI, if_neg (by decide), (a2 (12, 0) (by decide)).1]; exact b1
    · rw [xI_pI_ne (by decide), (a2 (110, 0) (by decide)).1]; exact b2 k hk
    · rw [xI_pI, if_neg (by decide), (a2 (12, 0) (by decide)).1]; exact c1
    · rw [xI_pI, if_neg (by decide), (a2 (12, 0) (by decide)).1]; exact c2
    · rw [xI_pI_ne (by decide)]; exact a3 p hp
    · rw [xI_pI, if_pos ⟨rfl, rfl⟩]; rfl
    · rw [(hs (166, 0) q (by simp [stF])).1]; exact (e q hq).1
    · rw [(hs (165, 0) (6 * q + k) (by simp [stF])).1]; exact (e q hq).2 k hk
    · rw [xI_pI, if_neg (by decide), (a2 (12, 0) (by decide)).1]; exact f1
    · rw [xI_pI, if_neg (by decide), (a2 (12, 0) (by decide)).1]; exact f2
    · rw [xI_pI, if_neg (by decide), (a2 (12, 0) (by decide)).1]; exact f3
    · rw [xI_pI, if_neg (by decide), (a2 (12, 0) (by decide)).1]; exact f4
  · obtain ⟨o1, o2, o3, o4⟩ := hO
    exact ⟨o1, o2, fun p hp => ⟨by show 2 ^ aP A - 1 < 2 ^ aP A; omega, bit_w hp⟩, o4⟩
noncomputable def lbt (s : Nat) : Nat := lst (fun i => s.testBit i = true) 9
theorem lbt_is {s : Nat} (h1 : 1 ≤ s) (h2 : s < 512) : lbt s < 9 ∧ s.testBit (lbt s) = true := by
  have h : lbt s < 9 := by
    refine Nat.lt_of_not_le fun z => ?_
    have hz : s = 0 := Nat.eq_of_testBit_eq fun i => by
      rw [Nat.zero_testBit]
      by_cases hi : i < 9
      · cases x : s.testBit i with
        | false => rfl
        | true => exact absurd x (lst_no (fun i => s.testBit i = true) 9 i (by unfold lbt at z; omega))
      · exact Nat.testBit_lt_two_pow (Nat.lt_of_lt_of_le h2 (Nat.pow_le_pow_right (n := 2) (by decide) (show 9 ≤ i by omega)))
    omega
  exact ⟨h, lst_is (fun i => s.testBit i = true) 9 h⟩
/-- the heap of which a set would be taken -/
noncomputable def hpO (S : dS) (half : Nat) : Nat := sH S (lbt half)
def apC (A : dA) (S : dS) (b w : Int) : Prop := vH A b ∧ vW w ∧ vF A (hpO S b.toNat) b ∧ gdw A (barS A) (hpO S b.toNat) b.toNat w.toNat
def spl (heap half : Nat) (f : Nat → Nat) (q : Nat) : Nat := if heap.testBit q = true then (if half.testBit q = true then half else ndn heap half) else f q
noncomputable def nApart (A : dA) (S : dS) (b w : Int) : dS := @ite _ (apC A S b w) (Classical.propDecidable _) (wHp S (spl (hpO S b.toNat) b.toNat (sH S)) (sC S + 1)) S
noncomputable def sApart (A : dA) (S : dS) (b w : Int) : Int := vI (apC A S b w) (sC S + 1 + 1)
theorem z_apart {A : dA} {S : dS} {M : xM} (h : mZ M A S) {b w : Int} (hb : r32 b) (hw : r32 w) : zR (fX12_apart [.inr (.inr (12, 0)), .inl (iZ (b)), .inl (iZ (w))] M) (.inl (iZ (sApart A S b w))) A (nApart A S b w) := by
  obtain ⟨hQ, hS, hO, hF⟩ := h
  have hP := pow9 hQ.A.ok.P
  have hP9 := hQ.A.ok.P
  have no : ¬ apC A S b w → ∀ M', fX12_apart [.inr (.inr (12, 0)), .inl (iZ (b)), .inl (iZ (w))] M = some (some (.inl (iZ (-1))), M') → mZ M' A S → zR (fX12_apart [.inr (.inr (12, 0)), .inl (iZ (b)), .inl (iZ (w))] M) (.inl (iZ (sApart A S b w))) A (nApart A S b w) := fun z M' e hz => by
    unfold sApart nApart
    rw [vI_f z, if_neg z]
    exact ⟨M', e, hz⟩
  by_cases c1 : vH A b
  · by_cases c2 : vW w
    · obtain ⟨b, rfl, h1, h2⟩ := c1.n
      obtain ⟨w, rfl, hw2⟩ := c2.n
      have enb : ((b : Int)).toNat = b := by omega
      have enw : ((w : Int)).toNat = w := by omega
      obtain ⟨l1, l2⟩ := lbt_is h1 (by omega : b < 512)
      have lP : lbt b < aP A := Nat.lt_of_not_le fun z => by
        rw [Nat.testBit_lt_two_pow (Nat.lt_of_lt_of_le h2 (Nat.pow_le_pow_right (by decide) z))] at l2
        cases l2
      have top : fX12_apart [.inr (.inr (12, 0)), .inl (iZ (b)), .inl (iZ (w))] M = xfix gX12_apart (19, [some (.inr (.inr (12, 0))), some (.inl (iZ (b))), some (.inl (iZ (w))), some (.inl (iZ ((lbt b)))), none, none], [], M) := by
        have hl := xfor_F (sg := gX12_apart) (fun i => (19, [some (.inr (.inr (12, 0))), some (.inl (iZ (b))), some (.inl (iZ (w))), some (.inl (iZ (i))), none, none], [], M)) (a := 0) (n := lbt b) (by omega) (fun i _ hi => by
          have hno : ¬ b.testBit i = true := lst_no (fun i => b.testBit i = true) 9 i hi
          rw [xfix_unf, sX12_apart_19]
          simp (disch := omega) only [xk_none, xk_inl, xk_inr, xk_ite, xri_v, xrl_v, xrv_v, xb_z0, xb_z1, xb_b2, if_true, if_false, ite_true, ite_false, iZ_lit, iZ_m1, iZ_m99, iZ_m8, iZ_add, iZ_sub, iZ_mul, iZ_neg, nz0, nzi, iZ_lt, iZ_le, iZ_inj, b2_z, b2_o, ite_bPz, ite_bPo, xb_bP, iZ_xin, if_pos, ite_self, ↓reduceIte, Int.reduceAdd, Int.reduceSub, Int.reduceMul, Int.reduceNeg, Int.reduceLT, Int.reduceLE, if_neg, nS, iZ_clampN, iZ_bit, iZ_one, iZ_and, iZ_or, iZ_ndn, if_neg hno])
        show xfix gX12_apart (0, [some (.inr (.inr (12, 0))), some (.inl (iZ (b))), some (.inl (iZ (w))), none, none, none], [], M) = _; rw [xfix_unf, sX12_apart_0]
        simp (disch := omega) only [xk_none, xk_inl, xk_inr, xk_ite, xri_v, xrl_v, xrv_v, xb_z0, xb_z1, xb_b2, if_true, if_false, ite_true, ite_false, iZ_lit, iZ_m1, iZ_m99, iZ_m8, iZ_add, iZ_sub, iZ_mul, iZ_neg, nz0, nzi, iZ_lt, iZ_le, iZ_inj, b2_z, b2_o, ite_bPz, ite_bPo, xb_bP, iZ_xin, if_pos, ite_self, ↓reduceIte, Int.reduceAdd, Int.reduceSub, Int.reduceMul, Int.reduceNeg, Int.reduceLT, Int.reduceLE, if_neg, k_isHeap hQ.A hb, c1, k_isWay hw, c2]
        exact hl
      have f := hS.2.2.1.1 (lbt b) lP
      obtain ⟨o1, o2⟩ := hO.2.2.1 (lbt b) lP
      have kF := k_isHalf hQ.A (a := (sH S (lbt b) : Int)) (b := (b : Int)) (by omega) hb
      by_cases c3 : vF A (sH S (lbt b)) b
      · obtain ⟨M1, a1, a2, a3⟩ := q_cut hQ (a := (sH S (lbt b) : Int)) (b := (b : Int)) (w := (w : Int)) (by omega) hb hw
        have e0 : sCut A (sH S (lbt b)) b w = ind (gdw A (barS A) (sH S (lbt b)) b w) := by
          unfold sCut
          rw [vI_t ⟨c3, c2⟩]
          rfl
        rw [e0] at a1
        have hib := ind_b (gdw A (barS A) (sH S (lbt b)) b w)
        by_cases c4 : gdw A (barS A) (sH S (lbt b)) b w
        · have hap : apC A S b w := ⟨c1, c2, c3, c4⟩
          unfold sApart nApart
          rw [vI_t hap, if_pos hap, enb]
          rw [ind_t c4] at a1
          have hp0 : hpO S b = sH S (lbt b) := rfl
          rw [hp0]
          generalize hH : sH S (lbt b) = H at *
          have hS1 := hS.ro a3
          have hle := ndn_le H b
          obtain ⟨N, g1, g2, g3⟩ := xfor_M (sg := gX12_apart) (st := fun k M => (68, [some (.inr (.inr (12, 0))), some (.inl (iZ (b))), none, none, some (.inl (iZ (H))), some (.inl (iZ (k)))], [], M)) (I := fun k N => xSame (fun r => r = (157, 0)) M1 N ∧ ∀ q, q < aP A → xI N (157, 0) q = iZ (if q < k then spl H b (sH S) q else sH S q : Nat)) (n := aP A) (fun k N hk hN => by
            have hNA := a2.A.fr hN.1 (by decide)
            have hNk := hN.2 k hk
            rw [if_neg (by omega)] at hNk
            have upd : ∀ v : Nat, spl H b (sH S) k = v → ∀ q, q < aP A → xI (xpI N (157, 0) k (iZ v)) (157, 0) q = iZ (if q < k + 1 then spl H b (sH S) q else sH S q : Nat) := fun v hv q hq => by
              rw [xI_pI]
              by_cases e : q = k
              · rw [if_pos ⟨rfl, e⟩, if_pos (by omega), e, hv]
              · rw [if_neg (fun z => e z.2), hN.2 q hq]
                by_cases e2 : q < k
                · rw [if_pos e2, if_pos (by omega)]
                · rw [if_neg e2, if_neg (by omega)]
            by_cases d1 : H.testBit k = true
            · by_cases d2 : b.testBit k = true
              · refine ⟨xpI N (157, 0) k (iZ b), ?_, hN.1.pI rfl, upd b (by unfold spl; rw [if_pos d1, if_pos d2])⟩
                rw [xfix_unf, sX12_apart_68]
                simp (disch := omega) only [xk_none, xk_inl, xk_inr, xk_ite, xri_v, xrl_v, xrv_v, xb_z0, xb_z1, xb_b2, if_true, if_false, ite_true, ite_false, iZ_lit, iZ_m1, iZ_m99, iZ_m8, iZ_add, iZ_sub, iZ_mul, iZ_neg, nz0, nzi, iZ_lt, iZ_le, iZ_inj, b2_z, b2_o, ite_bPz, ite_bPo, xb_bP, iZ_xin, if_pos, ite_self, ↓reduceIte, Int.reduceAdd, Int.reduceSub, Int.reduceMul, Int.reduceNeg, Int.reduceLT, Int.reduceLE, if_neg, nS, iZ_clampN, iZ_bit, iZ_one, iZ_and, iZ_or, iZ_ndn, hNA.P.1, if_pos d1, if_pos d2]
              · refine ⟨xpI N (157, 0) k (iZ (ndn H b)), ?_, hN.1.pI rfl, upd (ndn H b) (by unfold spl; rw [if_pos d1, if_neg d2])⟩
                rw [xfix_unf, sX12_apart_68]
                simp (disch := omega) only [xk_none, xk_inl, xk_inr, xk_ite, xri_v, xrl_v, xrv_v, xb_z0, xb_z1, xb_b2, if_true, if_false, ite_true, ite_false, iZ_lit, iZ_m1, iZ_m99, iZ_m8, iZ_add, iZ_sub, iZ_mul, iZ_neg, nz0, nzi, iZ_lt, iZ_le, iZ_inj, b2_z, b2_o, ite_bPz, ite_bPo, xb_bP, iZ_xin, if_pos, ite_self, ↓reduceIte, Int.reduceAdd, Int.reduceSub, Int.reduceMul, Int.reduceNeg, Int.reduceLT, Int.reduceLE, if_neg, nS, iZ_clampN, iZ_bit, iZ_one, iZ_and, iZ_or, iZ_ndn, hNA.P.1, if_pos d1, if_neg d2]
            · refine ⟨N, ?_, hN.1, fun q hq => ?_⟩
              · rw [xfix_unf, sX12_apart_68]
                simp (disch := omega) only [xk_none, xk_inl, xk_inr, xk_ite, xri_v, xrl_v, xrv_v, xb_z0, xb_z1, xb_b2, if_true, if_false, ite_true, ite_false, iZ_lit, iZ_m1, iZ_m99, iZ_m8, iZ_add, iZ_sub, iZ_mul, iZ_neg, nz0, nzi, iZ_lt, iZ_le, iZ_inj, b2_z, b2_o, ite_bPz, ite_bPo, xb_bP, iZ_xin, if_pos, ite_self, ↓reduceIte, Int.reduceAdd, Int.reduceSub, Int.reduceMul, Int.reduceNeg, Int.reduceLT, Int.reduceLE, if_neg, nS, iZ_clampN, iZ_bit, iZ_one, iZ_and, iZ_or, iZ_ndn, hNA.P.1, if_neg d1]
              · rw [hN.2 q hq]
                by_cases e : q = k
                · subst e
                  rw [if_neg (by omega), if_pos (by omega)]
                  unfold spl
                  rw [if_neg d1]
                · by_cases e2 : q < k
                  · rw [if_pos e2, if_pos (by omega)]
                  · rw [if_neg e2, if_neg (by omega)]) (a := 0) (M := M1) (by omega) ⟨xSame.rf, fun q hq => by rw [if_neg (by omega)]; exact hS1.2.2.1.1 q hq⟩
          have hNA := a2.A.fr g2 (by decide)
          have f58 : xI N (12, 0) 58 = iZ (sC S) := by rw [(g2 (12, 0) (by decide)).1]; exact hS1.2.2.1.2
          have hs : xSm stF M1 (xpI N (12, 0) 58 (iZ (sC S + 1))) := (g2.sm.wk fun r j z => .inr (.inr (.inl z))).pI (.inl ⟨rfl, .inr (.inr (.inr (.inl rfl)))⟩)
          refine ⟨xpI N (12, 0) 58 (iZ (sC S + 1)), ?_, a2.st hs, ?_, ?_, hF⟩
          · rw [top]
            have t1 : xfix gX12_apart (19, [some (.inr (.inr (12, 0))), some (.inl (iZ (b))), some (.inl (iZ (w))), some (.inl (iZ ((lbt b)))), none, none], [], M) = xfix gX12_apart (68, [some (.inr (.inr (12, 0))), some (.inl (iZ (b))), none, none, some (.inl (iZ (H))), some (.inl (iZ ((0 : Nat))))], [], M1) := by
              rw [xfix_unf, sX12_apart_19]
              simp (disch := omega) only [xk_none, xk_inl, xk_inr, xk_ite, xri_v, xrl_v, xrv_v, xb_z0, xb_z1, xb_b2, if_true, if_false, ite_true, ite_false, iZ_lit, iZ_m1, iZ_m99, iZ_m8, iZ_add, iZ_sub, iZ_mul, iZ_neg, nz0, nzi, iZ_lt, iZ_le, iZ_inj, b2_z, b2_o, ite_bPz, ite_bPo, xb_bP, iZ_xin, if_pos, ite_self, ↓reduceIte, Int.reduceAdd, Int.reduceSub, Int.reduceMul, Int.reduceNeg, Int.reduceLT, Int.reduceLE, if_neg, nS, iZ_clampN, iZ_bit, iZ_one, iZ_and, iZ_or, iZ_ndn, if_pos l2, f, kF, c3, a1]
              rfl
            have f58' : xI (xpI N (12, 0) 58 (iZ (sC S + 1))) (12, 0) 58 = iZ (sC S + 1) := by rw [xI_pI, if_pos ⟨rfl, rfl⟩]
            rw [t1, g1]
            rw [xfix_unf, sX12_apart_68]
            simp (disch := omega) only [xk_none, xk_inl, xk_inr, xk_ite, xri_v, xrl_v, xrv_v, xb_z0, xb_z1, xb_b2, if_true, if_false, ite_true, ite_false, iZ_lit, iZ_m1, iZ_m99, iZ_m8, iZ_add, iZ_sub, iZ_mul, iZ_neg, nz0, nzi, iZ_lt, iZ_le, iZ_inj, b2_z, b2_o, ite_bPz, ite_bPo, xb_bP, iZ_xin, if_pos, ite_self, ↓reduceIte, Int.reduceAdd, Int.reduceSub, Int.reduceMul, Int.reduceNeg, Int.reduceLT, Int.reduceLE, if_neg, nS, iZ_clampN, iZ_bit, iZ_one, iZ_and, iZ_or, iZ_ndn, hNA.P.1, f58, f58']
          · obtain ⟨⟨b1, b2⟩, ⟨x1, x2⟩, ⟨d1, d2⟩, e, f1, f2, f3, f4⟩ := hS1
            refine ⟨⟨?_, fun k hk => ?_⟩, ⟨?_, ?_⟩, ⟨fun p hp => ?_, ?_⟩, fun q hq => ⟨?_, fun k hk => ?_⟩, ?_, ?_, ?_, ?_⟩
            · rw [xI_pI, if_neg (by decide), (g2 (12, 0) (by decide)).1]; exact b1
            · rw [xI_pI_ne (by decide), (g2 (110, 0) (by decide)).1]; exact b2 k hk
            · rw [xI_pI, if_neg (by decide), (g2 (12, 0) (by decide)).1]; exact x1
            · rw [xI_pI, if_neg (by decide), (g2 (12, 0) (by decide)).1]; exact x2
            · rw [xI_pI_ne (by decide), g3 p hp, if_pos hp]; rfl
            · rw [xI_pI, if_pos ⟨rfl, rfl⟩]; rfl
            · rw [(hs (166, 0) q (by simp [stF])).1]; exact (e q hq).1
            · rw [(hs (165, 0) (6 * q + k) (by simp [stF])).1]; exact (e q hq).2 k hk
            · rw [xI_pI, if_neg (by decide), (g2 (12, 0) (by decide)).1]; exact f1
            · rw [xI_pI, if_neg (by decide), (g2 (12, 0) (by decide)).1]; exact f2
            · rw [xI_pI, if_neg (by decide), (g2 (12, 0) (by decide)).1]; exact f3
            · rw [xI_pI, if_neg (by decide), (g2 (12, 0) (by decide)).1]; exact f4
          · obtain ⟨p1, p2, p3, p4⟩ := hO
            refine ⟨p1, p2, fun p hp => ?_, p4⟩
            show spl H b (sH S) p < 2 ^ aP A ∧ (spl H b (sH S) p).testBit p = true
            unfold spl
            by_cases d1 : H.testBit p = true
            · rw [if_pos d1]
              by_cases d2 : b.testBit p = true
              · rw [if_pos d2]; exact ⟨h2, d2⟩
              · rw [if_neg d2]
                exact ⟨by omega, by rw [ndn_bit, d1, Bool.eq_false_iff.mpr d2]; rfl⟩
            · rw [if_neg d1]; exact p3 p hp
        · refine no (fun z => c4 (by have := z.2.2.2; rw [enb, enw] at this; exact this)) M1 ?_ ⟨a2, hS.ro a3, hO, hF⟩
          rw [ind_f c4] at a1
          rw [top]
          rw [xfix_unf, sX12_apart_19]
          simp (disch := omega) only [xk_none, xk_inl, xk_inr, xk_ite, xri_v, xrl_v, xrv_v, xb_z0, xb_z1, xb_b2, if_true, if_false, ite_true, ite_false, iZ_lit, iZ_m1, iZ_m99, iZ_m8, iZ_add, iZ_sub, iZ_mul, iZ_neg, nz0, nzi, iZ_lt, iZ_le, iZ_inj, b2_z, b2_o, ite_bPz, ite_bPo, xb_bP, iZ_xin, if_pos, ite_self, ↓reduceIte, Int.reduceAdd, Int.reduceSub, Int.reduceMul, Int.reduceNeg, Int.reduceLT, Int.reduceLE, if_neg, nS, iZ_clampN, iZ_bit, iZ_one, iZ_and, iZ_or, iZ_ndn, if_pos l2, f, kF, c3, a1]
      · refine no (fun z => c3 (by have := z.2.2.1; rw [enb] at this; exact this)) M ?_ ⟨hQ, hS, hO, hF⟩
        rw [top]
        rw [xfix_unf, sX12_apart_19]
        simp (disch := omega) only [xk_none, xk_inl, xk_inr, xk_ite, xri_v, xrl_v, xrv_v, xb_z0, xb_z1, xb_b2, if_true, if_false, ite_true, ite_false, iZ_lit, iZ_m1, iZ_m99, iZ_m8, iZ_add, iZ_sub, iZ_mul, iZ_neg, nz0, nzi, iZ_lt, iZ_le, iZ_inj, b2_z, b2_o, ite_bPz, ite_bPo, xb_bP, iZ_xin, if_pos, ite_self, ↓reduceIte, Int.reduceAdd, Int.reduceSub, Int.reduceMul, Int.reduceNeg, Int.reduceLT, Int.reduceLE, if_neg, nS, iZ_clampN, iZ_bit, iZ_one, iZ_and, iZ_or, iZ_ndn, if_pos l2, f, kF, c3]
    · refine no (fun z => c2 z.2.1) M ?_ ⟨hQ, hS, hO, hF⟩
      show xfix gX12_apart (0, [some (.inr (.inr (12, 0))), some (.inl (iZ (b))), some (.inl (iZ (w))), none, none, none], [], M) = _; rw [xfix_unf, sX12_apart_0]
      simp (disch := omega) only [xk_none, xk_inl, xk_inr, xk_ite, xri_v, xrl_v, xrv_v, xb_z0, xb_z1, xb_b2, if_true, if_false, ite_true, ite_false, iZ_lit, iZ_m1, iZ_m99, iZ_m8, iZ_add, iZ_sub, iZ_mul, iZ_neg, nz0, nzi, iZ_lt, iZ_le, iZ_inj, b2_z, b2_o, ite_bPz, ite_bPo, xb_bP, iZ_xin, if_pos, ite_self, ↓reduceIte, Int.reduceAdd, Int.reduceSub, Int.reduceMul, Int.reduceNeg, Int.reduceLT, Int.reduceLE, if_neg, k_isHeap hQ.A hb, c1, k_isWay hw, c2]
  · refine no (fun z => c1 z.1) M ?_ ⟨hQ, hS, hO, hF⟩
    show xfix gX12_apart (0, [some (.inr (.inr (12, 0))), some (.inl (iZ (b))), some (.inl (iZ (w))), none, none, none], [], M) = _; rw [xfix_unf, sX12_apart_0]
    simp (disch := omega) only [xk_none, xk_inl, xk_inr, xk_ite, xri_v, xrl_v, xrv_v, xb_z0, xb_z1, xb_b2, if_true, if_false, ite_true, ite_false, iZ_lit, iZ_m1, iZ_m99, iZ_m8, iZ_add, iZ_sub, iZ_mul, iZ_neg, nz0, nzi, iZ_lt, iZ_le, iZ_inj, b2_z, b2_o, ite_bPz, ite_bPo, xb_bP, iZ_xin, if_pos, ite_self, ↓reduceIte, Int.reduceAdd, Int.reduceSub, Int.reduceMul, Int.reduceNeg, Int.reduceLT, Int.reduceLE, if_neg, k_isHeap hQ.A hb, c1]
def sFault (S : dS) (w : Int) : Int := if w = 0 then sFk S else if w = 1 then sFp S else -1
theorem z_fault {A : dA} {S : dS} {M : xM} (h : mZ M A S) {w : Int} (hw : r32 w) : zR (fX12_fault [.inr (.inr (12, 0)), .inl (iZ (w))] M) (.inl (iZ (sFault S w))) A S := by
  refine ⟨M, ?_, h⟩
  obtain ⟨f1, f2⟩ := h.2.1.2.1
  unfold sFault
  show xfix gX12_fault (0, [some (.inr (.inr (12, 0))), some (.inl (iZ (w)))], [], M) = _; rw [xfix_unf, sX12_fault_0]
  simp (disch := omega) only [xk_none, xk_inl, xk_inr, xk_ite, xri_v, xrl_v, xrv_v, xb_z0, xb_z1, xb_b2, if_true, if_false, ite_true, ite_false, iZ_lit, iZ_m1, iZ_m99, iZ_m8, iZ_add, iZ_sub, iZ_mul, iZ_neg, nz0, nzi, iZ_lt, iZ_le, iZ_inj, b2_z, b2_o, ite_bPz, ite_bPo, xb_bP, iZ_xin, if_pos, ite_self, ↓reduceIte, Int.reduceAdd, Int.reduceSub, Int.reduceMul, Int.reduceNeg, Int.reduceLT, Int.reduceLE, if_neg, f1, f2]
  by_cases c1 : w = 0
  · rw [if_pos c1, if_pos c1]
  · rw [if_neg c1, if_neg c1]
    by_cases c2 : w = 1
    · rw [if_pos c2, if_pos c2]
    · rw [if_neg c2, if_neg c2]
def sJudged (S : dS) (w : Int) : Int := if (sJ S).1 = -1 then -1 else if w = 0 then (sJ S).1 else if w = 1 then (sJ S).2.1 else if w = 2 then (sJ S).2.2.1 else if w = 3 then (sJ S).2.2.2 else -1
theorem z_judged {A : dA} {S : dS} {M : xM} (h : mZ M A S) (hj : -1 ≤ (sJ S).1 ∧ (sJ S).1 ≤ 100) {w : Int} (hw : r32 w) : zR (fX12_judged [.inr (.inr (12, 0)), .inl (iZ (w))] M) (.inl (iZ (sJudged S w))) A S := by
  refine ⟨M, ?_, h⟩
  obtain ⟨f1, f2, f3, f4⟩ := h.2.1.2.2.2.2
  unfold sJudged
  show xfix gX12_judged (0, [some (.inr (.inr (12, 0))), some (.inl (iZ (w)))], [], M) = _; rw [xfix_unf, sX12_judged_0]
  simp (disch := omega) only [xk_none, xk_inl, xk_inr, xk_ite, xri_v, xrl_v, xrv_v, xb_z0, xb_z1, xb_b2, if_true, if_false, ite_true, ite_false, iZ_lit, iZ_m1, iZ_m99, iZ_m8, iZ_add, iZ_sub, iZ_mul, iZ_neg, nz0, nzi, iZ_lt, iZ_le, iZ_inj, b2_z, b2_o, ite_bPz, ite_bPo, xb_bP, iZ_xin, if_pos, ite_self, ↓reduceIte, Int.reduceAdd, Int.reduceSub, Int.reduceMul, Int.reduceNeg, Int.reduceLT, Int.reduceLE, if_neg, f1, f2, f3, f4]
  (repeat' split) <;> first | rfl | omega
/-- the byte of a number -/
def byt (y : Int32) : Nat := (y &&& 255).toInt.toNat
theorem byt_d (y : Int32) : ∃ n : Nat, n < 256 ∧ y &&& iZ 255 = iZ n := by
  obtain ⟨k, hk, e⟩ := wb_of32 y
  refine ⟨k % 256, Nat.mod_lt _ (by decide), ?_⟩
  rw [e, show iZ 255 = nI (2 ^ 8 - 1) from rfl, fa_mask, iZ_nI]
theorem byt_lt (y : Int32) : byt y < 256 := by
  obtain ⟨n, h1, h2⟩ := byt_d y
  unfold byt
  rw [show (255 : Int32) = iZ 255 from rfl, h2, iZ_toInt (by omega) (by omega)]
  omega
theorem byt_eq (y : Int32) : y &&& iZ 255 = iZ (byt y) := by
  obtain ⟨n, h1, h2⟩ := byt_d y
  unfold byt
  rw [show (255 : Int32) = iZ 255 from rfl, h2, iZ_toInt (by omega) (by omega)]
  congr 1
def fdA (a b c d e : Int32) (k : Nat) : Int32 := if k < 4 then a else if k < 8 then b else if k < 12 then c else if k < 16 then d else e
def fdB (a b c d e : Int32) (k : Nat) : Nat := byt (fdA a b c d e k >>> (iZ (24 - 8 * ((k % 4 : Nat) : Int)) &&& iZ 31))
def wTp (S : dS) (n : Nat) (f : Nat → Nat) : dS := ((n, f), S.2)
def nFeed (S : dS) (a b c d e : Int32) : dS := if sN S + 20 ≤ 800 then wTp S (sN S + 20) (fun k => if k < sN S then sT S k else fdB a b c d e (k - sN S)) else S
def sFeed (S : dS) : Int := if sN S + 20 ≤ 800 then ((sN S + 20 : Nat) : Int) else -1
theorem z4 (i : Nat) : (i : Int) - (i : Int) / 4 * 4 = ((i % 4 : Nat) : Int) := by omega
theorem z_feed {A : dA} {S : dS} {M : xM} (h : mZ M A S) (a b c d e : Int32) : zR (fX12_feed [.inr (.inr (12, 0)), .inl (a), .inl (b), .inl (c), .inl (d), .inl (e)] M) (.inl (iZ (sFeed S))) A (nFeed S a b c d e) := by
  obtain ⟨hQ, hS, hO, hF⟩ := h
  obtain ⟨⟨b1, b2⟩, hS2⟩ := hS
  have hn := hO.1
  unfold sFeed nFeed
  by_cases c0 : sN S + 20 ≤ 800
  · rw [if_pos c0, if_pos c0]
    obtain ⟨N, g1, g2, g3, g4⟩ := xfor_M (sg := gX12_feed) (st := fun k M => (18, [some (.inr (.inr (12, 0))), some (.inl (a)), some (.inl (b)), some (.inl (c)), some (.inl (d)), some (.inl (e)), some (.inl (iZ (k))), none], [], M)) (I := fun k N => xSm (fun r j => r = (110, 0) ∨ (r = (12, 0) ∧ j = 18)) M N ∧ xI N (12, 0) 18 = iZ (sN S + k : Nat) ∧ ∀ j, j < sN S + k → xI N (110, 0) j = iZ (if j < sN S then sT S j else fdB a b c d e (j - sN S) : Nat)) (n := 20) (fun k N hk hN => by
      obtain ⟨n1, n2, n3⟩ := hN
      have t1 : xfix gX12_feed (18, [some (.inr (.inr (12, 0))), some (.inl (a)), some (.inl (b)), some (.inl (c)), some (.inl (d)), some (.inl (e)), some (.inl (iZ (k))), none], [], N) = xfix gX12_feed (71, [some (.inr (.inr (12, 0))), some (.inl (a)), some (.inl (b)), some (.inl (c)), some (.inl (d)), some (.inl (e)), some (.inl (iZ (k))), none], [.inl ((fdA a b c d e k))], N) := by
        unfold fdA
        rw [xfix_unf, sX12_feed_18]
        simp (disch := omega) only [xk_none, xk_inl, xk_inr, xk_ite, xri_v, xrl_v, xrv_v, xb_z0, xb_z1, xb_b2, if_true, if_false, ite_true, ite_false, iZ_lit, iZ_m1, iZ_m99, iZ_m8, iZ_add, iZ_sub, iZ_mul, iZ_neg, nz0, nzi, iZ_lt, iZ_le, iZ_inj, b2_z, b2_o, ite_bPz, ite_bPo, xb_bP, iZ_xin, if_pos, ite_self, ↓reduceIte, Int.reduceAdd, Int.reduceSub, Int.reduceMul, Int.reduceNeg, Int.reduceLT, Int.reduceLE, if_neg, nS, iZ_clampN, iZ_bit, iZ_one, iZ_and, iZ_or, iZ_ndn]
        by_cases k1 : k < 4
        · rw [if_pos k1, if_neg (by omega)]
        · rw [if_neg k1, if_pos (by omega)]
          by_cases k2 : k < 8
          · rw [if_pos k2, if_neg (by omega)]
          · rw [if_neg k2, if_pos (by omega)]
            by_cases k3 : k < 12
            · rw [if_pos k3, if_neg (by omega)]
            · rw [if_neg k3, if_pos (by omega)]
              by_cases k4 : k < 16
              · rw [if_pos k4, if_neg (by omega)]
              · rw [if_neg k4, if_pos (by omega)]
      refine ⟨xpI (xpI N (110, 0) (sN S + k) (iZ (fdB a b c d e k))) (12, 0) 18 (iZ ((sN S + k : Nat) + 1)), ?_, (n1.pI (.inl rfl)).pI (.inr ⟨rfl, rfl⟩), by rw [xI_pI, if_pos ⟨rfl, rfl⟩]; congr 1, fun j hj => ?_⟩
      · have f18 : xI (xpI N (110, 0) (sN S + k) (iZ (fdB a b c d e k))) (12, 0) 18 = iZ (sN S + k : Nat) := by rw [xI_pI_ne (by decide)]; exact n2
        have eb : (fdA a b c d e k >>> (iZ (24 - 8 * ((k % 4 : Nat) : Int)) &&& iZ 31)) &&& iZ 255 = iZ (fdB a b c d e k) := byt_eq _
        rw [t1]
        generalize hm : sN S + k = m at *
        rw [xfix_unf, sX12_feed_71]
        simp (disch := omega) only [xk_none, xk_inl, xk_inr, xk_ite, xri_v, xrl_v, xrv_v, xb_z0, xb_z1, xb_b2, if_true, if_false, ite_true, ite_false, iZ_lit, iZ_m1, iZ_m99, iZ_m8, iZ_add, iZ_sub, iZ_mul, iZ_neg, nz0, nzi, iZ_lt, iZ_le, iZ_inj, b2_z, b2_o, ite_bPz, ite_bPo, xb_bP, iZ_xin, if_pos, ite_self, ↓reduceIte, Int.reduceAdd, Int.reduceSub, Int.reduceMul, Int.reduceNeg, Int.reduceLT, Int.reduceLE, if_neg, nS, iZ_clampN, iZ_bit, iZ_one, iZ_and, iZ_or, iZ_ndn, n2, iZ_div, z4, eb, f18]
      · rw [xI_pI_ne (by decide), xI_pI]
        by_cases ej : j = sN S + k
        · rw [if_pos ⟨rfl, ej⟩, if_neg (by omega), ej, show sN S + k - sN S = k by omega]
        · rw [if_neg (fun z => ej z.2)]; exact n3 j (by omega)) (a := 0) (M := M) (by omega) ⟨xSm.rf, b1, fun j hj => by rw [if_pos (by omega)]; exact b2 j (by omega)⟩
    have hs : xSm stF M N := g2.wk fun r j z => z.elim (fun z => .inr (.inl z)) (fun z => .inl ⟨z.1, .inl z.2⟩)
    refine ⟨N, ?_, hQ.st hs, ?_, ?_, hF⟩
    · show xfix gX12_feed (0, [some (.inr (.inr (12, 0))), some (.inl (a)), some (.inl (b)), some (.inl (c)), some (.inl (d)), some (.inl (e)), none, none], [], M) = _; rw [xfix_unf, sX12_feed_0]
      simp (disch := omega) only [xk_none, xk_inl, xk_inr, xk_ite, xri_v, xrl_v, xrv_v, xb_z0, xb_z1, xb_b2, if_true, if_false, ite_true, ite_false, iZ_lit, iZ_m1, iZ_m99, iZ_m8, iZ_add, iZ_sub, iZ_mul, iZ_neg, nz0, nzi, iZ_lt, iZ_le, iZ_inj, b2_z, b2_o, ite_bPz, ite_bPo, xb_bP, iZ_xin, if_pos, ite_self, ↓reduceIte, Int.reduceAdd, Int.reduceSub, Int.reduceMul, Int.reduceNeg, Int.reduceLT, Int.reduceLE, if_neg, b1]
      refine g1.trans ?_
      rw [xfix_unf, sX12_feed_18]
      simp (disch := omega) only [xk_none, xk_inl, xk_inr, xk_ite, xri_v, xrl_v, xrv_v, xb_z0, xb_z1, xb_b2, if_true, if_false, ite_true, ite_false, iZ_lit, iZ_m1, iZ_m99, iZ_m8, iZ_add, iZ_sub, iZ_mul, iZ_neg, nz0, nzi, iZ_lt, iZ_le, iZ_inj, b2_z, b2_o, ite_bPz, ite_bPo, xb_bP, iZ_xin, if_pos, ite_self, ↓reduceIte, Int.reduceAdd, Int.reduceSub, Int.reduceMul, Int.reduceNeg, Int.reduceLT, Int.reduceLE, if_neg, g3]
    · obtain ⟨⟨c1, c2⟩, ⟨d1, d2⟩, x, f1, f2, f3, f4⟩ := hS2
      refine ⟨⟨g3, fun k hk => g4 k hk⟩, ⟨?_, ?_⟩, ⟨fun p hp => ?_, ?_⟩, fun q hq => ⟨?_, fun k hk => ?_⟩, ?_, ?_, ?_, ?_⟩
      · rw [(g2 (12, 0) 25 (by simp)).1]; exact c1
      · rw [(g2 (12, 0) 29 (by simp)).1]; exact c2
      · rw [(g2 (157, 0) p (by simp)).1]; exact d1 p hp
      · rw [(g2 (12, 0) 58 (by simp)).1]; exact d2
      · rw [(g2 (166, 0) q (by simp)).1]; exact (x q hq).1
      · rw [(g2 (165, 0) (6 * q + k) (by simp)).1]; exact (x q hq).2 k hk
      · rw [(g2 (12, 0) 71 (by simp)).1]; exact f1
      · rw [(g2 (12, 0) 72 (by simp)).1]; exact f2
      · rw [(g2 (12, 0) 73 (by simp)).1]; exact f3
      · rw [(g2 (12, 0) 74 (by simp)).1]; exact f4
    · obtain ⟨p1, p2, p3, p4⟩ := hO
      refine ⟨c0, fun k hk => ?_, p3, p4⟩
      show (if k < sN S then sT S k else fdB a b c d e (k - sN S)) < 256
      split
      · rename_i hh; exact p2 k hh
      · exact byt_lt _
  · rw [if_neg c0, if_neg c0]
    refine ⟨M, ?_, hQ, ⟨⟨b1, b2⟩, hS2⟩, hO, hF⟩
    show xfix gX12_feed (0, [some (.inr (.inr (12, 0))), some (.inl (a)), some (.inl (b)), some (.inl (c)), some (.inl (d)), some (.inl (e)), none, none], [], M) = _; rw [xfix_unf, sX12_feed_0]
    simp (disch := omega) only [xk_none, xk_inl, xk_inr, xk_ite, xri_v, xrl_v, xrv_v, xb_z0, xb_z1, xb_b2, if_true, if_false, ite_true, ite_false, iZ_lit, iZ_m1, iZ_m99, iZ_m8, iZ_add, iZ_sub, iZ_mul, iZ_neg, nz0, nzi, iZ_lt, iZ_le, iZ_inj, b2_z, b2_o, ite_bPz, ite_bPo, xb_bP, iZ_xin, if_pos, ite_self, ↓reduceIte, Int.reduceAdd, Int.reduceSub, Int.reduceMul, Int.reduceNeg, Int.reduceLT, Int.reduceLE, if_neg, b1]
noncomputable def nEnd (S : dS) (n : Int) : dS := @ite _ (0 ≤ n ∧ n ≤ sN S) (Classical.propDecidable _) (wTp S n.toNat (sT S)) S
theorem z_end {A : dA} {S : dS} {M : xM} (h : mZ M A S) {n : Int} (hn : r32 n) : zR (fX12_end [.inr (.inr (12, 0)), .inl (iZ (n))] M) (.inl (bP (0 ≤ n ∧ n ≤ sN S))) A (nEnd S n) := by
  obtain ⟨hQ, hS, hO, hF⟩ := h
  obtain ⟨⟨b1, b2⟩, hS2⟩ := hS
  have hn8 := hO.1
  unfold nEnd
  by_cases c0 : 0 ≤ n ∧ n ≤ sN S
  · rw [bP_t c0, if_pos c0]
    have hs : xSm stF M (xpI M (12, 0) 18 (iZ n)) := xSm.rf.pI (.inl ⟨rfl, .inl rfl⟩)
    refine ⟨xpI M (12, 0) 18 (iZ n), ?_, hQ.st hs, ?_, ?_, hF⟩
    · show xfix gX12_end (0, [some (.inr (.inr (12, 0))), some (.inl (iZ (n)))], [], M) = _; rw [xfix_unf, sX12_end_0]
      simp (disch := omega) only [xk_none, xk_inl, xk_inr, xk_ite, xri_v, xrl_v, xrv_v, xb_z0, xb_z1, xb_b2, if_true, if_false, ite_true, ite_false, iZ_lit, iZ_m1, iZ_m99, iZ_m8, iZ_add, iZ_sub, iZ_mul, iZ_neg, nz0, nzi, iZ_lt, iZ_le, iZ_inj, b2_z, b2_o, ite_bPz, ite_bPo, xb_bP, iZ_xin, if_pos, ite_self, ↓reduceIte, Int.reduceAdd, Int.reduceSub, Int.reduceMul, Int.reduceNeg, Int.reduceLT, Int.reduceLE, if_neg, b1, k_isIn, c0, and_self]
    · obtain ⟨⟨c1, c2⟩, ⟨d1, d2⟩, x, f1, f2, f3, f4⟩ := hS2
      refine ⟨⟨?_, fun k hk => ?_⟩, ⟨?_, ?_⟩, ⟨fun p hp => ?_, ?_⟩, fun q hq => ⟨?_, fun k hk => ?_⟩, ?_, ?_, ?_, ?_⟩
      · rw [xI_pI, if_pos ⟨rfl, rfl⟩]
        show iZ n = iZ ((n.toNat : Nat) : Int)
        congr 1
        omega
      · rw [xI_pI_ne (by decide)]
        have hk2 : k < n.toNat := hk
        exact b2 k (by omega)
      · rw [xI_pI, if_neg (by decide)]; exact c1
      · rw [xI_pI, if_neg (by decide)]; exact c2
      · rw [xI_pI_ne (by decide)]; exact d1 p hp
      · rw [xI_pI, if_neg (by decide)]; exact d2
      · rw [xI_pI_ne (by decide)]; exact (x q hq).1
      · rw [xI_pI_ne (by decide)]; exact (x q hq).2 k hk
      · rw [xI_pI, if_neg (by decide)]; exact f1
      · rw [xI_pI, if_neg (by decide)]; exact f2
      · rw [xI_pI, if_neg (by decide)]; exact f3
      · rw [xI_pI, if_neg (by decide)]; exact f4
    · obtain ⟨p1, p2, p3, p4⟩ := hO
      exact ⟨by show n.toNat ≤ 800; omega, fun k hk => p2 k (by have hk2 : k < n.toNat := hk; omega), p3, p4⟩
  · rw [bP_f c0, if_neg c0]
    refine ⟨M, ?_, hQ, ⟨⟨b1, b2⟩, hS2⟩, hO, hF⟩
    show xfix gX12_end (0, [some (.inr (.inr (12, 0))), some (.inl (iZ (n)))], [], M) = _; rw [xfix_unf, sX12_end_0]
    simp (disch := omega) only [xk_none, xk_inl, xk_inr, xk_ite, xri_v, xrl_v, xrv_v, xb_z0, xb_z1, xb_b2, if_true, if_false, ite_true, ite_false, iZ_lit, iZ_m1, iZ_m99, iZ_m8, iZ_add, iZ_sub, iZ_mul, iZ_neg, nz0, nzi, iZ_lt, iZ_le, iZ_inj, b2_z, b2_o, ite_bPz, ite_bPo, xb_bP, iZ_xin, if_pos, ite_self, ↓reduceIte, Int.reduceAdd, Int.reduceSub, Int.reduceMul, Int.reduceNeg, Int.reduceLT, Int.reduceLE, if_neg, b1, k_isIn, c0]
