/-! the reference: down, to its end -/
theorem dnR_skip {A : dA} {N : xM} {p W heap : Nat} (h1 : 1 ≤ heap) (h : dnR A p W heap N) (hno : ∀ k half, pf (dnE A p) k W heap → dnE A p heap half → False) : dnR A p W (heap - 1) N := fun x x1 x2 => by
  obtain ⟨v, v1, v2, v3⟩ := h x x1 x2
  refine ⟨v, v1, v2, v3.cg fun n => ⟨?_, ?_⟩⟩
  · rintro (z | ⟨k, a, g, b1, b2, b3⟩)
    · exact .inl z
    · exact .inr ⟨k, a, g, by omega, b2, b3⟩
  · rintro (z | ⟨k, a, g, b1, b2, b3⟩)
    · exact .inl z
    · by_cases eg : g = heap
      · subst eg; exact absurd b3 (hno k x b2)
      · exact .inr ⟨k, a, g, by omega, b2, b3⟩
theorem q_down {A : dA} {M : xM} (h : mQ M A) {p : Int} (hp : r32 p) : qR M A (fX12_down [.inr (.inr (12, 0)), .inl (iZ (p))] M) (.inl (iZ (sDown A p))) := by
  have hP := pow9 h.A.ok.P
  have hP9 := h.A.ok.P
  unfold sDown
  by_cases e1 : vP A p
  · obtain ⟨M', a1, a2, a3, a4, a5⟩ := h.kn
    rw [vI_t e1]
    obtain ⟨p, rfl, hp1⟩ := e1.n
    have en : ((p : Int)).toNat = p := by omega
    rw [en]
    have hw1 : 2 ^ 1 ≤ 2 ^ aP A := Nat.pow_le_pow_right (by decide) (by omega)
    have h2p : 2 ^ p < 2 ^ aP A := Nat.pow_lt_pow_right (by decide) hp1
    have h2p0 := Nat.two_pow_pos p
    obtain ⟨N1, b1, b2, b3⟩ := xfor_M (sg := gX12_down) (st := fun k M => (16, [some (.inr (.inr (12, 0))), some (.inl (iZ (p))), some (.inl (iZ (k))), none, none], [], M)) (I := fun i N => xSame (fun r => r = (148, 0)) M' N ∧ ∀ k, k < i → xI N (148, 0) k = iZ (-1)) (n := 512) (fun i N hi hI => by
      refine ⟨xpI N (148, 0) i (iZ (-1)), ?_, hI.1.pI rfl, fun k hk => ?_⟩
      · rw [xfix_unf, sX12_down_16]
        simp (disch := omega) only [xk_none, xk_inl, xk_inr, xk_ite, xri_v, xrl_v, xrv_v, xb_z0, xb_z1, xb_b2, if_true, if_false, ite_true, ite_false, iZ_lit, iZ_m1, iZ_m99, iZ_m8, iZ_add, iZ_sub, iZ_mul, iZ_neg, nz0, nzi, iZ_lt, iZ_le, iZ_inj, b2_z, b2_o, ite_bPz, ite_bPo, xb_bP, iZ_xin, if_pos, ite_self, ↓reduceIte, Int.reduceAdd, Int.reduceSub, Int.reduceMul, Int.reduceNeg, Int.reduceLT, Int.reduceLE, if_neg, nS, iZ_clampN, iZ_bit, iZ_one, iZ_and, iZ_or, iZ_ndn]
      · rw [xI_pI]
        by_cases e : k = i
        · rw [if_pos ⟨rfl, e⟩]
        · rw [if_neg (fun z => e z.2)]; exact hI.2 k (by omega)) (a := 0) (M := M') (by omega) ⟨xSame.rf, fun k hk => by omega⟩
    have ew : ((2 ^ aP A : Nat) : Int) - 1 = ((2 ^ aP A - 1 : Nat) : Int) := by omega
    have hN1 := a2.A.fr b2 (by decide)
    have n2 : xSame (fun r => r = (148, 0)) M' (xpI N1 (148, 0) (2 ^ aP A - 1) (iZ 0)) := b2.pI rfl
    have w0 := m_whole N1 hN1.P
    have w1 := m_whole _ (a2.A.fr n2 (by decide)).P
    rw [ew] at w0 w1
    have hWlt : 2 ^ aP A - 1 < 2 ^ aP A := by omega
    have hWp : 2 ^ p ≤ 2 ^ aP A - 1 := by omega
    have hW5 : 2 ^ aP A - 1 < 512 := by omega
    have hW1 : 1 ≤ 2 ^ aP A - 1 := by omega
    generalize hW : 2 ^ aP A - 1 = W at *
    have start : dnR A p W W (xpI N1 (148, 0) W (iZ 0)) := fun x x1 x2 => by
      by_cases e : x = W
      · refine ⟨0, by rw [xI_pI, if_pos ⟨rfl, e⟩], by omega, .inr ⟨0, rfl, .inl ⟨rfl, e⟩, fun n hn => by omega⟩⟩
      · refine ⟨-1, by rw [xI_pI, if_neg (fun z => e z.2)]; exact b3 x (by omega), by omega, .inl ⟨rfl, ?_⟩⟩
        rintro n (⟨_, z⟩ | ⟨k, _, g, z1, z2, z3⟩)
        · exact e z
        · have := pf_lt dnE_lt z2; omega
    obtain ⟨⟨N2, best⟩, c1, c2, c3, c4, c5, c6⟩ := xfor_S (σ := xM × Int) (sg := gX12_down) (st := fun k x => (53, [some (.inr (.inr (12, 0))), some (.inl (iZ (p))), some (.inl (iZ ((x.2)))), some (.inl (iZ (((W : Int) - k)))), none], [], x.1)) (I := fun k x => xSame (fun r => r = (148, 0)) M' x.1 ∧ dnR A p W (W - k) x.1 ∧ (2 ^ p ≤ W - k → x.2 = -1) ∧ (W - k < 2 ^ p → isM (fun n => pf (dnE A p) n W (2 ^ p)) x.2) ∧ (-1 ≤ x.2 ∧ x.2 ≤ 600)) (n := W) (fun k x hk hI => by
      obtain ⟨i1, i2, i3, i4, i5⟩ := hI
      obtain ⟨N, best⟩ := x
      dsimp only at i1 i2 i3 i4 i5 ⊢
      have hA := a2.A.fr i1 (by decide)
      have hB := a4.1.fr i1 (by decide)
      obtain ⟨heap, hheap⟩ : ∃ heap, heap = W - k := ⟨_, rfl⟩
      rw [← hheap] at i2 i3 i4
      have e2 : W - (k + 1) = heap - 1 := by omega
      have e3 : (W : Int) - k = heap := by omega
      have e4 : (W : Int) - ((k : Int) + 1) = (heap : Int) - 1 := by omega
      have em : (heap : Int) + (-1) = (heap : Int) - 1 := by omega
      rw [e2, nS, e3, e4]
      obtain ⟨u, u1, u2, u3⟩ := i2 heap (by omega) (by omega)
      have u3' := u3.cg (T := fun n => pf (dnE A p) n W heap) (fun n => dnI_all (Nat.le_refl _))
      by_cases d1 : u = -1
      · refine ⟨(N, best), ?_, i1, dnR_skip (by omega) i2 (fun k half z _ => ?_), fun z => i3 (by omega), fun z => ?_, i5⟩
        · rw [xfix_unf, sX12_down_53]
          simp (disch := omega) only [xk_none, xk_inl, xk_inr, xk_ite, xri_v, xrl_v, xrv_v, xb_z0, xb_z1, xb_b2, if_true, if_false, ite_true, ite_false, iZ_lit, iZ_m1, iZ_m99, iZ_m8, iZ_add, iZ_sub, iZ_mul, iZ_neg, nz0, nzi, iZ_lt, iZ_le, iZ_inj, b2_z, b2_o, ite_bPz, ite_bPo, xb_bP, iZ_xin, if_pos, ite_self, ↓reduceIte, Int.reduceAdd, Int.reduceSub, Int.reduceMul, Int.reduceNeg, Int.reduceLT, Int.reduceLE, if_neg, nS, iZ_clampN, iZ_bit, iZ_one, iZ_and, iZ_or, iZ_ndn, u1, em]
        · rcases u3' with ⟨_, y⟩ | ⟨m, y, _⟩
          · exact y k z
          · omega
        · by_cases e : heap = 2 ^ p
          · rw [i3 (by omega), ← e, ← d1]; exact u3'
          · exact i4 (by omega)
      · by_cases d2 : heap.testBit p = true
        · by_cases d3 : heap = 2 ^ p
          · obtain ⟨N', g1, g2, g3⟩ := dn_heap (best := u) a2.A a4.1 hp1 (by omega : W < 2 ^ aP A) (by omega : 1 ≤ heap) (by omega) i1 i2 d2 u1 u3' d1 u2
            refine ⟨(N', u), ?_, g2, g3, fun z => by omega, fun z => by rw [← d3]; exact u3', u2⟩
            rw [← g1]
            have d3' : iZ ((2 ^ p : Nat) : Int) = iZ (heap : Int) := by rw [d3]
            rw [xfix_unf, sX12_down_53]
            simp (disch := omega) only [xk_none, xk_inl, xk_inr, xk_ite, xri_v, xrl_v, xrv_v, xb_z0, xb_z1, xb_b2, if_true, if_false, ite_true, ite_false, iZ_lit, iZ_m1, iZ_m99, iZ_m8, iZ_add, iZ_sub, iZ_mul, iZ_neg, nz0, nzi, iZ_lt, iZ_le, iZ_inj, b2_z, b2_o, ite_bPz, ite_bPo, xb_bP, iZ_xin, if_pos, ite_self, ↓reduceIte, Int.reduceAdd, Int.reduceSub, Int.reduceMul, Int.reduceNeg, Int.reduceLT, Int.reduceLE, if_neg, nS, iZ_clampN, iZ_bit, iZ_one, iZ_and, iZ_or, iZ_ndn, u1, if_pos d2, d3']
            rfl
          · obtain ⟨N', g1, g2, g3⟩ := dn_heap (best := best) a2.A a4.1 hp1 (by omega : W < 2 ^ aP A) (by omega : 1 ≤ heap) (by omega) i1 i2 d2 u1 u3' d1 u2
            refine ⟨(N', best), ?_, g2, g3, fun z => i3 (by omega), fun z => i4 (by omega), i5⟩
            rw [← g1]
            have d3' : ¬ iZ (heap : Int) = iZ ((2 ^ p : Nat) : Int) := fun z => d3 (by
              have := (iZ_inj (by omega) (by omega)).mp z
              omega)
            rw [xfix_unf, sX12_down_53]
            simp (disch := omega) only [xk_none, xk_inl, xk_inr, xk_ite, xri_v, xrl_v, xrv_v, xb_z0, xb_z1, xb_b2, if_true, if_false, ite_true, ite_false, iZ_lit, iZ_m1, iZ_m99, iZ_m8, iZ_add, iZ_sub, iZ_mul, iZ_neg, nz0, nzi, iZ_lt, iZ_le, iZ_inj, b2_z, b2_o, ite_bPz, ite_bPo, xb_bP, iZ_xin, if_pos, ite_self, ↓reduceIte, Int.reduceAdd, Int.reduceSub, Int.reduceMul, Int.reduceNeg, Int.reduceLT, Int.reduceLE, if_neg, nS, iZ_clampN, iZ_bit, iZ_one, iZ_and, iZ_or, iZ_ndn, u1, if_pos d2, d3']
            rfl
        · have hne : heap ≠ 2 ^ p := fun z => d2 (by rw [z]; exact Nat.testBit_two_pow_self)
          refine ⟨(N, best), ?_, i1, dnR_skip (by omega) i2 (fun k half _ z => ?_), fun z => i3 (by omega), fun z => i4 (by omega), i5⟩
          · rw [xfix_unf, sX12_down_53]
            simp (disch := omega) only [xk_none, xk_inl, xk_inr, xk_ite, xri_v, xrl_v, xrv_v, xb_z0, xb_z1, xb_b2, if_true, if_false, ite_true, ite_false, iZ_lit, iZ_m1, iZ_m99, iZ_m8, iZ_add, iZ_sub, iZ_mul, iZ_neg, nz0, nzi, iZ_lt, iZ_le, iZ_inj, b2_z, b2_o, ite_bPz, ite_bPo, xb_bP, iZ_xin, if_pos, ite_self, ↓reduceIte, Int.reduceAdd, Int.reduceSub, Int.reduceMul, Int.reduceNeg, Int.reduceLT, Int.reduceLE, if_neg, nS, iZ_clampN, iZ_bit, iZ_one, iZ_and, iZ_or, iZ_ndn, u1, if_neg d2, em]
          · exact d2 (ndn_z.mp (ndn_and.mpr z.2.2.1) p z.2.2.2.1)) (a := 0) (x := (xpI N1 (148, 0) W (iZ 0), -1)) (by omega) ⟨n2, start, fun _ => rfl, fun z => by omega, by show (-1 : Int) ≤ -1 ∧ (-1 : Int) ≤ 600; omega⟩
    have hs : scr M' N2 := scr.of c2 (by rintro r e j; subst e; exact ⟨rfl, rfl⟩)
    refine ⟨N2, ?_, a2.scr hs, a3.tr hs.fB⟩
    have hbest := isM_ls (c5 (by omega)) (n := 600) (by
      rcases c5 (by omega) with ⟨z, _⟩ | ⟨m, z, z2, _⟩
      · dsimp only at z ⊢; omega
      · have := pf_lt dnE_lt z2
        dsimp only at z ⊢; omega)
    dsimp only at hbest c1
    rw [← hbest]
    show xfix gX12_down (0, [some (.inr (.inr (12, 0))), some (.inl (iZ (p))), none, none, none], [], M) = _; rw [xfix_unf, sX12_down_0]
    simp (disch := omega) only [xk_none, xk_inl, xk_inr, xk_ite, xri_v, xrl_v, xrv_v, xb_z0, xb_z1, xb_b2, if_true, if_false, ite_true, ite_false, iZ_lit, iZ_m1, iZ_m99, iZ_m8, iZ_add, iZ_sub, iZ_mul, iZ_neg, nz0, nzi, iZ_lt, iZ_le, iZ_inj, b2_z, b2_o, ite_bPz, ite_bPo, xb_bP, iZ_xin, if_pos, ite_self, ↓reduceIte, Int.reduceAdd, Int.reduceSub, Int.reduceMul, Int.reduceNeg, Int.reduceLT, Int.reduceLE, if_neg, k_isPart h.A hp, e1, a1]
    refine b1.trans (Eq.trans ?_ (c1.trans ?_))
    · have e0 : (W : Int) - ((0 : Nat) : Int) = (W : Int) := by omega
      have e512 : ((512 : Nat) : Int) = 512 := rfl
      rw [e0]
      rw [xfix_unf, sX12_down_16]
      simp (disch := omega) only [xk_none, xk_inl, xk_inr, xk_ite, xri_v, xrl_v, xrv_v, xb_z0, xb_z1, xb_b2, if_true, if_false, ite_true, ite_false, iZ_lit, iZ_m1, iZ_m99, iZ_m8, iZ_add, iZ_sub, iZ_mul, iZ_neg, nz0, nzi, iZ_lt, iZ_le, iZ_inj, b2_z, b2_o, ite_bPz, ite_bPo, xb_bP, iZ_xin, if_pos, ite_self, ↓reduceIte, Int.reduceAdd, Int.reduceSub, Int.reduceMul, Int.reduceNeg, Int.reduceLT, Int.reduceLE, if_neg, e512, w0, iZ_clampN, w1]
    · have e0 : (W : Int) - (W : Int) = 0 := by omega
      rw [e0]
      rw [xfix_unf, sX12_down_53]
      simp (disch := omega) only [xk_none, xk_inl, xk_inr, xk_ite, xri_v, xrl_v, xrv_v, xb_z0, xb_z1, xb_b2, if_true, if_false, ite_true, ite_false, iZ_lit, iZ_m1, iZ_m99, iZ_m8, iZ_add, iZ_sub, iZ_mul, iZ_neg, nz0, nzi, iZ_lt, iZ_le, iZ_inj, b2_z, b2_o, ite_bPz, ite_bPo, xb_bP, iZ_xin, if_pos, ite_self, ↓reduceIte, Int.reduceAdd, Int.reduceSub, Int.reduceMul, Int.reduceNeg, Int.reduceLT, Int.reduceLE, if_neg]
  · refine qR.of h ?_
    rw [vI_f e1]
    show xfix gX12_down (0, [some (.inr (.inr (12, 0))), some (.inl (iZ (p))), none, none, none], [], M) = _; rw [xfix_unf, sX12_down_0]
    simp (disch := omega) only [xk_none, xk_inl, xk_inr, xk_ite, xri_v, xrl_v, xrv_v, xb_z0, xb_z1, xb_b2, if_true, if_false, ite_true, ite_false, iZ_lit, iZ_m1, iZ_m99, iZ_m8, iZ_add, iZ_sub, iZ_mul, iZ_neg, nz0, nzi, iZ_lt, iZ_le, iZ_inj, b2_z, b2_o, ite_bPz, ite_bPo, xb_bP, iZ_xin, if_pos, ite_self, ↓reduceIte, Int.reduceAdd, Int.reduceSub, Int.reduceMul, Int.reduceNeg, Int.reduceLT, Int.reduceLE, if_neg, k_isPart h.A hp, e1]
