/-! the reference: a thing -/
theorem lp114 {M : xM} : ∃ M', xfix gX12_thing (114, [some (.inr (.inr (12, 0))), none, some (.inl (iZ (((0 : Nat))))), none], [], M) = xfix gX12_thing (141, [some (.inr (.inr (12, 0))), none, some (.inl (iZ (((0 : Nat))))), none], [], M') ∧ xSame (fun r => r = (100, 0)) M M' ∧ ∀ c, c < 512 → xI M' (100, 0) c = xI M (101, 0) c := by
  obtain ⟨M2, b1, b2, b3⟩ := xfor_M (sg := gX12_thing) (st := fun i M => (114, [some (.inr (.inr (12, 0))), none, some (.inl (iZ (i))), none], [], M)) (I := fun k K => xSame (fun r => r = (100, 0)) M K ∧ ∀ c, c < k → xI K (100, 0) c = xI M (101, 0) c) (n := 512) (fun i K hi hK => by
    obtain ⟨k1, k2⟩ := hK
    refine ⟨xpI K (100, 0) i (xI K (101, 0) i), ?_, k1.pI rfl, fun c hc => ?_⟩
    · rw [xfix_unf, sX12_thing_114]
      simp (disch := omega) only [xk_none, xk_inl, xk_inr, xk_ite, xri_v, xrl_v, xrv_v, xb_z0, xb_z1, xb_b2, if_true, if_false, ite_true, ite_false, iZ_lit, iZ_m1, iZ_m99, iZ_m8, iZ_add, iZ_sub, iZ_mul, iZ_neg, nz0, nzi, iZ_lt, iZ_le, iZ_inj, b2_z, b2_o, ite_bPz, ite_bPo, xb_bP, iZ_xin, if_pos, ite_self, ↓reduceIte, Int.reduceAdd, Int.reduceSub, Int.reduceMul, Int.reduceNeg, Int.reduceLT, Int.reduceLE, if_neg, nS, iZ_clampN, iZ_bit, iZ_one, iZ_and, iZ_or, iZ_ndn]
    · rw [xI_pI]
      by_cases e : c = i
      · rw [if_pos ⟨rfl, e⟩, e, (k1 (101, 0) (by decide)).1]
      · rw [if_neg (fun z => e z.2)]; exact k2 c (by omega)) (a := 0) (M := M) (by omega) ⟨xSame.rf, fun c hc => by omega⟩
  refine ⟨M2, b1.trans ?_, b2, b3⟩
  rw [xfix_unf, sX12_thing_114]
  have e512 : ((512 : Nat) : Int) = 512 := rfl
  simp (disch := omega) only [xk_none, xk_inl, xk_inr, xk_ite, xri_v, xrl_v, xrv_v, xb_z0, xb_z1, xb_b2, if_true, if_false, ite_true, ite_false, iZ_lit, iZ_m1, iZ_m99, iZ_m8, iZ_add, iZ_sub, iZ_mul, iZ_neg, nz0, nzi, iZ_lt, iZ_le, iZ_inj, b2_z, b2_o, ite_bPz, ite_bPo, xb_bP, iZ_xin, if_pos, ite_self, ↓reduceIte, Int.reduceAdd, Int.reduceSub, Int.reduceMul, Int.reduceNeg, Int.reduceLT, Int.reduceLE, if_neg, e512]
  rfl
theorem lp141 {M : xM} {J : Nat} (hJ : J ≤ 8) (f3 : xI M (12, 0) 3 = iZ J) : ∃ M', xfix gX12_thing (141, [some (.inr (.inr (12, 0))), none, some (.inl (iZ (((0 : Nat))))), none], [], M) = xfix gX12_thing (205, [some (.inr (.inr (12, 0))), none, some (.inl (iZ (((0 : Nat))))), none], [], M') ∧ xSame (fun r => r = (104, 0) ∨ r = (105, 0) ∨ r = (106, 0) ∨ r = (107, 0)) M M' ∧ ∀ c, c < J → xI M' (104, 0) c = xI M (113, 0) c ∧ xI M' (105, 0) c = xI M (114, 0) c ∧ xI M' (106, 0) c = xI M (115, 0) c ∧ xI M' (107, 0) c = xI M (116, 0) c := by
  obtain ⟨M2, b1, b2, b3⟩ := xfor_M (sg := gX12_thing) (st := fun i M => (141, [some (.inr (.inr (12, 0))), none, some (.inl (iZ (i))), none], [], M)) (I := fun k K => xSame (fun r => r = (104, 0) ∨ r = (105, 0) ∨ r = (106, 0) ∨ r = (107, 0)) M K ∧ ∀ c, c < k → xI K (104, 0) c = xI M (113, 0) c ∧ xI K (105, 0) c = xI M (114, 0) c ∧ xI K (106, 0) c = xI M (115, 0) c ∧ xI K (107, 0) c = xI M (116, 0) c) (n := J) (fun i K hi hK => by
    obtain ⟨k1, k2⟩ := hK
    have g3 : xI K (12, 0) 3 = iZ J := by rw [(k1 (12, 0) (by decide)).1]; exact f3
    have g4 := fun c => (k1 (113, 0) (by decide)).1 c
    have g5 := fun c => (k1 (114, 0) (by decide)).1 c
    have g6 := fun c => (k1 (115, 0) (by decide)).1 c
    have g7 := fun c => (k1 (116, 0) (by decide)).1 c
    refine ⟨xpI (xpI (xpI (xpI K (104, 0) i (xI M (113, 0) i)) (105, 0) i (xI M (114, 0) i)) (106, 0) i (xI M (115, 0) i)) (107, 0) i (xI M (116, 0) i), ?_, (((k1.pI (by simp)).pI (by simp)).pI (by simp)).pI (by simp), fun c hc => ?_⟩
    · have q1 : ∀ k v, xI (xpI K (104, 0) k v) (114, 0) i = xI M (114, 0) i := fun k v => by rw [xI_pI, if_neg (by simp)]; exact g5 i
      have q2 : ∀ k v l w, xI (xpI (xpI K (104, 0) k v) (105, 0) l w) (115, 0) i = xI M (115, 0) i := fun k v l w => by rw [xI_pI, if_neg (by simp), xI_pI, if_neg (by simp)]; exact g6 i
      have q3 : ∀ k v l w n u, xI (xpI (xpI (xpI K (104, 0) k v) (105, 0) l w) (106, 0) n u) (116, 0) i = xI M (116, 0) i := fun k v l w n u => by rw [xI_pI, if_neg (by simp), xI_pI, if_neg (by simp), xI_pI, if_neg (by simp)]; exact g7 i
      rw [xfix_unf, sX12_thing_141]
      simp (disch := omega) only [xk_none, xk_inl, xk_inr, xk_ite, xri_v, xrl_v, xrv_v, xb_z0, xb_z1, xb_b2, if_true, if_false, ite_true, ite_false, iZ_lit, iZ_m1, iZ_m99, iZ_m8, iZ_add, iZ_sub, iZ_mul, iZ_neg, nz0, nzi, iZ_lt, iZ_le, iZ_inj, b2_z, b2_o, ite_bPz, ite_bPo, xb_bP, iZ_xin, if_pos, ite_self, ↓reduceIte, Int.reduceAdd, Int.reduceSub, Int.reduceMul, Int.reduceNeg, Int.reduceLT, Int.reduceLE, if_neg, nS, iZ_clampN, iZ_bit, iZ_one, iZ_and, iZ_or, iZ_ndn, g3, g4, q1, q2, q3]
    · simp only [xI_pI]
      by_cases e : c = i
      · simp [e]
      · have := k2 c (by omega)
        simp [e]
        exact this) (a := 0) (M := M) (by omega) ⟨xSame.rf, fun c hc => by omega⟩
  have g3 : xI M2 (12, 0) 3 = iZ J := by rw [(b2 (12, 0) (by decide)).1]; exact f3
  refine ⟨M2, b1.trans ?_, b2, b3⟩
  rw [xfix_unf, sX12_thing_141]
  simp (disch := omega) only [xk_none, xk_inl, xk_inr, xk_ite, xri_v, xrl_v, xrv_v, xb_z0, xb_z1, xb_b2, if_true, if_false, ite_true, ite_false, iZ_lit, iZ_m1, iZ_m99, iZ_m8, iZ_add, iZ_sub, iZ_mul, iZ_neg, nz0, nzi, iZ_lt, iZ_le, iZ_inj, b2_z, b2_o, ite_bPz, ite_bPo, xb_bP, iZ_xin, if_pos, ite_self, ↓reduceIte, Int.reduceAdd, Int.reduceSub, Int.reduceMul, Int.reduceNeg, Int.reduceLT, Int.reduceLE, if_neg, g3]
  rfl
theorem lp205 {M : xM} {P : Nat} (hP : P ≤ 9) (f2 : xI M (12, 0) 2 = iZ P) : ∃ M', xfix gX12_thing (205, [some (.inr (.inr (12, 0))), none, some (.inl (iZ (((0 : Nat))))), none], [], M) = xfix gX12_thing (246, [some (.inr (.inr (12, 0))), none, some (.inl (iZ (((0 : Nat))))), none], [], M') ∧ xSm (fun r j => r = (109, 0) ∨ r = (157, 0) ∨ (r = (12, 0) ∧ (j = 58 ∨ j = 31))) M M' ∧ (∀ c, c < 9 → xI M' (109, 0) c = iZ 0 ∧ xI M' (157, 0) c = iZ ((2 ^ P - 1 : Nat) : Int)) ∧ xI M' (12, 0) 58 = iZ 0 ∧ xI M' (12, 0) 31 = iZ 0 := by
  have e1 : ((2 ^ P : Nat) : Int) - 1 = ((2 ^ P - 1 : Nat) : Int) := by
    have := Nat.two_pow_pos P
    omega
  obtain ⟨M2, b1, b2, b3⟩ := xfor_M (sg := gX12_thing) (st := fun i M => (205, [some (.inr (.inr (12, 0))), none, some (.inl (iZ (i))), none], [], M)) (I := fun k K => xSame (fun r => r = (109, 0) ∨ r = (157, 0)) M K ∧ ∀ c, c < k → xI K (109, 0) c = iZ 0 ∧ xI K (157, 0) c = iZ ((2 ^ P - 1 : Nat) : Int)) (n := 9) (fun i K hi hK => by
    obtain ⟨k1, k2⟩ := hK
    have g2 : xI K (12, 0) 2 = iZ P := by rw [(k1 (12, 0) (by decide)).1]; exact f2
    have hw := m_whole (P := P) (xpI K (109, 0) i (iZ 0)) ⟨by rw [xI_pI, if_neg (by simp)]; exact g2, hP⟩
    rw [e1] at hw
    refine ⟨xpI (xpI K (109, 0) i (iZ 0)) (157, 0) i (iZ ((2 ^ P - 1 : Nat) : Int)), ?_, (k1.pI (by simp)).pI (by simp), fun c hc => ?_⟩
    · rw [xfix_unf, sX12_thing_205]
      simp (disch := omega) only [xk_none, xk_inl, xk_inr, xk_ite, xri_v, xrl_v, xrv_v, xb_z0, xb_z1, xb_b2, if_true, if_false, ite_true, ite_false, iZ_lit, iZ_m1, iZ_m99, iZ_m8, iZ_add, iZ_sub, iZ_mul, iZ_neg, nz0, nzi, iZ_lt, iZ_le, iZ_inj, b2_z, b2_o, ite_bPz, ite_bPo, xb_bP, iZ_xin, if_pos, ite_self, ↓reduceIte, Int.reduceAdd, Int.reduceSub, Int.reduceMul, Int.reduceNeg, Int.reduceLT, Int.reduceLE, if_neg, nS, iZ_clampN, iZ_bit, iZ_one, iZ_and, iZ_or, iZ_ndn, hw]
    · simp only [xI_pI]
      by_cases e : c = i
      · simp [e]
      · have := k2 c (by omega)
        simp [e]
        exact this) (a := 0) (M := M) (by omega) ⟨xSame.rf, fun c hc => by omega⟩
  refine ⟨xpI (xpI M2 (12, 0) 58 (iZ 0)) (12, 0) 31 (iZ 0), b1.trans ?_, ((b2.sm.wk fun r j z => z.imp id .inl).pI (.inr (.inr ⟨rfl, .inl rfl⟩))).pI (.inr (.inr ⟨rfl, .inr rfl⟩)), fun c hc => ?_, by rw [pF_ne (by decide), pF_eq], pF_eq⟩
  · rw [xfix_unf, sX12_thing_205]
    have e9 : ((9 : Nat) : Int) = 9 := rfl
    simp (disch := omega) only [xk_none, xk_inl, xk_inr, xk_ite, xri_v, xrl_v, xrv_v, xb_z0, xb_z1, xb_b2, if_true, if_false, ite_true, ite_false, iZ_lit, iZ_m1, iZ_m99, iZ_m8, iZ_add, iZ_sub, iZ_mul, iZ_neg, nz0, nzi, iZ_lt, iZ_le, iZ_inj, b2_z, b2_o, ite_bPz, ite_bPo, xb_bP, iZ_xin, if_pos, ite_self, ↓reduceIte, Int.reduceAdd, Int.reduceSub, Int.reduceMul, Int.reduceNeg, Int.reduceLT, Int.reduceLE, if_neg, e9]
    rfl
  · rw [xI_pI, if_neg (by simp), xI_pI, if_neg (by simp), xI_pI, if_neg (by simp), xI_pI, if_neg (by simp)]
    exact b3 c hc
theorem lp246 {M : xM} : ∃ M', xfix gX12_thing (246, [some (.inr (.inr (12, 0))), none, some (.inl (iZ (((0 : Nat))))), none], [], M) = xfix gX12_thing (272, [some (.inr (.inr (12, 0))), none, some (.inl (iZ (((0 : Nat))))), none], [], M') ∧ xSm (fun r j => r = (159, 0) ∨ (r = (12, 0) ∧ j = 71)) M M' ∧ (∀ c, c < 54 → xI M' (159, 0) c = iZ 0) ∧ xI M' (12, 0) 71 = iZ (-1) := by
  obtain ⟨M2, b1, b2, b3⟩ := xfor_M (sg := gX12_thing) (st := fun i M => (246, [some (.inr (.inr (12, 0))), none, some (.inl (iZ (i))), none], [], M)) (I := fun k K => xSame (fun r => r = (159, 0)) M K ∧ ∀ c, c < k → xI K (159, 0) c = iZ 0) (n := 54) (fun i K hi hK => by
    obtain ⟨k1, k2⟩ := hK
    refine ⟨xpI K (159, 0) i (iZ 0), ?_, k1.pI rfl, fun c hc => ?_⟩
    · rw [xfix_unf, sX12_thing_246]
      simp (disch := omega) only [xk_none, xk_inl, xk_inr, xk_ite, xri_v, xrl_v, xrv_v, xb_z0, xb_z1, xb_b2, if_true, if_false, ite_true, ite_false, iZ_lit, iZ_m1, iZ_m99, iZ_m8, iZ_add, iZ_sub, iZ_mul, iZ_neg, nz0, nzi, iZ_lt, iZ_le, iZ_inj, b2_z, b2_o, ite_bPz, ite_bPo, xb_bP, iZ_xin, if_pos, ite_self, ↓reduceIte, Int.reduceAdd, Int.reduceSub, Int.reduceMul, Int.reduceNeg, Int.reduceLT, Int.reduceLE, if_neg, nS, iZ_clampN, iZ_bit, iZ_one, iZ_and, iZ_or, iZ_ndn]
    · rw [xI_pI]
      by_cases e : c = i
      · rw [if_pos ⟨rfl, e⟩]
      · rw [if_neg (fun z => e z.2)]; exact k2 c (by omega)) (a := 0) (M := M) (by omega) ⟨xSame.rf, fun c hc => by omega⟩
  refine ⟨xpI M2 (12, 0) 71 (iZ (-1)), b1.trans ?_, (b2.sm.wk fun r j z => .inl z).pI (.inr ⟨rfl, rfl⟩), fun c hc => ?_, pF_eq⟩
  · rw [xfix_unf, sX12_thing_246]
    have e54 : ((54 : Nat) : Int) = 54 := rfl
    simp (disch := omega) only [xk_none, xk_inl, xk_inr, xk_ite, xri_v, xrl_v, xrv_v, xb_z0, xb_z1, xb_b2, if_true, if_false, ite_true, ite_false, iZ_lit, iZ_m1, iZ_m99, iZ_m8, iZ_add, iZ_sub, iZ_mul, iZ_neg, nz0, nzi, iZ_lt, iZ_le, iZ_inj, b2_z, b2_o, ite_bPz, ite_bPo, xb_bP, iZ_xin, if_pos, ite_self, ↓reduceIte, Int.reduceAdd, Int.reduceSub, Int.reduceMul, Int.reduceNeg, Int.reduceLT, Int.reduceLE, if_neg, e54]
    rfl
  · rw [xI_pI, if_neg (by simp)]
    exact b3 c hc
theorem lp272 {M : xM} {P N : Nat} {T na nl : Nat → Nat} (hP : P ≤ 9) (hN : N ≤ 800) (f2 : xI M (12, 0) 2 = iZ P) (ht : ∀ k, k < N → xI M (110, 0) k = iZ (T k)) (hn : ∀ q, q < P → xI M (111, 0) q = iZ (na q) ∧ xI M (112, 0) q = iZ (nl q)) (ho : ∀ q, q < P → na q + nl q ≤ N ∧ 1 ≤ nl q ∧ nl q ≤ 6) : ∃ M', xfix gX12_thing (272, [some (.inr (.inr (12, 0))), none, some (.inl (iZ (((0 : Nat))))), none], [], M) = xfix gX12_thing (272, [some (.inr (.inr (12, 0))), none, some (.inl (iZ (P))), none], [], M') ∧ xSame (fun r => r = (165, 0) ∨ r = (166, 0)) M M' ∧ ∀ q, q < P → xI M' (166, 0) q = iZ (nl q) ∧ ∀ k, k < nl q → xI M' (165, 0) (6 * q + k) = iZ (T (na q + k)) := by
  obtain ⟨M2, b1, b2, b3⟩ := xfor_M (sg := gX12_thing) (st := fun i M => (272, [some (.inr (.inr (12, 0))), none, some (.inl (iZ (i))), none], [], M)) (I := fun n K => xSame (fun r => r = (165, 0) ∨ r = (166, 0)) M K ∧ ∀ q, q < n → xI K (166, 0) q = iZ (nl q) ∧ ∀ k, k < nl q → xI K (165, 0) (6 * q + k) = iZ (T (na q + k))) (n := P) (fun i K hi hK => by
    obtain ⟨k1, k2⟩ := hK
    obtain ⟨o1, o2, o3⟩ := ho i hi
    have g2 : xI K (12, 0) 2 = iZ P := by rw [(k1 (12, 0) (by decide)).1]; exact f2
    have g112 : xI K (112, 0) i = iZ (nl i) := by rw [(k1 (112, 0) (by decide)).1]; exact (hn i hi).2
    have top : xfix gX12_thing (272, [some (.inr (.inr (12, 0))), none, some (.inl (iZ (i))), none], [], K) = xfix gX12_thing (294, [some (.inr (.inr (12, 0))), none, some (.inl (iZ (i))), some (.inl (iZ (((0 : Nat)))))], [], (xpI K (166, 0) i (iZ (nl i)))) := by
      rw [xfix_unf, sX12_thing_272]
      simp (disch := omega) only [xk_none, xk_inl, xk_inr, xk_ite, xri_v, xrl_v, xrv_v, xb_z0, xb_z1, xb_b2, if_true, if_false, ite_true, ite_false, iZ_lit, iZ_m1, iZ_m99, iZ_m8, iZ_add, iZ_sub, iZ_mul, iZ_neg, nz0, nzi, iZ_lt, iZ_le, iZ_inj, b2_z, b2_o, ite_bPz, ite_bPo, xb_bP, iZ_xin, if_pos, ite_self, ↓reduceIte, Int.reduceAdd, Int.reduceSub, Int.reduceMul, Int.reduceNeg, Int.reduceLT, Int.reduceLE, if_neg, nS, iZ_clampN, iZ_bit, iZ_one, iZ_and, iZ_or, iZ_ndn, g2, g112]
      rfl
    obtain ⟨K2, c1, c2, c3⟩ := xfor_M (sg := gX12_thing) (st := fun k M => (294, [some (.inr (.inr (12, 0))), none, some (.inl (iZ (i))), some (.inl (iZ (k)))], [], M)) (I := fun n L => xSm (fun r j => r = (165, 0) ∧ 6 * i ≤ j) (xpI K (166, 0) i (iZ (nl i))) L ∧ ∀ k, k < n → xI L (165, 0) (6 * i + k) = iZ (T (na i + k))) (n := nl i) (fun k L hk hL => by
      obtain ⟨l1, l2⟩ := hL
      have h112 : xI L (112, 0) i = iZ (nl i) := by rw [(l1 (112, 0) i (by simp)).1, xI_pI, if_neg (by simp)]; exact g112
      have h111 : xI L (111, 0) i = iZ (na i) := by rw [(l1 (111, 0) i (by simp)).1, xI_pI, if_neg (by simp), (k1 (111, 0) (by decide)).1]; exact (hn i hi).1
      have h110 : xI L (110, 0) (na i + k) = iZ (T (na i + k)) := by rw [(l1 (110, 0) (na i + k) (by simp)).1, xI_pI, if_neg (by simp), (k1 (110, 0) (by decide)).1]; exact ht _ (by omega)
      have ecl : Int32.toNatClampNeg (iZ (6 * (i : Int) + (k : Int))) = 6 * i + k := by rw [iZ_clamp (by omega)]; omega
      have ecl2 : Int32.toNatClampNeg (iZ ((na i : Int) + (k : Int))) = na i + k := by rw [iZ_clamp (by omega)]; omega
      refine ⟨xpI L (165, 0) (6 * i + k) (iZ (T (na i + k))), ?_, l1.pI ⟨rfl, by omega⟩, fun c hc => ?_⟩
      · rw [xfix_unf, sX12_thing_294]
        simp (disch := omega) only [xk_none, xk_inl, xk_inr, xk_ite, xri_v, xrl_v, xrv_v, xb_z0, xb_z1, xb_b2, if_true, if_false, ite_true, ite_false, iZ_lit, iZ_m1, iZ_m99, iZ_m8, iZ_add, iZ_sub, iZ_mul, iZ_neg, nz0, nzi, iZ_lt, iZ_le, iZ_inj, b2_z, b2_o, ite_bPz, ite_bPo, xb_bP, iZ_xin, if_pos, ite_self, ↓reduceIte, Int.reduceAdd, Int.reduceSub, Int.reduceMul, Int.reduceNeg, Int.reduceLT, Int.reduceLE, if_neg, nS, iZ_clampN, iZ_bit, iZ_one, iZ_and, iZ_or, iZ_ndn, h112, h111, ecl, ecl2, h110]
      · rw [xI_pI]
        by_cases e : c = k
        · rw [if_pos ⟨rfl, by omega⟩, e]
        · rw [if_neg (fun z => by omega)]; exact l2 c (by omega)) (a := 0) (M := xpI K (166, 0) i (iZ (nl i))) (by omega) ⟨xSm.rf, fun k hk => by omega⟩
    have h112 : xI K2 (112, 0) i = iZ (nl i) := by rw [(c2 (112, 0) i (by simp)).1, xI_pI, if_neg (by simp)]; exact g112
    have bot : xfix gX12_thing (294, [some (.inr (.inr (12, 0))), none, some (.inl (iZ (i))), some (.inl (iZ ((nl i))))], [], K2) = xfix gX12_thing (272, [some (.inr (.inr (12, 0))), none, some (.inl (iZ (((i + 1 : Nat))))), none], [], K2) := by
      rw [nS]
      rw [xfix_unf, sX12_thing_294]
      simp (disch := omega) only [xk_none, xk_inl, xk_inr, xk_ite, xri_v, xrl_v, xrv_v, xb_z0, xb_z1, xb_b2, if_true, if_false, ite_true, ite_false, iZ_lit, iZ_m1, iZ_m99, iZ_m8, iZ_add, iZ_sub, iZ_mul, iZ_neg, nz0, nzi, iZ_lt, iZ_le, iZ_inj, b2_z, b2_o, ite_bPz, ite_bPo, xb_bP, iZ_xin, if_pos, ite_self, ↓reduceIte, Int.reduceAdd, Int.reduceSub, Int.reduceMul, Int.reduceNeg, Int.reduceLT, Int.reduceLE, if_neg, nS, iZ_clampN, iZ_bit, iZ_one, iZ_and, iZ_or, iZ_ndn, h112]
    refine ⟨K2, (top.trans c1).trans bot, ?_, fun q hq => ?_⟩
    · exact (k1.pI (.inr rfl)).tr (c2.S (fun r j z => .inl z.1))
    · by_cases e : q = i
      · subst e
        exact ⟨by rw [(c2 (166, 0) q (by simp)).1, xI_pI, if_pos ⟨rfl, rfl⟩], c3⟩
      · have hk2 := k2 q (by omega)
        have hnq := ho q (by omega)
        refine ⟨by rw [(c2 (166, 0) q (by simp)).1, xI_pI, if_neg (fun z => e z.2)]; exact hk2.1, fun k hk => ?_⟩
        rw [(c2 (165, 0) (6 * q + k) (by simp; omega)).1, xI_pI, if_neg (by simp)]
        exact hk2.2 k hk) (a := 0) (M := M) (by omega) ⟨xSame.rf, fun c hc => by omega⟩
  exact ⟨M2, b1, b2, b3⟩
