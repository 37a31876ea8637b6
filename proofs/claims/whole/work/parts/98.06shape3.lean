/-! the class: shapes are filled -/
theorem pR_eq {M : xM} {r : xR} {j : Nat} {v : Int32} : xI (xpI M r j v) r j = v := by rw [xI_pI, if_pos ⟨rfl, rfl⟩]
theorem pR_ne {M : xM} {r : xR} {j k : Nat} {v : Int32} (h : k ≠ j) : xI (xpI M r j v) r k = xI M r k := by rw [xI_pI, if_neg (fun z => h z.2)]
theorem pR_nr {M : xM} {a b i i' j k : Nat} {v : Int32} (h : b ≠ a) : xI (xpI M (a, i) j v) (b, i') k = xI M (b, i') k := by rw [xI_pI, if_neg (fun z => h (by have := congrArg Prod.fst z.1; exact this))]
noncomputable def haA (G : Nat → Nat) (half : Int) : Int := @ite _ (0 < half ∧ half < 512 ∧ half.toNat ≠ G (jLw half.toNat 9) ∧ ndn half.toNat (G (jLw half.toNat 9)) = 0) (Classical.propDecidable _) (G (jLw half.toNat 9) : Int) (-1)
theorem x_heapAround {M : xM} {k : Nat} {G : Nat → Nat} {half : Int} (hh : r32 half) (hG : ∀ p, p < 9 → xI M (35, k) p = iZ (G p) ∧ G p < 512) : fX3_heapAround [.inr (.inr (3, k)), .inl (iZ (half))] M = some (some (.inl (iZ (haA G half))), M) := by
  unfold r32 at hh
  by_cases h1 : 0 < half ∧ half < 512
  · obtain ⟨n, rfl⟩ : ∃ n : Nat, half = n := ⟨half.toNat, by omega⟩
    have hl : jLw n 9 < 9 := jLw_lt (by omega) (by omega)
    have hO := x_leastOf (M := M) (b := n) (by omega)
    rw [if_pos hl] at hO
    obtain ⟨g1, g2⟩ := hG _ hl
    have hw := x_within (M := M) (a := n) (b := G (jLw n 9)) (by omega)
    unfold haA
    rw [Int.toNat_natCast]
    generalize jLw n 9 = p at *
    generalize G p = v at *
    have t0 : fX3_heapAround [.inr (.inr (3, k)), .inl (iZ (n))] M = xfix gX3_heapAround (33, [none, some (.inl (iZ (n))), none, none], [.inl (iZ (v))], M) := by
      show xfix gX3_heapAround (0, [some (.inr (.inr (3, k))), some (.inl (iZ (n))), none, none], [], M) = _; rw [xfix_unf, sX3_heapAround_0]
      simp (disch := omega) only [xk_none, xk_inl, xk_inr, xk_ite, xri_v, xrl_v, xrv_v, xb_z0, xb_z1, xb_b2, if_true, if_false, ite_true, ite_false, iZ_lit, iZ_m1, iZ_m99, iZ_m8, iZ_add, iZ_sub, iZ_mul, iZ_neg, nz0, nzi, iZ_lt, iZ_le, iZ_inj, b2_z, b2_o, ite_bPz, ite_bPo, xb_bP, iZ_xin, if_pos, ite_self, ↓reduceIte, Int.reduceAdd, Int.reduceSub, Int.reduceMul, Int.reduceNeg, Int.reduceLT, Int.reduceLE, if_neg, nS, iZ_clampN, iZ_bit, iZ_one, iZ_and, iZ_or, iZ_ndn, hO, g1]
    rw [t0]
    by_cases e1 : n = v
    · rw [if_neg (fun z => z.2.2.1 e1)]
      subst e1
      rw [xfix_unf, sX3_heapAround_33]
      simp (disch := omega) only [xk_none, xk_inl, xk_inr, xk_ite, xri_v, xrl_v, xrv_v, xb_z0, xb_z1, xb_b2, if_true, if_false, ite_true, ite_false, iZ_lit, iZ_m1, iZ_m99, iZ_m8, iZ_add, iZ_sub, iZ_mul, iZ_neg, nz0, nzi, iZ_lt, iZ_le, iZ_inj, b2_z, b2_o, ite_bPz, ite_bPo, xb_bP, iZ_xin, if_pos, ite_self, ↓reduceIte, Int.reduceAdd, Int.reduceSub, Int.reduceMul, Int.reduceNeg, Int.reduceLT, Int.reduceLE, if_neg, nS, iZ_clampN, iZ_bit, iZ_one, iZ_and, iZ_or, iZ_ndn]
    · by_cases e2 : ndn n v = 0
      · rw [if_pos ⟨h1.1, h1.2, e1, e2⟩]
        rw [bP_t e2] at hw
        rw [xfix_unf, sX3_heapAround_33]
        simp (disch := omega) only [xk_none, xk_inl, xk_inr, xk_ite, xri_v, xrl_v, xrv_v, xb_z0, xb_z1, xb_b2, if_true, if_false, ite_true, ite_false, iZ_lit, iZ_m1, iZ_m99, iZ_m8, iZ_add, iZ_sub, iZ_mul, iZ_neg, nz0, nzi, iZ_lt, iZ_le, iZ_inj, b2_z, b2_o, ite_bPz, ite_bPo, xb_bP, iZ_xin, if_pos, ite_self, ↓reduceIte, Int.reduceAdd, Int.reduceSub, Int.reduceMul, Int.reduceNeg, Int.reduceLT, Int.reduceLE, if_neg, nS, iZ_clampN, iZ_bit, iZ_one, iZ_and, iZ_or, iZ_ndn, hw]
      · rw [if_neg (fun z => e2 z.2.2.2)]
        rw [bP_f e2] at hw
        rw [xfix_unf, sX3_heapAround_33]
        simp (disch := omega) only [xk_none, xk_inl, xk_inr, xk_ite, xri_v, xrl_v, xrv_v, xb_z0, xb_z1, xb_b2, if_true, if_false, ite_true, ite_false, iZ_lit, iZ_m1, iZ_m99, iZ_m8, iZ_add, iZ_sub, iZ_mul, iZ_neg, nz0, nzi, iZ_lt, iZ_le, iZ_inj, b2_z, b2_o, ite_bPz, ite_bPo, xb_bP, iZ_xin, if_pos, ite_self, ↓reduceIte, Int.reduceAdd, Int.reduceSub, Int.reduceMul, Int.reduceNeg, Int.reduceLT, Int.reduceLE, if_neg, nS, iZ_clampN, iZ_bit, iZ_one, iZ_and, iZ_or, iZ_ndn, hw]
  · unfold haA
    rw [if_neg (fun z => h1 ⟨z.1, z.2.1⟩)]
    by_cases h2 : half ≤ 0
    · show xfix gX3_heapAround (0, [some (.inr (.inr (3, k))), some (.inl (iZ (half))), none, none], [], M) = _; rw [xfix_unf, sX3_heapAround_0]
      simp (disch := omega) only [xk_none, xk_inl, xk_inr, xk_ite, xri_v, xrl_v, xrv_v, xb_z0, xb_z1, xb_b2, if_true, if_false, ite_true, ite_false, iZ_lit, iZ_m1, iZ_m99, iZ_m8, iZ_add, iZ_sub, iZ_mul, iZ_neg, nz0, nzi, iZ_lt, iZ_le, iZ_inj, b2_z, b2_o, ite_bPz, ite_bPo, xb_bP, iZ_xin, if_pos, ite_self, ↓reduceIte, Int.reduceAdd, Int.reduceSub, Int.reduceMul, Int.reduceNeg, Int.reduceLT, Int.reduceLE, if_neg]
    · show xfix gX3_heapAround (0, [some (.inr (.inr (3, k))), some (.inl (iZ (half))), none, none], [], M) = _; rw [xfix_unf, sX3_heapAround_0]
      simp (disch := omega) only [xk_none, xk_inl, xk_inr, xk_ite, xri_v, xrl_v, xrv_v, xb_z0, xb_z1, xb_b2, if_true, if_false, ite_true, ite_false, iZ_lit, iZ_m1, iZ_m99, iZ_m8, iZ_add, iZ_sub, iZ_mul, iZ_neg, nz0, nzi, iZ_lt, iZ_le, iZ_inj, b2_z, b2_o, ite_bPz, ite_bPo, xb_bP, iZ_xin, if_pos, ite_self, ↓reduceIte, Int.reduceAdd, Int.reduceSub, Int.reduceMul, Int.reduceNeg, Int.reduceLT, Int.reduceLE, if_neg]
theorem x_fillS {M : xM} {k : Nat} : ∃ M', fJ7_fill_53178 [.inr (.inr (38, k)), .inl (iZ 0)] M = some (none, M') ∧ xSame (fun r => r = (38, k)) M M' ∧ ∀ w, w < 6 → xI M' (38, k) w = iZ 0 := by
  have e6 : Int32.ofNat 6 = iZ 6 := rfl
  obtain ⟨M2, b1, b2, b3⟩ := xfor_M (sg := gJ7_fill_53178) (st := fun i M => (5, [some (.inr (.inr (38, k))), some (.inl (iZ ((0 : Int)))), some (.inl (iZ (i))), some (.inl (iZ ((6 : Int))))], [], M)) (I := fun n K => xSame (fun r => r = (38, k)) M K ∧ ∀ w, w < n → xI K (38, k) w = iZ 0) (n := 6) (fun i K hi hK => by
    refine ⟨xpI K (38, k) i (iZ 0), ?_, hK.1.pI rfl, fun w hw => ?_⟩
    · rw [nS, xfix_unf, sJ7_fill_53178_38_5]
      simp (disch := omega) only [xk_none, xk_inl, xk_inr, xk_ite, xri_v, xrl_v, xrv_v, xb_z0, xb_z1, xb_b2, if_true, if_false, ite_true, ite_false, iZ_lit, iZ_m1, iZ_m99, iZ_m8, iZ_add, iZ_sub, iZ_mul, iZ_neg, nz0, nzi, iZ_lt, iZ_le, iZ_inj, b2_z, b2_o, ite_bPz, ite_bPo, xb_bP, iZ_xin, if_pos, ite_self, ↓reduceIte, Int.reduceAdd, Int.reduceSub, Int.reduceMul, Int.reduceNeg, Int.reduceLT, Int.reduceLE, if_neg, nS, iZ_clampN, iZ_bit, iZ_one, iZ_and, iZ_or, iZ_ndn]
    · rw [xI_pI]
      by_cases e : w = i
      · rw [if_pos ⟨rfl, e⟩]
      · rw [if_neg (fun z => e z.2)]; exact hK.2 w (by omega)) (a := 0) (M := M) (by omega) ⟨xSame.rf, fun w hw => by omega⟩
  refine ⟨M2, ?_, b2, b3⟩
  have e6' : ((6 : Nat) : Int) = 6 := rfl
  show xfix gJ7_fill_53178 (0, [some (.inr (.inr (38, k))), some (.inl (iZ 0)), none, none], [], M) = _
  rw [xfix_unf, sJ7_fill_53178_38_0, e6]
  simp (disch := omega) only [xk_none, xk_inl, xk_inr, xk_ite, xri_v, xrl_v, xrv_v, xb_z0, xb_z1, xb_b2, if_true, if_false, ite_true, ite_false, iZ_lit, iZ_m1, iZ_m99, iZ_m8, iZ_add, iZ_sub, iZ_mul, iZ_neg, nz0, nzi, iZ_lt, iZ_le, iZ_inj, b2_z, b2_o, ite_bPz, ite_bPo, xb_bP, iZ_xin, if_pos, ite_self, ↓reduceIte, Int.reduceAdd, Int.reduceSub, Int.reduceMul, Int.reduceNeg, Int.reduceLT, Int.reduceLE, if_neg]
  refine Eq.trans b1 ?_
  rw [xfix_unf, sJ7_fill_53178_38_5]
  simp (disch := omega) only [xk_none, xk_inl, xk_inr, xk_ite, xri_v, xrl_v, xrv_v, xb_z0, xb_z1, xb_b2, if_true, if_false, ite_true, ite_false, iZ_lit, iZ_m1, iZ_m99, iZ_m8, iZ_add, iZ_sub, iZ_mul, iZ_neg, nz0, nzi, iZ_lt, iZ_le, iZ_inj, b2_z, b2_o, ite_bPz, ite_bPo, xb_bP, iZ_xin, if_pos, ite_self, ↓reduceIte, Int.reduceAdd, Int.reduceSub, Int.reduceMul, Int.reduceNeg, Int.reduceLT, Int.reduceLE, if_neg, e6']
theorem x_clear {M : xM} {s : Nat} : ∃ M', fX5_clear [.inr (.inr (5, s))] M = some (none, M') ∧ xSm (fun r j => (r = (5, s) ∧ j < 3) ∨ r = (38, s) ∨ r = (44, 10 * s)) M M' ∧ (xI M' (5, s) 0 = iZ 0 ∧ xI M' (5, s) 1 = iZ 0 ∧ xI M' (5, s) 2 = iZ 0) ∧ (∀ w, w < 6 → xI M' (38, s) w = iZ 0) ∧ ∀ c, c < 512 → sB M' (10 * s) c = false := by
  obtain ⟨M1, a1, a2, a3⟩ := x_fillS (M := xpI (xpI (xpI M (5, s) 0 (iZ 0)) (5, s) 1 (iZ 0)) (5, s) 2 (iZ 0)) (k := s)
  obtain ⟨M2, b1, b2, b3⟩ := x_wipe (M := M1) (k := 10 * s)
  have f : ∀ j, xI M2 (5, s) j = xI (xpI (xpI (xpI M (5, s) 0 (iZ 0)) (5, s) 1 (iZ 0)) (5, s) 2 (iZ 0)) (5, s) j := fun j => by rw [(b2 (5, s) (by simp)).1, (a2 (5, s) (by simp)).1]
  refine ⟨M2, ?_, ((((xSm.rf.pI (.inl ⟨rfl, by omega⟩)).pI (.inl ⟨rfl, by omega⟩)).pI (.inl ⟨rfl, by omega⟩)).tr (a2.sm.wk fun r j z => .inr (.inl z))).tr (b2.sm.wk fun r j z => .inr (.inr z)), ⟨?_, ?_, ?_⟩, fun w hw => ?_, b3⟩
  · show xfix gX5_clear (0, [some (.inr (.inr (5, s)))], [], M) = _; rw [xfix_unf, sX5_clear_0]
    simp (disch := omega) only [xk_none, xk_inl, xk_inr, xk_ite, xri_v, xrl_v, xrv_v, xb_z0, xb_z1, xb_b2, if_true, if_false, ite_true, ite_false, iZ_lit, iZ_m1, iZ_m99, iZ_m8, iZ_add, iZ_sub, iZ_mul, iZ_neg, nz0, nzi, iZ_lt, iZ_le, iZ_inj, b2_z, b2_o, ite_bPz, ite_bPo, xb_bP, iZ_xin, if_pos, ite_self, ↓reduceIte, Int.reduceAdd, Int.reduceSub, Int.reduceMul, Int.reduceNeg, Int.reduceLT, Int.reduceLE, if_neg, a1, b1]
  · rw [f, pR_ne (by omega), pR_ne (by omega), pR_eq]
  · rw [f, pR_ne (by omega), pR_eq]
  · rw [f, pR_eq]
  · rw [(b2 (38, s) (by simp)).1]; exact a3 w hw
theorem x_addPart {M : xM} {s P : Nat} {v : Int32} (hP : P < 9) (f0 : xI M (5, s) 0 = iZ P) : ∃ M', fX5_addPart [.inr (.inr (5, s)), .inl (v)] M = some (none, M') ∧ xSm (fun r j => (r = (5, s) ∧ j = 0) ∨ (r = (40, s) ∧ j = P) ∨ r = (44, 10 * s + 1 + P)) M M' ∧ xI M' (5, s) 0 = iZ ((P + 1 : Nat) : Int) ∧ xI M' (40, s) P = v ∧ ∀ c, c < 512 → sB M' (10 * s + 1 + P) c = false := by
  obtain ⟨M1, a1, a2, a3⟩ := x_wipe (M := xpI M (40, s) P v) (k := 10 * s + 1 + P)
  have g0 : xI (xpI M (40, s) P v) (5, s) 0 = iZ P := by rw [xI_pI_ne (by simp)]; exact f0
  have g1 : xI M1 (5, s) 0 = iZ P := by rw [(a2 (5, s) (by simp)).1]; exact g0
  refine ⟨xpI M1 (5, s) 0 (iZ ((P : Int) + 1)), ?_, ((xSm.rf.pI (.inr (.inl ⟨rfl, rfl⟩))).tr (a2.sm.wk fun r j z => .inr (.inr z))).pI (.inl ⟨rfl, rfl⟩), ?_, ?_, fun c hc => ?_⟩
  · show xfix gX5_addPart (0, [some (.inr (.inr (5, s))), some (.inl (v))], [], M) = _; rw [xfix_unf, sX5_addPart_0]
    simp (disch := omega) only [xk_none, xk_inl, xk_inr, xk_ite, xri_v, xrl_v, xrv_v, xb_z0, xb_z1, xb_b2, if_true, if_false, ite_true, ite_false, iZ_lit, iZ_m1, iZ_m99, iZ_m8, iZ_add, iZ_sub, iZ_mul, iZ_neg, nz0, nzi, iZ_lt, iZ_le, iZ_inj, b2_z, b2_o, ite_bPz, ite_bPo, xb_bP, iZ_xin, if_pos, ite_self, ↓reduceIte, Int.reduceAdd, Int.reduceSub, Int.reduceMul, Int.reduceNeg, Int.reduceLT, Int.reduceLE, if_neg, nS, iZ_clampN, iZ_bit, iZ_one, iZ_and, iZ_or, iZ_ndn, f0, g0, a1, g1]
  · rw [xI_pI, if_pos ⟨rfl, rfl⟩]; rfl
  · rw [xI_pI_ne (by simp), (a2 (40, s) (by simp)).1, xI_pI, if_pos ⟨rfl, rfl⟩]
  · exact a3 c hc
theorem x_putCell {M : xM} {s P p x y z : Nat} (hP : P ≤ 9) (hp : p < P) (f0 : xI M (5, s) 0 = iZ P) (hx : x < 8) (hy : y < 8) (hz : z < 8) : ∃ M', fX5_putCell [.inr (.inr (5, s)), .inl (iZ (p)), .inl (iZ (x)), .inl (iZ (y)), .inl (iZ (z))] M = some (none, M') ∧ xSame (fun r => r = (44, 10 * s) ∨ r = (44, 10 * s + 1 + p)) M M' ∧ (∀ c, c < 512 → sB M' (10 * s + 1 + p) c = (sB M (10 * s + 1 + p) c || decide (c = 64 * z + 8 * y + x))) ∧ ∀ c, c < 512 → sB M' (10 * s) c = (sB M (10 * s) c || decide (c = 64 * z + 8 * y + x)) := by
  obtain ⟨M1, a1, a2, a3⟩ := x_put (M := M) (k := 10 * s + 1 + p) hx hy hz
  obtain ⟨M2, b1, b2, b3⟩ := x_put (M := M1) (k := 10 * s) hx hy hz
  have hq := x_isPart (M := M) (s := s) (p := (p : Int)) f0 hP (by unfold r32; omega)
  rw [bP_t (by omega)] at hq
  refine ⟨M2, ?_, (a2.wk fun r z => .inr z).tr (b2.wk fun r z => .inl z), fun c hc => ?_, fun c hc => ?_⟩
  · show xfix gX5_putCell (0, [some (.inr (.inr (5, s))), some (.inl (iZ (p))), some (.inl (iZ (x))), some (.inl (iZ (y))), some (.inl (iZ (z)))], [], M) = _; rw [xfix_unf, sX5_putCell_0]
    simp (disch := omega) only [xk_none, xk_inl, xk_inr, xk_ite, xri_v, xrl_v, xrv_v, xb_z0, xb_z1, xb_b2, if_true, if_false, ite_true, ite_false, iZ_lit, iZ_m1, iZ_m99, iZ_m8, iZ_add, iZ_sub, iZ_mul, iZ_neg, nz0, nzi, iZ_lt, iZ_le, iZ_inj, b2_z, b2_o, ite_bPz, ite_bPo, xb_bP, iZ_xin, if_pos, ite_self, ↓reduceIte, Int.reduceAdd, Int.reduceSub, Int.reduceMul, Int.reduceNeg, Int.reduceLT, Int.reduceLE, if_neg, nS, iZ_clampN, iZ_bit, iZ_one, iZ_and, iZ_or, iZ_ndn, hq, a1, b1]
  · rw [sB_same b2 (by first | (simp; omega) | simp) c]; exact a3 c hc
  · rw [b3 c hc, sB_same a2 (by first | (simp; omega) | simp) c]
theorem x_addJoint {M : xM} {s J : Nat} {v w : Int32} (hJ : J < 8) (f0 : xI M (5, s) 1 = iZ J) : ∃ M', fX5_addJoint [.inr (.inr (5, s)), .inl (v), .inl (w)] M = some (none, M') ∧ xSm (fun r j => (r = (5, s) ∧ j = 1) ∨ (r = (41, s) ∧ j = J) ∨ (r = (43, s) ∧ j = J)) M M' ∧ xI M' (5, s) 1 = iZ ((J + 1 : Nat) : Int) ∧ xI M' (41, s) J = v ∧ xI M' (43, s) J = w := by
  have g0 : xI (xpI M (41, s) J v) (5, s) 1 = iZ J := by rw [xI_pI_ne (by simp)]; exact f0
  have g1 : xI (xpI (xpI M (41, s) J v) (43, s) J w) (5, s) 1 = iZ J := by rw [xI_pI_ne (by simp)]; exact g0
  refine ⟨xpI (xpI (xpI M (41, s) J v) (43, s) J w) (5, s) 1 (iZ ((J : Int) + 1)), ?_, ((xSm.rf.pI (.inr (.inl ⟨rfl, rfl⟩))).pI (.inr (.inr ⟨rfl, rfl⟩))).pI (.inl ⟨rfl, rfl⟩), ?_, ?_, ?_⟩
  · show xfix gX5_addJoint (0, [some (.inr (.inr (5, s))), some (.inl (v)), some (.inl (w))], [], M) = _; rw [xfix_unf, sX5_addJoint_0]
    simp (disch := omega) only [xk_none, xk_inl, xk_inr, xk_ite, xri_v, xrl_v, xrv_v, xb_z0, xb_z1, xb_b2, if_true, if_false, ite_true, ite_false, iZ_lit, iZ_m1, iZ_m99, iZ_m8, iZ_add, iZ_sub, iZ_mul, iZ_neg, nz0, nzi, iZ_lt, iZ_le, iZ_inj, b2_z, b2_o, ite_bPz, ite_bPo, xb_bP, iZ_xin, if_pos, ite_self, ↓reduceIte, Int.reduceAdd, Int.reduceSub, Int.reduceMul, Int.reduceNeg, Int.reduceLT, Int.reduceLE, if_neg, nS, iZ_clampN, iZ_bit, iZ_one, iZ_and, iZ_or, iZ_ndn, f0, g0, g1]
  · rw [xI_pI, if_pos ⟨rfl, rfl⟩]; rfl
  · rw [xI_pI_ne (by simp), xI_pI_ne (by simp), xI_pI, if_pos ⟨rfl, rfl⟩]
  · rw [xI_pI_ne (by simp), xI_pI, if_pos ⟨rfl, rfl⟩]
theorem x_partNamed {M : xM} {s P : Nat} {v : Int} {nm : Nat → Int} (hP : P ≤ 9) (f0 : xI M (5, s) 0 = iZ P) (hv : r32 v) (hn : ∀ q, q < P → xI M (40, s) q = iZ (nm q) ∧ r32 (nm q)) : fX5_partNamed [.inr (.inr (5, s)), .inl (iZ (v))] M = some (some (.inl (iZ (if lst (fun q => nm q = v) P < P then (lst (fun q => nm q = v) P : Int) else -1))), M) := by
  have lp := xfor_R (sg := gX5_partNamed) (st := fun i K => (2, [some (.inr (.inr (5, s))), some (.inl (iZ (v))), some (.inl (iZ (i)))], [], K)) (I := fun i K => K = M ∧ ∀ q, q < i → nm q ≠ v) (Q := fun o => o = some (some (.inl (iZ (if lst (fun q => nm q = v) P < P then (lst (fun q => nm q = v) P : Int) else -1))), M)) (n := P) (fun i K hi hK => by
    obtain ⟨rfl, h1⟩ := hK
    obtain ⟨n1, n2⟩ := hn i hi
    unfold r32 at n2 hv
    by_cases e : nm i = v
    · have el : lst (fun q => nm q = v) P = i := lst_eq (by omega) h1 (fun _ => e)
      refine .inr ?_
      rw [el, if_pos hi]
      rw [xfix_unf, sX5_partNamed_2]
      simp (disch := omega) only [xk_none, xk_inl, xk_inr, xk_ite, xri_v, xrl_v, xrv_v, xb_z0, xb_z1, xb_b2, if_true, if_false, ite_true, ite_false, iZ_lit, iZ_m1, iZ_m99, iZ_m8, iZ_add, iZ_sub, iZ_mul, iZ_neg, nz0, nzi, iZ_lt, iZ_le, iZ_inj, b2_z, b2_o, ite_bPz, ite_bPo, xb_bP, iZ_xin, if_pos, ite_self, ↓reduceIte, Int.reduceAdd, Int.reduceSub, Int.reduceMul, Int.reduceNeg, Int.reduceLT, Int.reduceLE, if_neg, nS, iZ_clampN, iZ_bit, iZ_one, iZ_and, iZ_or, iZ_ndn, f0, n1]
    · refine .inl ⟨K, ?_, rfl, fun q hq => ?_⟩
      · rw [nS]
        rw [xfix_unf, sX5_partNamed_2]
        simp (disch := omega) only [xk_none, xk_inl, xk_inr, xk_ite, xri_v, xrl_v, xrv_v, xb_z0, xb_z1, xb_b2, if_true, if_false, ite_true, ite_false, iZ_lit, iZ_m1, iZ_m99, iZ_m8, iZ_add, iZ_sub, iZ_mul, iZ_neg, nz0, nzi, iZ_lt, iZ_le, iZ_inj, b2_z, b2_o, ite_bPz, ite_bPo, xb_bP, iZ_xin, if_pos, ite_self, ↓reduceIte, Int.reduceAdd, Int.reduceSub, Int.reduceMul, Int.reduceNeg, Int.reduceLT, Int.reduceLE, if_neg, nS, iZ_clampN, iZ_bit, iZ_one, iZ_and, iZ_or, iZ_ndn, f0, n1]
      · by_cases e2 : q = i
        · rw [e2]; exact e
        · exact h1 q (by omega)) (fun K hK => by
    obtain ⟨rfl, h1⟩ := hK
    have el : lst (fun q => nm q = v) P = P := lst_eq (by omega) h1 (fun z => by omega)
    rw [el, if_neg (by omega)]
    rw [xfix_unf, sX5_partNamed_2]
    simp (disch := omega) only [xk_none, xk_inl, xk_inr, xk_ite, xri_v, xrl_v, xrv_v, xb_z0, xb_z1, xb_b2, if_true, if_false, ite_true, ite_false, iZ_lit, iZ_m1, iZ_m99, iZ_m8, iZ_add, iZ_sub, iZ_mul, iZ_neg, nz0, nzi, iZ_lt, iZ_le, iZ_inj, b2_z, b2_o, ite_bPz, ite_bPo, xb_bP, iZ_xin, if_pos, ite_self, ↓reduceIte, Int.reduceAdd, Int.reduceSub, Int.reduceMul, Int.reduceNeg, Int.reduceLT, Int.reduceLE, if_neg, nS, iZ_clampN, iZ_bit, iZ_one, iZ_and, iZ_or, iZ_ndn, f0]) (a := 0) (M := M) (by omega) ⟨rfl, fun q hq => by omega⟩
  refine Eq.trans ?_ lp
  have z0 : ((0 : Nat) : Int) = 0 := rfl
  show xfix gX5_partNamed (0, [some (.inr (.inr (5, s))), some (.inl (iZ (v))), none], [], M) = _; rw [xfix_unf, sX5_partNamed_0]
  simp (disch := omega) only [xk_none, xk_inl, xk_inr, xk_ite, xri_v, xrl_v, xrv_v, xb_z0, xb_z1, xb_b2, if_true, if_false, ite_true, ite_false, iZ_lit, iZ_m1, iZ_m99, iZ_m8, iZ_add, iZ_sub, iZ_mul, iZ_neg, nz0, nzi, iZ_lt, iZ_le, iZ_inj, b2_z, b2_o, ite_bPz, ite_bPo, xb_bP, iZ_xin, if_pos, ite_self, ↓reduceIte, Int.reduceAdd, Int.reduceSub, Int.reduceMul, Int.reduceNeg, Int.reduceLT, Int.reduceLE, if_neg, z0]
def spt (a w : Nat) : Nat := 512 * (a % 8) + 64 * (a / 8 % 8) + 8 * (a / 64) + w
theorem spd {x y z w : Nat} (hx : x < 8) (hy : y < 8) (hz : z < 8) (hw : w < 8) : (512 * x + 64 * y + 8 * z + w) / 512 % 8 = x ∧ (512 * x + 64 * y + 8 * z + w) / 64 % 8 = y ∧ (512 * x + 64 * y + 8 * z + w) / 8 % 8 = z ∧ (512 * x + 64 * y + 8 * z + w) % 8 = w := by
  refine ⟨?_, ?_, ?_, ?_⟩ <;> omega
theorem sp_dig {n p : Nat} (hn : n < 2147483648) (hp : p < 32) : iZ (n : Int) >>> (iZ (p : Int) &&& iZ 31) &&& iZ 7 = iZ ((n / 2 ^ p % 8 : Nat) : Int) := by
  rw [iZ_shr hn hp, Nat.shiftRight_eq_div_pow]
  have : iZ ((n / 2 ^ p : Nat) : Int) &&& iZ ((7 : Nat) : Int) = iZ ((n / 2 ^ p &&& 7 : Nat) : Int) := iZ_and _ 7
  refine this.trans ?_
  rw [show (7 : Nat) = 2 ^ 3 - 1 from rfl, Nat.and_two_pow_sub_one_eq_mod]
theorem x_partAt' {M : xM} {s : Nat} {A : dA} {x y z : Int} (h : cBd M s (aP A) (aC A)) (hA : aOk A) (hx : r32 x) (hy : r32 y) (hz : r32 z) : fX5_partAt [.inr (.inr (5, s)), .inl (iZ (x)), .inl (iZ (y)), .inl (iZ (z))] M = some (some (.inl (iZ (aat A x y z))), M) := by
  rw [x_partAt h (fun c hc => hA.C hc) hx hy hz]
  unfold aat
  by_cases e : (0 ≤ x ∧ x < 8) ∧ (0 ≤ y ∧ y < 8) ∧ (0 ≤ z ∧ z < 8)
  · rw [if_pos e, if_pos (by omega)]
  · rw [if_neg e, if_neg (by omega)]
noncomputable def cvI (A : dA) (a w i : Nat) : Nat := msk (fun p => ∃ k, 1 ≤ k ∧ k < i ∧ ray A a w k = (p : Int)) 9
theorem x_partsBeyond {M : xM} {s a w : Nat} {A : dA} (h : cBd M s (aP A) (aC A)) (hA : aOk A) (ha : a < 512) (hw : w < 6) : fX5_partsBeyond [.inr (.inr (5, s)), .inl (iZ ((spt a w)))] M = some (some (.inl (iZ ((cvI A a w 8 : Nat)))), M) := by
  have hP := hA.P
  have hb : spt a w < 4096 := by unfold spt; omega
  have d9 : iZ ((spt a w : Nat) : Int) >>> (iZ 9 &&& iZ 31) &&& iZ 7 = iZ ((a % 8 : Nat) : Int) := by
    have := sp_dig (n := spt a w) (p := 9) (by omega) (by omega)
    refine this.trans ?_
    rw [show spt a w / 2 ^ 9 % 8 = a % 8 from (spd (by omega) (by omega) (by omega) (by omega)).1]
  have d6 : iZ ((spt a w : Nat) : Int) >>> (iZ 6 &&& iZ 31) &&& iZ 7 = iZ ((a / 8 % 8 : Nat) : Int) := by
    have := sp_dig (n := spt a w) (p := 6) (by omega) (by omega)
    refine this.trans ?_
    rw [show spt a w / 2 ^ 6 % 8 = a / 8 % 8 from (spd (by omega) (by omega) (by omega) (by omega)).2.1]
  have d3 : iZ ((spt a w : Nat) : Int) >>> (iZ 3 &&& iZ 31) &&& iZ 7 = iZ ((a / 64 : Nat) : Int) := by
    have := sp_dig (n := spt a w) (p := 3) (by omega) (by omega)
    refine this.trans ?_
    rw [show spt a w / 2 ^ 3 % 8 = a / 64 from (spd (by omega) (by omega) (by omega) (by omega)).2.2.1]
  have d0 : iZ ((spt a w : Nat) : Int) &&& iZ 7 = iZ (w : Int) := by
    have : iZ ((spt a w : Nat) : Int) &&& iZ ((7 : Nat) : Int) = iZ ((spt a w &&& 7 : Nat) : Int) := iZ_and _ 7
    refine this.trans ?_
    rw [show (7 : Nat) = 2 ^ 3 - 1 from rfl, Nat.and_two_pow_sub_one_eq_mod, show spt a w % 2 ^ 3 = w by unfold spt; omega]
  generalize spt a w = n at *
  have lp := xfor_F (sg := gX5_partsBeyond) (fun i => (13, [some (.inr (.inr (5, s))), some (.inl (iZ (n))), some (.inl (iZ (((w / 2 : Nat))))), some (.inl (iZ ((cvI A a w (i + 1))))), some (.inl (iZ (((i + 1 : Nat))))), none, none, none, none, none], [], M)) (a := 0) (n := 7) (by omega) (fun i _ hi => by
    have hS := x_signOf (M := M) (w := w) (by omega)
    have hr := r_le ha hw (k := i + 1) (by omega)
    have hp := x_partAt' (M := M) h hA (x := rX a w (i + 1)) (y := rY a w (i + 1)) (z := rZ a w (i + 1)) (by unfold r32; omega) (by unfold r32; omega) (by unfold r32; omega)
    have hq := aat_le hA (rX a w (i + 1)) (rY a w (i + 1)) (rZ a w (i + 1))
    have en : ((i + 1 + 1 : Nat) : Int) = ((i + 1 : Nat) : Int) + 1 := rfl
    have fin : ∀ v : Int, aat A (rX a w (i + 1)) (rY a w (i + 1)) (rZ a w (i + 1)) = v → (v = -1 → cvI A a w (i + 1 + 1) = cvI A a w (i + 1)) ∧ (∀ p : Nat, v = p → cvI A a w (i + 1 + 1) = cvI A a w (i + 1) ||| 2 ^ p) := fun v hv => by
      constructor
      · intro e
        refine msk_cg fun p hp => ⟨fun ⟨k, k1, k2, k3⟩ => ⟨k, k1, ?_, k3⟩, fun ⟨k, k1, k2, k3⟩ => ⟨k, k1, by omega, k3⟩⟩
        by_cases e2 : k = i + 1
        · have k4 : aat A (rX a w k) (rY a w k) (rZ a w k) = (p : Int) := k3
          rw [e2] at k4; omega
        · omega
      · intro p e
        unfold cvI
        rw [msk_or (by omega)]
        refine msk_cg fun q hq => ⟨fun ⟨k, k1, k2, k3⟩ => ?_, fun z => ?_⟩
        · by_cases e2 : k = i + 1
          · have k4 : aat A (rX a w k) (rY a w k) (rZ a w k) = (q : Int) := k3
            rw [e2] at k4
            exact .inr (by omega)
          · exact .inl ⟨k, k1, by omega, k3⟩
        · rcases z with ⟨k, k1, k2, k3⟩ | z
          · exact ⟨k, k1, by omega, k3⟩
          · refine ⟨i + 1, by omega, by omega, ?_⟩
            show aat A (rX a w (i + 1)) (rY a w (i + 1)) (rZ a w (i + 1)) = (q : Int)
            rw [hv, e, z]
    rw [en]
    have x0 : rX a w (i + 1) = ((a % 8 : Nat) : Int) + ((i + 1 : Nat) : Int) * dX w := rfl
    have y0 : rY a w (i + 1) = ((a / 8 % 8 : Nat) : Int) + ((i + 1 : Nat) : Int) * dY w := rfl
    have z0 : rZ a w (i + 1) = ((a / 64 : Nat) : Int) + ((i + 1 : Nat) : Int) * dZ w := rfl
    have hi7 : i + 1 ≤ 7 := hi
    have t90 : xfix gX5_partsBeyond (13, [some (.inr (.inr (5, s))), some (.inl (iZ (n))), some (.inl (iZ (((w / 2 : Nat))))), some (.inl (iZ ((cvI A a w (i + 1))))), some (.inl (iZ (((i + 1 : Nat))))), none, none, none, none, none], [], M) = xfix gX5_partsBeyond (13, [some (.inr (.inr (5, s))), some (.inl (iZ (n))), some (.inl (iZ (((w / 2 : Nat))))), some (.inl (iZ ((cvI A a w (i + 1 + 1))))), some (.inl (iZ ((((i + 1 : Nat) : Int) + 1)))), none, none, none, none, none], [], M) := by
      generalize aat A (rX a w (i + 1)) (rY a w (i + 1)) (rZ a w (i + 1)) = v at *
      obtain ⟨fin1, fin2⟩ := fin v rfl
      generalize cvI A a w (i + 1 + 1) = c2 at *
      generalize cvI A a w (i + 1) = c1 at *
      rw [x0, y0, z0] at hp
      generalize i + 1 = m at *
      generalize a % 8 = ax at *
      generalize a / 8 % 8 = ay at *
      generalize a / 64 = az at *
      rcases w6 hw with e | e | e | e | e | e <;> subst e
      · have hS' : fX11_signOf [.inl (iZ ((0 : Int)))] M = some (some (.inl (iZ (1))), M) := hS
        have ew : ((0 / 2 : Nat) : Int) = 0 := rfl
        rw [show dX 0 = 1 from rfl, show dY 0 = 0 from rfl, show dZ 0 = 0 from rfl] at hp
        rw [Int.mul_zero] at hp
        by_cases ev : v = -1
        · subst ev
          rw [fin1 rfl]
          rw [xfix_unf, sX5_partsBeyond_13]
          simp (disch := omega) only [xk_none, xk_inl, xk_inr, xk_ite, xri_v, xrl_v, xrv_v, xb_z0, xb_z1, xb_b2, if_true, if_false, ite_true, ite_false, iZ_lit, iZ_m1, iZ_m99, iZ_m8, iZ_add, iZ_sub, iZ_mul, iZ_neg, nz0, nzi, iZ_lt, iZ_le, iZ_inj, b2_z, b2_o, ite_bPz, ite_bPo, xb_bP, iZ_xin, if_pos, ite_self, ↓reduceIte, Int.reduceAdd, Int.reduceSub, Int.reduceMul, Int.reduceNeg, Int.reduceLT, Int.reduceLE, if_neg, d0, d9, hS', ew]
          rw [xfix_unf, sX5_partsBeyond_49]
          simp (disch := omega) only [xk_none, xk_inl, xk_inr, xk_ite, xri_v, xrl_v, xrv_v, xb_z0, xb_z1, xb_b2, if_true, if_false, ite_true, ite_false, iZ_lit, iZ_m1, iZ_m99, iZ_m8, iZ_add, iZ_sub, iZ_mul, iZ_neg, nz0, nzi, iZ_lt, iZ_le, iZ_inj, b2_z, b2_o, ite_bPz, ite_bPo, xb_bP, iZ_xin, if_pos, ite_self, ↓reduceIte, Int.reduceAdd, Int.reduceSub, Int.reduceMul, Int.reduceNeg, Int.reduceLT, Int.reduceLE, if_neg, d6, ew]
          rw [xfix_unf, sX5_partsBeyond_70]
          simp (disch := omega) only [xk_none, xk_inl, xk_inr, xk_ite, xri_v, xrl_v, xrv_v, xb_z0, xb_z1, xb_b2, if_true, if_false, ite_true, ite_false, iZ_lit, iZ_m1, iZ_m99, iZ_m8, iZ_add, iZ_sub, iZ_mul, iZ_neg, nz0, nzi, iZ_lt, iZ_le, iZ_inj, b2_z, b2_o, ite_bPz, ite_bPo, xb_bP, iZ_xin, if_pos, ite_self, ↓reduceIte, Int.reduceAdd, Int.reduceSub, Int.reduceMul, Int.reduceNeg, Int.reduceLT, Int.reduceLE, if_neg, d3, ew]
          rw [xfix_unf, sX5_partsBeyond_90]
          simp (disch := omega) only [xk_none, xk_inl, xk_inr, xk_ite, xri_v, xrl_v, xrv_v, xb_z0, xb_z1, xb_b2, if_true, if_false, ite_true, ite_false, iZ_lit, iZ_m1, iZ_m99, iZ_m8, iZ_add, iZ_sub, iZ_mul, iZ_neg, nz0, nzi, iZ_lt, iZ_le, iZ_inj, b2_z, b2_o, ite_bPz, ite_bPo, xb_bP, iZ_xin, if_pos, ite_self, ↓reduceIte, Int.reduceAdd, Int.reduceSub, Int.reduceMul, Int.reduceNeg, Int.reduceLT, Int.reduceLE, if_neg, hp, iZ_or0]
        · obtain ⟨p, rfl⟩ : ∃ p : Nat, v = p := ⟨v.toNat, by omega⟩
          rw [fin2 p rfl]
          rw [xfix_unf, sX5_partsBeyond_13]
          simp (disch := omega) only [xk_none, xk_inl, xk_inr, xk_ite, xri_v, xrl_v, xrv_v, xb_z0, xb_z1, xb_b2, if_true, if_false, ite_true, ite_false, iZ_lit, iZ_m1, iZ_m99, iZ_m8, iZ_add, iZ_sub, iZ_mul, iZ_neg, nz0, nzi, iZ_lt, iZ_le, iZ_inj, b2_z, b2_o, ite_bPz, ite_bPo, xb_bP, iZ_xin, if_pos, ite_self, ↓reduceIte, Int.reduceAdd, Int.reduceSub, Int.reduceMul, Int.reduceNeg, Int.reduceLT, Int.reduceLE, if_neg, d0, d9, hS', ew]
          rw [xfix_unf, sX5_partsBeyond_49]
          simp (disch := omega) only [xk_none, xk_inl, xk_inr, xk_ite, xri_v, xrl_v, xrv_v, xb_z0, xb_z1, xb_b2, if_true, if_false, ite_true, ite_false, iZ_lit, iZ_m1, iZ_m99, iZ_m8, iZ_add, iZ_sub, iZ_mul, iZ_neg, nz0, nzi, iZ_lt, iZ_le, iZ_inj, b2_z, b2_o, ite_bPz, ite_bPo, xb_bP, iZ_xin, if_pos, ite_self, ↓reduceIte, Int.reduceAdd, Int.reduceSub, Int.reduceMul, Int.reduceNeg, Int.reduceLT, Int.reduceLE, if_neg, d6, ew]
          rw [xfix_unf, sX5_partsBeyond_70]
          simp (disch := omega) only [xk_none, xk_inl, xk_inr, xk_ite, xri_v, xrl_v, xrv_v, xb_z0, xb_z1, xb_b2, if_true, if_false, ite_true, ite_false, iZ_lit, iZ_m1, iZ_m99, iZ_m8, iZ_add, iZ_sub, iZ_mul, iZ_neg, nz0, nzi, iZ_lt, iZ_le, iZ_inj, b2_z, b2_o, ite_bPz, ite_bPo, xb_bP, iZ_xin, if_pos, ite_self, ↓reduceIte, Int.reduceAdd, Int.reduceSub, Int.reduceMul, Int.reduceNeg, Int.reduceLT, Int.reduceLE, if_neg, d3, ew]
          rw [xfix_unf, sX5_partsBeyond_90]
          simp (disch := omega) only [xk_none, xk_inl, xk_inr, xk_ite, xri_v, xrl_v, xrv_v, xb_z0, xb_z1, xb_b2, if_true, if_false, ite_true, ite_false, iZ_lit, iZ_m1, iZ_m99, iZ_m8, iZ_add, iZ_sub, iZ_mul, iZ_neg, nz0, nzi, iZ_lt, iZ_le, iZ_inj, b2_z, b2_o, ite_bPz, ite_bPo, xb_bP, iZ_xin, if_pos, ite_self, ↓reduceIte, Int.reduceAdd, Int.reduceSub, Int.reduceMul, Int.reduceNeg, Int.reduceLT, Int.reduceLE, if_neg, nS, iZ_clampN, iZ_bit, iZ_one, iZ_and, iZ_or, iZ_ndn, hp]
      · have hS' : fX11_signOf [.inl (iZ ((1 : Int)))] M = some (some (.inl (iZ (-1))), M) := hS
        have ew : ((1 / 2 : Nat) : Int) = 0 := rfl
        have ec : ((1 : Nat) : Int) = 1 := rfl
        rw [show dX 1 = -1 from rfl, show dY 1 = 0 from rfl, show dZ 1 = 0 from rfl] at hp
        rw [Int.mul_zero] at hp
        by_cases ev : v = -1
        · subst ev
          rw [fin1 rfl]
          rw [xfix_unf, sX5_partsBeyond_13]
          simp (disch := omega) only [xk_none, xk_inl, xk_inr, xk_ite, xri_v, xrl_v, xrv_v, xb_z0, xb_z1, xb_b2, if_true, if_false, ite_true, ite_false, iZ_lit, iZ_m1, iZ_m99, iZ_m8, iZ_add, iZ_sub, iZ_mul, iZ_neg, nz0, nzi, iZ_lt, iZ_le, iZ_inj, b2_z, b2_o, ite_bPz, ite_bPo, xb_bP, iZ_xin, if_pos, ite_self, ↓reduceIte, Int.reduceAdd, Int.reduceSub, Int.reduceMul, Int.reduceNeg, Int.reduceLT, Int.reduceLE, if_neg, d0, ec, d9, hS', ew]
          rw [xfix_unf, sX5_partsBeyond_49]
          simp (disch := omega) only [xk_none, xk_inl, xk_inr, xk_ite, xri_v, xrl_v, xrv_v, xb_z0, xb_z1, xb_b2, if_true, if_false, ite_true, ite_false, iZ_lit, iZ_m1, iZ_m99, iZ_m8, iZ_add, iZ_sub, iZ_mul, iZ_neg, nz0, nzi, iZ_lt, iZ_le, iZ_inj, b2_z, b2_o, ite_bPz, ite_bPo, xb_bP, iZ_xin, if_pos, ite_self, ↓reduceIte, Int.reduceAdd, Int.reduceSub, Int.reduceMul, Int.reduceNeg, Int.reduceLT, Int.reduceLE, if_neg, d6, ew]
          rw [xfix_unf, sX5_partsBeyond_70]
          simp (disch := omega) only [xk_none, xk_inl, xk_inr, xk_ite, xri_v, xrl_v, xrv_v, xb_z0, xb_z1, xb_b2, if_true, if_false, ite_true, ite_false, iZ_lit, iZ_m1, iZ_m99, iZ_m8, iZ_add, iZ_sub, iZ_mul, iZ_neg, nz0, nzi, iZ_lt, iZ_le, iZ_inj, b2_z, b2_o, ite_bPz, ite_bPo, xb_bP, iZ_xin, if_pos, ite_self, ↓reduceIte, Int.reduceAdd, Int.reduceSub, Int.reduceMul, Int.reduceNeg, Int.reduceLT, Int.reduceLE, if_neg, d3, ew]
          rw [xfix_unf, sX5_partsBeyond_90]
          simp (disch := omega) only [xk_none, xk_inl, xk_inr, xk_ite, xri_v, xrl_v, xrv_v, xb_z0, xb_z1, xb_b2, if_true, if_false, ite_true, ite_false, iZ_lit, iZ_m1, iZ_m99, iZ_m8, iZ_add, iZ_sub, iZ_mul, iZ_neg, nz0, nzi, iZ_lt, iZ_le, iZ_inj, b2_z, b2_o, ite_bPz, ite_bPo, xb_bP, iZ_xin, if_pos, ite_self, ↓reduceIte, Int.reduceAdd, Int.reduceSub, Int.reduceMul, Int.reduceNeg, Int.reduceLT, Int.reduceLE, if_neg, hp, iZ_or0]
        · obtain ⟨p, rfl⟩ : ∃ p : Nat, v = p := ⟨v.toNat, by omega⟩
          rw [fin2 p rfl]
          rw [xfix_unf, sX5_partsBeyond_13]
          simp (disch := omega) only [xk_none, xk_inl, xk_inr, xk_ite, xri_v, xrl_v, xrv_v, xb_z0, xb_z1, xb_b2, if_true, if_false, ite_true, ite_false, iZ_lit, iZ_m1, iZ_m99, iZ_m8, iZ_add, iZ_sub, iZ_mul, iZ_neg, nz0, nzi, iZ_lt, iZ_le, iZ_inj, b2_z, b2_o, ite_bPz, ite_bPo, xb_bP, iZ_xin, if_pos, ite_self, ↓reduceIte, Int.reduceAdd, Int.reduceSub, Int.reduceMul, Int.reduceNeg, Int.reduceLT, Int.reduceLE, if_neg, d0, ec, d9, hS', ew]
          rw [xfix_unf, sX5_partsBeyond_49]
          simp (disch := omega) only [xk_none, xk_inl, xk_inr, xk_ite, xri_v, xrl_v, xrv_v, xb_z0, xb_z1, xb_b2, if_true, if_false, ite_true, ite_false, iZ_lit, iZ_m1, iZ_m99, iZ_m8, iZ_add, iZ_sub, iZ_mul, iZ_neg, nz0, nzi, iZ_lt, iZ_le, iZ_inj, b2_z, b2_o, ite_bPz, ite_bPo, xb_bP, iZ_xin, if_pos, ite_self, ↓reduceIte, Int.reduceAdd, Int.reduceSub, Int.reduceMul, Int.reduceNeg, Int.reduceLT, Int.reduceLE, if_neg, d6, ew]
          rw [xfix_unf, sX5_partsBeyond_70]
          simp (disch := omega) only [xk_none, xk_inl, xk_inr, xk_ite, xri_v, xrl_v, xrv_v, xb_z0, xb_z1, xb_b2, if_true, if_false, ite_true, ite_false, iZ_lit, iZ_m1, iZ_m99, iZ_m8, iZ_add, iZ_sub, iZ_mul, iZ_neg, nz0, nzi, iZ_lt, iZ_le, iZ_inj, b2_z, b2_o, ite_bPz, ite_bPo, xb_bP, iZ_xin, if_pos, ite_self, ↓reduceIte, Int.reduceAdd, Int.reduceSub, Int.reduceMul, Int.reduceNeg, Int.reduceLT, Int.reduceLE, if_neg, d3, ew]
          rw [xfix_unf, sX5_partsBeyond_90]
          simp (disch := omega) only [xk_none, xk_inl, xk_inr, xk_ite, xri_v, xrl_v, xrv_v, xb_z0, xb_z1, xb_b2, if_true, if_false, ite_true, ite_false, iZ_lit, iZ_m1, iZ_m99, iZ_m8, iZ_add, iZ_sub, iZ_mul, iZ_neg, nz0, nzi, iZ_lt, iZ_le, iZ_inj, b2_z, b2_o, ite_bPz, ite_bPo, xb_bP, iZ_xin, if_pos, ite_self, ↓reduceIte, Int.reduceAdd, Int.reduceSub, Int.reduceMul, Int.reduceNeg, Int.reduceLT, Int.reduceLE, if_neg, nS, iZ_clampN, iZ_bit, iZ_one, iZ_and, iZ_or, iZ_ndn, hp]
      · have hS' : fX11_signOf [.inl (iZ ((2 : Int)))] M = some (some (.inl (iZ (1))), M) := hS
        have ew : ((2 / 2 : Nat) : Int) = 1 := rfl
        have ec : ((2 : Nat) : Int) = 2 := rfl
        rw [show dX 2 = 0 from rfl, show dY 2 = 1 from rfl, show dZ 2 = 0 from rfl] at hp
        rw [Int.mul_zero] at hp
        by_cases ev : v = -1
        · subst ev
          rw [fin1 rfl]
          rw [xfix_unf, sX5_partsBeyond_13]
          simp (disch := omega) only [xk_none, xk_inl, xk_inr, xk_ite, xri_v, xrl_v, xrv_v, xb_z0, xb_z1, xb_b2, if_true, if_false, ite_true, ite_false, iZ_lit, iZ_m1, iZ_m99, iZ_m8, iZ_add, iZ_sub, iZ_mul, iZ_neg, nz0, nzi, iZ_lt, iZ_le, iZ_inj, b2_z, b2_o, ite_bPz, ite_bPo, xb_bP, iZ_xin, if_pos, ite_self, ↓reduceIte, Int.reduceAdd, Int.reduceSub, Int.reduceMul, Int.reduceNeg, Int.reduceLT, Int.reduceLE, if_neg, d0, ec, d9, hS', ew]
          rw [xfix_unf, sX5_partsBeyond_49]
          simp (disch := omega) only [xk_none, xk_inl, xk_inr, xk_ite, xri_v, xrl_v, xrv_v, xb_z0, xb_z1, xb_b2, if_true, if_false, ite_true, ite_false, iZ_lit, iZ_m1, iZ_m99, iZ_m8, iZ_add, iZ_sub, iZ_mul, iZ_neg, nz0, nzi, iZ_lt, iZ_le, iZ_inj, b2_z, b2_o, ite_bPz, ite_bPo, xb_bP, iZ_xin, if_pos, ite_self, ↓reduceIte, Int.reduceAdd, Int.reduceSub, Int.reduceMul, Int.reduceNeg, Int.reduceLT, Int.reduceLE, if_neg, d6, ew]
          rw [xfix_unf, sX5_partsBeyond_70]
          simp (disch := omega) only [xk_none, xk_inl, xk_inr, xk_ite, xri_v, xrl_v, xrv_v, xb_z0, xb_z1, xb_b2, if_true, if_false, ite_true, ite_false, iZ_lit, iZ_m1, iZ_m99, iZ_m8, iZ_add, iZ_sub, iZ_mul, iZ_neg, nz0, nzi, iZ_lt, iZ_le, iZ_inj, b2_z, b2_o, ite_bPz, ite_bPo, xb_bP, iZ_xin, if_pos, ite_self, ↓reduceIte, Int.reduceAdd, Int.reduceSub, Int.reduceMul, Int.reduceNeg, Int.reduceLT, Int.reduceLE, if_neg, d3, ew]
          rw [xfix_unf, sX5_partsBeyond_90]
          simp (disch := omega) only [xk_none, xk_inl, xk_inr, xk_ite, xri_v, xrl_v, xrv_v, xb_z0, xb_z1, xb_b2, if_true, if_false, ite_true, ite_false, iZ_lit, iZ_m1, iZ_m99, iZ_m8, iZ_add, iZ_sub, iZ_mul, iZ_neg, nz0, nzi, iZ_lt, iZ_le, iZ_inj, b2_z, b2_o, ite_bPz, ite_bPo, xb_bP, iZ_xin, if_pos, ite_self, ↓reduceIte, Int.reduceAdd, Int.reduceSub, Int.reduceMul, Int.reduceNeg, Int.reduceLT, Int.reduceLE, if_neg, hp, iZ_or0]
        · obtain ⟨p, rfl⟩ : ∃ p : Nat, v = p := ⟨v.toNat, by omega⟩
          rw [fin2 p rfl]
          rw [xfix_unf, sX5_partsBeyond_13]
          simp (disch := omega) only [xk_none, xk_inl, xk_inr, xk_ite, xri_v, xrl_v, xrv_v, xb_z0, xb_z1, xb_b2, if_true, if_false, ite_true, ite_false, iZ_lit, iZ_m1, iZ_m99, iZ_m8, iZ_add, iZ_sub, iZ_mul, iZ_neg, nz0, nzi, iZ_lt, iZ_le, iZ_inj, b2_z, b2_o, ite_bPz, ite_bPo, xb_bP, iZ_xin, if_pos, ite_self, ↓reduceIte, Int.reduceAdd, Int.reduceSub, Int.reduceMul, Int.reduceNeg, Int.reduceLT, Int.reduceLE, if_neg, d0, ec, d9, hS', ew]
          rw [xfix_unf, sX5_partsBeyond_49]
          simp (disch := omega) only [xk_none, xk_inl, xk_inr, xk_ite, xri_v, xrl_v, xrv_v, xb_z0, xb_z1, xb_b2, if_true, if_false, ite_true, ite_false, iZ_lit, iZ_m1, iZ_m99, iZ_m8, iZ_add, iZ_sub, iZ_mul, iZ_neg, nz0, nzi, iZ_lt, iZ_le, iZ_inj, b2_z, b2_o, ite_bPz, ite_bPo, xb_bP, iZ_xin, if_pos, ite_self, ↓reduceIte, Int.reduceAdd, Int.reduceSub, Int.reduceMul, Int.reduceNeg, Int.reduceLT, Int.reduceLE, if_neg, d6, ew]
          rw [xfix_unf, sX5_partsBeyond_70]
          simp (disch := omega) only [xk_none, xk_inl, xk_inr, xk_ite, xri_v, xrl_v, xrv_v, xb_z0, xb_z1, xb_b2, if_true, if_false, ite_true, ite_false, iZ_lit, iZ_m1, iZ_m99, iZ_m8, iZ_add, iZ_sub, iZ_mul, iZ_neg, nz0, nzi, iZ_lt, iZ_le, iZ_inj, b2_z, b2_o, ite_bPz, ite_bPo, xb_bP, iZ_xin, if_pos, ite_self, ↓reduceIte, Int.reduceAdd, Int.reduceSub, Int.reduceMul, Int.reduceNeg, Int.reduceLT, Int.reduceLE, if_neg, d3, ew]
          rw [xfix_unf, sX5_partsBeyond_90]
          simp (disch := omega) only [xk_none, xk_inl, xk_inr, xk_ite, xri_v, xrl_v, xrv_v, xb_z0, xb_z1, xb_b2, if_true, if_false, ite_true, ite_false, iZ_lit, iZ_m1, iZ_m99, iZ_m8, iZ_add, iZ_sub, iZ_mul, iZ_neg, nz0, nzi, iZ_lt, iZ_le, iZ_inj, b2_z, b2_o, ite_bPz, ite_bPo, xb_bP, iZ_xin, if_pos, ite_self, ↓reduceIte, Int.reduceAdd, Int.reduceSub, Int.reduceMul, Int.reduceNeg, Int.reduceLT, Int.reduceLE, if_neg, nS, iZ_clampN, iZ_bit, iZ_one, iZ_and, iZ_or, iZ_ndn, hp]
      · have hS' : fX11_signOf [.inl (iZ ((3 : Int)))] M = some (some (.inl (iZ (-1))), M) := hS
        have ew : ((3 / 2 : Nat) : Int) = 1 := rfl
        have ec : ((3 : Nat) : Int) = 3 := rfl
        rw [show dX 3 = 0 from rfl, show dY 3 = -1 from rfl, show dZ 3 = 0 from rfl] at hp
        rw [Int.mul_zero] at hp
        by_cases ev : v = -1
        · subst ev
          rw [fin1 rfl]
          rw [xfix_unf, sX5_partsBeyond_13]
          simp (disch := omega) only [xk_none, xk_inl, xk_inr, xk_ite, xri_v, xrl_v, xrv_v, xb_z0, xb_z1, xb_b2, if_true, if_false, ite_true, ite_false, iZ_lit, iZ_m1, iZ_m99, iZ_m8, iZ_add, iZ_sub, iZ_mul, iZ_neg, nz0, nzi, iZ_lt, iZ_le, iZ_inj, b2_z, b2_o, ite_bPz, ite_bPo, xb_bP, iZ_xin, if_pos, ite_self, ↓reduceIte, Int.reduceAdd, Int.reduceSub, Int.reduceMul, Int.reduceNeg, Int.reduceLT, Int.reduceLE, if_neg, d0, ec, d9, hS', ew]
          rw [xfix_unf, sX5_partsBeyond_49]
          simp (disch := omega) only [xk_none, xk_inl, xk_inr, xk_ite, xri_v, xrl_v, xrv_v, xb_z0, xb_z1, xb_b2, if_true, if_false, ite_true, ite_false, iZ_lit, iZ_m1, iZ_m99, iZ_m8, iZ_add, iZ_sub, iZ_mul, iZ_neg, nz0, nzi, iZ_lt, iZ_le, iZ_inj, b2_z, b2_o, ite_bPz, ite_bPo, xb_bP, iZ_xin, if_pos, ite_self, ↓reduceIte, Int.reduceAdd, Int.reduceSub, Int.reduceMul, Int.reduceNeg, Int.reduceLT, Int.reduceLE, if_neg, d6, ew]
          rw [xfix_unf, sX5_partsBeyond_70]
          simp (disch := omega) only [xk_none, xk_inl, xk_inr, xk_ite, xri_v, xrl_v, xrv_v, xb_z0, xb_z1, xb_b2, if_true, if_false, ite_true, ite_false, iZ_lit, iZ_m1, iZ_m99, iZ_m8, iZ_add, iZ_sub, iZ_mul, iZ_neg, nz0, nzi, iZ_lt, iZ_le, iZ_inj, b2_z, b2_o, ite_bPz, ite_bPo, xb_bP, iZ_xin, if_pos, ite_self, ↓reduceIte, Int.reduceAdd, Int.reduceSub, Int.reduceMul, Int.reduceNeg, Int.reduceLT, Int.reduceLE, if_neg, d3, ew]
          rw [xfix_unf, sX5_partsBeyond_90]
          simp (disch := omega) only [xk_none, xk_inl, xk_inr, xk_ite, xri_v, xrl_v, xrv_v, xb_z0, xb_z1, xb_b2, if_true, if_false, ite_true, ite_false, iZ_lit, iZ_m1, iZ_m99, iZ_m8, iZ_add, iZ_sub, iZ_mul, iZ_neg, nz0, nzi, iZ_lt, iZ_le, iZ_inj, b2_z, b2_o, ite_bPz, ite_bPo, xb_bP, iZ_xin, if_pos, ite_self, ↓reduceIte, Int.reduceAdd, Int.reduceSub, Int.reduceMul, Int.reduceNeg, Int.reduceLT, Int.reduceLE, if_neg, hp, iZ_or0]
        · obtain ⟨p, rfl⟩ : ∃ p : Nat, v = p := ⟨v.toNat, by omega⟩
          rw [fin2 p rfl]
          rw [xfix_unf, sX5_partsBeyond_13]
          simp (disch := omega) only [xk_none, xk_inl, xk_inr, xk_ite, xri_v, xrl_v, xrv_v, xb_z0, xb_z1, xb_b2, if_true, if_false, ite_true, ite_false, iZ_lit, iZ_m1, iZ_m99, iZ_m8, iZ_add, iZ_sub, iZ_mul, iZ_neg, nz0, nzi, iZ_lt, iZ_le, iZ_inj, b2_z, b2_o, ite_bPz, ite_bPo, xb_bP, iZ_xin, if_pos, ite_self, ↓reduceIte, Int.reduceAdd, Int.reduceSub, Int.reduceMul, Int.reduceNeg, Int.reduceLT, Int.reduceLE, if_neg, d0, ec, d9, hS', ew]
          rw [xfix_unf, sX5_partsBeyond_49]
          simp (disch := omega) only [xk_none, xk_inl, xk_inr, xk_ite, xri_v, xrl_v, xrv_v, xb_z0, xb_z1, xb_b2, if_true, if_false, ite_true, ite_false, iZ_lit, iZ_m1, iZ_m99, iZ_m8, iZ_add, iZ_sub, iZ_mul, iZ_neg, nz0, nzi, iZ_lt, iZ_le, iZ_inj, b2_z, b2_o, ite_bPz, ite_bPo, xb_bP, iZ_xin, if_pos, ite_self, ↓reduceIte, Int.reduceAdd, Int.reduceSub, Int.reduceMul, Int.reduceNeg, Int.reduceLT, Int.reduceLE, if_neg, d6, ew]
          rw [xfix_unf, sX5_partsBeyond_70]
          simp (disch := omega) only [xk_none, xk_inl, xk_inr, xk_ite, xri_v, xrl_v, xrv_v, xb_z0, xb_z1, xb_b2, if_true, if_false, ite_true, ite_false, iZ_lit, iZ_m1, iZ_m99, iZ_m8, iZ_add, iZ_sub, iZ_mul, iZ_neg, nz0, nzi, iZ_lt, iZ_le, iZ_inj, b2_z, b2_o, ite_bPz, ite_bPo, xb_bP, iZ_xin, if_pos, ite_self, ↓reduceIte, Int.reduceAdd, Int.reduceSub, Int.reduceMul, Int.reduceNeg, Int.reduceLT, Int.reduceLE, if_neg, d3, ew]
          rw [xfix_unf, sX5_partsBeyond_90]
          simp (disch := omega) only [xk_none, xk_inl, xk_inr, xk_ite, xri_v, xrl_v, xrv_v, xb_z0, xb_z1, xb_b2, if_true, if_false, ite_true, ite_false, iZ_lit, iZ_m1, iZ_m99, iZ_m8, iZ_add, iZ_sub, iZ_mul, iZ_neg, nz0, nzi, iZ_lt, iZ_le, iZ_inj, b2_z, b2_o, ite_bPz, ite_bPo, xb_bP, iZ_xin, if_pos, ite_self, ↓reduceIte, Int.reduceAdd, Int.reduceSub, Int.reduceMul, Int.reduceNeg, Int.reduceLT, Int.reduceLE, if_neg, nS, iZ_clampN, iZ_bit, iZ_one, iZ_and, iZ_or, iZ_ndn, hp]
      · have hS' : fX11_signOf [.inl (iZ ((4 : Int)))] M = some (some (.inl (iZ (1))), M) := hS
        have ew : ((4 / 2 : Nat) : Int) = 2 := rfl
        have ec : ((4 : Nat) : Int) = 4 := rfl
        rw [show dX 4 = 0 from rfl, show dY 4 = 0 from rfl, show dZ 4 = 1 from rfl] at hp
        rw [Int.mul_zero] at hp
        by_cases ev : v = -1
        · subst ev
          rw [fin1 rfl]
          rw [xfix_unf, sX5_partsBeyond_13]
          simp (disch := omega) only [xk_none, xk_inl, xk_inr, xk_ite, xri_v, xrl_v, xrv_v, xb_z0, xb_z1, xb_b2, if_true, if_false, ite_true, ite_false, iZ_lit, iZ_m1, iZ_m99, iZ_m8, iZ_add, iZ_sub, iZ_mul, iZ_neg, nz0, nzi, iZ_lt, iZ_le, iZ_inj, b2_z, b2_o, ite_bPz, ite_bPo, xb_bP, iZ_xin, if_pos, ite_self, ↓reduceIte, Int.reduceAdd, Int.reduceSub, Int.reduceMul, Int.reduceNeg, Int.reduceLT, Int.reduceLE, if_neg, d0, ec, d9, hS', ew]
          rw [xfix_unf, sX5_partsBeyond_49]
          simp (disch := omega) only [xk_none, xk_inl, xk_inr, xk_ite, xri_v, xrl_v, xrv_v, xb_z0, xb_z1, xb_b2, if_true, if_false, ite_true, ite_false, iZ_lit, iZ_m1, iZ_m99, iZ_m8, iZ_add, iZ_sub, iZ_mul, iZ_neg, nz0, nzi, iZ_lt, iZ_le, iZ_inj, b2_z, b2_o, ite_bPz, ite_bPo, xb_bP, iZ_xin, if_pos, ite_self, ↓reduceIte, Int.reduceAdd, Int.reduceSub, Int.reduceMul, Int.reduceNeg, Int.reduceLT, Int.reduceLE, if_neg, d6, ew]
          rw [xfix_unf, sX5_partsBeyond_70]
          simp (disch := omega) only [xk_none, xk_inl, xk_inr, xk_ite, xri_v, xrl_v, xrv_v, xb_z0, xb_z1, xb_b2, if_true, if_false, ite_true, ite_false, iZ_lit, iZ_m1, iZ_m99, iZ_m8, iZ_add, iZ_sub, iZ_mul, iZ_neg, nz0, nzi, iZ_lt, iZ_le, iZ_inj, b2_z, b2_o, ite_bPz, ite_bPo, xb_bP, iZ_xin, if_pos, ite_self, ↓reduceIte, Int.reduceAdd, Int.reduceSub, Int.reduceMul, Int.reduceNeg, Int.reduceLT, Int.reduceLE, if_neg, d3, ew]
          rw [xfix_unf, sX5_partsBeyond_90]
          simp (disch := omega) only [xk_none, xk_inl, xk_inr, xk_ite, xri_v, xrl_v, xrv_v, xb_z0, xb_z1, xb_b2, if_true, if_false, ite_true, ite_false, iZ_lit, iZ_m1, iZ_m99, iZ_m8, iZ_add, iZ_sub, iZ_mul, iZ_neg, nz0, nzi, iZ_lt, iZ_le, iZ_inj, b2_z, b2_o, ite_bPz, ite_bPo, xb_bP, iZ_xin, if_pos, ite_self, ↓reduceIte, Int.reduceAdd, Int.reduceSub, Int.reduceMul, Int.reduceNeg, Int.reduceLT, Int.reduceLE, if_neg, hp, iZ_or0]
        · obtain ⟨p, rfl⟩ : ∃ p : Nat, v = p := ⟨v.toNat, by omega⟩
          rw [fin2 p rfl]
          rw [xfix_unf, sX5_partsBeyond_13]
          simp (disch := omega) only [xk_none, xk_inl, xk_inr, xk_ite, xri_v, xrl_v, xrv_v, xb_z0, xb_z1, xb_b2, if_true, if_false, ite_true, ite_false, iZ_lit, iZ_m1, iZ_m99, iZ_m8, iZ_add, iZ_sub, iZ_mul, iZ_neg, nz0, nzi, iZ_lt, iZ_le, iZ_inj, b2_z, b2_o, ite_bPz, ite_bPo, xb_bP, iZ_xin, if_pos, ite_self, ↓reduceIte, Int.reduceAdd, Int.reduceSub, Int.reduceMul, Int.reduceNeg, Int.reduceLT, Int.reduceLE, if_neg, d0, ec, d9, hS', ew]
          rw [xfix_unf, sX5_partsBeyond_49]
          simp (disch := omega) only [xk_none, xk_inl, xk_inr, xk_ite, xri_v, xrl_v, xrv_v, xb_z0, xb_z1, xb_b2, if_true, if_false, ite_true, ite_false, iZ_lit, iZ_m1, iZ_m99, iZ_m8, iZ_add, iZ_sub, iZ_mul, iZ_neg, nz0, nzi, iZ_lt, iZ_le, iZ_inj, b2_z, b2_o, ite_bPz, ite_bPo, xb_bP, iZ_xin, if_pos, ite_self, ↓reduceIte, Int.reduceAdd, Int.reduceSub, Int.reduceMul, Int.reduceNeg, Int.reduceLT, Int.reduceLE, if_neg, d6, ew]
          rw [xfix_unf, sX5_partsBeyond_70]
          simp (disch := omega) only [xk_none, xk_inl, xk_inr, xk_ite, xri_v, xrl_v, xrv_v, xb_z0, xb_z1, xb_b2, if_true, if_false, ite_true, ite_false, iZ_lit, iZ_m1, iZ_m99, iZ_m8, iZ_add, iZ_sub, iZ_mul, iZ_neg, nz0, nzi, iZ_lt, iZ_le, iZ_inj, b2_z, b2_o, ite_bPz, ite_bPo, xb_bP, iZ_xin, if_pos, ite_self, ↓reduceIte, Int.reduceAdd, Int.reduceSub, Int.reduceMul, Int.reduceNeg, Int.reduceLT, Int.reduceLE, if_neg, d3, ew]
          rw [xfix_unf, sX5_partsBeyond_90]
          simp (disch := omega) only [xk_none, xk_inl, xk_inr, xk_ite, xri_v, xrl_v, xrv_v, xb_z0, xb_z1, xb_b2, if_true, if_false, ite_true, ite_false, iZ_lit, iZ_m1, iZ_m99, iZ_m8, iZ_add, iZ_sub, iZ_mul, iZ_neg, nz0, nzi, iZ_lt, iZ_le, iZ_inj, b2_z, b2_o, ite_bPz, ite_bPo, xb_bP, iZ_xin, if_pos, ite_self, ↓reduceIte, Int.reduceAdd, Int.reduceSub, Int.reduceMul, Int.reduceNeg, Int.reduceLT, Int.reduceLE, if_neg, nS, iZ_clampN, iZ_bit, iZ_one, iZ_and, iZ_or, iZ_ndn, hp]
      · have hS' : fX11_signOf [.inl (iZ ((5 : Int)))] M = some (some (.inl (iZ (-1))), M) := hS
        have ew : ((5 / 2 : Nat) : Int) = 2 := rfl
        have ec : ((5 : Nat) : Int) = 5 := rfl
        rw [show dX 5 = 0 from rfl, show dY 5 = 0 from rfl, show dZ 5 = -1 from rfl] at hp
        rw [Int.mul_zero] at hp
        by_cases ev : v = -1
        · subst ev
          rw [fin1 rfl]
          rw [xfix_unf, sX5_partsBeyond_13]
          simp (disch := omega) only [xk_none, xk_inl, xk_inr, xk_ite, xri_v, xrl_v, xrv_v, xb_z0, xb_z1, xb_b2, if_true, if_false, ite_true, ite_false, iZ_lit, iZ_m1, iZ_m99, iZ_m8, iZ_add, iZ_sub, iZ_mul, iZ_neg, nz0, nzi, iZ_lt, iZ_le, iZ_inj, b2_z, b2_o, ite_bPz, ite_bPo, xb_bP, iZ_xin, if_pos, ite_self, ↓reduceIte, Int.reduceAdd, Int.reduceSub, Int.reduceMul, Int.reduceNeg, Int.reduceLT, Int.reduceLE, if_neg, d0, ec, d9, hS', ew]
          rw [xfix_unf, sX5_partsBeyond_49]
          simp (disch := omega) only [xk_none, xk_inl, xk_inr, xk_ite, xri_v, xrl_v, xrv_v, xb_z0, xb_z1, xb_b2, if_true, if_false, ite_true, ite_false, iZ_lit, iZ_m1, iZ_m99, iZ_m8, iZ_add, iZ_sub, iZ_mul, iZ_neg, nz0, nzi, iZ_lt, iZ_le, iZ_inj, b2_z, b2_o, ite_bPz, ite_bPo, xb_bP, iZ_xin, if_pos, ite_self, ↓reduceIte, Int.reduceAdd, Int.reduceSub, Int.reduceMul, Int.reduceNeg, Int.reduceLT, Int.reduceLE, if_neg, d6, ew]
          rw [xfix_unf, sX5_partsBeyond_70]
          simp (disch := omega) only [xk_none, xk_inl, xk_inr, xk_ite, xri_v, xrl_v, xrv_v, xb_z0, xb_z1, xb_b2, if_true, if_false, ite_true, ite_false, iZ_lit, iZ_m1, iZ_m99, iZ_m8, iZ_add, iZ_sub, iZ_mul, iZ_neg, nz0, nzi, iZ_lt, iZ_le, iZ_inj, b2_z, b2_o, ite_bPz, ite_bPo, xb_bP, iZ_xin, if_pos, ite_self, ↓reduceIte, Int.reduceAdd, Int.reduceSub, Int.reduceMul, Int.reduceNeg, Int.reduceLT, Int.reduceLE, if_neg, d3, ew]
          rw [xfix_unf, sX5_partsBeyond_90]
          simp (disch := omega) only [xk_none, xk_inl, xk_inr, xk_ite, xri_v, xrl_v, xrv_v, xb_z0, xb_z1, xb_b2, if_true, if_false, ite_true, ite_false, iZ_lit, iZ_m1, iZ_m99, iZ_m8, iZ_add, iZ_sub, iZ_mul, iZ_neg, nz0, nzi, iZ_lt, iZ_le, iZ_inj, b2_z, b2_o, ite_bPz, ite_bPo, xb_bP, iZ_xin, if_pos, ite_self, ↓reduceIte, Int.reduceAdd, Int.reduceSub, Int.reduceMul, Int.reduceNeg, Int.reduceLT, Int.reduceLE, if_neg, hp, iZ_or0]
        · obtain ⟨p, rfl⟩ : ∃ p : Nat, v = p := ⟨v.toNat, by omega⟩
          rw [fin2 p rfl]
          rw [xfix_unf, sX5_partsBeyond_13]
          simp (disch := omega) only [xk_none, xk_inl, xk_inr, xk_ite, xri_v, xrl_v, xrv_v, xb_z0, xb_z1, xb_b2, if_true, if_false, ite_true, ite_false, iZ_lit, iZ_m1, iZ_m99, iZ_m8, iZ_add, iZ_sub, iZ_mul, iZ_neg, nz0, nzi, iZ_lt, iZ_le, iZ_inj, b2_z, b2_o, ite_bPz, ite_bPo, xb_bP, iZ_xin, if_pos, ite_self, ↓reduceIte, Int.reduceAdd, Int.reduceSub, Int.reduceMul, Int.reduceNeg, Int.reduceLT, Int.reduceLE, if_neg, d0, ec, d9, hS', ew]
          rw [xfix_unf, sX5_partsBeyond_49]
          simp (disch := omega) only [xk_none, xk_inl, xk_inr, xk_ite, xri_v, xrl_v, xrv_v, xb_z0, xb_z1, xb_b2, if_true, if_false, ite_true, ite_false, iZ_lit, iZ_m1, iZ_m99, iZ_m8, iZ_add, iZ_sub, iZ_mul, iZ_neg, nz0, nzi, iZ_lt, iZ_le, iZ_inj, b2_z, b2_o, ite_bPz, ite_bPo, xb_bP, iZ_xin, if_pos, ite_self, ↓reduceIte, Int.reduceAdd, Int.reduceSub, Int.reduceMul, Int.reduceNeg, Int.reduceLT, Int.reduceLE, if_neg, d6, ew]
          rw [xfix_unf, sX5_partsBeyond_70]
          simp (disch := omega) only [xk_none, xk_inl, xk_inr, xk_ite, xri_v, xrl_v, xrv_v, xb_z0, xb_z1, xb_b2, if_true, if_false, ite_true, ite_false, iZ_lit, iZ_m1, iZ_m99, iZ_m8, iZ_add, iZ_sub, iZ_mul, iZ_neg, nz0, nzi, iZ_lt, iZ_le, iZ_inj, b2_z, b2_o, ite_bPz, ite_bPo, xb_bP, iZ_xin, if_pos, ite_self, ↓reduceIte, Int.reduceAdd, Int.reduceSub, Int.reduceMul, Int.reduceNeg, Int.reduceLT, Int.reduceLE, if_neg, d3, ew]
          rw [xfix_unf, sX5_partsBeyond_90]
          simp (disch := omega) only [xk_none, xk_inl, xk_inr, xk_ite, xri_v, xrl_v, xrv_v, xb_z0, xb_z1, xb_b2, if_true, if_false, ite_true, ite_false, iZ_lit, iZ_m1, iZ_m99, iZ_m8, iZ_add, iZ_sub, iZ_mul, iZ_neg, nz0, nzi, iZ_lt, iZ_le, iZ_inj, b2_z, b2_o, ite_bPz, ite_bPo, xb_bP, iZ_xin, if_pos, ite_self, ↓reduceIte, Int.reduceAdd, Int.reduceSub, Int.reduceMul, Int.reduceNeg, Int.reduceLT, Int.reduceLE, if_neg, nS, iZ_clampN, iZ_bit, iZ_one, iZ_and, iZ_or, iZ_ndn, hp]
    exact t90)
  have hX := x_axisOf (M := M) (w := w) (by omega)
  have c1 : cvI A a w (0 + 1) = 0 := msk_e fun p _ ⟨k, k1, k2, _⟩ => by omega
  have e1 : ((0 + 1 : Nat) : Int) = 1 := rfl
  have z0 : ((0 : Nat) : Int) = 0 := rfl
  have t0 : fX5_partsBeyond [.inr (.inr (5, s)), .inl (iZ (n))] M = xfix gX5_partsBeyond (13, [some (.inr (.inr (5, s))), some (.inl (iZ (n))), some (.inl (iZ (((w / 2 : Nat))))), some (.inl (iZ ((cvI A a w (0 + 1))))), some (.inl (iZ (((0 + 1 : Nat))))), none, none, none, none, none], [], M) := by
    rw [c1, e1, z0]
    show xfix gX5_partsBeyond (0, [some (.inr (.inr (5, s))), some (.inl (iZ (n))), none, none, none, none, none, none, none, none], [], M) = _; rw [xfix_unf, sX5_partsBeyond_0]
    simp (disch := omega) only [xk_none, xk_inl, xk_inr, xk_ite, xri_v, xrl_v, xrv_v, xb_z0, xb_z1, xb_b2, if_true, if_false, ite_true, ite_false, iZ_lit, iZ_m1, iZ_m99, iZ_m8, iZ_add, iZ_sub, iZ_mul, iZ_neg, nz0, nzi, iZ_lt, iZ_le, iZ_inj, b2_z, b2_o, ite_bPz, ite_bPo, xb_bP, iZ_xin, if_pos, ite_self, ↓reduceIte, Int.reduceAdd, Int.reduceSub, Int.reduceMul, Int.reduceNeg, Int.reduceLT, Int.reduceLE, if_neg, d0, hX]
  refine t0.trans (lp.trans ?_)
  have e8 : ((7 + 1 : Nat) : Int) = 8 := rfl
  show xfix gX5_partsBeyond (13, [some (.inr (.inr (5, s))), some (.inl (iZ (n))), some (.inl (iZ (((w / 2 : Nat))))), some (.inl (iZ ((cvI A a w 8)))), some (.inl (iZ (((7 + 1 : Nat))))), none, none, none, none, none], [], M) = _
  rw [e8]
  rw [xfix_unf, sX5_partsBeyond_13]
  simp (disch := omega) only [xk_none, xk_inl, xk_inr, xk_ite, xri_v, xrl_v, xrv_v, xb_z0, xb_z1, xb_b2, if_true, if_false, ite_true, ite_false, iZ_lit, iZ_m1, iZ_m99, iZ_m8, iZ_add, iZ_sub, iZ_mul, iZ_neg, nz0, nzi, iZ_lt, iZ_le, iZ_inj, b2_z, b2_o, ite_bPz, ite_bPo, xb_bP, iZ_xin, if_pos, ite_self, ↓reduceIte, Int.reduceAdd, Int.reduceSub, Int.reduceMul, Int.reduceNeg, Int.reduceLT, Int.reduceLE, if_neg]
theorem x_findCovers {M : xM} {s : Nat} {A : dA} (h : cBd M s (aP A) (aC A)) (hA : aOk A) (f1 : xI M (5, s) 1 = iZ (aJ A)) (hj : ∀ j, j < aJ A → xI M (43, s) j = iZ (spt (aAt A j) (aWay A j))) : ∃ M', fX5_findCovers [.inr (.inr (5, s))] M = some (none, M') ∧ xSame (fun r => r = (42, s)) M M' ∧ ∀ j, j < aJ A → xI M' (42, s) j = iZ (covS A j) := by
  have hJ := hA.J
  obtain ⟨M2, b1, b2, b3⟩ := xfor_M (sg := gX5_findCovers) (st := fun i M => (2, [some (.inr (.inr (5, s))), some (.inl (iZ (i)))], [], M)) (I := fun n K => xSame (fun r => r = (42, s)) M K ∧ ∀ j, j < n → xI K (42, s) j = iZ (covS A j)) (n := aJ A) (fun i K hi hK => by
    obtain ⟨k1, k2⟩ := hK
    have g1 : xI K (5, s) 1 = iZ (aJ A) := by rw [(k1 (5, s) (by simp)).1]; exact f1
    have g2 : xI K (43, s) i = iZ (spt (aAt A i) (aWay A i)) := by rw [(k1 (43, s) (by simp)).1]; exact hj i hi
    have hK' : cBd K s (aP A) (aC A) := ⟨by rw [(k1 (5, s) (by simp)).1]; exact h.1, h.2.1, fun p hp c hc => by rw [sB_same k1 (by simp) c]; exact h.2.2 p hp c hc⟩
    obtain ⟨_, _, _, a1, a2⟩ := hA.Jt hi
    have hp := x_partsBeyond (M := K) hK' hA a1 a2
    refine ⟨xpI K (42, s) i (iZ (covS A i)), ?_, k1.pI rfl, fun j hj => ?_⟩
    · have ec : cvI A (aAt A i) (aWay A i) 8 = covS A i := rfl
      rw [ec] at hp
      rw [nS]
      rw [xfix_unf, sX5_findCovers_2]
      simp (disch := omega) only [xk_none, xk_inl, xk_inr, xk_ite, xri_v, xrl_v, xrv_v, xb_z0, xb_z1, xb_b2, if_true, if_false, ite_true, ite_false, iZ_lit, iZ_m1, iZ_m99, iZ_m8, iZ_add, iZ_sub, iZ_mul, iZ_neg, nz0, nzi, iZ_lt, iZ_le, iZ_inj, b2_z, b2_o, ite_bPz, ite_bPo, xb_bP, iZ_xin, if_pos, ite_self, ↓reduceIte, Int.reduceAdd, Int.reduceSub, Int.reduceMul, Int.reduceNeg, Int.reduceLT, Int.reduceLE, if_neg, nS, iZ_clampN, iZ_bit, iZ_one, iZ_and, iZ_or, iZ_ndn, g1, g2, hp]
    · rw [xI_pI]
      by_cases e : j = i
      · rw [if_pos ⟨rfl, e⟩, e]
      · rw [if_neg (fun z => e z.2)]; exact k2 j (by omega)) (a := 0) (M := M) (by omega) ⟨xSame.rf, fun j hj => by omega⟩
  refine ⟨M2, ?_, b2, b3⟩
  have g1 : xI M2 (5, s) 1 = iZ (aJ A) := by rw [(b2 (5, s) (by simp)).1]; exact f1
  show xfix gX5_findCovers (0, [some (.inr (.inr (5, s))), none], [], M) = _; rw [xfix_unf, sX5_findCovers_0]
  simp (disch := omega) only [xk_none, xk_inl, xk_inr, xk_ite, xri_v, xrl_v, xrv_v, xb_z0, xb_z1, xb_b2, if_true, if_false, ite_true, ite_false, iZ_lit, iZ_m1, iZ_m99, iZ_m8, iZ_add, iZ_sub, iZ_mul, iZ_neg, nz0, nzi, iZ_lt, iZ_le, iZ_inj, b2_z, b2_o, ite_bPz, ite_bPo, xb_bP, iZ_xin, if_pos, ite_self, ↓reduceIte, Int.reduceAdd, Int.reduceSub, Int.reduceMul, Int.reduceNeg, Int.reduceLT, Int.reduceLE, if_neg]
  refine Eq.trans b1 ?_
  rw [xfix_unf, sX5_findCovers_2]
  simp (disch := omega) only [xk_none, xk_inl, xk_inr, xk_ite, xri_v, xrl_v, xrv_v, xb_z0, xb_z1, xb_b2, if_true, if_false, ite_true, ite_false, iZ_lit, iZ_m1, iZ_m99, iZ_m8, iZ_add, iZ_sub, iZ_mul, iZ_neg, nz0, nzi, iZ_lt, iZ_le, iZ_inj, b2_z, b2_o, ite_bPz, ite_bPo, xb_bP, iZ_xin, if_pos, ite_self, ↓reduceIte, Int.reduceAdd, Int.reduceSub, Int.reduceMul, Int.reduceNeg, Int.reduceLT, Int.reduceLE, if_neg, nS, iZ_clampN, iZ_bit, iZ_one, iZ_and, iZ_or, iZ_ndn, g1]
