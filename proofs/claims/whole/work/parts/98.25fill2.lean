/-! the class: all orders -/
theorem ordT_one {one : Nat → Prop} {ok pt : Nat → Nat → Prop} {heap : Nat} (h : one heap) : ordT one ok pt (heap + 1) heap = 1 := by
  have e : ordT one ok pt (heap + 1) heap = ordP one ok pt heap (ordT one ok pt heap) heap := tab_at _ _ (by omega)
  rw [e]
  have key : ∀ i, ordP one ok pt heap (ordT one ok pt heap) i = 1 := fun i => by
    induction i with
    | zero =>
      show @ite _ (one heap) (Classical.propDecidable _) 1 0 + 0 = (1 : Int)
      rw [if_pos h]; rfl
    | succ i ih => rw [ordP_S, ih, if_neg fun z => z.1.1 h]; rfl
  exact key heap
theorem leaT_one {one : Nat → Prop} {ok : Nat → Nat → Prop} {gw : Nat → Nat → Nat → Prop} {cst : Nat → Nat → Int} {heap : Nat} (h : one heap) : leaT one ok gw cst (heap + 1) heap = (0, 0, 0) := by
  have e : leaT one ok gw cst (heap + 1) heap = leaP one ok gw cst heap (leaT one ok gw cst heap) heap := tab_at _ _ (by omega)
  rw [e]
  have key : ∀ i, leaP one ok gw cst heap (leaT one ok gw cst heap) i = (0, 0, 0) := fun i => by
    induction i with
    | zero => exact if_pos h
    | succ i ih => rw [leaP_S, ih, if_neg fun z => z.1.1 h]
  exact key heap
theorem x_fill {M : xM} {A : dA} {B : Nat → Nat} {k kw g : Nat} {one : Nat → Prop} {ok pt : Nat → Nat → Prop} {gw : Nat → Nat → Nat → Prop} (hA : aOk A) (f0 : xI M (5, 0) 0 = iZ (aP A)) (hy : oHy A B g one ok pt gw) (hJ : cJt M A) (hW : cWy M kw (aP A) B) (hB : ∀ k, B k < 512) (hp : ∀ w, w < 7 → xI M (53, 0) w = iZ (aPr A w)) (hN : ∀ heap, 1 ≤ heap → heap < 2 ^ aP A → iZ (aPr A 6) * xI M (23, 0) heap = iZ ((aPr A 6 : Int) * (hnd A heap : Int))) : ∃ M', fX2_fill [.inr (.inr (2, k)), .inr (.inr (10, kw)), .inl (iZ (g))] M = some (none, M') ∧ xSm (fun r j => orF k r ∨ (r = (2, k) ∧ j = 4)) M M' ∧ xI M' (2, k) 4 = iZ 1 ∧ cOr M' k g one (fun h => ordT one ok pt (h + 1) h) (fun h => leaT one ok gw (cstA A) (h + 1) h) (2 ^ aP A) := by
  have hP := hA.P
  have h9 := pow9 hP
  have hy' := hy
  obtain ⟨hg, y1, _⟩ := hy
  obtain ⟨M2, b1, b2, b3⟩ := xfor_M (sg := gX2_fill) (st := fun i M => (2, [some (.inr (.inr (2, k))), some (.inr (.inr (10, kw))), some (.inl (iZ (g))), some (.inl (iZ (((i + 1 : Nat))))), none], [], M)) (I := fun n K => xSame (orF k) M K ∧ cOr K k g one (fun h => ordT one ok pt (h + 1) h) (fun h => leaT one ok gw (cstA A) (h + 1) h) (n + 1)) (n := 2 ^ aP A - 1) (fun i K hi hK => by
    obtain ⟨k1, k2⟩ := hK
    obtain ⟨heap, eh⟩ : ∃ heap, heap = i + 1 := ⟨_, rfl⟩
    have h1 : 1 ≤ heap := by omega
    have hh : heap < 2 ^ aP A := by omega
    have g0 : xI K (5, 0) 0 = iZ (aP A) := by rw [(k1 (5, 0) (by simp)).1]; exact f0
    have hw := x_whole (M := K) (s := 0) g0 hP
    have ho := x_isOne (M := K) (heap := heap) h1 (by omega)
    have en : ((i + 1 + 1 : Nat) : Int) = (heap : Int) + 1 := by omega
    have hwb : (heap : Int) ≤ ((2 ^ aP A : Nat) : Int) - 1 ∧ ((2 ^ aP A : Nat) : Int) - 1 ≤ 511 := by omega
    rw [← eh] at k2 ⊢
    show ∃ M', xfix gX2_fill (2, [some (.inr (.inr (2, k))), some (.inr (.inr (10, kw))), some (.inl (iZ (g))), some (.inl (iZ (heap))), none], [], K) = xfix gX2_fill (2, [some (.inr (.inr (2, k))), some (.inr (.inr (10, kw))), some (.inl (iZ (g))), some (.inl (iZ (((heap + 1 : Nat))))), none], [], M') ∧ _
    rw [nS]
    have keep : ∀ K' : xM, xSm (fun r j => j = heap ∧ orF k r) K K' → ∀ h, 1 ≤ h → h < heap → hAN g h → xL K' (30, k) h = lZ (ordT one ok pt (h + 1) h) ∧ xI K' (31, k) h = iZ (leaT one ok gw (cstA A) (h + 1) h).1 ∧ (¬ one h → (leaT one ok gw (cstA A) (h + 1) h).1 ≠ -1 → xI K' (32, k) h = iZ (leaT one ok gw (cstA A) (h + 1) h).2.1 ∧ xI K' (33, k) h = iZ (leaT one ok gw (cstA A) (h + 1) h).2.2) := fun K' s' h q1 q2 q3 => by
      rw [(s' (30, k) h (fun z => by omega)).2, (s' (31, k) h (fun z => by omega)).1, (s' (32, k) h (fun z => by omega)).1, (s' (33, k) h (fun z => by omega)).1]
      exact k2 h q1 q2 q3
    have t30 : ∃ t : Int, (t = 0 ∨ t = 1) ∧ (t = 1 ↔ one heap) ∧ xfix gX2_fill (2, [some (.inr (.inr (2, k))), some (.inr (.inr (10, kw))), some (.inl (iZ (g))), some (.inl (iZ (heap))), none], [], K) = xfix gX2_fill (30, [some (.inr (.inr (2, k))), some (.inr (.inr (10, kw))), some (.inl (iZ (g))), some (.inl (iZ (heap))), none], [.inl (iZ (t))], K) := by
      have yh := y1 heap h1 hh
      generalize ((2 ^ aP A : Nat) : Int) - 1 = W at *
      by_cases q : on1 heap
      · rw [bP_t q] at ho
        refine ⟨1, .inr rfl, ⟨fun _ => yh.mpr (.inl q), fun _ => rfl⟩, ?_⟩
        rw [xfix_unf, sX2_fill_2]
        simp (disch := omega) only [xk_none, xk_inl, xk_inr, xk_ite, xri_v, xrl_v, xrv_v, xb_z0, xb_z1, xb_b2, if_true, if_false, ite_true, ite_false, iZ_lit, iZ_m1, iZ_m99, iZ_m8, iZ_add, iZ_sub, iZ_mul, iZ_neg, nz0, nzi, iZ_lt, iZ_le, iZ_inj, b2_z, b2_o, ite_bPz, ite_bPo, xb_bP, iZ_xin, if_pos, ite_self, ↓reduceIte, Int.reduceAdd, Int.reduceSub, Int.reduceMul, Int.reduceNeg, Int.reduceLT, Int.reduceLE, if_neg, hw, ho]
      · rw [bP_f q] at ho
        by_cases q2 : heap = g
        · refine ⟨1, .inr rfl, ⟨fun _ => yh.mpr (.inr q2), fun _ => rfl⟩, ?_⟩
          rw [xfix_unf, sX2_fill_2]
          simp (disch := omega) only [xk_none, xk_inl, xk_inr, xk_ite, xri_v, xrl_v, xrv_v, xb_z0, xb_z1, xb_b2, if_true, if_false, ite_true, ite_false, iZ_lit, iZ_m1, iZ_m99, iZ_m8, iZ_add, iZ_sub, iZ_mul, iZ_neg, nz0, nzi, iZ_lt, iZ_le, iZ_inj, b2_z, b2_o, ite_bPz, ite_bPo, xb_bP, iZ_xin, if_pos, ite_self, ↓reduceIte, Int.reduceAdd, Int.reduceSub, Int.reduceMul, Int.reduceNeg, Int.reduceLT, Int.reduceLE, if_neg, hw, ho]
        · refine ⟨0, .inl rfl, ⟨fun z => by omega, fun z => (yh.mp z).elim (fun w => absurd w q) (fun w => absurd w q2)⟩, ?_⟩
          rw [xfix_unf, sX2_fill_2]
          simp (disch := omega) only [xk_none, xk_inl, xk_inr, xk_ite, xri_v, xrl_v, xrv_v, xb_z0, xb_z1, xb_b2, if_true, if_false, ite_true, ite_false, iZ_lit, iZ_m1, iZ_m99, iZ_m8, iZ_add, iZ_sub, iZ_mul, iZ_neg, nz0, nzi, iZ_lt, iZ_le, iZ_inj, b2_z, b2_o, ite_bPz, ite_bPo, xb_bP, iZ_xin, if_pos, ite_self, ↓reduceIte, Int.reduceAdd, Int.reduceSub, Int.reduceMul, Int.reduceNeg, Int.reduceLT, Int.reduceLE, if_neg, hw, ho]
    obtain ⟨tt, u1, u2, u3⟩ := t30
    rw [u3]
    by_cases q : one heap
    · have e1 := u2.mpr q
      subst e1
      refine ⟨xpI (xpL K (30, k) heap (lZ 1)) (31, k) heap (iZ 0), ?_, (k1.pL (.inl rfl)).pI (.inr (.inl rfl)), fun h q1 q2 q3 => ?_⟩
      · have l1 : (1 : Int64) = lZ 1 := by decide +kernel
        rw [xfix_unf, sX2_fill_30]
        simp (disch := omega) only [xk_none, xk_inl, xk_inr, xk_ite, xri_v, xrl_v, xrv_v, xb_z0, xb_z1, xb_b2, if_true, if_false, ite_true, ite_false, iZ_lit, iZ_m1, iZ_m99, iZ_m8, iZ_add, iZ_sub, iZ_mul, iZ_neg, nz0, nzi, iZ_lt, iZ_le, iZ_inj, b2_z, b2_o, ite_bPz, ite_bPo, xb_bP, iZ_xin, if_pos, ite_self, ↓reduceIte, Int.reduceAdd, Int.reduceSub, Int.reduceMul, Int.reduceNeg, Int.reduceLT, Int.reduceLE, if_neg]
        rw [xfix_unf, sX2_fill_47]
        simp (disch := omega) only [xk_none, xk_inl, xk_inr, xk_ite, xri_v, xrl_v, xrv_v, xb_z0, xb_z1, xb_b2, if_true, if_false, ite_true, ite_false, iZ_lit, iZ_m1, iZ_m99, iZ_m8, iZ_add, iZ_sub, iZ_mul, iZ_neg, nz0, nzi, iZ_lt, iZ_le, iZ_inj, b2_z, b2_o, ite_bPz, ite_bPo, xb_bP, iZ_xin, if_pos, ite_self, ↓reduceIte, Int.reduceAdd, Int.reduceSub, Int.reduceMul, Int.reduceNeg, Int.reduceLT, Int.reduceLE, if_neg, iZ_clampN, l1]
        rw [xfix_unf, sX2_fill_63]
        simp (disch := omega) only [xk_none, xk_inl, xk_inr, xk_ite, xri_v, xrl_v, xrv_v, xb_z0, xb_z1, xb_b2, if_true, if_false, ite_true, ite_false, iZ_lit, iZ_m1, iZ_m99, iZ_m8, iZ_add, iZ_sub, iZ_mul, iZ_neg, nz0, nzi, iZ_lt, iZ_le, iZ_inj, b2_z, b2_o, ite_bPz, ite_bPo, xb_bP, iZ_xin, if_pos, ite_self, ↓reduceIte, Int.reduceAdd, Int.reduceSub, Int.reduceMul, Int.reduceNeg, Int.reduceLT, Int.reduceLE, if_neg, iZ_clampN]
      · have sK : xSm (fun r j => j = heap ∧ orF k r) K (xpI (xpL K (30, k) heap (lZ 1)) (31, k) heap (iZ 0)) := (xSm.rf.pL ⟨rfl, .inl rfl⟩).pI ⟨rfl, .inr (.inl rfl)⟩
        by_cases z : h = heap
        · subst z
          dsimp only
          rw [ordT_one q, leaT_one q]
          refine ⟨?_, pR_eq, fun w => absurd q w⟩
          show xL (xpL K (30, k) h (lZ 1)) (30, k) h = lZ 1
          rw [xL_pL, if_pos ⟨rfl, rfl⟩]
        · exact keep _ sK h q1 (by omega) q3
    · have e1 : tt = 0 := u1.elim id fun z => absurd (u2.mp z) q
      subst e1
      obtain ⟨K3, eK3⟩ : ∃ K3, K3 = xpI (xpL K (30, k) heap (lZ 0)) (31, k) heap (iZ (-1)) := ⟨_, rfl⟩
      have sK : xSm (fun r j => j = heap ∧ orF k r) K K3 := by rw [eK3]; exact (xSm.rf.pL ⟨rfl, .inl rfl⟩).pI ⟨rfl, .inr (.inl rfl)⟩
      have kK3 : xSame (orF k) M K3 := k1.tr (sK.S fun r j z => z.2)
      have han := x_hAN (M := K3) (g := g) (s := heap) hg (by omega)
      have l0 : (0 : Int64) = lZ 0 := by decide +kernel
      have t63 : xfix gX2_fill (30, [some (.inr (.inr (2, k))), some (.inr (.inr (10, kw))), some (.inl (iZ (g))), some (.inl (iZ (heap))), none], [.inl (iZ ((0 : Int)))], K) = xfix gX2_fill (63, [some (.inr (.inr (2, k))), some (.inr (.inr (10, kw))), some (.inl (iZ (g))), some (.inl (iZ (heap))), some (.inl (iZ ((0 : Int))))], [.inl (iZ ((-1 : Int))), .inl (iZ (heap)), .inr (.inr (31, k))], xpL K (30, k) heap (lZ 0)) := by
        rw [xfix_unf, sX2_fill_30]
        simp (disch := omega) only [xk_none, xk_inl, xk_inr, xk_ite, xri_v, xrl_v, xrv_v, xb_z0, xb_z1, xb_b2, if_true, if_false, ite_true, ite_false, iZ_lit, iZ_m1, iZ_m99, iZ_m8, iZ_add, iZ_sub, iZ_mul, iZ_neg, nz0, nzi, iZ_lt, iZ_le, iZ_inj, b2_z, b2_o, ite_bPz, ite_bPo, xb_bP, iZ_xin, if_pos, ite_self, ↓reduceIte, Int.reduceAdd, Int.reduceSub, Int.reduceMul, Int.reduceNeg, Int.reduceLT, Int.reduceLE, if_neg]
        rw [xfix_unf, sX2_fill_47]
        simp (disch := omega) only [xk_none, xk_inl, xk_inr, xk_ite, xri_v, xrl_v, xrv_v, xb_z0, xb_z1, xb_b2, if_true, if_false, ite_true, ite_false, iZ_lit, iZ_m1, iZ_m99, iZ_m8, iZ_add, iZ_sub, iZ_mul, iZ_neg, nz0, nzi, iZ_lt, iZ_le, iZ_inj, b2_z, b2_o, ite_bPz, ite_bPo, xb_bP, iZ_xin, if_pos, ite_self, ↓reduceIte, Int.reduceAdd, Int.reduceSub, Int.reduceMul, Int.reduceNeg, Int.reduceLT, Int.reduceLE, if_neg, iZ_clampN, l0]
      rw [t63]
      by_cases q2 : hAN g heap
      · rw [bP_t q2] at han
        have f30 : xL K3 (30, k) heap = lZ 0 := by
          rw [eK3]
          show xL (xpL K (30, k) heap (lZ 0)) (30, k) heap = lZ 0
          rw [xL_pL, if_pos ⟨rfl, rfl⟩]
        have f31 : xI K3 (31, k) heap = iZ (-1) := by rw [eK3, pR_eq]
        obtain ⟨K4, d1, d2, d3, d4⟩ := x_fillHeap (M := K3) (k := k) (kw := kw) hA hy' (hJ.sm kK3.sm (by simp) (by simp) (by simp)) (hW.same kK3 (by simp)) hB (fun w hw => by rw [(kK3 (53, 0) (by simp)).1]; exact hp w hw) (by rw [(kK3 (23, 0) (by simp)).1]; exact hN heap h1 hh) h1 hh q q2 (keep K3 sK) f30 f31
        refine ⟨K4, ?_, kK3.tr (d2.S fun r j z => z.2), fun h q1 q3 q4 => ?_⟩
        · rw [xfix_unf, sX2_fill_63]
          simp (disch := omega) only [xk_none, xk_inl, xk_inr, xk_ite, xri_v, xrl_v, xrv_v, xb_z0, xb_z1, xb_b2, if_true, if_false, ite_true, ite_false, iZ_lit, iZ_m1, iZ_m99, iZ_m8, iZ_add, iZ_sub, iZ_mul, iZ_neg, nz0, nzi, iZ_lt, iZ_le, iZ_inj, b2_z, b2_o, ite_bPz, ite_bPo, xb_bP, iZ_xin, if_pos, ite_self, ↓reduceIte, Int.reduceAdd, Int.reduceSub, Int.reduceMul, Int.reduceNeg, Int.reduceLT, Int.reduceLE, if_neg, iZ_clampN, ← eK3, han, d1]
        · by_cases z : h = heap
          · subst z; exact ⟨d3, d4.1, fun _ w => d4.2 w⟩
          · exact keep K4 (sK.tr d2) h q1 (by omega) q4
      · rw [bP_f q2] at han
        refine ⟨K3, ?_, kK3, fun h q1 q3 q4 => ?_⟩
        · rw [xfix_unf, sX2_fill_63]
          simp (disch := omega) only [xk_none, xk_inl, xk_inr, xk_ite, xri_v, xrl_v, xrv_v, xb_z0, xb_z1, xb_b2, if_true, if_false, ite_true, ite_false, iZ_lit, iZ_m1, iZ_m99, iZ_m8, iZ_add, iZ_sub, iZ_mul, iZ_neg, nz0, nzi, iZ_lt, iZ_le, iZ_inj, b2_z, b2_o, ite_bPz, ite_bPo, xb_bP, iZ_xin, if_pos, ite_self, ↓reduceIte, Int.reduceAdd, Int.reduceSub, Int.reduceMul, Int.reduceNeg, Int.reduceLT, Int.reduceLE, if_neg, iZ_clampN, ← eK3, han]
        · by_cases z : h = heap
          · subst z; exact absurd q4 q2
          · exact keep K3 sK h q1 (by omega) q4) (a := 0) (M := M) (by omega) ⟨xSame.rf, fun h q1 q2 => by omega⟩
  refine ⟨xpI M2 (2, k) 4 (iZ 1), ?_, (b2.sm.wk fun r j z => .inl z).pI (.inr ⟨rfl, rfl⟩), pR_eq, fun h q1 q2 q3 => ?_⟩
  · have g0 : xI M2 (5, 0) 0 = iZ (aP A) := by rw [(b2 (5, 0) (by simp)).1]; exact f0
    have hw := x_whole (M := M2) (s := 0) g0 hP
    have e1 : ((0 + 1 : Nat) : Int) = 1 := rfl
    have e2 : ((2 ^ aP A - 1 + 1 : Nat) : Int) = ((2 ^ aP A : Nat) : Int) := by omega
    rw [e1, e2] at b1
    show xfix gX2_fill (0, [some (.inr (.inr (2, k))), some (.inr (.inr (10, kw))), some (.inl (iZ (g))), none, none], [], M) = _; rw [xfix_unf, sX2_fill_0]
    simp (disch := omega) only [xk_none, xk_inl, xk_inr, xk_ite, xri_v, xrl_v, xrv_v, xb_z0, xb_z1, xb_b2, if_true, if_false, ite_true, ite_false, iZ_lit, iZ_m1, iZ_m99, iZ_m8, iZ_add, iZ_sub, iZ_mul, iZ_neg, nz0, nzi, iZ_lt, iZ_le, iZ_inj, b2_z, b2_o, ite_bPz, ite_bPo, xb_bP, iZ_xin, if_pos, ite_self, ↓reduceIte, Int.reduceAdd, Int.reduceSub, Int.reduceMul, Int.reduceNeg, Int.reduceLT, Int.reduceLE, if_neg]
    refine Eq.trans b1 ?_
    have hW9 : 0 ≤ ((2 ^ aP A : Nat) : Int) ∧ ((2 ^ aP A : Nat) : Int) ≤ 512 := by omega
    generalize ((2 ^ aP A : Nat) : Int) = W at *
    rw [xfix_unf, sX2_fill_2]
    simp (disch := omega) only [xk_none, xk_inl, xk_inr, xk_ite, xri_v, xrl_v, xrv_v, xb_z0, xb_z1, xb_b2, if_true, if_false, ite_true, ite_false, iZ_lit, iZ_m1, iZ_m99, iZ_m8, iZ_add, iZ_sub, iZ_mul, iZ_neg, nz0, nzi, iZ_lt, iZ_le, iZ_inj, b2_z, b2_o, ite_bPz, ite_bPo, xb_bP, iZ_xin, if_pos, ite_self, ↓reduceIte, Int.reduceAdd, Int.reduceSub, Int.reduceMul, Int.reduceNeg, Int.reduceLT, Int.reduceLE, if_neg, hw]
  · have := b3 h q1 (by omega) q3
    rw [pR_nr (by omega), pR_nr (by omega), pR_nr (by omega)]
    exact this
theorem loose_n {A : dA} {heap half : Nat} : loose A heap (ndn heap half) ↔ loose A heap half := by
  unfold loose btw
  refine forall_congr' fun j => forall_congr' fun _ => imp_congr_left ?_
  refine and_congr_right fun h1 => and_congr_right fun h2 => ?_
  rw [ndn_bit, ndn_bit, h1, h2, Bool.true_and, Bool.true_and]
  cases half.testBit (aOne A j) <;> cases half.testBit (aTwo A j) <;> simp
theorem prt_gw {A : dA} {B : Nat → Nat} {heap half : Nat} (hP : aP A ≤ 9) (hB : symB B) (hh : heap < 2 ^ aP A) (hs : half &&& heap = half) : (prt A B heap half ↔ ∃ w, w < 6 ∧ gdw A B heap half w) ∧ (prt A B heap (ndn heap half) ↔ prt A B heap half) := by
  constructor
  · rw [← gwS_prt hP hB hh (ndn_and.mpr hs)]
    unfold gwS
    constructor
    · intro z
      refine Classical.byContradiction fun w => z (msk_e fun i hi q => w ⟨i, hi, q⟩)
    · rintro ⟨w, w1, w2⟩ z
      have := (msk_bit (gdw A B heap half) 6 w).mpr ⟨w1, w2⟩
      rw [z, Nat.zero_testBit] at this; cases this
  · unfold prt
    rw [ndn_nn hs, loose_n]
    exact and_congr_left' ⟨Or.symm, Or.symm⟩
theorem hAN_0 (s : Nat) : hAN 0 s := .inl (Nat.and_zero s)
theorem oHy_1 {A : dA} (hA : aOk A) : oHy A (barS A) 0 on1 ok1 (prt A (barS A)) (gdw A (barS A)) :=
  ⟨by omega, fun h h1 _ => ⟨.inl, fun z => z.elim id fun w => by omega⟩, fun _ _ _ _ _ => ⟨fun _ => hAN_0 _, fun _ => trivial⟩, fun _ _ _ => ⟨fun _ => trivial, fun _ => trivial⟩, fun heap half hh _ _ hs => prt_gw hA.P (barS_sym A) hh hs, fun _ _ _ _ _ _ => Iff.rfl⟩
theorem lv_ss {A : dA} {heap half w : Nat} (hA : aOk A) (hh : heap < 2 ^ aP A) (hw : w < 6) (h : lv (aP A) (sbrS A) heap half w) : lv (aP A) (barS A) heap half w := by
  rw [lv_iff] at *
  intro p hp hb q hq hn hz
  refine h p hp hb q hq hn ?_
  have hP := hA.P
  rw [barS_bit hw] at hz
  obtain ⟨_, c, c1, n, n1, n2, z1, z2, z3, z4, z5⟩ := hz
  rw [sbrS_bit hw hp hP]
  obtain ⟨r1, r2⟩ := ray_g.mp z3
  exact ⟨z2, z5, bit_lt hh hq, z4, c, c1, .inl z1, n, n1, n2, r1, .inl r2⟩
theorem gds_is {A : dA} {heap half w : Nat} (hA : aOk A) (hh : heap < 2 ^ aP A) (hw : w < 6) : gds A heap half w ↔ gdw A (sbrS A) heap half w := ⟨fun z => ⟨z.1.2, z.2⟩, fun z => ⟨⟨lv_ss hA hh hw z.1, z.1⟩, z.2⟩⟩
theorem oHy_s {A : dA} (hA : aOk A) : oHy A (sbrS A) 0 on1 ok1 (ptS A) (gds A) := by
  have ep : ∀ heap half, heap < 2 ^ aP A → (ptS A heap half ↔ prt A (sbrS A) heap half) := fun heap half hh => by
    unfold ptS prt
    rw [and_comm]
    refine and_congr_left' ?_
    constructor
    · rintro ⟨w, w1, w2 | w2⟩
      · exact .inl ⟨w, w1, w2.2⟩
      · exact .inr ⟨w, w1, w2.2⟩
    · rintro (⟨w, w1, w2⟩ | ⟨w, w1, w2⟩)
      · exact ⟨w, w1, .inl ⟨lv_ss hA hh w1 w2, w2⟩⟩
      · exact ⟨w, w1, .inr ⟨lv_ss hA hh w1 w2, w2⟩⟩
  refine ⟨by omega, fun h h1 _ => ⟨.inl, fun z => z.elim id fun w => by omega⟩, fun _ _ _ _ _ => ⟨fun _ => hAN_0 _, fun _ => trivial⟩, fun _ _ _ => ⟨fun _ => trivial, fun _ => trivial⟩, fun heap half hh _ _ hs => ?_, fun heap half w hh _ hw => gds_is hA hh hw⟩
  have q := prt_gw hA.P (sbrS_sym hA) hh hs
  rw [ep heap half hh, ep heap (ndn heap half) hh]
  refine ⟨q.1.trans ⟨fun ⟨w, w1, w2⟩ => ⟨w, w1, (gds_is hA hh w1).mpr w2⟩, fun ⟨w, w1, w2⟩ => ⟨w, w1, (gds_is hA hh w1).mp w2⟩⟩, q.2⟩
theorem oHy_g {A : dA} (hA : aOk A) {pair : Nat} (hp : pair < 512) : oHy A (barS A) pair (onp pair) (okp pair) (prt A (barS A)) (gdw A (barS A)) := by
  refine ⟨hp, fun h _ _ => Iff.rfl, fun heap half hh hn hs => ?_, fun heap half hs => ?_, fun heap half hh _ _ hs => prt_gw hA.P (barS_sym A) hh hs, fun _ _ _ _ _ _ => Iff.rfl⟩
  · have z : ∀ a : Nat, a &&& pair ≠ 0 ↔ ∃ i, a.testBit i = true ∧ pair.testBit i = true := fun a => and_nz
    have hb : ∀ i, half.testBit i = true → heap.testBit i = true := ndn_z.mp (ndn_and.mpr hs)
    unfold okp
    constructor
    · intro h
      by_cases q : half &&& pair = 0
      · exact .inl q
      · refine .inr ?_
        have q2 : ¬ (ndn heap half &&& pair ≠ 0) := fun w => h ⟨q, w⟩
        rw [z] at q2
        have fl : heap &&& pair = pair := hn.elim (fun w => by
          have : ¬ (heap &&& pair ≠ 0) := fun y => y w
          rw [z] at this
          obtain ⟨i, i1, i2⟩ := (z half).mp q
          exact absurd ⟨i, hb i i1, i2⟩ this) id
        refine Nat.eq_of_testBit_eq fun i => ?_
        have fi : (heap &&& pair).testBit i = pair.testBit i := by rw [fl]
        rw [Nat.testBit_and] at fi ⊢
        cases e : pair.testBit i
        · rw [Bool.and_false]
        · rw [e, Bool.and_true] at fi
          cases e2 : half.testBit i
          · exact absurd ⟨i, by rw [ndn_bit, fi, e2]; rfl, e⟩ q2
          · rfl
    · rintro h ⟨w1, w2⟩
      rcases h with h | h
      · exact w1 h
      · obtain ⟨i, i1, i2⟩ := (z _).mp w2
        rw [ndn_bit, Bool.and_eq_true, Bool.not_eq_true'] at i1
        have fi : (half &&& pair).testBit i = pair.testBit i := by rw [h]
        rw [Nat.testBit_and, i1.2, i2] at fi
        cases fi
  · unfold okp
    rw [ndn_nn hs]
    exact not_congr ⟨And.symm, And.symm⟩
