/-! the class: orders are filled -/
def hAN (g s : Nat) : Prop := s &&& g = 0 ∨ s &&& g = g
theorem x_hAN {M : xM} {g s : Nat} (hg : g < 512) (hs : s < 512) : fX2_holdsAllOrNone [.inl (iZ (s)), .inl (iZ (g))] M = some (some (.inl (bP (hAN g s))), M) := by
  have hl : s &&& g < 512 := Nat.lt_of_le_of_lt Nat.and_le_left hs
  have ha : iZ (s : Int) &&& iZ (g : Int) = iZ ((s &&& g : Nat) : Int) := iZ_and s g
  unfold hAN
  generalize (s &&& g : Nat) = z at *
  by_cases e : z = 0
  · rw [bP_t (.inl e)]
    show xfix gX2_holdsAllOrNone (0, [some (.inl (iZ (s))), some (.inl (iZ (g)))], [], M) = _; rw [xfix_unf, sX2_holdsAllOrNone_0]
    simp (disch := omega) only [xk_none, xk_inl, xk_inr, xk_ite, xri_v, xrl_v, xrv_v, xb_z0, xb_z1, xb_b2, if_true, if_false, ite_true, ite_false, iZ_lit, iZ_m1, iZ_m99, iZ_m8, iZ_add, iZ_sub, iZ_mul, iZ_neg, nz0, nzi, iZ_lt, iZ_le, iZ_inj, b2_z, b2_o, ite_bPz, ite_bPo, xb_bP, iZ_xin, if_pos, ite_self, ↓reduceIte, Int.reduceAdd, Int.reduceSub, Int.reduceMul, Int.reduceNeg, Int.reduceLT, Int.reduceLE, if_neg, ha]
  · by_cases e2 : z = g
    · rw [bP_t (.inr e2)]
      show xfix gX2_holdsAllOrNone (0, [some (.inl (iZ (s))), some (.inl (iZ (g)))], [], M) = _; rw [xfix_unf, sX2_holdsAllOrNone_0]
      simp (disch := omega) only [xk_none, xk_inl, xk_inr, xk_ite, xri_v, xrl_v, xrv_v, xb_z0, xb_z1, xb_b2, if_true, if_false, ite_true, ite_false, iZ_lit, iZ_m1, iZ_m99, iZ_m8, iZ_add, iZ_sub, iZ_mul, iZ_neg, nz0, nzi, iZ_lt, iZ_le, iZ_inj, b2_z, b2_o, ite_bPz, ite_bPo, xb_bP, iZ_xin, if_pos, ite_self, ↓reduceIte, Int.reduceAdd, Int.reduceSub, Int.reduceMul, Int.reduceNeg, Int.reduceLT, Int.reduceLE, if_neg, ha]
    · rw [bP_f (fun q => q.elim e e2)]
      show xfix gX2_holdsAllOrNone (0, [some (.inl (iZ (s))), some (.inl (iZ (g)))], [], M) = _; rw [xfix_unf, sX2_holdsAllOrNone_0]
      simp (disch := omega) only [xk_none, xk_inl, xk_inr, xk_ite, xri_v, xrl_v, xrv_v, xb_z0, xb_z1, xb_b2, if_true, if_false, ite_true, ite_false, iZ_lit, iZ_m1, iZ_m99, iZ_m8, iZ_add, iZ_sub, iZ_mul, iZ_neg, nz0, nzi, iZ_lt, iZ_le, iZ_inj, b2_z, b2_o, ite_bPz, ite_bPo, xb_bP, iZ_xin, if_pos, ite_self, ↓reduceIte, Int.reduceAdd, Int.reduceSub, Int.reduceMul, Int.reduceNeg, Int.reduceLT, Int.reduceLE, if_neg, ha]
/-- the cheapest way so far at a heap -/
def cLe (M : xM) (k heap : Nat) (l : Int × Nat × Nat) : Prop := xI M (31, k) heap = iZ l.1 ∧ (l.1 ≠ -1 → xI M (32, k) heap = iZ l.2.1 ∧ xI M (33, k) heap = iZ l.2.2)
theorem x_tryCut {M : xM} {A : dA} {k heap half : Nat} {gw : Nat → Nat → Nat → Prop} {a b : Int} {l : Int × Nat × Nat} (hA : aOk A) (hh : heap < 512) (hs : half &&& heap = half) (e1 : xI M (31, k) half = iZ a) (e2 : xI M (31, k) (ndn heap half) = iZ b) (ha : 0 ≤ a ∧ a ≤ 600000) (hb : 0 ≤ b ∧ b ≤ 600000) (hp : ∀ w, w < 7 → xI M (53, 0) w = iZ (aPr A w)) (hN : iZ (aPr A 6) * xI M (23, 0) heap = iZ ((aPr A 6 : Int) * (hnd A heap : Int))) (hl : cLe M k heap l) (hlb : -1 ≤ l.1 ∧ l.1 ≤ 1300000) : ∃ M', fX2_tryCut [.inr (.inr (2, k)), .inl (iZ (heap)), .inl (iZ (half)), .inl (iZ ((msk (gw heap half) 6)))] M = some (none, M') ∧ xSm (fun r j => j = heap ∧ (r = (31, k) ∨ r = (32, k) ∨ r = (33, k))) M M' ∧ cLe M' k heap (leaW gw (cstA A) heap half (a + b) l 6) := by
  have hf : half < 512 := and_lt hs hh
  have hrl := ndn_le heap half
  obtain ⟨M2, b1, b2, b3⟩ := xfor_M (sg := gX2_tryCut) (st := fun i M => (22, [some (.inr (.inr (2, k))), some (.inl (iZ (heap))), some (.inl (iZ (half))), some (.inl (iZ ((msk (gw heap half) 6)))), some (.inl (iZ ((a + b)))), some (.inl (iZ (i))), none], [], M)) (I := fun n K => xSm (fun r j => j = heap ∧ (r = (31, k) ∨ r = (32, k) ∨ r = (33, k))) M K ∧ cLe K k heap (leaW gw (cstA A) heap half (a + b) l n)) (n := 6) (fun w K hw hK => by
    obtain ⟨k1, k2, k3⟩ := hK
    have gl : msk (gw heap half) 6 < 64 := msk_lt _ 6
    have gb : (msk (gw heap half) 6).testBit w = true ↔ gw heap half w := by rw [msk_bit]; exact ⟨fun z => z.2, fun z => ⟨hw, z⟩⟩
    have lb := leaW_b (gw := gw) (cst := cstA A) (heap := heap) (half := half) (b := a + b) (s := l) (C := 1300000) (by omega) (fun w hw => ⟨(cstA_b hA heap hw).1, by have := (cstA_b hA heap hw).2; omega⟩) hlb w (by omega)
    have cb := cstA_b hA heap hw
    have eW : leaW gw (cstA A) heap half (a + b) l (w + 1) = @ite _ (gw heap half w ∧ ((leaW gw (cstA A) heap half (a + b) l w).1 = -1 ∨ cstA A heap w + (a + b) < (leaW gw (cstA A) heap half (a + b) l w).1)) (Classical.propDecidable _) (cstA A heap w + (a + b), half, w) (leaW gw (cstA A) heap half (a + b) l w) := rfl
    rw [eW]
    have p1 : xI K (53, 0) w = iZ (aPr A w) := by rw [(k1 (53, 0) w (by simp)).1]; exact hp w (by omega)
    have p6 : xI K (53, 0) 6 = iZ (aPr A 6) := by rw [(k1 (53, 0) 6 (by simp)).1]; exact hp 6 (by omega)
    have pn : iZ (aPr A 6) * xI K (23, 0) heap = iZ ((aPr A 6 : Int) * (hnd A heap : Int)) := by rw [(k1 (23, 0) heap (by simp)).1]; exact hN
    have ec : a + b + (aPr A w : Int) + (aPr A 6 : Int) * (hnd A heap : Int) = cstA A heap w + (a + b) := by
      show _ = (aPr A w : Int) + (aPr A 6 : Int) * (hnd A heap : Int) + (a + b)
      omega
    generalize cstA A heap w = cs at *
    generalize leaW gw (cstA A) heap half (a + b) l w = lw at *
    generalize (aPr A 6 : Int) * (hnd A heap : Int) = ph at *
    by_cases y : gw heap half w
    · have gbt := bP_t (c := (msk (gw heap half) 6).testBit w = true) (gb.mpr y)
      generalize msk (gw heap half) 6 = gm at *
      by_cases y2 : lw.1 = -1 ∨ cs + (a + b) < lw.1
      · rw [if_pos ⟨y, y2⟩]
        refine ⟨xpI (xpI (xpI K (31, k) heap (iZ (cs + (a + b)))) (32, k) heap (iZ half)) (33, k) heap (iZ w), ?_, ((k1.pI ⟨rfl, .inl rfl⟩).pI ⟨rfl, .inr (.inl rfl)⟩).pI ⟨rfl, .inr (.inr rfl)⟩, ?_, fun _ => ⟨?_, ?_⟩⟩
        · have t89 : xfix gX2_tryCut (89, [some (.inr (.inr (2, k))), some (.inl (iZ (heap))), some (.inl (iZ (half))), some (.inl (iZ (gm))), some (.inl (iZ ((a + b)))), some (.inl (iZ (w))), some (.inl (iZ ((cs + (a + b)))))], [], K) = xfix gX2_tryCut (22, [some (.inr (.inr (2, k))), some (.inl (iZ (heap))), some (.inl (iZ (half))), some (.inl (iZ (gm))), some (.inl (iZ ((a + b)))), some (.inl (iZ (((w + 1 : Nat))))), none], [], xpI (xpI (xpI K (31, k) heap (iZ (cs + (a + b)))) (32, k) heap (iZ half)) (33, k) heap (iZ w)) := by
            rw [nS]
            rw [xfix_unf, sX2_tryCut_89]
            simp (disch := omega) only [xk_none, xk_inl, xk_inr, xk_ite, xri_v, xrl_v, xrv_v, xb_z0, xb_z1, xb_b2, if_true, if_false, ite_true, ite_false, iZ_lit, iZ_m1, iZ_m99, iZ_m8, iZ_add, iZ_sub, iZ_mul, iZ_neg, nz0, nzi, iZ_lt, iZ_le, iZ_inj, b2_z, b2_o, ite_bPz, ite_bPo, xb_bP, iZ_xin, if_pos, ite_self, ↓reduceIte, Int.reduceAdd, Int.reduceSub, Int.reduceMul, Int.reduceNeg, Int.reduceLT, Int.reduceLE, if_neg, nS, iZ_clampN, iZ_bit, iZ_one, iZ_and, iZ_or, iZ_ndn]
          refine Eq.trans ?_ t89
          by_cases y3 : lw.1 = -1
          · rw [y3] at k2
            rw [xfix_unf, sX2_tryCut_22]
            simp (disch := omega) only [xk_none, xk_inl, xk_inr, xk_ite, xri_v, xrl_v, xrv_v, xb_z0, xb_z1, xb_b2, if_true, if_false, ite_true, ite_false, iZ_lit, iZ_m1, iZ_m99, iZ_m8, iZ_add, iZ_sub, iZ_mul, iZ_neg, nz0, nzi, iZ_lt, iZ_le, iZ_inj, b2_z, b2_o, ite_bPz, ite_bPo, xb_bP, iZ_xin, if_pos, ite_self, ↓reduceIte, Int.reduceAdd, Int.reduceSub, Int.reduceMul, Int.reduceNeg, Int.reduceLT, Int.reduceLE, if_neg, nS, iZ_clampN, iZ_bit, iZ_one, iZ_and, iZ_or, iZ_ndn, gbt, p1, p6, cl_6, pn, ec, k2]
          · have y4 : cs + (a + b) < lw.1 := y2.elim (fun z => absurd z y3) id
            generalize lw.1 = l1 at *
            rw [xfix_unf, sX2_tryCut_22]
            simp (disch := omega) only [xk_none, xk_inl, xk_inr, xk_ite, xri_v, xrl_v, xrv_v, xb_z0, xb_z1, xb_b2, if_true, if_false, ite_true, ite_false, iZ_lit, iZ_m1, iZ_m99, iZ_m8, iZ_add, iZ_sub, iZ_mul, iZ_neg, nz0, nzi, iZ_lt, iZ_le, iZ_inj, b2_z, b2_o, ite_bPz, ite_bPo, xb_bP, iZ_xin, if_pos, ite_self, ↓reduceIte, Int.reduceAdd, Int.reduceSub, Int.reduceMul, Int.reduceNeg, Int.reduceLT, Int.reduceLE, if_neg, nS, iZ_clampN, iZ_bit, iZ_one, iZ_and, iZ_or, iZ_ndn, gbt, p1, p6, cl_6, pn, ec, k2]
        · rw [pR_nr (by omega), pR_nr (by omega), pR_eq]
        · rw [pR_nr (by omega), pR_eq]
        · rw [pR_eq]
      · rw [if_neg (fun z => y2 z.2)]
        refine ⟨K, ?_, k1, k2, k3⟩
        have y3 : ¬ lw.1 = -1 := fun z => y2 (.inl z)
        have y4 : ¬ cs + (a + b) < lw.1 := fun z => y2 (.inr z)
        rw [nS]
        generalize lw.1 = l1 at *
        rw [xfix_unf, sX2_tryCut_22]
        simp (disch := omega) only [xk_none, xk_inl, xk_inr, xk_ite, xri_v, xrl_v, xrv_v, xb_z0, xb_z1, xb_b2, if_true, if_false, ite_true, ite_false, iZ_lit, iZ_m1, iZ_m99, iZ_m8, iZ_add, iZ_sub, iZ_mul, iZ_neg, nz0, nzi, iZ_lt, iZ_le, iZ_inj, b2_z, b2_o, ite_bPz, ite_bPo, xb_bP, iZ_xin, if_pos, ite_self, ↓reduceIte, Int.reduceAdd, Int.reduceSub, Int.reduceMul, Int.reduceNeg, Int.reduceLT, Int.reduceLE, if_neg, nS, iZ_clampN, iZ_bit, iZ_one, iZ_and, iZ_or, iZ_ndn, gbt, p1, p6, cl_6, pn, ec, k2]
    · have gbt := bP_f (c := (msk (gw heap half) 6).testBit w = true) (fun z => y (gb.mp z))
      rw [if_neg (fun z => y z.1)]
      refine ⟨K, ?_, k1, k2, k3⟩
      generalize msk (gw heap half) 6 = gm at *
      rw [nS]
      rw [xfix_unf, sX2_tryCut_22]
      simp (disch := omega) only [xk_none, xk_inl, xk_inr, xk_ite, xri_v, xrl_v, xrv_v, xb_z0, xb_z1, xb_b2, if_true, if_false, ite_true, ite_false, iZ_lit, iZ_m1, iZ_m99, iZ_m8, iZ_add, iZ_sub, iZ_mul, iZ_neg, nz0, nzi, iZ_lt, iZ_le, iZ_inj, b2_z, b2_o, ite_bPz, ite_bPo, xb_bP, iZ_xin, if_pos, ite_self, ↓reduceIte, Int.reduceAdd, Int.reduceSub, Int.reduceMul, Int.reduceNeg, Int.reduceLT, Int.reduceLE, if_neg, nS, iZ_clampN, iZ_bit, iZ_one, iZ_and, iZ_or, iZ_ndn, gbt]) (a := 0) (M := M) (by omega) ⟨xSm.rf, hl⟩
  refine ⟨M2, ?_, b2, b3⟩
  have gl : msk (gw heap half) 6 < 64 := msk_lt _ 6
  have t0 : fX2_tryCut [.inr (.inr (2, k)), .inl (iZ (heap)), .inl (iZ (half)), .inl (iZ ((msk (gw heap half) 6)))] M = xfix gX2_tryCut (22, [some (.inr (.inr (2, k))), some (.inl (iZ (heap))), some (.inl (iZ (half))), some (.inl (iZ ((msk (gw heap half) 6)))), some (.inl (iZ ((a + b)))), some (.inl (iZ (((0 : Nat))))), none], [], M) := by
    have z0 : ((0 : Nat) : Int) = 0 := rfl
    rw [z0]
    generalize msk (gw heap half) 6 = gm at *
    have hn : iZ (heap : Int) &&& (iZ (half : Int) ^^^ iZ (-1)) = iZ ((ndn heap half : Nat) : Int) := iZ_ndn heap half
    generalize ndn heap half = rs at *
    show xfix gX2_tryCut (0, [some (.inr (.inr (2, k))), some (.inl (iZ (heap))), some (.inl (iZ (half))), some (.inl (iZ (gm))), none, none, none], [], M) = _; rw [xfix_unf, sX2_tryCut_0]
    simp (disch := omega) only [xk_none, xk_inl, xk_inr, xk_ite, xri_v, xrl_v, xrv_v, xb_z0, xb_z1, xb_b2, if_true, if_false, ite_true, ite_false, iZ_lit, iZ_m1, iZ_m99, iZ_m8, iZ_add, iZ_sub, iZ_mul, iZ_neg, nz0, nzi, iZ_lt, iZ_le, iZ_inj, b2_z, b2_o, ite_bPz, ite_bPo, xb_bP, iZ_xin, if_pos, ite_self, ↓reduceIte, Int.reduceAdd, Int.reduceSub, Int.reduceMul, Int.reduceNeg, Int.reduceLT, Int.reduceLE, if_neg, iZ_clampN, hn, e1, e2]
  refine t0.trans (b1.trans ?_)
  have e6 : ((6 : Nat) : Int) = 6 := rfl
  rw [e6]
  rw [xfix_unf, sX2_tryCut_22]
  simp (disch := omega) only [xk_none, xk_inl, xk_inr, xk_ite, xri_v, xrl_v, xrv_v, xb_z0, xb_z1, xb_b2, if_true, if_false, ite_true, ite_false, iZ_lit, iZ_m1, iZ_m99, iZ_m8, iZ_add, iZ_sub, iZ_mul, iZ_neg, nz0, nzi, iZ_lt, iZ_le, iZ_inj, b2_z, b2_o, ite_bPz, ite_bPo, xb_bP, iZ_xin, if_pos, ite_self, ↓reduceIte, Int.reduceAdd, Int.reduceSub, Int.reduceMul, Int.reduceNeg, Int.reduceLT, Int.reduceLE, if_neg]
