/-! the class: down to a part, one by one -/
theorem l_m1 : (-1 : Int64) = lZ (-1) := lZ_m1
theorem l_p0 : (0 : Int64) = lZ 0 := by decide +kernel
theorem l_p1 : (1 : Int64) = lZ 1 := by decide +kernel
theorem l_n1 : -lZ 1 = lZ (-1) := lZ_neg 1
def dwR (M : xM) (A : dA) (p n : Nat) : Prop := ∀ h, 1 ≤ h → h < n → h.testBit p = true → ∃ v, xL M (29, 0) h = lZ v ∧ (-1 ≤ v ∧ v ≤ 600) ∧ isM (fun n => pf (dnE A p) n h (2 ^ p)) v
theorem isM_512 {A : dA} {p h : Nat} {v : Int} (hh : h < 512) (hm : isM (fun n => pf (dnE A p) n h (2 ^ p)) v) : -1 ≤ v ∧ v ≤ 600 := by
  rcases hm with ⟨z, _⟩ | ⟨m, z, z2, _⟩
  · omega
  · have := pf_lt dnE_lt z2
    have := Nat.two_pow_pos p
    omega
theorem x_fewestCuts {M : xM} {A : dA} {p heap : Nat} (hA : aOk A) (hJ : cJt M A) (hW : cWy M 0 (aP A) (barS A)) (hB : ∀ k, barS A k < 512) (hp : p < aP A) (h1 : 1 ≤ heap) (hh : heap < 2 ^ aP A) (hb : heap.testBit p = true) (ho : ¬ bc heap = 1) (hR : dwR M A p heap) : ∃ v, fX1_fewestCuts [.inr (.inr (1, 0)), .inl (iZ (heap)), .inl (iZ (p))] M = some (some (.inr (.inl (lZ v))), M) ∧ (-1 ≤ v ∧ v ≤ 600) ∧ isM (fun n => pf (dnE A p) n heap (2 ^ p)) v := by
  have hP := hA.P
  have h512 := Nat.lt_of_lt_of_le hh (pow9 hP).2
  obtain ⟨v', h', u1, u2, u3⟩ := xfor_sub (σ := Int) (sg := gX1_fewestCuts) (st := fun l h v => (13, [some (.inr (.inr (1, 0))), some (.inl (iZ (heap))), some (.inl (iZ (p))), some (.inr (.inl ((lZ v)))), none, some (.inl (iZ (h))), some (.inl (iZ (l))), none], [], M)) (I := fun j v => (-1 ≤ v ∧ v ≤ 600) ∧ isM (fun n => ∃ half, half < j ∧ dnE A p heap half ∧ ∃ k, n = k + 1 ∧ pf (dnE A p) k half (2 ^ p)) v) (heap := heap) h512 (by omega)
    (fun j v hj hn2 hI => ⟨hI.1, hI.2.cg fun n => ⟨fun ⟨h, a, b⟩ => ⟨h, by omega, b⟩, fun ⟨h, a, b, c⟩ => ⟨h, by
      by_cases w : h = j
      · subst w; exact absurd b.2.2.1 hn2
      · omega, b, c⟩⟩⟩)
    (fun lf h j v hl hhj hj hs hnx hI => by
      obtain ⟨iv, i2⟩ := hI
      have j1 : 1 ≤ j := by omega
      have hnh := x_nextHalf (M := M) (heap := heap) (half := h) (by omega)
      rw [hnx] at hnh
      have hL : ((lf + 1 : Nat) : Int) + -1 = (lf : Int) := by omega
      have skip : ¬ dnE A p heap j → isM (fun n => ∃ half, half < j + 1 ∧ dnE A p heap half ∧ ∃ k, n = k + 1 ∧ pf (dnE A p) k half (2 ^ p)) v := fun hn => i2.cg fun n => ⟨fun ⟨h, a, b⟩ => ⟨h, by omega, b⟩, fun ⟨h, a, b, c⟩ => ⟨h, by
        by_cases w : h = j
        · subst w; exact absurd b hn
        · omega, b, c⟩⟩
      have t54 : ∀ (t : Int), t = 0 → xfix gX1_fewestCuts (54, [some (.inr (.inr (1, 0))), some (.inl (iZ (heap))), some (.inl (iZ (p))), some (.inr (.inl ((lZ v)))), none, some (.inl (iZ (j))), some (.inl (iZ (((lf + 1 : Nat))))), none], [.inl (iZ (t))], M) = xfix gX1_fewestCuts (13, [some (.inr (.inr (1, 0))), some (.inl (iZ (heap))), some (.inl (iZ (p))), some (.inr (.inl ((lZ v)))), none, some (.inl (iZ (j))), some (.inl (iZ (lf))), none], [], M) := fun t ht => by
        rw [ht]
        rw [xfix_unf, sX1_fewestCuts_54]
        simp (disch := omega) only [xk_none, xk_inl, xk_inr, xk_ite, xri_v, xrl_v, xrv_v, xb_z0, xb_z1, xb_b2, if_true, if_false, ite_true, ite_false, iZ_lit, iZ_m1, iZ_m99, iZ_m8, iZ_add, iZ_sub, iZ_mul, iZ_neg, nz0, nzi, iZ_lt, iZ_le, iZ_inj, b2_z, b2_o, ite_bPz, ite_bPo, xb_bP, iZ_xin, if_pos, ite_self, ↓reduceIte, Int.reduceAdd, Int.reduceSub, Int.reduceMul, Int.reduceNeg, Int.reduceLT, Int.reduceLE, if_neg, hL]
      by_cases a0 : j.testBit p = true
      · obtain ⟨f, f1, f2, f3⟩ := hR j j1 hj a0
        have z1 : lg_cmp (lZ f) (lZ (-1)) = iZ 0 ↔ f = -1 := by rw [lg_eq]; exact lZ_inj (by omega) (by omega)
        have hgd := x_goodWays (M := M) (k := 0) hA hJ hW hB h512 (Nat.lt_trans hj hh) (ndn_and.mpr hs)
        have gnz := gwS_prt (A := A) (half := j) hP (barS_sym A) hh (ndn_and.mpr hs)
        have gl : gwS A (barS A) heap j < 64 := msk_lt _ 6
        by_cases a1 : f = -1
        · have lg : lg_cmp (lZ f) (lZ (-1)) = iZ 0 := z1.mpr a1
          refine ⟨v, ?_, iv, ?_⟩
          · refine Eq.trans ?_ (t54 0 rfl)
            rw [xfix_unf, sX1_fewestCuts_13]
            simp (disch := omega) only [xk_none, xk_inl, xk_inr, xk_ite, xri_v, xrl_v, xrv_v, xb_z0, xb_z1, xb_b2, if_true, if_false, ite_true, ite_false, iZ_lit, iZ_m1, iZ_m99, iZ_m8, iZ_add, iZ_sub, iZ_mul, iZ_neg, nz0, nzi, iZ_lt, iZ_le, iZ_inj, b2_z, b2_o, ite_bPz, ite_bPo, xb_bP, iZ_xin, if_pos, ite_self, ↓reduceIte, Int.reduceAdd, Int.reduceSub, Int.reduceMul, Int.reduceNeg, Int.reduceLT, Int.reduceLE, if_neg, ↓xri_some hnh, iZ_bit, bP_t a0, iZ_clampN, f1, l_m1, lg]
          · by_cases a2 : dnE A p heap j
            · refine i2.cg fun n => ⟨fun ⟨h, a, b⟩ => ⟨h, by omega, b⟩, fun ⟨h, a, b, k, c, d⟩ => ⟨h, ?_, b, k, c, d⟩⟩
              by_cases w : h = j
              · subst w
                rcases f3 with ⟨_, z⟩ | ⟨m, z, _⟩
                · exact absurd d (z k)
                · omega
              · omega
            · exact skip a2
        · have lg : ¬ lg_cmp (lZ f) (lZ (-1)) = iZ 0 := fun z => a1 (z1.mp z)
          have t13 : xfix gX1_fewestCuts (13, [some (.inr (.inr (1, 0))), some (.inl (iZ (heap))), some (.inl (iZ (p))), some (.inr (.inl ((lZ v)))), none, some (.inl (iZ (h))), some (.inl (iZ (((lf + 1 : Nat))))), none], [], M) = xfix gX1_fewestCuts (54, [some (.inr (.inr (1, 0))), some (.inl (iZ (heap))), some (.inl (iZ (p))), some (.inr (.inl ((lZ v)))), none, some (.inl (iZ (j))), some (.inl (iZ (((lf + 1 : Nat))))), none], [.inl (iZ ((1 : Int)))], M) := by
            rw [xfix_unf, sX1_fewestCuts_13]
            simp (disch := omega) only [xk_none, xk_inl, xk_inr, xk_ite, xri_v, xrl_v, xrv_v, xb_z0, xb_z1, xb_b2, if_true, if_false, ite_true, ite_false, iZ_lit, iZ_m1, iZ_m99, iZ_m8, iZ_add, iZ_sub, iZ_mul, iZ_neg, nz0, nzi, iZ_lt, iZ_le, iZ_inj, b2_z, b2_o, ite_bPz, ite_bPo, xb_bP, iZ_xin, if_pos, ite_self, ↓reduceIte, Int.reduceAdd, Int.reduceSub, Int.reduceMul, Int.reduceNeg, Int.reduceLT, Int.reduceLE, if_neg, ↓xri_some hnh, iZ_bit, bP_t a0, iZ_clampN, f1, l_m1, if_neg lg]
          have lv : lg_cmp (lZ v) (lZ (-1)) = iZ 0 ↔ v = -1 := by rw [lg_eq]; exact lZ_inj (by omega) (by omega)
          have hadd : lZ f + lZ 1 = lZ (f + 1) := lZ_add f 1
          have hcmp := lZ_cmp (a := f + 1) (b := v) (by omega) (by omega)
          by_cases a2 : prt A (barS A) heap j
          · have de : dnE A p heap j := ⟨j1, hj, hs, a0, a2⟩
            have nz := gnz.mpr a2
            have un := i2.un (T := fun n => ∃ k, n = k + 1 ∧ pf (dnE A p) k j (2 ^ p)) (f3.sh)
            rw [if_neg a1, if_neg (show ¬ f + 1 = -1 by omega)] at un
            have un2 : isM (fun n => ∃ half, half < j + 1 ∧ dnE A p heap half ∧ ∃ k, n = k + 1 ∧ pf (dnE A p) k half (2 ^ p)) (if v = -1 ∨ f + 1 < v then f + 1 else v) := un.cg fun n => by
              constructor
              · rintro (⟨h, a, b⟩ | b)
                · exact ⟨h, by omega, b⟩
                · exact ⟨j, by omega, de, b⟩
              · rintro ⟨h, a, b, c⟩
                by_cases w : h = j
                · subst w; exact .inr c
                · exact .inl ⟨h, by omega, b, c⟩
            have vb : -1 ≤ (if v = -1 ∨ f + 1 < v then f + 1 else v) ∧ (if v = -1 ∨ f + 1 < v then f + 1 else v) ≤ 601 := by split <;> omega
            refine ⟨(if v = -1 ∨ f + 1 < v then f + 1 else v), ?_, ?_, un2⟩
            · refine t13.trans ?_
              have t83 : xfix gX1_fewestCuts (83, [some (.inr (.inr (1, 0))), some (.inl (iZ (heap))), some (.inl (iZ (p))), some (.inr (.inl ((lZ v)))), none, some (.inl (iZ (j))), some (.inl (iZ (((lf + 1 : Nat))))), none], [], M) = xfix gX1_fewestCuts (13, [some (.inr (.inr (1, 0))), some (.inl (iZ (heap))), some (.inl (iZ (p))), some (.inr (.inl ((lZ (f + 1))))), none, some (.inl (iZ (j))), some (.inl (iZ (lf))), none], [], M) := by
                generalize gwS A (barS A) heap j = gm at *
                rw [xfix_unf, sX1_fewestCuts_83]
                simp (disch := omega) only [xk_none, xk_inl, xk_inr, xk_ite, xri_v, xrl_v, xrv_v, xb_z0, xb_z1, xb_b2, if_true, if_false, ite_true, ite_false, iZ_lit, iZ_m1, iZ_m99, iZ_m8, iZ_add, iZ_sub, iZ_mul, iZ_neg, nz0, nzi, iZ_lt, iZ_le, iZ_inj, b2_z, b2_o, ite_bPz, ite_bPo, xb_bP, iZ_xin, if_pos, ite_self, ↓reduceIte, Int.reduceAdd, Int.reduceSub, Int.reduceMul, Int.reduceNeg, Int.reduceLT, Int.reduceLE, if_neg, hgd, iZ_clampN, f1, l_p1, hadd, hL]
              by_cases c1 : v = -1
              · rw [if_pos (.inl c1), ← t83]
                have lg2 := lv.mpr c1
                rw [xfix_unf, sX1_fewestCuts_54]
                simp (disch := omega) only [xk_none, xk_inl, xk_inr, xk_ite, xri_v, xrl_v, xrv_v, xb_z0, xb_z1, xb_b2, if_true, if_false, ite_true, ite_false, iZ_lit, iZ_m1, iZ_m99, iZ_m8, iZ_add, iZ_sub, iZ_mul, iZ_neg, nz0, nzi, iZ_lt, iZ_le, iZ_inj, b2_z, b2_o, ite_bPz, ite_bPo, xb_bP, iZ_xin, if_pos, ite_self, ↓reduceIte, Int.reduceAdd, Int.reduceSub, Int.reduceMul, Int.reduceNeg, Int.reduceLT, Int.reduceLE, if_neg, l_m1, lg2]
              · have lg2 : ¬ lg_cmp (lZ v) (lZ (-1)) = iZ 0 := fun z => c1 (lv.mp z)
                by_cases c2 : f + 1 < v
                · rw [if_pos (.inr c2), ← t83]
                  rw [if_neg (show ¬ v < f + 1 by omega), if_neg (show ¬ f + 1 = v by omega)] at hcmp
                  rw [xfix_unf, sX1_fewestCuts_54]
                  simp (disch := omega) only [xk_none, xk_inl, xk_inr, xk_ite, xri_v, xrl_v, xrv_v, xb_z0, xb_z1, xb_b2, if_true, if_false, ite_true, ite_false, iZ_lit, iZ_m1, iZ_m99, iZ_m8, iZ_add, iZ_sub, iZ_mul, iZ_neg, nz0, nzi, iZ_lt, iZ_le, iZ_inj, b2_z, b2_o, ite_bPz, ite_bPo, xb_bP, iZ_xin, if_pos, ite_self, ↓reduceIte, Int.reduceAdd, Int.reduceSub, Int.reduceMul, Int.reduceNeg, Int.reduceLT, Int.reduceLE, if_neg, l_m1, l_n1, if_neg lg2, iZ_clampN, f1, l_p1, hadd, hcmp]
                · rw [if_neg (fun z => z.elim c1 c2)]
                  by_cases c3 : v < f + 1
                  · rw [if_pos c3] at hcmp
                    rw [xfix_unf, sX1_fewestCuts_54]
                    simp (disch := omega) only [xk_none, xk_inl, xk_inr, xk_ite, xri_v, xrl_v, xrv_v, xb_z0, xb_z1, xb_b2, if_true, if_false, ite_true, ite_false, iZ_lit, iZ_m1, iZ_m99, iZ_m8, iZ_add, iZ_sub, iZ_mul, iZ_neg, nz0, nzi, iZ_lt, iZ_le, iZ_inj, b2_z, b2_o, ite_bPz, ite_bPo, xb_bP, iZ_xin, if_pos, ite_self, ↓reduceIte, Int.reduceAdd, Int.reduceSub, Int.reduceMul, Int.reduceNeg, Int.reduceLT, Int.reduceLE, if_neg, l_m1, l_n1, if_neg lg2, iZ_clampN, f1, l_p1, hadd, hcmp, hL]
                  · rw [if_neg c3, if_pos (show f + 1 = v by omega)] at hcmp
                    rw [xfix_unf, sX1_fewestCuts_54]
                    simp (disch := omega) only [xk_none, xk_inl, xk_inr, xk_ite, xri_v, xrl_v, xrv_v, xb_z0, xb_z1, xb_b2, if_true, if_false, ite_true, ite_false, iZ_lit, iZ_m1, iZ_m99, iZ_m8, iZ_add, iZ_sub, iZ_mul, iZ_neg, nz0, nzi, iZ_lt, iZ_le, iZ_inj, b2_z, b2_o, ite_bPz, ite_bPo, xb_bP, iZ_xin, if_pos, ite_self, ↓reduceIte, Int.reduceAdd, Int.reduceSub, Int.reduceMul, Int.reduceNeg, Int.reduceLT, Int.reduceLE, if_neg, l_m1, l_n1, if_neg lg2, iZ_clampN, f1, l_p1, hadd, hcmp, hL]
            · have : (if v = -1 ∨ f + 1 < v then f + 1 else v) ≤ 600 := by
                rcases un2 with ⟨z, _⟩ | ⟨m, z, ⟨half, z1, z2, k, z3, z4⟩, _⟩
                · omega
                · have := pf_lt dnE_lt z4
                  have := Nat.two_pow_pos p
                  have := z2.2.1
                  omega
              omega
          · refine ⟨v, ?_, iv, skip fun z => a2 z.2.2.2.2⟩
            refine t13.trans ?_
            have nz : ¬ (gwS A (barS A) heap j ≠ 0) := fun z => a2 (gnz.mp z)
            have t83 : xfix gX1_fewestCuts (83, [some (.inr (.inr (1, 0))), some (.inl (iZ (heap))), some (.inl (iZ (p))), some (.inr (.inl ((lZ v)))), none, some (.inl (iZ (j))), some (.inl (iZ (((lf + 1 : Nat))))), none], [], M) = xfix gX1_fewestCuts (13, [some (.inr (.inr (1, 0))), some (.inl (iZ (heap))), some (.inl (iZ (p))), some (.inr (.inl ((lZ v)))), none, some (.inl (iZ (j))), some (.inl (iZ (lf))), none], [], M) := by
              generalize gwS A (barS A) heap j = gm at *
              rw [xfix_unf, sX1_fewestCuts_83]
              simp (disch := omega) only [xk_none, xk_inl, xk_inr, xk_ite, xri_v, xrl_v, xrv_v, xb_z0, xb_z1, xb_b2, if_true, if_false, ite_true, ite_false, iZ_lit, iZ_m1, iZ_m99, iZ_m8, iZ_add, iZ_sub, iZ_mul, iZ_neg, nz0, nzi, iZ_lt, iZ_le, iZ_inj, b2_z, b2_o, ite_bPz, ite_bPo, xb_bP, iZ_xin, if_pos, ite_self, ↓reduceIte, Int.reduceAdd, Int.reduceSub, Int.reduceMul, Int.reduceNeg, Int.reduceLT, Int.reduceLE, if_neg, hgd, hL]
            by_cases c1 : v = -1
            · rw [← t83]
              have lg2 := lv.mpr c1
              rw [xfix_unf, sX1_fewestCuts_54]
              simp (disch := omega) only [xk_none, xk_inl, xk_inr, xk_ite, xri_v, xrl_v, xrv_v, xb_z0, xb_z1, xb_b2, if_true, if_false, ite_true, ite_false, iZ_lit, iZ_m1, iZ_m99, iZ_m8, iZ_add, iZ_sub, iZ_mul, iZ_neg, nz0, nzi, iZ_lt, iZ_le, iZ_inj, b2_z, b2_o, ite_bPz, ite_bPo, xb_bP, iZ_xin, if_pos, ite_self, ↓reduceIte, Int.reduceAdd, Int.reduceSub, Int.reduceMul, Int.reduceNeg, Int.reduceLT, Int.reduceLE, if_neg, l_m1, lg2]
            · have lg2 : ¬ lg_cmp (lZ v) (lZ (-1)) = iZ 0 := fun z => c1 (lv.mp z)
              by_cases c2 : f + 1 < v
              · rw [← t83]
                rw [if_neg (show ¬ v < f + 1 by omega), if_neg (show ¬ f + 1 = v by omega)] at hcmp
                rw [xfix_unf, sX1_fewestCuts_54]
                simp (disch := omega) only [xk_none, xk_inl, xk_inr, xk_ite, xri_v, xrl_v, xrv_v, xb_z0, xb_z1, xb_b2, if_true, if_false, ite_true, ite_false, iZ_lit, iZ_m1, iZ_m99, iZ_m8, iZ_add, iZ_sub, iZ_mul, iZ_neg, nz0, nzi, iZ_lt, iZ_le, iZ_inj, b2_z, b2_o, ite_bPz, ite_bPo, xb_bP, iZ_xin, if_pos, ite_self, ↓reduceIte, Int.reduceAdd, Int.reduceSub, Int.reduceMul, Int.reduceNeg, Int.reduceLT, Int.reduceLE, if_neg, l_m1, l_n1, if_neg lg2, iZ_clampN, f1, l_p1, hadd, hcmp]
              · by_cases c3 : v < f + 1
                · rw [if_pos c3] at hcmp
                  rw [xfix_unf, sX1_fewestCuts_54]
                  simp (disch := omega) only [xk_none, xk_inl, xk_inr, xk_ite, xri_v, xrl_v, xrv_v, xb_z0, xb_z1, xb_b2, if_true, if_false, ite_true, ite_false, iZ_lit, iZ_m1, iZ_m99, iZ_m8, iZ_add, iZ_sub, iZ_mul, iZ_neg, nz0, nzi, iZ_lt, iZ_le, iZ_inj, b2_z, b2_o, ite_bPz, ite_bPo, xb_bP, iZ_xin, if_pos, ite_self, ↓reduceIte, Int.reduceAdd, Int.reduceSub, Int.reduceMul, Int.reduceNeg, Int.reduceLT, Int.reduceLE, if_neg, l_m1, l_n1, if_neg lg2, iZ_clampN, f1, l_p1, hadd, hcmp, hL]
                · rw [if_neg c3, if_pos (show f + 1 = v by omega)] at hcmp
                  rw [xfix_unf, sX1_fewestCuts_54]
                  simp (disch := omega) only [xk_none, xk_inl, xk_inr, xk_ite, xri_v, xrl_v, xrv_v, xb_z0, xb_z1, xb_b2, if_true, if_false, ite_true, ite_false, iZ_lit, iZ_m1, iZ_m99, iZ_m8, iZ_add, iZ_sub, iZ_mul, iZ_neg, nz0, nzi, iZ_lt, iZ_le, iZ_inj, b2_z, b2_o, ite_bPz, ite_bPo, xb_bP, iZ_xin, if_pos, ite_self, ↓reduceIte, Int.reduceAdd, Int.reduceSub, Int.reduceMul, Int.reduceNeg, Int.reduceLT, Int.reduceLE, if_neg, l_m1, l_n1, if_neg lg2, iZ_clampN, f1, l_p1, hadd, hcmp, hL]
      · refine ⟨v, ?_, iv, skip fun z => a0 z.2.2.2.1⟩
        refine Eq.trans ?_ (t54 0 rfl)
        rw [xfix_unf, sX1_fewestCuts_13]
        simp (disch := omega) only [xk_none, xk_inl, xk_inr, xk_ite, xri_v, xrl_v, xrv_v, xb_z0, xb_z1, xb_b2, if_true, if_false, ite_true, ite_false, iZ_lit, iZ_m1, iZ_m99, iZ_m8, iZ_add, iZ_sub, iZ_mul, iZ_neg, nz0, nzi, iZ_lt, iZ_le, iZ_inj, b2_z, b2_o, ite_bPz, ite_bPo, xb_bP, iZ_xin, if_pos, ite_self, ↓reduceIte, Int.reduceAdd, Int.reduceSub, Int.reduceMul, Int.reduceNeg, Int.reduceLT, Int.reduceLE, if_neg, ↓xri_some hnh, iZ_bit, bP_f a0]) (x := -1) ⟨by omega, .inl ⟨rfl, fun n ⟨h, a, b, _⟩ => by have := b.1; omega⟩⟩
  refine ⟨v', ?_, u2, u3.cg fun n => ?_⟩
  · have hx := x_halvesOf (M := M) (heap := heap) h512
    have hp2 : (2 : Nat) ≤ 2 ^ bc heap := by
      have bh : bc heap ≠ 0 := fun z => by have := (bc_0 h512).mp z; omega
      calc 2 = 2 ^ 1 := rfl
        _ ≤ 2 ^ bc heap := Nat.pow_le_pow_right (by omega) (by omega)
    have t0 : fX1_fewestCuts [.inr (.inr (1, 0)), .inl (iZ (heap)), .inl (iZ (p))] M = xfix gX1_fewestCuts (13, [some (.inr (.inr (1, 0))), some (.inl (iZ (heap))), some (.inl (iZ (p))), some (.inr (.inl ((lZ (-1))))), none, some (.inl (iZ (((0 : Nat))))), some (.inl (iZ (((2 ^ bc heap - 2 : Nat))))), none], [], M) := by
      have zz : ((0 : Nat) : Int) = 0 := rfl
      have ep2 : ((2 ^ bc heap - 2 : Nat) : Int) = ((2 ^ bc heap : Nat) : Int) - 2 := by omega
      rw [zz, ep2]
      generalize ((2 ^ bc heap : Nat) : Int) - 2 = H at *
      show xfix gX1_fewestCuts (0, [some (.inr (.inr (1, 0))), some (.inl (iZ (heap))), some (.inl (iZ (p))), none, none, none, none, none], [], M) = _; rw [xfix_unf, sX1_fewestCuts_0]
      simp (disch := omega) only [xk_none, xk_inl, xk_inr, xk_ite, xri_v, xrl_v, xrv_v, xb_z0, xb_z1, xb_b2, if_true, if_false, ite_true, ite_false, iZ_lit, iZ_m1, iZ_m99, iZ_m8, iZ_add, iZ_sub, iZ_mul, iZ_neg, nz0, nzi, iZ_lt, iZ_le, iZ_inj, b2_z, b2_o, ite_bPz, ite_bPo, xb_bP, iZ_xin, if_pos, ite_self, ↓reduceIte, Int.reduceAdd, Int.reduceSub, Int.reduceMul, Int.reduceNeg, Int.reduceLT, Int.reduceLE, if_neg, hx, l_m1]
    refine t0.trans (u1.trans ?_)
    have zz : ((0 : Nat) : Int) = 0 := rfl
    rw [zz]
    rw [xfix_unf, sX1_fewestCuts_13]
    simp (disch := omega) only [xk_none, xk_inl, xk_inr, xk_ite, xri_v, xrl_v, xrv_v, xb_z0, xb_z1, xb_b2, if_true, if_false, ite_true, ite_false, iZ_lit, iZ_m1, iZ_m99, iZ_m8, iZ_add, iZ_sub, iZ_mul, iZ_neg, nz0, nzi, iZ_lt, iZ_le, iZ_inj, b2_z, b2_o, ite_bPz, ite_bPo, xb_bP, iZ_xin, if_pos, ite_self, ↓reduceIte, Int.reduceAdd, Int.reduceSub, Int.reduceMul, Int.reduceNeg, Int.reduceLT, Int.reduceLE, if_neg]
  · constructor
    · rintro ⟨half, a, b, k, rfl, d⟩
      exact pf_pre.mpr ⟨half, b, d⟩
    · intro z
      cases n with
      | zero =>
        have e : heap = 2 ^ p := z
        exact absurd (by rw [e]; have : p < 9 := by omega
                         have key : ∀ p, p < 9 → bc (2 ^ p) = 1 := by decide +kernel
                         exact key p this) ho
      | succ n =>
        obtain ⟨c, q1, q2⟩ := pf_pre.mp z
        exact ⟨c, q1.2.1, q1, n, rfl, q2⟩
theorem x_cutsDownTo {M : xM} {A : dA} {p : Nat} (hA : aOk A) (f0 : xI M (5, 0) 0 = iZ (aP A)) (hJ : cJt M A) (hW : cWy M 0 (aP A) (barS A)) (hB : ∀ k, barS A k < 512) (hp : p < aP A) : ∃ M', fX1_cutsDownTo [.inr (.inr (1, 0)), .inl (iZ (p))] M = some (some (.inl (iZ (lsI (fun n => pf (dnE A p) n (2 ^ aP A - 1) (2 ^ p)) 600))), M') ∧ xSame (fun r => r = (29, 0)) M M' := by
  have hP := hA.P
  have h9 := pow9 hP
  have h2 : 2 ≤ 2 ^ aP A := by
    calc 2 = 2 ^ 1 := rfl
      _ ≤ 2 ^ aP A := Nat.pow_le_pow_right (by omega) (by omega)
  obtain ⟨M2, b1, b2, b3⟩ := xfor_M (sg := gX1_cutsDownTo) (st := fun i M => (2, [some (.inr (.inr (1, 0))), some (.inl (iZ (p))), some (.inl (iZ (((i + 1 : Nat)))))], [], M)) (I := fun n K => xSame (fun r => r = (29, 0)) M K ∧ dwR K A p (n + 1)) (n := 2 ^ aP A - 1) (fun i K hi hK => by
    obtain ⟨k1, k2⟩ := hK
    obtain ⟨heap, eh⟩ : ∃ heap, heap = i + 1 := ⟨_, rfl⟩
    have g0 : xI K (5, 0) 0 = iZ (aP A) := by rw [(k1 (5, 0) (by simp)).1]; exact f0
    have hw := x_whole (M := K) (s := 0) g0 hP
    have ho := x_isOne (M := K) (heap := heap) (by omega) (by omega)
    have hwb : (heap : Int) ≤ ((2 ^ aP A : Nat) : Int) - 1 ∧ ((2 ^ aP A : Nat) : Int) - 1 ≤ 511 := by omega
    rw [← eh] at k2 ⊢
    show ∃ M', xfix gX1_cutsDownTo (2, [some (.inr (.inr (1, 0))), some (.inl (iZ (p))), some (.inl (iZ (heap)))], [], K) = xfix gX1_cutsDownTo (2, [some (.inr (.inr (1, 0))), some (.inl (iZ (p))), some (.inl (iZ (((heap + 1 : Nat)))))], [], M') ∧ _
    rw [nS]
    have put : ∀ v, (-1 ≤ v ∧ v ≤ 600) → isM (fun n => pf (dnE A p) n heap (2 ^ p)) v → dwR (xpL K (29, 0) heap (lZ v)) A p (heap + 1) := fun v hv hm h q1 q2 q3 => by
      by_cases z : h = heap
      · subst z; exact ⟨v, by rw [xL_pL, if_pos ⟨rfl, rfl⟩], hv, hm⟩
      · obtain ⟨u, w1, w2⟩ := k2 h q1 (by omega) q3
        exact ⟨u, by rw [xL_pL, if_neg fun w => z w.2]; exact w1, w2⟩
    by_cases y : heap.testBit p = true
    · by_cases y2 : bc heap = 1
      · rw [bP_t y2] at ho
        have e2 : heap = 2 ^ p := by
          refine Nat.eq_of_testBit_eq fun q => ?_
          rw [Nat.testBit_two_pow]
          have ss : 2 ^ p &&& heap = 2 ^ p := two_sub y
          have := bc_1 (a := heap) (b := 2 ^ p) (by omega) y2 ss (Nat.two_pow_pos p)
          have hle : 2 ^ p ≤ heap := by rw [← ss]; exact Nat.and_le_right
          have e : heap = 2 ^ p := Classical.byContradiction fun z => this (by omega)
          rw [e, Nat.testBit_two_pow]
        refine ⟨xpL K (29, 0) heap (lZ 0), ?_, k1.pL rfl, put 0 (by omega) (.inr ⟨0, rfl, e2, fun n hn => by omega⟩)⟩
        generalize ((2 ^ aP A : Nat) : Int) - 1 = W at *
        rw [xfix_unf, sX1_cutsDownTo_2]
        simp (disch := omega) only [xk_none, xk_inl, xk_inr, xk_ite, xri_v, xrl_v, xrv_v, xb_z0, xb_z1, xb_b2, if_true, if_false, ite_true, ite_false, iZ_lit, iZ_m1, iZ_m99, iZ_m8, iZ_add, iZ_sub, iZ_mul, iZ_neg, nz0, nzi, iZ_lt, iZ_le, iZ_inj, b2_z, b2_o, ite_bPz, ite_bPo, xb_bP, iZ_xin, if_pos, ite_self, ↓reduceIte, Int.reduceAdd, Int.reduceSub, Int.reduceMul, Int.reduceNeg, Int.reduceLT, Int.reduceLE, if_neg, ↓xri_some hw, iZ_bit, bP_t y, ↓xri_some ho, iZ_clampN, l_p0]
      · rw [bP_f y2] at ho
        obtain ⟨v, d1, d2, d3⟩ := x_fewestCuts (M := K) hA (hJ.sm k1.sm (by simp) (by simp) (by simp)) (hW.same k1 (by simp)) hB hp (by omega) (by omega) y y2 k2
        refine ⟨xpL K (29, 0) heap (lZ v), ?_, k1.pL rfl, put v d2 d3⟩
        generalize ((2 ^ aP A : Nat) : Int) - 1 = W at *
        rw [xfix_unf, sX1_cutsDownTo_2]
        simp (disch := omega) only [xk_none, xk_inl, xk_inr, xk_ite, xri_v, xrl_v, xrv_v, xb_z0, xb_z1, xb_b2, if_true, if_false, ite_true, ite_false, iZ_lit, iZ_m1, iZ_m99, iZ_m8, iZ_add, iZ_sub, iZ_mul, iZ_neg, nz0, nzi, iZ_lt, iZ_le, iZ_inj, b2_z, b2_o, ite_bPz, ite_bPo, xb_bP, iZ_xin, if_pos, ite_self, ↓reduceIte, Int.reduceAdd, Int.reduceSub, Int.reduceMul, Int.reduceNeg, Int.reduceLT, Int.reduceLE, if_neg, ↓xri_some hw, iZ_bit, bP_t y, ↓xri_some ho, ↓xrl_some d1, iZ_clampN]
    · refine ⟨K, ?_, k1, fun h q1 q2 q3 => ?_⟩
      · generalize ((2 ^ aP A : Nat) : Int) - 1 = W at *
        rw [xfix_unf, sX1_cutsDownTo_2]
        simp (disch := omega) only [xk_none, xk_inl, xk_inr, xk_ite, xri_v, xrl_v, xrv_v, xb_z0, xb_z1, xb_b2, if_true, if_false, ite_true, ite_false, iZ_lit, iZ_m1, iZ_m99, iZ_m8, iZ_add, iZ_sub, iZ_mul, iZ_neg, nz0, nzi, iZ_lt, iZ_le, iZ_inj, b2_z, b2_o, ite_bPz, ite_bPo, xb_bP, iZ_xin, if_pos, ite_self, ↓reduceIte, Int.reduceAdd, Int.reduceSub, Int.reduceMul, Int.reduceNeg, Int.reduceLT, Int.reduceLE, if_neg, ↓xri_some hw, iZ_bit, bP_f y]
      · by_cases z : h = heap
        · subst z; exact absurd q3 y
        · exact k2 h q1 (by omega) q3) (a := 0) (M := M) (by omega) ⟨xSame.rf, fun h q1 q2 => by omega⟩
  have g0 : xI M2 (5, 0) 0 = iZ (aP A) := by rw [(b2 (5, 0) (by simp)).1]; exact f0
  have hw := x_whole (M := M2) (s := 0) g0 hP
  obtain ⟨v, v1, v2, v3⟩ := b3 (2 ^ aP A - 1) (by omega) (by omega) (bit_w hp)
  have hv5 := isM_512 (h := 2 ^ aP A - 1) (by omega) v3
  have hv6 : v < (600 : Nat) := by
    rcases v3 with ⟨z, _⟩ | ⟨m, z, z2, _⟩
    · omega
    · have := pf_lt dnE_lt z2
      have := Nat.two_pow_pos p
      omega
  refine ⟨M2, ?_, b2⟩
  rw [← isM_ls v3 hv6]
  have e1 : ((0 + 1 : Nat) : Int) = 1 := rfl
  have e2 : ((2 ^ aP A - 1 + 1 : Nat) : Int) = ((2 ^ aP A - 1 : Nat) : Int) + 1 := by omega
  have ew : ((2 ^ aP A : Nat) : Int) - 1 = ((2 ^ aP A - 1 : Nat) : Int) := by omega
  rw [e1, e2] at b1
  rw [ew] at hw
  have hW1 : 1 ≤ 2 ^ aP A - 1 ∧ 2 ^ aP A - 1 < 512 := by omega
  have ht := lZ_toInt32 v
  show xfix gX1_cutsDownTo (0, [some (.inr (.inr (1, 0))), some (.inl (iZ (p))), none], [], M) = _; rw [xfix_unf, sX1_cutsDownTo_0]
  simp (disch := omega) only [xk_none, xk_inl, xk_inr, xk_ite, xri_v, xrl_v, xrv_v, xb_z0, xb_z1, xb_b2, if_true, if_false, ite_true, ite_false, iZ_lit, iZ_m1, iZ_m99, iZ_m8, iZ_add, iZ_sub, iZ_mul, iZ_neg, nz0, nzi, iZ_lt, iZ_le, iZ_inj, b2_z, b2_o, ite_bPz, ite_bPo, xb_bP, iZ_xin, if_pos, ite_self, ↓reduceIte, Int.reduceAdd, Int.reduceSub, Int.reduceMul, Int.reduceNeg, Int.reduceLT, Int.reduceLE, if_neg]
  refine Eq.trans b1 ?_
  generalize 2 ^ aP A - 1 = W at *
  rw [xfix_unf, sX1_cutsDownTo_2]
  simp (disch := omega) only [xk_none, xk_inl, xk_inr, xk_ite, xri_v, xrl_v, xrv_v, xb_z0, xb_z1, xb_b2, if_true, if_false, ite_true, ite_false, iZ_lit, iZ_m1, iZ_m99, iZ_m8, iZ_add, iZ_sub, iZ_mul, iZ_neg, nz0, nzi, iZ_lt, iZ_le, iZ_inj, b2_z, b2_o, ite_bPz, ite_bPo, xb_bP, iZ_xin, if_pos, ite_self, ↓reduceIte, Int.reduceAdd, Int.reduceSub, Int.reduceMul, Int.reduceNeg, Int.reduceLT, Int.reduceLE, if_neg, hw, iZ_clampN, v1, ht]
theorem x_sumOfLonely {M : xM} {A : dA} {set : Nat} {T : Nat → Int} (hA : aOk A) (f0 : xI M (5, 0) 0 = iZ (aP A)) (hJ : cJt M A) (hW : cWy M 0 (aP A) (barS A)) (hB : ∀ k, barS A k < 512) (h1 : 1 ≤ set) (hs : set < 2 ^ aP A) (ho : ¬ bc set = 1) (hT : ∀ k, 1 ≤ k → k < set → k &&& set = k → xL M (29, 0) k = lZ (T k)) : fX1_sumOfLonely [.inr (.inr (1, 0)), .inl (iZ (set))] M = some (some (.inr (.inl (lZ (sngP A set T (aP A))))), M) := by
  have hP := hA.P
  have h512 := Nat.lt_of_lt_of_le hs (pow9 hP).2
  have lp := xfor_F (sg := gX1_sumOfLonely) (fun i => (5, [some (.inr (.inr (1, 0))), some (.inl (iZ (set))), some (.inr (.inl ((lZ (sngP A set T i))))), none, some (.inl (iZ (i))), none, none], [], M)) (a := 0) (n := aP A) (by omega) (fun i _ hi => by
    have eS : sngP A set T (i + 1) = sngP A set T i + @ite _ (sgC A set i) (Classical.propDecidable _) (T (ndn set (2 ^ i))) 0 := by
      show (if bc set = 1 then 1 else 0) + (sm (fun p => @ite _ (sgC A set p) (Classical.propDecidable _) (T (ndn set (2 ^ p))) 0) i + @ite _ (sgC A set i) (Classical.propDecidable _) (T (ndn set (2 ^ i))) 0) = _
      unfold sngP
      omega
    have hpl : (2 : Nat) ^ i < 512 := Nat.pow_lt_pow_right (n := 9) (by omega) (by omega)
    have hp1 := Nat.two_pow_pos i
    have hone := iZ_one (p := i) (by omega)
    have hnd' : iZ (set : Int) &&& (iZ ((2 ^ i : Nat) : Int) ^^^ iZ (-1)) = iZ ((ndn set (2 ^ i) : Nat) : Int) := iZ_ndn set (2 ^ i)
    have hnl := ndn_le set (2 ^ i)
    have key1 : ∀ p, p < 9 → bc (2 ^ p) = 1 := by decide +kernel
    have rpos : 1 ≤ ndn set (2 ^ i) := by
      refine Classical.byContradiction fun z => ?_
      have e0 : ndn set (2 ^ i) = 0 := by omega
      have hle := ndn_sub e0
      by_cases y : set.testBit i = true
      · have ss := two_sub y
        have := bc_add ss
        rw [e0, key1 i (by omega)] at this
        have b0 : bc 0 = 0 := by decide
        omega
      · have : set = 0 := Nat.eq_of_testBit_eq fun q => by
          rw [Nat.zero_testBit]
          cases e : set.testBit q
          · rfl
          · have := ndn_z.mp e0 q e
            rw [Nat.testBit_two_pow, decide_eq_true_eq] at this
            rw [this] at y; exact absurd e y
        omega
    have ho1 := x_isOne (M := M) (heap := ndn set (2 ^ i)) rpos (by omega)
    have hand : iZ (set : Int) &&& iZ ((2 ^ i : Nat) : Int) = iZ ((set &&& 2 ^ i : Nat) : Int) := iZ_and set (2 ^ i)
    have hal : set &&& 2 ^ i < 512 := Nat.lt_of_le_of_lt Nat.and_le_left h512
    have haz : set &&& 2 ^ i ≠ 0 ↔ set.testBit i = true := by
      rw [and_nz]
      constructor
      · rintro ⟨q, w1, w2⟩
        rw [Nat.testBit_two_pow, decide_eq_true_eq] at w2
        rw [w2]; exact w1
      · exact fun w => ⟨i, w, by rw [Nat.testBit_two_pow, decide_eq_true_eq]⟩
    obtain ⟨t, t1, t2, t3⟩ : ∃ t : Int, (t = 0 ∨ t = 1) ∧ (t = 1 ↔ bc (ndn set (2 ^ i)) = 1 ∧ ndn set (2 ^ i) < 2 ^ i) ∧ xfix gX1_sumOfLonely (5, [some (.inr (.inr (1, 0))), some (.inl (iZ (set))), some (.inr (.inl ((lZ (sngP A set T i))))), none, some (.inl (iZ (i))), none, none], [], M) = xfix gX1_sumOfLonely (51, [some (.inr (.inr (1, 0))), some (.inl (iZ (set))), some (.inr (.inl ((lZ (sngP A set T i))))), none, some (.inl (iZ (i))), some (.inl (iZ ((2 ^ i : Nat)))), none], [.inl (iZ (t))], M) := by
      generalize lZ (sngP A set T i) = sg at *
      by_cases y : bc (ndn set (2 ^ i)) = 1
      · rw [bP_t (c := on1 (ndn set (2 ^ i))) y] at ho1
        by_cases y2 : ndn set (2 ^ i) < 2 ^ i
        · refine ⟨1, .inr rfl, ⟨fun _ => ⟨y, y2⟩, fun _ => rfl⟩, ?_⟩
          generalize ndn set (2 ^ i) = rs' at *
          generalize (2 : Nat) ^ i = pw at *
          rw [xfix_unf, sX1_sumOfLonely_5]
          simp (disch := omega) only [xk_none, xk_inl, xk_inr, xk_ite, xri_v, xrl_v, xrv_v, xb_z0, xb_z1, xb_b2, if_true, if_false, ite_true, ite_false, iZ_lit, iZ_m1, iZ_m99, iZ_m8, iZ_add, iZ_sub, iZ_mul, iZ_neg, nz0, nzi, iZ_lt, iZ_le, iZ_inj, b2_z, b2_o, ite_bPz, ite_bPo, xb_bP, iZ_xin, if_pos, ite_self, ↓reduceIte, Int.reduceAdd, Int.reduceSub, Int.reduceMul, Int.reduceNeg, Int.reduceLT, Int.reduceLE, if_neg, f0, hone, hnd', ho1]
        · refine ⟨0, .inl rfl, ⟨fun z => by omega, fun z => absurd z.2 y2⟩, ?_⟩
          generalize ndn set (2 ^ i) = rs' at *
          generalize (2 : Nat) ^ i = pw at *
          rw [xfix_unf, sX1_sumOfLonely_5]
          simp (disch := omega) only [xk_none, xk_inl, xk_inr, xk_ite, xri_v, xrl_v, xrv_v, xb_z0, xb_z1, xb_b2, if_true, if_false, ite_true, ite_false, iZ_lit, iZ_m1, iZ_m99, iZ_m8, iZ_add, iZ_sub, iZ_mul, iZ_neg, nz0, nzi, iZ_lt, iZ_le, iZ_inj, b2_z, b2_o, ite_bPz, ite_bPo, xb_bP, iZ_xin, if_pos, ite_self, ↓reduceIte, Int.reduceAdd, Int.reduceSub, Int.reduceMul, Int.reduceNeg, Int.reduceLT, Int.reduceLE, if_neg, f0, hone, hnd', ho1]
      · rw [bP_f (c := on1 (ndn set (2 ^ i))) y] at ho1
        refine ⟨0, .inl rfl, ⟨fun z => by omega, fun z => absurd z.1 y⟩, ?_⟩
        generalize ndn set (2 ^ i) = rs' at *
        generalize (2 : Nat) ^ i = pw at *
        rw [xfix_unf, sX1_sumOfLonely_5]
        simp (disch := omega) only [xk_none, xk_inl, xk_inr, xk_ite, xri_v, xrl_v, xrv_v, xb_z0, xb_z1, xb_b2, if_true, if_false, ite_true, ite_false, iZ_lit, iZ_m1, iZ_m99, iZ_m8, iZ_add, iZ_sub, iZ_mul, iZ_neg, nz0, nzi, iZ_lt, iZ_le, iZ_inj, b2_z, b2_o, ite_bPz, ite_bPo, xb_bP, iZ_xin, if_pos, ite_self, ↓reduceIte, Int.reduceAdd, Int.reduceSub, Int.reduceMul, Int.reduceNeg, Int.reduceLT, Int.reduceLE, if_neg, f0, hone, hnd', ho1]
    rw [t3, eS, nS]
    by_cases y : set.testBit i = true
    · have ss := two_sub y
      have hbc := bc_add ss
      rw [key1 i (by omega)] at hbc
      have nz := haz.mpr y
      have hgd := x_goodWays (M := M) (k := 0) (half := 2 ^ i) hA hJ hW hB h512 (Nat.pow_lt_pow_right (by omega) hi) (ndn_and.mpr ss)
      have gnz := gwS_prt (A := A) (half := 2 ^ i) hP (barS_sym A) hs (ndn_and.mpr ss)
      have gl : gwS A (barS A) set (2 ^ i) < 64 := msk_lt _ 6
      by_cases y2 : t = 0
      · have nc : ¬ (bc set = 2 ∧ ndn set (2 ^ i) < 2 ^ i) := fun z => by have := t2.mpr ⟨by omega, z.2⟩; omega
        by_cases y3 : prt A (barS A) set (2 ^ i)
        · have gz := gnz.mpr y3
          have hTk := hT (ndn set (2 ^ i)) rpos (by have := ndn_add set (2 ^ i) ss; omega) (ndn_ss _ _)
          rw [if_pos (c := sgC A set i) ⟨y, by omega, nc, y3⟩, ← lZ_add]
          generalize lZ (sngP A set T i) = sg at *
          generalize lZ (T (ndn set (2 ^ i))) = tg at *
          generalize gwS A (barS A) set (2 ^ i) = gm at *
          generalize (set &&& 2 ^ i : Nat) = sa at *
          generalize ndn set (2 ^ i) = rs' at *
          generalize (2 : Nat) ^ i = pw at *
          rw [xfix_unf, sX1_sumOfLonely_51]
          simp (disch := omega) only [xk_none, xk_inl, xk_inr, xk_ite, xri_v, xrl_v, xrv_v, xb_z0, xb_z1, xb_b2, if_true, if_false, ite_true, ite_false, iZ_lit, iZ_m1, iZ_m99, iZ_m8, iZ_add, iZ_sub, iZ_mul, iZ_neg, nz0, nzi, iZ_lt, iZ_le, iZ_inj, b2_z, b2_o, ite_bPz, ite_bPo, xb_bP, iZ_xin, if_pos, ite_self, ↓reduceIte, Int.reduceAdd, Int.reduceSub, Int.reduceMul, Int.reduceNeg, Int.reduceLT, Int.reduceLE, if_neg, hand, hgd, hnd', iZ_clampN, hTk]
        · have gz : ¬ (gwS A (barS A) set (2 ^ i) ≠ 0) := fun z => y3 (gnz.mp z)
          rw [if_neg (c := sgC A set i) fun z => y3 z.2.2.2, Int.add_zero]
          generalize lZ (sngP A set T i) = sg at *
          generalize gwS A (barS A) set (2 ^ i) = gm at *
          generalize (set &&& 2 ^ i : Nat) = sa at *
          generalize (2 : Nat) ^ i = pw at *
          rw [xfix_unf, sX1_sumOfLonely_51]
          simp (disch := omega) only [xk_none, xk_inl, xk_inr, xk_ite, xri_v, xrl_v, xrv_v, xb_z0, xb_z1, xb_b2, if_true, if_false, ite_true, ite_false, iZ_lit, iZ_m1, iZ_m99, iZ_m8, iZ_add, iZ_sub, iZ_mul, iZ_neg, nz0, nzi, iZ_lt, iZ_le, iZ_inj, b2_z, b2_o, ite_bPz, ite_bPo, xb_bP, iZ_xin, if_pos, ite_self, ↓reduceIte, Int.reduceAdd, Int.reduceSub, Int.reduceMul, Int.reduceNeg, Int.reduceLT, Int.reduceLE, if_neg, hand, hgd]
      · have y2' := t1.resolve_left y2
        have := t2.mp y2'
        rw [if_neg (c := sgC A set i) fun z => z.2.2.1 ⟨by omega, this.2⟩, Int.add_zero]
        generalize lZ (sngP A set T i) = sg at *
        generalize (set &&& 2 ^ i : Nat) = sa at *
        generalize (2 : Nat) ^ i = pw at *
        rw [xfix_unf, sX1_sumOfLonely_51]
        simp (disch := omega) only [xk_none, xk_inl, xk_inr, xk_ite, xri_v, xrl_v, xrv_v, xb_z0, xb_z1, xb_b2, if_true, if_false, ite_true, ite_false, iZ_lit, iZ_m1, iZ_m99, iZ_m8, iZ_add, iZ_sub, iZ_mul, iZ_neg, nz0, nzi, iZ_lt, iZ_le, iZ_inj, b2_z, b2_o, ite_bPz, ite_bPo, xb_bP, iZ_xin, if_pos, ite_self, ↓reduceIte, Int.reduceAdd, Int.reduceSub, Int.reduceMul, Int.reduceNeg, Int.reduceLT, Int.reduceLE, if_neg, hand]
    · have nz : ¬ (set &&& 2 ^ i ≠ 0) := fun z => y (haz.mp z)
      rw [if_neg (c := sgC A set i) fun z => y z.1, Int.add_zero]
      generalize lZ (sngP A set T i) = sg at *
      generalize (set &&& 2 ^ i : Nat) = sa at *
      generalize (2 : Nat) ^ i = pw at *
      rw [xfix_unf, sX1_sumOfLonely_51]
      simp (disch := omega) only [xk_none, xk_inl, xk_inr, xk_ite, xri_v, xrl_v, xrv_v, xb_z0, xb_z1, xb_b2, if_true, if_false, ite_true, ite_false, iZ_lit, iZ_m1, iZ_m99, iZ_m8, iZ_add, iZ_sub, iZ_mul, iZ_neg, nz0, nzi, iZ_lt, iZ_le, iZ_inj, b2_z, b2_o, ite_bPz, ite_bPo, xb_bP, iZ_xin, if_pos, ite_self, ↓reduceIte, Int.reduceAdd, Int.reduceSub, Int.reduceMul, Int.reduceNeg, Int.reduceLT, Int.reduceLE, if_neg, hand])
  have s0 : sngP A set T 0 = 0 := by
    show (if bc set = 1 then (1 : Int) else 0) + 0 = 0
    rw [if_neg ho]; rfl
  have z0 : ((0 : Nat) : Int) = 0 := rfl
  rw [s0, z0] at lp
  show xfix gX1_sumOfLonely (0, [some (.inr (.inr (1, 0))), some (.inl (iZ (set))), none, none, none, none, none], [], M) = _; rw [xfix_unf, sX1_sumOfLonely_0]
  simp (disch := omega) only [xk_none, xk_inl, xk_inr, xk_ite, xri_v, xrl_v, xrv_v, xb_z0, xb_z1, xb_b2, if_true, if_false, ite_true, ite_false, iZ_lit, iZ_m1, iZ_m99, iZ_m8, iZ_add, iZ_sub, iZ_mul, iZ_neg, nz0, nzi, iZ_lt, iZ_le, iZ_inj, b2_z, b2_o, ite_bPz, ite_bPo, xb_bP, iZ_xin, if_pos, ite_self, ↓reduceIte, Int.reduceAdd, Int.reduceSub, Int.reduceMul, Int.reduceNeg, Int.reduceLT, Int.reduceLE, if_neg, l_p0]
  refine lp.trans ?_
  generalize lZ (sngP A set T (aP A)) = sg at *
  rw [xfix_unf, sX1_sumOfLonely_5]
  simp (disch := omega) only [xk_none, xk_inl, xk_inr, xk_ite, xri_v, xrl_v, xrv_v, xb_z0, xb_z1, xb_b2, if_true, if_false, ite_true, ite_false, iZ_lit, iZ_m1, iZ_m99, iZ_m8, iZ_add, iZ_sub, iZ_mul, iZ_neg, nz0, nzi, iZ_lt, iZ_le, iZ_inj, b2_z, b2_o, ite_bPz, ite_bPo, xb_bP, iZ_xin, if_pos, ite_self, ↓reduceIte, Int.reduceAdd, Int.reduceSub, Int.reduceMul, Int.reduceNeg, Int.reduceLT, Int.reduceLE, if_neg, f0]
theorem x_lonely {M : xM} {A : dA} {heap : Nat} (hA : aOk A) (f0 : xI M (5, 0) 0 = iZ (aP A)) (hJ : cJt M A) (hW : cWy M 0 (aP A) (barS A)) (hB : ∀ k, barS A k < 512) (h1 : 1 ≤ heap) (hh : heap < 2 ^ aP A) : ∃ M', fX1_lonelyOrders [.inr (.inr (1, 0)), .inl (iZ (heap))] M = some (some (.inr (.inl (lZ (sngA A heap)))), M') ∧ xSame (fun r => r = (29, 0)) M M' := by
  have hP := hA.P
  have h512 := Nat.lt_of_lt_of_le hh (pow9 hP).2
  obtain ⟨M2, b1, b2, b3⟩ := xfor_M (sg := gX1_lonelyOrders) (st := fun i M => (2, [some (.inr (.inr (1, 0))), some (.inl (iZ (heap))), some (.inl (iZ (((i + 1 : Nat)))))], [], M)) (I := fun n K => xSame (fun r => r = (29, 0)) M K ∧ ∀ k, 1 ≤ k → k < n + 1 → k &&& heap = k → xL K (29, 0) k = lZ (sngA A k)) (n := heap) (fun i K hi hK => by
    obtain ⟨k1, k2⟩ := hK
    obtain ⟨set, eh⟩ : ∃ set, set = i + 1 := ⟨_, rfl⟩
    have g0 : xI K (5, 0) 0 = iZ (aP A) := by rw [(k1 (5, 0) (by simp)).1]; exact f0
    have ho := x_isOne (M := K) (heap := set) (by omega) (by omega)
    have hwi := x_within (M := K) (a := set) (b := heap) (by omega)
    rw [← eh] at k2 ⊢
    show ∃ M', xfix gX1_lonelyOrders (2, [some (.inr (.inr (1, 0))), some (.inl (iZ (heap))), some (.inl (iZ (set)))], [], K) = xfix gX1_lonelyOrders (2, [some (.inr (.inr (1, 0))), some (.inl (iZ (heap))), some (.inl (iZ (((set + 1 : Nat)))))], [], M') ∧ _
    rw [nS]
    have put : ∀ v, v = sngA A set → ∀ k, 1 ≤ k → k < set + 1 → k &&& heap = k → xL (xpL K (29, 0) set (lZ v)) (29, 0) k = lZ (sngA A k) := fun v hv k q1 q2 q3 => by
      by_cases z : k = set
      · subst z; rw [xL_pL, if_pos ⟨rfl, rfl⟩, hv]
      · rw [xL_pL, if_neg fun w => z w.2]; exact k2 k q1 (by omega) q3
    by_cases y : ndn set heap = 0
    · rw [bP_t y] at hwi
      by_cases y2 : bc set = 1
      · rw [bP_t y2] at ho
        have e1 : sngA A set = 1 := by
          rw [sngA_eq]
          unfold sngP
          rw [if_pos y2]
          have : sm (fun p => @ite _ (sgC A set p) (Classical.propDecidable _) (sngT A set (ndn set (2 ^ p))) 0) (aP A) = 0 := by
            refine (sm_cg (g := fun _ => 0) fun p hp => ?_).trans (sm_z _)
            rw [if_neg (c := sgC A set p) fun z => by
              have ss := two_sub z.1
              have hle : 2 ^ p ≤ set := by
                calc 2 ^ p = 2 ^ p &&& set := ss.symm
                  _ ≤ set := Nat.and_le_right
              have ha := ndn_add set (2 ^ p) ss
              have := z.2.1
              exact bc_1 (by omega) y2 ss (Nat.two_pow_pos p) (by omega)]
          rw [this]; rfl
        refine ⟨xpL K (29, 0) set (lZ 1), ?_, k1.pL rfl, put 1 e1.symm⟩
        rw [xfix_unf, sX1_lonelyOrders_2]
        simp (disch := omega) only [xk_none, xk_inl, xk_inr, xk_ite, xri_v, xrl_v, xrv_v, xb_z0, xb_z1, xb_b2, if_true, if_false, ite_true, ite_false, iZ_lit, iZ_m1, iZ_m99, iZ_m8, iZ_add, iZ_sub, iZ_mul, iZ_neg, nz0, nzi, iZ_lt, iZ_le, iZ_inj, b2_z, b2_o, ite_bPz, ite_bPo, xb_bP, iZ_xin, if_pos, ite_self, ↓reduceIte, Int.reduceAdd, Int.reduceSub, Int.reduceMul, Int.reduceNeg, Int.reduceLT, Int.reduceLE, if_neg, ↓xri_some hwi, ↓xri_some ho, iZ_clampN, l_p1]
      · rw [bP_f y2] at ho
        have hsm := x_sumOfLonely (M := K) (set := set) (T := sngT A set) hA g0 (hJ.sm k1.sm (by simp) (by simp) (by simp)) (hW.same k1 (by simp)) hB (by omega) (by omega) y2 (fun k q1 q2 q3 => by
          rw [sngA_st q2]
          refine k2 k q1 (by omega) ?_
          have a1 := ndn_z.mp y
          have a2 := ndn_z.mp (ndn_and.mpr q3)
          exact ndn_and.mp (ndn_z.mpr fun i hi => a1 i (a2 i hi)))
        rw [← sngA_eq] at hsm
        refine ⟨xpL K (29, 0) set (lZ (sngA A set)), ?_, k1.pL rfl, put _ rfl⟩
        generalize lZ (sngA A set) = sg at *
        rw [xfix_unf, sX1_lonelyOrders_2]
        simp (disch := omega) only [xk_none, xk_inl, xk_inr, xk_ite, xri_v, xrl_v, xrv_v, xb_z0, xb_z1, xb_b2, if_true, if_false, ite_true, ite_false, iZ_lit, iZ_m1, iZ_m99, iZ_m8, iZ_add, iZ_sub, iZ_mul, iZ_neg, nz0, nzi, iZ_lt, iZ_le, iZ_inj, b2_z, b2_o, ite_bPz, ite_bPo, xb_bP, iZ_xin, if_pos, ite_self, ↓reduceIte, Int.reduceAdd, Int.reduceSub, Int.reduceMul, Int.reduceNeg, Int.reduceLT, Int.reduceLE, if_neg, ↓xri_some hwi, ↓xri_some ho, ↓xrl_some hsm, iZ_clampN]
    · rw [bP_f y] at hwi
      refine ⟨K, ?_, k1, fun k q1 q2 q3 => ?_⟩
      · rw [xfix_unf, sX1_lonelyOrders_2]
        simp (disch := omega) only [xk_none, xk_inl, xk_inr, xk_ite, xri_v, xrl_v, xrv_v, xb_z0, xb_z1, xb_b2, if_true, if_false, ite_true, ite_false, iZ_lit, iZ_m1, iZ_m99, iZ_m8, iZ_add, iZ_sub, iZ_mul, iZ_neg, nz0, nzi, iZ_lt, iZ_le, iZ_inj, b2_z, b2_o, ite_bPz, ite_bPo, xb_bP, iZ_xin, if_pos, ite_self, ↓reduceIte, Int.reduceAdd, Int.reduceSub, Int.reduceMul, Int.reduceNeg, Int.reduceLT, Int.reduceLE, if_neg, ↓xri_some hwi]
      · by_cases z : k = set
        · subst z; exact absurd (ndn_and.mpr q3) y
        · exact k2 k q1 (by omega) q3) (a := 0) (M := M) (by omega) ⟨xSame.rf, fun k q1 q2 => by omega⟩
  refine ⟨M2, ?_, b2⟩
  have v1 := b3 heap h1 (by omega) (Nat.and_self heap)
  have e1 : ((0 + 1 : Nat) : Int) = 1 := rfl
  have e2 : ((heap + 1 : Nat) : Int) = (heap : Int) + 1 := rfl
  rw [e1, e2] at b1
  show xfix gX1_lonelyOrders (0, [some (.inr (.inr (1, 0))), some (.inl (iZ (heap))), none], [], M) = _; rw [xfix_unf, sX1_lonelyOrders_0]
  simp (disch := omega) only [xk_none, xk_inl, xk_inr, xk_ite, xri_v, xrl_v, xrv_v, xb_z0, xb_z1, xb_b2, if_true, if_false, ite_true, ite_false, iZ_lit, iZ_m1, iZ_m99, iZ_m8, iZ_add, iZ_sub, iZ_mul, iZ_neg, nz0, nzi, iZ_lt, iZ_le, iZ_inj, b2_z, b2_o, ite_bPz, ite_bPo, xb_bP, iZ_xin, if_pos, ite_self, ↓reduceIte, Int.reduceAdd, Int.reduceSub, Int.reduceMul, Int.reduceNeg, Int.reduceLT, Int.reduceLE, if_neg]
  refine Eq.trans b1 ?_
  generalize lZ (sngA A heap) = sg at *
  rw [xfix_unf, sX1_lonelyOrders_2]
  simp (disch := omega) only [xk_none, xk_inl, xk_inr, xk_ite, xri_v, xrl_v, xrv_v, xb_z0, xb_z1, xb_b2, if_true, if_false, ite_true, ite_false, iZ_lit, iZ_m1, iZ_m99, iZ_m8, iZ_add, iZ_sub, iZ_mul, iZ_neg, nz0, nzi, iZ_lt, iZ_le, iZ_inj, b2_z, b2_o, ite_bPz, ite_bPo, xb_bP, iZ_xin, if_pos, ite_self, ↓reduceIte, Int.reduceAdd, Int.reduceSub, Int.reduceMul, Int.reduceNeg, Int.reduceLT, Int.reduceLE, if_neg, iZ_clampN, v1]
