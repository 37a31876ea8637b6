/-! the class: all times -/
theorem isM_ex (S : Nat → Prop) : ∃ v, isM S v := by
  by_cases h : ∃ n, S n
  · obtain ⟨n, hn⟩ := h
    have key : ∀ n, S n → ∃ m, S m ∧ ∀ k, k < m → ¬ S k := fun n => by
      induction n using Nat.strongRecOn with
      | ind n ih =>
        intro hn
        by_cases z : ∃ k, k < n ∧ S k
        · obtain ⟨k, k1, k2⟩ := z
          exact ih k k1 k2
        · exact ⟨n, hn, fun k hk q => z ⟨k, hk, q⟩⟩
    obtain ⟨m, m1, m2⟩ := key n hn
    exact ⟨m, .inr ⟨m, rfl, m1, m2⟩⟩
  · exact ⟨-1, .inl ⟨rfl, fun n hn => h ⟨n, hn⟩⟩⟩
theorem isM.lo {S : Nat → Prop} {v : Int} (h : isM S v) : -1 ≤ v := by
  rcases h with ⟨z, _⟩ | ⟨m, z, _⟩ <;> omega
theorem isM.nn {S : Nat → Prop} {v : Int} {n : Nat} (h : isM S v) (hn : S n) : v ≠ -1 ∧ v ≤ n := by
  rcases h with ⟨_, z⟩ | ⟨m, z, _, z3⟩
  · exact absurd hn (z n)
  · exact ⟨by omega, Classical.byContradiction fun q => z3 n (by omega) hn⟩
def lss (a b : Int) : Int := if a = -1 then b else if b < a then b else a
theorem lss_u {v u : Int} (hu : u ≠ -1) : (if u = -1 then v else if v = -1 ∨ u < v then u else v) = lss v u := by
  unfold lss
  rw [if_neg hu]
  by_cases z : v = -1
  · rw [if_pos (.inl z), if_pos z]
  · rw [if_neg z]
    by_cases z2 : u < v
    · rw [if_pos (.inr z2), if_pos z2]
    · rw [if_neg (fun q => q.elim z z2), if_neg z2]
/-- the times at a heap, so far -/
def tmI (M : xM) (A : dA) (heap : Nat) (T : Nat → Int × Int) (j : Nat) (v1 v2 : Int) : Prop := (xI M (26, 0) heap = iZ v1 ∧ xI M (27, 0) heap = iZ v2) ∧ ((-1 ≤ v1 ∧ v1 ≤ 4500) ∧ (-1 ≤ v2 ∧ v2 ≤ 4500)) ∧ isM (tq1 A heap T j) v1 ∧ isM (tq2 A heap T j) v2
abbrev tmF (heap : Nat) (r : xR) (j : Nat) : Prop := r = (44, 44) ∨ r = (44, 45) ∨ r = (44, 46) ∨ (j = heap ∧ (r = (26, 0) ∨ r = (27, 0)))
theorem x_fillTimes {M : xM} {A : dA} {heap : Nat} (hA : aOk A) (hF : aFl A) (h : cBd M 0 (aP A) (aC A)) (hJ : cJt M A) (hW : cWy M 0 (aP A) (barS A)) (hB : ∀ k, barS A k < 512) (h1 : 1 ≤ heap) (hh : heap < 2 ^ aP A) (hT : ∀ k, 1 ≤ k → k < heap → xI M (26, 0) k = iZ (timA A k).1 ∧ xI M (27, 0) k = iZ (timA A k).2) (f26 : xI M (26, 0) heap = iZ (if bc heap = 1 then 0 else -1)) (f27 : xI M (27, 0) heap = iZ (if bc heap = 1 then 0 else -1)) : ∃ M', fX1_fillTimes [.inr (.inr (1, 0)), .inl (iZ (heap))] M = some (none, M') ∧ xSm (tmF heap) M M' ∧ xI M' (26, 0) heap = iZ (timA A heap).1 ∧ xI M' (27, 0) heap = iZ (timA A heap).2 := by
  have hP := hA.P
  have h512 := Nat.lt_of_lt_of_le hh (pow9 hP).2
  have hx := x_halvesOf (M := M) (heap := heap) h512
  have hp2 : (2 : Nat) ≤ 2 ^ bc heap := by
    have bh : bc heap ≠ 0 := fun z => by have := (bc_0 h512).mp z; omega
    calc 2 = 2 ^ 1 := rfl
      _ ≤ 2 ^ bc heap := Nat.pow_le_pow_right (by omega) (by omega)
  have t0 : fX1_fillTimes [.inr (.inr (1, 0)), .inl (iZ (heap))] M = xfix gX1_fillTimes (7, [some (.inr (.inr (1, 0))), some (.inl (iZ (heap))), some (.inl (iZ (((0 : Nat))))), some (.inl (iZ (((2 ^ bc heap - 2 : Nat))))), none, none, none], [], M) := by
    have zz : ((0 : Nat) : Int) = 0 := rfl
    have ep2 : ((2 ^ bc heap - 2 : Nat) : Int) = ((2 ^ bc heap : Nat) : Int) - 2 := by omega
    rw [zz, ep2]
    generalize ((2 ^ bc heap : Nat) : Int) - 2 = H at *
    show xfix gX1_fillTimes (0, [some (.inr (.inr (1, 0))), some (.inl (iZ (heap))), none, none, none, none, none], [], M) = _; rw [xfix_unf, sX1_fillTimes_0]
    simp (disch := omega) only [xk_none, xk_inl, xk_inr, xk_ite, xri_v, xrl_v, xrv_v, xb_z0, xb_z1, xb_b2, if_true, if_false, ite_true, ite_false, iZ_lit, iZ_m1, iZ_m99, iZ_m8, iZ_add, iZ_sub, iZ_mul, iZ_neg, nz0, nzi, iZ_lt, iZ_le, iZ_inj, b2_z, b2_o, ite_bPz, ite_bPo, xb_bP, iZ_xin, if_pos, ite_self, ↓reduceIte, Int.reduceAdd, Int.reduceSub, Int.reduceMul, Int.reduceNeg, Int.reduceLT, Int.reduceLE, if_neg, hx]
  by_cases b1 : bc heap = 1
  · rw [if_pos b1] at f26 f27
    have et : timA A heap = (0, 0) := by rw [timA_eq]; unfold timP; rw [if_pos b1]
    refine ⟨M, ?_, xSm.rf, by rw [et]; exact f26, by rw [et]; exact f27⟩
    rw [t0, b1]
    have zz : ((2 ^ 1 - 2 : Nat) : Int) = 0 := rfl
    rw [zz]
    rw [xfix_unf, sX1_fillTimes_7]
    simp (disch := omega) only [xk_none, xk_inl, xk_inr, xk_ite, xri_v, xrl_v, xrv_v, xb_z0, xb_z1, xb_b2, if_true, if_false, ite_true, ite_false, iZ_lit, iZ_m1, iZ_m99, iZ_m8, iZ_add, iZ_sub, iZ_mul, iZ_neg, nz0, nzi, iZ_lt, iZ_le, iZ_inj, b2_z, b2_o, ite_bPz, ite_bPo, xb_bP, iZ_xin, if_pos, ite_self, ↓reduceIte, Int.reduceAdd, Int.reduceSub, Int.reduceMul, Int.reduceNeg, Int.reduceLT, Int.reduceLE, if_neg]
  · rw [if_neg b1] at f26 f27
    obtain ⟨T, eT⟩ : ∃ T, T = timT A heap := ⟨_, rfl⟩
    have sT : ∀ k, k < heap → T k = timA A k := fun k hk => by rw [eT]; exact timA_st hk
    have bT : ∀ k, 1 ≤ k → k < heap → tB (T k) k := fun k k1 k2 => by rw [eT]; exact timT_b heap k k1 k2 (by omega)
    obtain ⟨⟨M', v1, v2⟩, h', u1, u2, ⟨u3, u4⟩, ⟨u5, u6⟩, u7, u8⟩ := xfor_sub (σ := xM × Int × Int) (sg := gX1_fillTimes) (st := fun l h x => (7, [some (.inr (.inr (1, 0))), some (.inl (iZ (heap))), some (.inl (iZ (h))), some (.inl (iZ (l))), none, none, none], [], x.1)) (I := fun j x => xSm (tmF heap) M x.1 ∧ tmI x.1 A heap T j x.2.1 x.2.2) (heap := heap) h512 (by omega)
      (fun j x hj hn hI => by
        obtain ⟨i1, i2, i3, i4, i5⟩ := hI
        refine ⟨i1, i2, i3, i4.cg fun n => ?_, i5.cg fun n => ?_⟩
        · exact ⟨fun ⟨hf, a, b⟩ => ⟨hf, by omega, b⟩, fun ⟨hf, a, b, c⟩ => ⟨hf, by
            by_cases w : hf = j
            · subst w; exact absurd b.2.1 hn
            · omega, b, c⟩⟩
        · exact ⟨fun ⟨hf, a, b⟩ => ⟨hf, by omega, b⟩, fun ⟨hf, a, b, c⟩ => ⟨hf, by
            by_cases w : hf = j
            · subst w; exact absurd b.2.1 hn
            · omega, b, c⟩⟩)
      (fun lf h0 j x hl hhj hj hs hnx hI => by
        obtain ⟨K, c, c2⟩ := x
        obtain ⟨i1, ⟨i2, i2'⟩, ⟨i3, i3'⟩, i4, i5⟩ := hI
        dsimp only at i1 i2 i2' i3 i3' i4 i5 ⊢
        have j1 : 1 ≤ j := by omega
        have hr := hlf_rest (one := fun _ => False) (ok := fun _ _ => True) (heap := heap) (half := j) ⟨id, j1, hs, trivial⟩ hj
        have hnh := x_nextHalf (M := K) (heap := heap) (half := h0) (by omega)
        rw [hnx] at hnh
        have hL : ((lf + 1 : Nat) : Int) + -1 = (lf : Int) := by omega
        have hnd' : iZ (heap : Int) &&& (iZ (j : Int) ^^^ iZ (-1)) = iZ ((ndn heap j : Nat) : Int) := iZ_ndn heap j
        have fr : ∀ k, 1 ≤ k → k < heap → xI K (26, 0) k = iZ (T k).1 ∧ xI K (27, 0) k = iZ (T k).2 := fun k k1 k2 => by
          rw [(i1 (26, 0) k (by simp; omega)).1, (i1 (27, 0) k (by simp; omega)).1, sT k k2]; exact hT k k1 k2
        obtain ⟨p1, p2⟩ := fr j j1 hj
        obtain ⟨q1, q2⟩ := fr _ hr.2.2.1 hr.2.2.2
        have bj := bT j j1 hj
        have br := bT _ hr.2.2.1 hr.2.2.2
        unfold tB at bj br
        have hmb := x_mayBe (M := K) (heap := heap) (half := j) (rest := ndn heap j) h512 (by omega) (by omega) p1 q1 i2 p2 q2 i2' (by omega) (by omega) (by omega) (by omega) (by omega) (by omega)
        have stay : isM (tq1 A heap T (j + 1)) c → isM (tq2 A heap T (j + 1)) c2 → tmI K A heap T (j + 1) c c2 := fun z1 z2 => ⟨⟨i2, i2'⟩, ⟨i3, i3'⟩, z1, z2⟩
        have spl1 : ∀ n, tq1 A heap T (j + 1) n ↔ tq1 A heap T j n ∨ (tOk A heap j T ∧ ∃ w, w < 6 ∧ gdw A (barS A) heap j w ∧ (n : Int) = tc1 A heap j w T) := fun n => by
          constructor
          · rintro ⟨hf, a, b⟩
            by_cases w : hf = j
            · subst w; exact .inr b
            · exact .inl ⟨hf, by omega, b⟩
          · rintro (⟨hf, a, b⟩ | b)
            · exact ⟨hf, by omega, b⟩
            · exact ⟨j, by omega, b⟩
        have spl2 : ∀ n, tq2 A heap T (j + 1) n ↔ tq2 A heap T j n ∨ (tOk A heap j T ∧ ∃ w, w < 6 ∧ gdw A (barS A) heap j w ∧ (n : Int) = tc2 A heap j w T) := fun n => by
          constructor
          · rintro ⟨hf, a, b⟩
            by_cases w : hf = j
            · subst w; exact .inr b
            · exact .inl ⟨hf, by omega, b⟩
          · rintro (⟨hf, a, b⟩ | b)
            · exact ⟨hf, by omega, b⟩
            · exact ⟨j, by omega, b⟩
        have no1 : (¬ tOk A heap j T ∨ ∀ w, w < 6 → ¬ gdw A (barS A) heap j w) → tmI K A heap T (j + 1) c c2 := fun hn => stay (i4.cg fun n => by
            rw [spl1]
            exact ⟨.inl, fun z => z.elim id fun ⟨z1, w, w1, w2, _⟩ => hn.elim (fun q => absurd z1 q) fun q => absurd w2 (q w w1)⟩) (i5.cg fun n => by
            rw [spl2]
            exact ⟨.inl, fun z => z.elim id fun ⟨z1, w, w1, w2, _⟩ => hn.elim (fun q => absurd z1 q) fun q => absurd w2 (q w w1)⟩)
        have t48 : xfix gX1_fillTimes (48, [some (.inr (.inr (1, 0))), some (.inl (iZ (heap))), some (.inl (iZ (j))), some (.inl (iZ (((lf + 1 : Nat))))), some (.inl (iZ ((ndn heap j)))), none, none], [.inl (iZ ((0 : Int)))], K) = xfix gX1_fillTimes (7, [some (.inr (.inr (1, 0))), some (.inl (iZ (heap))), some (.inl (iZ (j))), some (.inl (iZ (lf))), none, none, none], [], K) := by
          generalize ndn heap j = rs at *
          rw [xfix_unf, sX1_fillTimes_48]
          simp (disch := omega) only [xk_none, xk_inl, xk_inr, xk_ite, xri_v, xrl_v, xrv_v, xb_z0, xb_z1, xb_b2, if_true, if_false, ite_true, ite_false, iZ_lit, iZ_m1, iZ_m99, iZ_m8, iZ_add, iZ_sub, iZ_mul, iZ_neg, nz0, nzi, iZ_lt, iZ_le, iZ_inj, b2_z, b2_o, ite_bPz, ite_bPo, xb_bP, iZ_xin, if_pos, ite_self, ↓reduceIte, Int.reduceAdd, Int.reduceSub, Int.reduceMul, Int.reduceNeg, Int.reduceLT, Int.reduceLE, if_neg, hL]
        by_cases ok : (T j).1 ≠ -1 ∧ (T (ndn heap j)).1 ≠ -1
        · have tok : tOk A heap j T := ⟨j1, hs, ok.1, ok.2⟩
          have ok2 : (T j).2 ≠ -1 ∧ (T (ndn heap j)).2 ≠ -1 := ⟨fun z => ok.1 (bj.2.2.mpr z), fun z => ok.2 (br.2.2.mpr z)⟩
          obtain ⟨k1, ek1⟩ : ∃ k : Nat, (T j).1 + (T (ndn heap j)).1 = k := ⟨((T j).1 + (T (ndn heap j)).1).toNat, by omega⟩
          have imb : 0 ≤ imx (T j).2 (T (ndn heap j)).2 ∧ imx (T j).2 (T (ndn heap j)).2 ≤ 4400 := by unfold imx; split <;> omega
          obtain ⟨k2, ek2⟩ : ∃ k : Nat, imx (T j).2 (T (ndn heap j)).2 = k := ⟨(imx (T j).2 (T (ndn heap j)).2).toNat, by omega⟩
          have cs : ∀ v : Int, isM (fun n => mtW A heap j n 6) v → v ≠ -1 → isM (tq1 A heap T (j + 1)) (lss c (v + k1)) ∧ isM (tq2 A heap T (j + 1)) (lss c2 (v + k2)) := fun v hv hn => by
            have vl := hv.lo
            have a1 := i4.un (hv.add hn k1)
            have a2 := i5.un (hv.add hn k2)
            rw [lss_u (by omega)] at a1 a2
            refine ⟨a1.cg fun n => ?_, a2.cg fun n => ?_⟩
            · rw [spl1]
              refine or_congr_right ⟨fun ⟨m, ⟨w, w1, w2, w3⟩, w4⟩ => ⟨tok, w, w1, w2, ?_⟩, fun ⟨_, w, w1, w2, w3⟩ => ⟨mnt A heap j w, ⟨w, w1, w2, rfl⟩, ?_⟩⟩
              · unfold tc1; omega
              · unfold tc1 at w3; omega
            · rw [spl2]
              refine or_congr_right ⟨fun ⟨m, ⟨w, w1, w2, w3⟩, w4⟩ => ⟨tok, w, w1, w2, ?_⟩, fun ⟨_, w, w1, w2, w3⟩ => ⟨mnt A heap j w, ⟨w, w1, w2, rfl⟩, ?_⟩⟩
              · unfold tc2; omega
              · unfold tc2 at w3; omega
          by_cases mb : c = -1 ∨ (T j).1 + (T (ndn heap j)).1 < c ∨ imx (T j).2 (T (ndn heap j)).2 < c2
          · rw [bP_t ⟨ok.1, ok.2, mb⟩] at hmb
            have hJK : cJt K A := hJ.sm i1 (by simp) (by simp) (by simp)
            have hWK : cWy K 0 (aP A) (barS A) := hW.sm i1 (by simp)
            have hgd := x_goodWays (M := K) (k := 0) hA hJK hWK hB h512 (Nat.lt_trans hj hh) (ndn_and.mpr hs)
            have gl : gwS A (barS A) heap j < 64 := msk_lt _ 6
            have t7 : xfix gX1_fillTimes (7, [some (.inr (.inr (1, 0))), some (.inl (iZ (heap))), some (.inl (iZ (h0))), some (.inl (iZ (((lf + 1 : Nat))))), none, none, none], [], K) = xfix gX1_fillTimes (48, [some (.inr (.inr (1, 0))), some (.inl (iZ (heap))), some (.inl (iZ (j))), some (.inl (iZ (((lf + 1 : Nat))))), some (.inl (iZ ((ndn heap j)))), none, none], [.inl (iZ ((gwS A (barS A) heap j)))], K) := by
              generalize gwS A (barS A) heap j = gm at *
              generalize ndn heap j = rs at *
              rw [xfix_unf, sX1_fillTimes_7]
              simp (disch := omega) only [xk_none, xk_inl, xk_inr, xk_ite, xri_v, xrl_v, xrv_v, xb_z0, xb_z1, xb_b2, if_true, if_false, ite_true, ite_false, iZ_lit, iZ_m1, iZ_m99, iZ_m8, iZ_add, iZ_sub, iZ_mul, iZ_neg, nz0, nzi, iZ_lt, iZ_le, iZ_inj, b2_z, b2_o, ite_bPz, ite_bPo, xb_bP, iZ_xin, if_pos, ite_self, ↓reduceIte, Int.reduceAdd, Int.reduceSub, Int.reduceMul, Int.reduceNeg, Int.reduceLT, Int.reduceLE, if_neg, ↓xri_some hnh, hnd', ↓xri_some hmb, ↓xri_some hgd]
            by_cases gz : gwS A (barS A) heap j = 0
            · refine ⟨(K, c, c2), ?_, i1, no1 (.inr fun w w1 w2 => ?_)⟩
              · rw [gz] at t7
                have zz : ((0 : Nat) : Int) = 0 := rfl
                rw [zz] at t7
                exact t7.trans t48
              · have := (msk_bit (gdw A (barS A) heap j) 6 w).mpr ⟨w1, w2⟩
                unfold gwS at gz
                rw [gz, Nat.zero_testBit] at this; cases this
            · have hBK : cBd K 0 (aP A) (aC A) := ⟨by rw [(i1 (5, 0) 0 (by simp)).1]; exact h.1, hP, fun p hp cc hc => by
                have e : sB K (10 * 0 + 1 + p) cc = sB M (10 * 0 + 1 + p) cc := by unfold sB; rw [(i1 (44, 10 * 0 + 1 + p) (cc / 64) (by simp; omega)).2]
                rw [e]; exact h.2.2 p hp cc hc⟩
              obtain ⟨K1, v, d1, d2, d3, d4⟩ := x_quickest (M := K) hA hF hBK hh j1 hj hs
              have vn : v ≠ -1 := by
                have : ∃ w, w < 6 ∧ gdw A (barS A) heap j w := Classical.byContradiction fun z => gz (msk_e fun i hi q => z ⟨i, hi, q⟩)
                obtain ⟨w, w1, w2⟩ := this
                exact (d4.nn ⟨w, w1, w2, rfl⟩).1
              obtain ⟨m1, m2⟩ := cs v d4 vn
              have e26 : ∀ k, xI K1 (26, 0) k = xI K (26, 0) k ∧ xI K1 (27, 0) k = xI K (27, 0) k := fun k => ⟨(d2 (26, 0) (by simp)).1 k, (d2 (27, 0) (by simp)).1 k⟩
              have l1 := x_lesser (M := K1) (a := c) (b := v + (T j).1 + (T (ndn heap j)).1) (by unfold r32; omega) (by unfold r32; omega)
              have el1 : (if c = -1 then v + (T j).1 + (T (ndn heap j)).1 else if v + (T j).1 + (T (ndn heap j)).1 < c then v + (T j).1 + (T (ndn heap j)).1 else c) = lss c (v + k1) := by
                unfold lss
                rw [show v + (T j).1 + (T (ndn heap j)).1 = v + k1 by omega]
              rw [el1] at l1
              obtain ⟨K2, eK2⟩ : ∃ K2, K2 = xpI K1 (26, 0) heap (iZ (lss c (v + k1))) := ⟨_, rfl⟩
              have hmx := x_max (M := K2) (a := (T j).2) (b := (T (ndn heap j)).2) (by unfold r32; omega) (by unfold r32; omega)
              have emx : (if (T j).2 < (T (ndn heap j)).2 then (T (ndn heap j)).2 else (T j).2) = (k2 : Int) := by
                rw [← ek2]
                unfold imx
                by_cases w : (T j).2 < (T (ndn heap j)).2
                · rw [if_pos w, if_neg (by omega)]
                · rw [if_neg w]
                  by_cases w2 : (T (ndn heap j)).2 < (T j).2
                  · rw [if_pos w2]
                  · rw [if_neg w2]; omega
              rw [emx] at hmx
              have l2 := x_lesser (M := K2) (a := c2) (b := v + k2) (by unfold r32; omega) (by unfold r32; omega)
              have el2 : (if c2 = -1 then v + k2 else if v + k2 < c2 then v + k2 else c2) = lss c2 (v + k2) := rfl
              rw [el2] at l2
              have g1 : xI K1 (26, 0) heap = iZ c := by rw [(e26 heap).1]; exact i2
              have g2 : xI K1 (26, 0) j = iZ (T j).1 := by rw [(e26 j).1]; exact p1
              have g3 : xI K1 (26, 0) (ndn heap j) = iZ (T (ndn heap j)).1 := by rw [(e26 _).1]; exact q1
              have g4 : xI K2 (27, 0) j = iZ (T j).2 := by rw [eK2, pR_nr (by omega), (e26 j).2]; exact p2
              have g5 : xI K2 (27, 0) (ndn heap j) = iZ (T (ndn heap j)).2 := by rw [eK2, pR_nr (by omega), (e26 _).2]; exact q2
              have g6 : xI K2 (27, 0) heap = iZ c2 := by rw [eK2, pR_nr (by omega), (e26 heap).2]; exact i2'
              have bl1 : -1 ≤ lss c (v + k1) ∧ lss c (v + k1) ≤ 4500 := by unfold lss; (repeat' split) <;> omega
              have bl2 : -1 ≤ lss c2 (v + k2) ∧ lss c2 (v + k2) ≤ 4500 := by unfold lss; (repeat' split) <;> omega
              refine ⟨(xpI K2 (27, 0) heap (iZ (lss c2 (v + k2))), lss c (v + k1), lss c2 (v + k2)), ?_, ?_, ⟨?_, pR_eq⟩, ⟨bl1, bl2⟩, m1, m2⟩
              · refine t7.trans ?_
                show _ = xfix gX1_fillTimes (7, [some (.inr (.inr (1, 0))), some (.inl (iZ (heap))), some (.inl (iZ (j))), some (.inl (iZ (lf))), none, none, none], [], xpI K2 (27, 0) heap (iZ (lss c2 (v + k2))))
                generalize lss c (v + k1) = n1 at *
                generalize lss c2 (v + k2) = n2 at *
                generalize gwS A (barS A) heap j = gm at *
                generalize (T j).1 = tj1 at *
                generalize (T j).2 = tj2 at *
                generalize (T (ndn heap j)).1 = tr1 at *
                generalize (T (ndn heap j)).2 = tr2 at *
                generalize ndn heap j = rs at *
                rw [xfix_unf, sX1_fillTimes_48]
                simp (disch := omega) only [xk_none, xk_inl, xk_inr, xk_ite, xri_v, xrl_v, xrv_v, xb_z0, xb_z1, xb_b2, if_true, if_false, ite_true, ite_false, iZ_lit, iZ_m1, iZ_m99, iZ_m8, iZ_add, iZ_sub, iZ_mul, iZ_neg, nz0, nzi, iZ_lt, iZ_le, iZ_inj, b2_z, b2_o, ite_bPz, ite_bPo, xb_bP, iZ_xin, if_pos, ite_self, ↓reduceIte, Int.reduceAdd, Int.reduceSub, Int.reduceMul, Int.reduceNeg, Int.reduceLT, Int.reduceLE, if_neg, ↓xri_some d1, iZ_clampN, g1, g2, g3, l1, ← eK2, g4, g5, hmx, g6, l2, hL]
              · show xSm (tmF heap) M (xpI K2 (27, 0) heap (iZ (lss c2 (v + k2))))
                rw [eK2]
                exact ((i1.tr (d2.sm.wk fun r j z => z.imp id fun z => z.imp id .inl)).pI (.inr (.inr (.inr ⟨rfl, .inl rfl⟩)))).pI (.inr (.inr (.inr ⟨rfl, .inr rfl⟩)))
              · show xI (xpI K2 (27, 0) heap (iZ (lss c2 (v + k2)))) (26, 0) heap = iZ (lss c (v + k1))
                rw [pR_nr (by omega), eK2, pR_eq]
          · rw [bP_f fun z => mb z.2.2] at hmb
            have m1 : c ≠ -1 := fun z => mb (.inl z)
            have m2 : ¬ (T j).1 + (T (ndn heap j)).1 < c := fun z => mb (.inr (.inl z))
            have m3 : ¬ imx (T j).2 (T (ndn heap j)).2 < c2 := fun z => mb (.inr (.inr z))
            refine ⟨(K, c, c2), ?_, i1, ?_⟩
            · refine Eq.trans ?_ t48
              generalize ndn heap j = rs at *
              rw [xfix_unf, sX1_fillTimes_7]
              simp (disch := omega) only [xk_none, xk_inl, xk_inr, xk_ite, xri_v, xrl_v, xrv_v, xb_z0, xb_z1, xb_b2, if_true, if_false, ite_true, ite_false, iZ_lit, iZ_m1, iZ_m99, iZ_m8, iZ_add, iZ_sub, iZ_mul, iZ_neg, nz0, nzi, iZ_lt, iZ_le, iZ_inj, b2_z, b2_o, ite_bPz, ite_bPo, xb_bP, iZ_xin, if_pos, ite_self, ↓reduceIte, Int.reduceAdd, Int.reduceSub, Int.reduceMul, Int.reduceNeg, Int.reduceLT, Int.reduceLE, if_neg, ↓xri_some hnh, hnd', ↓xri_some hmb]
            · by_cases gd : ∃ w, w < 6 ∧ gdw A (barS A) heap j w
              · obtain ⟨v, hv⟩ := isM_ex (fun n => mtW A heap j n 6)
                obtain ⟨w, w1, w2⟩ := gd
                have vn := (hv.nn ⟨w, w1, w2, rfl⟩).1
                have vl := hv.lo
                obtain ⟨n1, n2⟩ := cs v hv vn
                have c2n : c2 ≠ -1 := fun z => by
                  rcases i4 with ⟨z1, _⟩ | ⟨m, z1, ⟨hf, a, b, ww, x1, x2, x3⟩, _⟩
                  · exact m1 z1
                  · have hb := tc_b (fun k k1 k2 => bT k k1 k2) (by omega) x1 b
                    exact (i5.nn (n := (tc2 A heap hf ww T).toNat) ⟨hf, a, b, ww, x1, x2, Int.toNat_of_nonneg hb.2.1⟩).1 z
                have e1 : lss c (v + k1) = c := by unfold lss; rw [if_neg m1, if_neg (by omega)]
                have e2 : lss c2 (v + k2) = c2 := by unfold lss; rw [if_neg c2n, if_neg (by omega)]
                rw [e1] at n1
                rw [e2] at n2
                exact stay n1 n2
              · exact no1 (.inr fun w w1 w2 => gd ⟨w, w1, w2⟩)
        · rw [bP_f fun z => ok ⟨z.1, z.2.1⟩] at hmb
          refine ⟨(K, c, c2), ?_, i1, no1 (.inl fun z => ok ⟨z.2.2.1, z.2.2.2⟩)⟩
          refine Eq.trans ?_ t48
          generalize ndn heap j = rs at *
          rw [xfix_unf, sX1_fillTimes_7]
          simp (disch := omega) only [xk_none, xk_inl, xk_inr, xk_ite, xri_v, xrl_v, xrv_v, xb_z0, xb_z1, xb_b2, if_true, if_false, ite_true, ite_false, iZ_lit, iZ_m1, iZ_m99, iZ_m8, iZ_add, iZ_sub, iZ_mul, iZ_neg, nz0, nzi, iZ_lt, iZ_le, iZ_inj, b2_z, b2_o, ite_bPz, ite_bPo, xb_bP, iZ_xin, if_pos, ite_self, ↓reduceIte, Int.reduceAdd, Int.reduceSub, Int.reduceMul, Int.reduceNeg, Int.reduceLT, Int.reduceLE, if_neg, ↓xri_some hnh, hnd', ↓xri_some hmb]) (x := (M, -1, -1)) ⟨xSm.rf, ⟨f26, f27⟩, ⟨⟨by show (-1 : Int) ≤ -1; omega, by show (-1 : Int) ≤ 4500; omega⟩, by show (-1 : Int) ≤ -1; omega, by show (-1 : Int) ≤ 4500; omega⟩, .inl ⟨rfl, fun n ⟨hf, a, b, _⟩ => by have := b.1; omega⟩, .inl ⟨rfl, fun n ⟨hf, a, b, _⟩ => by have := b.1; omega⟩⟩
    have et : timA A heap = (lsI (tq1 A heap T heap) 5000, lsI (tq2 A heap T heap) 5000) := by
      rw [timA_eq, eT]; unfold timP; rw [if_neg b1]
    dsimp only at u1 u2 u3 u4 u5 u6 u7 u8
    have w7 := isM_ls (n := 5000) u7 (by omega)
    have w8 := isM_ls (n := 5000) u8 (by omega)
    obtain ⟨X1, ex1⟩ : ∃ x, x = lsI (tq1 A heap T heap) 5000 := ⟨_, rfl⟩
    obtain ⟨X2, ex2⟩ : ∃ x, x = lsI (tq2 A heap T heap) 5000 := ⟨_, rfl⟩
    refine ⟨M', ?_, u2, ?_, ?_⟩
    · refine t0.trans (u1.trans ?_)
      have zz : ((0 : Nat) : Int) = 0 := rfl
      rw [zz]
      rw [xfix_unf, sX1_fillTimes_7]
      simp (disch := omega) only [xk_none, xk_inl, xk_inr, xk_ite, xri_v, xrl_v, xrv_v, xb_z0, xb_z1, xb_b2, if_true, if_false, ite_true, ite_false, iZ_lit, iZ_m1, iZ_m99, iZ_m8, iZ_add, iZ_sub, iZ_mul, iZ_neg, nz0, nzi, iZ_lt, iZ_le, iZ_inj, b2_z, b2_o, ite_bPz, ite_bPo, xb_bP, iZ_xin, if_pos, ite_self, ↓reduceIte, Int.reduceAdd, Int.reduceSub, Int.reduceMul, Int.reduceNeg, Int.reduceLT, Int.reduceLE, if_neg]
    · rw [← ex1] at et
      rw [et]; dsimp only; rw [ex1, ← w7]; exact u3
    · rw [← ex2] at et
      rw [et]; dsimp only; rw [ex2, ← w8]; exact u4
def cTm (M : xM) (A : dA) (n : Nat) : Prop := ∀ k, 1 ≤ k → k < n → xI M (26, 0) k = iZ (timA A k).1 ∧ xI M (27, 0) k = iZ (timA A k).2
abbrev ftF (r : xR) (j : Nat) : Prop := r = (44, 44) ∨ r = (44, 45) ∨ r = (44, 46) ∨ r = (26, 0) ∨ r = (27, 0) ∨ (r = (1, 0) ∧ j = 7)
theorem x_freshTimes {M : xM} {A : dA} (hA : aOk A) (hF : aFl A) (h : cBd M 0 (aP A) (aC A)) (hJ : cJt M A) (hW : cWy M 0 (aP A) (barS A)) (hB : ∀ k, barS A k < 512) (hf : xI M (1, 0) 7 = iZ 0 ∨ (xI M (1, 0) 7 = iZ 1 ∧ cTm M A (2 ^ aP A))) : ∃ M', fX1_freshTimes [.inr (.inr (1, 0))] M = some (none, M') ∧ xSm ftF M M' ∧ xI M' (1, 0) 7 = iZ 1 ∧ cTm M' A (2 ^ aP A) := by
  have hP := hA.P
  have h9 := pow9 hP
  rcases hf with hf | ⟨hf, hn⟩
  · obtain ⟨M2, b1, b2, b3⟩ := xfor_M (sg := gX1_freshTimes) (st := fun i M => (10, [some (.inr (.inr (1, 0))), some (.inl (iZ (((i + 1 : Nat)))))], [], M)) (I := fun n K => xSame (fun r => r = (44, 44) ∨ r = (44, 45) ∨ r = (44, 46) ∨ r = (26, 0) ∨ r = (27, 0)) M K ∧ cTm K A (n + 1)) (n := 2 ^ aP A - 1) (fun i K hi hK => by
      obtain ⟨k1, k2⟩ := hK
      obtain ⟨heap, eh⟩ : ∃ heap, heap = i + 1 := ⟨_, rfl⟩
      rw [← eh] at k2
      have g0 : xI K (5, 0) 0 = iZ (aP A) := by rw [(k1 (5, 0) (by simp)).1]; exact h.1
      have hw := x_whole (M := K) (s := 0) g0 hP
      have ho := x_isOne (M := K) (heap := heap) (by omega) (by omega)
      obtain ⟨K1, eK1⟩ : ∃ K1, K1 = xpI (xpI K (26, 0) heap (iZ (if bc heap = 1 then 0 else -1))) (27, 0) heap (iZ (if bc heap = 1 then 0 else -1)) := ⟨_, rfl⟩
      have s1 : xSm (tmF heap) K K1 := by rw [eK1]; exact (xSm.rf.pI (.inr (.inr (.inr ⟨rfl, .inl rfl⟩)))).pI (.inr (.inr (.inr ⟨rfl, .inr rfl⟩)))
      have k1' : xSame (fun r => r = (44, 44) ∨ r = (44, 45) ∨ r = (44, 46) ∨ r = (26, 0) ∨ r = (27, 0)) M K1 := k1.tr (s1.S fun r j z => z.imp id fun z => z.imp id fun z => z.imp id fun z => z.2)
      obtain ⟨K2, d1, d2, d3, d4⟩ := x_fillTimes (M := K1) (heap := heap) hA hF ⟨by rw [(k1' (5, 0) (by simp)).1]; exact h.1, hP, fun p hp c hc => by rw [sB_same k1' (by simp; omega) c]; exact h.2.2 p hp c hc⟩ (hJ.sm k1'.sm (by simp) (by simp) (by simp)) (hW.same k1' (by simp)) hB (by omega) (by omega) (fun k q1 q2 => by
        rw [(s1 (26, 0) k (by simp; omega)).1, (s1 (27, 0) k (by simp; omega)).1]; exact k2 k q1 q2) (by rw [eK1, pR_nr (by omega), pR_eq]) (by rw [eK1, pR_eq])
      have hwb : (heap : Int) ≤ ((2 ^ aP A : Nat) : Int) - 1 ∧ ((2 ^ aP A : Nat) : Int) - 1 ≤ 511 := by omega
      refine ⟨K2, ?_, k1'.tr (d2.S fun r j z => z.imp id fun z => z.imp id fun z => z.imp id fun z => z.2), fun k q1 q2 => ?_⟩
      · show xfix gX1_freshTimes (10, [some (.inr (.inr (1, 0))), some (.inl (iZ (((i + 1 : Nat)))))], [], K) = xfix gX1_freshTimes (10, [some (.inr (.inr (1, 0))), some (.inl (iZ (((i + 1 + 1 : Nat)))))], [], K2)
        rw [← eh, nS]
        have t38 : xfix gX1_freshTimes (38, [some (.inr (.inr (1, 0))), some (.inl (iZ (heap)))], [.inl (iZ ((if bc heap = 1 then 0 else -1))), .inl (iZ (heap)), .inr (.inr (26, 0))], K) = xfix gX1_freshTimes (10, [some (.inr (.inr (1, 0))), some (.inl (iZ (((heap : Int) + 1))))], [], K2) := by
          generalize (if bc heap = 1 then (0 : Int) else -1) = tv at *
          have rd : xI (xpI K (26, 0) heap (iZ tv)) (26, 0) heap = iZ tv := pR_eq
          rw [xfix_unf, sX1_freshTimes_38]
          simp (disch := omega) only [xk_none, xk_inl, xk_inr, xk_ite, xri_v, xrl_v, xrv_v, xb_z0, xb_z1, xb_b2, if_true, if_false, ite_true, ite_false, iZ_lit, iZ_m1, iZ_m99, iZ_m8, iZ_add, iZ_sub, iZ_mul, iZ_neg, nz0, nzi, iZ_lt, iZ_le, iZ_inj, b2_z, b2_o, ite_bPz, ite_bPo, xb_bP, iZ_xin, if_pos, ite_self, ↓reduceIte, Int.reduceAdd, Int.reduceSub, Int.reduceMul, Int.reduceNeg, Int.reduceLT, Int.reduceLE, if_neg, iZ_clampN, rd, ← eK1, d1]
        rw [← t38]
        generalize ((2 ^ aP A : Nat) : Int) - 1 = W at *
        by_cases q : bc heap = 1
        · rw [bP_t q] at ho
          rw [if_pos q]
          rw [xfix_unf, sX1_freshTimes_10]
          simp (disch := omega) only [xk_none, xk_inl, xk_inr, xk_ite, xri_v, xrl_v, xrv_v, xb_z0, xb_z1, xb_b2, if_true, if_false, ite_true, ite_false, iZ_lit, iZ_m1, iZ_m99, iZ_m8, iZ_add, iZ_sub, iZ_mul, iZ_neg, nz0, nzi, iZ_lt, iZ_le, iZ_inj, b2_z, b2_o, ite_bPz, ite_bPo, xb_bP, iZ_xin, if_pos, ite_self, ↓reduceIte, Int.reduceAdd, Int.reduceSub, Int.reduceMul, Int.reduceNeg, Int.reduceLT, Int.reduceLE, if_neg, hw, ho]
        · rw [bP_f q] at ho
          rw [if_neg q]
          rw [xfix_unf, sX1_freshTimes_10]
          simp (disch := omega) only [xk_none, xk_inl, xk_inr, xk_ite, xri_v, xrl_v, xrv_v, xb_z0, xb_z1, xb_b2, if_true, if_false, ite_true, ite_false, iZ_lit, iZ_m1, iZ_m99, iZ_m8, iZ_add, iZ_sub, iZ_mul, iZ_neg, nz0, nzi, iZ_lt, iZ_le, iZ_inj, b2_z, b2_o, ite_bPz, ite_bPo, xb_bP, iZ_xin, if_pos, ite_self, ↓reduceIte, Int.reduceAdd, Int.reduceSub, Int.reduceMul, Int.reduceNeg, Int.reduceLT, Int.reduceLE, if_neg, hw, ho]
      · by_cases z : k = heap
        · rw [z]; exact ⟨d3, d4⟩
        · rw [(d2 (26, 0) k (by simp; omega)).1, (d2 (27, 0) k (by simp; omega)).1, (s1 (26, 0) k (by simp; omega)).1, (s1 (27, 0) k (by simp; omega)).1]
          exact k2 k q1 (by omega)) (a := 0) (M := M) (by omega) ⟨xSame.rf, fun k q1 q2 => by omega⟩
    refine ⟨xpI M2 (1, 0) 7 (iZ 1), ?_, (b2.sm.wk fun r j z => by rcases z with z | z | z | z | z <;> subst z <;> simp [ftF]).pI (.inr (.inr (.inr (.inr (.inr ⟨rfl, rfl⟩))))), pR_eq, fun k q1 q2 => ?_⟩
    · have g0 : xI M2 (5, 0) 0 = iZ (aP A) := by rw [(b2 (5, 0) (by simp)).1]; exact h.1
      have hw := x_whole (M := M2) (s := 0) g0 hP
      have e1 : ((0 + 1 : Nat) : Int) = 1 := rfl
      have e2 : ((2 ^ aP A - 1 + 1 : Nat) : Int) = ((2 ^ aP A : Nat) : Int) := by omega
      rw [e1, e2] at b1
      show xfix gX1_freshTimes (0, [some (.inr (.inr (1, 0))), none], [], M) = _; rw [xfix_unf, sX1_freshTimes_0]
      simp (disch := omega) only [xk_none, xk_inl, xk_inr, xk_ite, xri_v, xrl_v, xrv_v, xb_z0, xb_z1, xb_b2, if_true, if_false, ite_true, ite_false, iZ_lit, iZ_m1, iZ_m99, iZ_m8, iZ_add, iZ_sub, iZ_mul, iZ_neg, nz0, nzi, iZ_lt, iZ_le, iZ_inj, b2_z, b2_o, ite_bPz, ite_bPo, xb_bP, iZ_xin, if_pos, ite_self, ↓reduceIte, Int.reduceAdd, Int.reduceSub, Int.reduceMul, Int.reduceNeg, Int.reduceLT, Int.reduceLE, if_neg, hf]
      refine Eq.trans b1 ?_
      have hW9 : 0 ≤ ((2 ^ aP A : Nat) : Int) ∧ ((2 ^ aP A : Nat) : Int) ≤ 512 := by omega
      generalize ((2 ^ aP A : Nat) : Int) = W at *
      rw [xfix_unf, sX1_freshTimes_10]
      simp (disch := omega) only [xk_none, xk_inl, xk_inr, xk_ite, xri_v, xrl_v, xrv_v, xb_z0, xb_z1, xb_b2, if_true, if_false, ite_true, ite_false, iZ_lit, iZ_m1, iZ_m99, iZ_m8, iZ_add, iZ_sub, iZ_mul, iZ_neg, nz0, nzi, iZ_lt, iZ_le, iZ_inj, b2_z, b2_o, ite_bPz, ite_bPo, xb_bP, iZ_xin, if_pos, ite_self, ↓reduceIte, Int.reduceAdd, Int.reduceSub, Int.reduceMul, Int.reduceNeg, Int.reduceLT, Int.reduceLE, if_neg, hw]
    · rw [pR_nr (by omega), pR_nr (by omega)]
      exact b3 k q1 (by omega)
  · refine ⟨M, ?_, xSm.rf, hf, hn⟩
    show xfix gX1_freshTimes (0, [some (.inr (.inr (1, 0))), none], [], M) = _; rw [xfix_unf, sX1_freshTimes_0]
    simp (disch := omega) only [xk_none, xk_inl, xk_inr, xk_ite, xri_v, xrl_v, xrv_v, xb_z0, xb_z1, xb_b2, if_true, if_false, ite_true, ite_false, iZ_lit, iZ_m1, iZ_m99, iZ_m8, iZ_add, iZ_sub, iZ_mul, iZ_neg, nz0, nzi, iZ_lt, iZ_le, iZ_inj, b2_z, b2_o, ite_bPz, ite_bPo, xb_bP, iZ_xin, if_pos, ite_self, ↓reduceIte, Int.reduceAdd, Int.reduceSub, Int.reduceMul, Int.reduceNeg, Int.reduceLT, Int.reduceLE, if_neg, hf]
