/-! the class: a shape becomes another -/
/-- shape s holds the parts and joints of A, named nm -/
def cSh (M : xM) (s : Nat) (A : dA) (nm : Nat → Int) : Prop := cBd M s (aP A) (aC A) ∧ xI M (5, s) 1 = iZ (aJ A) ∧ (∀ q, q < aP A → xI M (40, s) q = iZ (nm q)) ∧ (∀ j, j < aJ A → xI M (41, s) j = iZ ((2 ^ aOne A j ||| 2 ^ aTwo A j : Nat) : Int) ∧ xI M (43, s) j = iZ (spt (aAt A j) (aWay A j))) ∧ ∀ c, c < 512 → (sB M (10 * s) c = true ↔ aC A c ≠ -1)
abbrev bcF (r : xR) : Prop := r = (5, 0) ∨ r = (38, 0) ∨ r = (40, 0) ∨ r = (41, 0) ∨ r = (42, 0) ∨ r = (43, 0) ∨ (r.1 = 44 ∧ r.2 < 10)
theorem x_become {M : xM} {A : dA} {nm : Nat → Int} (hA : aOk A) (h : cSh M 1 A nm) : ∃ M', fX5_become [.inr (.inr (5, 0)), .inr (.inr (5, 1))] M = some (none, M') ∧ xSame bcF M M' ∧ cSh M' 0 A nm ∧ xI M' (5, 0) 2 = iZ 0 ∧ (∀ w, w < 6 → xI M' (38, 0) w = iZ 0) ∧ cJt M' A := by
  have hP := hA.P
  have hJ := hA.J
  obtain ⟨⟨h1, h2, h3⟩, h4, h5, h6, h7⟩ := h
  obtain ⟨M1, a1, a2, ⟨a3, a4, a5⟩, a6, a7⟩ := x_clear (M := M) (s := 0)
  have s1 : xSame bcF M M1 := a2.S fun r j z => by
    rcases z with z | z | z
    · exact .inl z.1
    · exact .inr (.inl z)
    · subst z; simp [bcF]
  obtain ⟨M2, b1, b2, b3, b4, b5, b6, b7, b8⟩ := xfor_M (sg := gX5_become) (st := fun i M => (6, [some (.inr (.inr (5, 0))), some (.inr (.inr (5, 1))), some (.inl (iZ (i)))], [], M)) (I := fun n K => xSame bcF M K ∧ xI K (5, 0) 0 = iZ n ∧ xI K (5, 0) 1 = iZ 0 ∧ xI K (5, 0) 2 = iZ 0 ∧ (∀ w, w < 6 → xI K (38, 0) w = iZ 0) ∧ (∀ q, q < n → xI K (40, 0) q = iZ (nm q)) ∧ ∀ p, p < n → ∀ c, c < 512 → sB K (10 * 0 + 1 + p) c = sB M (10 * 1 + 1 + p) c) (n := aP A) (fun i K hi hK => by
    obtain ⟨k1, k2, k3, k4, k5, k6, k7⟩ := hK
    have g0 : xI K (5, 1) 0 = iZ (aP A) := by rw [(k1 (5, 1) (by simp)).1]; exact h1
    have g1 : xI K (40, 1) i = iZ (nm i) := by rw [(k1 (40, 1) (by simp)).1]; exact h5 i hi
    obtain ⟨K1, c1, c2, c3, c4, c5⟩ := x_addPart (M := K) (s := 0) (P := i) (v := iZ (nm i)) (by omega) k2
    obtain ⟨K2, d1, d2, d3⟩ := x_copy (M := K1) (k := 10 * 0 + 1 + i) (j := 10 * 1 + 1 + i) (by omega)
    have f : ∀ r j, r.1 ≠ 44 → xI K2 r j = xI K1 r j := fun r j hr => (d2 r (fun z => hr (by rw [z]))).1 j
    refine ⟨K2, ?_, (k1.tr (c2.S fun r j z => ?_)).tr (d2.wk fun r z => ?_), ?_, ?_, ?_, fun w hw => ?_, fun q hq => ?_, fun p hp c hc => ?_⟩
    · rw [nS]
      rw [xfix_unf, sX5_become_6]
      simp (disch := omega) only [xk_none, xk_inl, xk_inr, xk_ite, xri_v, xrl_v, xrv_v, xb_z0, xb_z1, xb_b2, if_true, if_false, ite_true, ite_false, iZ_lit, iZ_m1, iZ_m99, iZ_m8, iZ_add, iZ_sub, iZ_mul, iZ_neg, nz0, nzi, iZ_lt, iZ_le, iZ_inj, b2_z, b2_o, ite_bPz, ite_bPo, xb_bP, iZ_xin, if_pos, ite_self, ↓reduceIte, Int.reduceAdd, Int.reduceSub, Int.reduceMul, Int.reduceNeg, Int.reduceLT, Int.reduceLE, if_neg, nS, iZ_clampN, iZ_bit, iZ_one, iZ_and, iZ_or, iZ_ndn, g0, g1, c1, d1]
    · rcases z with z | z | z
      · exact .inl z.1
      · exact .inr (.inr (.inl z.1))
      · subst z; simp [bcF]; omega
    · subst z; simp [bcF]; omega
    · rw [f _ _ (by simp)]; exact c3
    · rw [f _ _ (by simp), (c2 (5, 0) 1 (by simp)).1]; exact k3
    · rw [f _ _ (by simp), (c2 (5, 0) 2 (by simp)).1]; exact k4
    · rw [f _ _ (by simp), (c2 (38, 0) w (by simp)).1]; exact k5 w hw
    · rw [f _ _ (by simp)]
      by_cases e : q = i
      · rw [e]; exact c4
      · rw [(c2 (40, 0) q (by simp; omega)).1]; exact k6 q (by omega)
    · by_cases e : p = i
      · subst e
        rw [d3 c hc]
        have e1 : sB K1 (10 * 1 + 1 + p) c = sB K (10 * 1 + 1 + p) c := by unfold sB; rw [(c2 (44, 10 * 1 + 1 + p) (c / 64) (by simp)).2]
        rw [e1]
        exact sB_same k1 (by simp; omega) c
      · rw [sB_same d2 (by first | (simp; omega) | simp) c]
        have e1 : sB K1 (10 * 0 + 1 + p) c = sB K (10 * 0 + 1 + p) c := by unfold sB; rw [(c2 (44, 10 * 0 + 1 + p) (c / 64) (by simp; omega)).2]
        rw [e1]
        exact k7 p (by omega) c hc) (a := 0) (M := M1) (by omega) ⟨s1, a3, a4, a5, a6, fun q hq => by omega, fun p hp => by omega⟩
  obtain ⟨M3, d1, d2, d3, d4, d5, d6, d7, d8, d9⟩ := xfor_M (sg := gX5_become) (st := fun i M => (47, [some (.inr (.inr (5, 0))), some (.inr (.inr (5, 1))), some (.inl (iZ (i)))], [], M)) (I := fun n K => xSame bcF M K ∧ xI K (5, 0) 0 = iZ (aP A) ∧ xI K (5, 0) 1 = iZ n ∧ xI K (5, 0) 2 = iZ 0 ∧ (∀ w, w < 6 → xI K (38, 0) w = iZ 0) ∧ (∀ q, q < aP A → xI K (40, 0) q = iZ (nm q)) ∧ (∀ p, p < aP A → ∀ c, c < 512 → sB K (10 * 0 + 1 + p) c = sB M (10 * 1 + 1 + p) c) ∧ ∀ j, j < n → xI K (41, 0) j = iZ ((2 ^ aOne A j ||| 2 ^ aTwo A j : Nat) : Int) ∧ xI K (43, 0) j = iZ (spt (aAt A j) (aWay A j))) (n := aJ A) (fun i K hi hK => by
    obtain ⟨k1, k2, k3, k4, k5, k6, k7, k8⟩ := hK
    have g0 : xI K (5, 1) 1 = iZ (aJ A) := by rw [(k1 (5, 1) (by simp)).1]; exact h4
    have g1 : xI K (41, 1) i = iZ ((2 ^ aOne A i ||| 2 ^ aTwo A i : Nat) : Int) := by rw [(k1 (41, 1) (by simp)).1]; exact (h6 i hi).1
    have g2 : xI K (43, 1) i = iZ (spt (aAt A i) (aWay A i)) := by rw [(k1 (43, 1) (by simp)).1]; exact (h6 i hi).2
    obtain ⟨K1, c1, c2, c3, c4, c5⟩ := x_addJoint (M := K) (s := 0) (J := i) (v := iZ ((2 ^ aOne A i ||| 2 ^ aTwo A i : Nat) : Int)) (w := iZ (spt (aAt A i) (aWay A i))) (by omega) k3
    refine ⟨K1, ?_, k1.tr (c2.S fun r j z => ?_), ?_, c3, ?_, fun w hw => ?_, fun q hq => ?_, fun p hp c hc => ?_, fun j hj => ?_⟩
    · generalize (2 ^ aOne A i ||| 2 ^ aTwo A i : Nat) = pr at *
      rw [nS]
      rw [xfix_unf, sX5_become_47]
      simp (disch := omega) only [xk_none, xk_inl, xk_inr, xk_ite, xri_v, xrl_v, xrv_v, xb_z0, xb_z1, xb_b2, if_true, if_false, ite_true, ite_false, iZ_lit, iZ_m1, iZ_m99, iZ_m8, iZ_add, iZ_sub, iZ_mul, iZ_neg, nz0, nzi, iZ_lt, iZ_le, iZ_inj, b2_z, b2_o, ite_bPz, ite_bPo, xb_bP, iZ_xin, if_pos, ite_self, ↓reduceIte, Int.reduceAdd, Int.reduceSub, Int.reduceMul, Int.reduceNeg, Int.reduceLT, Int.reduceLE, if_neg, nS, iZ_clampN, iZ_bit, iZ_one, iZ_and, iZ_or, iZ_ndn, g0, g1, g2, c1]
    · rcases z with z | z | z
      · exact .inl z.1
      · exact .inr (.inr (.inr (.inl z.1)))
      · exact .inr (.inr (.inr (.inr (.inr (.inl z.1)))))
    · rw [(c2 (5, 0) 0 (by simp)).1]; exact k2
    · rw [(c2 (5, 0) 2 (by simp)).1]; exact k4
    · rw [(c2 (38, 0) w (by simp)).1]; exact k5 w hw
    · rw [(c2 (40, 0) q (by simp)).1]; exact k6 q hq
    · have e1 : sB K1 (10 * 0 + 1 + p) c = sB K (10 * 0 + 1 + p) c := by unfold sB; rw [(c2 (44, 10 * 0 + 1 + p) (c / 64) (by simp)).2]
      rw [e1]; exact k7 p hp c hc
    · by_cases e : j = i
      · rw [e]; exact ⟨c4, c5⟩
      · rw [(c2 (41, 0) j (by simp; omega)).1, (c2 (43, 0) j (by simp; omega)).1]; exact k8 j (by omega)) (a := 0) (M := M2) (by omega) ⟨b2, b3, b4, b5, b6, b7, b8, fun j hj => by omega⟩
  obtain ⟨M4, e1, e2, e3⟩ := x_copy (M := M3) (k := 10 * 0) (j := 10 * 1) (by omega)
  have f4 : ∀ r j, r.1 ≠ 44 → xI M4 r j = xI M3 r j := fun r j hr => (e2 r (fun z => hr (by rw [z]))).1 j
  have hB4 : cBd M4 0 (aP A) (aC A) := ⟨by rw [f4 _ _ (by simp)]; exact d3, hP, fun p hp c hc => by
    rw [sB_same e2 (by first | (simp; omega) | simp) c, d8 p hp c hc]; exact h3 p hp c hc⟩
  obtain ⟨M5, g1, g2, g3⟩ := x_findCovers (M := M4) (s := 0) hB4 hA (by rw [f4 _ _ (by simp)]; exact d4) (fun j hj => by rw [f4 _ _ (by simp)]; exact (d9 j hj).2)
  have f5 : ∀ r j, r.1 ≠ 44 → r ≠ (42, 0) → xI M5 r j = xI M3 r j := fun r j hr hr2 => by rw [(g2 r hr2).1]; exact f4 r j hr
  refine ⟨M5, ?_, (d2.tr (e2.wk fun r z => by subst z; simp [bcF])).tr (g2.wk fun r z => by subst z; simp [bcF]), ⟨⟨?_, hP, fun p hp c hc => ?_⟩, ?_, fun q hq => ?_, fun j hj => ⟨?_, ?_⟩, fun c hc => ?_⟩, ?_, fun w hw => ?_, ?_, fun j hj => ⟨?_, g3 j hj⟩⟩
  · have t6 : xfix gX5_become (6, [some (.inr (.inr (5, 0))), some (.inr (.inr (5, 1))), some (.inl (iZ ((aP A))))], [], M2) = xfix gX5_become (47, [some (.inr (.inr (5, 0))), some (.inr (.inr (5, 1))), some (.inl (iZ (((0 : Nat)))))], [], M2) := by
      have q0 : xI M2 (5, 1) 0 = iZ (aP A) := by rw [(b2 (5, 1) (by simp)).1]; exact h1
      rw [xfix_unf, sX5_become_6]
      simp (disch := omega) only [xk_none, xk_inl, xk_inr, xk_ite, xri_v, xrl_v, xrv_v, xb_z0, xb_z1, xb_b2, if_true, if_false, ite_true, ite_false, iZ_lit, iZ_m1, iZ_m99, iZ_m8, iZ_add, iZ_sub, iZ_mul, iZ_neg, nz0, nzi, iZ_lt, iZ_le, iZ_inj, b2_z, b2_o, ite_bPz, ite_bPo, xb_bP, iZ_xin, if_pos, ite_self, ↓reduceIte, Int.reduceAdd, Int.reduceSub, Int.reduceMul, Int.reduceNeg, Int.reduceLT, Int.reduceLE, if_neg, nS, iZ_clampN, iZ_bit, iZ_one, iZ_and, iZ_or, iZ_ndn, q0]
      rfl
    have q1 : xI M3 (5, 1) 1 = iZ (aJ A) := by rw [(d2 (5, 1) (by simp)).1]; exact h4
    show xfix gX5_become (0, [some (.inr (.inr (5, 0))), some (.inr (.inr (5, 1))), none], [], M) = _; rw [xfix_unf, sX5_become_0]
    simp (disch := omega) only [xk_none, xk_inl, xk_inr, xk_ite, xri_v, xrl_v, xrv_v, xb_z0, xb_z1, xb_b2, if_true, if_false, ite_true, ite_false, iZ_lit, iZ_m1, iZ_m99, iZ_m8, iZ_add, iZ_sub, iZ_mul, iZ_neg, nz0, nzi, iZ_lt, iZ_le, iZ_inj, b2_z, b2_o, ite_bPz, ite_bPo, xb_bP, iZ_xin, if_pos, ite_self, ↓reduceIte, Int.reduceAdd, Int.reduceSub, Int.reduceMul, Int.reduceNeg, Int.reduceLT, Int.reduceLE, if_neg, a1]
    refine Eq.trans b1 (t6.trans (d1.trans ?_))
    rw [xfix_unf, sX5_become_47]
    simp (disch := omega) only [xk_none, xk_inl, xk_inr, xk_ite, xri_v, xrl_v, xrv_v, xb_z0, xb_z1, xb_b2, if_true, if_false, ite_true, ite_false, iZ_lit, iZ_m1, iZ_m99, iZ_m8, iZ_add, iZ_sub, iZ_mul, iZ_neg, nz0, nzi, iZ_lt, iZ_le, iZ_inj, b2_z, b2_o, ite_bPz, ite_bPo, xb_bP, iZ_xin, if_pos, ite_self, ↓reduceIte, Int.reduceAdd, Int.reduceSub, Int.reduceMul, Int.reduceNeg, Int.reduceLT, Int.reduceLE, if_neg, nS, iZ_clampN, iZ_bit, iZ_one, iZ_and, iZ_or, iZ_ndn, q1, e1, g1]
  · rw [f5 _ _ (by simp) (by simp)]; exact d3
  · rw [sB_same g2 (by simp) c]; exact hB4.2.2 p hp c hc
  · rw [f5 _ _ (by simp) (by simp)]; exact d4
  · rw [f5 _ _ (by simp) (by simp)]; exact d7 q hq
  · rw [f5 _ _ (by simp) (by simp)]; exact (d9 j hj).1
  · rw [f5 _ _ (by simp) (by simp)]; exact (d9 j hj).2
  · rw [sB_same g2 (by simp) c, e3 c hc, sB_same d2 (by simp) c]; exact h7 c hc
  · rw [f5 _ _ (by simp) (by simp)]; exact d5
  · rw [f5 _ _ (by simp) (by simp)]; exact d6 w hw
  · rw [f5 _ _ (by simp) (by simp)]; exact d4
  · rw [f5 _ _ (by simp) (by simp)]; exact (d9 j hj).1
