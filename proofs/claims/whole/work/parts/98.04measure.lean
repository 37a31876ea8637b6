/-! the class: Ways.measure and copy -/
abbrev wyF (k : Nat) (r : xR) : Prop := r = (50, k) ∨ r = (51, k) ∨ (r.1 = 44 ∧ 11 * k + 21 ≤ r.2 ∧ r.2 ≤ 11 * k + 31)
theorem x_mea_in {M : xM} {k p : Nat} {v : Prop} {sw : Nat → Nat} (hp : p < 9) (hsw : ∀ w, w < 6 → xI M (38, 0) w = iZ (sw w) ∧ sw w < 512) : ∃ M', xfix gX10_measure (33, [some (.inr (.inr (10, k))), some (.inl (bP (v))), some (.inl (iZ (p))), some (.inl (iZ (((0 : Nat)))))], [], M) = xfix gX10_measure (2, [some (.inr (.inr (10, k))), some (.inl (bP (v))), some (.inl (iZ (((p + 1 : Nat))))), none], [], M') ∧ xSame (fun r => r = (44, 11 * k + 30) ∨ r = (44, 11 * k + 21 + p)) M M' ∧ ∀ c, c < 512 → (sB M' (11 * k + 21 + p) c = true ↔ sB M (11 * k + 21 + p) c = true ∨ (v ∧ ∃ w, w < 6 ∧ (sw w).testBit p = true ∧ stB (sB M (1 + p)) w c = true ∧ sB M 0 c = false)) := by
  by_cases hv : v
  · obtain ⟨M2, b1, b2, b3⟩ := xfor_M (sg := gX10_measure) (st := fun i M => (33, [some (.inr (.inr (10, k))), some (.inl (bP (v))), some (.inl (iZ (p))), some (.inl (iZ (i)))], [], M)) (I := fun n K => xSame (fun r => r = (44, 11 * k + 30) ∨ r = (44, 11 * k + 21 + p)) M K ∧ ∀ c, c < 512 → (sB K (11 * k + 21 + p) c = true ↔ sB M (11 * k + 21 + p) c = true ∨ ∃ w, w < n ∧ (sw w).testBit p = true ∧ stB (sB M (1 + p)) w c = true ∧ sB M 0 c = false)) (n := 6) (fun i K hi hK => by
      obtain ⟨k1, k2⟩ := hK
      have s0 : xI K (38, 0) i = iZ (sw i) := by rw [(k1 (38, 0) (by simp)).1]; exact (hsw i hi).1
      have s1 := x_isSwollen (M := K) (s := 0) s0 (hsw i hi).2 hp hi
      by_cases y : (sw i).testBit p = true
      · obtain ⟨K1, c1, c2, c3⟩ := x_growBody (M := K) (k := k) hp hi
        refine ⟨K1, ?_, k1.tr c2, fun c hc => ?_⟩
        · rw [bP_t y] at s1
          rw [nS]
          rw [xfix_unf, sX10_measure_33]
          simp (disch := omega) only [xk_none, xk_inl, xk_inr, xk_ite, xri_v, xrl_v, xrv_v, xb_z0, xb_z1, xb_b2, if_true, if_false, ite_true, ite_false, iZ_lit, iZ_m1, iZ_m99, iZ_m8, iZ_add, iZ_sub, iZ_mul, iZ_neg, nz0, nzi, iZ_lt, iZ_le, iZ_inj, b2_z, b2_o, ite_bPz, ite_bPo, xb_bP, iZ_xin, if_pos, ite_self, ↓reduceIte, Int.reduceAdd, Int.reduceSub, Int.reduceMul, Int.reduceNeg, Int.reduceLT, Int.reduceLE, if_neg, nS, iZ_clampN, iZ_bit, iZ_one, iZ_and, iZ_or, iZ_ndn, bP_t hv, s1, c1]
        · have eF : sB K (1 + p) = sB M (1 + p) := funext fun c => sB_same k1 (by first | (simp; omega) | simp) c
          rw [c3 c hc, Bool.or_eq_true, k2 c hc, Bool.and_eq_true, Bool.not_eq_true', sB_same k1 (k := 0) (by first | (simp; omega) | simp) c, eF]
          constructor
          · rintro ((z | ⟨w, w1, w2⟩) | ⟨z1, z2⟩)
            · exact .inl z
            · exact .inr ⟨w, by omega, w2⟩
            · exact .inr ⟨i, by omega, y, z1, z2⟩
          · rintro (z | ⟨w, w1, w2, w3⟩)
            · exact .inl (.inl z)
            · by_cases e : w = i
              · exact .inr (e ▸ w3)
              · exact .inl (.inr ⟨w, by omega, w2, w3⟩)
      · refine ⟨K, ?_, k1, fun c hc => ?_⟩
        · rw [bP_f y] at s1
          rw [nS]
          rw [xfix_unf, sX10_measure_33]
          simp (disch := omega) only [xk_none, xk_inl, xk_inr, xk_ite, xri_v, xrl_v, xrv_v, xb_z0, xb_z1, xb_b2, if_true, if_false, ite_true, ite_false, iZ_lit, iZ_m1, iZ_m99, iZ_m8, iZ_add, iZ_sub, iZ_mul, iZ_neg, nz0, nzi, iZ_lt, iZ_le, iZ_inj, b2_z, b2_o, ite_bPz, ite_bPo, xb_bP, iZ_xin, if_pos, ite_self, ↓reduceIte, Int.reduceAdd, Int.reduceSub, Int.reduceMul, Int.reduceNeg, Int.reduceLT, Int.reduceLE, if_neg, nS, iZ_clampN, iZ_bit, iZ_one, iZ_and, iZ_or, iZ_ndn, bP_t hv, s1]
        · rw [k2 c hc]
          constructor
          · exact fun z => z.imp id fun ⟨w, w1, w2⟩ => ⟨w, by omega, w2⟩
          · refine fun z => z.imp id fun ⟨w, w1, w2, w3⟩ => ⟨w, ?_, w2, w3⟩
            by_cases e : w = i
            · exact absurd (e ▸ w2) y
            · omega) (a := 0) (M := M) (by omega) ⟨xSame.rf, fun c hc => ⟨.inl, fun z => z.elim id fun ⟨w, w1, _⟩ => by omega⟩⟩
    refine ⟨M2, b1.trans ?_, b2, fun c hc => ?_⟩
    · have e6 : ((6 : Nat) : Int) = 6 := rfl
      have eP : ((p + 1 : Nat) : Int) = (p : Int) + 1 := rfl
      rw [eP]
      rw [xfix_unf, sX10_measure_33]
      simp (disch := omega) only [xk_none, xk_inl, xk_inr, xk_ite, xri_v, xrl_v, xrv_v, xb_z0, xb_z1, xb_b2, if_true, if_false, ite_true, ite_false, iZ_lit, iZ_m1, iZ_m99, iZ_m8, iZ_add, iZ_sub, iZ_mul, iZ_neg, nz0, nzi, iZ_lt, iZ_le, iZ_inj, b2_z, b2_o, ite_bPz, ite_bPo, xb_bP, iZ_xin, if_pos, ite_self, ↓reduceIte, Int.reduceAdd, Int.reduceSub, Int.reduceMul, Int.reduceNeg, Int.reduceLT, Int.reduceLE, if_neg, e6]
    · rw [b3 c hc]
      exact ⟨fun z => z.imp id fun q => ⟨hv, q⟩, fun z => z.imp id fun q => q.2⟩
  · refine ⟨M, ?_, xSame.rf, fun c hc => ⟨.inl, fun z => z.elim id fun q => absurd q.1 hv⟩⟩
    rw [nS]
    rw [xfix_unf, sX10_measure_33]
    simp (disch := omega) only [xk_none, xk_inl, xk_inr, xk_ite, xri_v, xrl_v, xrv_v, xb_z0, xb_z1, xb_b2, if_true, if_false, ite_true, ite_false, iZ_lit, iZ_m1, iZ_m99, iZ_m8, iZ_add, iZ_sub, iZ_mul, iZ_neg, nz0, nzi, iZ_lt, iZ_le, iZ_inj, b2_z, b2_o, ite_bPz, ite_bPo, xb_bP, iZ_xin, if_pos, ite_self, ↓reduceIte, Int.reduceAdd, Int.reduceSub, Int.reduceMul, Int.reduceNeg, Int.reduceLT, Int.reduceLE, if_neg, nS, iZ_clampN, iZ_bit, iZ_one, iZ_and, iZ_or, iZ_ndn, bP_f hv]
def bdR (M : xM) (v : Prop) (sw : Nat → Nat) (c p : Nat) : Prop := sB M (1 + p) c = true ∨ (v ∧ ∃ w, w < 6 ∧ (sw w).testBit p = true ∧ stB (sB M (1 + p)) w c = true ∧ sB M 0 c = false)
theorem x_measure {M : xM} {k P b : Nat} {v : Prop} {sw : Nat → Nat} (f0 : xI M (5, 0) 0 = iZ P) (hP : P ≤ 9) (f2 : xI M (5, 0) 2 = iZ b) (hb : b < 512) (h0 : xL M (50, k) 0 = 0) (hsw : ∀ w, w < 6 → xI M (38, 0) w = iZ (sw w) ∧ sw w < 512) : ∃ M', fX10_measure [.inr (.inr (10, k)), .inl (bP (v))] M = some (none, M') ∧ xSame (wyF k) M M' ∧ cOw M' k P (bdR M v sw) ∧ cWy M' k P (cmb P b (ownR P (bdR M v sw))) ∧ xL M' (50, k) 0 = 0 := by
  obtain ⟨M2, b1, b2, b3⟩ := xfor_M (sg := gX10_measure) (st := fun i M => (2, [some (.inr (.inr (10, k))), some (.inl (bP (v))), some (.inl (iZ (i))), none], [], M)) (I := fun n K => xSame (fun r => r.1 = 44 ∧ 11 * k + 21 ≤ r.2 ∧ r.2 ≤ 11 * k + 31) M K ∧ ∀ p, p < n → ∀ c, c < 512 → (sB K (11 * k + 21 + p) c = true ↔ bdR M v sw c p)) (n := P) (fun i K hi hK => by
    obtain ⟨k1, k2⟩ := hK
    obtain ⟨K1, c1, c2, c3⟩ := x_copy (M := K) (k := 11 * k + 21 + i) (j := 10 * 0 + 1 + i) (by omega)
    have g0 : xI K (5, 0) 0 = iZ P := by rw [(k1 (5, 0) (by simp)).1]; exact f0
    have kc : xSame (fun r => r.1 = 44 ∧ 11 * k + 21 ≤ r.2 ∧ r.2 ≤ 11 * k + 31) M K1 := k1.tr (c2.wk fun r z => by subst z; simp; omega)
    have hs1 : ∀ w, w < 6 → xI K1 (38, 0) w = iZ (sw w) ∧ sw w < 512 := fun w hw => by rw [(kc (38, 0) (by simp)).1]; exact hsw w hw
    obtain ⟨K2, d1, d2, d3⟩ := x_mea_in (M := K1) (k := k) (p := i) (v := v) (by omega) hs1
    have kd : xSame (fun r => r.1 = 44 ∧ 11 * k + 21 ≤ r.2 ∧ r.2 ≤ 11 * k + 31) M K2 := kc.tr (d2.wk fun r z => by rcases z with z | z <;> subst z <;> simp <;> omega)
    refine ⟨K2, ?_, kd, fun p hp c hc => ?_⟩
    · refine Eq.trans ?_ d1
      rw [xfix_unf, sX10_measure_2]
      simp (disch := omega) only [xk_none, xk_inl, xk_inr, xk_ite, xri_v, xrl_v, xrv_v, xb_z0, xb_z1, xb_b2, if_true, if_false, ite_true, ite_false, iZ_lit, iZ_m1, iZ_m99, iZ_m8, iZ_add, iZ_sub, iZ_mul, iZ_neg, nz0, nzi, iZ_lt, iZ_le, iZ_inj, b2_z, b2_o, ite_bPz, ite_bPo, xb_bP, iZ_xin, if_pos, ite_self, ↓reduceIte, Int.reduceAdd, Int.reduceSub, Int.reduceMul, Int.reduceNeg, Int.reduceLT, Int.reduceLE, if_neg, nS, iZ_clampN, iZ_bit, iZ_one, iZ_and, iZ_or, iZ_ndn, g0, c1]
      rfl
    · by_cases e : p = i
      · subst e
        have eF : sB K1 (1 + p) = sB M (1 + p) := funext fun c => sB_same kc (by first | (simp; omega) | simp) c
        rw [d3 c hc, c3 c hc, sB_same k1 (k := 10 * 0 + 1 + p) (by first | (simp; omega) | simp) c, eF, sB_same kc (k := 0) (by first | (simp; omega) | simp) c, show 10 * 0 + 1 + p = 1 + p by omega]
        exact Iff.rfl
      · rw [sB_same d2 (by first | (simp; omega) | simp) c, sB_same c2 (by first | (simp; omega) | simp) c]
        exact k2 p (by omega) c hc) (a := 0) (M := M) (by omega) ⟨xSame.rf, fun p hp => by omega⟩
  have w2 : xSame (wyF k) M M2 := b2.wk fun r z => .inr (.inr z)
  obtain ⟨M3, d1, d2, d3, d4, d5⟩ := xfor_M (sg := gX10_measure) (st := fun i M => (75, [some (.inr (.inr (10, k))), none, some (.inl (iZ (i))), none], [], M)) (I := fun n K => xSame (wyF k) M K ∧ xL K (50, k) 0 = 0 ∧ (∀ p, p < P → ∀ c, c < 512 → (sB K (11 * k + 21 + p) c = true ↔ bdR M v sw c p)) ∧ ∀ p, p < n → ∀ w, w < 6 → ∀ q, q < 9 → (lB (xL K (51, k) p) (9 * w + q) = true ↔ (ownR P (bdR M v sw) (6 * p + w)).testBit q = true)) (n := P) (fun i K hi hK => by
    obtain ⟨k1, k2, k3, k4⟩ := hK
    have g0 : xI K (5, 0) 0 = iZ P := by rw [(k1 (5, 0) (by simp)).1]; exact f0
    obtain ⟨K1, c1, c2⟩ := x_barrersOf (M := K) (k := k) g0 hP hi
    refine ⟨xpL K1 (51, k) i (bAll (hitB K k i) P 6), ?_, (k1.tr (c2.wk fun r z => by rcases z with z | z <;> subst z <;> exact .inr (.inr ⟨rfl, by dsimp only; omega, by dsimp only; omega⟩))).pL (.inr (.inl rfl)), ?_, fun p hp c hc => ?_, fun p hp w hw q hq => ?_⟩
    · rw [nS]
      rw [xfix_unf, sX10_measure_75]
      simp (disch := omega) only [xk_none, xk_inl, xk_inr, xk_ite, xri_v, xrl_v, xrv_v, xb_z0, xb_z1, xb_b2, if_true, if_false, ite_true, ite_false, iZ_lit, iZ_m1, iZ_m99, iZ_m8, iZ_add, iZ_sub, iZ_mul, iZ_neg, nz0, nzi, iZ_lt, iZ_le, iZ_inj, b2_z, b2_o, ite_bPz, ite_bPo, xb_bP, iZ_xin, if_pos, ite_self, ↓reduceIte, Int.reduceAdd, Int.reduceSub, Int.reduceMul, Int.reduceNeg, Int.reduceLT, Int.reduceLE, if_neg, nS, iZ_clampN, iZ_bit, iZ_one, iZ_and, iZ_or, iZ_ndn, g0, c1]
    · rw [xL_pL, if_neg (by simp), (c2 (50, k) (by simp)).2]; exact k2
    · show lB (xL (xpL K1 (51, k) i _) (44, 11 * k + 21 + p) (c / 64)) (c % 64) = true ↔ _
      rw [xL_pL, if_neg (by simp)]
      show sB K1 (11 * k + 21 + p) c = true ↔ _
      rw [sB_same c2 (by first | (simp; omega) | simp) c]
      exact k3 p hp c hc
    · rw [xL_pL]
      by_cases e : p = i
      · subst e
        rw [if_pos ⟨rfl, rfl⟩, bAll_b _ hP 6 _ (by omega) (by omega), ownR_b hw hP]
        constructor
        · rintro ⟨w', w1, q', q1, h1, e1⟩
          have ew : w' = w := by omega
          have eq : q' = q := by omega
          subst ew; subst eq
          exact ⟨q1, (hit_g hw (k3 p hi) (k3 _ q1)).mp h1⟩
        · rintro ⟨q1, h1⟩
          exact ⟨w, hw, q, q1, (hit_g hw (k3 p hi) (k3 q q1)).mpr h1, rfl⟩
      · rw [if_neg (fun z => e z.2), (c2 (51, k) (by simp)).2]
        exact k4 p (by omega) w hw q hq) (a := 0) (M := M2) (by omega) ⟨w2, by rw [(b2 (50, k) (by simp)).2]; exact h0, b3, fun p hp => by omega⟩
  have g0 : xI M3 (5, 0) 0 = iZ P := by rw [(d2 (5, 0) (by simp)).1]; exact f0
  have g2 : xI M3 (5, 0) 2 = iZ b := by rw [(d2 (5, 0) (by simp)).1]; exact f2
  obtain ⟨M4, e1, e2, e3, e4⟩ := x_combine (M := M3) (k := k) g0 hP g2 hb d3 d5
  refine ⟨M4, ?_, d2.tr (e2.wk fun r z => .inl z), fun p hp w hw q hq => ?_, e3, e4⟩
  · have t2 : xfix gX10_measure (2, [some (.inr (.inr (10, k))), some (.inl (bP (v))), some (.inl (iZ (P))), none], [], M2) = xfix gX10_measure (75, [some (.inr (.inr (10, k))), none, some (.inl (iZ (((0 : Nat))))), none], [], M2) := by
      have g0' : xI M2 (5, 0) 0 = iZ P := by rw [(w2 (5, 0) (by simp)).1]; exact f0
      rw [xfix_unf, sX10_measure_2]
      simp (disch := omega) only [xk_none, xk_inl, xk_inr, xk_ite, xri_v, xrl_v, xrv_v, xb_z0, xb_z1, xb_b2, if_true, if_false, ite_true, ite_false, iZ_lit, iZ_m1, iZ_m99, iZ_m8, iZ_add, iZ_sub, iZ_mul, iZ_neg, nz0, nzi, iZ_lt, iZ_le, iZ_inj, b2_z, b2_o, ite_bPz, ite_bPo, xb_bP, iZ_xin, if_pos, ite_self, ↓reduceIte, Int.reduceAdd, Int.reduceSub, Int.reduceMul, Int.reduceNeg, Int.reduceLT, Int.reduceLE, if_neg, nS, iZ_clampN, iZ_bit, iZ_one, iZ_and, iZ_or, iZ_ndn, g0']
      rfl
    show xfix gX10_measure (0, [some (.inr (.inr (10, k))), some (.inl (bP (v))), none, none], [], M) = _; rw [xfix_unf, sX10_measure_0]
    simp (disch := omega) only [xk_none, xk_inl, xk_inr, xk_ite, xri_v, xrl_v, xrv_v, xb_z0, xb_z1, xb_b2, if_true, if_false, ite_true, ite_false, iZ_lit, iZ_m1, iZ_m99, iZ_m8, iZ_add, iZ_sub, iZ_mul, iZ_neg, nz0, nzi, iZ_lt, iZ_le, iZ_inj, b2_z, b2_o, ite_bPz, ite_bPo, xb_bP, iZ_xin, if_pos, ite_self, ↓reduceIte, Int.reduceAdd, Int.reduceSub, Int.reduceMul, Int.reduceNeg, Int.reduceLT, Int.reduceLE, if_neg]
    refine Eq.trans b1 (t2.trans (d1.trans ?_))
    rw [xfix_unf, sX10_measure_75]
    simp (disch := omega) only [xk_none, xk_inl, xk_inr, xk_ite, xri_v, xrl_v, xrv_v, xb_z0, xb_z1, xb_b2, if_true, if_false, ite_true, ite_false, iZ_lit, iZ_m1, iZ_m99, iZ_m8, iZ_add, iZ_sub, iZ_mul, iZ_neg, nz0, nzi, iZ_lt, iZ_le, iZ_inj, b2_z, b2_o, ite_bPz, ite_bPo, xb_bP, iZ_xin, if_pos, ite_self, ↓reduceIte, Int.reduceAdd, Int.reduceSub, Int.reduceMul, Int.reduceNeg, Int.reduceLT, Int.reduceLE, if_neg, nS, iZ_clampN, iZ_bit, iZ_one, iZ_and, iZ_or, iZ_ndn, g0, e1]
  · rw [(e2 (51, k) (by simp)).2]
    exact d5 p hp w hw q hq
theorem x_wcopy {M : xM} {k j P b : Nat} {R : Nat → Nat → Prop} (hkj : k ≠ j) (f0 : xI M (5, 0) 0 = iZ P) (hP : P ≤ 9) (f2 : xI M (5, 0) 2 = iZ b) (hb : b < 512) (h0 : xL M (50, k) 0 = 0) (hO : cOw M j P R) : ∃ M', fX10_copy [.inr (.inr (10, k)), .inr (.inr (10, j))] M = some (none, M') ∧ xSame (fun r => r = (50, k) ∨ r = (51, k)) M M' ∧ cOw M' k P R ∧ cWy M' k P (cmb P b (ownR P R)) ∧ xL M' (50, k) 0 = 0 := by
  obtain ⟨M2, b1, b2, b3⟩ := xfor_M (sg := gX10_copy) (st := fun i M => (2, [some (.inr (.inr (10, k))), some (.inr (.inr (10, j))), some (.inl (iZ (i)))], [], M)) (I := fun n K => xSame (fun r => r = (51, k)) M K ∧ ∀ p, p < n → xL K (51, k) p = xL M (51, j) p) (n := P) (fun i K hi hK => by
    obtain ⟨k1, k2⟩ := hK
    have g0 : xI K (5, 0) 0 = iZ P := by rw [(k1 (5, 0) (by simp)).1]; exact f0
    refine ⟨xpL K (51, k) i (xL K (51, j) i), ?_, k1.pL rfl, fun p hp => ?_⟩
    · rw [nS]
      rw [xfix_unf, sX10_copy_2]
      simp (disch := omega) only [xk_none, xk_inl, xk_inr, xk_ite, xri_v, xrl_v, xrv_v, xb_z0, xb_z1, xb_b2, if_true, if_false, ite_true, ite_false, iZ_lit, iZ_m1, iZ_m99, iZ_m8, iZ_add, iZ_sub, iZ_mul, iZ_neg, nz0, nzi, iZ_lt, iZ_le, iZ_inj, b2_z, b2_o, ite_bPz, ite_bPo, xb_bP, iZ_xin, if_pos, ite_self, ↓reduceIte, Int.reduceAdd, Int.reduceSub, Int.reduceMul, Int.reduceNeg, Int.reduceLT, Int.reduceLE, if_neg, nS, iZ_clampN, iZ_bit, iZ_one, iZ_and, iZ_or, iZ_ndn, g0]
    · rw [xL_pL]
      by_cases e : p = i
      · subst e
        rw [if_pos ⟨rfl, rfl⟩, (k1 (51, j) (by simp; omega)).2]
      · rw [if_neg (fun z => e z.2)]
        exact k2 p (by omega)) (a := 0) (M := M) (by omega) ⟨xSame.rf, fun p hp => by omega⟩
  have g0 : xI M2 (5, 0) 0 = iZ P := by rw [(b2 (5, 0) (by simp)).1]; exact f0
  have g2 : xI M2 (5, 0) 2 = iZ b := by rw [(b2 (5, 0) (by simp)).1]; exact f2
  have o2 : cOw M2 k P R := fun p hp w hw q hq => by rw [b3 p hp]; exact hO p hp w hw q hq
  obtain ⟨M4, e1, e2, e3, e4⟩ := x_combine (M := M2) (k := k) g0 hP g2 hb (by rw [(b2 (50, k) (by simp)).2]; exact h0) o2
  refine ⟨M4, ?_, (b2.wk fun r z => .inr z).tr (e2.wk fun r z => .inl z), fun p hp w hw q hq => ?_, e3, e4⟩
  · show xfix gX10_copy (0, [some (.inr (.inr (10, k))), some (.inr (.inr (10, j))), none], [], M) = _; rw [xfix_unf, sX10_copy_0]
    simp (disch := omega) only [xk_none, xk_inl, xk_inr, xk_ite, xri_v, xrl_v, xrv_v, xb_z0, xb_z1, xb_b2, if_true, if_false, ite_true, ite_false, iZ_lit, iZ_m1, iZ_m99, iZ_m8, iZ_add, iZ_sub, iZ_mul, iZ_neg, nz0, nzi, iZ_lt, iZ_le, iZ_inj, b2_z, b2_o, ite_bPz, ite_bPo, xb_bP, iZ_xin, if_pos, ite_self, ↓reduceIte, Int.reduceAdd, Int.reduceSub, Int.reduceMul, Int.reduceNeg, Int.reduceLT, Int.reduceLE, if_neg]
    refine Eq.trans b1 ?_
    rw [xfix_unf, sX10_copy_2]
    simp (disch := omega) only [xk_none, xk_inl, xk_inr, xk_ite, xri_v, xrl_v, xrv_v, xb_z0, xb_z1, xb_b2, if_true, if_false, ite_true, ite_false, iZ_lit, iZ_m1, iZ_m99, iZ_m8, iZ_add, iZ_sub, iZ_mul, iZ_neg, nz0, nzi, iZ_lt, iZ_le, iZ_inj, b2_z, b2_o, ite_bPz, ite_bPo, xb_bP, iZ_xin, if_pos, ite_self, ↓reduceIte, Int.reduceAdd, Int.reduceSub, Int.reduceMul, Int.reduceNeg, Int.reduceLT, Int.reduceLE, if_neg, nS, iZ_clampN, iZ_bit, iZ_one, iZ_and, iZ_or, iZ_ndn, g0, e1]
  · rw [(e2 (51, k) (by simp)).2]
    exact o2 p hp w hw q hq
