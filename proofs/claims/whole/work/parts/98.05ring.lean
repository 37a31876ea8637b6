/-! the class: rings -/
/-- a counting loop that may end with an answer -/
theorem xfor_R {sg : xS → Option xX} {st : Nat → xM → xS} {I : Nat → xM → Prop} {Q : Option (Option xV × xM) → Prop} {n : Nat} (h : ∀ i M, i < n → I i M → (∃ M', xfix sg (st i M) = xfix sg (st (i + 1) M') ∧ I (i + 1) M') ∨ Q (xfix sg (st i M))) (h2 : ∀ M, I n M → Q (xfix sg (st n M))) : ∀ {a : Nat} {M : xM}, a ≤ n → I a M → Q (xfix sg (st a M)) := by
  intro a M ha
  obtain ⟨d, e⟩ : ∃ d, a + d = n := ⟨n - a, by omega⟩
  induction d generalizing a M with
  | zero => rw [Nat.add_zero] at e; subst e; exact h2 M
  | succ d ih =>
    intro hI
    rcases h a M (by omega) hI with ⟨M', h3, h4⟩ | h3
    · rw [h3]; exact ih (by omega) (by omega) h4
    · exact h3
theorem cWy.sm {P' : xR → Nat → Prop} {M M' : xM} {k P : Nat} {B : Nat → Nat} (h : cWy M k P B) (hs : xSm P' M M') (hn : ∀ j, ¬ P' (50, k) j) : cWy M' k P B := fun half hh w hw q hq => by rw [(hs (50, k) half (hn half)).2]; exact h half hh w hw q hq
theorem cWy.same {P' : xR → Prop} {M M' : xM} {k P : Nat} {B : Nat → Nat} (h : cWy M k P B) (hs : xSame P' M M') (hn : ¬ P' (50, k)) : cWy M' k P B := fun half hh w hw q hq => by rw [(hs (50, k) hn).2]; exact h half hh w hw q hq
theorem msk_or {f : Nat → Prop} {i n : Nat} (hi : i < n) : msk f n ||| 2 ^ i = msk (fun q => f q ∨ q = i) n := msk_ext (Nat.or_lt_two_pow (msk_lt f n) (Nat.pow_lt_pow_right (by omega) hi)) fun j hj => by
  rw [Nat.testBit_or, Bool.or_eq_true, msk_bit, Nat.testBit_two_pow, decide_eq_true_eq]
  exact ⟨fun z => z.imp (fun q => q.2) (fun q => q.symm), fun z => z.imp (fun q => ⟨hj, q⟩) (fun q => q.symm)⟩
theorem msk_e {f : Nat → Prop} {n : Nat} (h : ∀ i, i < n → ¬ f i) : msk f n = 0 := (msk_ext (a := 0) (Nat.two_pow_pos n) fun i hi => by rw [Nat.zero_testBit]; exact ⟨fun z => Bool.noConfusion z, fun z => absurd z (h i hi)⟩).symm
theorem bwy_one {A : dA} {q w y : Nat} (hq : q < aP A) (hw : w < 6) : (bwy (aP A) (barS A) (2 ^ q) w).testBit y = true ↔ bw A w q y := by
  unfold bwy
  rw [msk_bit]
  constructor
  · rintro ⟨_, p, p1, p2, p3⟩
    rw [Nat.testBit_two_pow, decide_eq_true_eq] at p2
    rw [p2]; exact p3
  · exact fun h => ⟨bw_lt h, q, hq, by rw [Nat.testBit_two_pow, decide_eq_true_eq], h⟩
theorem ring_and {A : dA} {heap w p j q : Nat} (hq : q < aP A) (hw : w < 6) : bwy (aP A) (barS A) (2 ^ q) w &&& msk (rcW A heap w p j) 9 ≠ 0 ↔ ∃ y, bw A w q y ∧ rcW A heap w p j y := by
  rw [and_nz]
  constructor
  · rintro ⟨i, h1, h2⟩
    exact ⟨i, (bwy_one hq hw).mp h1, ((msk_bit _ 9 i).mp h2).2⟩
  · rintro ⟨i, h1, h2⟩
    exact ⟨i, (bwy_one hq hw).mpr h1, (msk_bit _ 9 i).mpr ⟨bw_lt h1, h2⟩⟩
theorem cr_in {M : xM} {A : dA} {k heap w p m L : Nat} (hA : aOk A) (f0 : xI M (5, 0) 0 = iZ (aP A)) (hW : cWy M k (aP A) (barS A)) (hh : heap < 2 ^ aP A) (hw : w < 6) (hp : p < aP A) (h1 : 1 ≤ m) (hm : m ≤ 9) (r1 : xI M (52, k) (m - 1) = iZ ((msk (rcW A heap w p (m - 1)) 9 : Nat) : Int)) (r2 : xI M (52, k) m = iZ 0) : ∃ M', xfix gX10_closesRing (41, [some (.inr (.inr (10, k))), none, some (.inl (iZ (w))), some (.inl (iZ (p))), some (.inl (iZ (L))), some (.inl (iZ ((ndn heap (2 ^ p - 1))))), some (.inl (iZ (m))), some (.inl (iZ (p)))], [], M) = xfix gX10_closesRing (41, [some (.inr (.inr (10, k))), none, some (.inl (iZ (w))), some (.inl (iZ (p))), some (.inl (iZ (L))), some (.inl (iZ ((ndn heap (2 ^ p - 1))))), some (.inl (iZ (m))), some (.inl (iZ ((aP A))))], [], M') ∧ xSm (fun r j => r = (52, k) ∧ j = m) M M' ∧ xI M' (52, k) m = iZ ((msk (rcW A heap w p m) 9 : Nat) : Int) := by
  have hP := hA.P
  have h512 := Nat.lt_of_lt_of_le hh (pow9 hP).2
  have rcS : ∀ q, rcW A heap w p m q ↔ (heap.testBit q = true ∧ p ≤ q) ∧ ∃ y, bw A w q y ∧ rcW A heap w p (m - 1) y := fun q => by
    obtain ⟨j, hj⟩ : ∃ j, m = j + 1 := ⟨m - 1, by omega⟩
    subst hj
    exact Iff.rfl
  obtain ⟨M2, b1, b2, b3⟩ := xfor_M (sg := gX10_closesRing) (st := fun i M => (41, [some (.inr (.inr (10, k))), none, some (.inl (iZ (w))), some (.inl (iZ (p))), some (.inl (iZ (L))), some (.inl (iZ ((ndn heap (2 ^ p - 1))))), some (.inl (iZ (m))), some (.inl (iZ (i)))], [], M)) (I := fun n K => xSm (fun r j => r = (52, k) ∧ j = m) M K ∧ xI K (52, k) m = iZ ((msk (fun q => q < n ∧ rcW A heap w p m q) 9 : Nat) : Int)) (n := aP A) (fun i K hi hK => by
    obtain ⟨k1, k2⟩ := hK
    have g0 : xI K (5, 0) 0 = iZ (aP A) := by rw [(k1 (5, 0) 0 (by simp)).1]; exact f0
    have g1 : xI K (52, k) (m - 1) = iZ ((msk (rcW A heap w p (m - 1)) 9 : Nat) : Int) := by rw [(k1 (52, k) (m - 1) (by simp; omega)).1]; exact r1
    have hB := x_barring (hW.sm k1 (by simp)) hP (half := 2 ^ i) (Nat.pow_lt_pow_right (by omega) hi) hw
    have hz := ring_and (A := A) (heap := heap) (p := p) (j := m - 1) hi hw
    have al : (ndn heap (2 ^ p - 1)).testBit i = true ↔ heap.testBit i = true ∧ p ≤ i := by
      rw [ndn_bit, Bool.and_eq_true, Nat.testBit_two_pow_sub_one, Bool.not_eq_true', decide_eq_false_iff_not, Nat.not_lt]
    have hl := ndn_le heap (2 ^ p - 1)
    have em : (m : Int) - 1 = ((m - 1 : Nat) : Int) := by omega
    by_cases y : (ndn heap (2 ^ p - 1)).testBit i = true
    · by_cases y2 : ∃ y, bw A w i y ∧ rcW A heap w p (m - 1) y
      · refine ⟨xpI K (52, k) m (iZ ((msk (fun q => q < i + 1 ∧ rcW A heap w p m q) 9 : Nat) : Int)), ?_, k1.pI ⟨rfl, rfl⟩, by rw [xI_pI, if_pos ⟨rfl, rfl⟩]⟩
        have e2 : msk (fun q => q < i ∧ rcW A heap w p m q) 9 ||| 2 ^ i = msk (fun q => q < i + 1 ∧ rcW A heap w p m q) 9 := by
          rw [msk_or (by omega)]
          refine msk_cg fun q hq => ?_
          have hi2 := (rcS i).mpr ⟨al.mp y, y2⟩
          constructor
          · rintro (z | z)
            · exact ⟨by omega, z.2⟩
            · subst z; exact ⟨by omega, hi2⟩
          · rintro ⟨z1, z2⟩
            by_cases e : q = i
            · exact .inr e
            · exact .inl ⟨by omega, z2⟩
        have nz := hz.mpr y2
        have hzb : bwy (aP A) (barS A) (2 ^ i) w &&& msk (rcW A heap w p (m - 1)) 9 < 512 := Nat.lt_of_le_of_lt Nat.and_le_left (bwy_lt _ _ _ _)
        rw [← e2]
        generalize msk (fun q => q < i ∧ rcW A heap w p m q) 9 = b at *
        generalize msk (rcW A heap w p (m - 1)) 9 = a at *
        generalize bwy (aP A) (barS A) (2 ^ i) w = d at *
        generalize ez : d &&& a = z at *
        rw [nS]
        rw [xfix_unf, sX10_closesRing_41]
        simp (disch := omega) only [xk_none, xk_inl, xk_inr, xk_ite, xri_v, xrl_v, xrv_v, xb_z0, xb_z1, xb_b2, if_true, if_false, ite_true, ite_false, iZ_lit, iZ_m1, iZ_m99, iZ_m8, iZ_add, iZ_sub, iZ_mul, iZ_neg, nz0, nzi, iZ_lt, iZ_le, iZ_inj, b2_z, b2_o, ite_bPz, ite_bPo, xb_bP, iZ_xin, if_pos, ite_self, ↓reduceIte, Int.reduceAdd, Int.reduceSub, Int.reduceMul, Int.reduceNeg, Int.reduceLT, Int.reduceLE, if_neg, nS, iZ_clampN, iZ_bit, iZ_one, iZ_and, iZ_or, iZ_ndn, g0, g1, k2, hB, em, ez, bP_t y]
      · refine ⟨K, ?_, k1, ?_⟩
        · have nz : ¬ (bwy (aP A) (barS A) (2 ^ i) w &&& msk (rcW A heap w p (m - 1)) 9 ≠ 0) := fun z => y2 (hz.mp z)
          generalize msk (rcW A heap w p (m - 1)) 9 = a at *
          generalize bwy (aP A) (barS A) (2 ^ i) w = d at *
          generalize ez : d &&& a = z at *
          have nz2 : z = 0 := by omega
          subst nz2
          rw [nS]
          rw [xfix_unf, sX10_closesRing_41]
          simp (disch := omega) only [xk_none, xk_inl, xk_inr, xk_ite, xri_v, xrl_v, xrv_v, xb_z0, xb_z1, xb_b2, if_true, if_false, ite_true, ite_false, iZ_lit, iZ_m1, iZ_m99, iZ_m8, iZ_add, iZ_sub, iZ_mul, iZ_neg, nz0, nzi, iZ_lt, iZ_le, iZ_inj, b2_z, b2_o, ite_bPz, ite_bPo, xb_bP, iZ_xin, if_pos, ite_self, ↓reduceIte, Int.reduceAdd, Int.reduceSub, Int.reduceMul, Int.reduceNeg, Int.reduceLT, Int.reduceLE, if_neg, nS, iZ_clampN, iZ_bit, iZ_one, iZ_and, iZ_or, iZ_ndn, g0, g1, k2, hB, em, ez, bP_t y]
        · rw [k2]
          congr 2
          refine msk_cg fun q hq => ⟨fun z => ⟨by omega, z.2⟩, fun z => ⟨?_, z.2⟩⟩
          by_cases e : q = i
          · subst e; exact absurd ((rcS q).mp z.2).2 y2
          · omega
    · refine ⟨K, ?_, k1, ?_⟩
      · rw [nS]
        rw [xfix_unf, sX10_closesRing_41]
        simp (disch := omega) only [xk_none, xk_inl, xk_inr, xk_ite, xri_v, xrl_v, xrv_v, xb_z0, xb_z1, xb_b2, if_true, if_false, ite_true, ite_false, iZ_lit, iZ_m1, iZ_m99, iZ_m8, iZ_add, iZ_sub, iZ_mul, iZ_neg, nz0, nzi, iZ_lt, iZ_le, iZ_inj, b2_z, b2_o, ite_bPz, ite_bPo, xb_bP, iZ_xin, if_pos, ite_self, ↓reduceIte, Int.reduceAdd, Int.reduceSub, Int.reduceMul, Int.reduceNeg, Int.reduceLT, Int.reduceLE, if_neg, nS, iZ_clampN, iZ_bit, iZ_one, iZ_and, iZ_or, iZ_ndn, g0, bP_f y]
      · rw [k2]
        congr 2
        refine msk_cg fun q hq => ⟨fun z => ⟨by omega, z.2⟩, fun z => ⟨?_, z.2⟩⟩
        by_cases e : q = i
        · subst e; exact absurd (al.mpr ((rcS q).mp z.2).1) y
        · omega) (a := p) (M := M) (by omega) ⟨xSm.rf, by
      rw [r2, msk_e (fun q _ z => by have := ((rcS q).mp z.2).1.2; omega)]
      rfl⟩
  refine ⟨M2, b1, b2, ?_⟩
  rw [b3]
  congr 2
  refine msk_cg fun q hq => ⟨fun z => z.2, fun z => ⟨?_, z⟩⟩
  exact bit_lt hh ((rcS q).mp z).1.1
theorem x_closesRing {M : xM} {A : dA} {k heap w p L : Nat} (hA : aOk A) (f0 : xI M (5, 0) 0 = iZ (aP A)) (hW : cWy M k (aP A) (barS A)) (hh : heap < 2 ^ aP A) (hw : w < 6) (hp : p < aP A) (hL : L ≤ 9) : ∃ M', fX10_closesRing [.inr (.inr (10, k)), .inl (iZ (heap)), .inl (iZ (w)), .inl (iZ (p)), .inl (iZ (L))] M = some (some (.inl (bP (rcW A heap w p L p))), M') ∧ xSame (fun r => r = (52, k)) M M' ∧ ∀ j, j ≤ L → xI M' (52, k) j = iZ ((msk (rcW A heap w p j) 9 : Nat) : Int) := by
  have hP := hA.P
  have h512 := Nat.lt_of_lt_of_le hh (pow9 hP).2
  have e0 : msk (rcW A heap w p 0) 9 = 2 ^ p := (msk_ext (Nat.pow_lt_pow_right (by omega) (by omega)) fun i hi => by
    rw [Nat.testBit_two_pow, decide_eq_true_eq]
    exact ⟨fun z => z.symm, fun z => Eq.symm z⟩).symm
  obtain ⟨M2, b1, b2, b3⟩ := xfor_M (sg := gX10_closesRing) (st := fun i M => (23, [some (.inr (.inr (10, k))), none, some (.inl (iZ (w))), some (.inl (iZ (p))), some (.inl (iZ (L))), some (.inl (iZ ((ndn heap (2 ^ p - 1))))), some (.inl (iZ (((i + 1 : Nat))))), none], [], M)) (I := fun n K => xSame (fun r => r = (52, k)) M K ∧ ∀ j, j ≤ n → xI K (52, k) j = iZ ((msk (rcW A heap w p j) 9 : Nat) : Int)) (n := L) (fun i K hi hK => by
    obtain ⟨k1, k2⟩ := hK
    have kq : xSm (fun r _ => r = (52, k)) M (xpI K (52, k) (i + 1) (iZ 0)) := k1.sm.pI rfl
    have g0 : xI (xpI K (52, k) (i + 1) (iZ 0)) (5, 0) 0 = iZ (aP A) := by rw [(kq (5, 0) 0 (by simp)).1]; exact f0
    obtain ⟨K1, c1, c2, c3⟩ := cr_in (M := xpI K (52, k) (i + 1) (iZ 0)) (k := k) (m := i + 1) (L := L) hA g0 (hW.sm kq (by simp)) hh hw hp (by omega) (by omega) (by
      rw [xI_pI, if_neg (by simp), Nat.add_sub_cancel]; exact k2 i (by omega)) (by rw [xI_pI, if_pos ⟨rfl, rfl⟩])
    refine ⟨K1, ?_, (k1.pI rfl).tr (c2.S fun r j z => z.1), fun j hj => ?_⟩
    · have t1 : xfix gX10_closesRing (23, [some (.inr (.inr (10, k))), none, some (.inl (iZ (w))), some (.inl (iZ (p))), some (.inl (iZ (L))), some (.inl (iZ ((ndn heap (2 ^ p - 1))))), some (.inl (iZ (((i + 1 : Nat))))), none], [], K) = xfix gX10_closesRing (41, [some (.inr (.inr (10, k))), none, some (.inl (iZ (w))), some (.inl (iZ (p))), some (.inl (iZ (L))), some (.inl (iZ ((ndn heap (2 ^ p - 1))))), some (.inl (iZ (((i + 1 : Nat))))), some (.inl (iZ (p)))], [], xpI K (52, k) (i + 1) (iZ 0)) := by
        have hm : i + 1 ≤ L := hi
        generalize i + 1 = m at *
        rw [xfix_unf, sX10_closesRing_23]
        simp (disch := omega) only [xk_none, xk_inl, xk_inr, xk_ite, xri_v, xrl_v, xrv_v, xb_z0, xb_z1, xb_b2, if_true, if_false, ite_true, ite_false, iZ_lit, iZ_m1, iZ_m99, iZ_m8, iZ_add, iZ_sub, iZ_mul, iZ_neg, nz0, nzi, iZ_lt, iZ_le, iZ_inj, b2_z, b2_o, ite_bPz, ite_bPo, xb_bP, iZ_xin, if_pos, ite_self, ↓reduceIte, Int.reduceAdd, Int.reduceSub, Int.reduceMul, Int.reduceNeg, Int.reduceLT, Int.reduceLE, if_neg, nS, iZ_clampN, iZ_bit, iZ_one, iZ_and, iZ_or, iZ_ndn]
      refine (t1.trans c1).trans ?_
      have g1 : xI K1 (5, 0) 0 = iZ (aP A) := by rw [(c2 (5, 0) 0 (by simp)).1]; exact g0
      rw [xfix_unf, sX10_closesRing_41]
      simp (disch := omega) only [xk_none, xk_inl, xk_inr, xk_ite, xri_v, xrl_v, xrv_v, xb_z0, xb_z1, xb_b2, if_true, if_false, ite_true, ite_false, iZ_lit, iZ_m1, iZ_m99, iZ_m8, iZ_add, iZ_sub, iZ_mul, iZ_neg, nz0, nzi, iZ_lt, iZ_le, iZ_inj, b2_z, b2_o, ite_bPz, ite_bPo, xb_bP, iZ_xin, if_pos, ite_self, ↓reduceIte, Int.reduceAdd, Int.reduceSub, Int.reduceMul, Int.reduceNeg, Int.reduceLT, Int.reduceLE, if_neg, nS, iZ_clampN, iZ_bit, iZ_one, iZ_and, iZ_or, iZ_ndn, g1]
    · by_cases e : j = i + 1
      · rw [e]; exact c3
      · rw [(c2 (52, k) j (by simp; omega)).1, xI_pI, if_neg (by simp; omega)]
        exact k2 j (by omega)) (a := 0) (M := xpI M (52, k) 0 (iZ ((2 ^ p : Nat) : Int))) (by omega) ⟨xSame.rf.pI rfl, fun j hj => by
      rw [show j = 0 by omega, xI_pI, if_pos ⟨rfl, rfl⟩, e0]⟩
  refine ⟨M2, ?_, b2, b3⟩
  have hb := b3 L (Nat.le_refl _)
  have hm : (msk (rcW A heap w p L) 9).testBit p = true ↔ rcW A heap w p L p := by rw [msk_bit]; exact ⟨fun z => z.2, fun z => ⟨by omega, z⟩⟩
  have hl : msk (rcW A heap w p L) 9 < 512 := msk_lt _ 9
  have hp2 : (2 : Nat) ^ p ≤ 512 := Nat.pow_le_pow_right (by omega) (show p ≤ 9 by omega)
  have hp1 := Nat.two_pow_pos p
  have ep : ((2 ^ p : Nat) : Int) - 1 = ((2 ^ p - 1 : Nat) : Int) := by omega
  have t0 : fX10_closesRing [.inr (.inr (10, k)), .inl (iZ (heap)), .inl (iZ (w)), .inl (iZ (p)), .inl (iZ (L))] M = xfix gX10_closesRing (23, [some (.inr (.inr (10, k))), none, some (.inl (iZ (w))), some (.inl (iZ (p))), some (.inl (iZ (L))), some (.inl (iZ ((ndn heap (2 ^ p - 1))))), some (.inl (iZ (((0 + 1 : Nat))))), none], [], xpI M (52, k) 0 (iZ ((2 ^ p : Nat) : Int))) := by
    show xfix gX10_closesRing (0, [some (.inr (.inr (10, k))), some (.inl (iZ (heap))), some (.inl (iZ (w))), some (.inl (iZ (p))), some (.inl (iZ (L))), none, none, none], [], M) = _; rw [xfix_unf, sX10_closesRing_0]
    have c0 : (iZ 0).toNatClampNeg = 0 := rfl
    simp (disch := omega) only [xk_none, xk_inl, xk_inr, xk_ite, xri_v, xrl_v, xrv_v, xb_z0, xb_z1, xb_b2, if_true, if_false, ite_true, ite_false, iZ_lit, iZ_m1, iZ_m99, iZ_m8, iZ_add, iZ_sub, iZ_mul, iZ_neg, nz0, nzi, iZ_lt, iZ_le, iZ_inj, b2_z, b2_o, ite_bPz, ite_bPo, xb_bP, iZ_xin, if_pos, ite_self, ↓reduceIte, Int.reduceAdd, Int.reduceSub, Int.reduceMul, Int.reduceNeg, Int.reduceLT, Int.reduceLE, if_neg, nS, iZ_clampN, iZ_bit, iZ_one, iZ_and, iZ_or, iZ_ndn, ep, c0]
    rfl
  refine t0.trans (b1.trans ?_)
  rw [← bP_c hm]
  generalize msk (rcW A heap w p L) 9 = m at *
  rw [xfix_unf, sX10_closesRing_23]
  by_cases y : m.testBit p = true
  · simp (disch := omega) only [xk_none, xk_inl, xk_inr, xk_ite, xri_v, xrl_v, xrv_v, xb_z0, xb_z1, xb_b2, if_true, if_false, ite_true, ite_false, iZ_lit, iZ_m1, iZ_m99, iZ_m8, iZ_add, iZ_sub, iZ_mul, iZ_neg, nz0, nzi, iZ_lt, iZ_le, iZ_inj, b2_z, b2_o, ite_bPz, ite_bPo, xb_bP, iZ_xin, if_pos, ite_self, ↓reduceIte, Int.reduceAdd, Int.reduceSub, Int.reduceMul, Int.reduceNeg, Int.reduceLT, Int.reduceLE, if_neg, nS, iZ_clampN, iZ_bit, iZ_one, iZ_and, iZ_or, iZ_ndn, hb, bP_t y]
  · simp (disch := omega) only [xk_none, xk_inl, xk_inr, xk_ite, xri_v, xrl_v, xrv_v, xb_z0, xb_z1, xb_b2, if_true, if_false, ite_true, ite_false, iZ_lit, iZ_m1, iZ_m99, iZ_m8, iZ_add, iZ_sub, iZ_mul, iZ_neg, nz0, nzi, iZ_lt, iZ_le, iZ_inj, b2_z, b2_o, ite_bPz, ite_bPo, xb_bP, iZ_xin, if_pos, ite_self, ↓reduceIte, Int.reduceAdd, Int.reduceSub, Int.reduceMul, Int.reduceNeg, Int.reduceLT, Int.reduceLE, if_neg, nS, iZ_clampN, iZ_bit, iZ_one, iZ_and, iZ_or, iZ_ndn, hb, bP_f y]
theorem rc_next {A : dA} {heap w p j x : Nat} (h : rcW A heap w p (j + 1) x) : gnx A heap w p j x < 9 ∧ rcW A heap w p j (gnx A heap w p j x) := by
  obtain ⟨_, q, h1, h2⟩ := h
  have hl : gnx A heap w p j x < 9 := by
    refine Classical.byContradiction fun z => ?_
    have hq := bw_lt h1
    exact lst_no (fun q => bw A w x q ∧ rcW A heap w p j q) 9 q (by unfold gnx at z; omega) ⟨h1, h2⟩
  exact ⟨hl, (lst_is (fun q => bw A w x q ∧ rcW A heap w p j q) 9 hl).2⟩
theorem gct_ok {A : dA} {heap w p L : Nat} (h : rcW A heap w p L p) : ∀ j, j ≤ L → rcW A heap w p (L - j) (gct A heap w p L 1 p j)
  | 0, _ => h
  | j + 1, hj => by
    have ih := gct_ok h j (by omega)
    show rcW A heap w p (L - (j + 1)) (gnx A heap w p (L - (1 + j)) (gct A heap w p L 1 p j))
    rw [show L - j = L - (1 + j) + 1 by omega] at ih
    have := (rc_next ih).2
    rwa [show L - (j + 1) = L - (1 + j) by omega]
theorem x_partOfRing {M : xM} {A : dA} {k heap w p L m : Nat} (hA : aOk A) (hW : cWy M k (aP A) (barS A)) (hh : heap < 2 ^ aP A) (hw : w < 6) (hp : p < aP A) (hL : L ≤ 9) (hm : m < 10) (hr : rcW A heap w p L p) (hR : ∀ j, j ≤ L → xI M (52, k) j = iZ ((msk (rcW A heap w p j) 9 : Nat) : Int)) : fX10_partOfRing [.inr (.inr (10, k)), .inl (iZ (w)), .inl (iZ (p)), .inl (iZ (L)), .inl (iZ (m))] M = some (some (.inl (iZ (if m < L then (gct A heap w p L 1 p m : Int) else -1))), M) := by
  have hP := hA.P
  by_cases e : m < L
  · rw [if_pos e]
    have lp := xfor_F (sg := gX10_partOfRing) (fun i => (14, [some (.inr (.inr (10, k))), some (.inl (iZ (w))), none, some (.inl (iZ (L))), some (.inl (iZ (m))), some (.inl (iZ ((gct A heap w p L 1 p i)))), some (.inl (iZ (((i + 1 : Nat)))))], [], M)) (a := 0) (n := m) (by omega) (fun i _ hi => by
      have hr2 := gct_ok hr i (by omega)
      rw [show L - i = L - (1 + i) + 1 by omega] at hr2
      have hx : gct A heap w p L 1 p i < aP A := bit_lt hh hr2.1.1
      have hn := rc_next hr2
      have eS : gct A heap w p L 1 p (i + 1) = gnx A heap w p (L - (1 + i)) (gct A heap w p L 1 p i) := rfl
      rw [eS]
      generalize gct A heap w p L 1 p i = x at *
      have hB := x_barring hW hP (half := 2 ^ x) (Nat.pow_lt_pow_right (by omega) hx) hw
      have r1 := hR (L - (1 + i)) (by omega)
      have ba : bwy (aP A) (barS A) (2 ^ x) w &&& msk (rcW A heap w p (L - (1 + i))) 9 < 512 := Nat.lt_of_le_of_lt Nat.and_le_left (bwy_lt _ _ _ _)
      have hl : jLw (bwy (aP A) (barS A) (2 ^ x) w &&& msk (rcW A heap w p (L - (1 + i))) 9) 9 = gnx A heap w p (L - (1 + i)) x := lst_cg fun q hq => by
        rw [Nat.testBit_and, Bool.and_eq_true, bwy_one hx hw, msk_bit]
        exact ⟨fun z => ⟨z.1, z.2.2⟩, fun z => ⟨z.1, hq, z.2⟩⟩
      have hO := x_leastOf (M := M) (b := bwy (aP A) (barS A) (2 ^ x) w &&& msk (rcW A heap w p (L - (1 + i))) 9) (by omega)
      rw [hl, if_pos hn.1] at hO
      generalize gnx A heap w p (L - (1 + i)) x = y at *
      have en : ((i + 1 + 1 : Nat) : Int) = ((i + 1 : Nat) : Int) + 1 := rfl
      rw [en]
      have e1 : ((L : Int) - ((i + 1 : Nat) : Int)) = ((L - (1 + i) : Nat) : Int) := by omega
      have e2 : L - (1 + i) < 10 := by omega
      have e3 : i + 1 ≤ m := hi
      generalize L - (1 + i) = u at *
      generalize i + 1 = v at *
      generalize msk (rcW A heap w p u) 9 = d1 at *
      generalize bwy (aP A) (barS A) (2 ^ x) w = d2 at *
      rw [xfix_unf, sX10_partOfRing_14]
      simp (disch := omega) only [xk_none, xk_inl, xk_inr, xk_ite, xri_v, xrl_v, xrv_v, xb_z0, xb_z1, xb_b2, if_true, if_false, ite_true, ite_false, iZ_lit, iZ_m1, iZ_m99, iZ_m8, iZ_add, iZ_sub, iZ_mul, iZ_neg, nz0, nzi, iZ_lt, iZ_le, iZ_inj, b2_z, b2_o, ite_bPz, ite_bPo, xb_bP, iZ_xin, if_pos, ite_self, ↓reduceIte, Int.reduceAdd, Int.reduceSub, Int.reduceMul, Int.reduceNeg, Int.reduceLT, Int.reduceLE, if_neg, nS, iZ_clampN, iZ_bit, iZ_one, iZ_and, iZ_or, iZ_ndn, hB, e1, r1, hO])
    have t0 : fX10_partOfRing [.inr (.inr (10, k)), .inl (iZ (w)), .inl (iZ (p)), .inl (iZ (L)), .inl (iZ (m))] M = xfix gX10_partOfRing (14, [some (.inr (.inr (10, k))), some (.inl (iZ (w))), none, some (.inl (iZ (L))), some (.inl (iZ (m))), some (.inl (iZ ((gct A heap w p L 1 p 0)))), some (.inl (iZ (((0 + 1 : Nat)))))], [], M) := by
      show xfix gX10_partOfRing (0, [some (.inr (.inr (10, k))), some (.inl (iZ (w))), some (.inl (iZ (p))), some (.inl (iZ (L))), some (.inl (iZ (m))), none, none], [], M) = _; rw [xfix_unf, sX10_partOfRing_0]
      simp (disch := omega) only [xk_none, xk_inl, xk_inr, xk_ite, xri_v, xrl_v, xrv_v, xb_z0, xb_z1, xb_b2, if_true, if_false, ite_true, ite_false, iZ_lit, iZ_m1, iZ_m99, iZ_m8, iZ_add, iZ_sub, iZ_mul, iZ_neg, nz0, nzi, iZ_lt, iZ_le, iZ_inj, b2_z, b2_o, ite_bPz, ite_bPo, xb_bP, iZ_xin, if_pos, ite_self, ↓reduceIte, Int.reduceAdd, Int.reduceSub, Int.reduceMul, Int.reduceNeg, Int.reduceLT, Int.reduceLE, if_neg, nS, iZ_clampN, iZ_bit, iZ_one, iZ_and, iZ_or, iZ_ndn]
      rfl
    refine t0.trans (lp.trans ?_)
    rw [xfix_unf, sX10_partOfRing_14]
    simp (disch := omega) only [xk_none, xk_inl, xk_inr, xk_ite, xri_v, xrl_v, xrv_v, xb_z0, xb_z1, xb_b2, if_true, if_false, ite_true, ite_false, iZ_lit, iZ_m1, iZ_m99, iZ_m8, iZ_add, iZ_sub, iZ_mul, iZ_neg, nz0, nzi, iZ_lt, iZ_le, iZ_inj, b2_z, b2_o, ite_bPz, ite_bPo, xb_bP, iZ_xin, if_pos, ite_self, ↓reduceIte, Int.reduceAdd, Int.reduceSub, Int.reduceMul, Int.reduceNeg, Int.reduceLT, Int.reduceLE, if_neg, nS, iZ_clampN, iZ_bit, iZ_one, iZ_and, iZ_or, iZ_ndn]
  · rw [if_neg e]
    show xfix gX10_partOfRing (0, [some (.inr (.inr (10, k))), some (.inl (iZ (w))), some (.inl (iZ (p))), some (.inl (iZ (L))), some (.inl (iZ (m))), none, none], [], M) = _; rw [xfix_unf, sX10_partOfRing_0]
    simp (disch := omega) only [xk_none, xk_inl, xk_inr, xk_ite, xri_v, xrl_v, xrv_v, xb_z0, xb_z1, xb_b2, if_true, if_false, ite_true, ite_false, iZ_lit, iZ_m1, iZ_m99, iZ_m8, iZ_add, iZ_sub, iZ_mul, iZ_neg, nz0, nzi, iZ_lt, iZ_le, iZ_inj, b2_z, b2_o, ite_bPz, ite_bPo, xb_bP, iZ_xin, if_pos, ite_self, ↓reduceIte, Int.reduceAdd, Int.reduceSub, Int.reduceMul, Int.reduceNeg, Int.reduceLT, Int.reduceLE, if_neg, nS, iZ_clampN, iZ_bit, iZ_one, iZ_and, iZ_or, iZ_ndn]
noncomputable def frA (A : dA) (heap w what : Nat) : Int := if rgL A heap w < 10 ∧ what ≤ rgL A heap w then (if what = 0 then (rgL A heap w : Int) else rgK A heap w (what - 1)) else -1
theorem x_findRing {M : xM} {A : dA} {k heap w what : Nat} (hA : aOk A) (f0 : xI M (5, 0) 0 = iZ (aP A)) (hW : cWy M k (aP A) (barS A)) (hh : heap < 2 ^ aP A) (hw : w < 6) (ht : what < 10) : ∃ M', fX10_findRing [.inr (.inr (10, k)), .inl (iZ (heap)), .inl (iZ (w)), .inl (iZ (what))] M = some (some (.inl (iZ (frA A heap w what))), M') ∧ xSame (fun r => r = (52, k)) M M' := by
  have hP := hA.P
  have h512 := Nat.lt_of_lt_of_le hh (pow9 hP).2
  have h10 := rgL_10 A heap w
  have lp := xfor_R (sg := gX10_findRing) (st := fun i K => (3, [some (.inr (.inr (10, k))), some (.inl (iZ (heap))), some (.inl (iZ (w))), some (.inl (iZ (what))), some (.inl (iZ (((i + 2 : Nat))))), none], [], K)) (I := fun i K => xSame (fun r => r = (52, k)) M K ∧ i + 2 ≤ rgL A heap w) (Q := fun o => ∃ M', o = some (some (.inl (iZ (frA A heap w what))), M') ∧ xSame (fun r => r = (52, k)) M M') (n := 8) (fun i K hi hK => by
    obtain ⟨k1, k2⟩ := hK
    obtain ⟨L, eL⟩ : ∃ L, L = i + 2 := ⟨_, rfl⟩
    have en : ((i + 1 + 2 : Nat) : Int) = (L : Int) + 1 := by omega
    have lp2 := xfor_R (sg := gX10_findRing) (st := fun p K => (13, [some (.inr (.inr (10, k))), some (.inl (iZ (heap))), some (.inl (iZ (w))), some (.inl (iZ (what))), some (.inl (iZ (L))), some (.inl (iZ (p)))], [], K)) (I := fun p K => xSame (fun r => r = (52, k)) M K ∧ ∀ p', p' < p → ¬ (heap.testBit p' = true ∧ rcW A heap w p' L p')) (Q := fun o => (∃ K', o = xfix gX10_findRing (3, [some (.inr (.inr (10, k))), some (.inl (iZ (heap))), some (.inl (iZ (w))), some (.inl (iZ (what))), some (.inl (iZ (((L : Int) + 1)))), none], [], K') ∧ xSame (fun r => r = (52, k)) M K' ∧ L + 1 ≤ rgL A heap w) ∨ ∃ M', o = some (some (.inl (iZ (frA A heap w what))), M') ∧ xSame (fun r => r = (52, k)) M M') (n := aP A) (fun p K hp hK => by
      obtain ⟨q1, q2⟩ := hK
      have g0 : xI K (5, 0) 0 = iZ (aP A) := by rw [(q1 (5, 0) (by simp)).1]; exact f0
      have goOn : ¬ (heap.testBit p = true ∧ rcW A heap w p L p) → ∀ p', p' < p + 1 → ¬ (heap.testBit p' = true ∧ rcW A heap w p' L p') := fun z p' hp' => by
        by_cases e : p' = p
        · rw [e]; exact z
        · exact q2 p' (by omega)
      by_cases y : heap.testBit p = true
      · obtain ⟨K1, c1, c2, c3⟩ := x_closesRing (M := K) (k := k) hA g0 (hW.same q1 (by simp)) hh hw hp (L := L) (by omega)
        by_cases y2 : rcW A heap w p L p
        · refine .inr (.inr ⟨K1, ?_, q1.tr c2⟩)
          have eR : rgL A heap w = L := rgL_eq (by omega) (by omega) ⟨p, y, y2⟩ (by omega)
          have eP : rgP A heap w L = p := lst_eq (by omega) (fun p' hp' => q2 p' hp') (fun _ => ⟨y, y2⟩)
          have hpr := x_partOfRing (M := K1) (k := k) (L := L) (m := what - 1) hA ((hW.same q1 (by simp)).same c2 (by simp)) hh hw hp (by omega) (by omega) y2 c3
          rw [bP_t y2] at c1
          unfold frA rgK
          rw [eR, eP]
          by_cases z : what = 0
          · subst z
            rw [if_pos ⟨by omega, by omega⟩, if_pos rfl]
            have z0 : ((0 : Nat) : Int) = 0 := rfl
            rw [xfix_unf, sX10_findRing_13]
            simp (disch := omega) only [xk_none, xk_inl, xk_inr, xk_ite, xri_v, xrl_v, xrv_v, xb_z0, xb_z1, xb_b2, if_true, if_false, ite_true, ite_false, iZ_lit, iZ_m1, iZ_m99, iZ_m8, iZ_add, iZ_sub, iZ_mul, iZ_neg, nz0, nzi, iZ_lt, iZ_le, iZ_inj, b2_z, b2_o, ite_bPz, ite_bPo, xb_bP, iZ_xin, if_pos, ite_self, ↓reduceIte, Int.reduceAdd, Int.reduceSub, Int.reduceMul, Int.reduceNeg, Int.reduceLT, Int.reduceLE, if_neg, nS, iZ_clampN, iZ_bit, iZ_one, iZ_and, iZ_or, iZ_ndn, g0, bP_t y, c1]
          · rw [if_neg z]
            have e1 : (what : Int) - 1 = ((what - 1 : Nat) : Int) := by omega
            have e2 : (if what - 1 < L then (gct A heap w p L 1 p (what - 1) : Int) else -1) = if L < 10 ∧ what ≤ L then (gct A heap w p L 1 p (what - 1) : Int) else -1 := by
              by_cases z2 : what ≤ L
              · rw [if_pos (by omega), if_pos ⟨by omega, z2⟩]
              · rw [if_neg (by omega), if_neg (by omega)]
            rw [e2] at hpr
            generalize (if L < 10 ∧ what ≤ L then (gct A heap w p L 1 p (what - 1) : Int) else -1) = ans at *
            rw [xfix_unf, sX10_findRing_13]
            simp (disch := omega) only [xk_none, xk_inl, xk_inr, xk_ite, xri_v, xrl_v, xrv_v, xb_z0, xb_z1, xb_b2, if_true, if_false, ite_true, ite_false, iZ_lit, iZ_m1, iZ_m99, iZ_m8, iZ_add, iZ_sub, iZ_mul, iZ_neg, nz0, nzi, iZ_lt, iZ_le, iZ_inj, b2_z, b2_o, ite_bPz, ite_bPo, xb_bP, iZ_xin, if_pos, ite_self, ↓reduceIte, Int.reduceAdd, Int.reduceSub, Int.reduceMul, Int.reduceNeg, Int.reduceLT, Int.reduceLE, if_neg, nS, iZ_clampN, iZ_bit, iZ_one, iZ_and, iZ_or, iZ_ndn, g0, bP_t y, c1, e1, hpr]
        · refine .inl ⟨K1, ?_, q1.tr c2, goOn fun z => y2 z.2⟩
          rw [bP_f y2] at c1
          rw [nS]
          rw [xfix_unf, sX10_findRing_13]
          simp (disch := omega) only [xk_none, xk_inl, xk_inr, xk_ite, xri_v, xrl_v, xrv_v, xb_z0, xb_z1, xb_b2, if_true, if_false, ite_true, ite_false, iZ_lit, iZ_m1, iZ_m99, iZ_m8, iZ_add, iZ_sub, iZ_mul, iZ_neg, nz0, nzi, iZ_lt, iZ_le, iZ_inj, b2_z, b2_o, ite_bPz, ite_bPo, xb_bP, iZ_xin, if_pos, ite_self, ↓reduceIte, Int.reduceAdd, Int.reduceSub, Int.reduceMul, Int.reduceNeg, Int.reduceLT, Int.reduceLE, if_neg, nS, iZ_clampN, iZ_bit, iZ_one, iZ_and, iZ_or, iZ_ndn, g0, bP_t y, c1]
      · refine .inl ⟨K, ?_, q1, goOn fun z => y z.1⟩
        rw [nS]
        rw [xfix_unf, sX10_findRing_13]
        simp (disch := omega) only [xk_none, xk_inl, xk_inr, xk_ite, xri_v, xrl_v, xrv_v, xb_z0, xb_z1, xb_b2, if_true, if_false, ite_true, ite_false, iZ_lit, iZ_m1, iZ_m99, iZ_m8, iZ_add, iZ_sub, iZ_mul, iZ_neg, nz0, nzi, iZ_lt, iZ_le, iZ_inj, b2_z, b2_o, ite_bPz, ite_bPo, xb_bP, iZ_xin, if_pos, ite_self, ↓reduceIte, Int.reduceAdd, Int.reduceSub, Int.reduceMul, Int.reduceNeg, Int.reduceLT, Int.reduceLE, if_neg, nS, iZ_clampN, iZ_bit, iZ_one, iZ_and, iZ_or, iZ_ndn, g0, bP_f y]) (fun K hK => by
      obtain ⟨q1, q2⟩ := hK
      have g0 : xI K (5, 0) 0 = iZ (aP A) := by rw [(q1 (5, 0) (by simp)).1]; exact f0
      refine .inl ⟨K, ?_, q1, ?_⟩
      · rw [xfix_unf, sX10_findRing_13]
        simp (disch := omega) only [xk_none, xk_inl, xk_inr, xk_ite, xri_v, xrl_v, xrv_v, xb_z0, xb_z1, xb_b2, if_true, if_false, ite_true, ite_false, iZ_lit, iZ_m1, iZ_m99, iZ_m8, iZ_add, iZ_sub, iZ_mul, iZ_neg, nz0, nzi, iZ_lt, iZ_le, iZ_inj, b2_z, b2_o, ite_bPz, ite_bPo, xb_bP, iZ_xin, if_pos, ite_self, ↓reduceIte, Int.reduceAdd, Int.reduceSub, Int.reduceMul, Int.reduceNeg, Int.reduceLT, Int.reduceLE, if_neg, nS, iZ_clampN, iZ_bit, iZ_one, iZ_and, iZ_or, iZ_ndn, g0]
      · refine Classical.byContradiction fun z => ?_
        have eR : rgL A heap w = L := by omega
        have h1 := (rgL_is (A := A) (heap := heap) (w := w) (by omega)).2
        rw [eR] at h1
        obtain ⟨p, p1, p2⟩ := h1
        exact q2 p (bit_lt hh p1) ⟨p1, p2⟩) (a := 0) (M := K) (by omega) ⟨k1, fun p' hp' => by omega⟩
    have t1 : xfix gX10_findRing (3, [some (.inr (.inr (10, k))), some (.inl (iZ (heap))), some (.inl (iZ (w))), some (.inl (iZ (what))), some (.inl (iZ (((i + 2 : Nat))))), none], [], K) = xfix gX10_findRing (13, [some (.inr (.inr (10, k))), some (.inl (iZ (heap))), some (.inl (iZ (w))), some (.inl (iZ (what))), some (.inl (iZ (L))), some (.inl (iZ (((0 : Nat)))))], [], K) := by
      rw [← eL]
      rw [xfix_unf, sX10_findRing_3]
      simp (disch := omega) only [xk_none, xk_inl, xk_inr, xk_ite, xri_v, xrl_v, xrv_v, xb_z0, xb_z1, xb_b2, if_true, if_false, ite_true, ite_false, iZ_lit, iZ_m1, iZ_m99, iZ_m8, iZ_add, iZ_sub, iZ_mul, iZ_neg, nz0, nzi, iZ_lt, iZ_le, iZ_inj, b2_z, b2_o, ite_bPz, ite_bPo, xb_bP, iZ_xin, if_pos, ite_self, ↓reduceIte, Int.reduceAdd, Int.reduceSub, Int.reduceMul, Int.reduceNeg, Int.reduceLT, Int.reduceLE, if_neg, nS, iZ_clampN, iZ_bit, iZ_one, iZ_and, iZ_or, iZ_ndn]
      rfl
    show (∃ M', xfix gX10_findRing (3, [some (.inr (.inr (10, k))), some (.inl (iZ (heap))), some (.inl (iZ (w))), some (.inl (iZ (what))), some (.inl (iZ (((i + 2 : Nat))))), none], [], K) = xfix gX10_findRing (3, [some (.inr (.inr (10, k))), some (.inl (iZ (heap))), some (.inl (iZ (w))), some (.inl (iZ (what))), some (.inl (iZ (((i + 1 + 2 : Nat))))), none], [], M') ∧ _) ∨ _
    rw [en]
    rw [t1]
    rcases lp2 with ⟨K', c1, c2, c3⟩ | z
    · exact .inl ⟨K', c1, c2, by omega⟩
    · exact .inr z) (fun K hK => by
    obtain ⟨k1, k2⟩ := hK
    refine ⟨K, ?_, k1⟩
    have e10 : ((8 + 2 : Nat) : Int) = 10 := rfl
    unfold frA
    rw [if_neg (by omega)]
    rw [xfix_unf, sX10_findRing_3]
    simp (disch := omega) only [xk_none, xk_inl, xk_inr, xk_ite, xri_v, xrl_v, xrv_v, xb_z0, xb_z1, xb_b2, if_true, if_false, ite_true, ite_false, iZ_lit, iZ_m1, iZ_m99, iZ_m8, iZ_add, iZ_sub, iZ_mul, iZ_neg, nz0, nzi, iZ_lt, iZ_le, iZ_inj, b2_z, b2_o, ite_bPz, ite_bPo, xb_bP, iZ_xin, if_pos, ite_self, ↓reduceIte, Int.reduceAdd, Int.reduceSub, Int.reduceMul, Int.reduceNeg, Int.reduceLT, Int.reduceLE, if_neg, e10]) (a := 0) (M := M) (by omega)
  by_cases h2 : 0 + 2 ≤ rgL A heap w
  · obtain ⟨M', c1, c2⟩ := lp ⟨xSame.rf, h2⟩
    refine ⟨M', ?_, c2⟩
    refine Eq.trans ?_ c1
    have e2 : ((0 + 2 : Nat) : Int) = 2 := rfl
    show xfix gX10_findRing (0, [some (.inr (.inr (10, k))), some (.inl (iZ (heap))), some (.inl (iZ (w))), some (.inl (iZ (what))), none, none], [], M) = _; rw [xfix_unf, sX10_findRing_0]
    simp (disch := omega) only [xk_none, xk_inl, xk_inr, xk_ite, xri_v, xrl_v, xrv_v, xb_z0, xb_z1, xb_b2, if_true, if_false, ite_true, ite_false, iZ_lit, iZ_m1, iZ_m99, iZ_m8, iZ_add, iZ_sub, iZ_mul, iZ_neg, nz0, nzi, iZ_lt, iZ_le, iZ_inj, b2_z, b2_o, ite_bPz, ite_bPo, xb_bP, iZ_xin, if_pos, ite_self, ↓reduceIte, Int.reduceAdd, Int.reduceSub, Int.reduceMul, Int.reduceNeg, Int.reduceLT, Int.reduceLE, if_neg, e2]
  · have := (rgL_is (A := A) (heap := heap) (w := w) (by omega)).1
    omega
