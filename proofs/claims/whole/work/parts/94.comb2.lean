/-! the class: combine -/
def cmb (P b : Nat) (O : Nat → Nat) (i : Nat) : Nat := if b.testBit (i / 6) = true then 0 else O i &&& ndn (2 ^ P - 1) b
theorem x_combine {M : xM} {k P b : Nat} {O : Nat → Nat} (f0 : xI M (5, 0) 0 = iZ P) (hP : P ≤ 9) (f2 : xI M (5, 0) 2 = iZ b) (hb : b < 512) (h0 : xL M (50, k) 0 = 0) (hO : ∀ p, p < P → ∀ w, w < 6 → ∀ q, q < 9 → (lB (xL M (51, k) p) (9 * w + q) = true ↔ (O (6 * p + w)).testBit q = true)) : ∃ M', fX10_combine [.inr (.inr (10, k))] M = some (none, M') ∧ xSame (fun r => r = (50, k)) M M' ∧ cWy M' k P (cmb P b O) ∧ xL M' (50, k) 0 = 0 := by
  have h9 : (2 : Nat) ^ P ≤ 512 := Nat.pow_le_pow_right (n := 2) (by omega) hP
  have h1 := Nat.two_pow_pos P
  have e0 : ((2 ^ P : Nat) : Int) - 1 = ((2 ^ P - 1 : Nat) : Int) := by omega
  have hS : ndn (2 ^ P - 1) b < 512 := Nat.lt_of_le_of_lt (ndn_le _ _) (by omega)
  have hw0 := x_whole (M := M) f0 hP
  rw [e0] at hw0
  have e64 : (iZ ((ndn (2 ^ P - 1) b : Nat) : Int)).toInt64 = lZ ((ndn (2 ^ P - 1) b : Nat) : Int) := iL_toInt64 (by omega) (by omega)
  have lp := xfor_F (sg := gX10_combine) (fun i => (4, [some (.inr (.inr (10, k))), some (.inr (.inl ((six (ndn (2 ^ P - 1) b) i)))), none, some (.inl (iZ (i))), none], [], M)) (a := 0) (n := 6) (by omega) (fun i _ hi => by
    rw [nS]
    have eS : six (ndn (2 ^ P - 1) b) (i + 1) = (six (ndn (2 ^ P - 1) b) i <<< ((iZ 9).toInt64 &&& 63)) ||| lZ ((ndn (2 ^ P - 1) b : Nat) : Int) := rfl
    rw [eS]
    rw [xfix_unf, sX10_combine_4]
    simp (disch := omega) only [xk_none, xk_inl, xk_inr, xk_ite, xri_v, xrl_v, xrv_v, xb_z0, xb_z1, xb_b2, if_true, if_false, ite_true, ite_false, iZ_lit, iZ_m1, iZ_m99, iZ_m8, iZ_add, iZ_sub, iZ_mul, iZ_neg, nz0, nzi, iZ_lt, iZ_le, iZ_inj, b2_z, b2_o, ite_bPz, ite_bPo, xb_bP, iZ_xin, if_pos, ite_self, ↓reduceIte, Int.reduceAdd, Int.reduceSub, Int.reduceMul, Int.reduceNeg, Int.reduceLT, Int.reduceLE, if_neg, nS, iZ_clampN, iZ_bit, iZ_one, iZ_and, iZ_or, iZ_ndn, hw0, f2, e64])
  obtain ⟨M2, b1, b2, b3, b4⟩ := xfor_M (sg := gX10_combine) (st := fun i M => (42, [some (.inr (.inr (10, k))), some (.inr (.inl ((six (ndn (2 ^ P - 1) b) 6)))), none, some (.inl (iZ (i))), none], [], M)) (I := fun n K => xSame (fun r => r = (50, k)) M K ∧ (∀ p, p < n → ∀ w, w < 6 → ∀ q, q < 9 → (lB (xL K (50, k) (2 ^ p)) (9 * w + q) = true ↔ (cmb P b O (6 * p + w)).testBit q = true)) ∧ xL K (50, k) 0 = 0) (n := P) (fun i K hi hK => by
    obtain ⟨k1, k2, k3⟩ := hK
    have g0 : xI K (5, 0) 0 = iZ P := by rw [(k1 (5, 0) (by simp)).1]; exact f0
    have g2 : xI K (5, 0) 2 = iZ b := by rw [(k1 (5, 0) (by simp)).1]; exact f2
    have g51 : xL K (51, k) i = xL M (51, k) i := (k1 (51, k) (by simp)).2 i
    have h2p : 2 ^ i < 512 := Nat.pow_lt_pow_right (n := 9) (by decide) (by omega)
    have h2q := Nat.two_pow_pos i
    have hbt := x_isBent (M := K) (p := i) g2 hb (by omega)
    have fin : ∀ v : Int64, (∀ w, w < 6 → ∀ q, q < 9 → (lB v (9 * w + q) = true ↔ (cmb P b O (6 * i + w)).testBit q = true)) → xSame (fun r => r = (50, k)) M (xpL K (50, k) (2 ^ i) v) ∧ (∀ p, p < i + 1 → ∀ w, w < 6 → ∀ q, q < 9 → (lB (xL (xpL K (50, k) (2 ^ i) v) (50, k) (2 ^ p)) (9 * w + q) = true ↔ (cmb P b O (6 * p + w)).testBit q = true)) ∧ xL (xpL K (50, k) (2 ^ i) v) (50, k) 0 = 0 := fun v hv => by
      refine ⟨k1.pL rfl, fun p hp w hw q hq => ?_, ?_⟩
      · rw [xL_pL]
        by_cases e : p = i
        · subst e
          rw [if_pos ⟨rfl, rfl⟩]
          exact hv w hw q hq
        · rw [if_neg (fun z => e ((Nat.pow_right_inj (by decide)).mp z.2))]
          exact k2 p (by omega) w hw q hq
      · rw [xL_pL, if_neg (fun z => by omega)]
        exact k3
    have hc : ∀ w, w < 6 → (6 * i + w) / 6 = i := fun w hw => by omega
    by_cases y : b.testBit i = true
    · rw [bP_t y] at hbt
      refine ⟨xpL K (50, k) (2 ^ i) 0, ?_, fin 0 fun w hw q hq => ?_⟩
      · rw [xfix_unf, sX10_combine_42]
        simp (disch := omega) only [xk_none, xk_inl, xk_inr, xk_ite, xri_v, xrl_v, xrv_v, xb_z0, xb_z1, xb_b2, if_true, if_false, ite_true, ite_false, iZ_lit, iZ_m1, iZ_m99, iZ_m8, iZ_add, iZ_sub, iZ_mul, iZ_neg, nz0, nzi, iZ_lt, iZ_le, iZ_inj, b2_z, b2_o, ite_bPz, ite_bPo, xb_bP, iZ_xin, if_pos, ite_self, ↓reduceIte, Int.reduceAdd, Int.reduceSub, Int.reduceMul, Int.reduceNeg, Int.reduceLT, Int.reduceLE, if_neg, nS, iZ_clampN, iZ_bit, iZ_one, iZ_and, iZ_or, iZ_ndn, g0, hbt]
      · unfold cmb
        rw [hc w hw, if_pos y, lB_0, Nat.zero_testBit]
    · rw [bP_f y] at hbt
      refine ⟨xpL K (50, k) (2 ^ i) (xL M (51, k) i &&& six (ndn (2 ^ P - 1) b) 6), ?_, fin _ fun w hw q hq => ?_⟩
      · rw [xfix_unf, sX10_combine_42]
        simp (disch := omega) only [xk_none, xk_inl, xk_inr, xk_ite, xri_v, xrl_v, xrv_v, xb_z0, xb_z1, xb_b2, if_true, if_false, ite_true, ite_false, iZ_lit, iZ_m1, iZ_m99, iZ_m8, iZ_add, iZ_sub, iZ_mul, iZ_neg, nz0, nzi, iZ_lt, iZ_le, iZ_inj, b2_z, b2_o, ite_bPz, ite_bPo, xb_bP, iZ_xin, if_pos, ite_self, ↓reduceIte, Int.reduceAdd, Int.reduceSub, Int.reduceMul, Int.reduceNeg, Int.reduceLT, Int.reduceLE, if_neg, nS, iZ_clampN, iZ_bit, iZ_one, iZ_and, iZ_or, iZ_ndn, g0, hbt, g51]
      · unfold cmb
        rw [hc w hw, if_neg y, lB_and, Bool.and_eq_true, hO i hi w hw q hq, six_b hS 6 w q hw (by omega) hq, Nat.testBit_and, Bool.and_eq_true]) (a := 0) (M := M) (by omega) ⟨xSame.rf, fun p hp => by omega, h0⟩
  obtain ⟨M3, c1, c2, c3, c4, c5⟩ := xfor_M (sg := gX10_combine) (st := fun i M => (92, [some (.inr (.inr (10, k))), none, none, some (.inl (iZ (((i + 1 : Nat))))), none], [], M)) (I := fun n K => xSame (fun r => r = (50, k)) M K ∧ (∀ p, p < P → ∀ w, w < 6 → ∀ q, q < 9 → (lB (xL K (50, k) (2 ^ p)) (9 * w + q) = true ↔ (cmb P b O (6 * p + w)).testBit q = true)) ∧ xL K (50, k) 0 = 0 ∧ ∀ half, half < n + 1 → ∀ w, w < 6 → ∀ q, q < 9 → (lB (xL K (50, k) half) (9 * w + q) = true ↔ ∃ p, p < P ∧ half.testBit p = true ∧ (cmb P b O (6 * p + w)).testBit q = true)) (n := 2 ^ P - 1) (fun i K hi hK => by
    obtain ⟨k1, k2, k3, k4⟩ := hK
    have g0 : xI K (5, 0) 0 = iZ P := by rw [(k1 (5, 0) (by simp)).1]; exact f0
    have hw1 := x_whole (M := K) g0 hP
    rw [e0] at hw1
    obtain ⟨l1, p, p1, p2, p3⟩ := low_is (h := i + 1) (by omega) (by omega)
    have hpP : p < P := bit_lt (show i + 1 < 2 ^ P by omega) ((p3 p p1).mpr (.inr rfl))
    have h2p : 2 ^ p < 512 := Nat.pow_lt_pow_right (n := 9) (by decide) (by omega)
    have hv : ∀ w, w < 6 → ∀ q, q < 9 → (lB (xL K (50, k) ((i + 1) &&& (i + 1 - 1)) ||| xL K (50, k) (2 ^ p)) (9 * w + q) = true ↔ ∃ p, p < P ∧ (i + 1).testBit p = true ∧ (cmb P b O (6 * p + w)).testBit q = true) := fun w hw q hq => by
      rw [lB_or, Bool.or_eq_true, k4 _ (by omega) w hw q hq, k2 p hpP w hw q hq]
      constructor
      · rintro (⟨x, x1, x2, x3⟩ | z)
        · exact ⟨x, x1, (p3 x (by omega)).mpr (.inl x2), x3⟩
        · exact ⟨p, hpP, (p3 p p1).mpr (.inr rfl), z⟩
      · rintro ⟨x, x1, x2, x3⟩
        rcases (p3 x (by omega)).mp x2 with z | z
        · exact .inl ⟨x, x1, z, x3⟩
        · exact .inr (z ▸ x3)
    refine ⟨xpL K (50, k) (i + 1) (xL K (50, k) ((i + 1) &&& (i + 1 - 1)) ||| xL K (50, k) (2 ^ p)), ?_, k1.pL rfl, fun x hx w hw q hq => ?_, ?_, fun half hh w hw q hq => ?_⟩
    · have e1 : ((i + 1 : Nat) : Int) - 1 = ((i + 1 - 1 : Nat) : Int) := by omega
      have e2 : ((i + 1 + 1 : Nat) : Int) = ((i + 1 : Nat) : Int) + 1 := rfl
      rw [e2]
      have hmb : i + 1 ≤ 2 ^ P - 1 := by omega
      generalize i + 1 = m at *
      rw [xfix_unf, sX10_combine_92]
      simp (disch := omega) only [xk_none, xk_inl, xk_inr, xk_ite, xri_v, xrl_v, xrv_v, xb_z0, xb_z1, xb_b2, if_true, if_false, ite_true, ite_false, iZ_lit, iZ_m1, iZ_m99, iZ_m8, iZ_add, iZ_sub, iZ_mul, iZ_neg, nz0, nzi, iZ_lt, iZ_le, iZ_inj, b2_z, b2_o, ite_bPz, ite_bPo, xb_bP, iZ_xin, if_pos, ite_self, ↓reduceIte, Int.reduceAdd, Int.reduceSub, Int.reduceMul, Int.reduceNeg, Int.reduceLT, Int.reduceLE, if_neg, hw1, e1, iZ_and, iZ_xor, p2, iZ_clampN]
    · rw [xL_pL]
      by_cases e : 2 ^ x = i + 1
      · rw [if_pos ⟨rfl, e⟩, hv w hw q hq]
        rw [← e]
        constructor
        · rintro ⟨y, y1, y2, y3⟩
          rw [Nat.testBit_two_pow, decide_eq_true_eq] at y2
          exact y2 ▸ y3
        · intro z
          exact ⟨x, hx, Nat.testBit_two_pow_self, z⟩
      · rw [if_neg (fun z => e z.2)]
        exact k2 x hx w hw q hq
    · rw [xL_pL, if_neg (fun z => by omega)]; exact k3
    · rw [xL_pL]
      by_cases e : half = i + 1
      · rw [if_pos ⟨rfl, e⟩, hv w hw q hq, e]
      · rw [if_neg (fun z => e z.2)]
        exact k4 half (by omega) w hw q hq) (a := 0) (M := M2) (by omega) ⟨b2, b3, b4, fun half hh w hw q hq => by
      have : half = 0 := by omega
      subst this
      rw [b4, lB_0]
      constructor
      · intro z; cases z
      · rintro ⟨p, _, p2, _⟩
        rw [Nat.zero_testBit] at p2
        cases p2⟩
  refine ⟨M3, ?_, c2, fun half hh w hw q hq => c5 half (by omega) w hw q hq, c4⟩
  have g0 : xI M2 (5, 0) 0 = iZ P := by rw [(b2 (5, 0) (by simp)).1]; exact f0
  have g3 : xI M3 (5, 0) 0 = iZ P := by rw [(c2 (5, 0) (by simp)).1]; exact f0
  have hw3 := x_whole (M := M3) g3 hP
  have e6 : ((6 : Nat) : Int) = 6 := rfl
  show xfix gX10_combine (0, [some (.inr (.inr (10, k))), none, none, none, none], [], M) = _; rw [xfix_unf, sX10_combine_0]
  simp (disch := omega) only [xk_none, xk_inl, xk_inr, xk_ite, xri_v, xrl_v, xrv_v, xb_z0, xb_z1, xb_b2, if_true, if_false, ite_true, ite_false, iZ_lit, iZ_m1, iZ_m99, iZ_m8, iZ_add, iZ_sub, iZ_mul, iZ_neg, nz0, nzi, iZ_lt, iZ_le, iZ_inj, b2_z, b2_o, ite_bPz, ite_bPo, xb_bP, iZ_xin, if_pos, ite_self, ↓reduceIte, Int.reduceAdd, Int.reduceSub, Int.reduceMul, Int.reduceNeg, Int.reduceLT, Int.reduceLE, if_neg]
  refine Eq.trans lp ?_
  rw [xfix_unf, sX10_combine_4]
  simp (disch := omega) only [xk_none, xk_inl, xk_inr, xk_ite, xri_v, xrl_v, xrv_v, xb_z0, xb_z1, xb_b2, if_true, if_false, ite_true, ite_false, iZ_lit, iZ_m1, iZ_m99, iZ_m8, iZ_add, iZ_sub, iZ_mul, iZ_neg, nz0, nzi, iZ_lt, iZ_le, iZ_inj, b2_z, b2_o, ite_bPz, ite_bPo, xb_bP, iZ_xin, if_pos, ite_self, ↓reduceIte, Int.reduceAdd, Int.reduceSub, Int.reduceMul, Int.reduceNeg, Int.reduceLT, Int.reduceLE, if_neg, e6]
  refine Eq.trans b1 ?_
  rw [xfix_unf, sX10_combine_42]
  simp (disch := omega) only [xk_none, xk_inl, xk_inr, xk_ite, xri_v, xrl_v, xrv_v, xb_z0, xb_z1, xb_b2, if_true, if_false, ite_true, ite_false, iZ_lit, iZ_m1, iZ_m99, iZ_m8, iZ_add, iZ_sub, iZ_mul, iZ_neg, nz0, nzi, iZ_lt, iZ_le, iZ_inj, b2_z, b2_o, ite_bPz, ite_bPo, xb_bP, iZ_xin, if_pos, ite_self, ↓reduceIte, Int.reduceAdd, Int.reduceSub, Int.reduceMul, Int.reduceNeg, Int.reduceLT, Int.reduceLE, if_neg, g0]
  refine Eq.trans c1 ?_
  have e7 : ((2 ^ P - 1 + 1 : Nat) : Int) = ((2 ^ P : Nat) : Int) := by omega
  rw [e7]
  rw [xfix_unf, sX10_combine_92]
  simp (disch := omega) only [xk_none, xk_inl, xk_inr, xk_ite, xri_v, xrl_v, xrv_v, xb_z0, xb_z1, xb_b2, if_true, if_false, ite_true, ite_false, iZ_lit, iZ_m1, iZ_m99, iZ_m8, iZ_add, iZ_sub, iZ_mul, iZ_neg, nz0, nzi, iZ_lt, iZ_le, iZ_inj, b2_z, b2_o, ite_bPz, ite_bPo, xb_bP, iZ_xin, if_pos, ite_self, ↓reduceIte, Int.reduceAdd, Int.reduceSub, Int.reduceMul, Int.reduceNeg, Int.reduceLT, Int.reduceLE, if_neg, hw3]
