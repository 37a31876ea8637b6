/-! the class: a shape -/
/-- shape s has P parts with the cells C -/
def cBd (M : xM) (s P : Nat) (C : Nat → Int) : Prop := xI M (5, s) 0 = iZ P ∧ P ≤ 9 ∧ ∀ p, p < P → ∀ c, c < 512 → (sB M (10 * s + 1 + p) c = true ↔ C c = p)
theorem x_whole {M : xM} {s P : Nat} (h : xI M (5, s) 0 = iZ P) (hP : P ≤ 9) : fX5_whole [.inr (.inr (5, s))] M = some (some (.inl (iZ (((2 ^ P : Nat) : Int) - 1))), M) := by
  show xfix gX5_whole (0, [some (.inr (.inr (5, s)))], [], M) = _; rw [xfix_unf, sX5_whole_0]
  simp (disch := omega) only [xk_none, xk_inl, xk_inr, xk_ite, xri_v, xrl_v, xrv_v, xb_z0, xb_z1, xb_b2, if_true, if_false, ite_true, ite_false, iZ_lit, iZ_m1, iZ_m99, iZ_m8, iZ_add, iZ_sub, iZ_mul, iZ_neg, nz0, nzi, iZ_lt, iZ_le, iZ_inj, b2_z, b2_o, ite_bPz, ite_bPo, xb_bP, iZ_xin, if_pos, ite_self, ↓reduceIte, Int.reduceAdd, Int.reduceSub, Int.reduceMul, Int.reduceNeg, Int.reduceLT, Int.reduceLE, if_neg, nS, iZ_clampN, iZ_bit, iZ_one, iZ_and, iZ_or, iZ_ndn, h]
theorem x_isPart {M : xM} {s P : Nat} {p : Int} (h : xI M (5, s) 0 = iZ P) (hP : P ≤ 9) (hp : r32 p) : fX5_isPart [.inr (.inr (5, s)), .inl (iZ (p))] M = some (some (.inl (bP (0 ≤ p ∧ p < P))), M) := by
  show xfix gX5_isPart (0, [some (.inr (.inr (5, s))), some (.inl (iZ (p)))], [], M) = _; rw [xfix_unf, sX5_isPart_0]
  by_cases c : 0 ≤ p ∧ p < P
  · rw [bP_t c]
    simp (disch := omega) only [xk_none, xk_inl, xk_inr, xk_ite, xri_v, xrl_v, xrv_v, xb_z0, xb_z1, xb_b2, if_true, if_false, ite_true, ite_false, iZ_lit, iZ_m1, iZ_m99, iZ_m8, iZ_add, iZ_sub, iZ_mul, iZ_neg, nz0, nzi, iZ_lt, iZ_le, iZ_inj, b2_z, b2_o, ite_bPz, ite_bPo, xb_bP, iZ_xin, if_pos, ite_self, ↓reduceIte, Int.reduceAdd, Int.reduceSub, Int.reduceMul, Int.reduceNeg, Int.reduceLT, Int.reduceLE, if_neg, h]
  · rw [bP_f c]
    simp (disch := omega) only [xk_none, xk_inl, xk_inr, xk_ite, xri_v, xrl_v, xrv_v, xb_z0, xb_z1, xb_b2, if_true, if_false, ite_true, ite_false, iZ_lit, iZ_m1, iZ_m99, iZ_m8, iZ_add, iZ_sub, iZ_mul, iZ_neg, nz0, nzi, iZ_lt, iZ_le, iZ_inj, b2_z, b2_o, ite_bPz, ite_bPo, xb_bP, iZ_xin, if_pos, ite_self, ↓reduceIte, Int.reduceAdd, Int.reduceSub, Int.reduceMul, Int.reduceNeg, Int.reduceLT, Int.reduceLE, if_neg, h]
theorem x_isHeap {M : xM} {s P : Nat} {a : Int} (h : xI M (5, s) 0 = iZ P) (hP : P ≤ 9) (ha : r32 a) : fX5_isHeap [.inr (.inr (5, s)), .inl (iZ (a))] M = some (some (.inl (bP (0 < a ∧ a < ((2 ^ P : Nat) : Int)))), M) := by
  have h9 : (2 : Nat) ^ P ≤ 512 := Nat.pow_le_pow_right (n := 2) (by omega) hP
  have h0 := Nat.two_pow_pos P
  show xfix gX5_isHeap (0, [some (.inr (.inr (5, s))), some (.inl (iZ (a)))], [], M) = _; rw [xfix_unf, sX5_isHeap_0]
  by_cases c : 0 < a ∧ a < ((2 ^ P : Nat) : Int)
  · rw [bP_t c]
    simp (disch := omega) only [xk_none, xk_inl, xk_inr, xk_ite, xri_v, xrl_v, xrv_v, xb_z0, xb_z1, xb_b2, if_true, if_false, ite_true, ite_false, iZ_lit, iZ_m1, iZ_m99, iZ_m8, iZ_add, iZ_sub, iZ_mul, iZ_neg, nz0, nzi, iZ_lt, iZ_le, iZ_inj, b2_z, b2_o, ite_bPz, ite_bPo, xb_bP, iZ_xin, if_pos, ite_self, ↓reduceIte, Int.reduceAdd, Int.reduceSub, Int.reduceMul, Int.reduceNeg, Int.reduceLT, Int.reduceLE, if_neg, x_whole h hP]
  · rw [bP_f c]
    simp (disch := omega) only [xk_none, xk_inl, xk_inr, xk_ite, xri_v, xrl_v, xrv_v, xb_z0, xb_z1, xb_b2, if_true, if_false, ite_true, ite_false, iZ_lit, iZ_m1, iZ_m99, iZ_m8, iZ_add, iZ_sub, iZ_mul, iZ_neg, nz0, nzi, iZ_lt, iZ_le, iZ_inj, b2_z, b2_o, ite_bPz, ite_bPo, xb_bP, iZ_xin, if_pos, ite_self, ↓reduceIte, Int.reduceAdd, Int.reduceSub, Int.reduceMul, Int.reduceNeg, Int.reduceLT, Int.reduceLE, if_neg, x_whole h hP]
theorem x_isHalf {M : xM} {s P : Nat} {a b : Int} (h : xI M (5, s) 0 = iZ P) (hP : P ≤ 9) (ha : r32 a) (hb : r32 b) : fX5_isHalf [.inr (.inr (5, s)), .inl (iZ (a)), .inl (iZ (b))] M = some (some (.inl (bP (∃ h k : Nat, a = h ∧ b = k ∧ 0 < k ∧ k < h ∧ h < 2 ^ P ∧ ndn k h = 0))), M) := by
  have h9 : (2 : Nat) ^ P ≤ 512 := Nat.pow_le_pow_right (n := 2) (by omega) hP
  have hh := x_isHeap h hP ha
  by_cases c1 : 0 < a ∧ a < ((2 ^ P : Nat) : Int)
  · rw [bP_t c1] at hh
    by_cases c2 : 0 < b ∧ b < a
    · obtain ⟨m, hm⟩ : ∃ m : Nat, a = m := ⟨a.toNat, by omega⟩
      obtain ⟨n, hn⟩ : ∃ n : Nat, b = n := ⟨b.toNat, by omega⟩
      subst hm
      subst hn
      have hw := x_within (M := M) (a := n) (b := m) (by omega)
      by_cases c3 : ndn n m = 0
      · rw [bP_t c3] at hw
        rw [bP_t ⟨m, n, rfl, rfl, by omega, by omega, by omega, c3⟩]
        show xfix gX5_isHalf (0, [some (.inr (.inr (5, s))), some (.inl (iZ (m))), some (.inl (iZ (n)))], [], M) = _; rw [xfix_unf, sX5_isHalf_0]
        simp (disch := omega) only [xk_none, xk_inl, xk_inr, xk_ite, xri_v, xrl_v, xrv_v, xb_z0, xb_z1, xb_b2, if_true, if_false, ite_true, ite_false, iZ_lit, iZ_m1, iZ_m99, iZ_m8, iZ_add, iZ_sub, iZ_mul, iZ_neg, nz0, nzi, iZ_lt, iZ_le, iZ_inj, b2_z, b2_o, ite_bPz, ite_bPo, xb_bP, iZ_xin, if_pos, ite_self, ↓reduceIte, Int.reduceAdd, Int.reduceSub, Int.reduceMul, Int.reduceNeg, Int.reduceLT, Int.reduceLE, if_neg, nS, iZ_clampN, iZ_bit, iZ_one, iZ_and, iZ_or, iZ_ndn, hh, hw]
      · rw [bP_f c3] at hw
        rw [bP_f (by
          rintro ⟨h, k, y1, y2, y3, y4, y5, y6⟩
          have e1 : m = h := by omega
          have e2 : n = k := by omega
          exact c3 (by rw [e1, e2]; exact y6))]
        show xfix gX5_isHalf (0, [some (.inr (.inr (5, s))), some (.inl (iZ (m))), some (.inl (iZ (n)))], [], M) = _; rw [xfix_unf, sX5_isHalf_0]
        simp (disch := omega) only [xk_none, xk_inl, xk_inr, xk_ite, xri_v, xrl_v, xrv_v, xb_z0, xb_z1, xb_b2, if_true, if_false, ite_true, ite_false, iZ_lit, iZ_m1, iZ_m99, iZ_m8, iZ_add, iZ_sub, iZ_mul, iZ_neg, nz0, nzi, iZ_lt, iZ_le, iZ_inj, b2_z, b2_o, ite_bPz, ite_bPo, xb_bP, iZ_xin, if_pos, ite_self, ↓reduceIte, Int.reduceAdd, Int.reduceSub, Int.reduceMul, Int.reduceNeg, Int.reduceLT, Int.reduceLE, if_neg, nS, iZ_clampN, iZ_bit, iZ_one, iZ_and, iZ_or, iZ_ndn, hh, hw]
    · rw [bP_f (by
        rintro ⟨h, k, y1, y2, y3, y4, y5, y6⟩
        omega)]
      show xfix gX5_isHalf (0, [some (.inr (.inr (5, s))), some (.inl (iZ (a))), some (.inl (iZ (b)))], [], M) = _; rw [xfix_unf, sX5_isHalf_0]
      simp (disch := omega) only [xk_none, xk_inl, xk_inr, xk_ite, xri_v, xrl_v, xrv_v, xb_z0, xb_z1, xb_b2, if_true, if_false, ite_true, ite_false, iZ_lit, iZ_m1, iZ_m99, iZ_m8, iZ_add, iZ_sub, iZ_mul, iZ_neg, nz0, nzi, iZ_lt, iZ_le, iZ_inj, b2_z, b2_o, ite_bPz, ite_bPo, xb_bP, iZ_xin, if_pos, ite_self, ↓reduceIte, Int.reduceAdd, Int.reduceSub, Int.reduceMul, Int.reduceNeg, Int.reduceLT, Int.reduceLE, if_neg, hh]
  · rw [bP_f c1] at hh
    rw [bP_f (by
      rintro ⟨h, k, y1, y2, y3, y4, y5, y6⟩
      omega)]
    show xfix gX5_isHalf (0, [some (.inr (.inr (5, s))), some (.inl (iZ (a))), some (.inl (iZ (b)))], [], M) = _; rw [xfix_unf, sX5_isHalf_0]
    simp (disch := omega) only [xk_none, xk_inl, xk_inr, xk_ite, xri_v, xrl_v, xrv_v, xb_z0, xb_z1, xb_b2, if_true, if_false, ite_true, ite_false, iZ_lit, iZ_m1, iZ_m99, iZ_m8, iZ_add, iZ_sub, iZ_mul, iZ_neg, nz0, nzi, iZ_lt, iZ_le, iZ_inj, b2_z, b2_o, ite_bPz, ite_bPo, xb_bP, iZ_xin, if_pos, ite_self, ↓reduceIte, Int.reduceAdd, Int.reduceSub, Int.reduceMul, Int.reduceNeg, Int.reduceLT, Int.reduceLE, if_neg, hh]
theorem x_isBent {M : xM} {s b p : Nat} (h : xI M (5, s) 2 = iZ b) (hb : b < 512) (hp : p < 9) : fX5_isBent [.inr (.inr (5, s)), .inl (iZ (p))] M = some (some (.inl (bP (b.testBit p = true))), M) := by
  show xfix gX5_isBent (0, [some (.inr (.inr (5, s))), some (.inl (iZ (p)))], [], M) = _; rw [xfix_unf, sX5_isBent_0]
  by_cases c : b.testBit p = true
  · simp (disch := omega) only [xk_none, xk_inl, xk_inr, xk_ite, xri_v, xrl_v, xrv_v, xb_z0, xb_z1, xb_b2, if_true, if_false, ite_true, ite_false, iZ_lit, iZ_m1, iZ_m99, iZ_m8, iZ_add, iZ_sub, iZ_mul, iZ_neg, nz0, nzi, iZ_lt, iZ_le, iZ_inj, b2_z, b2_o, ite_bPz, ite_bPo, xb_bP, iZ_xin, if_pos, ite_self, ↓reduceIte, Int.reduceAdd, Int.reduceSub, Int.reduceMul, Int.reduceNeg, Int.reduceLT, Int.reduceLE, if_neg, nS, iZ_clampN, iZ_bit, iZ_one, iZ_and, iZ_or, iZ_ndn, h, bP_t c]
  · simp (disch := omega) only [xk_none, xk_inl, xk_inr, xk_ite, xri_v, xrl_v, xrv_v, xb_z0, xb_z1, xb_b2, if_true, if_false, ite_true, ite_false, iZ_lit, iZ_m1, iZ_m99, iZ_m8, iZ_add, iZ_sub, iZ_mul, iZ_neg, nz0, nzi, iZ_lt, iZ_le, iZ_inj, b2_z, b2_o, ite_bPz, ite_bPo, xb_bP, iZ_xin, if_pos, ite_self, ↓reduceIte, Int.reduceAdd, Int.reduceSub, Int.reduceMul, Int.reduceNeg, Int.reduceLT, Int.reduceLE, if_neg, nS, iZ_clampN, iZ_bit, iZ_one, iZ_and, iZ_or, iZ_ndn, h, bP_f c]
theorem x_isSwollen {M : xM} {s b p w : Nat} (h : xI M (38, s) w = iZ b) (hb : b < 512) (hp : p < 9) (hw : w < 6) : fX5_isSwollen [.inr (.inr (5, s)), .inl (iZ (p)), .inl (iZ (w))] M = some (some (.inl (bP (b.testBit p = true))), M) := by
  show xfix gX5_isSwollen (0, [some (.inr (.inr (5, s))), some (.inl (iZ (p))), some (.inl (iZ (w)))], [], M) = _; rw [xfix_unf, sX5_isSwollen_0]
  by_cases c : b.testBit p = true
  · simp (disch := omega) only [xk_none, xk_inl, xk_inr, xk_ite, xri_v, xrl_v, xrv_v, xb_z0, xb_z1, xb_b2, if_true, if_false, ite_true, ite_false, iZ_lit, iZ_m1, iZ_m99, iZ_m8, iZ_add, iZ_sub, iZ_mul, iZ_neg, nz0, nzi, iZ_lt, iZ_le, iZ_inj, b2_z, b2_o, ite_bPz, ite_bPo, xb_bP, iZ_xin, if_pos, ite_self, ↓reduceIte, Int.reduceAdd, Int.reduceSub, Int.reduceMul, Int.reduceNeg, Int.reduceLT, Int.reduceLE, if_neg, nS, iZ_clampN, iZ_bit, iZ_one, iZ_and, iZ_or, iZ_ndn, h, bP_t c]
  · simp (disch := omega) only [xk_none, xk_inl, xk_inr, xk_ite, xri_v, xrl_v, xrv_v, xb_z0, xb_z1, xb_b2, if_true, if_false, ite_true, ite_false, iZ_lit, iZ_m1, iZ_m99, iZ_m8, iZ_add, iZ_sub, iZ_mul, iZ_neg, nz0, nzi, iZ_lt, iZ_le, iZ_inj, b2_z, b2_o, ite_bPz, ite_bPo, xb_bP, iZ_xin, if_pos, ite_self, ↓reduceIte, Int.reduceAdd, Int.reduceSub, Int.reduceMul, Int.reduceNeg, Int.reduceLT, Int.reduceLE, if_neg, nS, iZ_clampN, iZ_bit, iZ_one, iZ_and, iZ_or, iZ_ndn, h, bP_f c]
