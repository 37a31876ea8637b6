/-! the reference's leaves -/
theorem m_isIn (a b c : Int) (M : xM) (h1 : -2147483648 ≤ a ∧ a < 2147483648) (h2 : -2147483648 ≤ b ∧ b < 2147483648) (h3 : -2147483648 ≤ c ∧ c < 2147483648) : fX12_isIn [.inl (iZ a), .inl (iZ b), .inl (iZ c)] M = some (some (.inl (bP (b ≤ a ∧ a ≤ c))), M) := by
  show xfix gX12_isIn (0, [some (.inl (iZ a)), some (.inl (iZ b)), some (.inl (iZ c))], [], M) = _
  rw [xfix_unf, sX12_isIn_0]
  simp (disch := omega) only [xk_none, xk_inl, xk_inr, xk_ite, xri_v, xrl_v, xrv_v, xb_z0, xb_z1, xb_b2, if_true, if_false, ite_true, ite_false, iZ_lit, iZ_m1, iZ_m99, iZ_m8, iZ_add, iZ_sub, iZ_mul, iZ_neg, nz0, nzi, iZ_lt, iZ_le, iZ_inj, b2_z, b2_o, ite_bPz, ite_bPo, xb_bP, iZ_xin, if_pos, ite_self, ↓reduceIte, Int.reduceAdd, Int.reduceSub, Int.reduceMul, Int.reduceNeg, Int.reduceLT, Int.reduceLE]
  by_cases e1 : a < b
  · rw [if_pos e1, bP_f (by omega)]
  · rw [if_neg e1]
    by_cases e2 : c < a
    · rw [if_pos e2, bP_f (by omega)]
    · rw [if_neg e2, bP_t (by omega)]
theorem m_isWay (a : Int) (M : xM) (h1 : -2147483648 ≤ a ∧ a < 2147483648) : fX12_isWay [.inl (iZ a)] M = some (some (.inl (bP (0 ≤ a ∧ a ≤ 5))), M) := by
  show xfix gX12_isWay (0, [some (.inl (iZ a))], [], M) = _
  rw [xfix_unf, sX12_isWay_0]
  simp (disch := omega) only [xk_none, xk_inl, xk_inr, xk_ite, xri_v, xrl_v, xrv_v, xb_z0, xb_z1, xb_b2, if_true, if_false, ite_true, ite_false, iZ_lit, iZ_m1, iZ_m99, iZ_m8, iZ_add, iZ_sub, iZ_mul, iZ_neg, nz0, nzi, iZ_lt, iZ_le, iZ_inj, b2_z, b2_o, ite_bPz, ite_bPo, xb_bP, iZ_xin, if_pos, ite_self, ↓reduceIte, Int.reduceAdd, Int.reduceSub, Int.reduceMul, Int.reduceNeg, Int.reduceLT, Int.reduceLE, m_isIn]
def mP (M : xM) (P : Nat) : Prop := xI M (12, 0) 2 = iZ P ∧ P ≤ 9
theorem m_isPart {P : Nat} (a : Int) (M : xM) (hP : mP M P) (h1 : -2147483648 ≤ a ∧ a < 2147483648) : fX12_isPart [.inr (.inr (12, 0)), .inl (iZ a)] M = some (some (.inl (bP (0 ≤ a ∧ a < P))), M) := by
  show xfix gX12_isPart (0, [some (.inr (.inr (12, 0))), some (.inl (iZ a))], [], M) = _
  have hP9 := hP.2
  rw [xfix_unf, sX12_isPart_0]
  simp (disch := omega) only [xk_none, xk_inl, xk_inr, xk_ite, xri_v, xrl_v, xrv_v, xb_z0, xb_z1, xb_b2, if_true, if_false, ite_true, ite_false, iZ_lit, iZ_m1, iZ_m99, iZ_m8, iZ_add, iZ_sub, iZ_mul, iZ_neg, nz0, nzi, iZ_lt, iZ_le, iZ_inj, b2_z, b2_o, ite_bPz, ite_bPo, xb_bP, iZ_xin, if_pos, ite_self, ↓reduceIte, Int.reduceAdd, Int.reduceSub, Int.reduceMul, Int.reduceNeg, Int.reduceLT, Int.reduceLE, hP.1, m_isIn]
  have : (0 ≤ a ∧ a ≤ (P : Int) - 1) ↔ (0 ≤ a ∧ a < P) := by omega
  simp only [this]
theorem m_whole {P : Nat} (M : xM) (hP : mP M P) : fX12_whole [.inr (.inr (12, 0))] M = some (some (.inl (iZ (((2 ^ P : Nat) : Int) - 1))), M) := by
  show xfix gX12_whole (0, [some (.inr (.inr (12, 0)))], [], M) = _
  have hP9 := hP.2
  rw [xfix_unf, sX12_whole_0]
  simp (disch := omega) only [xk_none, xk_inl, xk_inr, xk_ite, xri_v, xrl_v, xrv_v, xb_z0, xb_z1, xb_b2, if_true, if_false, ite_true, ite_false, iZ_lit, iZ_m1, iZ_m99, iZ_m8, iZ_add, iZ_sub, iZ_mul, iZ_neg, nz0, nzi, iZ_lt, iZ_le, iZ_inj, b2_z, b2_o, ite_bPz, ite_bPo, xb_bP, iZ_xin, if_pos, ite_self, ↓reduceIte, Int.reduceAdd, Int.reduceSub, Int.reduceMul, Int.reduceNeg, Int.reduceLT, Int.reduceLE, hP.1, iZ_one]
theorem ndn_le (a b : Nat) : ndn a b ≤ a := Nat.le_of_testBit fun i h => by
  rw [ndn_bit] at h
  exact (Bool.and_eq_true_iff.mp h).1
theorem ndn_sub {k h : Nat} (e : ndn k h = 0) : k ≤ h := Nat.le_of_testBit fun i hi => by
  have := ndn_bit k h i
  rw [e, hi, Nat.zero_testBit] at this
  cases x : h.testBit i with
  | true => rfl
  | false => rw [x] at this; cases this
theorem pow9 {P : Nat} (h : P ≤ 9) : 1 ≤ 2 ^ P ∧ 2 ^ P ≤ 512 := ⟨Nat.two_pow_pos P, Nat.pow_le_pow_right (n := 2) (by decide) h⟩
theorem m_isHeap {P : Nat} (a : Int) (M : xM) (hP : mP M P) (h1 : -2147483648 ≤ a ∧ a < 2147483648) : fX12_isHeap [.inr (.inr (12, 0)), .inl (iZ a)] M = some (some (.inl (bP (0 < a ∧ a < ((2 ^ P : Nat) : Int)))), M) := by
  show xfix gX12_isHeap (0, [some (.inr (.inr (12, 0))), some (.inl (iZ a))], [], M) = _
  have hp := pow9 hP.2
  rw [xfix_unf, sX12_isHeap_0, m_whole M hP]
  generalize 2 ^ P = W at *
  simp (disch := omega) only [xk_none, xk_inl, xk_inr, xk_ite, xri_v, xrl_v, xrv_v, xb_z0, xb_z1, xb_b2, if_true, if_false, ite_true, ite_false, iZ_lit, iZ_m1, iZ_m99, iZ_m8, iZ_add, iZ_sub, iZ_mul, iZ_neg, nz0, nzi, iZ_lt, iZ_le, iZ_inj, b2_z, b2_o, ite_bPz, ite_bPo, xb_bP, iZ_xin, if_pos, ite_self, ↓reduceIte, Int.reduceAdd, Int.reduceSub, Int.reduceMul, Int.reduceNeg, Int.reduceLT, Int.reduceLE]
  by_cases e1 : a ≤ 0
  · rw [if_pos e1, bP_f (by omega)]
  · rw [if_neg e1]
    by_cases e2 : (W : Int) - 1 < a
    · rw [if_pos e2, bP_f (by omega)]
    · rw [if_neg e2, bP_t (by omega)]
/-- how many bits below nine -/
def bc (v : Nat) : Nat := fb_ct (fun k => v.testBit k) 9
theorem bc_le (v : Nat) : bc v ≤ 9 := fb_ct_le _ 9
theorem m_bits {v : Nat} (M : xM) (hv : v < 2147483648) : fX12_bits [.inl (iZ v)] M = some (some (.inl (iZ (bc v))), M) := by
  show xfix gX12_bits (0, [some (.inl (iZ v)), none, none], [], M) = _
  rw [xfix_unf, sX12_bits_0]
  simp (disch := omega) only [xk_none, xk_inl, xk_inr, xk_ite, xri_v, xrl_v, xrv_v, xb_z0, xb_z1, xb_b2, if_true, if_false, ite_true, ite_false, iZ_lit, iZ_m1, iZ_m99, iZ_m8, iZ_add, iZ_sub, iZ_mul, iZ_neg, nz0, nzi, iZ_lt, iZ_le, iZ_inj, b2_z, b2_o, ite_bPz, ite_bPo, xb_bP, iZ_xin, if_pos, ite_self, ↓reduceIte, Int.reduceAdd, Int.reduceSub, Int.reduceMul, Int.reduceNeg, Int.reduceLT, Int.reduceLE]
  have h := xfor_up (sg := gX12_bits) (fun i => (4, [some (.inl (iZ v)), some (.inl (iZ (fb_ct (fun k => v.testBit k) i))), some (.inl (iZ i))], [], M)) (a := 0) (n := 9) (by omega) (fun i _ h2 => by
    rw [sX12_bits_4]
    have hi : ¬ (9 : Int) ≤ i := by omega
    simp (disch := omega) only [xk_none, xk_inl, xk_inr, xk_ite, xri_v, xrl_v, xrv_v, xb_z0, xb_z1, xb_b2, if_true, if_false, ite_true, ite_false, iZ_lit, iZ_m1, iZ_m99, iZ_m8, iZ_add, iZ_sub, iZ_mul, iZ_neg, nz0, nzi, iZ_lt, iZ_le, iZ_inj, b2_z, b2_o, ite_bPz, ite_bPo, xb_bP, iZ_xin, if_pos, ite_self, ↓reduceIte, Int.reduceAdd, Int.reduceSub, Int.reduceMul, Int.reduceNeg, Int.reduceLT, Int.reduceLE, iZ_bit, if_neg hi, bP_Z, fb_ct_succ]
    by_cases e : v.testBit i = true <;> simp [e])
  refine h.trans ?_
  rw [xfix_unf, sX12_bits_4]
  simp (disch := omega) only [xk_none, xk_inl, xk_inr, xk_ite, xri_v, xrl_v, xrv_v, xb_z0, xb_z1, xb_b2, if_true, if_false, ite_true, ite_false, iZ_lit, iZ_m1, iZ_m99, iZ_m8, iZ_add, iZ_sub, iZ_mul, iZ_neg, nz0, nzi, iZ_lt, iZ_le, iZ_inj, b2_z, b2_o, ite_bPz, ite_bPo, xb_bP, iZ_xin, if_pos, ite_self, ↓reduceIte, Int.reduceAdd, Int.reduceSub, Int.reduceMul, Int.reduceNeg, Int.reduceLT, Int.reduceLE]
  rfl
def dX (w : Nat) : Int := if w = 0 then 1 else if w = 1 then -1 else 0
def dY (w : Nat) : Int := if w = 2 then 1 else if w = 3 then -1 else 0
def dZ (w : Nat) : Int := if w = 4 then 1 else if w = 5 then -1 else 0
theorem m_stepX {w : Nat} (M : xM) (hw : w < 6) : fX12_stepX [.inl (iZ w)] M = some (some (.inl (iZ (dX w))), M) := by
  show xfix gX12_stepX (0, [some (.inl (iZ w))], [], M) = _
  rw [xfix_unf, sX12_stepX_0]
  rcases (by omega : w = 0 ∨ w = 1 ∨ w = 2 ∨ w = 3 ∨ w = 4 ∨ w = 5) with e | e | e | e | e | e <;> subst e <;> rfl
theorem m_stepY {w : Nat} (M : xM) (hw : w < 6) : fX12_stepY [.inl (iZ w)] M = some (some (.inl (iZ (dY w))), M) := by
  show xfix gX12_stepY (0, [some (.inl (iZ w))], [], M) = _
  rw [xfix_unf, sX12_stepY_0]
  rcases (by omega : w = 0 ∨ w = 1 ∨ w = 2 ∨ w = 3 ∨ w = 4 ∨ w = 5) with e | e | e | e | e | e <;> subst e <;> rfl
theorem m_stepZ {w : Nat} (M : xM) (hw : w < 6) : fX12_stepZ [.inl (iZ w)] M = some (some (.inl (iZ (dZ w))), M) := by
  show xfix gX12_stepZ (0, [some (.inl (iZ w))], [], M) = _
  rw [xfix_unf, sX12_stepZ_0]
  rcases (by omega : w = 0 ∨ w = 1 ∨ w = 2 ∨ w = 3 ∨ w = 4 ∨ w = 5) with e | e | e | e | e | e <;> subst e <;> rfl
theorem m_isCell (x y z : Int) (M : xM) (h1 : -2147483648 ≤ x ∧ x < 2147483648) (h2 : -2147483648 ≤ y ∧ y < 2147483648) (h3 : -2147483648 ≤ z ∧ z < 2147483648) : fX12_isCell [.inl (iZ x), .inl (iZ y), .inl (iZ z)] M = some (some (.inl (bP ((0 ≤ x ∧ x ≤ 7) ∧ (0 ≤ y ∧ y ≤ 7) ∧ (0 ≤ z ∧ z ≤ 7)))), M) := by
  show xfix gX12_isCell (0, [some (.inl (iZ x)), some (.inl (iZ y)), some (.inl (iZ z))], [], M) = _
  rw [xfix_unf, sX12_isCell_0]
  simp (disch := omega) only [xk_none, xk_inl, xk_inr, xk_ite, xri_v, xrl_v, xrv_v, xb_z0, xb_z1, xb_b2, if_true, if_false, ite_true, ite_false, iZ_lit, iZ_m1, iZ_m99, iZ_m8, iZ_add, iZ_sub, iZ_mul, iZ_neg, nz0, nzi, iZ_lt, iZ_le, iZ_inj, b2_z, b2_o, ite_bPz, ite_bPo, xb_bP, iZ_xin, if_pos, ite_self, ↓reduceIte, Int.reduceAdd, Int.reduceSub, Int.reduceMul, Int.reduceNeg, Int.reduceLT, Int.reduceLE, m_isIn]
  by_cases e1 : 0 ≤ x ∧ x ≤ 7
  · by_cases e2 : 0 ≤ y ∧ y ≤ 7
    · by_cases e3 : 0 ≤ z ∧ z ≤ 7
      · rw [if_pos e1, if_pos e2, if_pos e3, bP_t ⟨e1, e2, e3⟩]
      · rw [if_pos e1, if_pos e2, if_neg e3, bP_f (fun h => e3 h.2.2)]
    · rw [if_pos e1, if_neg e2, bP_f (fun h => e2 h.2.1)]
  · rw [if_neg e1, bP_f (fun h => e1 h.1)]
/-- the thing as both sides keep it: parts, cells, joints (how many; one, two, at, way), prices, bent, swollen -/
abbrev dA : Type := Nat × (Nat → Int) × Nat × (Nat → Nat) × (Nat → Nat) × (Nat → Nat) × (Nat → Nat) × (Nat → Nat) × (Nat → Bool) × (Nat → Bool)
def aP (A : dA) : Nat := A.1
def aC (A : dA) : Nat → Int := A.2.1
def aJ (A : dA) : Nat := A.2.2.1
def aOne (A : dA) : Nat → Nat := A.2.2.2.1
def aTwo (A : dA) : Nat → Nat := A.2.2.2.2.1
def aAt (A : dA) : Nat → Nat := A.2.2.2.2.2.1
def aWay (A : dA) : Nat → Nat := A.2.2.2.2.2.2.1
def aPr (A : dA) : Nat → Nat := A.2.2.2.2.2.2.2.1
def aBent (A : dA) : Nat → Bool := A.2.2.2.2.2.2.2.2.1
def aSw (A : dA) : Nat → Bool := A.2.2.2.2.2.2.2.2.2
/-- a thing as it may be -/
def aOk (A : dA) : Prop := aP A ≤ 9 ∧ aJ A ≤ 8 ∧ (∀ c, c < 512 → -1 ≤ aC A c ∧ aC A c < aP A) ∧ (∀ j, j < aJ A → aOne A j < aP A ∧ aTwo A j < aP A ∧ aOne A j ≠ aTwo A j ∧ aAt A j < 512 ∧ aWay A j < 6) ∧ (∀ w, w < 7 → aPr A w ≤ 99)
/-- the reference holds the thing -/
def mA (M : xM) (A : dA) : Prop := aOk A ∧ xI M (12, 0) 2 = iZ (aP A) ∧ xI M (12, 0) 3 = iZ (aJ A) ∧ (∀ c, c < 512 → xI M (100, 0) c = iZ (aC A c)) ∧ (∀ j, j < aJ A → xI M (104, 0) j = iZ (aOne A j) ∧ xI M (105, 0) j = iZ (aTwo A j) ∧ xI M (106, 0) j = iZ (aAt A j) ∧ xI M (107, 0) j = iZ (aWay A j)) ∧ (∀ w, w < 7 → xI M (108, 0) w = iZ (aPr A w)) ∧ (∀ p, p < 9 → xI M (109, 0) p = bP (aBent A p = true)) ∧ (∀ k, k < 54 → xI M (159, 0) k = bP (aSw A k = true))
theorem mA.P {M : xM} {A : dA} (h : mA M A) : mP M (aP A) := ⟨h.2.1, h.1.1⟩
theorem mA.ok {M : xM} {A : dA} (h : mA M A) : aOk A := h.1
theorem mA.J {M : xM} {A : dA} (h : mA M A) : xI M (12, 0) 3 = iZ (aJ A) := h.2.2.1
theorem mA.C {M : xM} {A : dA} (h : mA M A) {c : Nat} (hc : c < 512) : xI M (100, 0) c = iZ (aC A c) := h.2.2.2.1 c hc
theorem mA.Jt {M : xM} {A : dA} (h : mA M A) {j : Nat} (hj : j < aJ A) : xI M (104, 0) j = iZ (aOne A j) ∧ xI M (105, 0) j = iZ (aTwo A j) ∧ xI M (106, 0) j = iZ (aAt A j) ∧ xI M (107, 0) j = iZ (aWay A j) := h.2.2.2.2.1 j hj
theorem aOk.P {A : dA} (h : aOk A) : aP A ≤ 9 := h.1
theorem aOk.J {A : dA} (h : aOk A) : aJ A ≤ 8 := h.2.1
theorem aOk.C {A : dA} (h : aOk A) {c : Nat} (hc : c < 512) : -1 ≤ aC A c ∧ aC A c < aP A := h.2.2.1 c hc
theorem aOk.Jt {A : dA} (h : aOk A) {j : Nat} (hj : j < aJ A) : aOne A j < aP A ∧ aTwo A j < aP A ∧ aOne A j ≠ aTwo A j ∧ aAt A j < 512 ∧ aWay A j < 6 := h.2.2.2.1 j hj
/-- whose cell it is, -1 for nobody's and outside -/
noncomputable def aat (A : dA) (x y z : Int) : Int := @ite _ ((0 ≤ x ∧ x ≤ 7) ∧ (0 ≤ y ∧ y ≤ 7) ∧ (0 ≤ z ∧ z ≤ 7)) (Classical.propDecidable _) (aC A (64 * z + 8 * y + x).toNat) (-1)
theorem m_at {A : dA} (x y z : Int) (M : xM) (h : mA M A) (h1 : -2147483648 ≤ x ∧ x < 2147483648) (h2 : -2147483648 ≤ y ∧ y < 2147483648) (h3 : -2147483648 ≤ z ∧ z < 2147483648) : fX12_at [.inr (.inr (12, 0)), .inl (iZ x), .inl (iZ y), .inl (iZ z)] M = some (some (.inl (iZ (aat A x y z))), M) := by
  show xfix gX12_at (0, [some (.inr (.inr (12, 0))), some (.inl (iZ x)), some (.inl (iZ y)), some (.inl (iZ z))], [], M) = _
  rw [xfix_unf, sX12_at_0]
  simp (disch := omega) only [xk_none, xk_inl, xk_inr, xk_ite, xri_v, xrl_v, xrv_v, xb_z0, xb_z1, xb_b2, if_true, if_false, ite_true, ite_false, iZ_lit, iZ_m1, iZ_m99, iZ_m8, iZ_add, iZ_sub, iZ_mul, iZ_neg, nz0, nzi, iZ_lt, iZ_le, iZ_inj, b2_z, b2_o, ite_bPz, ite_bPo, xb_bP, iZ_xin, if_pos, ite_self, ↓reduceIte, Int.reduceAdd, Int.reduceSub, Int.reduceMul, Int.reduceNeg, Int.reduceLT, Int.reduceLE, m_isCell]
  by_cases e : (0 ≤ x ∧ x ≤ 7) ∧ (0 ≤ y ∧ y ≤ 7) ∧ (0 ≤ z ∧ z ≤ 7)
  · rw [if_pos e, aat, if_pos e]
    simp (disch := omega) only [xk_none, xk_inl, xk_inr, xk_ite, xri_v, xrl_v, xrv_v, xb_z0, xb_z1, xb_b2, if_true, if_false, ite_true, ite_false, iZ_lit, iZ_m1, iZ_m99, iZ_m8, iZ_add, iZ_sub, iZ_mul, iZ_neg, nz0, nzi, iZ_lt, iZ_le, iZ_inj, b2_z, b2_o, ite_bPz, ite_bPo, xb_bP, iZ_xin, if_pos, ite_self, ↓reduceIte, Int.reduceAdd, Int.reduceSub, Int.reduceMul, Int.reduceNeg, Int.reduceLT, Int.reduceLE, iZ_clamp]
    rw [h.C (by omega)]
  · rw [if_neg e, aat, if_neg e]
theorem m_isHalf {P : Nat} (a b : Int) (M : xM) (hP : mP M P) (h1 : -2147483648 ≤ a ∧ a < 2147483648) (h2 : -2147483648 ≤ b ∧ b < 2147483648) : fX12_isHalf [.inr (.inr (12, 0)), .inl (iZ a), .inl (iZ b)] M = some (some (.inl (bP (∃ h k : Nat, a = h ∧ b = k ∧ 0 < k ∧ k < h ∧ h < 2 ^ P ∧ ndn k h = 0))), M) := by
  show xfix gX12_isHalf (0, [some (.inr (.inr (12, 0))), some (.inl (iZ a)), some (.inl (iZ b))], [], M) = _
  have hp := pow9 hP.2
  rw [xfix_unf, sX12_isHalf_0, m_isHeap a M hP h1]
  simp (disch := omega) only [xk_none, xk_inl, xk_inr, xk_ite, xri_v, xrl_v, xrv_v, xb_z0, xb_z1, xb_b2, if_true, if_false, ite_true, ite_false, iZ_lit, iZ_m1, iZ_m99, iZ_m8, iZ_add, iZ_sub, iZ_mul, iZ_neg, nz0, nzi, iZ_lt, iZ_le, iZ_inj, b2_z, b2_o, ite_bPz, ite_bPo, xb_bP, iZ_xin, if_pos, ite_self, ↓reduceIte, Int.reduceAdd, Int.reduceSub, Int.reduceMul, Int.reduceNeg, Int.reduceLT, Int.reduceLE]
  by_cases e1 : 0 < a ∧ a < ((2 ^ P : Nat) : Int)
  · rw [if_pos e1]
    by_cases e2 : b ≤ 0
    · rw [if_pos e2, bP_f (fun ⟨h, k, _, x2, x3, _⟩ => by omega)]
    · rw [if_neg e2]
      by_cases e3 : b = a
      · rw [if_pos e3, bP_f (fun ⟨h, k, x1, x2, x3, x4, _⟩ => by omega)]
      · rw [if_neg e3]
        obtain ⟨h, rfl⟩ : ∃ h : Nat, a = h := ⟨a.toNat, by omega⟩
        obtain ⟨k, rfl⟩ : ∃ k : Nat, b = k := ⟨b.toNat, by omega⟩
        have hk : ndn k h ≤ k := ndn_le k h
        simp (disch := omega) only [xk_none, xk_inl, xk_inr, xk_ite, xri_v, xrl_v, xrv_v, xb_z0, xb_z1, xb_b2, if_true, if_false, ite_true, ite_false, iZ_lit, iZ_m1, iZ_m99, iZ_m8, iZ_add, iZ_sub, iZ_mul, iZ_neg, nz0, nzi, iZ_lt, iZ_le, iZ_inj, b2_z, b2_o, ite_bPz, ite_bPo, xb_bP, iZ_xin, if_pos, ite_self, ↓reduceIte, Int.reduceAdd, Int.reduceSub, Int.reduceMul, Int.reduceNeg, Int.reduceLT, Int.reduceLE, iZ_ndn, iZ_z]
        by_cases e4 : ndn k h = 0
        · rw [if_pos e4, bP_t ⟨h, k, rfl, rfl, by omega, by have := ndn_sub e4; omega, by omega, e4⟩]
        · rw [if_neg e4, bP_f (fun ⟨h', k', x1, x2, x3, x4, x5, x6⟩ => e4 (by rw [show h = h' by omega, show k = k' by omega]; exact x6))]
  · rw [if_neg e1, bP_f (fun ⟨h, k, x1, x2, x3, x4, x5, x6⟩ => e1 ⟨by omega, by omega⟩)]
/-- what a loop from below answers: all that are left are good -/
theorem all_from {P : Nat → Prop} {i n : Nat} (h : i < n) : (∀ k, i ≤ k → k < n → P k) ↔ P i ∧ ∀ k, i + 1 ≤ k → k < n → P k :=
  ⟨fun x => ⟨x i (Nat.le_refl i) h, fun k h1 h2 => x k (by omega) h2⟩, fun x k h1 h2 => if e : k = i then e ▸ x.1 else x.2 k (by omega) h2⟩
theorem ex_from {P : Nat → Prop} {i n : Nat} (h : i < n) : (∃ k, i ≤ k ∧ k < n ∧ P k) ↔ P i ∨ ∃ k, i + 1 ≤ k ∧ k < n ∧ P k :=
  ⟨fun ⟨k, h1, h2, h3⟩ => if e : k = i then .inl (e ▸ h3) else .inr ⟨k, by omega, h2, h3⟩, fun x => x.elim (fun x => ⟨i, Nat.le_refl i, h, x⟩) (fun ⟨k, h1, h2, h3⟩ => ⟨k, by omega, h2, h3⟩)⟩
/-- a loop that counts up and may leave early -/
theorem xfor_all {sg : xS → Option xX} {st : Nat → xS} {R : Nat → Option (Option xV × xM)} {n : Nat} (h : ∀ i, i < n → xfix sg (st (i + 1)) = R (i + 1) → xfix sg (st i) = R i) (h2 : xfix sg (st n) = R n) : ∀ {i : Nat}, i ≤ n → xfix sg (st i) = R i := by
  intro i hi
  obtain ⟨d, e⟩ : ∃ d, n = i + d := ⟨n - i, by omega⟩
  induction d generalizing i with
  | zero => rw [Nat.add_zero] at e; subst e; exact h2
  | succ d ih => exact h i (by omega) (ih (by omega) (by omega))
/-- barred rows -/
def mB (M : xM) (B : Nat → Nat) : Prop := (∀ k, k < 54 → xI M (132, 0) k = iZ (B k)) ∧ ∀ k, B k < 512
def lv (P : Nat) (B : Nat → Nat) (heap half w : Nat) : Prop := ∀ p, p < P → half.testBit p = true → ndn (B (6 * p + w) &&& heap) half = 0
theorem m_leaves {P heap half w : Nat} {B : Nat → Nat} {M : xM} (hP : mP M P) (hB : mB M B) (h1 : heap < 512) (h2 : half < 512) (hw : w < 6) : fX12_leaves [.inr (.inr (12, 0)), .inl (iZ heap), .inl (iZ half), .inl (iZ w)] M = some (some (.inl (bP (lv P B heap half w))), M) := by
  show xfix gX12_leaves (0, [some (.inr (.inr (12, 0))), some (.inl (iZ heap)), some (.inl (iZ half)), some (.inl (iZ w)), none], [], M) = _
  have hP9 := hP.2
  rw [xfix_unf, sX12_leaves_0]
  simp (disch := omega) only [xk_none, xk_inl, xk_inr, xk_ite, xri_v, xrl_v, xrv_v, xb_z0, xb_z1, xb_b2, if_true, if_false, ite_true, ite_false, iZ_lit, iZ_m1, iZ_m99, iZ_m8, iZ_add, iZ_sub, iZ_mul, iZ_neg, nz0, nzi, iZ_lt, iZ_le, iZ_inj, b2_z, b2_o, ite_bPz, ite_bPo, xb_bP, iZ_xin, if_pos, ite_self, ↓reduceIte, Int.reduceAdd, Int.reduceSub, Int.reduceMul, Int.reduceNeg, Int.reduceLT, Int.reduceLE]
  have h := xfor_all (sg := gX12_leaves) (st := fun i => (3, [some (.inr (.inr (12, 0))), some (.inl (iZ heap)), some (.inl (iZ half)), some (.inl (iZ w)), some (.inl (iZ i))], [], M)) (R := fun i => some (some (.inl (bP (∀ p, i ≤ p → p < P → half.testBit p = true → ndn (B (6 * p + w) &&& heap) half = 0))), M)) (n := P) (fun i hi ih => by
    rw [xfix_unf, sX12_leaves_3, all_from hi]
    have e0 : ¬ (P : Int) ≤ i := by omega
    have e1 : (6 * (i : Int) + w).toNat = 6 * i + w := by omega
    have e2 : ndn (B (6 * i + w) &&& heap) half < 512 := Nat.lt_of_le_of_lt (ndn_le _ _) (Nat.lt_of_le_of_lt Nat.and_le_left (hB.2 (6 * i + w)))
    simp (disch := omega) only [xk_none, xk_inl, xk_inr, xk_ite, xri_v, xrl_v, xrv_v, xb_z0, xb_z1, xb_b2, if_true, if_false, ite_true, ite_false, iZ_lit, iZ_m1, iZ_m99, iZ_m8, iZ_add, iZ_sub, iZ_mul, iZ_neg, nz0, nzi, iZ_lt, iZ_le, iZ_inj, b2_z, b2_o, ite_bPz, ite_bPo, xb_bP, iZ_xin, if_pos, ite_self, ↓reduceIte, Int.reduceAdd, Int.reduceSub, Int.reduceMul, Int.reduceNeg, Int.reduceLT, Int.reduceLE, hP.1, if_neg e0, iZ_bit, iZ_clamp, e1, hB.1 (6 * i + w) (by omega), iZ_and, iZ_ndn]
    rw [nS] at ih
    rw [ih]
    by_cases e3 : half.testBit i = true
    · by_cases e4 : ndn (B (6 * i + w) &&& heap) half = 0
      · simp only [e3, e4, if_true, true_implies, true_and]
      · simp only [e3, e4, if_true, if_false, true_implies, false_and, bP_f (not_false)]
    · rw [if_neg e3]
      simp only [e3, false_implies, true_and, Bool.false_eq_true]) (by
    rw [xfix_unf, sX12_leaves_3]
    simp (disch := omega) only [xk_none, xk_inl, xk_inr, xk_ite, xri_v, xrl_v, xrv_v, xb_z0, xb_z1, xb_b2, if_true, if_false, ite_true, ite_false, iZ_lit, iZ_m1, iZ_m99, iZ_m8, iZ_add, iZ_sub, iZ_mul, iZ_neg, nz0, nzi, iZ_lt, iZ_le, iZ_inj, b2_z, b2_o, ite_bPz, ite_bPo, xb_bP, iZ_xin, if_pos, ite_self, ↓reduceIte, Int.reduceAdd, Int.reduceSub, Int.reduceMul, Int.reduceNeg, Int.reduceLT, Int.reduceLE, hP.1]
    rw [bP_t (fun p h1 h2 => by omega)]) (i := 0) (by omega)
  refine h.trans ?_
  unfold lv
  simp only [Nat.zero_le, true_implies]
theorem m_leavesSomehow {P heap half : Nat} {B : Nat → Nat} {M : xM} (hP : mP M P) (hB : mB M B) (h1 : heap < 512) (h2 : half < 512) : fX12_leavesSomehow [.inr (.inr (12, 0)), .inl (iZ heap), .inl (iZ half)] M = some (some (.inl (bP (∃ w, w < 6 ∧ lv P B heap half w))), M) := by
  show xfix gX12_leavesSomehow (0, [some (.inr (.inr (12, 0))), some (.inl (iZ heap)), some (.inl (iZ half)), none], [], M) = _
  rw [xfix_unf, sX12_leavesSomehow_0]
  simp (disch := omega) only [xk_none, xk_inl, xk_inr, xk_ite, xri_v, xrl_v, xrv_v, xb_z0, xb_z1, xb_b2, if_true, if_false, ite_true, ite_false, iZ_lit, iZ_m1, iZ_m99, iZ_m8, iZ_add, iZ_sub, iZ_mul, iZ_neg, nz0, nzi, iZ_lt, iZ_le, iZ_inj, b2_z, b2_o, ite_bPz, ite_bPo, xb_bP, iZ_xin, if_pos, ite_self, ↓reduceIte, Int.reduceAdd, Int.reduceSub, Int.reduceMul, Int.reduceNeg, Int.reduceLT, Int.reduceLE]
  have h := xfor_all (sg := gX12_leavesSomehow) (st := fun i => (2, [some (.inr (.inr (12, 0))), some (.inl (iZ heap)), some (.inl (iZ half)), some (.inl (iZ i))], [], M)) (R := fun i => some (some (.inl (bP (∃ w, i ≤ w ∧ w < 6 ∧ lv P B heap half w))), M)) (n := 6) (fun i hi ih => by
    rw [xfix_unf, sX12_leavesSomehow_2, ex_from hi]
    have e0 : ¬ (6 : Int) ≤ i := by omega
    simp (disch := omega) only [xk_none, xk_inl, xk_inr, xk_ite, xri_v, xrl_v, xrv_v, xb_z0, xb_z1, xb_b2, if_true, if_false, ite_true, ite_false, iZ_lit, iZ_m1, iZ_m99, iZ_m8, iZ_add, iZ_sub, iZ_mul, iZ_neg, nz0, nzi, iZ_lt, iZ_le, iZ_inj, b2_z, b2_o, ite_bPz, ite_bPo, xb_bP, iZ_xin, if_pos, ite_self, ↓reduceIte, Int.reduceAdd, Int.reduceSub, Int.reduceMul, Int.reduceNeg, Int.reduceLT, Int.reduceLE, if_neg e0, m_leaves hP hB h1 h2 hi]
    rw [nS] at ih
    rw [ih]
    by_cases e3 : lv P B heap half i
    · rw [if_pos e3, bP_t (.inl e3)]
    · rw [if_neg e3]
      simp only [e3, false_or]) (by
    rw [xfix_unf, sX12_leavesSomehow_2]
    simp (disch := omega) only [xk_none, xk_inl, xk_inr, xk_ite, xri_v, xrl_v, xrv_v, xb_z0, xb_z1, xb_b2, if_true, if_false, ite_true, ite_false, iZ_lit, iZ_m1, iZ_m99, iZ_m8, iZ_add, iZ_sub, iZ_mul, iZ_neg, nz0, nzi, iZ_lt, iZ_le, iZ_inj, b2_z, b2_o, ite_bPz, ite_bPo, xb_bP, iZ_xin, if_pos, ite_self, ↓reduceIte, Int.reduceAdd, Int.reduceSub, Int.reduceMul, Int.reduceNeg, Int.reduceLT, Int.reduceLE]
    rw [bP_f (fun ⟨w, h1, h2, _⟩ => by omega)]) (i := 0) (by omega)
  refine h.trans ?_
  simp only [Nat.zero_le, true_and]
