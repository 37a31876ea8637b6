/-! the class: who bars a half -/
/-- the parts that bar one of a half -/
noncomputable def bwy (P : Nat) (B : Nat → Nat) (half w : Nat) : Nat := msk (fun q => ∃ p, p < P ∧ half.testBit p = true ∧ (B (6 * p + w)).testBit q = true) 9
/-- the class's rows of barring parts are those of B -/
def cWy (M : xM) (k P : Nat) (B : Nat → Nat) : Prop := ∀ half, half < 2 ^ P → ∀ w, w < 6 → ∀ q, q < 9 → (lB (xL M (50, k) half) (9 * w + q) = true ↔ ∃ p, p < P ∧ half.testBit p = true ∧ (B (6 * p + w)).testBit q = true)
theorem bt_511 : ∀ i, i < 32 → bt 511 i = decide (i < 9) := by decide +kernel
theorem i32_ext {a b : Int32} (h : ∀ i, i < 32 → bt a i = bt b i) : a = b := Int32.toBitVec_inj.mp (BitVec.eq_of_getLsbD_eq fun i hi => h i hi)
theorem bt_l2i (v : Int64) {i : Nat} (hi : i < 32) : bt (Int64.toInt32 v) i = lB v i := by
  unfold bt lB
  rw [Int64.toBitVec_toInt32, BitVec.getLsbD_signExtend, decide_eq_true hi, Bool.true_and, if_pos (by omega)]
theorem bt_and (a b : Int32) (i : Nat) : bt (a &&& b) i = (bt a i && bt b i) := by unfold bt; rw [Int32.toBitVec_and, BitVec.getLsbD_and]
theorem lo9 {v : Int64} {f : Nat → Prop} (h : ∀ q, q < 9 → (lB v q = true ↔ f q)) : Int64.toInt32 v &&& 511 = iZ ((msk f 9 : Nat) : Int) := by
  refine i32_ext fun i hi => ?_
  rw [bt_and, bt_l2i v hi, bt_511 i hi, bt_iZ _ hi, Bool.eq_iff_iff, msk_bit, Bool.and_eq_true, decide_eq_true_eq]
  constructor
  · rintro ⟨a, b⟩; exact ⟨b, (h i b).mp a⟩
  · rintro ⟨a, b⟩; exact ⟨(h i a).mpr b, a⟩
theorem x_barring {M : xM} {k P half w : Nat} {B : Nat → Nat} (h : cWy M k P B) (hP : P ≤ 9) (hh : half < 2 ^ P) (hw : w < 6) : fX10_barring [.inr (.inr (10, k)), .inl (iZ (half)), .inl (iZ (w))] M = some (some (.inl (iZ ((bwy P B half w : Nat)))), M) := by
  have h9 : (2 : Nat) ^ P ≤ 512 := Nat.pow_le_pow_right (n := 2) (by omega) hP
  have e1 : (9 : Int) * (w : Int) = ((9 * w : Nat) : Int) := by omega
  have key := lo9 (v := (Int64.toUInt64 (xL M (50, k) half) >>> ((iZ ((9 * w : Nat) : Int)).toInt64.toUInt64 &&& Int64.toUInt64 63)).toInt64) (f := fun q => ∃ p, p < P ∧ half.testBit p = true ∧ (B (6 * p + w)).testBit q = true) (fun q hq => by
    rw [lB_shr (by omega)]
    exact h half hh w hw q hq)
  rw [show (511 : Int32) = iZ 511 from rfl] at key
  show xfix gX10_barring (0, [some (.inr (.inr (10, k))), some (.inl (iZ (half))), some (.inl (iZ (w)))], [], M) = _; rw [xfix_unf, sX10_barring_0]
  simp (disch := omega) only [xk_none, xk_inl, xk_inr, xk_ite, xri_v, xrl_v, xrv_v, xb_z0, xb_z1, xb_b2, if_true, if_false, ite_true, ite_false, iZ_lit, iZ_m1, iZ_m99, iZ_m8, iZ_add, iZ_sub, iZ_mul, iZ_neg, nz0, nzi, iZ_lt, iZ_le, iZ_inj, b2_z, b2_o, ite_bPz, ite_bPo, xb_bP, iZ_xin, if_pos, ite_self, ↓reduceIte, Int.reduceAdd, Int.reduceSub, Int.reduceMul, Int.reduceNeg, Int.reduceLT, Int.reduceLE, if_neg, nS, iZ_clampN, iZ_bit, iZ_one, iZ_and, iZ_or, iZ_ndn, e1, key]
  rfl
theorem bwy_lv {P heap half w : Nat} {B : Nat → Nat} (hB : ∀ k, B k < 512) : ndn (bwy P B half w &&& heap) half = 0 ↔ lv P B heap half w := by
  rw [ndn_z]
  unfold lv bwy
  constructor
  · intro h p hp hpb
    rw [ndn_z]
    intro i hi
    rw [Nat.testBit_and, Bool.and_eq_true] at hi
    refine h i ?_
    rw [Nat.testBit_and, Bool.and_eq_true, msk_bit]
    refine ⟨⟨?_, p, hp, hpb, hi.1⟩, hi.2⟩
    refine Classical.byContradiction fun z => ?_
    have := Nat.testBit_lt_two_pow (Nat.lt_of_lt_of_le (show B (6 * p + w) < 2 ^ 9 from hB _) (show (2 : Nat) ^ 9 ≤ 2 ^ i from Nat.pow_le_pow_right (by omega) (by omega)))
    rw [this] at hi
    cases hi.1
  · intro h i hi
    rw [Nat.testBit_and, Bool.and_eq_true, msk_bit] at hi
    obtain ⟨⟨_, p, p1, p2, p3⟩, h2⟩ := hi
    have := h p p1 p2
    rw [ndn_z] at this
    exact this i (by rw [Nat.testBit_and, p3, h2]; rfl)
theorem bwy_lt (P : Nat) (B : Nat → Nat) (half w : Nat) : bwy P B half w < 512 := msk_lt _ 9
/-- the parts on the way to a joint -/
noncomputable def covS (A : dA) (j : Nat) : Nat := msk (fun p => ∃ k, 1 ≤ k ∧ k < 8 ∧ ray A (aAt A j) (aWay A j) k = (p : Int)) 9
theorem cov_r {A : dA} {j heap : Nat} (hh : heap < 512) : covS A j &&& heap ≠ 0 ↔ ¬ rchd A j heap := by
  constructor
  · intro h hr
    refine h (Nat.eq_of_testBit_eq fun p => ?_)
    rw [Nat.zero_testBit, Nat.testBit_and]
    by_cases y : (covS A j).testBit p = true
    · obtain ⟨_, k, k1, k2, k3⟩ := (msk_bit _ 9 p).mp y
      rw [hr k k1 k2 p k3, Bool.and_false]
    · rw [Bool.not_eq_true] at y
      rw [y, Bool.false_and]
  · intro h e
    refine h fun k k1 k2 p hp => ?_
    by_cases y : heap.testBit p = true
    · have hp9 : p < 9 := by
        refine Classical.byContradiction fun z => ?_
        have := Nat.testBit_lt_two_pow (Nat.lt_of_lt_of_le (show heap < 2 ^ 9 from hh) (show (2 : Nat) ^ 9 ≤ 2 ^ p from Nat.pow_le_pow_right (by omega) (by omega)))
        rw [this] at y
        cases y
      have e2 : (covS A j &&& heap).testBit p = true := by
        rw [Nat.testBit_and, y, Bool.and_true]
        exact (msk_bit _ 9 p).mpr ⟨hp9, k, k1, k2, hp⟩
      rw [e, Nat.zero_testBit] at e2
      cases e2
    · simpa using y
theorem and_nz {a b : Nat} : a &&& b ≠ 0 ↔ ∃ i, a.testBit i = true ∧ b.testBit i = true := by
  constructor
  · intro h
    refine Classical.byContradiction fun n => h (Nat.eq_of_testBit_eq fun i => ?_)
    rw [Nat.zero_testBit, Nat.testBit_and]
    by_cases y : a.testBit i = true
    · by_cases y2 : b.testBit i = true
      · exact absurd ⟨i, y, y2⟩ n
      · rw [Bool.not_eq_true] at y2
        rw [y2, Bool.and_false]
    · rw [Bool.not_eq_true] at y
      rw [y, Bool.false_and]
  · rintro ⟨i, h1, h2⟩ e
    have := Nat.testBit_and a b i
    rw [e, h1, h2, Nat.zero_testBit] at this
    cases this
theorem pr_bit {p q i : Nat} : (2 ^ p ||| 2 ^ q).testBit i = true ↔ i = p ∨ i = q := by
  rw [Nat.testBit_or, Bool.or_eq_true, Nat.testBit_two_pow, Nat.testBit_two_pow, decide_eq_true_eq, decide_eq_true_eq]
  exact ⟨fun z => z.imp Eq.symm Eq.symm, fun z => z.imp Eq.symm Eq.symm⟩
theorem sjt_is {A : dA} {heap half j : Nat} (h1 : aOne A j ≠ aTwo A j) (hh : heap < 512) (hs : ndn half heap = 0) : sjt (fun j => 2 ^ aOne A j ||| 2 ^ aTwo A j) (covS A) heap half j ↔ btw A heap half j ∧ ¬ rchd A j heap := by
  rw [ndn_z] at hs
  unfold sjt btw
  rw [cov_r hh, and_nz]
  have e2 : ndn ((2 ^ aOne A j ||| 2 ^ aTwo A j) &&& heap) half ≠ 0 ↔ ∃ i, (i = aOne A j ∨ i = aTwo A j) ∧ heap.testBit i = true ∧ ¬ half.testBit i = true := by
    rw [ne_eq, ndn_z]
    constructor
    · intro h
      refine Classical.byContradiction fun n => h fun i hi => ?_
      rw [Nat.testBit_and, Bool.and_eq_true, pr_bit] at hi
      exact Classical.byContradiction fun z => n ⟨i, hi.1, hi.2, z⟩
    · rintro ⟨i, i1, i2, i3⟩ h
      exact i3 (h i (by rw [Nat.testBit_and, Bool.and_eq_true, pr_bit]; exact ⟨i1, i2⟩))
  show (∃ i, (2 ^ aOne A j ||| 2 ^ aTwo A j).testBit i = true ∧ half.testBit i = true) ∧ ndn ((2 ^ aOne A j ||| 2 ^ aTwo A j) &&& heap) half ≠ 0 ∧ ¬ rchd A j heap ↔ _
  rw [e2]
  constructor
  · rintro ⟨⟨i, i1, i2⟩, ⟨k, k1, k2, k3⟩, z⟩
    rw [pr_bit] at i1
    have hi := hs i i2
    refine ⟨?_, z⟩
    rcases i1 with e | e <;> rcases k1 with e' | e' <;> subst e <;> subst e'
    · exact absurd i2 k3
    · exact ⟨hi, k2, fun w => k3 (w ▸ i2)⟩
    · exact ⟨k2, hi, fun w => k3 (w.symm ▸ i2)⟩
    · exact absurd i2 k3
  · rintro ⟨⟨b1, b2, b3⟩, z⟩
    by_cases y : half.testBit (aOne A j) = true
    · exact ⟨⟨_, pr_bit.mpr (.inl rfl), y⟩, ⟨aTwo A j, .inr rfl, b2, fun w => b3 (y.trans w.symm)⟩, z⟩
    · have y2 : half.testBit (aTwo A j) = true := by
        rw [Bool.not_eq_true] at y
        rw [y] at b3
        simpa using b3.symm
      exact ⟨⟨_, pr_bit.mpr (.inr rfl), y2⟩, ⟨aOne A j, .inl rfl, b1, y⟩, z⟩
