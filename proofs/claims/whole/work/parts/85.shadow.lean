/-! the class: shadows of sets of cells -/
theorem msk_cg {p q : Nat → Prop} {n : Nat} (h : ∀ i, i < n → (p i ↔ q i)) : msk p n = msk q n := msk_ext (msk_lt p n) fun i hi => by
  rw [msk_bit]
  exact ⟨fun z => (h i hi).mp z.2, fun z => ⟨hi, (h i hi).mpr z⟩⟩
theorem msk_t {p : Nat → Prop} {n : Nat} (h : p n) : msk p (n + 1) = msk p n ||| 2 ^ n := by
  refine (msk_ext (Nat.or_lt_two_pow (Nat.lt_trans (msk_lt p n) (Nat.pow_lt_pow_right (by omega) (by omega))) (Nat.pow_lt_pow_right (by omega) (by omega))) fun i hi => ?_).symm
  rw [Nat.testBit_or, Bool.or_eq_true, msk_bit, Nat.testBit_two_pow, decide_eq_true_eq]
  constructor
  · rintro (z | z)
    · exact z.2
    · exact z ▸ h
  · intro z
    by_cases e : i = n
    · exact .inr e.symm
    · exact .inl ⟨by omega, z⟩
theorem msk_f {p : Nat → Prop} {n : Nat} (h : ¬ p n) : msk p (n + 1) = msk p n := by
  refine (msk_ext (Nat.lt_trans (msk_lt p n) (Nat.pow_lt_pow_right (by omega) (by omega))) fun i hi => ?_).symm
  rw [msk_bit]
  constructor
  · exact fun z => z.2
  · intro z
    refine ⟨?_, z⟩
    by_cases e : i = n
    · exact absurd (e ▸ z) h
    · omega
theorem msk_0 (p : Nat → Prop) : msk p 0 = 0 := by
  have := msk_lt p 0
  omega
noncomputable def shW (f : Nat → Bool) (a : Nat) : Nat := msk (fun v => ∃ c, c < 512 ∧ f c = true ∧ alg c a = v) 8
theorem x_lowest {M : xM} {b : Nat} (hb : b < 256) : fX6_lowest [.inl (iZ (b))] M = some (some (.inl (iZ (if b = 0 then 0 else (jLw b 8 : Int)))), M) := by
  have hl : jLw b 8 ≤ 8 := lst_le _ _
  have lp := xfor_F (sg := gX6_lowest) (fun i => (2, [some (.inl (iZ (b))), some (.inl (iZ (i)))], [], M)) (a := 0) (n := jLw b 8) (by omega) (fun i _ hi => by
    have hno : ¬ b.testBit i = true := lst_no (fun p => b.testBit p = true) 8 i hi
    rw [nS]
    rw [xfix_unf, sX6_lowest_2]
    simp (disch := omega) only [xk_none, xk_inl, xk_inr, xk_ite, xri_v, xrl_v, xrv_v, xb_z0, xb_z1, xb_b2, if_true, if_false, ite_true, ite_false, iZ_lit, iZ_m1, iZ_m99, iZ_m8, iZ_add, iZ_sub, iZ_mul, iZ_neg, nz0, nzi, iZ_lt, iZ_le, iZ_inj, b2_z, b2_o, ite_bPz, ite_bPo, xb_bP, iZ_xin, if_pos, ite_self, ↓reduceIte, Int.reduceAdd, Int.reduceSub, Int.reduceMul, Int.reduceNeg, Int.reduceLT, Int.reduceLE, if_neg, nS, iZ_clampN, iZ_bit, iZ_one, iZ_and, iZ_or, iZ_ndn, bP_f hno])
  show xfix gX6_lowest (0, [some (.inl (iZ (b))), none], [], M) = _; rw [xfix_unf, sX6_lowest_0]
  simp (disch := omega) only [xk_none, xk_inl, xk_inr, xk_ite, xri_v, xrl_v, xrv_v, xb_z0, xb_z1, xb_b2, if_true, if_false, ite_true, ite_false, iZ_lit, iZ_m1, iZ_m99, iZ_m8, iZ_add, iZ_sub, iZ_mul, iZ_neg, nz0, nzi, iZ_lt, iZ_le, iZ_inj, b2_z, b2_o, ite_bPz, ite_bPo, xb_bP, iZ_xin, if_pos, ite_self, ↓reduceIte, Int.reduceAdd, Int.reduceSub, Int.reduceMul, Int.reduceNeg, Int.reduceLT, Int.reduceLE, if_neg]
  refine Eq.trans lp ?_
  by_cases e : b = 0
  · rw [if_pos e]
    have h8 : jLw b 8 = 8 := by
      subst e
      exact lst_eq (Nat.le_refl _) (fun i _ => by simp) (fun z => by omega)
    rw [h8]
    have e8 : ((8 : Nat) : Int) = 8 := rfl
    rw [xfix_unf, sX6_lowest_2]
    simp (disch := omega) only [xk_none, xk_inl, xk_inr, xk_ite, xri_v, xrl_v, xrv_v, xb_z0, xb_z1, xb_b2, if_true, if_false, ite_true, ite_false, iZ_lit, iZ_m1, iZ_m99, iZ_m8, iZ_add, iZ_sub, iZ_mul, iZ_neg, nz0, nzi, iZ_lt, iZ_le, iZ_inj, b2_z, b2_o, ite_bPz, ite_bPo, xb_bP, iZ_xin, if_pos, ite_self, ↓reduceIte, Int.reduceAdd, Int.reduceSub, Int.reduceMul, Int.reduceNeg, Int.reduceLT, Int.reduceLE, if_neg, e8]
  · rw [if_neg e]
    have h8 := jLw_lt (n := 8) e (by omega)
    have hy : b.testBit (jLw b 8) = true := lst_is (fun p => b.testBit p = true) 8 h8
    rw [xfix_unf, sX6_lowest_2]
    simp (disch := omega) only [xk_none, xk_inl, xk_inr, xk_ite, xri_v, xrl_v, xrv_v, xb_z0, xb_z1, xb_b2, if_true, if_false, ite_true, ite_false, iZ_lit, iZ_m1, iZ_m99, iZ_m8, iZ_add, iZ_sub, iZ_mul, iZ_neg, nz0, nzi, iZ_lt, iZ_le, iZ_inj, b2_z, b2_o, ite_bPz, ite_bPo, xb_bP, iZ_xin, if_pos, ite_self, ↓reduceIte, Int.reduceAdd, Int.reduceSub, Int.reduceMul, Int.reduceNeg, Int.reduceLT, Int.reduceLE, if_neg, nS, iZ_clampN, iZ_bit, iZ_one, iZ_and, iZ_or, iZ_ndn, bP_t hy]
noncomputable def jHw (b : Nat) : Int := hst (fun p => b.testBit p = true) 8
theorem x_highest {M : xM} {b : Nat} (hb : b < 256) : fX6_highest [.inl (iZ (b))] M = some (some (.inl (iZ (if b = 0 then 0 else jHw b))), M) := by
  have gen : ∀ n : Nat, n ≤ 8 → xfix gX6_highest (3, [some (.inl (iZ (b))), some (.inl (iZ (((n : Int) - 1))))], [], M) = some (some (.inl (iZ (if hst (fun p => b.testBit p = true) n = -1 then 0 else hst (fun p => b.testBit p = true) n))), M) := by
    intro n
    induction n with
    | zero =>
      intro _
      rw [show hst (fun p => b.testBit p = true) 0 = -1 from rfl, if_pos rfl]
      have e0 : ((0 : Nat) : Int) - 1 = -1 := rfl
      rw [e0]
      rw [xfix_unf, sX6_highest_3]
      simp (disch := omega) only [xk_none, xk_inl, xk_inr, xk_ite, xri_v, xrl_v, xrv_v, xb_z0, xb_z1, xb_b2, if_true, if_false, ite_true, ite_false, iZ_lit, iZ_m1, iZ_m99, iZ_m8, iZ_add, iZ_sub, iZ_mul, iZ_neg, nz0, nzi, iZ_lt, iZ_le, iZ_inj, b2_z, b2_o, ite_bPz, ite_bPo, xb_bP, iZ_xin, if_pos, ite_self, ↓reduceIte, Int.reduceAdd, Int.reduceSub, Int.reduceMul, Int.reduceNeg, Int.reduceLT, Int.reduceLE, if_neg]
    | succ n ih =>
      intro hn
      have e1 : ((n + 1 : Nat) : Int) - 1 = (n : Int) := by omega
      rw [e1]
      by_cases y : b.testBit n = true
      · have eh : hst (fun p => b.testBit p = true) (n + 1) = n := by unfold hst; rw [if_pos y]
        rw [eh, if_neg (by omega)]
        rw [xfix_unf, sX6_highest_3]
        simp (disch := omega) only [xk_none, xk_inl, xk_inr, xk_ite, xri_v, xrl_v, xrv_v, xb_z0, xb_z1, xb_b2, if_true, if_false, ite_true, ite_false, iZ_lit, iZ_m1, iZ_m99, iZ_m8, iZ_add, iZ_sub, iZ_mul, iZ_neg, nz0, nzi, iZ_lt, iZ_le, iZ_inj, b2_z, b2_o, ite_bPz, ite_bPo, xb_bP, iZ_xin, if_pos, ite_self, ↓reduceIte, Int.reduceAdd, Int.reduceSub, Int.reduceMul, Int.reduceNeg, Int.reduceLT, Int.reduceLE, if_neg, nS, iZ_clampN, iZ_bit, iZ_one, iZ_and, iZ_or, iZ_ndn, bP_t y]
      · have eh : hst (fun p => b.testBit p = true) (n + 1) = hst (fun p => b.testBit p = true) n := by
          conv => lhs; unfold hst
          rw [if_neg y]
        rw [eh, ← ih (by omega)]
        have e2 : (n : Int) + -1 = n - 1 := rfl
        rw [xfix_unf, sX6_highest_3]
        simp (disch := omega) only [xk_none, xk_inl, xk_inr, xk_ite, xri_v, xrl_v, xrv_v, xb_z0, xb_z1, xb_b2, if_true, if_false, ite_true, ite_false, iZ_lit, iZ_m1, iZ_m99, iZ_m8, iZ_add, iZ_sub, iZ_mul, iZ_neg, nz0, nzi, iZ_lt, iZ_le, iZ_inj, b2_z, b2_o, ite_bPz, ite_bPo, xb_bP, iZ_xin, if_pos, ite_self, ↓reduceIte, Int.reduceAdd, Int.reduceSub, Int.reduceMul, Int.reduceNeg, Int.reduceLT, Int.reduceLE, if_neg, nS, iZ_clampN, iZ_bit, iZ_one, iZ_and, iZ_or, iZ_ndn, bP_f y, e2]
  have := gen 8 (by omega)
  show xfix gX6_highest (0, [some (.inl (iZ (b))), none], [], M) = _; rw [xfix_unf, sX6_highest_0]
  simp (disch := omega) only [xk_none, xk_inl, xk_inr, xk_ite, xri_v, xrl_v, xrv_v, xb_z0, xb_z1, xb_b2, if_true, if_false, ite_true, ite_false, iZ_lit, iZ_m1, iZ_m99, iZ_m8, iZ_add, iZ_sub, iZ_mul, iZ_neg, nz0, nzi, iZ_lt, iZ_le, iZ_inj, b2_z, b2_o, ite_bPz, ite_bPo, xb_bP, iZ_xin, if_pos, ite_self, ↓reduceIte, Int.reduceAdd, Int.reduceSub, Int.reduceMul, Int.reduceNeg, Int.reduceLT, Int.reduceLE, if_neg]
  refine Eq.trans this ?_
  unfold jHw
  by_cases e : b = 0
  · subst e
    rw [if_pos rfl]
    have : ∀ n, hst (fun p => (0 : Nat).testBit p = true) n = -1 := by
      intro n
      induction n with
      | zero => rfl
      | succ n ih => unfold hst; rw [if_neg (by simp)]; exact ih
    rw [this, if_pos rfl]
  · rw [if_neg e, if_neg]
    intro z
    have : ∀ n, hst (fun p => b.testBit p = true) n = -1 → ∀ i, i < n → ¬ b.testBit i = true := by
      intro n
      induction n with
      | zero => intro _ i hi; omega
      | succ n ih =>
        intro h i hi
        unfold hst at h
        by_cases y : b.testBit n = true
        · rw [if_pos y] at h; omega
        · rw [if_neg y] at h
          by_cases e : i = n
          · exact e ▸ y
          · exact ih h i (by omega)
    refine e (Nat.eq_of_testBit_eq fun i => ?_)
    rw [Nat.zero_testBit]
    by_cases hi : i < 8
    · simpa using this 8 z i hi
    · exact Nat.testBit_lt_two_pow (Nat.lt_of_lt_of_le (show b < 2 ^ 8 from hb) (show (2 : Nat) ^ 8 ≤ 2 ^ i from Nat.pow_le_pow_right (by omega) (by omega)))
/-- all planes in one -/
def flt (M : xM) (k : Nat) : Nat → Int64
  | 0 => 0
  | n + 1 => flt M k n ||| xL M (44, k) n
theorem flt_b (M : xM) (k : Nat) : ∀ n i, lB (flt M k n) i = true ↔ ∃ z, z < n ∧ lB (xL M (44, k) z) i = true
  | 0, i => by unfold flt; rw [lB_0]; simp
  | n + 1, i => by
    unfold flt
    rw [lB_or, Bool.or_eq_true, flt_b M k n i]
    constructor
    · rintro (⟨z, z1, z2⟩ | z)
      · exact ⟨z, by omega, z2⟩
      · exact ⟨n, by omega, z⟩
    · rintro ⟨z, z1, z2⟩
      by_cases e : z = n
      · exact .inr (e ▸ z2)
      · exact .inl ⟨z, by omega, z2⟩
/-- the strip of cells that have a number at an axis -/
noncomputable def strp (a v : Nat) : Int64 := if a = 0 then (72340172838076673 : Int64) <<< ((iZ (v : Int)).toInt64 &&& 63) else (255 : Int64) <<< ((iZ ((8 * v : Nat) : Int)).toInt64 &&& 63)
theorem strp_b {a v i : Nat} (ha : a < 2) (hv : v < 8) (hi : i < 64) : lB (strp a v) i = decide (alg i a = v) := by
  unfold strp alg
  rcases (by omega : a = 0 ∨ a = 1) with e | e <;> subst e
  · rw [if_pos rfl, if_pos rfl, lB_shl (by omega)]
    by_cases q : v ≤ i
    · rw [lB_col _ (by omega), decide_eq_true hi, decide_eq_true q, Bool.true_and, Bool.true_and]
      exact decide_eq_decide.mpr (by omega)
    · rw [decide_eq_false q, Bool.and_false, Bool.false_and]
      exact (decide_eq_false (by omega)).symm
  · rw [if_neg (by decide), if_neg (by decide), if_pos rfl, lB_shl (by omega)]
    by_cases q : 8 * v ≤ i
    · rw [lB_row _ (by omega), decide_eq_true hi, decide_eq_true q, Bool.true_and, Bool.true_and]
      exact decide_eq_decide.mpr (by omega)
    · rw [decide_eq_false q, Bool.and_false, Bool.false_and]
      exact (decide_eq_false (by omega)).symm
theorem sh_flat {M : xM} {k a v : Nat} (ha : a < 2) (hv : v < 8) : flt M k 8 &&& strp a v ≠ 0 ↔ ∃ c, c < 512 ∧ sB M k c = true ∧ alg c a = v := by
  have halg : ∀ c, alg (c % 64) a = alg c a := fun c => by
    unfold alg
    rcases (by omega : a = 0 ∨ a = 1) with e | e <;> subst e
    · rw [if_pos rfl, if_pos rfl]; omega
    · rw [if_neg (by decide), if_pos rfl, if_neg (by decide), if_pos rfl]; omega
  constructor
  · intro h
    refine Classical.byContradiction fun n => h (lB_z.mpr fun i hi => ?_)
    rw [lB_and, strp_b ha hv hi]
    by_cases q : alg i a = v
    · by_cases y : lB (flt M k 8) i = true
      · obtain ⟨z, z1, z2⟩ := (flt_b M k 8 i).mp y
        refine absurd ⟨64 * z + i, by omega, ?_, ?_⟩ n
        · unfold sB
          rw [show (64 * z + i) / 64 = z by omega, show (64 * z + i) % 64 = i by omega]
          exact z2
        · rw [← halg, show (64 * z + i) % 64 = i by omega]; exact q
      · rw [Bool.not_eq_true] at y
        rw [y, Bool.false_and]
    · rw [decide_eq_false q, Bool.and_false]
  · rintro ⟨c, c1, c2, c3⟩ h
    have hm : c % 64 < 64 := Nat.mod_lt _ (by decide)
    have := lB_z.mp h (c % 64) hm
    rw [lB_and, strp_b ha hv hm, halg, c3, decide_eq_true rfl, Bool.and_true] at this
    have y : lB (flt M k 8) (c % 64) = true := (flt_b M k 8 _).mpr ⟨c / 64, by omega, c2⟩
    rw [y] at this
    cases this
theorem x_shadow {M : xM} {k a : Nat} (ha : a < 3) : fX6_shadow [.inr (.inr (6, k)), .inl (iZ (a))] M = some (some (.inl (iZ ((shW (sB M k) a : Nat)))), M) := by
  have e8 : ((8 : Nat) : Int) = 8 := rfl
  have o0 : ∀ n : Nat, iZ (n : Int) ||| iZ 0 = iZ (n : Int) := iZ_or0
  by_cases a2 : a = 2
  · subst a2
    have lp := xfor_F (sg := gX6_shadow) (fun i => (7, [some (.inr (.inr (6, k))), some (.inl (iZ (((2 : Nat))))), some (.inl (iZ ((msk (fun z => xL M (44, k) z ≠ 0) i : Nat)))), some (.inr (.inl ((flt M k i)))), none, some (.inl (iZ (i))), none, none], [], M)) (a := 0) (n := 8) (by omega) (fun i _ hi => by
      rw [nS]
      have eF : flt M k (i + 1) = flt M k i ||| xL M (44, k) i := rfl
      rw [eF]
      by_cases y : xL M (44, k) i = 0
      · rw [msk_f (fun z => z y)]
        have hy : lg_cmp (xL M (44, k) i) 0 = iZ 0 := (lg_cmp_eq _ _).mpr y
        have e2 : ((2 : Nat) : Int) = 2 := rfl
        rw [xfix_unf, sX6_shadow_7]
        simp (disch := omega) only [xk_none, xk_inl, xk_inr, xk_ite, xri_v, xrl_v, xrv_v, xb_z0, xb_z1, xb_b2, if_true, if_false, ite_true, ite_false, iZ_lit, iZ_m1, iZ_m99, iZ_m8, iZ_add, iZ_sub, iZ_mul, iZ_neg, nz0, nzi, iZ_lt, iZ_le, iZ_inj, b2_z, b2_o, ite_bPz, ite_bPo, xb_bP, iZ_xin, if_pos, ite_self, ↓reduceIte, Int.reduceAdd, Int.reduceSub, Int.reduceMul, Int.reduceNeg, Int.reduceLT, Int.reduceLE, if_neg, nS, iZ_clampN, iZ_bit, iZ_one, iZ_and, iZ_or, iZ_ndn, e2, hy, o0]
      · rw [msk_t y]
        have hy : ¬ lg_cmp (xL M (44, k) i) 0 = iZ 0 := fun z => y ((lg_cmp_eq _ _).mp z)
        have e2 : ((2 : Nat) : Int) = 2 := rfl
        rw [xfix_unf, sX6_shadow_7]
        simp (disch := omega) only [xk_none, xk_inl, xk_inr, xk_ite, xri_v, xrl_v, xrv_v, xb_z0, xb_z1, xb_b2, if_true, if_false, ite_true, ite_false, iZ_lit, iZ_m1, iZ_m99, iZ_m8, iZ_add, iZ_sub, iZ_mul, iZ_neg, nz0, nzi, iZ_lt, iZ_le, iZ_inj, b2_z, b2_o, ite_bPz, ite_bPo, xb_bP, iZ_xin, if_pos, ite_self, ↓reduceIte, Int.reduceAdd, Int.reduceSub, Int.reduceMul, Int.reduceNeg, Int.reduceLT, Int.reduceLE, if_neg, nS, iZ_clampN, iZ_bit, iZ_one, iZ_and, iZ_or, iZ_ndn, e2, hy])
    show xfix gX6_shadow (0, [some (.inr (.inr (6, k))), some (.inl (iZ (((2 : Nat))))), none, none, none, none, none, none], [], M) = _; rw [xfix_unf, sX6_shadow_0]
    simp (disch := omega) only [xk_none, xk_inl, xk_inr, xk_ite, xri_v, xrl_v, xrv_v, xb_z0, xb_z1, xb_b2, if_true, if_false, ite_true, ite_false, iZ_lit, iZ_m1, iZ_m99, iZ_m8, iZ_add, iZ_sub, iZ_mul, iZ_neg, nz0, nzi, iZ_lt, iZ_le, iZ_inj, b2_z, b2_o, ite_bPz, ite_bPo, xb_bP, iZ_xin, if_pos, ite_self, ↓reduceIte, Int.reduceAdd, Int.reduceSub, Int.reduceMul, Int.reduceNeg, Int.reduceLT, Int.reduceLE, if_neg]
    refine Eq.trans lp ?_
    rw [xfix_unf, sX6_shadow_7]
    simp (disch := omega) only [xk_none, xk_inl, xk_inr, xk_ite, xri_v, xrl_v, xrv_v, xb_z0, xb_z1, xb_b2, if_true, if_false, ite_true, ite_false, iZ_lit, iZ_m1, iZ_m99, iZ_m8, iZ_add, iZ_sub, iZ_mul, iZ_neg, nz0, nzi, iZ_lt, iZ_le, iZ_inj, b2_z, b2_o, ite_bPz, ite_bPo, xb_bP, iZ_xin, if_pos, ite_self, ↓reduceIte, Int.reduceAdd, Int.reduceSub, Int.reduceMul, Int.reduceNeg, Int.reduceLT, Int.reduceLE, if_neg, e8]
    rw [xfix_unf, sX6_shadow_61]
    have e2 : ((2 : Nat) : Int) = 2 := rfl
    simp (disch := omega) only [xk_none, xk_inl, xk_inr, xk_ite, xri_v, xrl_v, xrv_v, xb_z0, xb_z1, xb_b2, if_true, if_false, ite_true, ite_false, iZ_lit, iZ_m1, iZ_m99, iZ_m8, iZ_add, iZ_sub, iZ_mul, iZ_neg, nz0, nzi, iZ_lt, iZ_le, iZ_inj, b2_z, b2_o, ite_bPz, ite_bPo, xb_bP, iZ_xin, if_pos, ite_self, ↓reduceIte, Int.reduceAdd, Int.reduceSub, Int.reduceMul, Int.reduceNeg, Int.reduceLT, Int.reduceLE, if_neg, e2]
    refine congrArg (fun n : Nat => (some (some (Sum.inl (iZ (n : Int))), M) : Option (Option xV × xM))) (show msk (fun z => xL M (44, k) z ≠ 0) 8 = shW (sB M k) 2 from msk_cg fun z hz => ?_)
    constructor
    · intro h
      refine Classical.byContradiction fun n => h (lB_z.mpr fun i hi => ?_)
      by_cases y : lB (xL M (44, k) z) i = true
      · refine absurd ⟨64 * z + i, by omega, ?_, ?_⟩ n
        · unfold sB
          rw [show (64 * z + i) / 64 = z by omega, show (64 * z + i) % 64 = i by omega]
          exact y
        · show alg (64 * z + i) 2 = z
          unfold alg
          rw [if_neg (by decide), if_neg (by decide)]
          omega
      · simpa using y
    · rintro ⟨c, c1, c2, c3⟩ h
      have hm : c % 64 < 64 := Nat.mod_lt _ (by decide)
      have := lB_z.mp h (c % 64) hm
      have e : c / 64 = z := c3
      unfold sB at c2
      rw [e, this] at c2
      cases c2
  · have lp := xfor_F (sg := gX6_shadow) (fun i => (7, [some (.inr (.inr (6, k))), some (.inl (iZ (a))), some (.inl (iZ (((0 : Nat))))), some (.inr (.inl ((flt M k i)))), none, some (.inl (iZ (i))), none, none], [], M)) (a := 0) (n := 8) (by omega) (fun i _ hi => by
      rw [nS]
      have eF : flt M k (i + 1) = flt M k i ||| xL M (44, k) i := rfl
      rw [eF]
      have e0 : ((0 : Nat) : Int) = 0 := rfl
      have o1 : iZ 0 ||| iZ 0 = iZ 0 := iZ_or0 0
      rw [xfix_unf, sX6_shadow_7]
      simp (disch := omega) only [xk_none, xk_inl, xk_inr, xk_ite, xri_v, xrl_v, xrv_v, xb_z0, xb_z1, xb_b2, if_true, if_false, ite_true, ite_false, iZ_lit, iZ_m1, iZ_m99, iZ_m8, iZ_add, iZ_sub, iZ_mul, iZ_neg, nz0, nzi, iZ_lt, iZ_le, iZ_inj, b2_z, b2_o, ite_bPz, ite_bPo, xb_bP, iZ_xin, if_pos, ite_self, ↓reduceIte, Int.reduceAdd, Int.reduceSub, Int.reduceMul, Int.reduceNeg, Int.reduceLT, Int.reduceLE, if_neg, nS, iZ_clampN, iZ_bit, iZ_one, iZ_and, iZ_or, iZ_ndn, e0, o1])
    have lp2 := xfor_F (sg := gX6_shadow) (fun i => (61, [none, some (.inl (iZ (a))), some (.inl (iZ ((msk (fun v => flt M k 8 &&& strp a v ≠ 0) i : Nat)))), some (.inr (.inl ((flt M k 8)))), none, some (.inl (iZ (i))), none, none], [], M)) (a := 0) (n := 8) (by omega) (fun i _ hi => by
      rw [nS]
      have es : xfix gX6_shadow (61, [none, some (.inl (iZ (a))), some (.inl (iZ ((msk (fun v => flt M k 8 &&& strp a v ≠ 0) i : Nat)))), some (.inr (.inl ((flt M k 8)))), none, some (.inl (iZ (i))), none, none], [], M) = xfix gX6_shadow (95, [none, some (.inl (iZ (a))), some (.inl (iZ ((msk (fun v => flt M k 8 &&& strp a v ≠ 0) i : Nat)))), some (.inr (.inl ((flt M k 8)))), none, some (.inl (iZ (i))), none, none], [.inr (.inl ((strp a i)))], M) := by
        have e1 : (8 : Int) * (i : Int) = ((8 * i : Nat) : Int) := by omega
        unfold strp
        by_cases c0 : a = 0
        · subst c0
          have e0 : ((0 : Nat) : Int) = 0 := rfl
          rw [xfix_unf, sX6_shadow_61]
          simp (disch := omega) only [xk_none, xk_inl, xk_inr, xk_ite, xri_v, xrl_v, xrv_v, xb_z0, xb_z1, xb_b2, if_true, if_false, ite_true, ite_false, iZ_lit, iZ_m1, iZ_m99, iZ_m8, iZ_add, iZ_sub, iZ_mul, iZ_neg, nz0, nzi, iZ_lt, iZ_le, iZ_inj, b2_z, b2_o, ite_bPz, ite_bPo, xb_bP, iZ_xin, if_pos, ite_self, ↓reduceIte, Int.reduceAdd, Int.reduceSub, Int.reduceMul, Int.reduceNeg, Int.reduceLT, Int.reduceLE, if_neg, e0]
        · rw [if_neg c0]
          rw [xfix_unf, sX6_shadow_61]
          simp (disch := omega) only [xk_none, xk_inl, xk_inr, xk_ite, xri_v, xrl_v, xrv_v, xb_z0, xb_z1, xb_b2, if_true, if_false, ite_true, ite_false, iZ_lit, iZ_m1, iZ_m99, iZ_m8, iZ_add, iZ_sub, iZ_mul, iZ_neg, nz0, nzi, iZ_lt, iZ_le, iZ_inj, b2_z, b2_o, ite_bPz, ite_bPo, xb_bP, iZ_xin, if_pos, ite_self, ↓reduceIte, Int.reduceAdd, Int.reduceSub, Int.reduceMul, Int.reduceNeg, Int.reduceLT, Int.reduceLE, if_neg, e1]
      rw [es]
      by_cases y : flt M k 8 &&& strp a i = 0
      · rw [msk_f (fun z => z y)]
        have hy : lg_cmp (flt M k 8 &&& strp a i) 0 = iZ 0 := (lg_cmp_eq _ _).mpr y
        rw [xfix_unf, sX6_shadow_95]
        simp (disch := omega) only [xk_none, xk_inl, xk_inr, xk_ite, xri_v, xrl_v, xrv_v, xb_z0, xb_z1, xb_b2, if_true, if_false, ite_true, ite_false, iZ_lit, iZ_m1, iZ_m99, iZ_m8, iZ_add, iZ_sub, iZ_mul, iZ_neg, nz0, nzi, iZ_lt, iZ_le, iZ_inj, b2_z, b2_o, ite_bPz, ite_bPo, xb_bP, iZ_xin, if_pos, ite_self, ↓reduceIte, Int.reduceAdd, Int.reduceSub, Int.reduceMul, Int.reduceNeg, Int.reduceLT, Int.reduceLE, if_neg, nS, iZ_clampN, iZ_bit, iZ_one, iZ_and, iZ_or, iZ_ndn, hy, o0]
      · rw [msk_t y]
        have hy : ¬ lg_cmp (flt M k 8 &&& strp a i) 0 = iZ 0 := fun z => y ((lg_cmp_eq _ _).mp z)
        rw [xfix_unf, sX6_shadow_95]
        simp (disch := omega) only [xk_none, xk_inl, xk_inr, xk_ite, xri_v, xrl_v, xrv_v, xb_z0, xb_z1, xb_b2, if_true, if_false, ite_true, ite_false, iZ_lit, iZ_m1, iZ_m99, iZ_m8, iZ_add, iZ_sub, iZ_mul, iZ_neg, nz0, nzi, iZ_lt, iZ_le, iZ_inj, b2_z, b2_o, ite_bPz, ite_bPo, xb_bP, iZ_xin, if_pos, ite_self, ↓reduceIte, Int.reduceAdd, Int.reduceSub, Int.reduceMul, Int.reduceNeg, Int.reduceLT, Int.reduceLE, if_neg, nS, iZ_clampN, iZ_bit, iZ_one, iZ_and, iZ_or, iZ_ndn, hy])
    show xfix gX6_shadow (0, [some (.inr (.inr (6, k))), some (.inl (iZ (a))), none, none, none, none, none, none], [], M) = _; rw [xfix_unf, sX6_shadow_0]
    simp (disch := omega) only [xk_none, xk_inl, xk_inr, xk_ite, xri_v, xrl_v, xrv_v, xb_z0, xb_z1, xb_b2, if_true, if_false, ite_true, ite_false, iZ_lit, iZ_m1, iZ_m99, iZ_m8, iZ_add, iZ_sub, iZ_mul, iZ_neg, nz0, nzi, iZ_lt, iZ_le, iZ_inj, b2_z, b2_o, ite_bPz, ite_bPo, xb_bP, iZ_xin, if_pos, ite_self, ↓reduceIte, Int.reduceAdd, Int.reduceSub, Int.reduceMul, Int.reduceNeg, Int.reduceLT, Int.reduceLE, if_neg]
    refine Eq.trans lp ?_
    rw [xfix_unf, sX6_shadow_7]
    simp (disch := omega) only [xk_none, xk_inl, xk_inr, xk_ite, xri_v, xrl_v, xrv_v, xb_z0, xb_z1, xb_b2, if_true, if_false, ite_true, ite_false, iZ_lit, iZ_m1, iZ_m99, iZ_m8, iZ_add, iZ_sub, iZ_mul, iZ_neg, nz0, nzi, iZ_lt, iZ_le, iZ_inj, b2_z, b2_o, ite_bPz, ite_bPo, xb_bP, iZ_xin, if_pos, ite_self, ↓reduceIte, Int.reduceAdd, Int.reduceSub, Int.reduceMul, Int.reduceNeg, Int.reduceLT, Int.reduceLE, if_neg, e8]
    rw [msk_0] at lp2
    refine Eq.trans lp2 ?_
    rw [xfix_unf, sX6_shadow_61]
    simp (disch := omega) only [xk_none, xk_inl, xk_inr, xk_ite, xri_v, xrl_v, xrv_v, xb_z0, xb_z1, xb_b2, if_true, if_false, ite_true, ite_false, iZ_lit, iZ_m1, iZ_m99, iZ_m8, iZ_add, iZ_sub, iZ_mul, iZ_neg, nz0, nzi, iZ_lt, iZ_le, iZ_inj, b2_z, b2_o, ite_bPz, ite_bPo, xb_bP, iZ_xin, if_pos, ite_self, ↓reduceIte, Int.reduceAdd, Int.reduceSub, Int.reduceMul, Int.reduceNeg, Int.reduceLT, Int.reduceLE, if_neg, e8]
    exact congrArg (fun n : Nat => (some (some (Sum.inl (iZ (n : Int))), M) : Option (Option xV × xM))) (show msk (fun v => flt M k 8 &&& strp a v ≠ 0) 8 = shW (sB M k) a from msk_cg fun v hv => sh_flat (a := a) (by omega) hv)
