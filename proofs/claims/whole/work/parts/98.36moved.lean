/-! the class: marks, offsets, moved solids -/
/-- a marked offset -/
def ofM (M : xM) (k s : Nat) : Bool := lB (xL M (46, k) (s / 64)) (s % 64)
theorem ofM_same {P : xR → Prop} {M M' : xM} {k : Nat} (h : xSame P M M') (hk : ¬ P (46, k)) (s : Nat) : ofM M' k s = ofM M k s := by unfold ofM; rw [(h (46, k) hk).2]
theorem sh6 {s : Nat} (hs : s < 4928) : iZ (s : Int) >>> (iZ 6 &&& iZ 31) = iZ ((s / 64 : Nat) : Int) := by
  have := iZ_shr (n := s) (p := 6) (by omega) (by omega)
  rw [Nat.shiftRight_eq_div_pow] at this
  exact this
theorem an63 (s : Nat) : iZ (s : Int) &&& iZ 63 = iZ ((s % 64 : Nat) : Int) := by
  have : iZ (s : Int) &&& iZ ((63 : Nat) : Int) = iZ ((s &&& 63 : Nat) : Int) := iZ_and _ 63
  refine this.trans ?_
  rw [show (63 : Nat) = 2 ^ 6 - 1 from rfl, Nat.and_two_pow_sub_one_eq_mod]
theorem x_isMarked {M : xM} {k s : Nat} (hs : s < 4928) : fX7_isMarked [.inr (.inr (46, k)), .inl (iZ (s))] M = some (some (.inl (bP (ofM M k s = true))), M) := by
  have h1 := sh6 hs
  have h2 := an63 s
  have d77 : s / 64 < 77 := by omega
  have m64 : s % 64 < 64 := by omega
  have ask := lB_ask (v := xL M (46, k) (s / 64)) m64
  by_cases q : ofM M k s = true
  · rw [bP_t q]
    have hq : ¬ lg_cmp (((Int64.toUInt64 (xL M (46, k) (s / 64)) >>> ((iZ ((s % 64 : Nat) : Int)).toInt64.toUInt64 &&& Int64.toUInt64 63)).toInt64) &&& 1) 0 = iZ 0 := fun w => by
      have e : ofM M k s = false := ask.mp w
      rw [e] at q
      cases q
    generalize s / 64 = d at *
    generalize s % 64 = m at *
    show xfix gX7_isMarked (0, [some (.inr (.inr (46, k))), some (.inl (iZ (s)))], [], M) = _; rw [xfix_unf, sX7_isMarked_0]
    simp (disch := omega) only [xk_none, xk_inl, xk_inr, xk_ite, xri_v, xrl_v, xrv_v, xb_z0, xb_z1, xb_b2, if_true, if_false, ite_true, ite_false, iZ_lit, iZ_m1, iZ_m99, iZ_m8, iZ_add, iZ_sub, iZ_mul, iZ_neg, nz0, nzi, iZ_lt, iZ_le, iZ_inj, b2_z, b2_o, ite_bPz, ite_bPo, xb_bP, iZ_xin, if_pos, ite_self, ↓reduceIte, Int.reduceAdd, Int.reduceSub, Int.reduceMul, Int.reduceNeg, Int.reduceLT, Int.reduceLE, if_neg, h1, h2, iZ_clampN, hq]
  · rw [bP_f q]
    have hq := ask.mpr (show ofM M k s = false by simpa using q)
    generalize s / 64 = d at *
    generalize s % 64 = m at *
    show xfix gX7_isMarked (0, [some (.inr (.inr (46, k))), some (.inl (iZ (s)))], [], M) = _; rw [xfix_unf, sX7_isMarked_0]
    simp (disch := omega) only [xk_none, xk_inl, xk_inr, xk_ite, xri_v, xrl_v, xrv_v, xb_z0, xb_z1, xb_b2, if_true, if_false, ite_true, ite_false, iZ_lit, iZ_m1, iZ_m99, iZ_m8, iZ_add, iZ_sub, iZ_mul, iZ_neg, nz0, nzi, iZ_lt, iZ_le, iZ_inj, b2_z, b2_o, ite_bPz, ite_bPo, xb_bP, iZ_xin, if_pos, ite_self, ↓reduceIte, Int.reduceAdd, Int.reduceSub, Int.reduceMul, Int.reduceNeg, Int.reduceLT, Int.reduceLE, if_neg, h1, h2, iZ_clampN, hq]
theorem x_mark {M : xM} {k s : Nat} (hs : s < 4928) : ∃ M', fX7_mark [.inr (.inr (46, k)), .inl (iZ (s))] M = some (none, M') ∧ xSame (fun r => r = (46, k)) M M' ∧ ∀ u, ofM M' k u = true ↔ u = s ∨ ofM M k u = true := by
  have h1 := sh6 hs
  have h2 := an63 s
  have d77 : s / 64 < 77 := by omega
  have m64 : s % 64 < 64 := by omega
  refine ⟨xpL M (46, k) (s / 64) (xL M (46, k) (s / 64) ||| ((1 : Int64) <<< ((iZ ((s % 64 : Nat) : Int)).toInt64 &&& 63))), ?_, xSame.rf.pL rfl, fun u => ?_⟩
  · generalize s / 64 = d at *
    generalize s % 64 = m at *
    show xfix gX7_mark (0, [some (.inr (.inr (46, k))), some (.inl (iZ (s)))], [], M) = _; rw [xfix_unf, sX7_mark_0]
    simp (disch := omega) only [xk_none, xk_inl, xk_inr, xk_ite, xri_v, xrl_v, xrv_v, xb_z0, xb_z1, xb_b2, if_true, if_false, ite_true, ite_false, iZ_lit, iZ_m1, iZ_m99, iZ_m8, iZ_add, iZ_sub, iZ_mul, iZ_neg, nz0, nzi, iZ_lt, iZ_le, iZ_inj, b2_z, b2_o, ite_bPz, ite_bPo, xb_bP, iZ_xin, if_pos, ite_self, ↓reduceIte, Int.reduceAdd, Int.reduceSub, Int.reduceMul, Int.reduceNeg, Int.reduceLT, Int.reduceLE, if_neg, h1, h2, iZ_clampN]
  · unfold ofM
    rw [xL_pL]
    by_cases e : u / 64 = s / 64
    · rw [if_pos ⟨rfl, e⟩, lB_or, lB_shl m64, e]
      have u64 : u % 64 < 64 := by omega
      by_cases e2 : s % 64 ≤ u % 64
      · rw [lB_1 (u % 64 - s % 64) (by omega)]
        simp only [u64, e2, decide_true, Bool.true_and, Bool.or_eq_true, decide_eq_true_eq]
        constructor
        · rintro (z | z)
          · exact .inr z
          · exact .inl (by omega)
        · rintro (z | z)
          · exact .inr (by omega)
          · exact .inl z
      · simp only [u64, e2, decide_true, decide_false, Bool.true_and, Bool.false_and, Bool.or_false]
        exact ⟨.inr, fun z => z.elim (fun z => by omega) id⟩
    · rw [if_neg (fun z => e z.2)]
      exact ⟨.inr, fun z => z.elim (fun z => by omega) id⟩
/-- the offset of a number at an axis -/
def oA (s a : Nat) : Int := if a = 0 then oX s else if a = 1 then oY s else oZ s
theorem x_offsetAt {M : xM} {s a : Nat} (hs : s < 4913) (ha : a < 3) : fX7_offsetAt [.inl (iZ (s)), .inl (iZ (a))] M = some (some (.inl (iZ (oA s a))), M) := by
  have d1 := iZ_div (a := (s : Int)) (b := 17) (by omega) (by omega)
  have e1 : (s : Int) / 17 = ((s / 17 : Nat) : Int) := by omega
  have d2 := iZ_div (a := ((s / 17 : Nat) : Int)) (b := 17) (by omega) (by omega)
  have e2 : ((s / 17 : Nat) : Int) / 17 = ((s / 17 / 17 : Nat) : Int) := by omega
  have d3 := iZ_div (a := ((s / 17 / 17 : Nat) : Int)) (b := 17) (by omega) (by omega)
  have e3 : ((s / 17 / 17 : Nat) : Int) / 17 = 0 := by omega
  have m1 : (s : Int) - ((s / 17 : Nat) : Int) * 17 = ((s % 17 : Nat) : Int) := by omega
  have m2 : ((s / 17 : Nat) : Int) - ((s / 17 / 17 : Nat) : Int) * 17 = ((s / 17 % 17 : Nat) : Int) := by omega
  have m3 : ((s / 17 / 17 : Nat) : Int) - 0 * 17 = ((s / 289 : Nat) : Int) := by omega
  rw [e1] at d1
  rw [e2] at d2
  rw [e3] at d3
  have : a = 0 ∨ a = 1 ∨ a = 2 := by omega
  rcases this with e | e | e <;> subst e
  · have zz : ((0 : Nat) : Int) = 0 := rfl
    have eo : oA s 0 = ((s % 17 : Nat) : Int) - 8 := rfl
    rw [zz, eo]
    generalize s / 17 / 17 = s2 at *
    generalize s / 17 = s1 at *
    generalize s % 17 = r1 at *
    show xfix gX7_offsetAt (0, [some (.inl (iZ (s))), some (.inl (iZ ((0 : Int)))), none], [], M) = _; rw [xfix_unf, sX7_offsetAt_0]
    simp (disch := omega) only [xk_none, xk_inl, xk_inr, xk_ite, xri_v, xrl_v, xrv_v, xb_z0, xb_z1, xb_b2, if_true, if_false, ite_true, ite_false, iZ_lit, iZ_m1, iZ_m99, iZ_m8, iZ_add, iZ_sub, iZ_mul, iZ_neg, nz0, nzi, iZ_lt, iZ_le, iZ_inj, b2_z, b2_o, ite_bPz, ite_bPo, xb_bP, iZ_xin, if_pos, ite_self, ↓reduceIte, Int.reduceAdd, Int.reduceSub, Int.reduceMul, Int.reduceNeg, Int.reduceLT, Int.reduceLE, if_neg, d1, m1]
  · have zz : ((1 : Nat) : Int) = 1 := rfl
    have eo : oA s 1 = ((s / 17 % 17 : Nat) : Int) - 8 := rfl
    rw [zz, eo]
    generalize s / 17 % 17 = r2 at *
    generalize s / 17 / 17 = s2 at *
    generalize s / 17 = s1 at *
    show xfix gX7_offsetAt (0, [some (.inl (iZ (s))), some (.inl (iZ ((1 : Int)))), none], [], M) = _; rw [xfix_unf, sX7_offsetAt_0]
    simp (disch := omega) only [xk_none, xk_inl, xk_inr, xk_ite, xri_v, xrl_v, xrv_v, xb_z0, xb_z1, xb_b2, if_true, if_false, ite_true, ite_false, iZ_lit, iZ_m1, iZ_m99, iZ_m8, iZ_add, iZ_sub, iZ_mul, iZ_neg, nz0, nzi, iZ_lt, iZ_le, iZ_inj, b2_z, b2_o, ite_bPz, ite_bPo, xb_bP, iZ_xin, if_pos, ite_self, ↓reduceIte, Int.reduceAdd, Int.reduceSub, Int.reduceMul, Int.reduceNeg, Int.reduceLT, Int.reduceLE, if_neg, d1, d2, m2]
  · have zz : ((2 : Nat) : Int) = 2 := rfl
    have eo : oA s 2 = ((s / 289 : Nat) : Int) - 8 := rfl
    rw [zz, eo]
    generalize s / 289 = r3' at *
    generalize s / 17 / 17 = s2 at *
    generalize s / 17 = s1 at *
    have m3' : (r3' : Int) = (s2 : Int) := by omega
    rw [m3']
    show xfix gX7_offsetAt (0, [some (.inl (iZ (s))), some (.inl (iZ ((2 : Int)))), none], [], M) = _; rw [xfix_unf, sX7_offsetAt_0]
    simp (disch := omega) only [xk_none, xk_inl, xk_inr, xk_ite, xri_v, xrl_v, xrv_v, xb_z0, xb_z1, xb_b2, if_true, if_false, ite_true, ite_false, iZ_lit, iZ_m1, iZ_m99, iZ_m8, iZ_add, iZ_sub, iZ_mul, iZ_neg, nz0, nzi, iZ_lt, iZ_le, iZ_inj, b2_z, b2_o, ite_bPz, ite_bPo, xb_bP, iZ_xin, if_pos, ite_self, ↓reduceIte, Int.reduceAdd, Int.reduceSub, Int.reduceMul, Int.reduceNeg, Int.reduceLT, Int.reduceLE, if_neg, d1, d2, d3, Int.sub_zero]
def sg1 (w : Nat) : Int := if w % 2 = 0 then 1 else -1
theorem sg1_b (w : Nat) : sg1 w = 1 ∨ sg1 w = -1 := by unfold sg1; split <;> omega
def strS (w : Nat) : Int := sg1 w * (if w / 2 = 0 then 1 else if w / 2 = 1 then 17 else 289)
theorem x_strideOf {M : xM} {w : Nat} (hw : w < 6) : fX7_strideOf [.inl (iZ (w))] M = some (some (.inl (iZ (strS w))), M) := by
  have hA := x_axisOf (M := M) (w := w) (by omega)
  have hS : fX11_signOf [.inl (iZ (w))] M = some (some (.inl (iZ (sg1 w))), M) := x_signOf (M := M) (w := w) (by omega)
  have sb := sg1_b w
  unfold strS
  rcases six3 hw with e | e | e <;> rw [e] at hA ⊢ <;> generalize sg1 w = S at *
  · rw [if_pos rfl]
    show xfix gX7_strideOf (0, [some (.inl (iZ (w))), none], [], M) = _; rw [xfix_unf, sX7_strideOf_0]
    simp (disch := omega) only [xk_none, xk_inl, xk_inr, xk_ite, xri_v, xrl_v, xrv_v, xb_z0, xb_z1, xb_b2, if_true, if_false, ite_true, ite_false, iZ_lit, iZ_m1, iZ_m99, iZ_m8, iZ_add, iZ_sub, iZ_mul, iZ_neg, nz0, nzi, iZ_lt, iZ_le, iZ_inj, b2_z, b2_o, ite_bPz, ite_bPo, xb_bP, iZ_xin, if_pos, ite_self, ↓reduceIte, Int.reduceAdd, Int.reduceSub, Int.reduceMul, Int.reduceNeg, Int.reduceLT, Int.reduceLE, if_neg, hA, hS]
  · rw [if_neg (by omega), if_pos rfl]
    have zz : ((1 : Nat) : Int) = 1 := rfl
    rw [zz] at hA
    show xfix gX7_strideOf (0, [some (.inl (iZ (w))), none], [], M) = _; rw [xfix_unf, sX7_strideOf_0]
    simp (disch := omega) only [xk_none, xk_inl, xk_inr, xk_ite, xri_v, xrl_v, xrv_v, xb_z0, xb_z1, xb_b2, if_true, if_false, ite_true, ite_false, iZ_lit, iZ_m1, iZ_m99, iZ_m8, iZ_add, iZ_sub, iZ_mul, iZ_neg, nz0, nzi, iZ_lt, iZ_le, iZ_inj, b2_z, b2_o, ite_bPz, ite_bPo, xb_bP, iZ_xin, if_pos, ite_self, ↓reduceIte, Int.reduceAdd, Int.reduceSub, Int.reduceMul, Int.reduceNeg, Int.reduceLT, Int.reduceLE, if_neg, hA, hS]
  · rw [if_neg (by omega), if_neg (by omega)]
    have zz : ((2 : Nat) : Int) = 2 := rfl
    rw [zz] at hA
    show xfix gX7_strideOf (0, [some (.inl (iZ (w))), none], [], M) = _; rw [xfix_unf, sX7_strideOf_0]
    simp (disch := omega) only [xk_none, xk_inl, xk_inr, xk_ite, xri_v, xrl_v, xrv_v, xb_z0, xb_z1, xb_b2, if_true, if_false, ite_true, ite_false, iZ_lit, iZ_m1, iZ_m99, iZ_m8, iZ_add, iZ_sub, iZ_mul, iZ_neg, nz0, nzi, iZ_lt, iZ_le, iZ_inj, b2_z, b2_o, ite_bPz, ite_bPo, xb_bP, iZ_xin, if_pos, ite_self, ↓reduceIte, Int.reduceAdd, Int.reduceSub, Int.reduceMul, Int.reduceNeg, Int.reduceLT, Int.reduceLE, if_neg, hA, hS]
theorem oA_b {s : Nat} (h : s < 4913) (a : Nat) : -8 ≤ oA s a ∧ oA s a ≤ 8 := by
  have := o_b h
  unfold oA
  (repeat' split) <;> omega
theorem x_stepsLeft {M : xM} {s w : Nat} (hs : s < 4913) (hw : w < 6) : fX7_stepsLeft [.inl (iZ (s)), .inl (iZ (w))] M = some (some (.inl (iZ (8 - sg1 w * oA s (w / 2)))), M) := by
  have hA := x_axisOf (M := M) (w := w) (by omega)
  have hS : fX11_signOf [.inl (iZ (w))] M = some (some (.inl (iZ (sg1 w))), M) := x_signOf (M := M) (w := w) (by omega)
  have sb := sg1_b w
  have hO := x_offsetAt (M := M) hs (show w / 2 < 3 by omega)
  have ob := oA_b hs (w / 2)
  have pb : -8 ≤ sg1 w * oA s (w / 2) ∧ sg1 w * oA s (w / 2) ≤ 8 := by rcases sb with e | e <;> rw [e] <;> omega
  generalize oA s (w / 2) = o at *
  generalize sg1 w = S at *
  show xfix gX7_stepsLeft (0, [some (.inl (iZ (s))), some (.inl (iZ (w)))], [], M) = _; rw [xfix_unf, sX7_stepsLeft_0]
  simp (disch := omega) only [xk_none, xk_inl, xk_inr, xk_ite, xri_v, xrl_v, xrv_v, xb_z0, xb_z1, xb_b2, if_true, if_false, ite_true, ite_false, iZ_lit, iZ_m1, iZ_m99, iZ_m8, iZ_add, iZ_sub, iZ_mul, iZ_neg, nz0, nzi, iZ_lt, iZ_le, iZ_inj, b2_z, b2_o, ite_bPz, ite_bPo, xb_bP, iZ_xin, if_pos, ite_self, ↓reduceIte, Int.reduceAdd, Int.reduceSub, Int.reduceMul, Int.reduceNeg, Int.reduceLT, Int.reduceLE, if_neg, hA, hS, hO]
theorem x_abs {M : xM} {a : Int} (ha : -1000 ≤ a ∧ a ≤ 1000) : fJ9_abs_0f7a4 [.inl (iZ a)] M = some (some (.inl (iZ (if 0 ≤ a then a else -a))), M) := by
  show (some (some (.inl (if 0 ≤ iZ a then iZ a else 0 - iZ a)), M) : Option (Option xV × xM)) = _
  have z0 : (0 : Int32) = iZ 0 := rfl
  rw [z0]
  by_cases e : 0 ≤ a
  · rw [if_pos ((iZ_le (by omega) (by omega)).mpr e), if_pos e]
  · rw [if_neg (fun z => e ((iZ_le (by omega) (by omega)).mp z)), if_neg e, iZ_sub]
    have : (0 : Int) - a = -a := by omega
    rw [this]
theorem x_columns {M : xM} {a b : Nat} (ha : a ≤ 8) (hb : b < 8) (hab : a ≤ b + 1) : ∃ v, fX6_columns [.inl (iZ (a)), .inl (iZ (b))] M = some (some (.inr (.inl (v))), M) ∧ ∀ i, i < 64 → (lB v i = true ↔ a ≤ i % 8 ∧ i % 8 ≤ b) := by
  obtain ⟨v, b1, b2⟩ := xfor_S (σ := Int64) (sg := gX6_columns) (st := fun n v => (5, [none, some (.inl (iZ (b))), some (.inr (.inl (v))), none, some (.inl (iZ (n)))], [], M)) (I := fun n v => a ≤ n ∧ ∀ i, i < 64 → (lB v i = true ↔ a ≤ i % 8 ∧ i % 8 < n)) (n := b + 1) (fun n v hn hv => by
    refine ⟨v ||| ((72340172838076673 : Int64) <<< ((iZ (n : Int)).toInt64 &&& 63)), ?_, by omega, fun i hi => ?_⟩
    · rw [nS]
      rw [xfix_unf, sX6_columns_5]
      simp (disch := omega) only [xk_none, xk_inl, xk_inr, xk_ite, xri_v, xrl_v, xrv_v, xb_z0, xb_z1, xb_b2, if_true, if_false, ite_true, ite_false, iZ_lit, iZ_m1, iZ_m99, iZ_m8, iZ_add, iZ_sub, iZ_mul, iZ_neg, nz0, nzi, iZ_lt, iZ_le, iZ_inj, b2_z, b2_o, ite_bPz, ite_bPo, xb_bP, iZ_xin, if_pos, ite_self, ↓reduceIte, Int.reduceAdd, Int.reduceSub, Int.reduceMul, Int.reduceNeg, Int.reduceLT, Int.reduceLE, if_neg]
    · have n64 : n < 64 := by omega
      have hv' := hv.2 i hi
      have an := hv.1
      rw [lB_or, lB_shl n64]
      by_cases e : n ≤ i
      · rw [lB_col (i - n) (by omega)]
        simp only [hi, e, decide_true, Bool.true_and, Bool.or_eq_true, decide_eq_true_eq]
        rw [hv']
        omega
      · simp only [hi, e, decide_true, decide_false, Bool.true_and, Bool.false_and, Bool.or_false]
        rw [hv']
        omega) (a := a) (x := 0) hab ⟨Nat.le_refl _, fun i hi => by rw [lB_0]; constructor <;> intro z <;> first | cases z; done | omega⟩
  refine ⟨v, ?_, fun i hi => ?_⟩
  · show xfix gX6_columns (0, [some (.inl (iZ (a))), some (.inl (iZ (b))), none, none, none], [], M) = _; rw [xfix_unf, sX6_columns_0]
    simp (disch := omega) only [xk_none, xk_inl, xk_inr, xk_ite, xri_v, xrl_v, xrv_v, xb_z0, xb_z1, xb_b2, if_true, if_false, ite_true, ite_false, iZ_lit, iZ_m1, iZ_m99, iZ_m8, iZ_add, iZ_sub, iZ_mul, iZ_neg, nz0, nzi, iZ_lt, iZ_le, iZ_inj, b2_z, b2_o, ite_bPz, ite_bPo, xb_bP, iZ_xin, if_pos, ite_self, ↓reduceIte, Int.reduceAdd, Int.reduceSub, Int.reduceMul, Int.reduceNeg, Int.reduceLT, Int.reduceLE, if_neg]
    refine b1.trans ?_
    rw [nS]
    rw [xfix_unf, sX6_columns_5]
    simp (disch := omega) only [xk_none, xk_inl, xk_inr, xk_ite, xri_v, xrl_v, xrv_v, xb_z0, xb_z1, xb_b2, if_true, if_false, ite_true, ite_false, iZ_lit, iZ_m1, iZ_m99, iZ_m8, iZ_add, iZ_sub, iZ_mul, iZ_neg, nz0, nzi, iZ_lt, iZ_le, iZ_inj, b2_z, b2_o, ite_bPz, ite_bPo, xb_bP, iZ_xin, if_pos, ite_self, ↓reduceIte, Int.reduceAdd, Int.reduceSub, Int.reduceMul, Int.reduceNeg, Int.reduceLT, Int.reduceLE, if_neg]
  · rw [b2.2 i hi]; omega

theorem x_movePlane {M : xM} {v : Int64} {dx dy : Int} (hx : -7 ≤ dx ∧ dx ≤ 7) (hy : -7 ≤ dy ∧ dy ≤ 7) : ∃ r, fX6_movePlane [.inr (.inl (v)), .inl (iZ (dx)), .inl (iZ (dy))] M = some (some (.inr (.inl (r))), M) ∧ ∀ i : Nat, i < 64 → (lB r i = true ↔ ∃ j : Nat, j < 64 ∧ lB v j = true ∧ (i : Int) = j + dx + 8 * dy ∧ 0 ≤ (j : Int) + 8 * dy ∧ (j : Int) + 8 * dy < 64) := by
  obtain ⟨r1, a1, a2⟩ : ∃ r1, (xfix gX6_movePlane (0, [some (.inr (.inl (v))), none, some (.inl (iZ (dx))), some (.inl (iZ (dy))), none, none], [], M) = xfix gX6_movePlane (19, [none, none, some (.inl (iZ (dx))), none, none, none], [.inr (.inl (r1))], M)) ∧ ∀ i : Nat, i < 64 → (lB r1 i = true ↔ ∃ j : Nat, j < 64 ∧ lB v j = true ∧ (i : Int) = j + 8 * dy) := by
    by_cases e : dy < 0
    · obtain ⟨q, rfl⟩ : ∃ q : Nat, dy = -(q : Int) := ⟨(-dy).toNat, by omega⟩
      have e8 : (-8 : Int) * -(q : Int) = ((8 * q : Nat) : Int) := by omega
      refine ⟨(Int64.toUInt64 v >>> ((iZ ((8 * q : Nat) : Int)).toInt64.toUInt64 &&& Int64.toUInt64 63)).toInt64, ?_, fun i hi => ?_⟩
      · rw [← e8]
        rw [xfix_unf, sX6_movePlane_0]
        simp (disch := omega) only [xk_none, xk_inl, xk_inr, xk_ite, xri_v, xrl_v, xrv_v, xb_z0, xb_z1, xb_b2, if_true, if_false, ite_true, ite_false, iZ_lit, iZ_m1, iZ_m99, iZ_m8, iZ_add, iZ_sub, iZ_mul, iZ_neg, nz0, nzi, iZ_lt, iZ_le, iZ_inj, b2_z, b2_o, ite_bPz, ite_bPo, xb_bP, iZ_xin, if_pos, ite_self, ↓reduceIte, Int.reduceAdd, Int.reduceSub, Int.reduceMul, Int.reduceNeg, Int.reduceLT, Int.reduceLE, if_neg]
      · rw [lB_shr (by omega)]
        constructor
        · intro z
          have l64 : 8 * q + i < 64 := Nat.lt_of_not_le fun y => by
            rw [lB_hi y] at z; cases z
          exact ⟨8 * q + i, l64, z, by omega⟩
        · rintro ⟨j, j1, j2, j3⟩
          have : j = 8 * q + i := by omega
          rw [← this]; exact j2
    · obtain ⟨q, rfl⟩ : ∃ q : Nat, dy = (q : Int) := ⟨dy.toNat, by omega⟩
      have e8 : (8 : Int) * (q : Int) = ((8 * q : Nat) : Int) := by omega
      refine ⟨v <<< ((iZ ((8 * q : Nat) : Int)).toInt64 &&& 63), ?_, fun i hi => ?_⟩
      · rw [← e8]
        rw [xfix_unf, sX6_movePlane_0]
        simp (disch := omega) only [xk_none, xk_inl, xk_inr, xk_ite, xri_v, xrl_v, xrv_v, xb_z0, xb_z1, xb_b2, if_true, if_false, ite_true, ite_false, iZ_lit, iZ_m1, iZ_m99, iZ_m8, iZ_add, iZ_sub, iZ_mul, iZ_neg, nz0, nzi, iZ_lt, iZ_le, iZ_inj, b2_z, b2_o, ite_bPz, ite_bPo, xb_bP, iZ_xin, if_pos, ite_self, ↓reduceIte, Int.reduceAdd, Int.reduceSub, Int.reduceMul, Int.reduceNeg, Int.reduceLT, Int.reduceLE, if_neg]
      · rw [lB_shl (by omega)]
        constructor
        · intro z
          simp only [Bool.and_eq_true, decide_eq_true_eq] at z
          exact ⟨i - 8 * q, by omega, z.2, by omega⟩
        · rintro ⟨j, j1, j2, j3⟩
          have : j = i - 8 * q := by omega
          simp only [Bool.and_eq_true, decide_eq_true_eq]
          rw [← this]; exact ⟨⟨hi, by omega⟩, j2⟩
  obtain ⟨r2, b1, b2⟩ : ∃ r2, (xfix gX6_movePlane (19, [none, none, some (.inl (iZ (dx))), none, none, none], [.inr (.inl (r1))], M) = some (some (.inr (.inl (r2))), M)) ∧ ∀ i : Nat, i < 64 → (lB r2 i = true ↔ ∃ j : Nat, j < 64 ∧ lB r1 j = true ∧ (i : Int) = j + dx) := by
    by_cases e : dx < 0
    · obtain ⟨q, rfl⟩ : ∃ q : Nat, dx = -(q : Int) := ⟨(-dx).toNat, by omega⟩
      have e8 : -(-(q : Int)) = (q : Int) := by omega
      refine ⟨(Int64.toUInt64 r1 >>> ((iZ (q : Int)).toInt64.toUInt64 &&& Int64.toUInt64 63)).toInt64, ?_, fun i hi => ?_⟩
      · rw [xfix_unf, sX6_movePlane_19]
        simp (disch := omega) only [xk_none, xk_inl, xk_inr, xk_ite, xri_v, xrl_v, xrv_v, xb_z0, xb_z1, xb_b2, if_true, if_false, ite_true, ite_false, iZ_lit, iZ_m1, iZ_m99, iZ_m8, iZ_add, iZ_sub, iZ_mul, iZ_neg, nz0, nzi, iZ_lt, iZ_le, iZ_inj, b2_z, b2_o, ite_bPz, ite_bPo, xb_bP, iZ_xin, if_pos, ite_self, ↓reduceIte, Int.reduceAdd, Int.reduceSub, Int.reduceMul, Int.reduceNeg, Int.reduceLT, Int.reduceLE, if_neg, e8]
      · rw [lB_shr (by omega)]
        constructor
        · intro z
          have l64 : q + i < 64 := Nat.lt_of_not_le fun y => by
            rw [lB_hi y] at z; cases z
          exact ⟨q + i, l64, z, by omega⟩
        · rintro ⟨j, j1, j2, j3⟩
          have : j = q + i := by omega
          rw [← this]; exact j2
    · obtain ⟨q, rfl⟩ : ∃ q : Nat, dx = (q : Int) := ⟨dx.toNat, by omega⟩
      refine ⟨r1 <<< ((iZ (q : Int)).toInt64 &&& 63), ?_, fun i hi => ?_⟩
      · rw [xfix_unf, sX6_movePlane_19]
        simp (disch := omega) only [xk_none, xk_inl, xk_inr, xk_ite, xri_v, xrl_v, xrv_v, xb_z0, xb_z1, xb_b2, if_true, if_false, ite_true, ite_false, iZ_lit, iZ_m1, iZ_m99, iZ_m8, iZ_add, iZ_sub, iZ_mul, iZ_neg, nz0, nzi, iZ_lt, iZ_le, iZ_inj, b2_z, b2_o, ite_bPz, ite_bPo, xb_bP, iZ_xin, if_pos, ite_self, ↓reduceIte, Int.reduceAdd, Int.reduceSub, Int.reduceMul, Int.reduceNeg, Int.reduceLT, Int.reduceLE, if_neg]
      · rw [lB_shl (by omega)]
        constructor
        · intro z
          simp only [Bool.and_eq_true, decide_eq_true_eq] at z
          exact ⟨i - q, by omega, z.2, by omega⟩
        · rintro ⟨j, j1, j2, j3⟩
          have : j = i - q := by omega
          simp only [Bool.and_eq_true, decide_eq_true_eq]
          rw [← this]; exact ⟨⟨hi, by omega⟩, j2⟩
  refine ⟨r2, a1.trans b1, fun i hi => ?_⟩
  rw [b2 i hi]
  constructor
  · rintro ⟨j, j1, j2, j3⟩
    obtain ⟨k, k1, k2, k3⟩ := (a2 j j1).mp j2
    exact ⟨k, k1, k2, by omega, by omega, by omega⟩
  · rintro ⟨k, k1, k2, k3, k4, k5⟩
    exact ⟨((k : Int) + 8 * dy).toNat, by omega, (a2 _ (by omega)).mpr ⟨k, k1, k2, by omega⟩, by omega⟩
/-- it would meet the other if it were moved so far -/
def mtM (f g : Nat → Bool) (x y z : Int) : Prop := ∃ c, c < 512 ∧ f c = true ∧ ∃ o, o < 512 ∧ g o = true ∧ ((o % 8 : Nat) : Int) = (c % 8 : Nat) + x ∧ ((o / 8 % 8 : Nat) : Int) = (c / 8 % 8 : Nat) + y ∧ ((o / 64 : Nat) : Int) = (c / 64 : Nat) + z
theorem xfor_from {sg : xS → Option xX} {st : Nat → xS} {R : Nat → Option (Option xV × xM)} {b n : Nat} (h : ∀ i, b ≤ i → i < n → xfix sg (st (i + 1)) = R (i + 1) → xfix sg (st i) = R i) (h2 : xfix sg (st n) = R n) (hb : b ≤ n) : xfix sg (st b) = R b := by
  have : ∀ d i, i + d = n → b ≤ i → xfix sg (st i) = R i := by
    intro d
    induction d with
    | zero => intro i hi _; rw [show i = n by omega]; exact h2
    | succ d ih => intro i hi hb; exact h i hb (by omega) (ih (i + 1) (by omega) (by omega))
  exact this (n - b) b (by omega) (Nat.le_refl _)
theorem x_meetsMoved {M : xM} {k0 k1 : Nat} {x y z : Int} (hx : -8 ≤ x ∧ x ≤ 8) (hy : -8 ≤ y ∧ y ≤ 8) (hz : -8 ≤ z ∧ z ≤ 8) : fX6_meetsMoved [.inr (.inr (6, k0)), .inr (.inr (6, k1)), .inl (iZ (x)), .inl (iZ (y)), .inl (iZ (z))] M = some (some (.inl (bP (mtM (sB M k0) (sB M k1) x y z))), M) := by
  have ax := x_abs (M := M) (a := x) (by omega)
  have ay := x_abs (M := M) (a := y) (by omega)
  have az := x_abs (M := M) (a := z) (by omega)
  by_cases e : (-7 ≤ x ∧ x ≤ 7) ∧ (-7 ≤ y ∧ y ≤ 7) ∧ (-7 ≤ z ∧ z ≤ 7)
  · obtain ⟨ex, ey, ez⟩ := e
    have m1 := x_max (M := M) (a := 0) (b := -x) (by unfold r32; omega) (by unfold r32; omega)
    have m2 := x_min (M := M) (a := 7) (b := 7 - x) (by unfold r32; omega) (by unfold r32; omega)
    have m3 := x_max (M := M) (a := 0) (b := -z) (by unfold r32; omega) (by unfold r32; omega)
    have m4 := x_min (M := M) (a := 7) (b := 7 - z) (by unfold r32; omega) (by unfold r32; omega)
    obtain ⟨xf, exf, f1⟩ : ∃ xf : Nat, (if 0 < -x then -x else 0) = (xf : Int) ∧ (xf : Int) = (if 0 < -x then -x else 0) := ⟨(if 0 < -x then -x else 0).toNat, by split <;> omega, by split <;> omega⟩
    obtain ⟨xt, ext, f2⟩ : ∃ xt : Nat, (if 7 - x < 7 then 7 - x else 7) = (xt : Int) ∧ (xt : Int) = (if 7 - x < 7 then 7 - x else 7) := ⟨(if 7 - x < 7 then 7 - x else 7).toNat, by split <;> omega, by split <;> omega⟩
    obtain ⟨zf, ezf, f3⟩ : ∃ zf : Nat, (if 0 < -z then -z else 0) = (zf : Int) ∧ (zf : Int) = (if 0 < -z then -z else 0) := ⟨(if 0 < -z then -z else 0).toNat, by split <;> omega, by split <;> omega⟩
    obtain ⟨zt, ezt, f4⟩ : ∃ zt : Nat, (if 7 - z < 7 then 7 - z else 7) = (zt : Int) ∧ (zt : Int) = (if 7 - z < 7 then 7 - z else 7) := ⟨(if 7 - z < 7 then 7 - z else 7).toNat, by split <;> omega, by split <;> omega⟩
    rw [exf] at m1
    rw [ext] at m2
    rw [ezf] at m3
    rw [ezt] at m4
    have bx : xf ≤ 7 ∧ xt ≤ 7 ∧ xf ≤ xt + 1 := by split at f1 <;> split at f2 <;> omega
    have bz : zf ≤ 7 ∧ zt ≤ 7 ∧ zf ≤ zt + 1 := by split at f3 <;> split at f4 <;> omega
    obtain ⟨st, c1, c2⟩ := x_columns (M := M) (a := xf) (b := xt) (by omega) (by omega) (by omega)
    have stx : ∀ i, i < 64 → (lB st i = true ↔ 0 ≤ ((i % 8 : Nat) : Int) + x ∧ ((i % 8 : Nat) : Int) + x < 8) := fun i hi => by
      rw [c2 i hi]
      split at f1 <;> split at f2 <;> omega
    have inz : ∀ n : Nat, (zf ≤ n ∧ n < zt + 1) ↔ (n < 8 ∧ 0 ≤ (n : Int) + z ∧ (n : Int) + z < 8) := fun n => by
      split at f3 <;> split at f4 <;> omega
    have loop := xfor_from (sg := gX6_meetsMoved) (st := fun n => (75, [some (.inr (.inr (6, k0))), some (.inr (.inr (6, k1))), some (.inl (iZ (x))), some (.inl (iZ (y))), some (.inl (iZ (z))), some (.inr (.inl (st))), none, none, some (.inl (iZ (zt))), some (.inl (iZ (n)))], [], M)) (R := fun n => some (some (.inl (bP (∃ n', n ≤ n' ∧ n' < zt + 1 ∧ ∃ c, c < 512 ∧ c / 64 = n' ∧ sB M k0 c = true ∧ ∃ o, o < 512 ∧ sB M k1 o = true ∧ ((o % 8 : Nat) : Int) = (c % 8 : Nat) + x ∧ ((o / 8 % 8 : Nat) : Int) = (c / 8 % 8 : Nat) + y ∧ ((o / 64 : Nat) : Int) = (c / 64 : Nat) + z))), M)) (b := zf) (n := zt + 1) (fun n hn0 hn ih => by
      have n8 := (inz n).mp ⟨hn0, hn⟩
      obtain ⟨nz, enz⟩ : ∃ nz : Nat, (n : Int) + z = nz := ⟨((n : Int) + z).toNat, by omega⟩
      rw [ex_from hn]
      rw [nS] at ih
      obtain ⟨r, d1, d2⟩ := x_movePlane (M := M) (v := xL M (44, k0) n &&& st) ex ey
      have key : (¬ lg_cmp (r &&& xL M (44, k1) nz) 0 = iZ 0) ↔ ∃ c, c < 512 ∧ c / 64 = n ∧ sB M k0 c = true ∧ ∃ o, o < 512 ∧ sB M k1 o = true ∧ ((o % 8 : Nat) : Int) = (c % 8 : Nat) + x ∧ ((o / 8 % 8 : Nat) : Int) = (c / 8 % 8 : Nat) + y ∧ ((o / 64 : Nat) : Int) = (c / 64 : Nat) + z := by
        rw [show iZ 0 = 0 from rfl, lg_cmp_eq]
        constructor
        · intro h
          obtain ⟨i, i1, i2⟩ : ∃ i, i < 64 ∧ lB (r &&& xL M (44, k1) nz) i = true := Classical.byContradiction fun no => h (lB_z.mpr fun i hi => by
            by_cases y : lB (r &&& xL M (44, k1) nz) i = true
            · exact absurd ⟨i, hi, y⟩ no
            · simpa using y)
          rw [lB_and, Bool.and_eq_true] at i2
          obtain ⟨j, j1, j2, j3, j4, j5⟩ := (d2 i i1).mp i2.1
          rw [lB_and, Bool.and_eq_true, stx j j1] at j2
          refine ⟨64 * n + j, by omega, by omega, ?_, 64 * nz + i, by omega, ?_, by omega, by omega, by omega⟩
          · unfold sB
            rw [show (64 * n + j) / 64 = n by omega, show (64 * n + j) % 64 = j by omega]
            exact j2.1
          · unfold sB
            rw [show (64 * nz + i) / 64 = nz by omega, show (64 * nz + i) % 64 = i by omega]
            exact i2.2
        · rintro ⟨c, q1, q2, q3, o, q4, q5, q6, q7, q8⟩ h
          have := lB_z.mp h (o % 64) (by omega)
          rw [lB_and] at this
          have t1 : lB r (o % 64) = true := (d2 (o % 64) (by omega)).mpr ⟨c % 64, by omega, by
            rw [lB_and, Bool.and_eq_true, stx _ (by omega)]
            refine ⟨by unfold sB at q3; rw [q2] at q3; exact q3, by omega, by omega⟩, by omega, by omega, by omega⟩
          have t2 : lB (xL M (44, k1) nz) (o % 64) = true := by
            unfold sB at q5; rw [show o / 64 = nz by omega] at q5; exact q5
          rw [t1, t2] at this
          cases this
      by_cases y : lg_cmp (r &&& xL M (44, k1) nz) 0 = iZ 0
      · have nk := fun z => (key.mpr z) y
        refine Eq.trans ?_ (ih.trans (rP ⟨.inr, fun z => z.elim (fun z => absurd z nk) id⟩))
        clear key nk ih stx inz c2 d2
        rw [xfix_unf, sX6_meetsMoved_75]
        simp (disch := omega) only [xk_none, xk_inl, xk_inr, xk_ite, xri_v, xrl_v, xrv_v, xb_z0, xb_z1, xb_b2, if_true, if_false, ite_true, ite_false, iZ_lit, iZ_m1, iZ_m99, iZ_m8, iZ_add, iZ_sub, iZ_mul, iZ_neg, nz0, nzi, iZ_lt, iZ_le, iZ_inj, b2_z, b2_o, ite_bPz, ite_bPo, xb_bP, iZ_xin, if_pos, ite_self, ↓reduceIte, Int.reduceAdd, Int.reduceSub, Int.reduceMul, Int.reduceNeg, Int.reduceLT, Int.reduceLE, if_neg, iZ_clampN, ↓xrl_some d1, enz, y]
      · rw [bP_t (.inl (key.mp y))]
        clear key ih stx inz c2 d2
        rw [xfix_unf, sX6_meetsMoved_75]
        simp (disch := omega) only [xk_none, xk_inl, xk_inr, xk_ite, xri_v, xrl_v, xrv_v, xb_z0, xb_z1, xb_b2, if_true, if_false, ite_true, ite_false, iZ_lit, iZ_m1, iZ_m99, iZ_m8, iZ_add, iZ_sub, iZ_mul, iZ_neg, nz0, nzi, iZ_lt, iZ_le, iZ_inj, b2_z, b2_o, ite_bPz, ite_bPo, xb_bP, iZ_xin, if_pos, ite_self, ↓reduceIte, Int.reduceAdd, Int.reduceSub, Int.reduceMul, Int.reduceNeg, Int.reduceLT, Int.reduceLE, if_neg, iZ_clampN, ↓xrl_some d1, enz, y]) (by
      rw [bP_f (fun ⟨n', h1, h2, _⟩ => by omega), nS]
      rw [xfix_unf, sX6_meetsMoved_75]
      simp (disch := omega) only [xk_none, xk_inl, xk_inr, xk_ite, xri_v, xrl_v, xrv_v, xb_z0, xb_z1, xb_b2, if_true, if_false, ite_true, ite_false, iZ_lit, iZ_m1, iZ_m99, iZ_m8, iZ_add, iZ_sub, iZ_mul, iZ_neg, nz0, nzi, iZ_lt, iZ_le, iZ_inj, b2_z, b2_o, ite_bPz, ite_bPo, xb_bP, iZ_xin, if_pos, ite_self, ↓reduceIte, Int.reduceAdd, Int.reduceSub, Int.reduceMul, Int.reduceNeg, Int.reduceLT, Int.reduceLE, if_neg]) (by omega)
    have fin := loop.trans (rP (show _ ↔ mtM (sB M k0) (sB M k1) x y z from ⟨fun ⟨n', h1, h2, c, q1, q2, q3, q4⟩ => ⟨c, q1, q3, q4⟩, fun ⟨c, q1, q2, o, q4, q5, q6, q7, q8⟩ => ⟨c / 64, ((inz _).mpr ⟨by omega, by omega, by omega⟩).1, ((inz _).mpr ⟨by omega, by omega, by omega⟩).2, c, q1, rfl, q2, o, q4, q5, q6, q7, q8⟩⟩))
    refine Eq.trans ?_ fin
    have ax' : (if 0 ≤ x then x else -x) ≤ 7 := by split <;> omega
    have ay' : (if 0 ≤ y then y else -y) ≤ 7 := by split <;> omega
    have az' : (if 0 ≤ z then z else -z) ≤ 7 := by split <;> omega
    have ax0 : 0 ≤ (if 0 ≤ x then x else -x) := by split <;> omega
    have ay0 : 0 ≤ (if 0 ≤ y then y else -y) := by split <;> omega
    have az0 : 0 ≤ (if 0 ≤ z then z else -z) := by split <;> omega
    clear fin loop inz stx c2 f1 f2 f3 f4 exf ext ezf ezt
    generalize (if 0 ≤ x then x else -x) = AX at *
    generalize (if 0 ≤ y then y else -y) = AY at *
    generalize (if 0 ≤ z then z else -z) = AZ at *
    show xfix gX6_meetsMoved (0, [some (.inr (.inr (6, k0))), some (.inr (.inr (6, k1))), some (.inl (iZ (x))), some (.inl (iZ (y))), some (.inl (iZ (z))), none, none, none, none, none], [], M) = _; rw [xfix_unf, sX6_meetsMoved_0]
    simp (disch := omega) only [xk_none, xk_inl, xk_inr, xk_ite, xri_v, xrl_v, xrv_v, xb_z0, xb_z1, xb_b2, if_true, if_false, ite_true, ite_false, iZ_lit, iZ_m1, iZ_m99, iZ_m8, iZ_add, iZ_sub, iZ_mul, iZ_neg, nz0, nzi, iZ_lt, iZ_le, iZ_inj, b2_z, b2_o, ite_bPz, ite_bPo, xb_bP, iZ_xin, if_pos, ite_self, ↓reduceIte, Int.reduceAdd, Int.reduceSub, Int.reduceMul, Int.reduceNeg, Int.reduceLT, Int.reduceLE, if_neg, ↓xri_some ax, ↓xri_some ay, ↓xri_some az, ↓xri_some m1, ↓xri_some m2, ↓xri_some m3, ↓xri_some m4, ↓xrl_some c1]
  · rw [bP_f (fun ⟨c, q1, q2, o, q4, q5, q6, q7, q8⟩ => e ⟨by omega, by omega, by omega⟩)]
    by_cases e1 : -7 ≤ x ∧ x ≤ 7
    · by_cases e2 : -7 ≤ y ∧ y ≤ 7
      · have az' : 7 < (if 0 ≤ z then z else -z) ∧ (if 0 ≤ z then z else -z) ≤ 8 := by split <;> omega
        have ax' : 0 ≤ (if 0 ≤ x then x else -x) ∧ (if 0 ≤ x then x else -x) ≤ 7 := by split <;> omega
        have ay' : 0 ≤ (if 0 ≤ y then y else -y) ∧ (if 0 ≤ y then y else -y) ≤ 7 := by split <;> omega
        generalize (if 0 ≤ x then x else -x) = AX at *
        generalize (if 0 ≤ y then y else -y) = AY at *
        generalize (if 0 ≤ z then z else -z) = AZ at *
        show xfix gX6_meetsMoved (0, [some (.inr (.inr (6, k0))), some (.inr (.inr (6, k1))), some (.inl (iZ (x))), some (.inl (iZ (y))), some (.inl (iZ (z))), none, none, none, none, none], [], M) = _; rw [xfix_unf, sX6_meetsMoved_0]
        simp (disch := omega) only [xk_none, xk_inl, xk_inr, xk_ite, xri_v, xrl_v, xrv_v, xb_z0, xb_z1, xb_b2, if_true, if_false, ite_true, ite_false, iZ_lit, iZ_m1, iZ_m99, iZ_m8, iZ_add, iZ_sub, iZ_mul, iZ_neg, nz0, nzi, iZ_lt, iZ_le, iZ_inj, b2_z, b2_o, ite_bPz, ite_bPo, xb_bP, iZ_xin, if_pos, ite_self, ↓reduceIte, Int.reduceAdd, Int.reduceSub, Int.reduceMul, Int.reduceNeg, Int.reduceLT, Int.reduceLE, if_neg, ↓xri_some ax, ↓xri_some ay, ↓xri_some az]
      · have ax' : 0 ≤ (if 0 ≤ x then x else -x) ∧ (if 0 ≤ x then x else -x) ≤ 7 := by split <;> omega
        have ay' : 7 < (if 0 ≤ y then y else -y) ∧ (if 0 ≤ y then y else -y) ≤ 8 := by split <;> omega
        generalize (if 0 ≤ x then x else -x) = AX at *
        generalize (if 0 ≤ y then y else -y) = AY at *
        show xfix gX6_meetsMoved (0, [some (.inr (.inr (6, k0))), some (.inr (.inr (6, k1))), some (.inl (iZ (x))), some (.inl (iZ (y))), some (.inl (iZ (z))), none, none, none, none, none], [], M) = _; rw [xfix_unf, sX6_meetsMoved_0]
        simp (disch := omega) only [xk_none, xk_inl, xk_inr, xk_ite, xri_v, xrl_v, xrv_v, xb_z0, xb_z1, xb_b2, if_true, if_false, ite_true, ite_false, iZ_lit, iZ_m1, iZ_m99, iZ_m8, iZ_add, iZ_sub, iZ_mul, iZ_neg, nz0, nzi, iZ_lt, iZ_le, iZ_inj, b2_z, b2_o, ite_bPz, ite_bPo, xb_bP, iZ_xin, if_pos, ite_self, ↓reduceIte, Int.reduceAdd, Int.reduceSub, Int.reduceMul, Int.reduceNeg, Int.reduceLT, Int.reduceLE, if_neg, ↓xri_some ax, ↓xri_some ay]
    · have ax' : 7 < (if 0 ≤ x then x else -x) ∧ (if 0 ≤ x then x else -x) ≤ 8 := by split <;> omega
      generalize (if 0 ≤ x then x else -x) = AX at *
      show xfix gX6_meetsMoved (0, [some (.inr (.inr (6, k0))), some (.inr (.inr (6, k1))), some (.inl (iZ (x))), some (.inl (iZ (y))), some (.inl (iZ (z))), none, none, none, none, none], [], M) = _; rw [xfix_unf, sX6_meetsMoved_0]
      simp (disch := omega) only [xk_none, xk_inl, xk_inr, xk_ite, xri_v, xrl_v, xrv_v, xb_z0, xb_z1, xb_b2, if_true, if_false, ite_true, ite_false, iZ_lit, iZ_m1, iZ_m99, iZ_m8, iZ_add, iZ_sub, iZ_mul, iZ_neg, nz0, nzi, iZ_lt, iZ_le, iZ_inj, b2_z, b2_o, ite_bPz, ite_bPo, xb_bP, iZ_xin, if_pos, ite_self, ↓reduceIte, Int.reduceAdd, Int.reduceSub, Int.reduceMul, Int.reduceNeg, Int.reduceLT, Int.reduceLE, if_neg, ↓xri_some ax]
