/-! tokens -/
abbrev isB (c : Nat) : Prop := c = 32 ∨ c = 10
abbrev isL (c : Nat) : Prop := 97 ≤ c ∧ c ≤ 122
abbrev isD (c : Nat) : Prop := 48 ≤ c ∧ c ≤ 57
/-- the end of a run -/
noncomputable def rn (P : Nat → Prop) (N : Nat) (T : Nat → Nat) (i : Nat) : Nat := i + lst (fun k => ¬ (i + k < N ∧ P (T (i + k)))) (N - i)
theorem rn_b {P : Nat → Prop} {N : Nat} {T : Nat → Nat} {i : Nat} (h : i ≤ N) : i ≤ rn P N T i ∧ rn P N T i ≤ N := by
  have := lst_le (fun k => ¬ (i + k < N ∧ P (T (i + k)))) (N - i)
  unfold rn
  omega
theorem rn_in {P : Nat → Prop} {N : Nat} {T : Nat → Nat} {i k : Nat} (h1 : i ≤ k) (h2 : k < rn P N T i) : k < N ∧ P (T k) := by
  have := lst_no (fun k => ¬ (i + k < N ∧ P (T (i + k)))) (N - i) (k - i) (by unfold rn at h2; omega)
  have h3 := Classical.byContradiction this
  rw [show i + (k - i) = k by omega] at h3
  exact h3
theorem rn_end {P : Nat → Prop} {N : Nat} {T : Nat → Nat} {i : Nat} (h : i ≤ N) (h2 : rn P N T i < N) : ¬ P (T (rn P N T i)) := by
  have h3 := lst_is (fun k => ¬ (i + k < N ∧ P (T (i + k)))) (N - i) (by unfold rn at h2; omega)
  intro z
  exact h3 ⟨by unfold rn at h2; exact h2, z⟩
noncomputable def sk (N : Nat) (T : Nat → Nat) (i : Nat) : Nat := rn isB N T i
def wS (k : Nat) : Nat := xSl.getD k 0
def wC (k i : Nat) : Int32 := (xSb.getD k []).getD i 0
def wEq (T : Nat → Nat) (st e k : Nat) : Prop := e = st + wS k ∧ ∀ i, i < wS k → iZ (T (st + i)) = wC k i
/-- a token's end -/
noncomputable def tE (N : Nat) (T : Nat → Nat) (st : Nat) : Nat := @ite _ (N ≤ st) (Classical.propDecidable _) st (if isL (T st) then rn isL N T st else if isD (T st) then rn isD N T st else st + 1)
noncomputable def cit (c : Prop) (a b : Nat) : Nat := @ite _ c (Classical.propDecidable _) a b
theorem cit_t {c : Prop} {a b : Nat} (h : c) : cit c a b = a := if_pos h
theorem cit_f {c : Prop} {a b : Nat} (h : ¬ c) : cit c a b = b := if_neg h
/-- a word's code -/
noncomputable def tW (rc : Prop) (T : Nat → Nat) (st e : Nat) : Nat := cit (¬ rc ∧ wEq T st e 0) 4 (cit (¬ rc ∧ wEq T st e 1) 5 (cit (¬ rc ∧ wEq T st e 2) 6 (cit (rc ∧ wEq T st e 3) 7 (cit (wEq T st e 4) 20 (cit (wEq T st e 5) 21 (cit (wEq T st e 6) 22 (cit (wEq T st e 7) 23 (cit (wEq T st e 8) 24 (cit (wEq T st e 9) 25 (if e - st < 7 then 3 else 1))))))))))
noncomputable def tk (rc : Prop) (N : Nat) (T : Nat → Nat) (st : Nat) : Nat := @ite _ (N ≤ st) (Classical.propDecidable _) 0 (if isL (T st) then tW rc T st (tE N T st) else if isD (T st) then (if tE N T st - st < 4 then 2 else 1) else if T st = 59 then 59 else 1)
/-- the value of the first digits -/
def dv (T : Nat → Nat) (st : Nat) : Nat → Int
  | 0 => 0
  | k + 1 => 10 * dv T st k + T (st + k) - 48
theorem tW_b (rc : Prop) (T : Nat → Nat) (st e : Nat) : tW rc T st e ≤ 59 := by
  unfold tW cit
  (repeat' split) <;> omega
theorem tk_b (rc : Prop) (N : Nat) (T : Nat → Nat) (st : Nat) : tk rc N T st ≤ 59 := by
  unfold tk
  have := tW_b rc T st (tE N T st)
  (repeat' split) <;> omega
theorem tE_b {N : Nat} {T : Nat → Nat} {st : Nat} (h : st ≤ N) : st ≤ tE N T st ∧ tE N T st ≤ N ∧ (st < N → st < tE N T st) := by
  unfold tE
  by_cases c : N ≤ st
  · rw [if_pos c]; omega
  · rw [if_neg c]
    by_cases c1 : isL (T st)
    · rw [if_pos c1]
      have := rn_b (P := isL) (T := T) h
      refine ⟨this.1, this.2, fun _ => ?_⟩
      refine Nat.lt_of_le_of_ne this.1 fun e => ?_
      exact rn_end (P := isL) (T := T) h (by omega) (by rw [← e]; exact c1)
    · rw [if_neg c1]
      by_cases c2 : isD (T st)
      · rw [if_pos c2]
        have := rn_b (P := isD) (T := T) h
        refine ⟨this.1, this.2, fun _ => ?_⟩
        refine Nat.lt_of_le_of_ne this.1 fun e => ?_
        exact rn_end (P := isD) (T := T) h (by omega) (by rw [← e]; exact c2)
      · rw [if_neg c2]; omega
theorem dv_b {T : Nat → Nat} {st : Nat} : ∀ {k : Nat}, k ≤ 3 → (∀ j, j < k → isD (T (st + j))) → 0 ≤ dv T st k ∧ dv T st k < 10 ^ k
  | 0, _, _ => by simp [dv]
  | k + 1, h, h2 => by
    have ih := dv_b (T := T) (st := st) (k := k) (by omega) (fun j hj => h2 j (by omega))
    have h3 := h2 k (by omega)
    unfold dv
    generalize T (st + k) = c at *
    generalize dv T st k = v at *
    rcases (by omega : k = 0 ∨ k = 1 ∨ k = 2) with e | e | e <;> subst e <;> simp at ih ⊢ <;> omega
/-! the reference's tokens -/
def rT (M : xM) (N : Nat) (T : Nat → Nat) : Prop := xI M (12, 0) 18 = iZ N ∧ N ≤ 800 ∧ ∀ k, k < N → xI M (110, 0) k = iZ (T k) ∧ T k < 256
theorem m_see {M : xM} {N k : Nat} {T : Nat → Nat} (h : rT M N T) (hk : k ≤ 800) : fX12_see [.inr (.inr (12, 0)), .inl (iZ (k))] M = some (some (.inl (iZ (if k < N then (T k : Int) else -1))), M) := by
  obtain ⟨h1, h2, h3⟩ := h
  show xfix gX12_see (0, [some (.inr (.inr (12, 0))), some (.inl (iZ (k)))], [], M) = _; rw [xfix_unf, sX12_see_0]
  by_cases c : k < N
  · rw [if_pos c]
    simp (disch := omega) only [xk_none, xk_inl, xk_inr, xk_ite, xri_v, xrl_v, xrv_v, xb_z0, xb_z1, xb_b2, if_true, if_false, ite_true, ite_false, iZ_lit, iZ_m1, iZ_m99, iZ_m8, iZ_add, iZ_sub, iZ_mul, iZ_neg, nz0, nzi, iZ_lt, iZ_le, iZ_inj, b2_z, b2_o, ite_bPz, ite_bPo, xb_bP, iZ_xin, if_pos, ite_self, ↓reduceIte, Int.reduceAdd, Int.reduceSub, Int.reduceMul, Int.reduceNeg, Int.reduceLT, Int.reduceLE, if_neg, nS, iZ_clampN, iZ_bit, iZ_one, iZ_and, iZ_or, iZ_ndn, h1, (h3 k c).1]
  · rw [if_neg c]
    simp (disch := omega) only [xk_none, xk_inl, xk_inr, xk_ite, xri_v, xrl_v, xrv_v, xb_z0, xb_z1, xb_b2, if_true, if_false, ite_true, ite_false, iZ_lit, iZ_m1, iZ_m99, iZ_m8, iZ_add, iZ_sub, iZ_mul, iZ_neg, nz0, nzi, iZ_lt, iZ_le, iZ_inj, b2_z, b2_o, ite_bPz, ite_bPo, xb_bP, iZ_xin, if_pos, ite_self, ↓reduceIte, Int.reduceAdd, Int.reduceSub, Int.reduceMul, Int.reduceNeg, Int.reduceLT, Int.reduceLE, if_neg, nS, iZ_clampN, iZ_bit, iZ_one, iZ_and, iZ_or, iZ_ndn, h1]
theorem m_isLetter {M : xM} {c : Int} (hc : -1 ≤ c ∧ c < 256) : fX12_isLetter [.inl (iZ (c))] M = some (some (.inl (bP (97 ≤ c ∧ c ≤ 122))), M) := by
  show xfix gX12_isLetter (0, [some (.inl (iZ (c)))], [], M) = _; rw [xfix_unf, sX12_isLetter_0]
  simp (disch := omega) only [xk_none, xk_inl, xk_inr, xk_ite, xri_v, xrl_v, xrv_v, xb_z0, xb_z1, xb_b2, if_true, if_false, ite_true, ite_false, iZ_lit, iZ_m1, iZ_m99, iZ_m8, iZ_add, iZ_sub, iZ_mul, iZ_neg, nz0, nzi, iZ_lt, iZ_le, iZ_inj, b2_z, b2_o, ite_bPz, ite_bPo, xb_bP, iZ_xin, if_pos, ite_self, ↓reduceIte, Int.reduceAdd, Int.reduceSub, Int.reduceMul, Int.reduceNeg, Int.reduceLT, Int.reduceLE, if_neg, nS, iZ_clampN, iZ_bit, iZ_one, iZ_and, iZ_or, iZ_ndn, k_isIn]
theorem m_isDigit {M : xM} {c : Int} (hc : -1 ≤ c ∧ c < 256) : fX12_isDigit [.inl (iZ (c))] M = some (some (.inl (bP (48 ≤ c ∧ c ≤ 57))), M) := by
  show xfix gX12_isDigit (0, [some (.inl (iZ (c)))], [], M) = _; rw [xfix_unf, sX12_isDigit_0]
  simp (disch := omega) only [xk_none, xk_inl, xk_inr, xk_ite, xri_v, xrl_v, xrv_v, xb_z0, xb_z1, xb_b2, if_true, if_false, ite_true, ite_false, iZ_lit, iZ_m1, iZ_m99, iZ_m8, iZ_add, iZ_sub, iZ_mul, iZ_neg, nz0, nzi, iZ_lt, iZ_le, iZ_inj, b2_z, b2_o, ite_bPz, ite_bPo, xb_bP, iZ_xin, if_pos, ite_self, ↓reduceIte, Int.reduceAdd, Int.reduceSub, Int.reduceMul, Int.reduceNeg, Int.reduceLT, Int.reduceLE, if_neg, nS, iZ_clampN, iZ_bit, iZ_one, iZ_and, iZ_or, iZ_ndn, k_isIn]
theorem wS_b {k : Nat} (hk : k < 10) : 2 ≤ wS k ∧ wS k ≤ 5 := by
  rcases (by omega : k = 0 ∨ k = 1 ∨ k = 2 ∨ k = 3 ∨ k = 4 ∨ k = 5 ∨ k = 6 ∨ k = 7 ∨ k = 8 ∨ k = 9) with e | e | e | e | e | e | e | e | e | e <;> subst e <;> decide
theorem m_len {M : xM} {k : Nat} (hk : k < 10) : fJ0_length_8abf5 [.inr (.inr (99, k))] M = some (some (.inl (iZ ((wS k : Nat)))), M) := by
  show cond (Nat.beq 99 99 && Nat.blt k 10) (some (some (Sum.inl (Int32.ofNat (xSl.getD k 0))), M)) none = _
  rw [show Nat.blt k 10 = true from Nat.blt_eq.mpr hk]
  show some (some (Sum.inl (nI (wS k))), M) = _
  rw [iZ_nI]
theorem m_chr {M : xM} {k i : Nat} (hk : k < 10) (hi : i < wS k) : fJ0_charAt_5068e [.inr (.inr (99, k)), .inl (iZ (i : Int))] M = some (some (.inl (wC k i)), M) := by
  have hb := wS_b hk
  show cond (Nat.beq 99 99 && Nat.blt k 10 && xin (iZ (i : Int)) (xSl.getD k 0)) (some (some (Sum.inl ((xSb.getD k []).getD (iZ (i : Int)).toNatClampNeg 0)), M)) none = _
  rw [show Nat.blt k 10 = true from Nat.blt_eq.mpr hk, show xin (iZ (i : Int)) (xSl.getD k 0) = true from iZ_xin (n := wS k) (by omega) (by omega), iZ_clampN (by omega)]
  rfl
theorem m_is {M : xM} {N st e k : Nat} {T : Nat → Nat} (h : rT M N T) (h1 : st ≤ e) (h2 : e ≤ N) (f1 : xI M (12, 0) 21 = iZ st) (f2 : xI M (12, 0) 19 = iZ e) (hk : k < 10) : fX12_is [.inr (.inr (12, 0)), .inr (.inr (99, k))] M = some (some (.inl (bP (wEq T st e k))), M) := by
  obtain ⟨t1, t2, t3⟩ := h
  have hb := wS_b hk
  by_cases c : e = st + wS k
  · have top : fX12_is [.inr (.inr (12, 0)), .inr (.inr (99, k))] M = xfix gX12_is (24, [some (.inr (.inr (12, 0))), some (.inr (.inr (99, k))), some (.inl (iZ ((1 : Int)))), some (.inl (iZ ((0 : Nat))))], [], M) := by
      show xfix gX12_is (0, [some (.inr (.inr (12, 0))), some (.inr (.inr (99, k))), none, none], [], M) = _; rw [xfix_unf, sX12_is_0]
      simp (disch := omega) only [xk_none, xk_inl, xk_inr, xk_ite, xri_v, xrl_v, xrv_v, xb_z0, xb_z1, xb_b2, if_true, if_false, ite_true, ite_false, iZ_lit, iZ_m1, iZ_m99, iZ_m8, iZ_add, iZ_sub, iZ_mul, iZ_neg, nz0, nzi, iZ_lt, iZ_le, iZ_inj, b2_z, b2_o, ite_bPz, ite_bPo, xb_bP, iZ_xin, if_pos, ite_self, ↓reduceIte, Int.reduceAdd, Int.reduceSub, Int.reduceMul, Int.reduceNeg, Int.reduceLT, Int.reduceLE, if_neg, nS, iZ_clampN, iZ_bit, iZ_one, iZ_and, iZ_or, iZ_ndn, m_len hk, f1, f2]
      rfl
    have hx := xfor_all (sg := gX12_is) (st := fun i => (24, [some (.inr (.inr (12, 0))), some (.inr (.inr (99, k))), some (.inl (iZ ((1 : Int)))), some (.inl (iZ (i)))], [], M)) (R := fun i => some (some (.inl (bP (∀ j, i ≤ j → j < wS k → iZ (T (st + j)) = wC k j))), M)) (n := wS k) (fun i hi ih => by
      rw [all_from hi]
      rw [nS] at ih
      have f3 := (t3 (st + i) (by omega)).1
      have ecl : Int32.toNatClampNeg (iZ ((st : Int) + i)) = st + i := by rw [iZ_clamp (by omega)]; omega
      rw [xfix_unf, sX12_is_24]
      simp (disch := omega) only [xk_none, xk_inl, xk_inr, xk_ite, xri_v, xrl_v, xrv_v, xb_z0, xb_z1, xb_b2, if_true, if_false, ite_true, ite_false, iZ_lit, iZ_m1, iZ_m99, iZ_m8, iZ_add, iZ_sub, iZ_mul, iZ_neg, nz0, nzi, iZ_lt, iZ_le, iZ_inj, b2_z, b2_o, ite_bPz, ite_bPo, xb_bP, iZ_xin, if_pos, ite_self, ↓reduceIte, Int.reduceAdd, Int.reduceSub, Int.reduceMul, Int.reduceNeg, Int.reduceLT, Int.reduceLE, if_neg, nS, iZ_clampN, iZ_bit, iZ_one, iZ_and, iZ_or, iZ_ndn, m_len hk, f1, m_chr hk hi, ecl, f3, ih]
      by_cases y : iZ (T (st + i)) = wC k i
      · rw [if_pos y]; exact rP ⟨fun z => ⟨y, z⟩, fun z => z.2⟩
      · rw [if_neg y]
        rw [xfix_unf, sX12_is_24]
        by_cases y2 : wS k ≤ i + 1
        · simp (disch := omega) only [xk_none, xk_inl, xk_inr, xk_ite, xri_v, xrl_v, xrv_v, xb_z0, xb_z1, xb_b2, if_true, if_false, ite_true, ite_false, iZ_lit, iZ_m1, iZ_m99, iZ_m8, iZ_add, iZ_sub, iZ_mul, iZ_neg, nz0, nzi, iZ_lt, iZ_le, iZ_inj, b2_z, b2_o, ite_bPz, ite_bPo, xb_bP, iZ_xin, if_pos, ite_self, ↓reduceIte, Int.reduceAdd, Int.reduceSub, Int.reduceMul, Int.reduceNeg, Int.reduceLT, Int.reduceLE, if_neg, nS, iZ_clampN, iZ_bit, iZ_one, iZ_and, iZ_or, iZ_ndn, m_len hk]
          rw [bP_f (fun z => y z.1)]
        · simp (disch := omega) only [xk_none, xk_inl, xk_inr, xk_ite, xri_v, xrl_v, xrv_v, xb_z0, xb_z1, xb_b2, if_true, if_false, ite_true, ite_false, iZ_lit, iZ_m1, iZ_m99, iZ_m8, iZ_add, iZ_sub, iZ_mul, iZ_neg, nz0, nzi, iZ_lt, iZ_le, iZ_inj, b2_z, b2_o, ite_bPz, ite_bPo, xb_bP, iZ_xin, if_pos, ite_self, ↓reduceIte, Int.reduceAdd, Int.reduceSub, Int.reduceMul, Int.reduceNeg, Int.reduceLT, Int.reduceLE, if_neg, nS, iZ_clampN, iZ_bit, iZ_one, iZ_and, iZ_or, iZ_ndn, m_len hk]
          rw [bP_f (fun z => y z.1)]) (by
      rw [xfix_unf, sX12_is_24]
      simp (disch := omega) only [xk_none, xk_inl, xk_inr, xk_ite, xri_v, xrl_v, xrv_v, xb_z0, xb_z1, xb_b2, if_true, if_false, ite_true, ite_false, iZ_lit, iZ_m1, iZ_m99, iZ_m8, iZ_add, iZ_sub, iZ_mul, iZ_neg, nz0, nzi, iZ_lt, iZ_le, iZ_inj, b2_z, b2_o, ite_bPz, ite_bPo, xb_bP, iZ_xin, if_pos, ite_self, ↓reduceIte, Int.reduceAdd, Int.reduceSub, Int.reduceMul, Int.reduceNeg, Int.reduceLT, Int.reduceLE, if_neg, nS, iZ_clampN, iZ_bit, iZ_one, iZ_and, iZ_or, iZ_ndn, m_len hk]
      rw [bP_t (fun j j1 j2 => by omega)]) (i := 0) (by omega)
    rw [top]
    exact hx.trans (rP ⟨fun z => ⟨c, fun i hi => z i (by omega) hi⟩, fun z j _ hj => z.2 j hj⟩)
  · rw [bP_f (fun z => c z.1)]
    show xfix gX12_is (0, [some (.inr (.inr (12, 0))), some (.inr (.inr (99, k))), none, none], [], M) = _; rw [xfix_unf, sX12_is_0]
    simp (disch := omega) only [xk_none, xk_inl, xk_inr, xk_ite, xri_v, xrl_v, xrv_v, xb_z0, xb_z1, xb_b2, if_true, if_false, ite_true, ite_false, iZ_lit, iZ_m1, iZ_m99, iZ_m8, iZ_add, iZ_sub, iZ_mul, iZ_neg, nz0, nzi, iZ_lt, iZ_le, iZ_inj, b2_z, b2_o, ite_bPz, ite_bPo, xb_bP, iZ_xin, if_pos, ite_self, ↓reduceIte, Int.reduceAdd, Int.reduceSub, Int.reduceMul, Int.reduceNeg, Int.reduceLT, Int.reduceLE, if_neg, nS, iZ_clampN, iZ_bit, iZ_one, iZ_and, iZ_or, iZ_ndn, m_len hk, f1, f2]
    rw [xfix_unf, sX12_is_24]
    simp (disch := omega) only [xk_none, xk_inl, xk_inr, xk_ite, xri_v, xrl_v, xrv_v, xb_z0, xb_z1, xb_b2, if_true, if_false, ite_true, ite_false, iZ_lit, iZ_m1, iZ_m99, iZ_m8, iZ_add, iZ_sub, iZ_mul, iZ_neg, nz0, nzi, iZ_lt, iZ_le, iZ_inj, b2_z, b2_o, ite_bPz, ite_bPo, xb_bP, iZ_xin, if_pos, ite_self, ↓reduceIte, Int.reduceAdd, Int.reduceSub, Int.reduceMul, Int.reduceNeg, Int.reduceLT, Int.reduceLE, if_neg, nS, iZ_clampN, iZ_bit, iZ_one, iZ_and, iZ_or, iZ_ndn, m_len hk]
theorem m_word {M : xM} {N st e : Nat} {T : Nat → Nat} {rc : Prop} (h : rT M N T) (h1 : st ≤ e) (h2 : e ≤ N) (f1 : xI M (12, 0) 21 = iZ st) (f2 : xI M (12, 0) 19 = iZ e) (f3 : xI M (12, 0) 30 = bP rc) : fX12_word [.inr (.inr (12, 0))] M = some (some (.inl (iZ ((tW rc T st e : Nat)))), M) := by
  have hN := h.2.1
  have e74 : xfix gX12_word (74, [some (.inr (.inr (12, 0)))], [], M) = some (some (.inl (iZ ((cit (wEq T st e 4) 20 (cit (wEq T st e 5) 21 (cit (wEq T st e 6) 22 (cit (wEq T st e 7) 23 (cit (wEq T st e 8) 24 (cit (wEq T st e 9) 25 (if e - st < 7 then 3 else 1)))))) : Nat)))), M) := by
    rw [xfix_unf, sX12_word_74, m_is h h1 h2 f1 f2 (by omega : 4 < 10), xri_v]
    by_cases c4 : wEq T st e 4
    · rw [cit_t c4, bP_t c4]; simp (disch := omega) only [xk_none, xk_inl, xk_inr, xk_ite, xri_v, xrl_v, xrv_v, xb_z0, xb_z1, xb_b2, if_true, if_false, ite_true, ite_false, iZ_lit, iZ_m1, iZ_m99, iZ_m8, iZ_add, iZ_sub, iZ_mul, iZ_neg, nz0, nzi, iZ_lt, iZ_le, iZ_inj, b2_z, b2_o, ite_bPz, ite_bPo, xb_bP, iZ_xin, if_pos, ite_self, ↓reduceIte, Int.reduceAdd, Int.reduceSub, Int.reduceMul, Int.reduceNeg, Int.reduceLT, Int.reduceLE, if_neg]; rfl
    · rw [cit_f c4, bP_f c4, if_pos (show iZ 0 = 0 from rfl), m_is h h1 h2 f1 f2 (by omega : 5 < 10), xri_v]
      by_cases c5 : wEq T st e 5
      · rw [cit_t c5, bP_t c5]; simp (disch := omega) only [xk_none, xk_inl, xk_inr, xk_ite, xri_v, xrl_v, xrv_v, xb_z0, xb_z1, xb_b2, if_true, if_false, ite_true, ite_false, iZ_lit, iZ_m1, iZ_m99, iZ_m8, iZ_add, iZ_sub, iZ_mul, iZ_neg, nz0, nzi, iZ_lt, iZ_le, iZ_inj, b2_z, b2_o, ite_bPz, ite_bPo, xb_bP, iZ_xin, if_pos, ite_self, ↓reduceIte, Int.reduceAdd, Int.reduceSub, Int.reduceMul, Int.reduceNeg, Int.reduceLT, Int.reduceLE, if_neg]; rfl
      · rw [cit_f c5, bP_f c5, if_pos (show iZ 0 = 0 from rfl), m_is h h1 h2 f1 f2 (by omega : 6 < 10), xri_v]
        by_cases c6 : wEq T st e 6
        · rw [cit_t c6, bP_t c6]; simp (disch := omega) only [xk_none, xk_inl, xk_inr, xk_ite, xri_v, xrl_v, xrv_v, xb_z0, xb_z1, xb_b2, if_true, if_false, ite_true, ite_false, iZ_lit, iZ_m1, iZ_m99, iZ_m8, iZ_add, iZ_sub, iZ_mul, iZ_neg, nz0, nzi, iZ_lt, iZ_le, iZ_inj, b2_z, b2_o, ite_bPz, ite_bPo, xb_bP, iZ_xin, if_pos, ite_self, ↓reduceIte, Int.reduceAdd, Int.reduceSub, Int.reduceMul, Int.reduceNeg, Int.reduceLT, Int.reduceLE, if_neg]; rfl
        · rw [cit_f c6, bP_f c6, if_pos (show iZ 0 = 0 from rfl), m_is h h1 h2 f1 f2 (by omega : 7 < 10), xri_v]
          by_cases c7 : wEq T st e 7
          · rw [cit_t c7, bP_t c7]; simp (disch := omega) only [xk_none, xk_inl, xk_inr, xk_ite, xri_v, xrl_v, xrv_v, xb_z0, xb_z1, xb_b2, if_true, if_false, ite_true, ite_false, iZ_lit, iZ_m1, iZ_m99, iZ_m8, iZ_add, iZ_sub, iZ_mul, iZ_neg, nz0, nzi, iZ_lt, iZ_le, iZ_inj, b2_z, b2_o, ite_bPz, ite_bPo, xb_bP, iZ_xin, if_pos, ite_self, ↓reduceIte, Int.reduceAdd, Int.reduceSub, Int.reduceMul, Int.reduceNeg, Int.reduceLT, Int.reduceLE, if_neg]; rfl
          · rw [cit_f c7, bP_f c7, if_pos (show iZ 0 = 0 from rfl), m_is h h1 h2 f1 f2 (by omega : 8 < 10), xri_v]
            by_cases c8 : wEq T st e 8
            · rw [cit_t c8, bP_t c8]; simp (disch := omega) only [xk_none, xk_inl, xk_inr, xk_ite, xri_v, xrl_v, xrv_v, xb_z0, xb_z1, xb_b2, if_true, if_false, ite_true, ite_false, iZ_lit, iZ_m1, iZ_m99, iZ_m8, iZ_add, iZ_sub, iZ_mul, iZ_neg, nz0, nzi, iZ_lt, iZ_le, iZ_inj, b2_z, b2_o, ite_bPz, ite_bPo, xb_bP, iZ_xin, if_pos, ite_self, ↓reduceIte, Int.reduceAdd, Int.reduceSub, Int.reduceMul, Int.reduceNeg, Int.reduceLT, Int.reduceLE, if_neg]; rfl
            · rw [cit_f c8, bP_f c8, if_pos (show iZ 0 = 0 from rfl), m_is h h1 h2 f1 f2 (by omega : 9 < 10), xri_v]
              by_cases c9 : wEq T st e 9
              · rw [cit_t c9, bP_t c9]; simp (disch := omega) only [xk_none, xk_inl, xk_inr, xk_ite, xri_v, xrl_v, xrv_v, xb_z0, xb_z1, xb_b2, if_true, if_false, ite_true, ite_false, iZ_lit, iZ_m1, iZ_m99, iZ_m8, iZ_add, iZ_sub, iZ_mul, iZ_neg, nz0, nzi, iZ_lt, iZ_le, iZ_inj, b2_z, b2_o, ite_bPz, ite_bPo, xb_bP, iZ_xin, if_pos, ite_self, ↓reduceIte, Int.reduceAdd, Int.reduceSub, Int.reduceMul, Int.reduceNeg, Int.reduceLT, Int.reduceLE, if_neg]; rfl
              · rw [cit_f c9, bP_f c9, if_pos (show iZ 0 = 0 from rfl)]
                simp (disch := omega) only [xk_none, xk_inl, xk_inr, xk_ite, xri_v, xrl_v, xrv_v, xb_z0, xb_z1, xb_b2, if_true, if_false, ite_true, ite_false, iZ_lit, iZ_m1, iZ_m99, iZ_m8, iZ_add, iZ_sub, iZ_mul, iZ_neg, nz0, nzi, iZ_lt, iZ_le, iZ_inj, b2_z, b2_o, ite_bPz, ite_bPo, xb_bP, iZ_xin, if_pos, ite_self, ↓reduceIte, Int.reduceAdd, Int.reduceSub, Int.reduceMul, Int.reduceNeg, Int.reduceLT, Int.reduceLE, if_neg, f1, f2]
                by_cases y : e - st < 7
                · rw [if_pos y, if_neg (by omega)]; rfl
                · rw [if_neg y, if_pos (by omega)]; rfl
  unfold tW
  by_cases r : rc
  · have q0 : ∀ k, ¬ (¬ rc ∧ wEq T st e k) := fun k z => z.1 r
    rw [cit_f (q0 0), cit_f (q0 1), cit_f (q0 2)]
    rw [bP_t r] at f3
    show xfix gX12_word (0, [some (.inr (.inr (12, 0)))], [], M) = _; rw [xfix_unf, sX12_word_0]
    simp (disch := omega) only [xk_none, xk_inl, xk_inr, xk_ite, xri_v, xrl_v, xrv_v, xb_z0, xb_z1, xb_b2, if_true, if_false, ite_true, ite_false, iZ_lit, iZ_m1, iZ_m99, iZ_m8, iZ_add, iZ_sub, iZ_mul, iZ_neg, nz0, nzi, iZ_lt, iZ_le, iZ_inj, b2_z, b2_o, ite_bPz, ite_bPo, xb_bP, iZ_xin, if_pos, ite_self, ↓reduceIte, Int.reduceAdd, Int.reduceSub, Int.reduceMul, Int.reduceNeg, Int.reduceLT, Int.reduceLE, if_neg, f3]
    rw [xfix_unf, sX12_word_18]
    simp (disch := omega) only [xk_none, xk_inl, xk_inr, xk_ite, xri_v, xrl_v, xrv_v, xb_z0, xb_z1, xb_b2, if_true, if_false, ite_true, ite_false, iZ_lit, iZ_m1, iZ_m99, iZ_m8, iZ_add, iZ_sub, iZ_mul, iZ_neg, nz0, nzi, iZ_lt, iZ_le, iZ_inj, b2_z, b2_o, ite_bPz, ite_bPo, xb_bP, iZ_xin, if_pos, ite_self, ↓reduceIte, Int.reduceAdd, Int.reduceSub, Int.reduceMul, Int.reduceNeg, Int.reduceLT, Int.reduceLE, if_neg, f3]
    rw [xfix_unf, sX12_word_36]
    simp (disch := omega) only [xk_none, xk_inl, xk_inr, xk_ite, xri_v, xrl_v, xrv_v, xb_z0, xb_z1, xb_b2, if_true, if_false, ite_true, ite_false, iZ_lit, iZ_m1, iZ_m99, iZ_m8, iZ_add, iZ_sub, iZ_mul, iZ_neg, nz0, nzi, iZ_lt, iZ_le, iZ_inj, b2_z, b2_o, ite_bPz, ite_bPo, xb_bP, iZ_xin, if_pos, ite_self, ↓reduceIte, Int.reduceAdd, Int.reduceSub, Int.reduceMul, Int.reduceNeg, Int.reduceLT, Int.reduceLE, if_neg, f3]
    rw [xfix_unf, sX12_word_55]
    simp (disch := omega) only [xk_none, xk_inl, xk_inr, xk_ite, xri_v, xrl_v, xrv_v, xb_z0, xb_z1, xb_b2, if_true, if_false, ite_true, ite_false, iZ_lit, iZ_m1, iZ_m99, iZ_m8, iZ_add, iZ_sub, iZ_mul, iZ_neg, nz0, nzi, iZ_lt, iZ_le, iZ_inj, b2_z, b2_o, ite_bPz, ite_bPo, xb_bP, iZ_xin, if_pos, ite_self, ↓reduceIte, Int.reduceAdd, Int.reduceSub, Int.reduceMul, Int.reduceNeg, Int.reduceLT, Int.reduceLE, if_neg, f3, m_is h h1 h2 f1 f2 (by omega : 3 < 10)]
    by_cases c3 : wEq T st e 3
    · rw [cit_t ⟨r, c3⟩, if_pos c3]; rfl
    · rw [cit_f (fun z => c3 z.2), if_neg c3]; exact e74
  · rw [bP_f r] at f3
    have e55 : xfix gX12_word (55, [some (.inr (.inr (12, 0)))], [], M) = xfix gX12_word (74, [some (.inr (.inr (12, 0)))], [], M) := by
      rw [xfix_unf, sX12_word_55]
      simp (disch := omega) only [xk_none, xk_inl, xk_inr, xk_ite, xri_v, xrl_v, xrv_v, xb_z0, xb_z1, xb_b2, if_true, if_false, ite_true, ite_false, iZ_lit, iZ_m1, iZ_m99, iZ_m8, iZ_add, iZ_sub, iZ_mul, iZ_neg, nz0, nzi, iZ_lt, iZ_le, iZ_inj, b2_z, b2_o, ite_bPz, ite_bPo, xb_bP, iZ_xin, if_pos, ite_self, ↓reduceIte, Int.reduceAdd, Int.reduceSub, Int.reduceMul, Int.reduceNeg, Int.reduceLT, Int.reduceLE, if_neg, f3]
    rw [cit_f (c := rc ∧ wEq T st e 3) (fun z => r z.1)]
    show xfix gX12_word (0, [some (.inr (.inr (12, 0)))], [], M) = _; rw [xfix_unf, sX12_word_0]
    simp (disch := omega) only [xk_none, xk_inl, xk_inr, xk_ite, xri_v, xrl_v, xrv_v, xb_z0, xb_z1, xb_b2, if_true, if_false, ite_true, ite_false, iZ_lit, iZ_m1, iZ_m99, iZ_m8, iZ_add, iZ_sub, iZ_mul, iZ_neg, nz0, nzi, iZ_lt, iZ_le, iZ_inj, b2_z, b2_o, ite_bPz, ite_bPo, xb_bP, iZ_xin, if_pos, ite_self, ↓reduceIte, Int.reduceAdd, Int.reduceSub, Int.reduceMul, Int.reduceNeg, Int.reduceLT, Int.reduceLE, if_neg, f3, m_is h h1 h2 f1 f2 (by omega : 0 < 10)]
    by_cases c0 : wEq T st e 0
    · rw [cit_t ⟨r, c0⟩, if_pos c0]; rfl
    · rw [cit_f (fun z => c0 z.2), if_neg c0]
      rw [xfix_unf, sX12_word_18]
      simp (disch := omega) only [xk_none, xk_inl, xk_inr, xk_ite, xri_v, xrl_v, xrv_v, xb_z0, xb_z1, xb_b2, if_true, if_false, ite_true, ite_false, iZ_lit, iZ_m1, iZ_m99, iZ_m8, iZ_add, iZ_sub, iZ_mul, iZ_neg, nz0, nzi, iZ_lt, iZ_le, iZ_inj, b2_z, b2_o, ite_bPz, ite_bPo, xb_bP, iZ_xin, if_pos, ite_self, ↓reduceIte, Int.reduceAdd, Int.reduceSub, Int.reduceMul, Int.reduceNeg, Int.reduceLT, Int.reduceLE, if_neg, f3, m_is h h1 h2 f1 f2 (by omega : 1 < 10)]
      by_cases c1 : wEq T st e 1
      · rw [cit_t ⟨r, c1⟩, if_pos c1]; rfl
      · rw [cit_f (fun z => c1 z.2), if_neg c1]
        rw [xfix_unf, sX12_word_36]
        simp (disch := omega) only [xk_none, xk_inl, xk_inr, xk_ite, xri_v, xrl_v, xrv_v, xb_z0, xb_z1, xb_b2, if_true, if_false, ite_true, ite_false, iZ_lit, iZ_m1, iZ_m99, iZ_m8, iZ_add, iZ_sub, iZ_mul, iZ_neg, nz0, nzi, iZ_lt, iZ_le, iZ_inj, b2_z, b2_o, ite_bPz, ite_bPo, xb_bP, iZ_xin, if_pos, ite_self, ↓reduceIte, Int.reduceAdd, Int.reduceSub, Int.reduceMul, Int.reduceNeg, Int.reduceLT, Int.reduceLE, if_neg, f3, m_is h h1 h2 f1 f2 (by omega : 2 < 10)]
        by_cases c2 : wEq T st e 2
        · rw [cit_t ⟨r, c2⟩, if_pos c2]; rfl
        · rw [cit_f (fun z => c2 z.2), if_neg c2, e55]; exact e74
