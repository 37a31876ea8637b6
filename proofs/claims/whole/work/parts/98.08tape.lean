/-! the class: the tape -/
/-- a byte as Java reads it -/
def sgb (b : Nat) : Int := if b < 128 then (b : Int) else (b : Int) - 256
def cT (M : xM) (N : Nat) (T : Nat → Nat) : Prop := xI M (8, 0) 1 = iZ N ∧ N ≤ 800 ∧ ∀ k, k < N → xI M (47, 0) k = iZ (sgb (T k)) ∧ T k < 256
theorem sgb_b {b : Nat} (h : b < 256) : -128 ≤ sgb b ∧ sgb b < 128 ∧ (isL b ↔ 97 ≤ sgb b ∧ sgb b ≤ 122) ∧ (isD b ↔ 48 ≤ sgb b ∧ sgb b ≤ 57) ∧ (isB b ↔ sgb b = 32 ∨ sgb b = 10) ∧ (b = 59 ↔ sgb b = 59) ∧ (b < 128 → sgb b = b) := by
  unfold sgb isL isD isB
  split <;> omega
theorem x_isBlank {M : xM} {v : Int} (h : -128 ≤ v ∧ v < 128) : fX8_isBlank [.inl (iZ (v))] M = some (some (.inl (bP (v = 32 ∨ v = 10))), M) := by
  show xfix gX8_isBlank (0, [some (.inl (iZ (v)))], [], M) = _; rw [xfix_unf, sX8_isBlank_0]
  simp (disch := omega) only [xk_none, xk_inl, xk_inr, xk_ite, xri_v, xrl_v, xrv_v, xb_z0, xb_z1, xb_b2, if_true, if_false, ite_true, ite_false, iZ_lit, iZ_m1, iZ_m99, iZ_m8, iZ_add, iZ_sub, iZ_mul, iZ_neg, nz0, nzi, iZ_lt, iZ_le, iZ_inj, b2_z, b2_o, ite_bPz, ite_bPo, xb_bP, iZ_xin, if_pos, ite_self, ↓reduceIte, Int.reduceAdd, Int.reduceSub, Int.reduceMul, Int.reduceNeg, Int.reduceLT, Int.reduceLE]
  (repeat' split) <;> first | (rw [bP_t (by omega)]) | (rw [bP_f (by omega)])
theorem x_isLetter {M : xM} {v : Int} (h : -128 ≤ v ∧ v < 128) : fX8_isLetter [.inl (iZ (v))] M = some (some (.inl (bP (97 ≤ v ∧ v ≤ 122))), M) := by
  show xfix gX8_isLetter (0, [some (.inl (iZ (v)))], [], M) = _; rw [xfix_unf, sX8_isLetter_0]
  simp (disch := omega) only [xk_none, xk_inl, xk_inr, xk_ite, xri_v, xrl_v, xrv_v, xb_z0, xb_z1, xb_b2, if_true, if_false, ite_true, ite_false, iZ_lit, iZ_m1, iZ_m99, iZ_m8, iZ_add, iZ_sub, iZ_mul, iZ_neg, nz0, nzi, iZ_lt, iZ_le, iZ_inj, b2_z, b2_o, ite_bPz, ite_bPo, xb_bP, iZ_xin, if_pos, ite_self, ↓reduceIte, Int.reduceAdd, Int.reduceSub, Int.reduceMul, Int.reduceNeg, Int.reduceLT, Int.reduceLE]
  (repeat' split) <;> first | (rw [bP_t (by omega)]) | (rw [bP_f (by omega)])
theorem x_isDigit {M : xM} {v : Int} (h : -128 ≤ v ∧ v < 128) : fX8_isDigit [.inl (iZ (v))] M = some (some (.inl (bP (48 ≤ v ∧ v ≤ 57))), M) := by
  show xfix gX8_isDigit (0, [some (.inl (iZ (v)))], [], M) = _; rw [xfix_unf, sX8_isDigit_0]
  simp (disch := omega) only [xk_none, xk_inl, xk_inr, xk_ite, xri_v, xrl_v, xrv_v, xb_z0, xb_z1, xb_b2, if_true, if_false, ite_true, ite_false, iZ_lit, iZ_m1, iZ_m99, iZ_m8, iZ_add, iZ_sub, iZ_mul, iZ_neg, nz0, nzi, iZ_lt, iZ_le, iZ_inj, b2_z, b2_o, ite_bPz, ite_bPo, xb_bP, iZ_xin, if_pos, ite_self, ↓reduceIte, Int.reduceAdd, Int.reduceSub, Int.reduceMul, Int.reduceNeg, Int.reduceLT, Int.reduceLE]
  (repeat' split) <;> first | (rw [bP_t (by omega)]) | (rw [bP_f (by omega)])
abbrev tpF (r : xR) (j : Nat) : Prop := r = (8, 0) ∧ (j = 4 ∨ j = 5 ∨ j = 6 ∨ j = 7)
theorem cT.sm {M M' : xM} {N : Nat} {T : Nat → Nat} {P : xR → Nat → Prop} (h : cT M N T) (hs : xSm P M M') (h1 : ¬ P (8, 0) 1) (h2 : ∀ k, ¬ P (47, 0) k) : cT M' N T := ⟨by rw [(hs _ _ h1).1]; exact h.1, h.2.1, fun k hk => ⟨by rw [(hs _ _ (h2 k)).1]; exact (h.2.2 k hk).1, (h.2.2 k hk).2⟩⟩
theorem cT.tp {M M' : xM} {N : Nat} {T : Nat → Nat} (h : cT M N T) (hs : xSm tpF M M') : cT M' N T := h.sm hs (by simp) (fun k => by simp)
/-- a word as a number to the base of 27 -/
def wv (f : Nat → Nat) : Nat → Int
  | 0 => 0
  | k + 1 => wv f k * 27 + ((f k : Int) - 97 + 1)
theorem rn_i {P : Nat → Prop} {N : Nat} {T : Nat → Nat} {i k : Nat} (h : i ≤ N) (hk : k < rn P N T i - i) : i + k < N ∧ P (T (i + k)) := rn_in (i := i) (k := i + k) (by omega) (by have := rn_b (P := P) (T := T) h; omega)
theorem x_takeWord {M : xM} {N st : Nat} {T : Nat → Nat} (h : cT M N T) (hst : st < N) (f5 : xI M (8, 0) 5 = iZ st) (f7 : xI M (8, 0) 7 = iZ st) : ∃ M', fX8_takeWord [.inr (.inr (8, 0))] M = some (none, M') ∧ xSm tpF M M' ∧ xI M' (8, 0) 5 = iZ st ∧ xI M' (8, 0) 7 = iZ (rn isL N T st) ∧ xI M' (8, 0) 4 = iZ (if rn isL N T st - st ≤ 6 then 1 else 4) ∧ xI M' (8, 0) 6 = iZ (wv (fun k => T (st + k)) (rn isL N T st - st)) := by
  have hN := h.2.1
  have hb := rn_b (P := isL) (T := T) (i := st) (N := N) (by omega)
  obtain ⟨M2, b1, b2, b3, b4, b5⟩ := xfor_M (sg := gX8_takeWord) (st := fun _ M => (5, [some (.inr (.inr (8, 0)))], [], M)) (I := fun n K => xSm tpF M K ∧ xI K (8, 0) 5 = iZ st ∧ xI K (8, 0) 7 = iZ ((st + n : Nat) : Int) ∧ xI K (8, 0) 6 = iZ (wv (fun k => T (st + k)) n)) (n := rn isL N T st - st) (fun i K hi hK => by
    obtain ⟨k1, k2, k3, k4⟩ := hK
    obtain ⟨r1, r2⟩ := rn_i (P := isL) (by omega) hi
    have c := h.tp k1
    obtain ⟨c1, c2⟩ := c.2.2 (st + i) r1
    have hs := sgb_b c2
    have hl := x_isLetter (M := K) (v := sgb (T (st + i))) (by omega)
    rw [bP_t (hs.2.2.1.mp r2)] at hl
    have e1 : sgb (T (st + i)) = (T (st + i) : Int) := hs.2.2.2.2.2.2 (by unfold isL at r2; omega)
    refine ⟨xpI (xpI K (8, 0) 6 (iZ (wv (fun k => T (st + k)) (i + 1)))) (8, 0) 7 (iZ ((st + i : Nat) + 1)), ?_, (k1.pI (by first | exact ⟨rfl, by omega⟩ | exact .inl ⟨rfl, by omega⟩ | exact .inr (.inl rfl) | exact .inr (.inl ⟨rfl, rfl⟩) | exact .inr (.inr (.inl rfl)) | exact .inr (.inr (.inr rfl)))).pI (by first | exact ⟨rfl, by omega⟩ | exact .inl ⟨rfl, by omega⟩ | exact .inr (.inl rfl) | exact .inr (.inl ⟨rfl, rfl⟩) | exact .inr (.inr (.inl rfl)) | exact .inr (.inr (.inr rfl))), ?_, ?_, ?_⟩
    · show xfix gX8_takeWord (5, [some (.inr (.inr (8, 0)))], [], K) = xfix gX8_takeWord (5, [some (.inr (.inr (8, 0)))], [], _)
      have eW : wv (fun k => T (st + k)) (i + 1) = wv (fun k => T (st + k)) i * 27 + ((T (st + i) : Int) - 97 + 1) := rfl
      rw [eW]
      rw [e1] at c1 hl
      generalize wv (fun k => T (st + k)) i = v at *
      generalize T (st + i) = y at *
      generalize st + i = m at *
      rw [xfix_unf, sX8_takeWord_5]
      simp (disch := omega) only [xk_none, xk_inl, xk_inr, xk_ite, xri_v, xrl_v, xrv_v, xb_z0, xb_z1, xb_b2, if_true, if_false, ite_true, ite_false, iZ_lit, iZ_m1, iZ_m99, iZ_m8, iZ_add, iZ_sub, iZ_mul, iZ_neg, nz0, nzi, iZ_lt, iZ_le, iZ_inj, b2_z, b2_o, ite_bPz, ite_bPo, xb_bP, iZ_xin, if_pos, ite_self, ↓reduceIte, Int.reduceAdd, Int.reduceSub, Int.reduceMul, Int.reduceNeg, Int.reduceLT, Int.reduceLE, if_neg, nS, iZ_clampN, iZ_bit, iZ_one, iZ_and, iZ_or, iZ_ndn, c.1, k3, k4, c1, hl, pR_ne]
    · rw [pR_ne (by omega), pR_ne (by omega)]; exact k2
    · rw [pR_eq]; rfl
    · rw [pR_ne (by omega), pR_eq]) (a := 0) (M := xpI M (8, 0) 6 (iZ 0)) (by omega) ⟨xSm.rf.pI (by first | exact ⟨rfl, by omega⟩ | exact .inl ⟨rfl, by omega⟩ | exact .inr (.inl rfl) | exact .inr (.inl ⟨rfl, rfl⟩) | exact .inr (.inr (.inl rfl)) | exact .inr (.inr (.inr rfl))), by rw [pR_ne (by omega)]; exact f5, by rw [pR_ne (by omega)]; exact f7, by rw [pR_eq]; rfl⟩
  have e0 : st + (rn isL N T st - st) = rn isL N T st := by omega
  rw [e0] at b4
  have c := h.tp b2
  have t5 : xfix gX8_takeWord (5, [some (.inr (.inr (8, 0)))], [], M2) = xfix gX8_takeWord (70, [some (.inr (.inr (8, 0)))], [], M2) := by
    by_cases y : rn isL N T st < N
    · have r2 := rn_end (P := isL) (by omega) y
      obtain ⟨c1, c2⟩ := c.2.2 _ y
      have hs := sgb_b c2
      have hl := x_isLetter (M := M2) (v := sgb (T (rn isL N T st))) (by omega)
      rw [bP_f (fun z => r2 (hs.2.2.1.mpr z))] at hl
      generalize sgb (T (rn isL N T st)) = s at *
      generalize rn isL N T st = m at *
      rw [xfix_unf, sX8_takeWord_5]
      simp (disch := omega) only [xk_none, xk_inl, xk_inr, xk_ite, xri_v, xrl_v, xrv_v, xb_z0, xb_z1, xb_b2, if_true, if_false, ite_true, ite_false, iZ_lit, iZ_m1, iZ_m99, iZ_m8, iZ_add, iZ_sub, iZ_mul, iZ_neg, nz0, nzi, iZ_lt, iZ_le, iZ_inj, b2_z, b2_o, ite_bPz, ite_bPo, xb_bP, iZ_xin, if_pos, ite_self, ↓reduceIte, Int.reduceAdd, Int.reduceSub, Int.reduceMul, Int.reduceNeg, Int.reduceLT, Int.reduceLE, if_neg, nS, iZ_clampN, iZ_bit, iZ_one, iZ_and, iZ_or, iZ_ndn, c.1, b4, c1, hl]
    · generalize rn isL N T st = m at *
      rw [xfix_unf, sX8_takeWord_5]
      simp (disch := omega) only [xk_none, xk_inl, xk_inr, xk_ite, xri_v, xrl_v, xrv_v, xb_z0, xb_z1, xb_b2, if_true, if_false, ite_true, ite_false, iZ_lit, iZ_m1, iZ_m99, iZ_m8, iZ_add, iZ_sub, iZ_mul, iZ_neg, nz0, nzi, iZ_lt, iZ_le, iZ_inj, b2_z, b2_o, ite_bPz, ite_bPo, xb_bP, iZ_xin, if_pos, ite_self, ↓reduceIte, Int.reduceAdd, Int.reduceSub, Int.reduceMul, Int.reduceNeg, Int.reduceLT, Int.reduceLE, if_neg, nS, iZ_clampN, iZ_bit, iZ_one, iZ_and, iZ_or, iZ_ndn, c.1, b4]
  refine ⟨xpI M2 (8, 0) 4 (iZ (if rn isL N T st - st ≤ 6 then 1 else 4)), ?_, b2.pI (by first | exact ⟨rfl, by omega⟩ | exact .inl ⟨rfl, by omega⟩ | exact .inr (.inl rfl) | exact .inr (.inl ⟨rfl, rfl⟩) | exact .inr (.inr (.inl rfl)) | exact .inr (.inr (.inr rfl))), ?_, ?_, ?_, ?_⟩
  · show xfix gX8_takeWord (0, [some (.inr (.inr (8, 0)))], [], M) = _; rw [xfix_unf, sX8_takeWord_0]
    simp (disch := omega) only [xk_none, xk_inl, xk_inr, xk_ite, xri_v, xrl_v, xrv_v, xb_z0, xb_z1, xb_b2, if_true, if_false, ite_true, ite_false, iZ_lit, iZ_m1, iZ_m99, iZ_m8, iZ_add, iZ_sub, iZ_mul, iZ_neg, nz0, nzi, iZ_lt, iZ_le, iZ_inj, b2_z, b2_o, ite_bPz, ite_bPo, xb_bP, iZ_xin, if_pos, ite_self, ↓reduceIte, Int.reduceAdd, Int.reduceSub, Int.reduceMul, Int.reduceNeg, Int.reduceLT, Int.reduceLE, if_neg]
    refine Eq.trans b1 (t5.trans ?_)
    generalize rn isL N T st = m at *
    rw [xfix_unf, sX8_takeWord_70]
    by_cases y : m - st ≤ 6
    · rw [if_pos y]
      simp (disch := omega) only [xk_none, xk_inl, xk_inr, xk_ite, xri_v, xrl_v, xrv_v, xb_z0, xb_z1, xb_b2, if_true, if_false, ite_true, ite_false, iZ_lit, iZ_m1, iZ_m99, iZ_m8, iZ_add, iZ_sub, iZ_mul, iZ_neg, nz0, nzi, iZ_lt, iZ_le, iZ_inj, b2_z, b2_o, ite_bPz, ite_bPo, xb_bP, iZ_xin, if_pos, ite_self, ↓reduceIte, Int.reduceAdd, Int.reduceSub, Int.reduceMul, Int.reduceNeg, Int.reduceLT, Int.reduceLE, if_neg, nS, iZ_clampN, iZ_bit, iZ_one, iZ_and, iZ_or, iZ_ndn, b3, b4]
    · rw [if_neg y]
      simp (disch := omega) only [xk_none, xk_inl, xk_inr, xk_ite, xri_v, xrl_v, xrv_v, xb_z0, xb_z1, xb_b2, if_true, if_false, ite_true, ite_false, iZ_lit, iZ_m1, iZ_m99, iZ_m8, iZ_add, iZ_sub, iZ_mul, iZ_neg, nz0, nzi, iZ_lt, iZ_le, iZ_inj, b2_z, b2_o, ite_bPz, ite_bPo, xb_bP, iZ_xin, if_pos, ite_self, ↓reduceIte, Int.reduceAdd, Int.reduceSub, Int.reduceMul, Int.reduceNeg, Int.reduceLT, Int.reduceLE, if_neg, nS, iZ_clampN, iZ_bit, iZ_one, iZ_and, iZ_or, iZ_ndn, b3, b4]
  · rw [pR_ne (by omega)]; exact b3
  · rw [pR_ne (by omega)]; exact b4
  · rw [pR_eq]
  · rw [pR_ne (by omega)]; exact b5
theorem x_takeNumber {M : xM} {N st : Nat} {T : Nat → Nat} (h : cT M N T) (hst : st < N) (f5 : xI M (8, 0) 5 = iZ st) (f7 : xI M (8, 0) 7 = iZ st) : ∃ M', fX8_takeNumber [.inr (.inr (8, 0))] M = some (none, M') ∧ xSm tpF M M' ∧ xI M' (8, 0) 5 = iZ st ∧ xI M' (8, 0) 7 = iZ (rn isD N T st) ∧ xI M' (8, 0) 4 = iZ (if rn isD N T st - st ≤ 3 then 2 else 4) ∧ xI M' (8, 0) 6 = iZ (dv T st (rn isD N T st - st)) := by
  have hN := h.2.1
  have hb := rn_b (P := isD) (T := T) (i := st) (N := N) (by omega)
  obtain ⟨M2, b1, b2, b3, b4, b5⟩ := xfor_M (sg := gX8_takeNumber) (st := fun _ M => (5, [some (.inr (.inr (8, 0)))], [], M)) (I := fun n K => xSm tpF M K ∧ xI K (8, 0) 5 = iZ st ∧ xI K (8, 0) 7 = iZ ((st + n : Nat) : Int) ∧ xI K (8, 0) 6 = iZ (dv T st n)) (n := rn isD N T st - st) (fun i K hi hK => by
    obtain ⟨k1, k2, k3, k4⟩ := hK
    obtain ⟨r1, r2⟩ := rn_i (P := isD) (by omega) hi
    have c := h.tp k1
    obtain ⟨c1, c2⟩ := c.2.2 (st + i) r1
    have hs := sgb_b c2
    have hl := x_isDigit (M := K) (v := sgb (T (st + i))) (by omega)
    rw [bP_t (hs.2.2.2.1.mp r2)] at hl
    have e1 : sgb (T (st + i)) = (T (st + i) : Int) := hs.2.2.2.2.2.2 (by unfold isD at r2; omega)
    refine ⟨xpI (xpI K (8, 0) 6 (iZ (dv T st (i + 1)))) (8, 0) 7 (iZ ((st + i : Nat) + 1)), ?_, (k1.pI (by first | exact ⟨rfl, by omega⟩ | exact .inl ⟨rfl, by omega⟩ | exact .inr (.inl rfl) | exact .inr (.inl ⟨rfl, rfl⟩) | exact .inr (.inr (.inl rfl)) | exact .inr (.inr (.inr rfl)))).pI (by first | exact ⟨rfl, by omega⟩ | exact .inl ⟨rfl, by omega⟩ | exact .inr (.inl rfl) | exact .inr (.inl ⟨rfl, rfl⟩) | exact .inr (.inr (.inl rfl)) | exact .inr (.inr (.inr rfl))), ?_, ?_, ?_⟩
    · show xfix gX8_takeNumber (5, [some (.inr (.inr (8, 0)))], [], K) = xfix gX8_takeNumber (5, [some (.inr (.inr (8, 0)))], [], _)
      have eW : dv T st (i + 1) = dv T st i * 10 + ((T (st + i) : Int) - 48) := by
        show 10 * dv T st i + T (st + i) - 48 = _
        omega
      rw [eW]
      rw [e1] at c1 hl
      generalize dv T st i = v at *
      generalize T (st + i) = y at *
      generalize st + i = m at *
      rw [xfix_unf, sX8_takeNumber_5]
      simp (disch := omega) only [xk_none, xk_inl, xk_inr, xk_ite, xri_v, xrl_v, xrv_v, xb_z0, xb_z1, xb_b2, if_true, if_false, ite_true, ite_false, iZ_lit, iZ_m1, iZ_m99, iZ_m8, iZ_add, iZ_sub, iZ_mul, iZ_neg, nz0, nzi, iZ_lt, iZ_le, iZ_inj, b2_z, b2_o, ite_bPz, ite_bPo, xb_bP, iZ_xin, if_pos, ite_self, ↓reduceIte, Int.reduceAdd, Int.reduceSub, Int.reduceMul, Int.reduceNeg, Int.reduceLT, Int.reduceLE, if_neg, nS, iZ_clampN, iZ_bit, iZ_one, iZ_and, iZ_or, iZ_ndn, c.1, k3, k4, c1, hl, pR_ne]
    · rw [pR_ne (by omega), pR_ne (by omega)]; exact k2
    · rw [pR_eq]; rfl
    · rw [pR_ne (by omega), pR_eq]) (a := 0) (M := xpI M (8, 0) 6 (iZ 0)) (by omega) ⟨xSm.rf.pI (by first | exact ⟨rfl, by omega⟩ | exact .inl ⟨rfl, by omega⟩ | exact .inr (.inl rfl) | exact .inr (.inl ⟨rfl, rfl⟩) | exact .inr (.inr (.inl rfl)) | exact .inr (.inr (.inr rfl))), by rw [pR_ne (by omega)]; exact f5, by rw [pR_ne (by omega)]; exact f7, by rw [pR_eq]; rfl⟩
  have e0 : st + (rn isD N T st - st) = rn isD N T st := by omega
  rw [e0] at b4
  have c := h.tp b2
  have t5 : xfix gX8_takeNumber (5, [some (.inr (.inr (8, 0)))], [], M2) = xfix gX8_takeNumber (68, [some (.inr (.inr (8, 0)))], [], M2) := by
    by_cases y : rn isD N T st < N
    · have r2 := rn_end (P := isD) (by omega) y
      obtain ⟨c1, c2⟩ := c.2.2 _ y
      have hs := sgb_b c2
      have hl := x_isDigit (M := M2) (v := sgb (T (rn isD N T st))) (by omega)
      rw [bP_f (fun z => r2 (hs.2.2.2.1.mpr z))] at hl
      generalize sgb (T (rn isD N T st)) = s at *
      generalize rn isD N T st = m at *
      rw [xfix_unf, sX8_takeNumber_5]
      simp (disch := omega) only [xk_none, xk_inl, xk_inr, xk_ite, xri_v, xrl_v, xrv_v, xb_z0, xb_z1, xb_b2, if_true, if_false, ite_true, ite_false, iZ_lit, iZ_m1, iZ_m99, iZ_m8, iZ_add, iZ_sub, iZ_mul, iZ_neg, nz0, nzi, iZ_lt, iZ_le, iZ_inj, b2_z, b2_o, ite_bPz, ite_bPo, xb_bP, iZ_xin, if_pos, ite_self, ↓reduceIte, Int.reduceAdd, Int.reduceSub, Int.reduceMul, Int.reduceNeg, Int.reduceLT, Int.reduceLE, if_neg, nS, iZ_clampN, iZ_bit, iZ_one, iZ_and, iZ_or, iZ_ndn, c.1, b4, c1, hl]
    · generalize rn isD N T st = m at *
      rw [xfix_unf, sX8_takeNumber_5]
      simp (disch := omega) only [xk_none, xk_inl, xk_inr, xk_ite, xri_v, xrl_v, xrv_v, xb_z0, xb_z1, xb_b2, if_true, if_false, ite_true, ite_false, iZ_lit, iZ_m1, iZ_m99, iZ_m8, iZ_add, iZ_sub, iZ_mul, iZ_neg, nz0, nzi, iZ_lt, iZ_le, iZ_inj, b2_z, b2_o, ite_bPz, ite_bPo, xb_bP, iZ_xin, if_pos, ite_self, ↓reduceIte, Int.reduceAdd, Int.reduceSub, Int.reduceMul, Int.reduceNeg, Int.reduceLT, Int.reduceLE, if_neg, nS, iZ_clampN, iZ_bit, iZ_one, iZ_and, iZ_or, iZ_ndn, c.1, b4]
  refine ⟨xpI M2 (8, 0) 4 (iZ (if rn isD N T st - st ≤ 3 then 2 else 4)), ?_, b2.pI (by first | exact ⟨rfl, by omega⟩ | exact .inl ⟨rfl, by omega⟩ | exact .inr (.inl rfl) | exact .inr (.inl ⟨rfl, rfl⟩) | exact .inr (.inr (.inl rfl)) | exact .inr (.inr (.inr rfl))), ?_, ?_, ?_, ?_⟩
  · show xfix gX8_takeNumber (0, [some (.inr (.inr (8, 0)))], [], M) = _; rw [xfix_unf, sX8_takeNumber_0]
    simp (disch := omega) only [xk_none, xk_inl, xk_inr, xk_ite, xri_v, xrl_v, xrv_v, xb_z0, xb_z1, xb_b2, if_true, if_false, ite_true, ite_false, iZ_lit, iZ_m1, iZ_m99, iZ_m8, iZ_add, iZ_sub, iZ_mul, iZ_neg, nz0, nzi, iZ_lt, iZ_le, iZ_inj, b2_z, b2_o, ite_bPz, ite_bPo, xb_bP, iZ_xin, if_pos, ite_self, ↓reduceIte, Int.reduceAdd, Int.reduceSub, Int.reduceMul, Int.reduceNeg, Int.reduceLT, Int.reduceLE, if_neg]
    refine Eq.trans b1 (t5.trans ?_)
    generalize rn isD N T st = m at *
    rw [xfix_unf, sX8_takeNumber_68]
    by_cases y : m - st ≤ 3
    · rw [if_pos y]
      simp (disch := omega) only [xk_none, xk_inl, xk_inr, xk_ite, xri_v, xrl_v, xrv_v, xb_z0, xb_z1, xb_b2, if_true, if_false, ite_true, ite_false, iZ_lit, iZ_m1, iZ_m99, iZ_m8, iZ_add, iZ_sub, iZ_mul, iZ_neg, nz0, nzi, iZ_lt, iZ_le, iZ_inj, b2_z, b2_o, ite_bPz, ite_bPo, xb_bP, iZ_xin, if_pos, ite_self, ↓reduceIte, Int.reduceAdd, Int.reduceSub, Int.reduceMul, Int.reduceNeg, Int.reduceLT, Int.reduceLE, if_neg, nS, iZ_clampN, iZ_bit, iZ_one, iZ_and, iZ_or, iZ_ndn, b3, b4]
    · rw [if_neg y]
      simp (disch := omega) only [xk_none, xk_inl, xk_inr, xk_ite, xri_v, xrl_v, xrv_v, xb_z0, xb_z1, xb_b2, if_true, if_false, ite_true, ite_false, iZ_lit, iZ_m1, iZ_m99, iZ_m8, iZ_add, iZ_sub, iZ_mul, iZ_neg, nz0, nzi, iZ_lt, iZ_le, iZ_inj, b2_z, b2_o, ite_bPz, ite_bPo, xb_bP, iZ_xin, if_pos, ite_self, ↓reduceIte, Int.reduceAdd, Int.reduceSub, Int.reduceMul, Int.reduceNeg, Int.reduceLT, Int.reduceLE, if_neg, nS, iZ_clampN, iZ_bit, iZ_one, iZ_and, iZ_or, iZ_ndn, b3, b4]
  · rw [pR_ne (by omega)]; exact b3
  · rw [pR_ne (by omega)]; exact b4
  · rw [pR_eq]
  · rw [pR_ne (by omega)]; exact b5
noncomputable def ck (N : Nat) (T : Nat → Nat) (st : Nat) : Int := @ite _ (N ≤ st) (Classical.propDecidable _) 0 (if isL (T st) then (if tE N T st - st ≤ 6 then 1 else 4) else if isD (T st) then (if tE N T st - st ≤ 3 then 2 else 4) else if T st = 59 then 3 else 4)
/-- the token at st is the tape's -/
def cTk (M : xM) (N : Nat) (T : Nat → Nat) (st : Nat) : Prop := xI M (8, 0) 5 = iZ st ∧ xI M (8, 0) 7 = iZ (tE N T st) ∧ xI M (8, 0) 4 = iZ (ck N T st) ∧ (st < N → isL (T st) → xI M (8, 0) 6 = iZ (wv (fun k => T (st + k)) (tE N T st - st))) ∧ (st < N → isD (T st) → xI M (8, 0) 6 = iZ (dv T st (tE N T st - st)))
theorem x_advance {M : xM} {N i : Nat} {T : Nat → Nat} (h : cT M N T) (f7 : xI M (8, 0) 7 = iZ i) (hi : i ≤ N) : ∃ M', fX8_advance [.inr (.inr (8, 0))] M = some (none, M') ∧ xSm tpF M M' ∧ cTk M' N T (sk N T i) := by
  have hN := h.2.1
  have hb := rn_b (P := isB) (T := T) hi
  obtain ⟨M2, b1, b2, b3⟩ := xfor_M (sg := gX8_advance) (st := fun _ M => (0, [some (.inr (.inr (8, 0)))], [], M)) (I := fun n K => xSm tpF M K ∧ xI K (8, 0) 7 = iZ ((i + n : Nat) : Int)) (n := rn isB N T i - i) (fun j K hj hK => by
    obtain ⟨k1, k3⟩ := hK
    obtain ⟨r1, r2⟩ := rn_i (P := isB) hi hj
    have c := h.tp k1
    obtain ⟨c1, c2⟩ := c.2.2 (i + j) r1
    have hs := sgb_b c2
    have hl := x_isBlank (M := K) (v := sgb (T (i + j))) (by omega)
    rw [bP_t (hs.2.2.2.2.1.mp r2)] at hl
    refine ⟨xpI K (8, 0) 7 (iZ ((i + j : Nat) + 1)), ?_, k1.pI (by first | exact ⟨rfl, by omega⟩ | exact .inl ⟨rfl, by omega⟩ | exact .inr (.inl rfl) | exact .inr (.inl ⟨rfl, rfl⟩) | exact .inr (.inr (.inl rfl)) | exact .inr (.inr (.inr rfl))), by rw [pR_eq]; rfl⟩
    show xfix gX8_advance (0, [some (.inr (.inr (8, 0)))], [], K) = xfix gX8_advance (0, [some (.inr (.inr (8, 0)))], [], _)
    generalize sgb (T (i + j)) = y at *
    generalize i + j = m at *
    rw [xfix_unf, sX8_advance_0]
    simp (disch := omega) only [xk_none, xk_inl, xk_inr, xk_ite, xri_v, xrl_v, xrv_v, xb_z0, xb_z1, xb_b2, if_true, if_false, ite_true, ite_false, iZ_lit, iZ_m1, iZ_m99, iZ_m8, iZ_add, iZ_sub, iZ_mul, iZ_neg, nz0, nzi, iZ_lt, iZ_le, iZ_inj, b2_z, b2_o, ite_bPz, ite_bPo, xb_bP, iZ_xin, if_pos, ite_self, ↓reduceIte, Int.reduceAdd, Int.reduceSub, Int.reduceMul, Int.reduceNeg, Int.reduceLT, Int.reduceLE, if_neg, nS, iZ_clampN, iZ_bit, iZ_one, iZ_and, iZ_or, iZ_ndn, c.1, k3, c1, hl]) (a := 0) (M := M) (by omega) ⟨xSm.rf, f7⟩
  have e0 : i + (rn isB N T i - i) = sk N T i := by unfold sk; omega
  rw [e0] at b3
  have hsk : sk N T i ≤ N := hb.2
  have hse : sk N T i < N → ¬ isB (T (sk N T i)) := fun y => rn_end (P := isB) hi y
  have c := h.tp b2
  generalize sk N T i = st at *
  have t0 : fX8_advance [.inr (.inr (8, 0))] M = xfix gX8_advance (39, [some (.inr (.inr (8, 0)))], [], M2) := by
    show xfix gX8_advance (0, [some (.inr (.inr (8, 0)))], [], M) = _
    refine Eq.trans b1 ?_
    by_cases y : st < N
    · obtain ⟨c1, c2⟩ := c.2.2 _ y
      have hs := sgb_b c2
      have hl := x_isBlank (M := M2) (v := sgb (T st)) (by omega)
      rw [bP_f (fun z => hse y (hs.2.2.2.2.1.mpr z))] at hl
      generalize sgb (T st) = s at *
      rw [xfix_unf, sX8_advance_0]
      simp (disch := omega) only [xk_none, xk_inl, xk_inr, xk_ite, xri_v, xrl_v, xrv_v, xb_z0, xb_z1, xb_b2, if_true, if_false, ite_true, ite_false, iZ_lit, iZ_m1, iZ_m99, iZ_m8, iZ_add, iZ_sub, iZ_mul, iZ_neg, nz0, nzi, iZ_lt, iZ_le, iZ_inj, b2_z, b2_o, ite_bPz, ite_bPo, xb_bP, iZ_xin, if_pos, ite_self, ↓reduceIte, Int.reduceAdd, Int.reduceSub, Int.reduceMul, Int.reduceNeg, Int.reduceLT, Int.reduceLE, if_neg, nS, iZ_clampN, iZ_bit, iZ_one, iZ_and, iZ_or, iZ_ndn, c.1, b3, c1, hl]
    · rw [xfix_unf, sX8_advance_0]
      simp (disch := omega) only [xk_none, xk_inl, xk_inr, xk_ite, xri_v, xrl_v, xrv_v, xb_z0, xb_z1, xb_b2, if_true, if_false, ite_true, ite_false, iZ_lit, iZ_m1, iZ_m99, iZ_m8, iZ_add, iZ_sub, iZ_mul, iZ_neg, nz0, nzi, iZ_lt, iZ_le, iZ_inj, b2_z, b2_o, ite_bPz, ite_bPo, xb_bP, iZ_xin, if_pos, ite_self, ↓reduceIte, Int.reduceAdd, Int.reduceSub, Int.reduceMul, Int.reduceNeg, Int.reduceLT, Int.reduceLE, if_neg, nS, iZ_clampN, iZ_bit, iZ_one, iZ_and, iZ_or, iZ_ndn, c.1, b3]
  rw [t0]
  have g5 : xI (xpI M2 (8, 0) 5 (iZ st)) (8, 0) 5 = iZ st := pR_eq
  have g7 : xI (xpI M2 (8, 0) 5 (iZ st)) (8, 0) 7 = iZ st := by rw [pR_ne (by omega)]; exact b3
  have s5 : xSm tpF M (xpI M2 (8, 0) 5 (iZ st)) := b2.pI (by first | exact ⟨rfl, by omega⟩ | exact .inl ⟨rfl, by omega⟩ | exact .inr (.inl rfl) | exact .inr (.inl ⟨rfl, rfl⟩) | exact .inr (.inr (.inl rfl)) | exact .inr (.inr (.inr rfl)))
  have c5 := h.tp s5
  by_cases y : st < N
  · obtain ⟨c1, c2⟩ := c5.2.2 _ y
    have hs := sgb_b c2
    have hl := x_isLetter (M := xpI M2 (8, 0) 5 (iZ st)) (v := sgb (T st)) (by omega)
    have hd := x_isDigit (M := xpI M2 (8, 0) 5 (iZ st)) (v := sgb (T st)) (by omega)
    by_cases l : isL (T st)
    · rw [bP_t (hs.2.2.1.mp l)] at hl
      obtain ⟨M3, d1, d2, d3, d4, d5, d6⟩ := x_takeWord c5 y g5 g7
      have eE : tE N T st = rn isL N T st := by unfold tE; rw [if_neg (by omega), if_pos l]
      refine ⟨M3, ?_, s5.tr d2, d3, by rw [eE]; exact d4, ?_, fun _ _ => by rw [eE]; exact d6, fun _ z => absurd z (by unfold isL at l; unfold isD; omega)⟩
      · generalize sgb (T st) = s at *
        rw [xfix_unf, sX8_advance_39]
        simp (disch := omega) only [xk_none, xk_inl, xk_inr, xk_ite, xri_v, xrl_v, xrv_v, xb_z0, xb_z1, xb_b2, if_true, if_false, ite_true, ite_false, iZ_lit, iZ_m1, iZ_m99, iZ_m8, iZ_add, iZ_sub, iZ_mul, iZ_neg, nz0, nzi, iZ_lt, iZ_le, iZ_inj, b2_z, b2_o, ite_bPz, ite_bPo, xb_bP, iZ_xin, if_pos, ite_self, ↓reduceIte, Int.reduceAdd, Int.reduceSub, Int.reduceMul, Int.reduceNeg, Int.reduceLT, Int.reduceLE, if_neg, nS, iZ_clampN, iZ_bit, iZ_one, iZ_and, iZ_or, iZ_ndn, b3, g7, c5.1, c1, hl, d1]
      · have eK : ck N T st = if rn isL N T st - st ≤ 6 then 1 else 4 := by unfold ck; rw [if_neg (show ¬ N ≤ st by omega), if_pos l, eE]
        rw [eK]; exact d5
    · rw [bP_f (fun z => l (hs.2.2.1.mpr z))] at hl
      by_cases d : isD (T st)
      · rw [bP_t (hs.2.2.2.1.mp d)] at hd
        obtain ⟨M3, d1, d2, d3, d4, d5, d6⟩ := x_takeNumber c5 y g5 g7
        have eE : tE N T st = rn isD N T st := by unfold tE; rw [if_neg (by omega), if_neg l, if_pos d]
        refine ⟨M3, ?_, s5.tr d2, d3, by rw [eE]; exact d4, ?_, fun _ z => absurd z l, fun _ _ => by rw [eE]; exact d6⟩
        · generalize sgb (T st) = s at *
          rw [xfix_unf, sX8_advance_39]
          simp (disch := omega) only [xk_none, xk_inl, xk_inr, xk_ite, xri_v, xrl_v, xrv_v, xb_z0, xb_z1, xb_b2, if_true, if_false, ite_true, ite_false, iZ_lit, iZ_m1, iZ_m99, iZ_m8, iZ_add, iZ_sub, iZ_mul, iZ_neg, nz0, nzi, iZ_lt, iZ_le, iZ_inj, b2_z, b2_o, ite_bPz, ite_bPo, xb_bP, iZ_xin, if_pos, ite_self, ↓reduceIte, Int.reduceAdd, Int.reduceSub, Int.reduceMul, Int.reduceNeg, Int.reduceLT, Int.reduceLE, if_neg, nS, iZ_clampN, iZ_bit, iZ_one, iZ_and, iZ_or, iZ_ndn, b3, g7, c5.1, c1, hl, hd, d1]
        · have eK : ck N T st = if rn isD N T st - st ≤ 3 then 2 else 4 := by unfold ck; rw [if_neg (show ¬ N ≤ st by omega), if_neg l, if_pos d, eE]
          rw [eK]; exact d5
      · rw [bP_f (fun z => d (hs.2.2.2.1.mpr z))] at hd
        have eE : tE N T st = st + 1 := by unfold tE; rw [if_neg (by omega), if_neg l, if_neg d]
        have eK : ck N T st = if T st = 59 then 3 else 4 := by unfold ck; rw [if_neg (by omega), if_neg l, if_neg d]
        refine ⟨xpI (xpI (xpI M2 (8, 0) 5 (iZ st)) (8, 0) 4 (iZ (ck N T st))) (8, 0) 7 (iZ ((st : Int) + 1)), ?_, (s5.pI (by first | exact ⟨rfl, by omega⟩ | exact .inl ⟨rfl, by omega⟩ | exact .inr (.inl rfl) | exact .inr (.inl ⟨rfl, rfl⟩) | exact .inr (.inr (.inl rfl)) | exact .inr (.inr (.inr rfl)))).pI (by first | exact ⟨rfl, by omega⟩ | exact .inl ⟨rfl, by omega⟩ | exact .inr (.inl rfl) | exact .inr (.inl ⟨rfl, rfl⟩) | exact .inr (.inr (.inl rfl)) | exact .inr (.inr (.inr rfl))), ?_, ?_, ?_, fun _ z => absurd z l, fun _ z => absurd z d⟩
        · rw [eK]
          have g7' : ∀ v, xI (xpI (xpI M2 (8, 0) 5 (iZ st)) (8, 0) 4 v) (8, 0) 7 = iZ st := fun v => by rw [pR_ne (by omega)]; exact g7
          by_cases z : T st = 59
          · rw [if_pos z]
            have z2 := hs.2.2.2.2.2.1.mp z
            generalize sgb (T st) = s at *
            subst z2
            rw [xfix_unf, sX8_advance_39]
            simp (disch := omega) only [xk_none, xk_inl, xk_inr, xk_ite, xri_v, xrl_v, xrv_v, xb_z0, xb_z1, xb_b2, if_true, if_false, ite_true, ite_false, iZ_lit, iZ_m1, iZ_m99, iZ_m8, iZ_add, iZ_sub, iZ_mul, iZ_neg, nz0, nzi, iZ_lt, iZ_le, iZ_inj, b2_z, b2_o, ite_bPz, ite_bPo, xb_bP, iZ_xin, if_pos, ite_self, ↓reduceIte, Int.reduceAdd, Int.reduceSub, Int.reduceMul, Int.reduceNeg, Int.reduceLT, Int.reduceLE, if_neg, nS, iZ_clampN, iZ_bit, iZ_one, iZ_and, iZ_or, iZ_ndn, b3, g7, c5.1, c1, hl, hd, g7']
          · rw [if_neg z]
            have z2 : ¬ sgb (T st) = 59 := fun q => z (hs.2.2.2.2.2.1.mpr q)
            generalize sgb (T st) = s at *
            rw [xfix_unf, sX8_advance_39]
            simp (disch := omega) only [xk_none, xk_inl, xk_inr, xk_ite, xri_v, xrl_v, xrv_v, xb_z0, xb_z1, xb_b2, if_true, if_false, ite_true, ite_false, iZ_lit, iZ_m1, iZ_m99, iZ_m8, iZ_add, iZ_sub, iZ_mul, iZ_neg, nz0, nzi, iZ_lt, iZ_le, iZ_inj, b2_z, b2_o, ite_bPz, ite_bPo, xb_bP, iZ_xin, if_pos, ite_self, ↓reduceIte, Int.reduceAdd, Int.reduceSub, Int.reduceMul, Int.reduceNeg, Int.reduceLT, Int.reduceLE, if_neg, nS, iZ_clampN, iZ_bit, iZ_one, iZ_and, iZ_or, iZ_ndn, b3, g7, c5.1, c1, hl, hd, g7']
        · rw [pR_ne (by omega), pR_ne (by omega)]; exact g5
        · rw [pR_eq, eE]; rfl
        · rw [pR_ne (by omega), pR_eq]
  · have eE : tE N T st = st := by unfold tE; rw [if_pos (by omega)]
    refine ⟨xpI (xpI M2 (8, 0) 5 (iZ st)) (8, 0) 4 (iZ 0), ?_, s5.pI (by first | exact ⟨rfl, by omega⟩ | exact .inl ⟨rfl, by omega⟩ | exact .inr (.inl rfl) | exact .inr (.inl ⟨rfl, rfl⟩) | exact .inr (.inr (.inl rfl)) | exact .inr (.inr (.inr rfl))), ?_, ?_, ?_, fun z => absurd z y, fun z => absurd z y⟩
    · rw [xfix_unf, sX8_advance_39]
      simp (disch := omega) only [xk_none, xk_inl, xk_inr, xk_ite, xri_v, xrl_v, xrv_v, xb_z0, xb_z1, xb_b2, if_true, if_false, ite_true, ite_false, iZ_lit, iZ_m1, iZ_m99, iZ_m8, iZ_add, iZ_sub, iZ_mul, iZ_neg, nz0, nzi, iZ_lt, iZ_le, iZ_inj, b2_z, b2_o, ite_bPz, ite_bPo, xb_bP, iZ_xin, if_pos, ite_self, ↓reduceIte, Int.reduceAdd, Int.reduceSub, Int.reduceMul, Int.reduceNeg, Int.reduceLT, Int.reduceLE, if_neg, nS, iZ_clampN, iZ_bit, iZ_one, iZ_and, iZ_or, iZ_ndn, b3, g7, c5.1]
    · rw [pR_ne (by omega)]; exact g5
    · rw [pR_ne (by omega), eE]; exact g7
    · rw [pR_eq]; unfold ck; rw [if_pos (by omega)]
