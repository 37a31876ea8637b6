/-! the class: what a token says -/
theorem ck_b (N : Nat) (T : Nat → Nat) (st : Nat) : 0 ≤ ck N T st ∧ ck N T st ≤ 4 := by
  unfold ck
  (repeat' split) <;> omega
theorem ck1 {N : Nat} {T : Nat → Nat} {st : Nat} (h : ck N T st = 1) : (st < N ∧ isL (T st)) ∧ tE N T st - st ≤ 6 ∧ (st < tE N T st ∧ tE N T st ≤ N) ∧ ∀ k, k < tE N T st - st → isL (T (st + k)) := by
  unfold ck at h
  by_cases a : N ≤ st
  · rw [if_pos a] at h; omega
  · rw [if_neg a] at h
    by_cases b : isL (T st)
    · rw [if_pos b] at h
      have e : tE N T st = rn isL N T st := by unfold tE; rw [if_neg a, if_pos b]
      have e2 := tE_b (N := N) (T := T) (st := st) (by omega)
      refine ⟨⟨by omega, b⟩, ?_, ⟨e2.2.2 (by omega), e2.2.1⟩, fun k hk => ?_⟩
      · refine Classical.byContradiction fun z => ?_
        rw [if_neg z] at h; omega
      · rw [e] at hk
        exact (rn_i (P := isL) (by omega) hk).2
    · rw [if_neg b] at h
      by_cases c : isD (T st)
      · rw [if_pos c] at h; split at h <;> omega
      · rw [if_neg c] at h; split at h <;> omega
theorem x_says {M : xM} {N st k : Nat} {T : Nat → Nat} (h : cT M N T) (ht : cTk M N T st) (hst : st ≤ N) (hk : k < 10) : fX8_says [.inr (.inr (8, 0)), .inr (.inr (99, k))] M = some (some (.inl (bP (ck N T st = 1 ∧ wEq T st (tE N T st) k))), M) := by
  have hN := h.2.1
  have hc := ck_b N T st
  have hl := m_len (M := M) hk
  obtain ⟨t1, t2, t3, _⟩ := ht
  have hw := wS_b hk
  by_cases e : ck N T st = 1
  · obtain ⟨⟨a1, a2⟩, a3, ⟨a4, a5⟩, a6⟩ := ck1 e
    rw [e] at t3
    by_cases e2 : tE N T st = st + wS k
    · have lp := xfor_R (sg := gX8_says) (st := fun i K => (28, [some (.inr (.inr (8, 0))), some (.inr (.inr (99, k))), some (.inl (iZ (i)))], [], K)) (I := fun i K => K = M ∧ ∀ j, j < i → iZ (T (st + j)) = wC k j) (Q := fun o => o = some (some (.inl (bP (ck N T st = 1 ∧ wEq T st (tE N T st) k))), M)) (n := wS k) (fun i K hi hK => by
        obtain ⟨rfl, h1⟩ := hK
        have hch := m_chr (M := K) hk hi
        obtain ⟨c1, c2⟩ := h.2.2 (st + i) (by omega)
        have il := a6 i (by omega)
        rw [(sgb_b c2).2.2.2.2.2.2 (by unfold isL at il; omega)] at c1
        have es : (st : Int) + (i : Int) = ((st + i : Nat) : Int) := rfl
        have hm : st + i < N := by omega
        have h11 := h.1
        by_cases e3 : iZ (T (st + i)) = wC k i
        · refine .inl ⟨K, ?_, rfl, fun j hj => ?_⟩
          · rw [e3] at c1
            rw [nS]
            generalize st + i = m at *
            rw [xfix_unf, sX8_says_28]
            simp (disch := omega) only [xk_none, xk_inl, xk_inr, xk_ite, xri_v, xrl_v, xrv_v, xb_z0, xb_z1, xb_b2, if_true, if_false, ite_true, ite_false, iZ_lit, iZ_m1, iZ_m99, iZ_m8, iZ_add, iZ_sub, iZ_mul, iZ_neg, nz0, nzi, iZ_lt, iZ_le, iZ_inj, b2_z, b2_o, ite_bPz, ite_bPo, xb_bP, iZ_xin, if_pos, ite_self, ↓reduceIte, Int.reduceAdd, Int.reduceSub, Int.reduceMul, Int.reduceNeg, Int.reduceLT, Int.reduceLE, if_neg, nS, iZ_clampN, iZ_bit, iZ_one, iZ_and, iZ_or, iZ_ndn, hl, h11, t1, es, c1, hch]
          · by_cases e4 : j = i
            · rw [e4]; exact e3
            · exact h1 j (by omega)
        · refine .inr ?_
          rw [bP_f (fun z => e3 (z.2.2 i hi))]
          generalize st + i = m at *
          rw [xfix_unf, sX8_says_28]
          simp (disch := omega) only [xk_none, xk_inl, xk_inr, xk_ite, xri_v, xrl_v, xrv_v, xb_z0, xb_z1, xb_b2, if_true, if_false, ite_true, ite_false, iZ_lit, iZ_m1, iZ_m99, iZ_m8, iZ_add, iZ_sub, iZ_mul, iZ_neg, nz0, nzi, iZ_lt, iZ_le, iZ_inj, b2_z, b2_o, ite_bPz, ite_bPo, xb_bP, iZ_xin, if_pos, ite_self, ↓reduceIte, Int.reduceAdd, Int.reduceSub, Int.reduceMul, Int.reduceNeg, Int.reduceLT, Int.reduceLE, if_neg, nS, iZ_clampN, iZ_bit, iZ_one, iZ_and, iZ_or, iZ_ndn, hl, h11, t1, es, c1, hch, if_neg e3]) (fun K hK => by
        obtain ⟨rfl, h1⟩ := hK
        rw [bP_t ⟨e, e2, h1⟩]
        rw [xfix_unf, sX8_says_28]
        simp (disch := omega) only [xk_none, xk_inl, xk_inr, xk_ite, xri_v, xrl_v, xrv_v, xb_z0, xb_z1, xb_b2, if_true, if_false, ite_true, ite_false, iZ_lit, iZ_m1, iZ_m99, iZ_m8, iZ_add, iZ_sub, iZ_mul, iZ_neg, nz0, nzi, iZ_lt, iZ_le, iZ_inj, b2_z, b2_o, ite_bPz, ite_bPo, xb_bP, iZ_xin, if_pos, ite_self, ↓reduceIte, Int.reduceAdd, Int.reduceSub, Int.reduceMul, Int.reduceNeg, Int.reduceLT, Int.reduceLE, if_neg, nS, iZ_clampN, iZ_bit, iZ_one, iZ_and, iZ_or, iZ_ndn, hl]) (a := 0) (M := M) (by omega) ⟨rfl, fun j hj => by omega⟩
      refine Eq.trans ?_ lp
      have z0 : ((0 : Nat) : Int) = 0 := rfl
      have e5 : (tE N T st : Int) - (st : Int) = (wS k : Int) := by omega
      generalize tE N T st = m at *
      show xfix gX8_says (0, [some (.inr (.inr (8, 0))), some (.inr (.inr (99, k))), none], [], M) = _; rw [xfix_unf, sX8_says_0]
      simp (disch := omega) only [xk_none, xk_inl, xk_inr, xk_ite, xri_v, xrl_v, xrv_v, xb_z0, xb_z1, xb_b2, if_true, if_false, ite_true, ite_false, iZ_lit, iZ_m1, iZ_m99, iZ_m8, iZ_add, iZ_sub, iZ_mul, iZ_neg, nz0, nzi, iZ_lt, iZ_le, iZ_inj, b2_z, b2_o, ite_bPz, ite_bPo, xb_bP, iZ_xin, if_pos, ite_self, ↓reduceIte, Int.reduceAdd, Int.reduceSub, Int.reduceMul, Int.reduceNeg, Int.reduceLT, Int.reduceLE, if_neg, z0, t3, t2, t1, hl, e5]
    · rw [bP_f (fun z => e2 z.2.1)]
      generalize tE N T st = m at *
      show xfix gX8_says (0, [some (.inr (.inr (8, 0))), some (.inr (.inr (99, k))), none], [], M) = _; rw [xfix_unf, sX8_says_0]
      simp (disch := omega) only [xk_none, xk_inl, xk_inr, xk_ite, xri_v, xrl_v, xrv_v, xb_z0, xb_z1, xb_b2, if_true, if_false, ite_true, ite_false, iZ_lit, iZ_m1, iZ_m99, iZ_m8, iZ_add, iZ_sub, iZ_mul, iZ_neg, nz0, nzi, iZ_lt, iZ_le, iZ_inj, b2_z, b2_o, ite_bPz, ite_bPo, xb_bP, iZ_xin, if_pos, ite_self, ↓reduceIte, Int.reduceAdd, Int.reduceSub, Int.reduceMul, Int.reduceNeg, Int.reduceLT, Int.reduceLE, if_neg, t3, t2, t1, hl]
  · rw [bP_f (fun z => e z.1)]
    generalize ck N T st = m at *
    show xfix gX8_says (0, [some (.inr (.inr (8, 0))), some (.inr (.inr (99, k))), none], [], M) = _; rw [xfix_unf, sX8_says_0]
    simp (disch := omega) only [xk_none, xk_inl, xk_inr, xk_ite, xri_v, xrl_v, xrv_v, xb_z0, xb_z1, xb_b2, if_true, if_false, ite_true, ite_false, iZ_lit, iZ_m1, iZ_m99, iZ_m8, iZ_add, iZ_sub, iZ_mul, iZ_neg, nz0, nzi, iZ_lt, iZ_le, iZ_inj, b2_z, b2_o, ite_bPz, ite_bPo, xb_bP, iZ_xin, if_pos, ite_self, ↓reduceIte, Int.reduceAdd, Int.reduceSub, Int.reduceMul, Int.reduceNeg, Int.reduceLT, Int.reduceLE, if_neg, t3]
theorem wEq_d : ((List.range 10).all fun k => (List.range 10).all fun k' => k == k' || wS k != wS k' || (List.range (wS k)).any fun i => decide (wC k i ≠ wC k' i)) = true := by decide +kernel
theorem wEq_x {T : Nat → Nat} {st e k k' : Nat} (h : wEq T st e k) (h' : wEq T st e k') (hk : k < 10) (hk' : k' < 10) : k = k' := by
  have h1 := List.all_eq_true.mp (List.all_eq_true.mp wEq_d k (List.mem_range.mpr hk)) k' (List.mem_range.mpr hk')
  have e1 : wS k = wS k' := by have := h.1; have := h'.1; omega
  rw [Bool.or_eq_true, Bool.or_eq_true, e1] at h1
  rcases h1 with (h1 | h1) | h1
  · exact eq_of_beq h1
  · simp at h1
  · obtain ⟨i, i1, i2⟩ := List.any_eq_true.mp h1
    have i3 := List.mem_range.mp i1
    rw [decide_eq_true_eq] at i2
    exact absurd ((h.2 i (by omega)).symm.trans (h'.2 i (by omega))) i2
theorem tW_0 {T : Nat → Nat} {st e : Nat} (h : wEq T st e 0) : tW False T st e = 4 := by
  have n : ∀ j, j < 10 → j ≠ 0 → ¬ wEq T st e j := fun j hj hn z => hn (wEq_x z h hj (by omega))
  unfold tW
  rw [cit_t ⟨not_false, h⟩]
theorem tW_1 {T : Nat → Nat} {st e : Nat} (h : wEq T st e 1) : tW False T st e = 5 := by
  have n : ∀ j, j < 10 → j ≠ 1 → ¬ wEq T st e j := fun j hj hn z => hn (wEq_x z h hj (by omega))
  unfold tW
  rw [cit_f (fun z => n 0 (by omega) (by omega) z.2), cit_t ⟨not_false, h⟩]
theorem tW_2 {T : Nat → Nat} {st e : Nat} (h : wEq T st e 2) : tW False T st e = 6 := by
  have n : ∀ j, j < 10 → j ≠ 2 → ¬ wEq T st e j := fun j hj hn z => hn (wEq_x z h hj (by omega))
  unfold tW
  rw [cit_f (fun z => n 0 (by omega) (by omega) z.2), cit_f (fun z => n 1 (by omega) (by omega) z.2), cit_t ⟨not_false, h⟩]
theorem tW_3 {T : Nat → Nat} {st e : Nat} (h : wEq T st e 3) : tW True T st e = 7 := by
  have n : ∀ j, j < 10 → j ≠ 3 → ¬ wEq T st e j := fun j hj hn z => hn (wEq_x z h hj (by omega))
  unfold tW
  rw [cit_f (fun z => n 0 (by omega) (by omega) z.2), cit_f (fun z => n 1 (by omega) (by omega) z.2), cit_f (fun z => n 2 (by omega) (by omega) z.2), cit_t ⟨trivial, h⟩]
theorem tW_4 {T : Nat → Nat} {st e : Nat} {rc : Prop} (h : wEq T st e 4) : tW rc T st e = 20 := by
  have n : ∀ j, j < 10 → j ≠ 4 → ¬ wEq T st e j := fun j hj hn z => hn (wEq_x z h hj (by omega))
  unfold tW
  rw [cit_f (fun z => n 0 (by omega) (by omega) z.2), cit_f (fun z => n 1 (by omega) (by omega) z.2), cit_f (fun z => n 2 (by omega) (by omega) z.2), cit_f (fun z => n 3 (by omega) (by omega) z.2), cit_t h]
theorem tW_5 {T : Nat → Nat} {st e : Nat} {rc : Prop} (h : wEq T st e 5) : tW rc T st e = 21 := by
  have n : ∀ j, j < 10 → j ≠ 5 → ¬ wEq T st e j := fun j hj hn z => hn (wEq_x z h hj (by omega))
  unfold tW
  rw [cit_f (fun z => n 0 (by omega) (by omega) z.2), cit_f (fun z => n 1 (by omega) (by omega) z.2), cit_f (fun z => n 2 (by omega) (by omega) z.2), cit_f (fun z => n 3 (by omega) (by omega) z.2), cit_f (fun z => n 4 (by omega) (by omega) z), cit_t h]
theorem tW_6 {T : Nat → Nat} {st e : Nat} {rc : Prop} (h : wEq T st e 6) : tW rc T st e = 22 := by
  have n : ∀ j, j < 10 → j ≠ 6 → ¬ wEq T st e j := fun j hj hn z => hn (wEq_x z h hj (by omega))
  unfold tW
  rw [cit_f (fun z => n 0 (by omega) (by omega) z.2), cit_f (fun z => n 1 (by omega) (by omega) z.2), cit_f (fun z => n 2 (by omega) (by omega) z.2), cit_f (fun z => n 3 (by omega) (by omega) z.2), cit_f (fun z => n 4 (by omega) (by omega) z), cit_f (fun z => n 5 (by omega) (by omega) z), cit_t h]
theorem tW_7 {T : Nat → Nat} {st e : Nat} {rc : Prop} (h : wEq T st e 7) : tW rc T st e = 23 := by
  have n : ∀ j, j < 10 → j ≠ 7 → ¬ wEq T st e j := fun j hj hn z => hn (wEq_x z h hj (by omega))
  unfold tW
  rw [cit_f (fun z => n 0 (by omega) (by omega) z.2), cit_f (fun z => n 1 (by omega) (by omega) z.2), cit_f (fun z => n 2 (by omega) (by omega) z.2), cit_f (fun z => n 3 (by omega) (by omega) z.2), cit_f (fun z => n 4 (by omega) (by omega) z), cit_f (fun z => n 5 (by omega) (by omega) z), cit_f (fun z => n 6 (by omega) (by omega) z), cit_t h]
theorem tW_8 {T : Nat → Nat} {st e : Nat} {rc : Prop} (h : wEq T st e 8) : tW rc T st e = 24 := by
  have n : ∀ j, j < 10 → j ≠ 8 → ¬ wEq T st e j := fun j hj hn z => hn (wEq_x z h hj (by omega))
  unfold tW
  rw [cit_f (fun z => n 0 (by omega) (by omega) z.2), cit_f (fun z => n 1 (by omega) (by omega) z.2), cit_f (fun z => n 2 (by omega) (by omega) z.2), cit_f (fun z => n 3 (by omega) (by omega) z.2), cit_f (fun z => n 4 (by omega) (by omega) z), cit_f (fun z => n 5 (by omega) (by omega) z), cit_f (fun z => n 6 (by omega) (by omega) z), cit_f (fun z => n 7 (by omega) (by omega) z), cit_t h]
theorem tW_9 {T : Nat → Nat} {st e : Nat} {rc : Prop} (h : wEq T st e 9) : tW rc T st e = 25 := by
  have n : ∀ j, j < 10 → j ≠ 9 → ¬ wEq T st e j := fun j hj hn z => hn (wEq_x z h hj (by omega))
  unfold tW
  rw [cit_f (fun z => n 0 (by omega) (by omega) z.2), cit_f (fun z => n 1 (by omega) (by omega) z.2), cit_f (fun z => n 2 (by omega) (by omega) z.2), cit_f (fun z => n 3 (by omega) (by omega) z.2), cit_f (fun z => n 4 (by omega) (by omega) z), cit_f (fun z => n 5 (by omega) (by omega) z), cit_f (fun z => n 6 (by omega) (by omega) z), cit_f (fun z => n 7 (by omega) (by omega) z), cit_f (fun z => n 8 (by omega) (by omega) z), cit_t h]
theorem tW_w {T : Nat → Nat} {st e i : Nat} {rc : Prop} (hi : i < 6) (h : wEq T st e (4 + i)) : tW rc T st e = 20 + i := by
  rcases w6 hi with z | z | z | z | z | z <;> subst z
  · exact tW_4 h
  · exact tW_5 h
  · exact tW_6 h
  · exact tW_7 h
  · exact tW_8 h
  · exact tW_9 h
theorem tW_n {T : Nat → Nat} {st e : Nat} {rc : Prop} (h1 : ∀ j, j < 3 → ¬ rc → ¬ wEq T st e j) (h2 : rc → ¬ wEq T st e 3) (h3 : ∀ i, i < 6 → ¬ wEq T st e (4 + i)) : tW rc T st e = if e - st < 7 then 3 else 1 := by
  unfold tW
  rw [cit_f (fun z => h1 0 (by omega) z.1 z.2), cit_f (fun z => h1 1 (by omega) z.1 z.2), cit_f (fun z => h1 2 (by omega) z.1 z.2), cit_f (fun z => h2 z.1 z.2), cit_f (h3 0 (by omega)), cit_f (h3 1 (by omega)), cit_f (h3 2 (by omega)), cit_f (h3 3 (by omega)), cit_f (h3 4 (by omega)), cit_f (h3 5 (by omega))]
/-- a token that is a word -/
theorem tk_w {N : Nat} {T : Nat → Nat} {st : Nat} {rc : Prop} (h : ck N T st = 1) : tk rc N T st = tW rc T st (tE N T st) := by
  obtain ⟨⟨a1, a2⟩, _⟩ := ck1 h
  unfold tk
  rw [if_neg (by omega), if_pos a2]
theorem tk_o {N : Nat} {T : Nat → Nat} {st : Nat} {rc : Prop} (h : ck N T st ≠ 1) : tk rc N T st = if ck N T st = 0 then 0 else if ck N T st = 2 then 2 else if ck N T st = 3 then 59 else 1 := by
  unfold tk
  unfold ck at h ⊢
  by_cases a : N ≤ st
  · rw [if_pos a, if_pos a, if_pos rfl]
  · rw [if_neg a] at h
    rw [if_neg a, if_neg a]
    by_cases b : isL (T st)
    · rw [if_pos b] at h
      rw [if_pos b, if_pos b]
      by_cases c : tE N T st - st ≤ 6
      · rw [if_pos c] at h; exact absurd rfl h
      · rw [if_neg c]
        have hn : ∀ k, k < 10 → ¬ wEq T st (tE N T st) k := fun k hk z => by
          have := wS_b hk; have := z.1; omega
        rw [tW_n (fun j hj _ => hn j (by omega)) (fun _ => hn 3 (by omega)) (fun i hi => hn (4 + i) (by omega)), if_neg (by omega), if_neg (by omega), if_neg (by omega), if_neg (by omega)]
    · rw [if_neg b, if_neg b]
      by_cases d : isD (T st)
      · rw [if_pos d, if_pos d]
        by_cases c : tE N T st - st ≤ 3
        · rw [if_pos c, if_pos (by omega), if_neg (by omega), if_pos rfl]
        · rw [if_neg c, if_neg (by omega), if_neg (by omega), if_neg (by omega), if_neg (by omega)]
      · rw [if_neg d, if_neg d]
        by_cases c : T st = 59
        · rw [if_pos c, if_pos c, if_neg (by omega), if_neg (by omega), if_pos rfl]
        · rw [if_neg c, if_neg c, if_neg (by omega), if_neg (by omega), if_neg (by omega)]
/-- which word: the class's question against the reference's code -/
theorem tk_c {N : Nat} {T : Nat → Nat} {st : Nat} (rc : Prop) : (ck N T st = 1 ∧ tk rc N T st = tW rc T st (tE N T st)) ∨ (ck N T st ≠ 1 ∧ (tk rc N T st = 0 ∨ tk rc N T st = 2 ∨ tk rc N T st = 59 ∨ tk rc N T st = 1)) := by
  by_cases h : ck N T st = 1
  · exact .inl ⟨h, tk_w h⟩
  · refine .inr ⟨h, ?_⟩
    rw [tk_o h]
    (repeat' split) <;> omega
/-- the ways of a word -/
theorem tW_cs (rc : Prop) (T : Nat → Nat) (st e : Nat) (hl : e - st ≤ 6) : (∃ j, j < 3 ∧ ¬ rc ∧ wEq T st e j ∧ tW rc T st e = 4 + j) ∨ (rc ∧ wEq T st e 3 ∧ tW rc T st e = 7) ∨ (∃ i, i < 6 ∧ wEq T st e (4 + i) ∧ tW rc T st e = 20 + i) ∨ ((∀ j, j < 3 → ¬ rc → ¬ wEq T st e j) ∧ (rc → ¬ wEq T st e 3) ∧ (∀ i, i < 6 → ¬ wEq T st e (4 + i)) ∧ tW rc T st e = 3) := by
  by_cases a : ∃ j, j < 3 ∧ ¬ rc ∧ wEq T st e j
  · obtain ⟨j, j1, j2, j3⟩ := a
    refine .inl ⟨j, j1, j2, j3, ?_⟩
    rw [eq_false j2]
    have : j = 0 ∨ j = 1 ∨ j = 2 := by omega
    rcases this with z | z | z <;> subst z
    · exact tW_0 j3
    · exact tW_1 j3
    · exact tW_2 j3
  · by_cases b : rc ∧ wEq T st e 3
    · refine .inr (.inl ⟨b.1, b.2, ?_⟩)
      rw [eq_true b.1]
      exact tW_3 b.2
    · by_cases c : ∃ i, i < 6 ∧ wEq T st e (4 + i)
      · obtain ⟨i, i1, i2⟩ := c
        exact .inr (.inr (.inl ⟨i, i1, i2, tW_w i1 i2⟩))
      · have h1 : ∀ j, j < 3 → ¬ rc → ¬ wEq T st e j := fun j j1 j2 j3 => a ⟨j, j1, j2, j3⟩
        have h2 : rc → ¬ wEq T st e 3 := fun x y => b ⟨x, y⟩
        have h3 : ∀ i, i < 6 → ¬ wEq T st e (4 + i) := fun i i1 i2 => c ⟨i, i1, i2⟩
        exact .inr (.inr (.inr ⟨h1, h2, h3, by rw [tW_n h1 h2 h3, if_pos (by omega)]⟩))
theorem tk_key {N : Nat} {T : Nat → Nat} {st j : Nat} (hj : j < 3) : (ck N T st = 1 ∧ wEq T st (tE N T st) j) ↔ tk False N T st = 4 + j := by
  rcases tk_c (N := N) (T := T) (st := st) False with ⟨a, b⟩ | ⟨a, b⟩
  · rw [b]
    rcases tW_cs False T st (tE N T st) (ck1 a).2.1 with ⟨i, i1, i2, i3, i4⟩ | ⟨i1, _⟩ | ⟨i, i1, i2, i3⟩ | ⟨i1, i2, i3, i4⟩
    · rw [i4]
      constructor
      · intro z; have := wEq_x i3 z.2 (by omega) (by omega); omega
      · intro z; rw [show j = i by omega]; exact ⟨a, i3⟩
    · exact i1.elim
    · rw [i3]
      constructor
      · intro z; have := wEq_x i2 z.2 (by omega) (by omega); omega
      · intro z; omega
    · rw [i4]
      exact ⟨fun z => absurd z.2 (i1 j hj not_false), fun z => by omega⟩
  · exact ⟨fun z => absurd z.1 a, fun z => by omega⟩
theorem tk_and {N : Nat} {T : Nat → Nat} {st : Nat} : (ck N T st = 1 ∧ wEq T st (tE N T st) 3) ↔ tk True N T st = 7 := by
  rcases tk_c (N := N) (T := T) (st := st) True with ⟨a, b⟩ | ⟨a, b⟩
  · rw [b]
    rcases tW_cs True T st (tE N T st) (ck1 a).2.1 with ⟨i, i1, i2, _⟩ | ⟨i1, i2, i3⟩ | ⟨i, i1, i2, i3⟩ | ⟨i1, i2, i3, i4⟩
    · exact (i2 trivial).elim
    · exact ⟨fun _ => i3, fun _ => ⟨a, i2⟩⟩
    · rw [i3]
      constructor
      · intro z; have := wEq_x i2 z.2 (by omega) (by omega); omega
      · intro z; omega
    · rw [i4]
      exact ⟨fun z => absurd z.2 (i2 trivial), fun z => by omega⟩
  · exact ⟨fun z => absurd z.1 a, fun z => by omega⟩
theorem tk_way {N : Nat} {T : Nat → Nat} {st i : Nat} (rc : Prop) (hi : i < 6) : (ck N T st = 1 ∧ wEq T st (tE N T st) (4 + i)) ↔ tk rc N T st = 20 + i := by
  rcases tk_c (N := N) (T := T) (st := st) rc with ⟨a, b⟩ | ⟨a, b⟩
  · rw [b]
    rcases tW_cs rc T st (tE N T st) (ck1 a).2.1 with ⟨j, i1, i2, i3, i4⟩ | ⟨i1, i2, i3⟩ | ⟨j, i1, i2, i3⟩ | ⟨i1, i2, i3, i4⟩
    · rw [i4]
      constructor
      · intro z; have := wEq_x i3 z.2 (by omega) (by omega); omega
      · intro z; omega
    · rw [i3]
      constructor
      · intro z; have := wEq_x i2 z.2 (by omega) (by omega); omega
      · intro z; omega
    · rw [i3]
      constructor
      · intro z; have := wEq_x i2 z.2 (by omega) (by omega); omega
      · intro z; rw [show i = j by omega]; exact ⟨a, i2⟩
    · rw [i4]
      exact ⟨fun z => absurd z.2 (i3 i hi), fun z => by omega⟩
  · exact ⟨fun z => absurd z.1 a, fun z => by omega⟩
theorem tk_num {N : Nat} {T : Nat → Nat} {st : Nat} (rc : Prop) : (ck N T st = 2 ↔ tk rc N T st = 2) ∧ (ck N T st = 0 ↔ tk rc N T st = 0) ∧ (ck N T st = 3 ↔ tk rc N T st = 59) := by
  by_cases h : ck N T st = 1
  · rw [tk_w h, h]
    rcases tW_cs rc T st (tE N T st) (ck1 h).2.1 with ⟨j, i1, i2, i3, i4⟩ | ⟨i1, i2, i3⟩ | ⟨j, i1, i2, i3⟩ | ⟨i1, i2, i3, i4⟩ <;> omega
  · rw [tk_o h]
    have := ck_b N T st
    (repeat' split) <;> omega
theorem tk_nam {N : Nat} {T : Nat → Nat} {st : Nat} (rc : Prop) : (ck N T st = 1 ∧ (∀ j, j < 3 → ¬ rc → ¬ wEq T st (tE N T st) j) ∧ (rc → ¬ wEq T st (tE N T st) 3) ∧ ∀ i, i < 6 → ¬ wEq T st (tE N T st) (4 + i)) ↔ tk rc N T st = 3 := by
  rcases tk_c (N := N) (T := T) (st := st) rc with ⟨a, b⟩ | ⟨a, b⟩
  · rw [b]
    rcases tW_cs rc T st (tE N T st) (ck1 a).2.1 with ⟨j, i1, i2, i3, i4⟩ | ⟨i1, i2, i3⟩ | ⟨j, i1, i2, i3⟩ | ⟨i1, i2, i3, i4⟩
    · rw [i4]; exact ⟨fun z => absurd i3 (z.2.1 j i1 i2), fun z => by omega⟩
    · rw [i3]; exact ⟨fun z => absurd i2 (z.2.2.1 i1), fun z => by omega⟩
    · rw [i3]; exact ⟨fun z => absurd i2 (z.2.2.2 j i1), fun z => by omega⟩
    · rw [i4]; exact ⟨fun _ => rfl, fun _ => ⟨a, i1, i2, i3⟩⟩
  · exact ⟨fun z => absurd z.1 a, fun z => by omega⟩
/-- the way that a token names -/
noncomputable def wyA (rc : Prop) (N : Nat) (T : Nat → Nat) (st : Nat) : Int := if 20 ≤ tk rc N T st ∧ tk rc N T st ≤ 25 then (tk rc N T st : Int) - 20 else -1
theorem x_wayHere {M : xM} {N st : Nat} {T : Nat → Nat} (rc : Prop) (h : cT M N T) (ht : cTk M N T st) (hst : st ≤ N) : fX8_wayHere [.inr (.inr (8, 0))] M = some (some (.inl (iZ (wyA rc N T st))), M) := by
  have s : ∀ i, i < 6 → fX8_says [.inr (.inr (8, 0)), .inr (.inr (99, 4 + i))] M = some (some (.inl (bP (tk rc N T st = 20 + i))), M) := fun i hi => by rw [x_says h ht hst (by omega), bP_c (tk_way rc hi)]
  have s0 : fX8_says [.inr (.inr (8, 0)), .inr (.inr (99, 4))] M = some (some (.inl (bP (tk rc N T st = 20))), M) := s 0 (by omega)
  have s1 : fX8_says [.inr (.inr (8, 0)), .inr (.inr (99, 5))] M = some (some (.inl (bP (tk rc N T st = 21))), M) := s 1 (by omega)
  have s2 : fX8_says [.inr (.inr (8, 0)), .inr (.inr (99, 6))] M = some (some (.inl (bP (tk rc N T st = 22))), M) := s 2 (by omega)
  have s3 : fX8_says [.inr (.inr (8, 0)), .inr (.inr (99, 7))] M = some (some (.inl (bP (tk rc N T st = 23))), M) := s 3 (by omega)
  have s4 : fX8_says [.inr (.inr (8, 0)), .inr (.inr (99, 8))] M = some (some (.inl (bP (tk rc N T st = 24))), M) := s 4 (by omega)
  have s5 : fX8_says [.inr (.inr (8, 0)), .inr (.inr (99, 9))] M = some (some (.inl (bP (tk rc N T st = 25))), M) := s 5 (by omega)
  unfold wyA
  generalize tk rc N T st = y at *
  by_cases e0 : y = 20
  · rw [bP_t e0] at s0
    rw [if_pos (by omega), e0]
    show xfix gX8_wayHere (0, [some (.inr (.inr (8, 0)))], [], M) = _; rw [xfix_unf, sX8_wayHere_0]
    simp (disch := omega) only [xk_none, xk_inl, xk_inr, xk_ite, xri_v, xrl_v, xrv_v, xb_z0, xb_z1, xb_b2, if_true, if_false, ite_true, ite_false, iZ_lit, iZ_m1, iZ_m99, iZ_m8, iZ_add, iZ_sub, iZ_mul, iZ_neg, nz0, nzi, iZ_lt, iZ_le, iZ_inj, b2_z, b2_o, ite_bPz, ite_bPo, xb_bP, iZ_xin, if_pos, ite_self, ↓reduceIte, Int.reduceAdd, Int.reduceSub, Int.reduceMul, Int.reduceNeg, Int.reduceLT, Int.reduceLE, if_neg, s0]
    rfl
  · rw [bP_f e0] at s0
    by_cases e1 : y = 21
    · rw [bP_t e1] at s1
      rw [if_pos (by omega), e1]
      show xfix gX8_wayHere (0, [some (.inr (.inr (8, 0)))], [], M) = _; rw [xfix_unf, sX8_wayHere_0]
      simp (disch := omega) only [xk_none, xk_inl, xk_inr, xk_ite, xri_v, xrl_v, xrv_v, xb_z0, xb_z1, xb_b2, if_true, if_false, ite_true, ite_false, iZ_lit, iZ_m1, iZ_m99, iZ_m8, iZ_add, iZ_sub, iZ_mul, iZ_neg, nz0, nzi, iZ_lt, iZ_le, iZ_inj, b2_z, b2_o, ite_bPz, ite_bPo, xb_bP, iZ_xin, if_pos, ite_self, ↓reduceIte, Int.reduceAdd, Int.reduceSub, Int.reduceMul, Int.reduceNeg, Int.reduceLT, Int.reduceLE, if_neg, s0, s1]
      rfl
    · rw [bP_f e1] at s1
      by_cases e2 : y = 22
      · rw [bP_t e2] at s2
        rw [if_pos (by omega), e2]
        show xfix gX8_wayHere (0, [some (.inr (.inr (8, 0)))], [], M) = _; rw [xfix_unf, sX8_wayHere_0]
        simp (disch := omega) only [xk_none, xk_inl, xk_inr, xk_ite, xri_v, xrl_v, xrv_v, xb_z0, xb_z1, xb_b2, if_true, if_false, ite_true, ite_false, iZ_lit, iZ_m1, iZ_m99, iZ_m8, iZ_add, iZ_sub, iZ_mul, iZ_neg, nz0, nzi, iZ_lt, iZ_le, iZ_inj, b2_z, b2_o, ite_bPz, ite_bPo, xb_bP, iZ_xin, if_pos, ite_self, ↓reduceIte, Int.reduceAdd, Int.reduceSub, Int.reduceMul, Int.reduceNeg, Int.reduceLT, Int.reduceLE, if_neg, s0, s1, s2]
        rfl
      · rw [bP_f e2] at s2
        by_cases e3 : y = 23
        · rw [bP_t e3] at s3
          rw [if_pos (by omega), e3]
          show xfix gX8_wayHere (0, [some (.inr (.inr (8, 0)))], [], M) = _; rw [xfix_unf, sX8_wayHere_0]
          simp (disch := omega) only [xk_none, xk_inl, xk_inr, xk_ite, xri_v, xrl_v, xrv_v, xb_z0, xb_z1, xb_b2, if_true, if_false, ite_true, ite_false, iZ_lit, iZ_m1, iZ_m99, iZ_m8, iZ_add, iZ_sub, iZ_mul, iZ_neg, nz0, nzi, iZ_lt, iZ_le, iZ_inj, b2_z, b2_o, ite_bPz, ite_bPo, xb_bP, iZ_xin, if_pos, ite_self, ↓reduceIte, Int.reduceAdd, Int.reduceSub, Int.reduceMul, Int.reduceNeg, Int.reduceLT, Int.reduceLE, if_neg, s0, s1, s2, s3]
          rfl
        · rw [bP_f e3] at s3
          by_cases e4 : y = 24
          · rw [bP_t e4] at s4
            rw [if_pos (by omega), e4]
            show xfix gX8_wayHere (0, [some (.inr (.inr (8, 0)))], [], M) = _; rw [xfix_unf, sX8_wayHere_0]
            simp (disch := omega) only [xk_none, xk_inl, xk_inr, xk_ite, xri_v, xrl_v, xrv_v, xb_z0, xb_z1, xb_b2, if_true, if_false, ite_true, ite_false, iZ_lit, iZ_m1, iZ_m99, iZ_m8, iZ_add, iZ_sub, iZ_mul, iZ_neg, nz0, nzi, iZ_lt, iZ_le, iZ_inj, b2_z, b2_o, ite_bPz, ite_bPo, xb_bP, iZ_xin, if_pos, ite_self, ↓reduceIte, Int.reduceAdd, Int.reduceSub, Int.reduceMul, Int.reduceNeg, Int.reduceLT, Int.reduceLE, if_neg, s0, s1, s2, s3, s4]
            rfl
          · rw [bP_f e4] at s4
            by_cases e5 : y = 25
            · rw [bP_t e5] at s5
              rw [if_pos (by omega), e5]
              show xfix gX8_wayHere (0, [some (.inr (.inr (8, 0)))], [], M) = _; rw [xfix_unf, sX8_wayHere_0]
              simp (disch := omega) only [xk_none, xk_inl, xk_inr, xk_ite, xri_v, xrl_v, xrv_v, xb_z0, xb_z1, xb_b2, if_true, if_false, ite_true, ite_false, iZ_lit, iZ_m1, iZ_m99, iZ_m8, iZ_add, iZ_sub, iZ_mul, iZ_neg, nz0, nzi, iZ_lt, iZ_le, iZ_inj, b2_z, b2_o, ite_bPz, ite_bPo, xb_bP, iZ_xin, if_pos, ite_self, ↓reduceIte, Int.reduceAdd, Int.reduceSub, Int.reduceMul, Int.reduceNeg, Int.reduceLT, Int.reduceLE, if_neg, s0, s1, s2, s3, s4, s5]
              rfl
            · rw [bP_f e5] at s5
              rw [if_neg (by omega)]
              show xfix gX8_wayHere (0, [some (.inr (.inr (8, 0)))], [], M) = _; rw [xfix_unf, sX8_wayHere_0]
              simp (disch := omega) only [xk_none, xk_inl, xk_inr, xk_ite, xri_v, xrl_v, xrv_v, xb_z0, xb_z1, xb_b2, if_true, if_false, ite_true, ite_false, iZ_lit, iZ_m1, iZ_m99, iZ_m8, iZ_add, iZ_sub, iZ_mul, iZ_neg, nz0, nzi, iZ_lt, iZ_le, iZ_inj, b2_z, b2_o, ite_bPz, ite_bPo, xb_bP, iZ_xin, if_pos, ite_self, ↓reduceIte, Int.reduceAdd, Int.reduceSub, Int.reduceMul, Int.reduceNeg, Int.reduceLT, Int.reduceLE, if_neg, s0, s1, s2, s3, s4, s5]
