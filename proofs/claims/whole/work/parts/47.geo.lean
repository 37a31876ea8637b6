/-! the reference: cells along the axes -/
def alg (c a : Nat) : Nat := if a = 0 then c % 8 else if a = 1 then c / 8 % 8 else c / 64
def stp (w a : Nat) : Int := if a = 0 then dX w else if a = 1 then dY w else dZ w
theorem alg_lt {c : Nat} (h : c < 512) (a : Nat) : alg c a < 8 := by unfold alg; (repeat' split) <;> omega
theorem stp_le (w a : Nat) : -1 ≤ stp w a ∧ stp w a ≤ 1 := by
  unfold stp
  have := dX_le w
  have := dY_le w
  have := dZ_le w
  (repeat' split) <;> omega
theorem m_along {c a : Nat} (M : xM) (hc : c < 512) (ha : a < 3) : fX12_along [.inl (iZ (c)), .inl (iZ (a))] M = some (some (.inl (iZ ((alg c a : Nat)))), M) := by
  show xfix gX12_along (0, [some (.inl (iZ (c))), some (.inl (iZ (a)))], [], M) = _; rw [xfix_unf, sX12_along_0]
  simp (disch := omega) only [xk_none, xk_inl, xk_inr, xk_ite, xri_v, xrl_v, xrv_v, xb_z0, xb_z1, xb_b2, if_true, if_false, ite_true, ite_false, iZ_lit, iZ_m1, iZ_m99, iZ_m8, iZ_add, iZ_sub, iZ_mul, iZ_neg, nz0, nzi, iZ_lt, iZ_le, iZ_inj, b2_z, b2_o, ite_bPz, ite_bPo, xb_bP, iZ_xin, if_pos, ite_self, ↓reduceIte, Int.reduceAdd, Int.reduceSub, Int.reduceMul, Int.reduceNeg, Int.reduceLT, Int.reduceLE, if_neg, nS, iZ_clampN, iZ_bit, iZ_one, iZ_and, iZ_or, iZ_ndn, iZ_div, Int.ediv_nonneg, z8, z88, z64]
  unfold alg
  rcases (by omega : a = 0 ∨ a = 1 ∨ a = 2) with e | e | e <;> subst e <;> rfl
theorem m_step {w a : Nat} (M : xM) (hw : w < 6) (ha : a < 3) : fX12_step [.inl (iZ (w)), .inl (iZ (a))] M = some (some (.inl (iZ (stp w a))), M) := by
  show xfix gX12_step (0, [some (.inl (iZ (w))), some (.inl (iZ (a)))], [], M) = _; rw [xfix_unf, sX12_step_0]
  simp (disch := omega) only [xk_none, xk_inl, xk_inr, xk_ite, xri_v, xrl_v, xrv_v, xb_z0, xb_z1, xb_b2, if_true, if_false, ite_true, ite_false, iZ_lit, iZ_m1, iZ_m99, iZ_m8, iZ_add, iZ_sub, iZ_mul, iZ_neg, nz0, nzi, iZ_lt, iZ_le, iZ_inj, b2_z, b2_o, ite_bPz, ite_bPo, xb_bP, iZ_xin, if_pos, ite_self, ↓reduceIte, Int.reduceAdd, Int.reduceSub, Int.reduceMul, Int.reduceNeg, Int.reduceLT, Int.reduceLE, if_neg, nS, iZ_clampN, iZ_bit, iZ_one, iZ_and, iZ_or, iZ_ndn, m_stepX M hw, m_stepY M hw, m_stepZ M hw]
  unfold stp
  rcases (by omega : a = 0 ∨ a = 1 ∨ a = 2) with e | e | e <;> subst e <;> rfl
theorem m_isOf {A : dA} {c set : Nat} {M : xM} (h : mA M A) (hc : c < 512) (hs : set < 512) : fX12_isOf [.inr (.inr (12, 0)), .inl (iZ (c)), .inl (iZ (set))] M = some (some (.inl (bP (inH A set c))), M) := by
  have hC := h.ok.C hc
  have hP := h.ok.P
  show xfix gX12_isOf (0, [some (.inr (.inr (12, 0))), some (.inl (iZ (c))), some (.inl (iZ (set)))], [], M) = _; rw [xfix_unf, sX12_isOf_0]
  by_cases e : aC A c = -1
  · simp (disch := omega) only [xk_none, xk_inl, xk_inr, xk_ite, xri_v, xrl_v, xrv_v, xb_z0, xb_z1, xb_b2, if_true, if_false, ite_true, ite_false, iZ_lit, iZ_m1, iZ_m99, iZ_m8, iZ_add, iZ_sub, iZ_mul, iZ_neg, nz0, nzi, iZ_lt, iZ_le, iZ_inj, b2_z, b2_o, ite_bPz, ite_bPo, xb_bP, iZ_xin, if_pos, ite_self, ↓reduceIte, Int.reduceAdd, Int.reduceSub, Int.reduceMul, Int.reduceNeg, Int.reduceLT, Int.reduceLE, if_neg, nS, iZ_clampN, iZ_bit, iZ_one, iZ_and, iZ_or, iZ_ndn, h.C hc, e]
    rw [bP_f (inH_no e)]
  · obtain ⟨p, hp⟩ : ∃ p : Nat, aC A c = p := ⟨(aC A c).toNat, by omega⟩
    simp (disch := omega) only [xk_none, xk_inl, xk_inr, xk_ite, xri_v, xrl_v, xrv_v, xb_z0, xb_z1, xb_b2, if_true, if_false, ite_true, ite_false, iZ_lit, iZ_m1, iZ_m99, iZ_m8, iZ_add, iZ_sub, iZ_mul, iZ_neg, nz0, nzi, iZ_lt, iZ_le, iZ_inj, b2_z, b2_o, ite_bPz, ite_bPo, xb_bP, iZ_xin, if_pos, ite_self, ↓reduceIte, Int.reduceAdd, Int.reduceSub, Int.reduceMul, Int.reduceNeg, Int.reduceLT, Int.reduceLE, if_neg, nS, iZ_clampN, iZ_bit, iZ_one, iZ_and, iZ_or, iZ_ndn, h.C hc, hp]
    by_cases e2 : set.testBit p = true
    · rw [if_pos e2, bP_t ((inH_iff hp).mpr e2)]
    · rw [if_neg e2, bP_f (fun z => e2 ((inH_iff hp).mp z))]
def hasA (A : dA) (set a i v : Nat) : Prop := ∃ c, c < i ∧ inH A set c ∧ alg c a = v
noncomputable def loA (A : dA) (set a : Nat) : Nat := lst (hasA A set a 512) 99
noncomputable def hiA (A : dA) (set a : Nat) : Int := hst (hasA A set a 512) 8
theorem hasA_no {A : dA} {set a i : Nat} (h : ¬ inH A set i) : hasA A set a (i + 1) = hasA A set a i := funext fun x => propext ⟨fun ⟨c, e, b, d⟩ => ⟨c, by
  by_cases e2 : c = i
  · subst e2; exact absurd b h
  · omega, b, d⟩, fun ⟨c, a, b⟩ => ⟨c, by omega, b⟩⟩
theorem hasA_is {A : dA} {set a i : Nat} (h : inH A set i) : hasA A set a (i + 1) = fun x => hasA A set a i x ∨ x = alg i a := funext fun x => propext ⟨fun ⟨c, e, b, d⟩ => by
  by_cases e2 : c = i
  · subst e2; exact .inr d.symm
  · exact .inl ⟨c, by omega, b, d⟩, fun z => z.elim (fun ⟨c, a, b⟩ => ⟨c, by omega, b⟩) (fun e => ⟨i, by omega, h, e.symm⟩)⟩
theorem hasA_0 (A : dA) (set a : Nat) : hasA A set a 0 = fun _ => False := funext fun x => propext ⟨fun ⟨c, a, _⟩ => by omega, False.elim⟩
theorem lst_F (n : Nat) : lst (fun _ => False) n = n := lst_eq (Nat.le_refl _) (fun _ _ z => z) (fun z => by omega)
theorem hst_F : ∀ n, hst (fun _ => False) n = -1
  | 0 => rfl
  | n + 1 => by unfold hst; rw [if_neg not_false]; exact hst_F n
theorem m_lowest {A : dA} {set a : Nat} {M : xM} (h : mA M A) (hs : set < 512) (ha : a < 3) : fX12_lowest [.inr (.inr (12, 0)), .inl (iZ (set)), .inl (iZ (a))] M = some (some (.inl (iZ ((loA A set a : Nat)))), M) := by
  show xfix gX12_lowest (0, [some (.inr (.inr (12, 0))), some (.inl (iZ (set))), some (.inl (iZ (a))), none, none], [], M) = _; rw [xfix_unf, sX12_lowest_0]
  simp (disch := omega) only [xk_none, xk_inl, xk_inr, xk_ite, xri_v, xrl_v, xrv_v, xb_z0, xb_z1, xb_b2, if_true, if_false, ite_true, ite_false, iZ_lit, iZ_m1, iZ_m99, iZ_m8, iZ_add, iZ_sub, iZ_mul, iZ_neg, nz0, nzi, iZ_lt, iZ_le, iZ_inj, b2_z, b2_o, ite_bPz, ite_bPo, xb_bP, iZ_xin, if_pos, ite_self, ↓reduceIte, Int.reduceAdd, Int.reduceSub, Int.reduceMul, Int.reduceNeg, Int.reduceLT, Int.reduceLE, if_neg, nS, iZ_clampN, iZ_bit, iZ_one, iZ_and, iZ_or, iZ_ndn]
  have hl := xfor_F (sg := gX12_lowest) (fun i => (6, [some (.inr (.inr (12, 0))), some (.inl (iZ (set))), some (.inl (iZ (a))), some (.inl (iZ ((lst (hasA A set a i) 99)))), some (.inl (iZ (i)))], [], M)) (a := 0) (n := 512) (by omega) (fun i _ hi => by
    have b := lst_le (hasA A set a i) 99
    have b2 := alg_lt hi a
    rw [xfix_unf, sX12_lowest_6]
    simp (disch := omega) only [xk_none, xk_inl, xk_inr, xk_ite, xri_v, xrl_v, xrv_v, xb_z0, xb_z1, xb_b2, if_true, if_false, ite_true, ite_false, iZ_lit, iZ_m1, iZ_m99, iZ_m8, iZ_add, iZ_sub, iZ_mul, iZ_neg, nz0, nzi, iZ_lt, iZ_le, iZ_inj, b2_z, b2_o, ite_bPz, ite_bPo, xb_bP, iZ_xin, if_pos, ite_self, ↓reduceIte, Int.reduceAdd, Int.reduceSub, Int.reduceMul, Int.reduceNeg, Int.reduceLT, Int.reduceLE, if_neg, nS, iZ_clampN, iZ_bit, iZ_one, iZ_and, iZ_or, iZ_ndn, m_isOf h hi hs, m_along M hi ha]
    by_cases e : inH A set i
    · rw [if_pos e, hasA_is e, lst_or _ _ _ (by omega)]
      by_cases e2 : alg i a < lst (hasA A set a i) 99
      · rw [if_pos e2, if_neg (by omega)]
      · rw [if_neg e2, if_pos (by omega)]
    · rw [if_neg e, hasA_no e])
  rw [hasA_0, lst_F] at hl
  refine hl.trans ?_
  have e512 : ((512 : Nat) : Int) = 512 := rfl
  rw [xfix_unf, sX12_lowest_6]
  simp (disch := omega) only [xk_none, xk_inl, xk_inr, xk_ite, xri_v, xrl_v, xrv_v, xb_z0, xb_z1, xb_b2, if_true, if_false, ite_true, ite_false, iZ_lit, iZ_m1, iZ_m99, iZ_m8, iZ_add, iZ_sub, iZ_mul, iZ_neg, nz0, nzi, iZ_lt, iZ_le, iZ_inj, b2_z, b2_o, ite_bPz, ite_bPo, xb_bP, iZ_xin, if_pos, ite_self, ↓reduceIte, Int.reduceAdd, Int.reduceSub, Int.reduceMul, Int.reduceNeg, Int.reduceLT, Int.reduceLE, if_neg, e512]
  rfl
theorem m_highest {A : dA} {set a : Nat} {M : xM} (h : mA M A) (hs : set < 512) (ha : a < 3) : fX12_highest [.inr (.inr (12, 0)), .inl (iZ (set)), .inl (iZ (a))] M = some (some (.inl (iZ (hiA A set a))), M) := by
  show xfix gX12_highest (0, [some (.inr (.inr (12, 0))), some (.inl (iZ (set))), some (.inl (iZ (a))), none, none], [], M) = _; rw [xfix_unf, sX12_highest_0]
  simp (disch := omega) only [xk_none, xk_inl, xk_inr, xk_ite, xri_v, xrl_v, xrv_v, xb_z0, xb_z1, xb_b2, if_true, if_false, ite_true, ite_false, iZ_lit, iZ_m1, iZ_m99, iZ_m8, iZ_add, iZ_sub, iZ_mul, iZ_neg, nz0, nzi, iZ_lt, iZ_le, iZ_inj, b2_z, b2_o, ite_bPz, ite_bPo, xb_bP, iZ_xin, if_pos, ite_self, ↓reduceIte, Int.reduceAdd, Int.reduceSub, Int.reduceMul, Int.reduceNeg, Int.reduceLT, Int.reduceLE, if_neg, nS, iZ_clampN, iZ_bit, iZ_one, iZ_and, iZ_or, iZ_ndn]
  have hl := xfor_F (sg := gX12_highest) (fun i => (5, [some (.inr (.inr (12, 0))), some (.inl (iZ (set))), some (.inl (iZ (a))), some (.inl (iZ ((hst (hasA A set a i) 8)))), some (.inl (iZ (i)))], [], M)) (a := 0) (n := 512) (by omega) (fun i _ hi => by
    have b := hst_rng (hasA A set a i) 8
    have b2 := alg_lt hi a
    rw [xfix_unf, sX12_highest_5]
    simp (disch := omega) only [xk_none, xk_inl, xk_inr, xk_ite, xri_v, xrl_v, xrv_v, xb_z0, xb_z1, xb_b2, if_true, if_false, ite_true, ite_false, iZ_lit, iZ_m1, iZ_m99, iZ_m8, iZ_add, iZ_sub, iZ_mul, iZ_neg, nz0, nzi, iZ_lt, iZ_le, iZ_inj, b2_z, b2_o, ite_bPz, ite_bPo, xb_bP, iZ_xin, if_pos, ite_self, ↓reduceIte, Int.reduceAdd, Int.reduceSub, Int.reduceMul, Int.reduceNeg, Int.reduceLT, Int.reduceLE, if_neg, nS, iZ_clampN, iZ_bit, iZ_one, iZ_and, iZ_or, iZ_ndn, m_isOf h hi hs, m_along M hi ha]
    by_cases e : inH A set i
    · rw [if_pos e, hasA_is e, hst_or _ _ _ (by omega)]
      by_cases e2 : hst (hasA A set a i) 8 < alg i a
      · rw [if_pos e2, if_neg (by omega)]
      · rw [if_neg e2, if_pos (by omega)]
    · rw [if_neg e, hasA_no e])
  rw [hasA_0, hst_F] at hl
  refine hl.trans ?_
  have e512 : ((512 : Nat) : Int) = 512 := rfl
  rw [xfix_unf, sX12_highest_5]
  simp (disch := omega) only [xk_none, xk_inl, xk_inr, xk_ite, xri_v, xrl_v, xrv_v, xb_z0, xb_z1, xb_b2, if_true, if_false, ite_true, ite_false, iZ_lit, iZ_m1, iZ_m99, iZ_m8, iZ_add, iZ_sub, iZ_mul, iZ_neg, nz0, nzi, iZ_lt, iZ_le, iZ_inj, b2_z, b2_o, ite_bPz, ite_bPo, xb_bP, iZ_xin, if_pos, ite_self, ↓reduceIte, Int.reduceAdd, Int.reduceSub, Int.reduceMul, Int.reduceNeg, Int.reduceLT, Int.reduceLE, if_neg, e512]
  rfl
noncomputable def mnyA (A : dA) (p : Int) : Nat → Int := sm fun c => if aC A c = p then 1 else 0
theorem mnyA_b (A : dA) (p : Int) {i : Nat} (hi : i ≤ 512) : 0 ≤ mnyA A p i ∧ mnyA A p i ≤ i := by
  have := sm_le (f := fun c => if aC A c = p then 1 else 0) (b := 1) (n := i) (fun k hk => by split <;> omega)
  unfold mnyA
  omega
theorem m_many {A : dA} {p : Nat} {M : xM} (h : mA M A) (hp : p < 9) : fX12_many [.inr (.inr (12, 0)), .inl (iZ (p))] M = some (some (.inl (iZ (mnyA A p 512))), M) := by
  show xfix gX12_many (0, [some (.inr (.inr (12, 0))), some (.inl (iZ (p))), none, none], [], M) = _; rw [xfix_unf, sX12_many_0]
  simp (disch := omega) only [xk_none, xk_inl, xk_inr, xk_ite, xri_v, xrl_v, xrv_v, xb_z0, xb_z1, xb_b2, if_true, if_false, ite_true, ite_false, iZ_lit, iZ_m1, iZ_m99, iZ_m8, iZ_add, iZ_sub, iZ_mul, iZ_neg, nz0, nzi, iZ_lt, iZ_le, iZ_inj, b2_z, b2_o, ite_bPz, ite_bPo, xb_bP, iZ_xin, if_pos, ite_self, ↓reduceIte, Int.reduceAdd, Int.reduceSub, Int.reduceMul, Int.reduceNeg, Int.reduceLT, Int.reduceLE, if_neg, nS, iZ_clampN, iZ_bit, iZ_one, iZ_and, iZ_or, iZ_ndn]
  have hl := xfor_F (sg := gX12_many) (fun i => (4, [some (.inr (.inr (12, 0))), some (.inl (iZ (p))), some (.inl (iZ ((mnyA A p i)))), some (.inl (iZ (i)))], [], M)) (a := 0) (n := 512) (by omega) (fun i _ hi => by
    have hC := h.ok.C hi
    have hP := h.ok.P
    rw [xfix_unf, sX12_many_4]
    simp (disch := omega) only [xk_none, xk_inl, xk_inr, xk_ite, xri_v, xrl_v, xrv_v, xb_z0, xb_z1, xb_b2, if_true, if_false, ite_true, ite_false, iZ_lit, iZ_m1, iZ_m99, iZ_m8, iZ_add, iZ_sub, iZ_mul, iZ_neg, nz0, nzi, iZ_lt, iZ_le, iZ_inj, b2_z, b2_o, ite_bPz, ite_bPo, xb_bP, iZ_xin, if_pos, ite_self, ↓reduceIte, Int.reduceAdd, Int.reduceSub, Int.reduceMul, Int.reduceNeg, Int.reduceLT, Int.reduceLE, if_neg, nS, iZ_clampN, iZ_bit, iZ_one, iZ_and, iZ_or, iZ_ndn, h.C hi]
    rw [show mnyA A p (i + 1) = mnyA A p i + (if aC A i = p then 1 else 0) from rfl]
    by_cases e : aC A i = p
    · rw [if_pos e, if_pos e]
    · rw [if_neg e, if_neg e])
  refine hl.trans ?_
  have e512 : ((512 : Nat) : Int) = 512 := rfl
  rw [xfix_unf, sX12_many_4]
  simp (disch := omega) only [xk_none, xk_inl, xk_inr, xk_ite, xri_v, xrl_v, xrv_v, xb_z0, xb_z1, xb_b2, if_true, if_false, ite_true, ite_false, iZ_lit, iZ_m1, iZ_m99, iZ_m8, iZ_add, iZ_sub, iZ_mul, iZ_neg, nz0, nzi, iZ_lt, iZ_le, iZ_inj, b2_z, b2_o, ite_bPz, ite_bPo, xb_bP, iZ_xin, if_pos, ite_self, ↓reduceIte, Int.reduceAdd, Int.reduceSub, Int.reduceMul, Int.reduceNeg, Int.reduceLT, Int.reduceLE, if_neg, e512]
noncomputable def ind (c : Prop) : Int := @ite _ c (Classical.propDecidable _) 1 0
theorem ind_t {c : Prop} (h : c) : ind c = 1 := if_pos h
theorem ind_f {c : Prop} (h : ¬ c) : ind c = 0 := if_neg h
theorem ind_b (c : Prop) : 0 ≤ ind c ∧ ind c ≤ 1 := by
  by_cases h : c
  · rw [ind_t h]; omega
  · rw [ind_f h]; omega
theorem sm_ind (p : Nat → Prop) (n : Nat) : 0 ≤ sm (fun k => ind (p k)) n ∧ sm (fun k => ind (p k)) n ≤ n := by
  have := sm_le (f := fun k => ind (p k)) (b := 1) (n := n) (fun k _ => ind_b (p k))
  omega
def ptW (A : dA) (B : Nat → Nat) (heap k : Nat) : Prop := 1 ≤ k ∧ k &&& heap = k ∧ k < ndn heap k ∧ prt A B heap k
noncomputable def ptC (A : dA) (B : Nat → Nat) (heap : Nat) : Nat → Int := sm fun k => ind (ptW A B heap k)
theorem m_partings {A : dA} {B : Nat → Nat} {heap : Nat} {M : xM} (h : mA M A) (hB : mB M B) (h1 : 1 ≤ heap) (hh : heap < 512) : fX12_partings [.inr (.inr (12, 0)), .inl (iZ (heap))] M = some (some (.inl (iZ (ptC A B heap heap))), M) := by
  show xfix gX12_partings (0, [some (.inr (.inr (12, 0))), some (.inl (iZ (heap))), none, none], [], M) = _; rw [xfix_unf, sX12_partings_0]
  simp (disch := omega) only [xk_none, xk_inl, xk_inr, xk_ite, xri_v, xrl_v, xrv_v, xb_z0, xb_z1, xb_b2, if_true, if_false, ite_true, ite_false, iZ_lit, iZ_m1, iZ_m99, iZ_m8, iZ_add, iZ_sub, iZ_mul, iZ_neg, nz0, nzi, iZ_lt, iZ_le, iZ_inj, b2_z, b2_o, ite_bPz, ite_bPo, xb_bP, iZ_xin, if_pos, ite_self, ↓reduceIte, Int.reduceAdd, Int.reduceSub, Int.reduceMul, Int.reduceNeg, Int.reduceLT, Int.reduceLE, if_neg, nS, iZ_clampN, iZ_bit, iZ_one, iZ_and, iZ_or, iZ_ndn]
  have hl := xfor_F (sg := gX12_partings) (fun i => (4, [some (.inr (.inr (12, 0))), some (.inl (iZ (heap))), some (.inl (iZ ((ptC A B heap i)))), some (.inl (iZ (i)))], [], M)) (a := 1) (n := heap) h1 (fun i h1 hi => by
    have hb := sm_ind (ptW A B heap) i
    have hle := ndn_le i heap
    have hle2 := ndn_le heap i
    rw [show ptC A B heap (i + 1) = ptC A B heap i + ind (ptW A B heap i) from rfl]
    rw [xfix_unf, sX12_partings_4]
    by_cases e : ndn i heap = 0
    · by_cases e2 : i < ndn heap i
      · simp (disch := omega) only [xk_none, xk_inl, xk_inr, xk_ite, xri_v, xrl_v, xrv_v, xb_z0, xb_z1, xb_b2, if_true, if_false, ite_true, ite_false, iZ_lit, iZ_m1, iZ_m99, iZ_m8, iZ_add, iZ_sub, iZ_mul, iZ_neg, nz0, nzi, iZ_lt, iZ_le, iZ_inj, b2_z, b2_o, ite_bPz, ite_bPo, xb_bP, iZ_xin, if_pos, ite_self, ↓reduceIte, Int.reduceAdd, Int.reduceSub, Int.reduceMul, Int.reduceNeg, Int.reduceLT, Int.reduceLE, if_neg, nS, iZ_clampN, iZ_bit, iZ_one, iZ_and, iZ_or, iZ_ndn, e, m_isParting h hB hh (by omega : i < 512)]
        by_cases e3 : prt A B heap i
        · rw [if_pos e3, ind_t ⟨h1, ndn_and.mp e, e2, e3⟩]
        · rw [if_neg e3, ind_f (fun z => e3 z.2.2.2)]
      · rw [ind_f (fun z => e2 z.2.2.1)]
        simp (disch := omega) only [xk_none, xk_inl, xk_inr, xk_ite, xri_v, xrl_v, xrv_v, xb_z0, xb_z1, xb_b2, if_true, if_false, ite_true, ite_false, iZ_lit, iZ_m1, iZ_m99, iZ_m8, iZ_add, iZ_sub, iZ_mul, iZ_neg, nz0, nzi, iZ_lt, iZ_le, iZ_inj, b2_z, b2_o, ite_bPz, ite_bPo, xb_bP, iZ_xin, if_pos, ite_self, ↓reduceIte, Int.reduceAdd, Int.reduceSub, Int.reduceMul, Int.reduceNeg, Int.reduceLT, Int.reduceLE, if_neg, nS, iZ_clampN, iZ_bit, iZ_one, iZ_and, iZ_or, iZ_ndn, e]
    · rw [ind_f (fun z => e (ndn_and.mpr z.2.1))]
      simp (disch := omega) only [xk_none, xk_inl, xk_inr, xk_ite, xri_v, xrl_v, xrv_v, xb_z0, xb_z1, xb_b2, if_true, if_false, ite_true, ite_false, iZ_lit, iZ_m1, iZ_m99, iZ_m8, iZ_add, iZ_sub, iZ_mul, iZ_neg, nz0, nzi, iZ_lt, iZ_le, iZ_inj, b2_z, b2_o, ite_bPz, ite_bPo, xb_bP, iZ_xin, if_pos, ite_self, ↓reduceIte, Int.reduceAdd, Int.reduceSub, Int.reduceMul, Int.reduceNeg, Int.reduceLT, Int.reduceLE, if_neg, nS, iZ_clampN, iZ_bit, iZ_one, iZ_and, iZ_or, iZ_ndn, e])
  have e0 : ptC A B heap 1 = 0 := by
    show (0 : Int) + ind (ptW A B heap 0) = 0
    rw [ind_f (fun z => by have := z.1; omega)]
    omega
  rw [e0] at hl
  refine hl.trans ?_
  rw [xfix_unf, sX12_partings_4]
  simp (disch := omega) only [xk_none, xk_inl, xk_inr, xk_ite, xri_v, xrl_v, xrv_v, xb_z0, xb_z1, xb_b2, if_true, if_false, ite_true, ite_false, iZ_lit, iZ_m1, iZ_m99, iZ_m8, iZ_add, iZ_sub, iZ_mul, iZ_neg, nz0, nzi, iZ_lt, iZ_le, iZ_inj, b2_z, b2_o, ite_bPz, ite_bPo, xb_bP, iZ_xin, if_pos, ite_self, ↓reduceIte, Int.reduceAdd, Int.reduceSub, Int.reduceMul, Int.reduceNeg, Int.reduceLT, Int.reduceLE, if_neg, nS, iZ_clampN, iZ_bit, iZ_one, iZ_and, iZ_or, iZ_ndn]
