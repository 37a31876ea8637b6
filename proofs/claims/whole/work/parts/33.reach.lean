/-! rays, joints, partings of the reference -/
def rX (c w k : Nat) : Int := ((c % 8 : Nat) : Int) + k * dX w
def rY (c w k : Nat) : Int := ((c / 8 % 8 : Nat) : Int) + k * dY w
def rZ (c w k : Nat) : Int := ((c / 64 : Nat) : Int) + k * dZ w
/-- the place that is k steps on the way w from a cell is a cell -/
abbrev rIn (c w k : Nat) : Prop := (0 ≤ rX c w k ∧ rX c w k ≤ 7) ∧ (0 ≤ rY c w k ∧ rY c w k ≤ 7) ∧ (0 ≤ rZ c w k ∧ rZ c w k ≤ 7)
theorem w6 {w : Nat} (h : w < 6) : w = 0 ∨ w = 1 ∨ w = 2 ∨ w = 3 ∨ w = 4 ∨ w = 5 := by omega
theorem dX_le (w : Nat) : -1 ≤ dX w ∧ dX w ≤ 1 := by unfold dX; (repeat' split) <;> omega
theorem dY_le (w : Nat) : -1 ≤ dY w ∧ dY w ≤ 1 := by unfold dY; (repeat' split) <;> omega
theorem dZ_le (w : Nat) : -1 ≤ dZ w ∧ dZ w ≤ 1 := by unfold dZ; (repeat' split) <;> omega
theorem rIn_out {c w k k' : Nat} (hc : c < 512) (hw : w < 6) (h : k ≤ k') (ho : ¬ rIn c w k) : ¬ rIn c w k' := by
  rcases w6 hw with e | e | e | e | e | e <;> subst e <;> simp only [rIn, rX, rY, rZ, dX, dY, dZ] at ho ⊢ <;> simp at ho ⊢ <;> omega
theorem rIn_8 {c w : Nat} (hc : c < 512) (hw : w < 6) : ¬ rIn c w 8 := by
  rcases w6 hw with e | e | e | e | e | e <;> subst e <;> simp only [rIn, rX, rY, rZ, dX, dY, dZ] <;> simp <;> omega
theorem r_le {c w k : Nat} (hc : c < 512) (hw : w < 6) (hk : k ≤ 20) : (-100 ≤ rX c w k ∧ rX c w k ≤ 100) ∧ (-100 ≤ rY c w k ∧ rY c w k ≤ 100) ∧ (-100 ≤ rZ c w k ∧ rZ c w k ≤ 100) := by
  rcases w6 hw with e | e | e | e | e | e <;> subst e <;> simp only [rX, rY, rZ, dX, dY, dZ] <;> simp <;> omega
theorem r_S (c w k : Nat) : rX c w k + dX w = rX c w (k + 1) ∧ rY c w k + dY w = rY c w (k + 1) ∧ rZ c w k + dZ w = rZ c w (k + 1) := by
  unfold rX rY rZ
  rw [nS, Int.add_mul, Int.add_mul, Int.add_mul]
  refine ⟨?_, ?_, ?_⟩ <;> omega
theorem r_1 (c w : Nat) : (c : Int) - c / 8 * 8 + dX w = rX c w 1 ∧ (c : Int) / 8 - c / 8 / 8 * 8 + dY w = rY c w 1 ∧ (c : Int) / 64 + dZ w = rZ c w 1 := by
  unfold rX rY rZ
  refine ⟨?_, ?_, ?_⟩ <;> omega
theorem aat_out {A : dA} {c w k : Nat} (h : ¬ rIn c w k) : aat A (rX c w k) (rY c w k) (rZ c w k) = -1 := if_neg h
theorem aat_le {A : dA} (hA : aOk A) (x y z : Int) : -1 ≤ aat A x y z ∧ aat A x y z < aP A := by
  unfold aat
  split
  · exact hA.C (by omega)
  · omega
/-- whose part stands k steps on -/
noncomputable def ray (A : dA) (c w k : Nat) : Int := aat A (rX c w k) (rY c w k) (rZ c w k)
/-- a joint is reached -/
def rchd (A : dA) (j heap : Nat) : Prop := ∀ k, 1 ≤ k → k < 8 → ∀ p : Nat, ray A (aAt A j) (aWay A j) k = p → heap.testBit p = false
theorem m_isReached {A : dA} {j heap : Nat} {M : xM} (h : mA M A) (hj : j < aJ A) (hh : heap < 512) : fX12_isReached [.inr (.inr (12, 0)), .inl (iZ j), .inl (iZ heap)] M = some (some (.inl (bP (rchd A j heap))), M) := by
  show xfix gX12_isReached (0, [some (.inr (.inr (12, 0))), some (.inl (iZ j)), some (.inl (iZ heap)), none, none, none, none, none], [], M) = _
  have hJ := h.ok.J
  have hP := h.ok.P
  obtain ⟨-, -, g3, g4⟩ := h.Jt hj
  obtain ⟨-, -, -, hc, hw⟩ := h.ok.Jt hj
  rw [xfix_unf, sX12_isReached_0]
  simp (disch := omega) only [xk_none, xk_inl, xk_inr, xk_ite, xri_v, xrl_v, xrv_v, xb_z0, xb_z1, xb_b2, if_true, if_false, ite_true, ite_false, iZ_lit, iZ_m1, iZ_m99, iZ_m8, iZ_add, iZ_sub, iZ_mul, iZ_neg, nz0, nzi, iZ_lt, iZ_le, iZ_inj, b2_z, b2_o, ite_bPz, ite_bPo, xb_bP, iZ_xin, if_pos, ite_self, ↓reduceIte, Int.reduceAdd, Int.reduceSub, Int.reduceMul, Int.reduceNeg, Int.reduceLT, Int.reduceLE, iZ_clampN, g3, g4, m_stepX M hw, m_stepY M hw, m_stepZ M hw, iZ_div, Int.ediv_nonneg]
  unfold rchd
  generalize aAt A j = c at *
  generalize aWay A j = w at *
  rw [(r_1 c w).1, (r_1 c w).2.1, (r_1 c w).2.2]
  have h := xfor_all (sg := gX12_isReached) (st := fun k => (58, [some (.inr (.inr (12, 0))), none, some (.inl (iZ heap)), some (.inl (iZ w)), some (.inl (iZ (rX c w k))), some (.inl (iZ (rY c w k))), some (.inl (iZ (rZ c w k))), none], [], M)) (R := fun i => some (some (.inl (bP (∀ k, i ≤ k → k < 8 → ∀ p : Nat, ray A c w k = p → heap.testBit p = false))), M)) (n := 8) (fun i hi ih => by
    have hr := r_le (k := i) hc hw (by omega)
    rw [xfix_unf, sX12_isReached_58, m_isCell _ _ _ M (by omega) (by omega) (by omega), xri_v]
    simp (disch := omega) only [xk_none, xk_inl, xk_inr, xk_ite, xri_v, xrl_v, xrv_v, xb_z0, xb_z1, xb_b2, if_true, if_false, ite_true, ite_false, iZ_lit, iZ_m1, iZ_m99, iZ_m8, iZ_add, iZ_sub, iZ_mul, iZ_neg, nz0, nzi, iZ_lt, iZ_le, iZ_inj, b2_z, b2_o, ite_bPz, ite_bPo, xb_bP, iZ_xin, if_pos, ite_self, ↓reduceIte, Int.reduceAdd, Int.reduceSub, Int.reduceMul, Int.reduceNeg, Int.reduceLT, Int.reduceLE]
    by_cases e : rIn c w i
    · rw [if_pos e, m_at _ _ _ M h (by omega) (by omega) (by omega)]
      have ha := aat_le h.ok (rX c w i) (rY c w i) (rZ c w i)
      have e100 : xfix gX12_isReached (100, [some (.inr (.inr (12, 0))), none, some (.inl (iZ heap)), some (.inl (iZ w)), some (.inl (iZ (rX c w i))), some (.inl (iZ (rY c w i))), some (.inl (iZ (rZ c w i))), none], [], M) = some (some (.inl (bP (∀ k, i + 1 ≤ k → k < 8 → ∀ p : Nat, ray A c w k = p → heap.testBit p = false))), M) := by
        rw [xfix_unf, sX12_isReached_100]
        simp (disch := omega) only [xk_none, xk_inl, xk_inr, xk_ite, xri_v, xrl_v, xrv_v, xb_z0, xb_z1, xb_b2, if_true, if_false, ite_true, ite_false, iZ_lit, iZ_m1, iZ_m99, iZ_m8, iZ_add, iZ_sub, iZ_mul, iZ_neg, nz0, nzi, iZ_lt, iZ_le, iZ_inj, b2_z, b2_o, ite_bPz, ite_bPo, xb_bP, iZ_xin, if_pos, ite_self, ↓reduceIte, Int.reduceAdd, Int.reduceSub, Int.reduceMul, Int.reduceNeg, Int.reduceLT, Int.reduceLE, m_stepX M hw, m_stepY M hw, m_stepZ M hw]
        rw [(r_S c w i).1, (r_S c w i).2.1, (r_S c w i).2.2]
        exact ih
      rw [all_from hi]
      simp (disch := omega) only [xk_none, xk_inl, xk_inr, xk_ite, xri_v, xrl_v, xrv_v, xb_z0, xb_z1, xb_b2, if_true, if_false, ite_true, ite_false, iZ_lit, iZ_m1, iZ_m99, iZ_m8, iZ_add, iZ_sub, iZ_mul, iZ_neg, nz0, nzi, iZ_lt, iZ_le, iZ_inj, b2_z, b2_o, ite_bPz, ite_bPo, xb_bP, iZ_xin, if_pos, ite_self, ↓reduceIte, Int.reduceAdd, Int.reduceSub, Int.reduceMul, Int.reduceNeg, Int.reduceLT, Int.reduceLE, e100]
      by_cases e2 : aat A (rX c w i) (rY c w i) (rZ c w i) = -1
      · rw [if_pos e2]
        exact rP ⟨fun x => ⟨fun p hp => by unfold ray at hp; omega, x⟩, fun x => x.2⟩
      · rw [if_neg e2]
        obtain ⟨p, hp⟩ : ∃ p : Nat, aat A (rX c w i) (rY c w i) (rZ c w i) = p := ⟨(aat A (rX c w i) (rY c w i) (rZ c w i)).toNat, by omega⟩
        rw [hp]
        simp (disch := omega) only [xk_none, xk_inl, xk_inr, xk_ite, xri_v, xrl_v, xrv_v, xb_z0, xb_z1, xb_b2, if_true, if_false, ite_true, ite_false, iZ_lit, iZ_m1, iZ_m99, iZ_m8, iZ_add, iZ_sub, iZ_mul, iZ_neg, nz0, nzi, iZ_lt, iZ_le, iZ_inj, b2_z, b2_o, ite_bPz, ite_bPo, xb_bP, iZ_xin, if_pos, ite_self, ↓reduceIte, Int.reduceAdd, Int.reduceSub, Int.reduceMul, Int.reduceNeg, Int.reduceLT, Int.reduceLE, iZ_bit]
        by_cases e3 : heap.testBit p = true
        · rw [if_pos e3, bP_f (fun x => by have := x.1 p hp; rw [e3] at this; cases this)]
        · rw [if_neg e3]
          exact rP ⟨fun x => ⟨fun p' hp' => by
            have : p' = p := by unfold ray at hp'; omega
            rw [this]; exact Bool.eq_false_iff.mpr e3, x⟩, fun x => x.2⟩
    · rw [if_neg e, bP_t (fun k h1 h2 p hp => by
        have := aat_out (A := A) (rIn_out hc hw h1 e)
        unfold ray at hp
        omega)]) (by
    have hr := r_le (k := 8) hc hw (by omega)
    rw [xfix_unf, sX12_isReached_58, m_isCell _ _ _ M (by omega) (by omega) (by omega), xri_v]
    simp (disch := omega) only [xk_none, xk_inl, xk_inr, xk_ite, xri_v, xrl_v, xrv_v, xb_z0, xb_z1, xb_b2, if_true, if_false, ite_true, ite_false, iZ_lit, iZ_m1, iZ_m99, iZ_m8, iZ_add, iZ_sub, iZ_mul, iZ_neg, nz0, nzi, iZ_lt, iZ_le, iZ_inj, b2_z, b2_o, ite_bPz, ite_bPo, xb_bP, iZ_xin, if_pos, ite_self, ↓reduceIte, Int.reduceAdd, Int.reduceSub, Int.reduceMul, Int.reduceNeg, Int.reduceLT, Int.reduceLE]
    rw [if_neg (rIn_8 hc hw), bP_t (fun k h1 h2 => by omega)]) (i := 1) (by omega)
  exact h
/-- a joint lies between a half and the rest -/
def btw (A : dA) (heap half j : Nat) : Prop := heap.testBit (aOne A j) = true ∧ heap.testBit (aTwo A j) = true ∧ half.testBit (aOne A j) ≠ half.testBit (aTwo A j)
def loose (A : dA) (heap half : Nat) : Prop := ∀ j, j < aJ A → btw A heap half j → rchd A j heap
theorem bP_ne {a b : Bool} : bP (a = true) = bP (b = true) ↔ a = b := by
  cases a <;> cases b <;> simp [bP_t, bP_f, bP] <;> decide +kernel
theorem m_isLoose {A : dA} {heap half : Nat} {M : xM} (h : mA M A) (hh : heap < 512) (h2 : half < 512) : fX12_isLoose [.inr (.inr (12, 0)), .inl (iZ heap), .inl (iZ half)] M = some (some (.inl (bP (loose A heap half))), M) := by
  show xfix gX12_isLoose (0, [some (.inr (.inr (12, 0))), some (.inl (iZ heap)), some (.inl (iZ half)), none, none, none, none], [], M) = _
  have hJ := h.ok.J
  have hP := h.ok.P
  rw [xfix_unf, sX12_isLoose_0]
  simp (disch := omega) only [xk_none, xk_inl, xk_inr, xk_ite, xri_v, xrl_v, xrv_v, xb_z0, xb_z1, xb_b2, if_true, if_false, ite_true, ite_false, iZ_lit, iZ_m1, iZ_m99, iZ_m8, iZ_add, iZ_sub, iZ_mul, iZ_neg, nz0, nzi, iZ_lt, iZ_le, iZ_inj, b2_z, b2_o, ite_bPz, ite_bPo, xb_bP, iZ_xin, if_pos, ite_self, ↓reduceIte, Int.reduceAdd, Int.reduceSub, Int.reduceMul, Int.reduceNeg, Int.reduceLT, Int.reduceLE]
  have h := xfor_all (sg := gX12_isLoose) (st := fun i => (2, [some (.inr (.inr (12, 0))), some (.inl (iZ heap)), some (.inl (iZ half)), some (.inl (iZ i)), none, none, none], [], M)) (R := fun i => some (some (.inl (bP (∀ j, i ≤ j → j < aJ A → btw A heap half j → rchd A j heap))), M)) (n := aJ A) (fun i hi ih => by
    obtain ⟨g1, g2, -, -⟩ := h.Jt hi
    obtain ⟨q1, q2, -, -, -⟩ := h.ok.Jt hi
    rw [nS] at ih
    have e66 : ∀ b : Prop, (b ↔ btw A heap half i) → xfix gX12_isLoose (66, [some (.inr (.inr (12, 0))), some (.inl (iZ heap)), some (.inl (iZ half)), some (.inl (iZ i)), none, none, none], [.inl (bP b)], M) = some (some (.inl (bP (∀ j, i ≤ j → j < aJ A → btw A heap half j → rchd A j heap))), M) := fun b hb => by
      rw [xfix_unf, sX12_isLoose_66, all_from hi]
      simp (disch := omega) only [xk_none, xk_inl, xk_inr, xk_ite, xri_v, xrl_v, xrv_v, xb_z0, xb_z1, xb_b2, if_true, if_false, ite_true, ite_false, iZ_lit, iZ_m1, iZ_m99, iZ_m8, iZ_add, iZ_sub, iZ_mul, iZ_neg, nz0, nzi, iZ_lt, iZ_le, iZ_inj, b2_z, b2_o, ite_bPz, ite_bPo, xb_bP, iZ_xin, if_pos, ite_self, ↓reduceIte, Int.reduceAdd, Int.reduceSub, Int.reduceMul, Int.reduceNeg, Int.reduceLT, Int.reduceLE, m_isReached h hi hh, ih]
      by_cases e1 : b
      · rw [if_pos e1]
        by_cases e2 : rchd A i heap
        · rw [if_pos e2]
          exact rP ⟨fun x => ⟨fun _ => e2, x⟩, fun x => x.2⟩
        · rw [if_neg e2, bP_f (fun x => e2 (x.1 (hb.mp e1)))]
      · rw [if_neg e1]
        exact rP ⟨fun x => ⟨fun y => absurd (hb.mpr y) e1, x⟩, fun x => x.2⟩
    have e0 : ¬ (aJ A : Int) ≤ i := by omega
    rw [xfix_unf, sX12_isLoose_2]
    simp (disch := omega) only [xk_none, xk_inl, xk_inr, xk_ite, xri_v, xrl_v, xrv_v, xb_z0, xb_z1, xb_b2, if_true, if_false, ite_true, ite_false, iZ_lit, iZ_m1, iZ_m99, iZ_m8, iZ_add, iZ_sub, iZ_mul, iZ_neg, nz0, nzi, iZ_lt, iZ_le, iZ_inj, b2_z, b2_o, ite_bPz, ite_bPo, xb_bP, iZ_xin, if_pos, ite_self, ↓reduceIte, Int.reduceAdd, Int.reduceSub, Int.reduceMul, Int.reduceNeg, Int.reduceLT, Int.reduceLE, h.J, if_neg e0, iZ_clampN, g1, g2, iZ_bit]
    by_cases e1 : heap.testBit (aOne A i) = true
    · rw [if_pos e1]
      by_cases e2 : heap.testBit (aTwo A i) = true
      · rw [if_pos e2]
        by_cases e3 : half.testBit (aOne A i) = half.testBit (aTwo A i)
        · rw [if_pos (bP_ne.mpr e3)]
          have := e66 False ⟨False.elim, fun x => x.2.2 e3⟩
          rwa [bP_f not_false] at this
        · rw [if_neg (fun z => e3 (bP_ne.mp z))]
          have := e66 True ⟨fun _ => ⟨e1, e2, e3⟩, fun _ => trivial⟩
          rwa [bP_t trivial] at this
      · rw [if_neg e2]
        have := e66 False ⟨False.elim, fun x => e2 x.2.1⟩
        rwa [bP_f not_false] at this
    · rw [if_neg e1]
      have := e66 False ⟨False.elim, fun x => e1 x.1⟩
      rwa [bP_f not_false] at this) (by
    rw [xfix_unf, sX12_isLoose_2]
    simp (disch := omega) only [xk_none, xk_inl, xk_inr, xk_ite, xri_v, xrl_v, xrv_v, xb_z0, xb_z1, xb_b2, if_true, if_false, ite_true, ite_false, iZ_lit, iZ_m1, iZ_m99, iZ_m8, iZ_add, iZ_sub, iZ_mul, iZ_neg, nz0, nzi, iZ_lt, iZ_le, iZ_inj, b2_z, b2_o, ite_bPz, ite_bPo, xb_bP, iZ_xin, if_pos, ite_self, ↓reduceIte, Int.reduceAdd, Int.reduceSub, Int.reduceMul, Int.reduceNeg, Int.reduceLT, Int.reduceLE, h.J]
    rw [bP_t (fun k h1 h2 => by omega)]) (i := 0) (by omega)
  refine h.trans (rP ?_)
  simp only [Nat.zero_le, true_implies, loose]
def prt (A : dA) (B : Nat → Nat) (heap half : Nat) : Prop := ((∃ w, w < 6 ∧ lv (aP A) B heap half w) ∨ (∃ w, w < 6 ∧ lv (aP A) B heap (ndn heap half) w)) ∧ loose A heap half
theorem m_isParting {A : dA} {B : Nat → Nat} {heap half : Nat} {M : xM} (h : mA M A) (hB : mB M B) (hh : heap < 512) (h2 : half < 512) : fX12_isParting [.inr (.inr (12, 0)), .inl (iZ heap), .inl (iZ half)] M = some (some (.inl (bP (prt A B heap half))), M) := by
  show xfix gX12_isParting (0, [some (.inr (.inr (12, 0))), some (.inl (iZ heap)), some (.inl (iZ half))], [], M) = _
  have hn : ndn heap half < 512 := Nat.lt_of_le_of_lt (ndn_le _ _) hh
  rw [xfix_unf, sX12_isParting_0]
  simp (disch := omega) only [xk_none, xk_inl, xk_inr, xk_ite, xri_v, xrl_v, xrv_v, xb_z0, xb_z1, xb_b2, if_true, if_false, ite_true, ite_false, iZ_lit, iZ_m1, iZ_m99, iZ_m8, iZ_add, iZ_sub, iZ_mul, iZ_neg, nz0, nzi, iZ_lt, iZ_le, iZ_inj, b2_z, b2_o, ite_bPz, ite_bPo, xb_bP, iZ_xin, if_pos, ite_self, ↓reduceIte, Int.reduceAdd, Int.reduceSub, Int.reduceMul, Int.reduceNeg, Int.reduceLT, Int.reduceLE, iZ_ndn, m_leavesSomehow h.P hB hh h2, m_leavesSomehow h.P hB hh hn, m_isLoose h hh h2]
  unfold prt
  by_cases e1 : ∃ w, w < 6 ∧ lv (aP A) B heap half w
  · rw [if_pos e1]
    by_cases e2 : loose A heap half
    · rw [if_pos e2, bP_t ⟨.inl e1, e2⟩]
    · rw [if_neg e2, bP_f (fun x => e2 x.2)]
  · rw [if_neg e1]
    by_cases e3 : ∃ w, w < 6 ∧ lv (aP A) B heap (ndn heap half) w
    · rw [if_pos e3]
      by_cases e2 : loose A heap half
      · rw [if_pos e2, bP_t ⟨.inr e3, e2⟩]
      · rw [if_neg e2, bP_f (fun x => e2 x.2)]
    · rw [if_neg e3, bP_f (fun x => x.1.elim e1 e3)]
