/-! reading a thing, in plain mathematics -/
/-- where; parts, names (at, long); joints (one, two, at, way); boxes; cells -/
abbrev pS : Type := Nat × (Nat × (Nat → Nat) × (Nat → Nat)) × (Nat × (Nat → Nat) × (Nat → Nat) × (Nat → Nat) × (Nat → Nat)) × Nat × (Nat → Int)
def pSt (s : pS) : Nat := s.1
def pP (s : pS) : Nat := s.2.1.1
def pNa (s : pS) : Nat → Nat := s.2.1.2.1
def pNl (s : pS) : Nat → Nat := s.2.1.2.2
def pJ (s : pS) : Nat := s.2.2.1.1
def pOne (s : pS) : Nat → Nat := s.2.2.1.2.1
def pTwo (s : pS) : Nat → Nat := s.2.2.1.2.2.1
def pAt (s : pS) : Nat → Nat := s.2.2.1.2.2.2.1
def pWy (s : pS) : Nat → Nat := s.2.2.1.2.2.2.2
def pX (s : pS) : Nat := s.2.2.2.1
def pC (s : pS) : Nat → Int := s.2.2.2.2
abbrev pR (α : Type) : Type := (Int × Nat) ⊕ α
noncomputable def adv (N : Nat) (T : Nat → Nat) (st : Nat) : Nat := sk N T (tE N T st)
theorem adv_b {N : Nat} {T : Nat → Nat} {st : Nat} (h : st ≤ N) : adv N T st ≤ N ∧ (st < N → st < adv N T st) := by
  have h1 := tE_b (T := T) h
  have h2 := rn_b (P := isB) (T := T) h1.2.1
  unfold adv sk
  exact ⟨h2.2, fun z => by have := h1.2.2 z; omega⟩
/-- a number within bounds -/
noncomputable def num1 (rc : Prop) (N : Nat) (T : Nat → Nat) (st : Nat) (lo hi : Int) : pR (Int × Nat) := if tk rc N T st ≠ 2 then .inl (1, st) else if lo ≤ dv T st (tE N T st - st) ∧ dv T st (tE N T st - st) ≤ hi then .inr (dv T st (tE N T st - st), adv N T st) else .inl (4, st)
def bLo (k : Nat) : Int := if k < 3 then 0 else 1
def bHi (k : Nat) (b : Nat → Int) : Int := if k < 3 then 7 else 8 - b (k - 3)
noncomputable def rdB (N : Nat) (T : Nat → Nat) (m : Nat) : Nat → Nat → (Nat → Int) → Nat → pR ((Nat → Int) × Nat)
  | 0, _, b, st => .inr (b, st)
  | n + 1, k, b, st => match num1 False N T st (bLo k) (if k < m then bHi k b else 7) with
    | .inl f => .inl f
    | .inr x => rdB N T m n (k + 1) (fun j => if j = k then x.1 else b j) x.2
def inBx (b : Nat → Int) (c : Nat) : Prop := (b 0 ≤ (c % 8 : Nat) ∧ ((c % 8 : Nat) : Int) < b 0 + b 3) ∧ (b 1 ≤ (c / 8 % 8 : Nat) ∧ ((c / 8 % 8 : Nat) : Int) < b 1 + b 4) ∧ (b 2 ≤ (c / 64 : Nat) ∧ ((c / 64 : Nat) : Int) < b 2 + b 5)
noncomputable def fil (b : Nat → Int) (p : Int) (C : Nat → Int) (c : Nat) : Int := @ite _ (inBx b c) (Classical.propDecidable _) p (C c)
def cfl (b : Nat → Int) (p : Int) (C : Nat → Int) : Prop := ∃ c, c < 512 ∧ inBx b c ∧ C c ≠ -1 ∧ C c ≠ p
noncomputable def pBox (N : Nat) (T : Nat → Nat) (s : pS) : pR pS := if tk False N T (pSt s) ≠ 5 then .inl (1, pSt s) else if pX s = 24 then .inl (3, pSt s) else match rdB N T 6 6 0 (fun _ => 0) (adv N T (pSt s)) with
  | .inl f => .inl f
  | .inr x => @ite _ (cfl x.1 (pP s) (pC s)) (Classical.propDecidable _) (.inl (5, pSt s)) (.inr (x.2, s.2.1, s.2.2.1, pX s + 1, fil x.1 (pP s) (pC s)))
noncomputable def pBoxes (N : Nat) (T : Nat → Nat) : Nat → pS → pR pS
  | 0, s => .inr s
  | n + 1, s => if tk False N T (pSt s) = 5 then (match pBox N T s with
    | .inl f => .inl f
    | .inr s' => pBoxes N T n s') else .inr s
/-- a word is that of a part -/
def wSm (T : Nat → Nat) (a l st e : Nat) : Prop := l = e - st ∧ ∀ k, k < l → T (a + k) = T (st + k)
noncomputable def pKn (N : Nat) (T : Nat → Nat) (s : pS) (st : Nat) : Nat := lst (fun q => wSm T (pNa s q) (pNl s q) st (tE N T st)) (pP s)
noncomputable def pNeed (rc : Prop) (N : Nat) (T : Nat → Nat) (s : pS) (c : Nat) : pR pS := if tk rc N T (pSt s) = c then .inr (adv N T (pSt s), s.2) else .inl (1, pSt s)
noncomputable def pPart (N : Nat) (T : Nat → Nat) (s : pS) : pR pS := if pP s = 9 then .inl (3, pSt s) else if tk False N T (adv N T (pSt s)) ≠ 3 then .inl (1, adv N T (pSt s)) else if pKn N T s (adv N T (pSt s)) < pP s then .inl (2, adv N T (pSt s)) else match pBox N T (adv N T (adv N T (pSt s)), (pP s, (fun q => if q = pP s then adv N T (pSt s) else pNa s q), fun q => if q = pP s then tE N T (adv N T (pSt s)) - adv N T (pSt s) else pNl s q), s.2.2) with
  | .inl f => .inl f
  | .inr s1 => match pBoxes N T 30 s1 with
    | .inl f => .inl f
    | .inr s2 => pNeed False N T (pSt s2, (pP s2 + 1, s2.2.1.2), s2.2.2) 59
noncomputable def pJoint (N : Nat) (T : Nat → Nat) (s : pS) : pR pS := if pJ s = 8 then .inl (3, pSt s) else if tk False N T (adv N T (pSt s)) ≠ 3 then .inl (1, adv N T (pSt s)) else if ¬ pKn N T s (adv N T (pSt s)) < pP s then .inl (2, adv N T (pSt s)) else if tk False N T (adv N T (adv N T (pSt s))) ≠ 3 then .inl (1, adv N T (adv N T (pSt s))) else if ¬ pKn N T s (adv N T (adv N T (pSt s))) < pP s ∨ pKn N T s (adv N T (adv N T (pSt s))) = pKn N T s (adv N T (pSt s)) then .inl (2, adv N T (adv N T (pSt s))) else match rdB N T 0 3 0 (fun _ => 0) (adv N T (adv N T (adv N T (pSt s)))) with
  | .inl f => .inl f
  | .inr x => if 20 ≤ tk False N T x.2 ∧ tk False N T x.2 ≤ 25 then pNeed False N T (adv N T x.2, s.2.1, (pJ s + 1, (fun j => if j = pJ s then pKn N T s (adv N T (pSt s)) else pOne s j), (fun j => if j = pJ s then pKn N T s (adv N T (adv N T (pSt s))) else pTwo s j), (fun j => if j = pJ s then (64 * x.1 2 + 8 * x.1 1 + x.1 0).toNat else pAt s j), fun j => if j = pJ s then tk False N T x.2 - 20 else pWy s j), s.2.2.2) 59 else .inl (1, x.2)
noncomputable def pAll (N : Nat) (T : Nat → Nat) : Nat → pS → pR pS
  | 0, s => .inr s
  | n + 1, s => if tk False N T (pSt s) = 0 then .inr s else if tk False N T (pSt s) = 4 then (match pPart N T s with
    | .inl f => .inl f
    | .inr s' => pAll N T n s') else if tk False N T (pSt s) = 6 then (match pJoint N T s with
    | .inl f => .inl f
    | .inr s' => pAll N T n s') else .inl (1, pSt s)
noncomputable def pThing (N : Nat) (T : Nat → Nat) : pR pS := pAll N T 900 (sk N T 0, (0, (fun _ => 0), fun _ => 0), (0, (fun _ => 0), (fun _ => 0), (fun _ => 0), fun _ => 0), 0, fun _ => -1)
/-! the reference's reader -/
abbrev rdF (r : xR) (j : Nat) : Prop := (r = (12, 0) ∧ (j = 19 ∨ j = 20 ∨ j = 21 ∨ j = 22 ∨ j = 23 ∨ j = 24 ∨ j = 26 ∨ j = 27 ∨ j = 28)) ∨ r = (101, 0) ∨ r = (111, 0) ∨ r = (112, 0) ∨ r = (113, 0) ∨ r = (114, 0) ∨ r = (115, 0) ∨ r = (116, 0) ∨ r = (117, 0)
theorem rdF_nx {M M' : xM} (h : xSm nxF M M') : xSm rdF M M' := h.wk fun r j z => .inl ⟨z.1, by omega⟩
/-- the reader's text and token -/
def rK (M : xM) (rc : Prop) (N : Nat) (T : Nat → Nat) (st : Nat) : Prop := rT M N T ∧ (xI M (12, 0) 30 = bP rc ∧ xI M (12, 0) 23 = iZ 0) ∧ st ≤ N ∧ tokS M rc N T st
theorem rK.sm {M M' : xM} {rc : Prop} {N : Nat} {T : Nat → Nat} {st : Nat} {P : xR → Nat → Prop} (h : rK M rc N T st) (hs : xSm P M M') (hp : ∀ j, (j = 18 ∨ j = 19 ∨ j = 20 ∨ j = 21 ∨ j = 22 ∨ j = 23 ∨ j = 30) → ¬ P (12, 0) j) (h2 : ∀ k, ¬ P (110, 0) k) : rK M' rc N T st := by
  obtain ⟨a, b, c, d1, d2, d3, d4⟩ := h
  refine ⟨a.sm hs (hp 18 (by omega)) h2, ?_, c, ?_, ?_, ?_, fun z => ?_⟩
  · rw [(hs _ _ (hp 30 (by omega))).1, (hs _ _ (hp 23 (by omega))).1]; exact b
  · rw [(hs _ _ (hp 21 (by omega))).1]; exact d1
  · rw [(hs _ _ (hp 19 (by omega))).1]; exact d2
  · rw [(hs _ _ (hp 20 (by omega))).1]; exact d3
  · rw [(hs _ _ (hp 22 (by omega))).1]; exact d4 z
theorem rK.nx {M : xM} {rc : Prop} {N : Nat} {T : Nat → Nat} {st : Nat} (h : rK M rc N T st) : ∃ M', fX12_next0 [.inr (.inr (12, 0))] M = some (none, M') ∧ xSm nxF M M' ∧ rK M' rc N T (adv N T st) := by
  obtain ⟨a, b, c, d⟩ := h
  obtain ⟨M', x1, x2, x3⟩ := m_next0 a d.2.1 (tE_b c).2.1 b.1
  exact ⟨M', x1, x2, a.nx x2, by rw [(x2 (12, 0) 30 (by decide)).1, (x2 (12, 0) 23 (by decide)).1]; exact b, (adv_b c).1, x3⟩
theorem m_badAt {M : xM} {k p : Int} : fX12_badAt [.inr (.inr (12, 0)), .inl (iZ (k)), .inl (iZ (p))] M = some (some (.inl (iZ (0))), xpI (xpI M (12, 0) 23 (iZ k)) (12, 0) 24 (iZ p)) := by
  show xfix gX12_badAt (0, [some (.inr (.inr (12, 0))), some (.inl (iZ (k))), some (.inl (iZ (p)))], [], M) = _; rw [xfix_unf, sX12_badAt_0]
  simp (disch := omega) only [xk_none, xk_inl, xk_inr, xk_ite, xri_v, xrl_v, xrv_v, xb_z0, xb_z1, xb_b2, if_true, if_false, ite_true, ite_false, iZ_lit, iZ_m1, iZ_m99, iZ_m8, iZ_add, iZ_sub, iZ_mul, iZ_neg, nz0, nzi, iZ_lt, iZ_le, iZ_inj, b2_z, b2_o, ite_bPz, ite_bPo, xb_bP, iZ_xin, if_pos, ite_self, ↓reduceIte, Int.reduceAdd, Int.reduceSub, Int.reduceMul, Int.reduceNeg, Int.reduceLT, Int.reduceLE, if_neg]
/-- a fault is told -/
def rFl (M : xM) (f : Int × Nat) : Prop := xI M (12, 0) 23 = iZ f.1 ∧ xI M (12, 0) 24 = iZ f.2
theorem m_bad {M : xM} {k : Int} {st : Nat} (f : xI M (12, 0) 21 = iZ st) : ∃ M', fX12_bad [.inr (.inr (12, 0)), .inl (iZ (k))] M = some (some (.inl (iZ (0))), M') ∧ xSm rdF M M' ∧ rFl M' (k, st) := by
  refine ⟨xpI (xpI M (12, 0) 23 (iZ k)) (12, 0) 24 (iZ st), ?_, (xSm.rf.pI (.inl ⟨rfl, by omega⟩)).pI (.inl ⟨rfl, by omega⟩), by rw [pF_ne (by decide), pF_eq], pF_eq⟩
  show xfix gX12_bad (0, [some (.inr (.inr (12, 0))), some (.inl (iZ (k)))], [], M) = _; rw [xfix_unf, sX12_bad_0]
  simp (disch := omega) only [xk_none, xk_inl, xk_inr, xk_ite, xri_v, xrl_v, xrv_v, xb_z0, xb_z1, xb_b2, if_true, if_false, ite_true, ite_false, iZ_lit, iZ_m1, iZ_m99, iZ_m8, iZ_add, iZ_sub, iZ_mul, iZ_neg, nz0, nzi, iZ_lt, iZ_le, iZ_inj, b2_z, b2_o, ite_bPz, ite_bPo, xb_bP, iZ_xin, if_pos, ite_self, ↓reduceIte, Int.reduceAdd, Int.reduceSub, Int.reduceMul, Int.reduceNeg, Int.reduceLT, Int.reduceLE, if_neg, f, m_badAt]
theorem m_number {M : xM} {rc : Prop} {N : Nat} {T : Nat → Nat} {st k : Nat} {lo hi : Int} (h : rK M rc N T st) (hk : k < 6) (hlo : -100 ≤ lo ∧ lo ≤ 100) (hhi : -100 ≤ hi ∧ hi ≤ 100) : ∃ M', xSm rdF M M' ∧ xSm (fun r j => nxF r j ∨ (r = (12, 0) ∧ (j = 23 ∨ j = 24)) ∨ (r = (117, 0) ∧ j = k)) M M' ∧ ((∃ f, num1 rc N T st lo hi = .inl f ∧ fX12_number [.inr (.inr (12, 0)), .inl (iZ (k)), .inl (iZ (lo)), .inl (iZ (hi))] M = some (some (.inl (iZ (0))), M') ∧ rFl M' f) ∨ ∃ v st', num1 rc N T st lo hi = .inr (v, st') ∧ fX12_number [.inr (.inr (12, 0)), .inl (iZ (k)), .inl (iZ (lo)), .inl (iZ (hi))] M = some (some (.inl (iZ (1))), M') ∧ rK M' rc N T st' ∧ xI M' (117, 0) k = iZ v ∧ lo ≤ v ∧ v ≤ hi) := by
  obtain ⟨a, b, c, d1, d2, d3, d4⟩ := h
  have hN := a.2.1
  have hb := tk_b rc N T st
  have bad : ∀ k' : Int, ∃ M', fX12_bad [.inr (.inr (12, 0)), .inl (iZ (k'))] M = some (some (.inl (iZ (0))), M') ∧ xSm rdF M M' ∧ xSm (fun r j => nxF r j ∨ (r = (12, 0) ∧ (j = 23 ∨ j = 24)) ∨ (r = (117, 0) ∧ j = k)) M M' ∧ rFl M' (k', st) := fun k' => by
    refine ⟨xpI (xpI M (12, 0) 23 (iZ k')) (12, 0) 24 (iZ st), ?_, (xSm.rf.pI (.inl ⟨rfl, by omega⟩)).pI (.inl ⟨rfl, by omega⟩), (xSm.rf.pI (.inr (.inl ⟨rfl, .inl rfl⟩))).pI (.inr (.inl ⟨rfl, .inr rfl⟩)), by rw [pF_ne (by decide), pF_eq], pF_eq⟩
    show xfix gX12_bad (0, [some (.inr (.inr (12, 0))), some (.inl (iZ (k')))], [], M) = _; rw [xfix_unf, sX12_bad_0]
    simp (disch := omega) only [xk_none, xk_inl, xk_inr, xk_ite, xri_v, xrl_v, xrv_v, xb_z0, xb_z1, xb_b2, if_true, if_false, ite_true, ite_false, iZ_lit, iZ_m1, iZ_m99, iZ_m8, iZ_add, iZ_sub, iZ_mul, iZ_neg, nz0, nzi, iZ_lt, iZ_le, iZ_inj, b2_z, b2_o, ite_bPz, ite_bPo, xb_bP, iZ_xin, if_pos, ite_self, ↓reduceIte, Int.reduceAdd, Int.reduceSub, Int.reduceMul, Int.reduceNeg, Int.reduceLT, Int.reduceLE, if_neg, d1, m_badAt]
  unfold num1
  by_cases c1 : tk rc N T st = 2
  · rw [if_neg (by omega)]
    have f22 := d4 c1
    have hv : 0 ≤ dv T st (tE N T st - st) ∧ dv T st (tE N T st - st) < 1000 := by
      have c2 := c1
      unfold tk at c2
      by_cases y0 : N ≤ st
      · rw [if_pos y0] at c2; omega
      · rw [if_neg y0] at c2
        by_cases y1 : isL (T st)
        · rw [if_pos y1] at c2
          exfalso
          unfold tW cit at c2
          (repeat' split at c2) <;> omega
        · rw [if_neg y1] at c2
          by_cases y2 : isD (T st)
          · rw [if_pos y2] at c2
            have y3 : tE N T st - st < 4 := by
              refine Classical.byContradiction fun y => ?_
              rw [if_neg y] at c2
              omega
            have eE : tE N T st = rn isD N T st := by unfold tE; rw [if_neg y0, if_neg y1, if_pos y2]
            have h3 := dv_b (T := T) (st := st) (k := tE N T st - st) (by omega) (fun j hj => by
              rw [eE] at hj
              exact (rn_in (P := isD) (N := N) (T := T) (i := st) (by omega : st ≤ st + j) (by omega)).2)
            have h4 : (10 : Int) ^ (tE N T st - st) ≤ 1000 := by
              rcases (by omega : tE N T st - st = 0 ∨ tE N T st - st = 1 ∨ tE N T st - st = 2 ∨ tE N T st - st = 3) with e | e | e | e <;> rw [e] <;> decide
            omega
          · rw [if_neg y2] at c2
            split at c2 <;> omega
    have hK0 : rK M rc N T st := ⟨a, b, c, d1, d2, d3, d4⟩
    clear d4
    generalize dv T st (tE N T st - st) = v at *
    by_cases c2 : lo ≤ v ∧ v ≤ hi
    · rw [if_pos c2]
      have hs : xSm rdF M (xpI M (117, 0) k (iZ v)) := xSm.rf.pI (by simp [rdF])
      have hs2 : xSm (fun r j => nxF r j ∨ (r = (12, 0) ∧ (j = 23 ∨ j = 24)) ∨ (r = (117, 0) ∧ j = k)) M (xpI M (117, 0) k (iZ v)) := xSm.rf.pI (.inr (.inr ⟨rfl, rfl⟩))
      have hK : rK (xpI M (117, 0) k (iZ v)) rc N T st := hK0.sm (P := fun r j => r = (117, 0)) (xSm.rf.pI rfl) (fun j _ => by decide) (fun j => by decide)
      obtain ⟨M', x1, x2, x3⟩ := hK.nx
      refine ⟨M', hs.tr (rdF_nx x2), hs2.tr (x2.wk fun r j z => .inl z), .inr ⟨v, adv N T st, rfl, ?_, x3, ?_, c2⟩⟩
      · show xfix gX12_number (0, [some (.inr (.inr (12, 0))), some (.inl (iZ (k))), some (.inl (iZ (lo))), some (.inl (iZ (hi)))], [], M) = _; rw [xfix_unf, sX12_number_0]
        simp (disch := omega) only [xk_none, xk_inl, xk_inr, xk_ite, xri_v, xrl_v, xrv_v, xb_z0, xb_z1, xb_b2, if_true, if_false, ite_true, ite_false, iZ_lit, iZ_m1, iZ_m99, iZ_m8, iZ_add, iZ_sub, iZ_mul, iZ_neg, nz0, nzi, iZ_lt, iZ_le, iZ_inj, b2_z, b2_o, ite_bPz, ite_bPo, xb_bP, iZ_xin, if_pos, ite_self, ↓reduceIte, Int.reduceAdd, Int.reduceSub, Int.reduceMul, Int.reduceNeg, Int.reduceLT, Int.reduceLE, if_neg, d3, c1, f22, k_isIn, c2, and_self, iZ_clampN, x1]
      · rw [(x2 (117, 0) k (by simp)).1, xI_pI, if_pos ⟨rfl, rfl⟩]
    · rw [if_neg c2]
      obtain ⟨M', x1, x2, x3, x4⟩ := bad 4
      refine ⟨M', x2, x3, .inl ⟨(4, st), rfl, ?_, x4⟩⟩
      show xfix gX12_number (0, [some (.inr (.inr (12, 0))), some (.inl (iZ (k))), some (.inl (iZ (lo))), some (.inl (iZ (hi)))], [], M) = _; rw [xfix_unf, sX12_number_0]
      simp (disch := omega) only [xk_none, xk_inl, xk_inr, xk_ite, xri_v, xrl_v, xrv_v, xb_z0, xb_z1, xb_b2, if_true, if_false, ite_true, ite_false, iZ_lit, iZ_m1, iZ_m99, iZ_m8, iZ_add, iZ_sub, iZ_mul, iZ_neg, nz0, nzi, iZ_lt, iZ_le, iZ_inj, b2_z, b2_o, ite_bPz, ite_bPo, xb_bP, iZ_xin, if_pos, ite_self, ↓reduceIte, Int.reduceAdd, Int.reduceSub, Int.reduceMul, Int.reduceNeg, Int.reduceLT, Int.reduceLE, if_neg, d3, c1, f22, k_isIn, c2, x1]
  · rw [if_pos c1]
    obtain ⟨M', x1, x2, x3, x4⟩ := bad 1
    refine ⟨M', x2, x3, .inl ⟨(1, st), rfl, ?_, x4⟩⟩
    show xfix gX12_number (0, [some (.inr (.inr (12, 0))), some (.inl (iZ (k))), some (.inl (iZ (lo))), some (.inl (iZ (hi)))], [], M) = _; rw [xfix_unf, sX12_number_0]
    simp (disch := omega) only [xk_none, xk_inl, xk_inr, xk_ite, xri_v, xrl_v, xrv_v, xb_z0, xb_z1, xb_b2, if_true, if_false, ite_true, ite_false, iZ_lit, iZ_m1, iZ_m99, iZ_m8, iZ_add, iZ_sub, iZ_mul, iZ_neg, nz0, nzi, iZ_lt, iZ_le, iZ_inj, b2_z, b2_o, ite_bPz, ite_bPo, xb_bP, iZ_xin, if_pos, ite_self, ↓reduceIte, Int.reduceAdd, Int.reduceSub, Int.reduceMul, Int.reduceNeg, Int.reduceLT, Int.reduceLE, if_neg, d3, c1, x1]
/-- all the reader holds -/
def pM (M : xM) (N : Nat) (T : Nat → Nat) (s : pS) : Prop := rK M False N T (pSt s) ∧ (xI M (12, 0) 26 = iZ (pP s) ∧ xI M (12, 0) 27 = iZ (pJ s) ∧ xI M (12, 0) 28 = iZ (pX s)) ∧ (∀ q, q < pP s → xI M (111, 0) q = iZ (pNa s q) ∧ xI M (112, 0) q = iZ (pNl s q)) ∧ (∀ j, j < pJ s → xI M (113, 0) j = iZ (pOne s j) ∧ xI M (114, 0) j = iZ (pTwo s j) ∧ xI M (115, 0) j = iZ (pAt s j) ∧ xI M (116, 0) j = iZ (pWy s j)) ∧ (∀ c, c < 512 → xI M (101, 0) c = iZ (pC s c))
/-- a state as it may be -/
def pOk (N : Nat) (T : Nat → Nat) (s : pS) (n : Nat) : Prop := (pP s ≤ 9 ∧ pJ s ≤ 8 ∧ pX s ≤ 24 ∧ n ≤ 9) ∧ (∀ q, q < n → pNa s q + pNl s q ≤ N ∧ 1 ≤ pNl s q ∧ pNl s q ≤ 6 ∧ ∀ k, k < pNl s q → isL (T (pNa s q + k))) ∧ (∀ j, j < pJ s → pOne s j < pP s ∧ pTwo s j < pP s ∧ pOne s j ≠ pTwo s j ∧ pAt s j < 512 ∧ pWy s j < 6) ∧ (∀ c, c < 512 → -1 ≤ pC s c ∧ pC s c < n) ∧ ∀ p, p < pP s → ∃ c, c < 512 ∧ pC s c = p
/-- filling a box, cell by cell in the order of z, y, x -/
def bef (x y z : Int) (c : Nat) : Prop := ((c / 64 : Nat) : Int) < z ∨ (((c / 64 : Nat) : Int) = z ∧ (((c / 8 % 8 : Nat) : Int) < y ∨ (((c / 8 % 8 : Nat) : Int) = y ∧ ((c % 8 : Nat) : Int) < x)))
def filI (M : xM) (b : Nat → Int) (p : Nat) (C : Nat → Int) (x y z : Int) (K : xM) : Prop := xSame (fun r => r = (101, 0)) M K ∧ (∀ c, c < 512 → xI K (101, 0) c = iZ (@ite _ (inBx b c ∧ bef x y z c) (Classical.propDecidable _) (p : Int) (C c))) ∧ ∀ c, c < 512 → inBx b c → bef x y z c → C c = -1 ∨ C c = p
theorem filI.cg {M K : xM} {b : Nat → Int} {p : Nat} {C : Nat → Int} {x y z x' y' z' : Int} (h : filI M b p C x y z K) (e : ∀ c, c < 512 → inBx b c → (bef x y z c ↔ bef x' y' z' c)) : filI M b p C x' y' z' K := by
  obtain ⟨h1, h2, h3⟩ := h
  refine ⟨h1, fun c hc => ?_, fun c hc hb hf => h3 c hc hb ((e c hc hb).mpr hf)⟩
  rw [h2 c hc]
  by_cases hb : inBx b c
  · by_cases hf : bef x y z c
    · rw [if_pos ⟨hb, hf⟩, if_pos ⟨hb, (e c hc hb).mp hf⟩]
    · rw [if_neg (fun q => hf q.2), if_neg (fun q => hf ((e c hc hb).mpr q.2))]
  · rw [if_neg (fun q => hb q.1), if_neg (fun q => hb q.1)]
theorem bx_fill {M : xM} {b : Nat → Int} {p at' : Nat} {C : Nat → Int} (hp : p < 9) (hC : ∀ c, c < 512 → -1 ≤ C c ∧ C c < 9) (hM : ∀ c, c < 512 → xI M (101, 0) c = iZ (C c)) (hb : ∀ k, k < 6 → xI M (117, 0) k = iZ (b k)) (b1 : ∀ k, k < 3 → 0 ≤ b k ∧ b k ≤ 7) (b2 : ∀ k, k < 3 → 1 ≤ b (k + 3) ∧ b (k + 3) ≤ 8 - b k) : ∃ M', xSm (fun r j => r = (101, 0) ∨ (r = (12, 0) ∧ (j = 23 ∨ j = 24))) M M' ∧ ((cfl b p C ∧ xfix gX12_aBox (117, [some (.inr (.inr (12, 0))), some (.inl (iZ (p))), some (.inl (iZ (at'))), some (.inl (iZ ((b 2)))), none, none, none], [], M) = some (some (.inl (iZ (0))), M') ∧ rFl M' (5, at')) ∨ (¬ cfl b p C ∧ xfix gX12_aBox (117, [some (.inr (.inr (12, 0))), some (.inl (iZ (p))), some (.inl (iZ (at'))), some (.inl (iZ ((b 2)))), none, none, none], [], M) = some (some (.inl (iZ (1))), M') ∧ xSame (fun r => r = (101, 0)) M M' ∧ ∀ c, c < 512 → xI M' (101, 0) c = iZ (fil b p C c))) := by
  have x0 := b1 0 (by omega)
  have y0 := b1 1 (by omega)
  have z0 := b1 2 (by omega)
  have x1 := b2 0 (by omega)
  have y1 := b2 1 (by omega)
  have z1 := b2 2 (by omega)
  simp only [Nat.reduceAdd] at x1 y1 z1
  have hbK : ∀ K, xSame (fun r => r = (101, 0)) M K → ∀ k, k < 6 → xI K (117, 0) k = iZ (b k) := fun K hK k hk => by rw [(hK (117, 0) (by decide)).1]; exact hb k hk
  -- one row of cells
  have rowx : ∀ (z y : Int), b 2 ≤ z → z < b 2 + b 5 → b 1 ≤ y → y < b 1 + b 4 → ∀ (d : Nat) (x : Int) (K : xM), x + d = b 0 + b 3 → b 0 ≤ x → filI M b p C x y z K → (∃ M', cfl b p C ∧ xfix gX12_aBox (168, [some (.inr (.inr (12, 0))), some (.inl (iZ (p))), some (.inl (iZ (at'))), some (.inl (iZ (z))), some (.inl (iZ (y))), some (.inl (iZ (x))), none], [], K) = some (some (.inl (iZ (0))), M') ∧ xSm (fun r j => r = (101, 0) ∨ (r = (12, 0) ∧ (j = 23 ∨ j = 24))) M M' ∧ rFl M' (5, at')) ∨ ∃ K', xfix gX12_aBox (168, [some (.inr (.inr (12, 0))), some (.inl (iZ (p))), some (.inl (iZ (at'))), some (.inl (iZ (z))), some (.inl (iZ (y))), some (.inl (iZ (x))), none], [], K) = xfix gX12_aBox (142, [some (.inr (.inr (12, 0))), some (.inl (iZ (p))), some (.inl (iZ (at'))), some (.inl (iZ (z))), some (.inl (iZ ((y + 1)))), none, none], [], K') ∧ filI M b p C (b 0) (y + 1) z K' := by
    intro z y hz1 hz2 hy1 hy2 d
    induction d with
    | zero =>
      intro x K hd hx hK
      have q := hbK K hK.1
      have q0 := q 0 (by omega)
      have q3 := q 3 (by omega)
      refine .inr ⟨K, ?_, hK.cg fun c hc hbx => ?_⟩
      · rw [xfix_unf, sX12_aBox_168]
        simp (disch := omega) only [xk_none, xk_inl, xk_inr, xk_ite, xri_v, xrl_v, xrv_v, xb_z0, xb_z1, xb_b2, if_true, if_false, ite_true, ite_false, iZ_lit, iZ_m1, iZ_m99, iZ_m8, iZ_add, iZ_sub, iZ_mul, iZ_neg, nz0, nzi, iZ_lt, iZ_le, iZ_inj, b2_z, b2_o, ite_bPz, ite_bPo, xb_bP, iZ_xin, if_pos, ite_self, ↓reduceIte, Int.reduceAdd, Int.reduceSub, Int.reduceMul, Int.reduceNeg, Int.reduceLT, Int.reduceLE, if_neg, cl_0, cl_3, q0, q3]
      · unfold bef inBx at *
        omega
    | succ d ih =>
      intro x K hd hx hK
      have q := hbK K hK.1
      have q0 := q 0 (by omega)
      have q3 := q 3 (by omega)
      obtain ⟨c, hc⟩ : ∃ c : Nat, 64 * z + 8 * y + x = c := ⟨(64 * z + 8 * y + x).toNat, by omega⟩
      have hc5 : c < 512 := by omega
      have cx : ((c % 8 : Nat) : Int) = x := by omega
      have cy : ((c / 8 % 8 : Nat) : Int) = y := by omega
      have cz : ((c / 64 : Nat) : Int) = z := by omega
      have hin : inBx b c := by unfold inBx; rw [cx, cy, cz]; omega
      have hnb : ¬ bef x y z c := by unfold bef; rw [cx, cy, cz]; omega
      have fc := hK.2.1 c hc5
      rw [if_neg (fun w => hnb w.2)] at fc
      have hCc := hC c hc5
      by_cases ok : C c = -1 ∨ C c = p
      · have hK2 : filI M b p C (x + 1) y z (xpI K (101, 0) c (iZ p)) := by
          refine ⟨hK.1.pI rfl, fun c' hc' => ?_, fun c' hc' hb' hf => ?_⟩
          · rw [xI_pI]
            by_cases e : c' = c
            · rw [if_pos ⟨rfl, e⟩, e, if_pos ⟨hin, by unfold bef; rw [cx, cy, cz]; omega⟩]
            · rw [if_neg (fun w => e w.2), hK.2.1 c' hc']
              have key : bef x y z c' ↔ bef (x + 1) y z c' := by unfold bef; omega
              by_cases hb' : inBx b c'
              · by_cases hf : bef x y z c'
                · rw [if_pos ⟨hb', hf⟩, if_pos ⟨hb', key.mp hf⟩]
                · rw [if_neg (fun w => hf w.2), if_neg (fun w => hf (key.mpr w.2))]
              · rw [if_neg (fun w => hb' w.1), if_neg (fun w => hb' w.1)]
          · by_cases e : c' = c
            · rw [e]; exact ok
            · exact hK.2.2 c' hc' hb' (by unfold bef at hf ⊢; omega)
        have st : xfix gX12_aBox (168, [some (.inr (.inr (12, 0))), some (.inl (iZ (p))), some (.inl (iZ (at'))), some (.inl (iZ (z))), some (.inl (iZ (y))), some (.inl (iZ (x))), none], [], K) = xfix gX12_aBox (168, [some (.inr (.inr (12, 0))), some (.inl (iZ (p))), some (.inl (iZ (at'))), some (.inl (iZ (z))), some (.inl (iZ (y))), some (.inl (iZ ((x + 1)))), none], [], xpI K (101, 0) c (iZ p)) := by
          rw [xfix_unf, sX12_aBox_168]
          simp (disch := omega) only [xk_none, xk_inl, xk_inr, xk_ite, xri_v, xrl_v, xrv_v, xb_z0, xb_z1, xb_b2, if_true, if_false, ite_true, ite_false, iZ_lit, iZ_m1, iZ_m99, iZ_m8, iZ_add, iZ_sub, iZ_mul, iZ_neg, nz0, nzi, iZ_lt, iZ_le, iZ_inj, b2_z, b2_o, ite_bPz, ite_bPo, xb_bP, iZ_xin, if_pos, ite_self, ↓reduceIte, Int.reduceAdd, Int.reduceSub, Int.reduceMul, Int.reduceNeg, Int.reduceLT, Int.reduceLE, if_neg, cl_0, cl_3, q0, q3, hc, iZ_clampN, fc]
        rcases ih (x + 1) _ (by omega) (by omega) hK2 with ⟨M', w1, w2, w3⟩ | ⟨K', w1, w2⟩
        · exact .inl ⟨M', w1, st.trans w2, w3⟩
        · exact .inr ⟨K', st.trans w1, w2⟩
      · refine .inl ⟨xpI (xpI K (12, 0) 23 (iZ 5)) (12, 0) 24 (iZ at'), ⟨c, hc5, hin, fun w => ok (.inl w), fun w => ok (.inr w)⟩, ?_, ((hK.1.sm.wk fun r j w => .inl w).pI (.inr ⟨rfl, .inl rfl⟩)).pI (.inr ⟨rfl, .inr rfl⟩), by rw [pF_ne (by decide), pF_eq], pF_eq⟩
        rw [xfix_unf, sX12_aBox_168]
        simp (disch := omega) only [xk_none, xk_inl, xk_inr, xk_ite, xri_v, xrl_v, xrv_v, xb_z0, xb_z1, xb_b2, if_true, if_false, ite_true, ite_false, iZ_lit, iZ_m1, iZ_m99, iZ_m8, iZ_add, iZ_sub, iZ_mul, iZ_neg, nz0, nzi, iZ_lt, iZ_le, iZ_inj, b2_z, b2_o, ite_bPz, ite_bPo, xb_bP, iZ_xin, if_pos, ite_self, ↓reduceIte, Int.reduceAdd, Int.reduceSub, Int.reduceMul, Int.reduceNeg, Int.reduceLT, Int.reduceLE, if_neg, cl_0, cl_3, q0, q3, hc, iZ_clampN, fc, m_badAt]
  -- one plane
  have rowy : ∀ (z : Int), b 2 ≤ z → z < b 2 + b 5 → ∀ (d : Nat) (y : Int) (K : xM), y + d = b 1 + b 4 → b 1 ≤ y → filI M b p C (b 0) y z K → (∃ M', cfl b p C ∧ xfix gX12_aBox (142, [some (.inr (.inr (12, 0))), some (.inl (iZ (p))), some (.inl (iZ (at'))), some (.inl (iZ (z))), some (.inl (iZ (y))), none, none], [], K) = some (some (.inl (iZ (0))), M') ∧ xSm (fun r j => r = (101, 0) ∨ (r = (12, 0) ∧ (j = 23 ∨ j = 24))) M M' ∧ rFl M' (5, at')) ∨ ∃ K', xfix gX12_aBox (142, [some (.inr (.inr (12, 0))), some (.inl (iZ (p))), some (.inl (iZ (at'))), some (.inl (iZ (z))), some (.inl (iZ (y))), none, none], [], K) = xfix gX12_aBox (117, [some (.inr (.inr (12, 0))), some (.inl (iZ (p))), some (.inl (iZ (at'))), some (.inl (iZ ((z + 1)))), none, none, none], [], K') ∧ filI M b p C (b 0) (b 1) (z + 1) K' := by
    intro z hz1 hz2 d
    induction d with
    | zero =>
      intro y K hd hy hK
      have q := hbK K hK.1
      have q1 := q 1 (by omega)
      have q4 := q 4 (by omega)
      refine .inr ⟨K, ?_, hK.cg fun c hc hbx => ?_⟩
      · rw [xfix_unf, sX12_aBox_142]
        simp (disch := omega) only [xk_none, xk_inl, xk_inr, xk_ite, xri_v, xrl_v, xrv_v, xb_z0, xb_z1, xb_b2, if_true, if_false, ite_true, ite_false, iZ_lit, iZ_m1, iZ_m99, iZ_m8, iZ_add, iZ_sub, iZ_mul, iZ_neg, nz0, nzi, iZ_lt, iZ_le, iZ_inj, b2_z, b2_o, ite_bPz, ite_bPo, xb_bP, iZ_xin, if_pos, ite_self, ↓reduceIte, Int.reduceAdd, Int.reduceSub, Int.reduceMul, Int.reduceNeg, Int.reduceLT, Int.reduceLE, if_neg, cl_1, cl_4, q1, q4]
      · unfold bef inBx at *
        omega
    | succ d ih =>
      intro y K hd hy hK
      have q := hbK K hK.1
      have q0 := q 0 (by omega)
      have q1 := q 1 (by omega)
      have q4 := q 4 (by omega)
      have st : xfix gX12_aBox (142, [some (.inr (.inr (12, 0))), some (.inl (iZ (p))), some (.inl (iZ (at'))), some (.inl (iZ (z))), some (.inl (iZ (y))), none, none], [], K) = xfix gX12_aBox (168, [some (.inr (.inr (12, 0))), some (.inl (iZ (p))), some (.inl (iZ (at'))), some (.inl (iZ (z))), some (.inl (iZ (y))), some (.inl (iZ ((b 0)))), none], [], K) := by
        rw [xfix_unf, sX12_aBox_142]
        simp (disch := omega) only [xk_none, xk_inl, xk_inr, xk_ite, xri_v, xrl_v, xrv_v, xb_z0, xb_z1, xb_b2, if_true, if_false, ite_true, ite_false, iZ_lit, iZ_m1, iZ_m99, iZ_m8, iZ_add, iZ_sub, iZ_mul, iZ_neg, nz0, nzi, iZ_lt, iZ_le, iZ_inj, b2_z, b2_o, ite_bPz, ite_bPo, xb_bP, iZ_xin, if_pos, ite_self, ↓reduceIte, Int.reduceAdd, Int.reduceSub, Int.reduceMul, Int.reduceNeg, Int.reduceLT, Int.reduceLE, if_neg, cl_0, cl_1, cl_4, q0, q1, q4]
      rcases rowx z y hz1 hz2 hy (by omega) (b 3).toNat (b 0) K (by omega) (by omega) hK with ⟨M', w1, w2, w3⟩ | ⟨K', w1, w2⟩
      · exact .inl ⟨M', w1, st.trans w2, w3⟩
      · rcases ih (y + 1) K' (by omega) (by omega) w2 with ⟨M', v1, v2, v3⟩ | ⟨K2, v1, v2⟩
        · exact .inl ⟨M', v1, (st.trans w1).trans v2, v3⟩
        · exact .inr ⟨K2, (st.trans w1).trans v1, v2⟩
  have rowz : ∀ (d : Nat) (z : Int) (K : xM), z + d = b 2 + b 5 → b 2 ≤ z → filI M b p C (b 0) (b 1) z K → (∃ M', cfl b p C ∧ xfix gX12_aBox (117, [some (.inr (.inr (12, 0))), some (.inl (iZ (p))), some (.inl (iZ (at'))), some (.inl (iZ (z))), none, none, none], [], K) = some (some (.inl (iZ (0))), M') ∧ xSm (fun r j => r = (101, 0) ∨ (r = (12, 0) ∧ (j = 23 ∨ j = 24))) M M' ∧ rFl M' (5, at')) ∨ ∃ K', xfix gX12_aBox (117, [some (.inr (.inr (12, 0))), some (.inl (iZ (p))), some (.inl (iZ (at'))), some (.inl (iZ (z))), none, none, none], [], K) = some (some (.inl (iZ (1))), K') ∧ filI M b p C (b 0) (b 1) (b 2 + b 5) K' := by
    intro d
    induction d with
    | zero =>
      intro z K hd hz hK
      have q := hbK K hK.1
      have q2 := q 2 (by omega)
      have q5 := q 5 (by omega)
      refine .inr ⟨K, ?_, by rw [← hd]; simpa using hK⟩
      rw [xfix_unf, sX12_aBox_117]
      simp (disch := omega) only [xk_none, xk_inl, xk_inr, xk_ite, xri_v, xrl_v, xrv_v, xb_z0, xb_z1, xb_b2, if_true, if_false, ite_true, ite_false, iZ_lit, iZ_m1, iZ_m99, iZ_m8, iZ_add, iZ_sub, iZ_mul, iZ_neg, nz0, nzi, iZ_lt, iZ_le, iZ_inj, b2_z, b2_o, ite_bPz, ite_bPo, xb_bP, iZ_xin, if_pos, ite_self, ↓reduceIte, Int.reduceAdd, Int.reduceSub, Int.reduceMul, Int.reduceNeg, Int.reduceLT, Int.reduceLE, if_neg, cl_2, cl_5, q2, q5]
    | succ d ih =>
      intro z K hd hz hK
      have q := hbK K hK.1
      have q1 := q 1 (by omega)
      have q2 := q 2 (by omega)
      have q5 := q 5 (by omega)
      have st : xfix gX12_aBox (117, [some (.inr (.inr (12, 0))), some (.inl (iZ (p))), some (.inl (iZ (at'))), some (.inl (iZ (z))), none, none, none], [], K) = xfix gX12_aBox (142, [some (.inr (.inr (12, 0))), some (.inl (iZ (p))), some (.inl (iZ (at'))), some (.inl (iZ (z))), some (.inl (iZ ((b 1)))), none, none], [], K) := by
        rw [xfix_unf, sX12_aBox_117]
        simp (disch := omega) only [xk_none, xk_inl, xk_inr, xk_ite, xri_v, xrl_v, xrv_v, xb_z0, xb_z1, xb_b2, if_true, if_false, ite_true, ite_false, iZ_lit, iZ_m1, iZ_m99, iZ_m8, iZ_add, iZ_sub, iZ_mul, iZ_neg, nz0, nzi, iZ_lt, iZ_le, iZ_inj, b2_z, b2_o, ite_bPz, ite_bPo, xb_bP, iZ_xin, if_pos, ite_self, ↓reduceIte, Int.reduceAdd, Int.reduceSub, Int.reduceMul, Int.reduceNeg, Int.reduceLT, Int.reduceLE, if_neg, cl_1, cl_2, cl_5, q1, q2, q5]
      rcases rowy z hz (by omega) (b 4).toNat (b 1) K (by omega) (by omega) hK with ⟨M', w1, w2, w3⟩ | ⟨K', w1, w2⟩
      · exact .inl ⟨M', w1, st.trans w2, w3⟩
      · rcases ih (z + 1) K' (by omega) (by omega) w2 with ⟨M', v1, v2, v3⟩ | ⟨K2, v1, v2⟩
        · exact .inl ⟨M', v1, (st.trans w1).trans v2, v3⟩
        · exact .inr ⟨K2, (st.trans w1).trans v1, v2⟩
  have h0 : filI M b p C (b 0) (b 1) (b 2) M := ⟨xSame.rf, fun c hc => by
    rw [if_neg (fun w => by
      have w1 := w.1
      have w2 := w.2
      unfold inBx at w1
      unfold bef at w2
      omega)]
    exact hM c hc, fun c hc w1 w2 => by
      unfold inBx at w1
      unfold bef at w2
      omega⟩
  rcases rowz (b 5).toNat (b 2) M (by omega) (by omega) h0 with ⟨M', w1, w2, w3, w4⟩ | ⟨K, w1, w2, w3, w4⟩
  · exact ⟨M', w3, .inl ⟨w1, w2, w4⟩⟩
  · have all : ∀ c, inBx b c → bef (b 0) (b 1) (b 2 + b 5) c := fun c hc => by
      unfold inBx at hc
      unfold bef
      omega
    refine ⟨K, w2.sm.wk fun r j w => .inl w, .inr ⟨fun ⟨c, c1, c2, c3, c4⟩ => (w4 c c1 c2 (all c c2)).elim c3 c4, w1, w2, fun c hc => ?_⟩⟩
    rw [w3 c hc]
    unfold fil
    by_cases e : inBx b c
    · rw [if_pos e, if_pos ⟨e, all c e⟩]
    · rw [if_neg e, if_neg (fun w => e w.1)]
