/-! what the reference keeps from call to call -/
def bsB (r : xR) (j : Nat) : Bool := (r.1 == 12 && [2, 3, 18, 25, 29, 58, 71, 72, 73, 74].contains j) || [100, 104, 105, 106, 107, 108, 109, 110, 139, 142, 143, 157, 159, 165, 166, 175, 176, 177].contains r.1
def knB (r : xR) (j : Nat) : Bool := (r.1 == 12 && (j == 31 || j == 82)) || [132, 134, 135, 136, 137, 138, 140, 141, 160, 180, 181].contains r.1
/-- the thing and the state are kept -/
def fB (M M' : xM) : Prop := xSm (fun r j => bsB r j = false) M M'
/-- all but scratch is kept -/
def scr (M M' : xM) : Prop := xSm (fun r j => bsB r j = false ∧ knB r j = false) M M'
theorem fB.rf {M : xM} : fB M M := xSm.rf
theorem fB.tr {M M' M'' : xM} (h : fB M M') (h2 : fB M' M'') : fB M M'' := xSm.tr h h2
theorem scr.rf {M : xM} : scr M M := xSm.rf
theorem scr.tr {M M' M'' : xM} (h : scr M M') (h2 : scr M' M'') : scr M M'' := xSm.tr h h2
theorem scr.fB {M M' : xM} (h : scr M M') : fB M M' := h.wk fun _ _ z => z.1
theorem scr.of {M M' : xM} {P : xR → Prop} (h : xSame P M M') (hp : ∀ r, P r → ∀ j, bsB r j = false ∧ knB r j = false) : scr M M' := h.sm.wk fun r j z => hp r z j
theorem fB.of {M M' : xM} {P : xR → Nat → Prop} (h : xSm P M M') (hp : ∀ r j, P r j → bsB r j = false) : fB M M' := h.wk hp
theorem mA.ro {M M' : xM} {A : dA} (h : mA M A) (hs : fB M M') : mA M' A := h.sm hs (by decide) (by decide) (fun r hr j => by
  simp only [List.mem_cons, List.mem_nil_iff, or_false] at hr
  rcases hr with e | e | e | e | e | e | e | e <;> subst e <;> exact fun z => Bool.noConfusion z)
theorem mW.ro {M M' : xM} {A : dA} (h : mW M A) (hs : fB M M') : mW M' A := ⟨fun p hp => by rw [(hs (142, 0) p (fun z => Bool.noConfusion z)).1]; exact h.1 p hp, fun p hp => by rw [(hs (143, 0) p (fun z => Bool.noConfusion z)).1]; exact h.2 p hp⟩
theorem mH.ro {M M' : xM} {A : dA} (h : mH M A) (hs : fB M M') : mH M' A := h.sm hs (fun j z => Bool.noConfusion z)
theorem mLs.ro {M M' : xM} {A : dA} (h : mLs M A) (hs : fB M M') : mLs M' A := h.sm hs (fun r hr j => by
  simp only [List.mem_cons, List.mem_nil_iff, or_false] at hr
  rcases hr with e | e | e <;> subst e <;> exact fun z => Bool.noConfusion z)
def mTm (M : xM) (A : dA) : Prop := ∀ k, 1 ≤ k → k < 2 ^ aP A → xI M (180, 0) k = iZ (timA A k).1 ∧ xI M (181, 0) k = iZ (timA A k).2
def mQ (M : xM) (A : dA) : Prop := mA M A ∧ mW M A ∧ mH M A ∧ mLs M A ∧ (xI M (12, 0) 31 = iZ 0 ∨ (xI M (12, 0) 31 = iZ 1 ∧ mKn M A)) ∧ (xI M (12, 0) 82 = iZ 0 ∨ (xI M (12, 0) 82 = iZ 1 ∧ (xI M (12, 0) 31 = iZ 1 → mTm M A)))
theorem mQ.A {M : xM} {A : dA} (h : mQ M A) : mA M A := h.1
theorem mQ.W {M : xM} {A : dA} (h : mQ M A) : mW M A := h.2.1
theorem mQ.H {M : xM} {A : dA} (h : mQ M A) : mH M A := h.2.2.1
theorem mQ.L {M : xM} {A : dA} (h : mQ M A) : mLs M A := h.2.2.2.1
theorem mKn.scr {M M' : xM} {A : dA} (h : mKn M A) (hs : scr M M') : mKn M' A := by
  obtain ⟨⟨a1, a2⟩, ⟨b1, b2⟩, c, d⟩ := h
  refine ⟨⟨fun k hk => ?_, a2⟩, ⟨fun k hk => ?_, b2⟩, fun k h1 h2 => ?_, fun k hk => ?_⟩
  · rw [(hs (132, 0) k (fun z => Bool.noConfusion z.2)).1]; exact a1 k hk
  · rw [(hs (160, 0) k (fun z => Bool.noConfusion z.2)).1]; exact b1 k hk
  · rw [(hs (134, 0) k (fun z => Bool.noConfusion z.2)).2, (hs (135, 0) k (fun z => Bool.noConfusion z.2)).1, (hs (136, 0) k (fun z => Bool.noConfusion z.2)).1, (hs (137, 0) k (fun z => Bool.noConfusion z.2)).1, (hs (138, 0) k (fun z => Bool.noConfusion z.2)).1]
    exact c k h1 h2
  · rw [(hs (140, 0) k (fun z => Bool.noConfusion z.2)).1, (hs (141, 0) k (fun z => Bool.noConfusion z.2)).1]
    exact d k hk
theorem mTm.scr {M M' : xM} {A : dA} (h : mTm M A) (hs : scr M M') : mTm M' A := fun k h1 h2 => by
  rw [(hs (180, 0) k (fun z => Bool.noConfusion z.2)).1, (hs (181, 0) k (fun z => Bool.noConfusion z.2)).1]
  exact h k h1 h2
theorem mQ.scr {M M' : xM} {A : dA} (h : mQ M A) (hs : scr M M') : mQ M' A := by
  obtain ⟨a, b, c, d, e, f⟩ := h
  have e31 : xI M' (12, 0) 31 = xI M (12, 0) 31 := (hs (12, 0) 31 (by decide)).1
  have e82 : xI M' (12, 0) 82 = xI M (12, 0) 82 := (hs (12, 0) 82 (by decide)).1
  refine ⟨a.ro hs.fB, b.ro hs.fB, c.ro hs.fB, d.ro hs.fB, ?_, ?_⟩
  · rw [e31]; exact e.imp id fun z => ⟨z.1, z.2.scr hs⟩
  · rw [e31, e82]; exact f.imp id fun z => ⟨z.1, fun y => (z.2 y).scr hs⟩
/-- after asking what is known -/
theorem mQ.kn {M : xM} {A : dA} (h : mQ M A) : ∃ M', fX12_knows [.inr (.inr (12, 0))] M = some (none, M') ∧ mQ M' A ∧ fB M M' ∧ mKn M' A ∧ xI M' (12, 0) 31 = iZ 1 := by
  obtain ⟨M', a1, a2, a3, a4, a5⟩ := m_knows h.A h.H h.2.2.2.2.1
  have hs : fB M M' := fB.of a2 (by
    rintro r j (⟨e, z⟩ | z | z | z | z | z | z)
    · subst e; rcases z with z | z <;> subst z <;> rfl
    · subst z; rfl
    · rcases z with z | z | z | z | z <;> subst z <;> rfl
    · subst z; rfl
    · subst z; rfl
    · subst z; rfl
    · subst z; rfl)
  refine ⟨M', a1, ⟨h.A.ro hs, h.W.ro hs, h.H.ro hs, h.L.ro hs, .inr ⟨a3, a4⟩, ?_⟩, hs, a4, a3⟩
  rcases a5 with ⟨a5, _⟩ | a5
  · rw [a5]; exact h.2.2.2.2.2
  · exact .inl a5
/-- a question is answered, and all that matters stays -/
def qR (M : xM) (A : dA) (o : Option (Option xV × xM)) (r : xV) : Prop := ∃ M', o = some (some r, M') ∧ mQ M' A ∧ fB M M'
theorem qR.of {M : xM} {A : dA} {o : Option (Option xV × xM)} {r : xV} (h : mQ M A) (e : o = some (some r, M)) : qR M A o r := ⟨M, e, h, fB.rf⟩
-- valid arguments
def vP (A : dA) (p : Int) : Prop := 0 ≤ p ∧ p < aP A
def vW (w : Int) : Prop := 0 ≤ w ∧ w ≤ 5
def vH (A : dA) (a : Int) : Prop := 0 < a ∧ a < ((2 ^ aP A : Nat) : Int)
def vF (A : dA) (a b : Int) : Prop := ∃ h k : Nat, a = h ∧ b = k ∧ 0 < k ∧ k < h ∧ h < 2 ^ aP A ∧ ndn k h = 0
noncomputable def vI (c : Prop) (a : Int) : Int := @ite _ c (Classical.propDecidable _) a (-1)
theorem vI_t {c : Prop} {a : Int} (h : c) : vI c a = a := if_pos h
theorem vI_f {c : Prop} {a : Int} (h : ¬ c) : vI c a = -1 := if_neg h
theorem bP_ind (c : Prop) : bP c = iZ (ind c) := by
  by_cases h : c
  · rw [bP_t h, ind_t h]
  · rw [bP_f h, ind_f h]
abbrev r32 (z : Int) : Prop := -2147483648 ≤ z ∧ z < 2147483648
theorem k_isPart {A : dA} {M : xM} (h : mA M A) {p : Int} (hp : r32 p) : fX12_isPart [.inr (.inr (12, 0)), .inl (iZ (p))] M = some (some (.inl (bP (vP A p))), M) := m_isPart p M h.P hp
theorem k_isWay {M : xM} {w : Int} (hw : r32 w) : fX12_isWay [.inl (iZ (w))] M = some (some (.inl (bP (vW w))), M) := m_isWay w M hw
theorem k_isHeap {A : dA} {M : xM} (h : mA M A) {a : Int} (ha : r32 a) : fX12_isHeap [.inr (.inr (12, 0)), .inl (iZ (a))] M = some (some (.inl (bP (vH A a))), M) := m_isHeap a M h.P ha
theorem k_isHalf {A : dA} {M : xM} (h : mA M A) {a b : Int} (ha : r32 a) (hb : r32 b) : fX12_isHalf [.inr (.inr (12, 0)), .inl (iZ (a)), .inl (iZ (b))] M = some (some (.inl (bP (vF A a b))), M) := m_isHalf a b M h.P ha hb
theorem vP.n {A : dA} {p : Int} (h : vP A p) : ∃ n : Nat, p = n ∧ n < aP A := ⟨p.toNat, by have := h.1; omega, by have := h.1; have := h.2; omega⟩
theorem vW.n {w : Int} (h : vW w) : ∃ n : Nat, w = n ∧ n < 6 := ⟨w.toNat, by have := h.1; omega, by have := h.1; have := h.2; omega⟩
theorem vH.n {A : dA} {a : Int} (h : vH A a) : ∃ n : Nat, a = n ∧ 1 ≤ n ∧ n < 2 ^ aP A := ⟨a.toNat, by have := h.1; omega, by have := h.1; omega, by have := h.1; have := h.2; omega⟩
noncomputable def sBars (A : dA) (p w : Int) : Int := vI (vP A p ∧ vW w) (barS A (6 * p.toNat + w.toNat))
theorem q_bars {A : dA} {M : xM} (h : mQ M A) {p w : Int} (hp : r32 p) (hw : r32 w) : qR M A (fX12_bars [.inr (.inr (12, 0)), .inl (iZ (p)), .inl (iZ (w))] M) (.inl (iZ (sBars A p w))) := by
  have hP := h.A.ok.P
  unfold sBars
  by_cases e1 : vP A p
  · by_cases e2 : vW w
    · obtain ⟨M', a1, a2, a3, a4, a5⟩ := h.kn
      rw [vI_t ⟨e1, e2⟩]
      refine ⟨M', ?_, a2, a3⟩
      obtain ⟨p, rfl, h1⟩ := e1.n
      obtain ⟨w, rfl, h2⟩ := e2.n
      have ecl : Int32.toNatClampNeg (iZ (6 * (p : Int) + w)) = 6 * p + w := by rw [iZ_clamp (by omega)]; omega
      show xfix gX12_bars (0, [some (.inr (.inr (12, 0))), some (.inl (iZ (p))), some (.inl (iZ (w)))], [], M) = _; rw [xfix_unf, sX12_bars_0]
      simp (disch := omega) only [xk_none, xk_inl, xk_inr, xk_ite, xri_v, xrl_v, xrv_v, xb_z0, xb_z1, xb_b2, if_true, if_false, ite_true, ite_false, iZ_lit, iZ_m1, iZ_m99, iZ_m8, iZ_add, iZ_sub, iZ_mul, iZ_neg, nz0, nzi, iZ_lt, iZ_le, iZ_inj, b2_z, b2_o, ite_bPz, ite_bPo, xb_bP, iZ_xin, if_pos, ite_self, ↓reduceIte, Int.reduceAdd, Int.reduceSub, Int.reduceMul, Int.reduceNeg, Int.reduceLT, Int.reduceLE, if_neg, nS, iZ_clampN, iZ_bit, iZ_one, iZ_and, iZ_or, iZ_ndn, k_isPart h.A hp, k_isWay hw, e1, e2, a1, ecl, a4.1.1 (6 * p + w) (by omega)]
      rfl
    · refine qR.of h ?_
      rw [vI_f (fun z => e2 z.2)]
      show xfix gX12_bars (0, [some (.inr (.inr (12, 0))), some (.inl (iZ (p))), some (.inl (iZ (w)))], [], M) = _; rw [xfix_unf, sX12_bars_0]
      simp (disch := omega) only [xk_none, xk_inl, xk_inr, xk_ite, xri_v, xrl_v, xrv_v, xb_z0, xb_z1, xb_b2, if_true, if_false, ite_true, ite_false, iZ_lit, iZ_m1, iZ_m99, iZ_m8, iZ_add, iZ_sub, iZ_mul, iZ_neg, nz0, nzi, iZ_lt, iZ_le, iZ_inj, b2_z, b2_o, ite_bPz, ite_bPo, xb_bP, iZ_xin, if_pos, ite_self, ↓reduceIte, Int.reduceAdd, Int.reduceSub, Int.reduceMul, Int.reduceNeg, Int.reduceLT, Int.reduceLE, if_neg, nS, iZ_clampN, iZ_bit, iZ_one, iZ_and, iZ_or, iZ_ndn, k_isPart h.A hp, k_isWay hw, e1, e2]
  · refine qR.of h ?_
    rw [vI_f (fun z => e1 z.1)]
    show xfix gX12_bars (0, [some (.inr (.inr (12, 0))), some (.inl (iZ (p))), some (.inl (iZ (w)))], [], M) = _; rw [xfix_unf, sX12_bars_0]
    simp (disch := omega) only [xk_none, xk_inl, xk_inr, xk_ite, xri_v, xrl_v, xrv_v, xb_z0, xb_z1, xb_b2, if_true, if_false, ite_true, ite_false, iZ_lit, iZ_m1, iZ_m99, iZ_m8, iZ_add, iZ_sub, iZ_mul, iZ_neg, nz0, nzi, iZ_lt, iZ_le, iZ_inj, b2_z, b2_o, ite_bPz, ite_bPo, xb_bP, iZ_xin, if_pos, ite_self, ↓reduceIte, Int.reduceAdd, Int.reduceSub, Int.reduceMul, Int.reduceNeg, Int.reduceLT, Int.reduceLE, if_neg, nS, iZ_clampN, iZ_bit, iZ_one, iZ_and, iZ_or, iZ_ndn, k_isPart h.A hp, e1]
noncomputable def sCut (A : dA) (a b w : Int) : Int := vI (vF A a b ∧ vW w) (ind (gdw A (barS A) a.toNat b.toNat w.toNat))
theorem q_cut {A : dA} {M : xM} (h : mQ M A) {a b w : Int} (ha : r32 a) (hb : r32 b) (hw : r32 w) : qR M A (fX12_cut [.inr (.inr (12, 0)), .inl (iZ (a)), .inl (iZ (b)), .inl (iZ (w))] M) (.inl (iZ (sCut A a b w))) := by
  have hP := pow9 h.A.ok.P
  unfold sCut
  by_cases e1 : vF A a b
  · by_cases e2 : vW w
    · obtain ⟨M', a1, a2, a3, a4, a5⟩ := h.kn
      rw [vI_t ⟨e1, e2⟩]
      refine ⟨M', ?_, a2, a3⟩
      have e1' := e1
      obtain ⟨a, b, rfl, rfl, x1, x2, x3, x4⟩ := e1'
      obtain ⟨w, rfl, h2⟩ := e2.n
      show xfix gX12_cut (0, [some (.inr (.inr (12, 0))), some (.inl (iZ (a))), some (.inl (iZ (b))), some (.inl (iZ (w)))], [], M) = _; rw [xfix_unf, sX12_cut_0]
      simp (disch := omega) only [xk_none, xk_inl, xk_inr, xk_ite, xri_v, xrl_v, xrv_v, xb_z0, xb_z1, xb_b2, if_true, if_false, ite_true, ite_false, iZ_lit, iZ_m1, iZ_m99, iZ_m8, iZ_add, iZ_sub, iZ_mul, iZ_neg, nz0, nzi, iZ_lt, iZ_le, iZ_inj, b2_z, b2_o, ite_bPz, ite_bPo, xb_bP, iZ_xin, if_pos, ite_self, ↓reduceIte, Int.reduceAdd, Int.reduceSub, Int.reduceMul, Int.reduceNeg, Int.reduceLT, Int.reduceLE, if_neg, nS, iZ_clampN, iZ_bit, iZ_one, iZ_and, iZ_or, iZ_ndn, k_isHalf h.A ha hb, k_isWay hw, e1, e2, a1, m_leaves a2.A.P a4.1 (by omega : a < 512) (by omega : b < 512) (by omega : w < 6), m_isLoose a2.A (by omega : a < 512) (by omega : b < 512)]
      show _ = some (some (Sum.inl (iZ (ind (gdw A (barS A) a b w)))), M')
      by_cases c1 : lv (aP A) (barS A) a b w
      · by_cases c2 : loose A a b
        · rw [if_pos c1, if_pos c2, ind_t ⟨c1, c2⟩]
        · rw [if_pos c1, if_neg c2, ind_f (fun z => c2 z.2)]
      · rw [if_neg c1, ind_f (fun z => c1 z.1)]
    · refine qR.of h ?_
      rw [vI_f (fun z => e2 z.2)]
      show xfix gX12_cut (0, [some (.inr (.inr (12, 0))), some (.inl (iZ (a))), some (.inl (iZ (b))), some (.inl (iZ (w)))], [], M) = _; rw [xfix_unf, sX12_cut_0]
      simp (disch := omega) only [xk_none, xk_inl, xk_inr, xk_ite, xri_v, xrl_v, xrv_v, xb_z0, xb_z1, xb_b2, if_true, if_false, ite_true, ite_false, iZ_lit, iZ_m1, iZ_m99, iZ_m8, iZ_add, iZ_sub, iZ_mul, iZ_neg, nz0, nzi, iZ_lt, iZ_le, iZ_inj, b2_z, b2_o, ite_bPz, ite_bPo, xb_bP, iZ_xin, if_pos, ite_self, ↓reduceIte, Int.reduceAdd, Int.reduceSub, Int.reduceMul, Int.reduceNeg, Int.reduceLT, Int.reduceLE, if_neg, nS, iZ_clampN, iZ_bit, iZ_one, iZ_and, iZ_or, iZ_ndn, k_isHalf h.A ha hb, k_isWay hw, e1, e2]
  · refine qR.of h ?_
    rw [vI_f (fun z => e1 z.1)]
    show xfix gX12_cut (0, [some (.inr (.inr (12, 0))), some (.inl (iZ (a))), some (.inl (iZ (b))), some (.inl (iZ (w)))], [], M) = _; rw [xfix_unf, sX12_cut_0]
    simp (disch := omega) only [xk_none, xk_inl, xk_inr, xk_ite, xri_v, xrl_v, xrv_v, xb_z0, xb_z1, xb_b2, if_true, if_false, ite_true, ite_false, iZ_lit, iZ_m1, iZ_m99, iZ_m8, iZ_add, iZ_sub, iZ_mul, iZ_neg, nz0, nzi, iZ_lt, iZ_le, iZ_inj, b2_z, b2_o, ite_bPz, ite_bPo, xb_bP, iZ_xin, if_pos, ite_self, ↓reduceIte, Int.reduceAdd, Int.reduceSub, Int.reduceMul, Int.reduceNeg, Int.reduceLT, Int.reduceLE, if_neg, nS, iZ_clampN, iZ_bit, iZ_one, iZ_and, iZ_or, iZ_ndn, k_isHalf h.A ha hb, e1]
theorem m_leavesSafely {A : dA} {M : xM} {heap half w : Nat} {B SB : Nat → Nat} (hP : mP M (aP A)) (hB : mB M B) (hS : mSB M SB) (h1 : heap < 512) (h2 : half < 512) (hw : w < 6) : fX12_leavesSafely [.inr (.inr (12, 0)), .inl (iZ (heap)), .inl (iZ (half)), .inl (iZ (w))] M = some (some (.inl (bP (lv (aP A) B heap half w ∧ lv (aP A) SB heap half w))), M) := by
  have hP9 := hP.2
  show xfix gX12_leavesSafely (0, [some (.inr (.inr (12, 0))), some (.inl (iZ (heap))), some (.inl (iZ (half))), some (.inl (iZ (w))), none], [], M) = _; rw [xfix_unf, sX12_leavesSafely_0]
  simp (disch := omega) only [xk_none, xk_inl, xk_inr, xk_ite, xri_v, xrl_v, xrv_v, xb_z0, xb_z1, xb_b2, if_true, if_false, ite_true, ite_false, iZ_lit, iZ_m1, iZ_m99, iZ_m8, iZ_add, iZ_sub, iZ_mul, iZ_neg, nz0, nzi, iZ_lt, iZ_le, iZ_inj, b2_z, b2_o, ite_bPz, ite_bPo, xb_bP, iZ_xin, if_pos, ite_self, ↓reduceIte, Int.reduceAdd, Int.reduceSub, Int.reduceMul, Int.reduceNeg, Int.reduceLT, Int.reduceLE, if_neg, nS, iZ_clampN, iZ_bit, iZ_one, iZ_and, iZ_or, iZ_ndn, m_leaves hP hB h1 h2 hw]
  by_cases c1 : lv (aP A) B heap half w
  · rw [if_pos c1]
    have h := xfor_all (sg := gX12_leavesSafely) (st := fun i => (15, [some (.inr (.inr (12, 0))), some (.inl (iZ (heap))), some (.inl (iZ (half))), some (.inl (iZ (w))), some (.inl (iZ (i)))], [], M)) (R := fun i => some (some (.inl (bP (∀ p, i ≤ p → p < aP A → half.testBit p = true → ndn (SB (6 * p + w) &&& heap) half = 0))), M)) (n := aP A) (fun i hi ih => by
      rw [xfix_unf, sX12_leavesSafely_15, all_from hi]
      have e1 : (6 * (i : Int) + w).toNat = 6 * i + w := by omega
      have e2 : ndn (SB (6 * i + w) &&& heap) half < 512 := Nat.lt_of_le_of_lt (ndn_le _ _) (Nat.lt_of_le_of_lt Nat.and_le_left (hS.2 (6 * i + w)))
      rw [nS] at ih
      simp (disch := omega) only [xk_none, xk_inl, xk_inr, xk_ite, xri_v, xrl_v, xrv_v, xb_z0, xb_z1, xb_b2, if_true, if_false, ite_true, ite_false, iZ_lit, iZ_m1, iZ_m99, iZ_m8, iZ_add, iZ_sub, iZ_mul, iZ_neg, nz0, nzi, iZ_lt, iZ_le, iZ_inj, b2_z, b2_o, ite_bPz, ite_bPo, xb_bP, iZ_xin, if_pos, ite_self, ↓reduceIte, Int.reduceAdd, Int.reduceSub, Int.reduceMul, Int.reduceNeg, Int.reduceLT, Int.reduceLE, if_neg, nS, iZ_clampN, iZ_bit, iZ_one, iZ_and, iZ_or, iZ_ndn, hP.1, iZ_clamp, e1, hS.1 (6 * i + w) (by omega), iZ_z, ih]
      by_cases e3 : half.testBit i = true
      · by_cases e4 : ndn (SB (6 * i + w) &&& heap) half = 0
        · simp only [e3, e4, if_true, true_implies, true_and]
        · simp only [e3, e4, if_true, if_false, true_implies, false_and, bP_f (not_false)]
      · rw [if_neg e3]
        simp only [e3, false_implies, true_and, Bool.false_eq_true]) (by
      rw [xfix_unf, sX12_leavesSafely_15]
      simp (disch := omega) only [xk_none, xk_inl, xk_inr, xk_ite, xri_v, xrl_v, xrv_v, xb_z0, xb_z1, xb_b2, if_true, if_false, ite_true, ite_false, iZ_lit, iZ_m1, iZ_m99, iZ_m8, iZ_add, iZ_sub, iZ_mul, iZ_neg, nz0, nzi, iZ_lt, iZ_le, iZ_inj, b2_z, b2_o, ite_bPz, ite_bPo, xb_bP, iZ_xin, if_pos, ite_self, ↓reduceIte, Int.reduceAdd, Int.reduceSub, Int.reduceMul, Int.reduceNeg, Int.reduceLT, Int.reduceLE, if_neg, nS, iZ_clampN, iZ_bit, iZ_one, iZ_and, iZ_or, iZ_ndn, hP.1]
      rw [bP_t (fun p h1 h2 => by omega)]) (i := 0) (by omega)
    refine h.trans (rP ?_)
    exact ⟨fun z => ⟨c1, fun p hp hb => z p (by omega) hp hb⟩, fun z p _ hp hb => z.2 p hp hb⟩
  · rw [if_neg c1, bP_f (fun z => c1 z.1)]
def gds (A : dA) (heap half w : Nat) : Prop := (lv (aP A) (barS A) heap half w ∧ lv (aP A) (sbrS A) heap half w) ∧ loose A heap half
noncomputable def sSafeCut (A : dA) (a b w : Int) : Int := vI (vF A a b ∧ vW w) (ind (gds A a.toNat b.toNat w.toNat))
theorem q_safeCut {A : dA} {M : xM} (h : mQ M A) {a b w : Int} (ha : r32 a) (hb : r32 b) (hw : r32 w) : qR M A (fX12_safeCut [.inr (.inr (12, 0)), .inl (iZ (a)), .inl (iZ (b)), .inl (iZ (w))] M) (.inl (iZ (sSafeCut A a b w))) := by
  have hP := pow9 h.A.ok.P
  unfold sSafeCut
  by_cases e1 : vF A a b
  · by_cases e2 : vW w
    · obtain ⟨M', a1, a2, a3, a4, a5⟩ := h.kn
      rw [vI_t ⟨e1, e2⟩]
      refine ⟨M', ?_, a2, a3⟩
      have e1' := e1
      obtain ⟨a, b, rfl, rfl, x1, x2, x3, x4⟩ := e1'
      obtain ⟨w, rfl, h2⟩ := e2.n
      show xfix gX12_safeCut (0, [some (.inr (.inr (12, 0))), some (.inl (iZ (a))), some (.inl (iZ (b))), some (.inl (iZ (w)))], [], M) = _; rw [xfix_unf, sX12_safeCut_0]
      simp (disch := omega) only [xk_none, xk_inl, xk_inr, xk_ite, xri_v, xrl_v, xrv_v, xb_z0, xb_z1, xb_b2, if_true, if_false, ite_true, ite_false, iZ_lit, iZ_m1, iZ_m99, iZ_m8, iZ_add, iZ_sub, iZ_mul, iZ_neg, nz0, nzi, iZ_lt, iZ_le, iZ_inj, b2_z, b2_o, ite_bPz, ite_bPo, xb_bP, iZ_xin, if_pos, ite_self, ↓reduceIte, Int.reduceAdd, Int.reduceSub, Int.reduceMul, Int.reduceNeg, Int.reduceLT, Int.reduceLE, if_neg, nS, iZ_clampN, iZ_bit, iZ_one, iZ_and, iZ_or, iZ_ndn, k_isHalf h.A ha hb, k_isWay hw, e1, e2, a1, m_leavesSafely a2.A.P a4.1 a4.2.1 (by omega : a < 512) (by omega : b < 512) (by omega : w < 6), m_isLoose a2.A (by omega : a < 512) (by omega : b < 512)]
      show _ = some (some (Sum.inl (iZ (ind (gds A a b w)))), M')
      by_cases c1 : lv (aP A) (barS A) a b w ∧ lv (aP A) (sbrS A) a b w
      · by_cases c2 : loose A a b
        · rw [if_pos c1, if_pos c2, ind_t ⟨c1, c2⟩]
        · rw [if_pos c1, if_neg c2, ind_f (fun z => c2 z.2)]
      · rw [if_neg c1, ind_f (fun z => c1 z.1)]
    · refine qR.of h ?_
      rw [vI_f (fun z => e2 z.2)]
      show xfix gX12_safeCut (0, [some (.inr (.inr (12, 0))), some (.inl (iZ (a))), some (.inl (iZ (b))), some (.inl (iZ (w)))], [], M) = _; rw [xfix_unf, sX12_safeCut_0]
      simp (disch := omega) only [xk_none, xk_inl, xk_inr, xk_ite, xri_v, xrl_v, xrv_v, xb_z0, xb_z1, xb_b2, if_true, if_false, ite_true, ite_false, iZ_lit, iZ_m1, iZ_m99, iZ_m8, iZ_add, iZ_sub, iZ_mul, iZ_neg, nz0, nzi, iZ_lt, iZ_le, iZ_inj, b2_z, b2_o, ite_bPz, ite_bPo, xb_bP, iZ_xin, if_pos, ite_self, ↓reduceIte, Int.reduceAdd, Int.reduceSub, Int.reduceMul, Int.reduceNeg, Int.reduceLT, Int.reduceLE, if_neg, nS, iZ_clampN, iZ_bit, iZ_one, iZ_and, iZ_or, iZ_ndn, k_isHalf h.A ha hb, k_isWay hw, e1, e2]
  · refine qR.of h ?_
    rw [vI_f (fun z => e1 z.1)]
    show xfix gX12_safeCut (0, [some (.inr (.inr (12, 0))), some (.inl (iZ (a))), some (.inl (iZ (b))), some (.inl (iZ (w)))], [], M) = _; rw [xfix_unf, sX12_safeCut_0]
    simp (disch := omega) only [xk_none, xk_inl, xk_inr, xk_ite, xri_v, xrl_v, xrv_v, xb_z0, xb_z1, xb_b2, if_true, if_false, ite_true, ite_false, iZ_lit, iZ_m1, iZ_m99, iZ_m8, iZ_add, iZ_sub, iZ_mul, iZ_neg, nz0, nzi, iZ_lt, iZ_le, iZ_inj, b2_z, b2_o, ite_bPz, ite_bPo, xb_bP, iZ_xin, if_pos, ite_self, ↓reduceIte, Int.reduceAdd, Int.reduceSub, Int.reduceMul, Int.reduceNeg, Int.reduceLT, Int.reduceLE, if_neg, nS, iZ_clampN, iZ_bit, iZ_one, iZ_and, iZ_or, iZ_ndn, k_isHalf h.A ha hb, e1]
noncomputable def sHeap (A : dA) (a : Int) (what : Int) : Int := vI (vH A a) (if what = 0 then ind (netA A a.toNat) else if what = 1 then ptC A (barS A) a.toNat a.toNat else if what = 2 then ordA A a.toNat else if what = 3 then (leaA A a.toNat).1 else if what = 4 then rndA A a.toNat else if what = 5 then hnd A a.toNat else if what = 6 then ind (tps A a.toNat (flr A a.toNat (aP A))) else if what = 7 then ind (livA A a.toNat) else -1)
theorem q_heap {A : dA} {M : xM} (h : mQ M A) {a what : Int} (ha : r32 a) (hw : r32 what) : qR M A (fX12_heap [.inr (.inr (12, 0)), .inl (iZ (a)), .inl (iZ (what))] M) (.inr (.inl (lZ (sHeap A a what)))) := by
  have hP := pow9 h.A.ok.P
  unfold sHeap
  by_cases e1 : vH A a
  · obtain ⟨M', a1, a2, a3, a4, a5⟩ := h.kn
    rw [vI_t e1]
    refine ⟨M', ?_, a2, a3⟩
    obtain ⟨a, rfl, h1, h2⟩ := e1.n
    have en : ((a : Int)).toNat = a := by omega
    rw [en]
    have hf := flr_le A a (aP A)
    obtain ⟨b1, b2, b3, b4⟩ := a4.2.2.1 a h1 h2
    obtain ⟨b5, b6⟩ := a4.2.2.2 a (by omega)
    have c1 := ptC A (barS A) a a
    have c2 : 0 ≤ ptC A (barS A) a a ∧ ptC A (barS A) a a ≤ a := sm_ind (ptW A (barS A) a) a
    have c3 := leaA_b h.A.ok h1
    have c4 := rndA_b (A := A) h1
    have c5 := hnd_le A a
    have f31 : ∀ n : Nat, n < 100 → (iZ what = iZ n ↔ what = n) := fun n hn => iZ_inj hw (by omega)
    show xfix gX12_heap (0, [some (.inr (.inr (12, 0))), some (.inl (iZ (a))), some (.inl (iZ (what)))], [], M) = _; rw [xfix_unf, sX12_heap_0]
    rw [k_isHeap h.A ha, xri_v, bP_t e1, if_neg (show ¬ iZ 1 = 0 by decide +kernel), a1, xrv_v]
    by_cases d0 : what = 0
    · rw [if_pos (show iZ what = 0 from (f31 0 (by omega)).mpr d0), if_pos d0]
      simp (disch := omega) only [xk_none, xk_inl, xk_inr, xk_ite, xri_v, xrl_v, xrv_v, xb_z0, xb_z1, xb_b2, if_true, if_false, ite_true, ite_false, iZ_lit, iZ_m1, iZ_m99, iZ_m8, iZ_add, iZ_sub, iZ_mul, iZ_neg, nz0, nzi, iZ_lt, iZ_le, iZ_inj, b2_z, b2_o, ite_bPz, ite_bPo, xb_bP, iZ_xin, if_pos, ite_self, ↓reduceIte, Int.reduceAdd, Int.reduceSub, Int.reduceMul, Int.reduceNeg, Int.reduceLT, Int.reduceLE, if_neg, nS, iZ_clampN, iZ_bit, iZ_one, iZ_and, iZ_or, iZ_ndn, lZ_lit, lZ_m1, iL_toInt64, b5]
      by_cases d : netA A a
      · rw [if_pos d, ind_t d]
      · rw [if_neg d, ind_f d]
    · rw [if_neg (show ¬ iZ what = 0 from fun z => d0 ((f31 0 (by omega)).mp z)), if_neg d0]
      by_cases d1 : what = 1
      · rw [if_pos (show iZ what = 1 from (f31 1 (by omega)).mpr d1), if_pos d1]
        simp (disch := omega) only [xk_none, xk_inl, xk_inr, xk_ite, xri_v, xrl_v, xrv_v, xb_z0, xb_z1, xb_b2, if_true, if_false, ite_true, ite_false, iZ_lit, iZ_m1, iZ_m99, iZ_m8, iZ_add, iZ_sub, iZ_mul, iZ_neg, nz0, nzi, iZ_lt, iZ_le, iZ_inj, b2_z, b2_o, ite_bPz, ite_bPo, xb_bP, iZ_xin, if_pos, ite_self, ↓reduceIte, Int.reduceAdd, Int.reduceSub, Int.reduceMul, Int.reduceNeg, Int.reduceLT, Int.reduceLE, if_neg, nS, iZ_clampN, iZ_bit, iZ_one, iZ_and, iZ_or, iZ_ndn, lZ_lit, lZ_m1, iL_toInt64, m_partings a2.A a4.1 h1 (by omega : a < 512)]
      · rw [if_neg (show ¬ iZ what = 1 from fun z => d1 ((f31 1 (by omega)).mp z)), if_neg d1]
        by_cases d2 : what = 2
        · rw [if_pos (show iZ what = 2 from (f31 2 (by omega)).mpr d2), if_pos d2]
          simp (disch := omega) only [xk_none, xk_inl, xk_inr, xk_ite, xri_v, xrl_v, xrv_v, xb_z0, xb_z1, xb_b2, if_true, if_false, ite_true, ite_false, iZ_lit, iZ_m1, iZ_m99, iZ_m8, iZ_add, iZ_sub, iZ_mul, iZ_neg, nz0, nzi, iZ_lt, iZ_le, iZ_inj, b2_z, b2_o, ite_bPz, ite_bPo, xb_bP, iZ_xin, if_pos, ite_self, ↓reduceIte, Int.reduceAdd, Int.reduceSub, Int.reduceMul, Int.reduceNeg, Int.reduceLT, Int.reduceLE, if_neg, nS, iZ_clampN, iZ_bit, iZ_one, iZ_and, iZ_or, iZ_ndn, lZ_lit, lZ_m1, iL_toInt64, b1]
        · rw [if_neg (show ¬ iZ what = 2 from fun z => d2 ((f31 2 (by omega)).mp z)), if_neg d2]
          by_cases d3 : what = 3
          · rw [if_pos (show iZ what = 3 from (f31 3 (by omega)).mpr d3), if_pos d3]
            simp (disch := omega) only [xk_none, xk_inl, xk_inr, xk_ite, xri_v, xrl_v, xrv_v, xb_z0, xb_z1, xb_b2, if_true, if_false, ite_true, ite_false, iZ_lit, iZ_m1, iZ_m99, iZ_m8, iZ_add, iZ_sub, iZ_mul, iZ_neg, nz0, nzi, iZ_lt, iZ_le, iZ_inj, b2_z, b2_o, ite_bPz, ite_bPo, xb_bP, iZ_xin, if_pos, ite_self, ↓reduceIte, Int.reduceAdd, Int.reduceSub, Int.reduceMul, Int.reduceNeg, Int.reduceLT, Int.reduceLE, if_neg, nS, iZ_clampN, iZ_bit, iZ_one, iZ_and, iZ_or, iZ_ndn, lZ_lit, lZ_m1, iL_toInt64, b2]
          · rw [if_neg (show ¬ iZ what = 3 from fun z => d3 ((f31 3 (by omega)).mp z)), if_neg d3]
            by_cases d4 : what = 4
            · rw [if_pos (show iZ what = 4 from (f31 4 (by omega)).mpr d4), if_pos d4]
              simp (disch := omega) only [xk_none, xk_inl, xk_inr, xk_ite, xri_v, xrl_v, xrv_v, xb_z0, xb_z1, xb_b2, if_true, if_false, ite_true, ite_false, iZ_lit, iZ_m1, iZ_m99, iZ_m8, iZ_add, iZ_sub, iZ_mul, iZ_neg, nz0, nzi, iZ_lt, iZ_le, iZ_inj, b2_z, b2_o, ite_bPz, ite_bPo, xb_bP, iZ_xin, if_pos, ite_self, ↓reduceIte, Int.reduceAdd, Int.reduceSub, Int.reduceMul, Int.reduceNeg, Int.reduceLT, Int.reduceLE, if_neg, nS, iZ_clampN, iZ_bit, iZ_one, iZ_and, iZ_or, iZ_ndn, lZ_lit, lZ_m1, iL_toInt64, b4]
            · rw [if_neg (show ¬ iZ what = 4 from fun z => d4 ((f31 4 (by omega)).mp z)), if_neg d4]
              by_cases d5 : what = 5
              · rw [if_pos (show iZ what = 5 from (f31 5 (by omega)).mpr d5), if_pos d5]
                simp (disch := omega) only [xk_none, xk_inl, xk_inr, xk_ite, xri_v, xrl_v, xrv_v, xb_z0, xb_z1, xb_b2, if_true, if_false, ite_true, ite_false, iZ_lit, iZ_m1, iZ_m99, iZ_m8, iZ_add, iZ_sub, iZ_mul, iZ_neg, nz0, nzi, iZ_lt, iZ_le, iZ_inj, b2_z, b2_o, ite_bPz, ite_bPo, xb_bP, iZ_xin, if_pos, ite_self, ↓reduceIte, Int.reduceAdd, Int.reduceSub, Int.reduceMul, Int.reduceNeg, Int.reduceLT, Int.reduceLE, if_neg, nS, iZ_clampN, iZ_bit, iZ_one, iZ_and, iZ_or, iZ_ndn, lZ_lit, lZ_m1, iL_toInt64, a2.H a h1 h2]
              · rw [if_neg (show ¬ iZ what = 5 from fun z => d5 ((f31 5 (by omega)).mp z)), if_neg d5]
                by_cases d6 : what = 6
                · rw [if_pos (show iZ what = 6 from (f31 6 (by omega)).mpr d6), if_pos d6]
                  simp (disch := omega) only [xk_none, xk_inl, xk_inr, xk_ite, xri_v, xrl_v, xrv_v, xb_z0, xb_z1, xb_b2, if_true, if_false, ite_true, ite_false, iZ_lit, iZ_m1, iZ_m99, iZ_m8, iZ_add, iZ_sub, iZ_mul, iZ_neg, nz0, nzi, iZ_lt, iZ_le, iZ_inj, b2_z, b2_o, ite_bPz, ite_bPo, xb_bP, iZ_xin, if_pos, ite_self, ↓reduceIte, Int.reduceAdd, Int.reduceSub, Int.reduceMul, Int.reduceNeg, Int.reduceLT, Int.reduceLE, if_neg, nS, iZ_clampN, iZ_bit, iZ_one, iZ_and, iZ_or, iZ_ndn, lZ_lit, lZ_m1, iL_toInt64, m_floor a2.A a2.W (by omega : a < 512), m_tips a2.A (by omega : a < 512) hf]
                  by_cases d : tps A a (flr A a (aP A))
                  · rw [if_pos d, ind_t d]
                  · rw [if_neg d, ind_f d]
                · rw [if_neg (show ¬ iZ what = 6 from fun z => d6 ((f31 6 (by omega)).mp z)), if_neg d6]
                  by_cases d7 : what = 7
                  · rw [if_pos (show iZ what = 7 from (f31 7 (by omega)).mpr d7), if_pos d7]
                    simp (disch := omega) only [xk_none, xk_inl, xk_inr, xk_ite, xri_v, xrl_v, xrv_v, xb_z0, xb_z1, xb_b2, if_true, if_false, ite_true, ite_false, iZ_lit, iZ_m1, iZ_m99, iZ_m8, iZ_add, iZ_sub, iZ_mul, iZ_neg, nz0, nzi, iZ_lt, iZ_le, iZ_inj, b2_z, b2_o, ite_bPz, ite_bPo, xb_bP, iZ_xin, if_pos, ite_self, ↓reduceIte, Int.reduceAdd, Int.reduceSub, Int.reduceMul, Int.reduceNeg, Int.reduceLT, Int.reduceLE, if_neg, nS, iZ_clampN, iZ_bit, iZ_one, iZ_and, iZ_or, iZ_ndn, lZ_lit, lZ_m1, iL_toInt64, b6]
                    by_cases d : livA A a
                    · rw [if_pos d, ind_t d]
                    · rw [if_neg d, ind_f d]
                  · rw [if_neg (show ¬ iZ what = 7 from fun z => d7 ((f31 7 (by omega)).mp z)), if_neg d7]
                    simp (disch := omega) only [xk_none, xk_inl, xk_inr, xk_ite, xri_v, xrl_v, xrv_v, xb_z0, xb_z1, xb_b2, if_true, if_false, ite_true, ite_false, iZ_lit, iZ_m1, iZ_m99, iZ_m8, iZ_add, iZ_sub, iZ_mul, iZ_neg, nz0, nzi, iZ_lt, iZ_le, iZ_inj, b2_z, b2_o, ite_bPz, ite_bPo, xb_bP, iZ_xin, if_pos, ite_self, ↓reduceIte, Int.reduceAdd, Int.reduceSub, Int.reduceMul, Int.reduceNeg, Int.reduceLT, Int.reduceLE, if_neg, nS, iZ_clampN, iZ_bit, iZ_one, iZ_and, iZ_or, iZ_ndn, lZ_m1]
  · refine qR.of h ?_
    rw [vI_f e1]
    show xfix gX12_heap (0, [some (.inr (.inr (12, 0))), some (.inl (iZ (a))), some (.inl (iZ (what)))], [], M) = _; rw [xfix_unf, sX12_heap_0]
    rw [k_isHeap h.A ha, xri_v, bP_f e1, if_pos (show iZ 0 = 0 from rfl)]
    simp (disch := omega) only [xk_none, xk_inl, xk_inr, xk_ite, xri_v, xrl_v, xrv_v, xb_z0, xb_z1, xb_b2, if_true, if_false, ite_true, ite_false, iZ_lit, iZ_m1, iZ_m99, iZ_m8, iZ_add, iZ_sub, iZ_mul, iZ_neg, nz0, nzi, iZ_lt, iZ_le, iZ_inj, b2_z, b2_o, ite_bPz, ite_bPo, xb_bP, iZ_xin, if_pos, ite_self, ↓reduceIte, Int.reduceAdd, Int.reduceSub, Int.reduceMul, Int.reduceNeg, Int.reduceLT, Int.reduceLE, if_neg, nS, iZ_clampN, iZ_bit, iZ_one, iZ_and, iZ_or, iZ_ndn, lZ_m1]
