/-! the class: prices, bent and swollen parts, taking apart -/
/-- what hangs on parts, cells, bars and joints alone stays -/
def sEq (A B : dA) : Prop := aP A = aP B ∧ aC A = aC B ∧ barS A = barS B ∧ loose A = loose B
section
variable {A B : dA} {M : xM}
theorem hldR_eq (hC : aC A = aC B) (hP : aP A = aP B) (heap fl : Nat) : ∀ k, hldR A heap fl k = hldR B heap fl k
  | 0 => rfl
  | k + 1 => by
    unfold hldR
    rw [hldR_eq hC hP heap fl k, rstS_eq hC hP]
theorem zHn.eq (hC : aC A = aC B) (hP : aP A = aP B) (h : zHn M A) : zHn M B := by
  refine h.imp id fun z => ⟨z.1, fun k k1 k2 => ?_⟩
  have q := z.2 k k1 (by rw [hP]; exact k2)
  unfold hldA at q ⊢
  rw [hldR_eq hC hP, flr_eq hC, hP, hnd_eq hC hP] at q
  exact q
theorem prt_eq (h : sEq A B) : prt A (barS A) = prt B (barS B) := by
  funext heap half
  unfold prt
  rw [h.1, h.2.2.1, h.2.2.2]
theorem gdw_eq (h : sEq A B) : gdw A (barS A) = gdw B (barS B) := by
  funext heap half w
  unfold gdw
  rw [h.1, h.2.2.1, h.2.2.2]
theorem ordA_cg (h : sEq A B) : ordA A = ordA B := by funext k; unfold ordA; rw [prt_eq h]
theorem rndA_cg (h : sEq A B) : rndA A = rndA B := by funext k; unfold rndA; rw [prt_eq h]
theorem ptV_eq (h : sEq A B) : ptV A = ptV B := by funext a b; unfold ptV; rw [prt_eq h]
theorem lvV_eq (h : sEq A B) : lvV A = lvV B := by funext a b; unfold lvV; rw [ptV_eq h, ordA_cg h]
theorem nsS_eq (h : sEq A B) : nsS A = nsS B := by funext a; unfold nsS; rw [h.1]
theorem lsS_eq (h : sEq A B) : lsS A = lsS B := by funext a; unfold lsS; rw [nsS_eq h, ordA_cg h]
theorem netA_eq (h : sEq A B) : netA A = netA B := by funext a; unfold netA; rw [nsS_eq h, ptV_eq h]
theorem livA_eq (h : sEq A B) : livA A = livA B := by funext a; unfold livA; rw [lsS_eq h, lvV_eq h]
theorem ptC_eq (h : sEq A B) : ptC A (barS A) = ptC B (barS B) := by
  funext heap
  unfold ptC ptW
  rw [prt_eq h]
theorem zNt.eq (h : sEq A B) (z : zNt M A) : zNt M B := by
  unfold zNt cNt at z ⊢
  rw [ptC_eq h, rndA_cg h, netA_eq h, livA_eq h, h.1] at z
  exact z
theorem mnt_eq (h : sEq A B) : mnt A = mnt B := by
  funext heap half w
  unfold mnt wth gdc bA
  rw [inH_eq h.2.1, (lo_eq h.2.1).1, (lo_eq h.2.1).2]
theorem timA_cg (h : sEq A B) : timA A = timA B := by
  funext k
  unfold timA timT
  have e : (fun heap T => timP A heap T heap) = fun heap T => timP B heap T heap := by
    funext heap T
    unfold timP tq1 tq2 tc1 tc2 tOk
    rw [mnt_eq h, gdw_eq h]
  rw [e]
theorem zTm.eq (h : sEq A B) (z : zTm M A) : zTm M B := by
  unfold zTm cTm at z ⊢
  rw [timA_cg h, h.1] at z
  exact z
theorem zOr.eq (h : sEq A B) (hp : aPr A = aPr B) (z : zOr M A) : zOr M B := by
  have e1 : cstA A = cstA B := by funext a b; unfold cstA; rw [hp, hnd_eq h.2.1 h.1]
  have e2 : leaA A = leaA B := by funext k; unfold leaA; rw [gdw_eq h, e1]
  unfold zOr at z ⊢
  rw [ordA_cg h, e2, h.1] at z
  exact z
theorem sEq_pr (A : dA) (w v : Nat) : sEq A (wPr A w v) := ⟨rfl, rfl, rfl, rfl⟩
theorem sEq_sw (A : dA) (i : Nat) (b : Bool) : sEq A (wSw A i b) := ⟨rfl, rfl, rfl, rfl⟩
end
section
variable {M : xM} {A : dA} {S : dS}
theorem c_price (h : cZ M A S) {w v : Int} (hw : r32 w) (hv : r32 v) : cQ (nPrice A w v) S (fX11_price [.inr (.inr (11, 0)), .inl (iZ (w)), .inl (iZ (v))] M) (.inl (bP ((0 ≤ w ∧ w ≤ 6) ∧ 0 ≤ v ∧ v ≤ 99))) := by
  unfold nPrice
  unfold r32 at hw hv
  by_cases c : (0 ≤ w ∧ w ≤ 6) ∧ 0 ≤ v ∧ v ≤ 99
  · rw [bP_t c, if_pos c]
    obtain ⟨w, rfl⟩ : ∃ n : Nat, w = n := ⟨w.toNat, by omega⟩
    obtain ⟨v, rfl⟩ : ∃ n : Nat, v = n := ⟨v.toNat, by omega⟩
    have enw : ((w : Int)).toNat = w := by omega
    have env : ((v : Int)).toNat = v := by omega
    rw [enw, env]
    have hs : xSm (fun r j => r = (53, 0) ∨ (r = (2, 0) ∧ j = 4)) M (xpI (xpI M (53, 0) w (iZ v)) (2, 0) 4 (iZ 0)) := (xSm.rf.pI (.inl rfl)).pI (.inr ⟨rfl, rfl⟩)
    have rows : ∀ r j, (r = (53, 0) ∨ (r = (2, 0) ∧ j = 4)) → shZ r j = false ∧ bnZ r j = false ∧ swZ r j = false ∧ tpZ r j = false ∧ w0Z r j = false ∧ w1Z r j = false ∧ ptZ r j = false ∧ rcZ r j = false ∧ hnZ r j = false ∧ ntZ r j = false ∧ tmZ r j = false := by
      rintro r j (z | ⟨z, z2⟩) <;> subst z <;> exact ⟨rfl, rfl, rfl, rfl, rfl, rfl, rfl, rfl, rfl, rfl, rfl⟩
    have zn : zNt (xpI (xpI M (53, 0) w (iZ v)) (2, 0) 4 (iZ 0)) A := h.2.2.2.1.sm hs fun r j p => (rows r j p).2.2.2.2.2.2.2.2.2.1
    have zt : zTm (xpI (xpI M (53, 0) w (iZ v)) (2, 0) 4 (iZ 0)) A := h.2.2.2.2.sm hs fun r j p => (rows r j p).2.2.2.2.2.2.2.2.2.2
    have zh : zHn (xpI (xpI M (53, 0) w (iZ v)) (2, 0) 4 (iZ 0)) A := h.2.1.sm hs fun r j p => (rows r j p).2.2.2.2.2.2.2.2.1
    refine ⟨_, ?_, ⟨h.1.1.sm hs fun r j p => (rows r j p).1, h.1.2.1.sm hs fun r j p => (rows r j p).2.1, h.1.2.2.1.sm hs fun r j p => (rows r j p).2.2.1, h.tp.sm hs fun r j p => (rows r j p).2.2.2.1, fun k hk => ?_, ⟨h.w0.sm hs fun r j p => (rows r j p).2.2.2.2.1, h.w1.sm hs fun r j p => (rows r j p).2.2.2.2.2.1⟩, h.pt.sm hs fun r j p => (rows r j p).2.2.2.2.2.2.1, h.rc.sm hs fun r j p => (rows r j p).2.2.2.2.2.2.2.1⟩, zHn.eq (A := A) rfl rfl zh, .inl pR_eq, zn.eq (sEq_pr _ _ _), zt.eq (sEq_pr _ _ _)⟩
    · show xfix gX11_price (0, [some (.inr (.inr (11, 0))), some (.inl (iZ (w))), some (.inl (iZ (v)))], [], M) = _; rw [xfix_unf, sX11_price_0]
      simp (disch := omega) only [xk_none, xk_inl, xk_inr, xk_ite, xri_v, xrl_v, xrv_v, xb_z0, xb_z1, xb_b2, if_true, if_false, ite_true, ite_false, iZ_lit, iZ_m1, iZ_m99, iZ_m8, iZ_add, iZ_sub, iZ_mul, iZ_neg, nz0, nzi, iZ_lt, iZ_le, iZ_inj, b2_z, b2_o, ite_bPz, ite_bPo, xb_bP, iZ_xin, if_pos, ite_self, ↓reduceIte, Int.reduceAdd, Int.reduceSub, Int.reduceMul, Int.reduceNeg, Int.reduceLT, Int.reduceLE, if_neg, iZ_clampN]
    · show _ = iZ ((if k = w then v else aPr A k : Nat) : Int)
      rw [xI_pI_ne (by decide), xI_pI]
      by_cases ek : k = w
      · rw [if_pos ⟨rfl, ek⟩, if_pos ek]
      · rw [if_neg (fun z => ek z.2), if_neg ek]; exact h.Pr k hk
  · rw [bP_f c, if_neg c]
    refine ⟨M, ?_, h⟩
    show xfix gX11_price (0, [some (.inr (.inr (11, 0))), some (.inl (iZ (w))), some (.inl (iZ (v)))], [], M) = _; rw [xfix_unf, sX11_price_0]
    by_cases c1 : 0 ≤ w ∧ w ≤ 6
    · by_cases c2 : 0 ≤ v
      · simp (disch := omega) only [xk_none, xk_inl, xk_inr, xk_ite, xri_v, xrl_v, xrv_v, xb_z0, xb_z1, xb_b2, if_true, if_false, ite_true, ite_false, iZ_lit, iZ_m1, iZ_m99, iZ_m8, iZ_add, iZ_sub, iZ_mul, iZ_neg, nz0, nzi, iZ_lt, iZ_le, iZ_inj, b2_z, b2_o, ite_bPz, ite_bPo, xb_bP, iZ_xin, if_pos, ite_self, ↓reduceIte, Int.reduceAdd, Int.reduceSub, Int.reduceMul, Int.reduceNeg, Int.reduceLT, Int.reduceLE, if_neg]
      · simp (disch := omega) only [xk_none, xk_inl, xk_inr, xk_ite, xri_v, xrl_v, xrv_v, xb_z0, xb_z1, xb_b2, if_true, if_false, ite_true, ite_false, iZ_lit, iZ_m1, iZ_m99, iZ_m8, iZ_add, iZ_sub, iZ_mul, iZ_neg, nz0, nzi, iZ_lt, iZ_le, iZ_inj, b2_z, b2_o, ite_bPz, ite_bPo, xb_bP, iZ_xin, if_pos, ite_self, ↓reduceIte, Int.reduceAdd, Int.reduceSub, Int.reduceMul, Int.reduceNeg, Int.reduceLT, Int.reduceLE, if_neg]
    · by_cases c3 : 0 ≤ w
      · simp (disch := omega) only [xk_none, xk_inl, xk_inr, xk_ite, xri_v, xrl_v, xrv_v, xb_z0, xb_z1, xb_b2, if_true, if_false, ite_true, ite_false, iZ_lit, iZ_m1, iZ_m99, iZ_m8, iZ_add, iZ_sub, iZ_mul, iZ_neg, nz0, nzi, iZ_lt, iZ_le, iZ_inj, b2_z, b2_o, ite_bPz, ite_bPo, xb_bP, iZ_xin, if_pos, ite_self, ↓reduceIte, Int.reduceAdd, Int.reduceSub, Int.reduceMul, Int.reduceNeg, Int.reduceLT, Int.reduceLE, if_neg]
      · simp (disch := omega) only [xk_none, xk_inl, xk_inr, xk_ite, xri_v, xrl_v, xrv_v, xb_z0, xb_z1, xb_b2, if_true, if_false, ite_true, ite_false, iZ_lit, iZ_m1, iZ_m99, iZ_m8, iZ_add, iZ_sub, iZ_mul, iZ_neg, nz0, nzi, iZ_lt, iZ_le, iZ_inj, b2_z, b2_o, ite_bPz, ite_bPo, xb_bP, iZ_xin, if_pos, ite_self, ↓reduceIte, Int.reduceAdd, Int.reduceSub, Int.reduceMul, Int.reduceNeg, Int.reduceLT, Int.reduceLE, if_neg]
theorem x_forget (M : xM) : fX11_forgetOrders [.inr (.inr (11, 0))] M = some (none, xpI (xpI (xpI M (2, 0) 4 (iZ 0)) (1, 0) 6 (iZ 0)) (1, 0) 7 (iZ 0)) := by
  have st : ∀ M : xM, fX1_stale [.inr (.inr (1, 0))] M = some (none, xpI (xpI M (1, 0) 6 (iZ 0)) (1, 0) 7 (iZ 0)) := fun M => by
    show xfix gX1_stale (0, [some (.inr (.inr (1, 0)))], [], M) = _; rw [xfix_unf, sX1_stale_0]
    simp (disch := omega) only [xk_none, xk_inl, xk_inr, xk_ite, xri_v, xrl_v, xrv_v, xb_z0, xb_z1, xb_b2, if_true, if_false, ite_true, ite_false, iZ_lit, iZ_m1, iZ_m99, iZ_m8, iZ_add, iZ_sub, iZ_mul, iZ_neg, nz0, nzi, iZ_lt, iZ_le, iZ_inj, b2_z, b2_o, ite_bPz, ite_bPo, xb_bP, iZ_xin, if_pos, ite_self, ↓reduceIte, Int.reduceAdd, Int.reduceSub, Int.reduceMul, Int.reduceNeg, Int.reduceLT, Int.reduceLE, if_neg]
  have s1 := st (xpI M (2, 0) 4 (iZ 0))
  show xfix gX11_forgetOrders (0, [some (.inr (.inr (11, 0)))], [], M) = _; rw [xfix_unf, sX11_forgetOrders_0]
  simp (disch := omega) only [xk_none, xk_inl, xk_inr, xk_ite, xri_v, xrl_v, xrv_v, xb_z0, xb_z1, xb_b2, if_true, if_false, ite_true, ite_false, iZ_lit, iZ_m1, iZ_m99, iZ_m8, iZ_add, iZ_sub, iZ_mul, iZ_neg, nz0, nzi, iZ_lt, iZ_le, iZ_inj, b2_z, b2_o, ite_bPz, ite_bPo, xb_bP, iZ_xin, if_pos, ite_self, ↓reduceIte, Int.reduceAdd, Int.reduceSub, Int.reduceMul, Int.reduceNeg, Int.reduceLT, Int.reduceLE, if_neg, ↓xrv_some s1]
abbrev fgF (r : xR) (j : Nat) : Prop := (r = (2, 0) ∧ j = 4) ∨ (r = (1, 0) ∧ (j = 6 ∨ j = 7))
theorem x_forget' (M : xM) : ∃ M', fX11_forgetOrders [.inr (.inr (11, 0))] M = some (none, M') ∧ xSm fgF M M' ∧ xI M' (2, 0) 4 = iZ 0 ∧ xI M' (1, 0) 6 = iZ 0 ∧ xI M' (1, 0) 7 = iZ 0 := by
  refine ⟨_, x_forget M, ((xSm.rf.pI (.inl ⟨rfl, rfl⟩)).pI (.inr ⟨rfl, .inl rfl⟩)).pI (.inr ⟨rfl, .inr rfl⟩), ?_, ?_, pR_eq⟩
  · rw [xI_pI_ne (by decide), xI_pI_ne (by decide), pR_eq]
  · rw [pR_ne (by omega), pR_eq]
theorem xor_bit {b p q : Nat} : (b ^^^ 2 ^ p).testBit q = true ↔ (if q = p then b.testBit q = false else b.testBit q = true) := by
  rw [Nat.testBit_xor, Nat.testBit_two_pow]
  by_cases e : q = p
  · subst e
    rw [if_pos rfl]
    cases b.testBit q <;> simp
  · rw [if_neg e]
    have : ¬ p = q := fun z => e z.symm
    simp [this]
theorem xor_lt {b p : Nat} (hb : b < 512) (hp : p < 9) : b ^^^ 2 ^ p < 512 := Nat.xor_lt_two_pow (n := 9) hb (Nat.pow_lt_pow_right (by omega) hp)
theorem c_bent (hA : aOk A) (h : cZ M A S) {p : Int} (hp : r32 p) (b : Bool) : cQ (nBent A p b) S (fX11_bent [.inr (.inr (11, 0)), .inl (iZ (p)), .inl (bP ((b = true)))] M) (.inl (bP (vP A p ∧ aBent A p.toNat ≠ b))) := by
  have k1 := k5p h hp
  have hP := h.P9
  unfold nBent
  by_cases e1 : vP A p
  · rw [bP_t e1] at k1
    have e1' := e1
    obtain ⟨p, rfl, p1⟩ := e1.n
    have enp : ((p : Int)).toNat = p := by omega
    rw [enp]
    obtain ⟨bs, b1, b2, b3⟩ := h.1.2.1
    have kb := x_isBent (p := p) b1 b2 (by omega)
    rw [bP_c (b3 p (by omega))] at kb
    by_cases e2 : aBent A p = b
    · rw [bP_f (c := vP A (p : Int) ∧ aBent A p ≠ b) (fun z => z.2 e2), if_neg (fun z => z.2 e2)]
      refine ⟨M, ?_, h⟩
      rw [e2] at kb
      show xfix gX11_bent (0, [some (.inr (.inr (11, 0))), some (.inl (iZ (p))), some (.inl (bP ((b = true))))], [], M) = _; rw [xfix_unf, sX11_bent_0]
      simp (disch := omega) only [xk_none, xk_inl, xk_inr, xk_ite, xri_v, xrl_v, xrv_v, xb_z0, xb_z1, xb_b2, if_true, if_false, ite_true, ite_false, iZ_lit, iZ_m1, iZ_m99, iZ_m8, iZ_add, iZ_sub, iZ_mul, iZ_neg, nz0, nzi, iZ_lt, iZ_le, iZ_inj, b2_z, b2_o, ite_bPz, ite_bPo, xb_bP, iZ_xin, if_pos, ite_self, ↓reduceIte, Int.reduceAdd, Int.reduceSub, Int.reduceMul, Int.reduceNeg, Int.reduceLT, Int.reduceLE, if_neg, ↓xri_some k1, ↓xri_some kb]
    · rw [bP_t (c := vP A (p : Int) ∧ aBent A p ≠ b) ⟨e1', e2⟩, if_pos ⟨e1', e2⟩]
      have hA' : aOk (wBn A p b) := hA
      have cb : cBn (wBn A p b) (bs ^^^ 2 ^ p) := ⟨xor_lt b2 (by omega), fun q hq => by
        rw [xor_bit]
        show _ ↔ (if q = p then b else aBent A q) = true
        by_cases e : q = p
        · subst e
          rw [if_pos rfl, if_pos rfl]
          have := b3 q hq
          cases x : bs.testBit q <;> cases y : aBent A q <;> cases b <;> simp_all
        · rw [if_neg e, if_neg e]; exact b3 q hq⟩
      obtain ⟨M1, eM1⟩ : ∃ M1, M1 = xpI M (5, 0) 2 (iZ ((bs ^^^ 2 ^ p : Nat) : Int)) := ⟨_, rfl⟩
      have s1 : xSm (fun r j => r = (5, 0) ∧ j = 2) M M1 := by rw [eM1]; exact xSm.rf.pI ⟨rfl, rfl⟩
      have f2 : xI M1 (5, 0) 2 = iZ ((bs ^^^ 2 ^ p : Nat) : Int) := by rw [eM1, pR_eq]
      have f0 : xI M1 (5, 0) 0 = iZ (aP A) := by rw [(s1 (5, 0) 0 (by simp)).1]; exact h.f0
      have w0 : zW0 M1 A := h.w0.sm s1 (by rintro r j ⟨z, z2⟩; subst z; rfl)
      have w1 : zW1 M1 A := h.w1.sm s1 (by rintro r j ⟨z, z2⟩; subst z; rfl)
      obtain ⟨M2, c1, c2, c3, c4⟩ := x_combine (k := 0) f0 h.P9 f2 (xor_lt b2 (by omega)) w0.2.2 w0.1
      have g2 : xI M2 (5, 0) 2 = iZ ((bs ^^^ 2 ^ p : Nat) : Int) := by rw [(c2 (5, 0) (by simp)).1]; exact f2
      have g0 : xI M2 (5, 0) 0 = iZ (aP A) := by rw [(c2 (5, 0) (by simp)).1]; exact f0
      have v1 : zW1 M2 A := w1.sm c2.sm (by rintro r j z; subst z; rfl)
      have o0 : cOw M2 0 (aP A) (fun c p => aC A c = p) := w0.1.sm c2.sm (fun j => by simp)
      obtain ⟨M3, d1, d2, d3, d4⟩ := x_combine (k := 1) g0 h.P9 g2 (xor_lt b2 (by omega)) v1.2.2 v1.1
      have o1 : cOw M3 1 (aP A) (rch A) := v1.1.sm d2.sm (fun j => by simp)
      have o0' : cOw M3 0 (aP A) (fun c p => aC A c = p) := o0.sm d2.sm (fun j => by simp)
      have y0 : cWy M3 0 (aP A) (barS (wBn A p b)) := (cmb_bar (A := wBn A p b) hA' cb c3).same d2 (by simp)
      have y1 : cWy M3 1 (aP A) (sbrS (wBn A p b)) := cmb_sbar (A := wBn A p b) hA' cb d3
      obtain ⟨M4, e1, e3, e4, e5, e6⟩ := x_forget' M3
      have all : xSm (fun r j => (r = (5, 0) ∧ j = 2) ∨ r = (50, 0) ∨ r = (50, 1) ∨ fgF r j) M M4 := (((s1.wk fun r j z => .inl z).tr (c2.sm.wk fun r j z => .inr (.inl z))).tr (d2.sm.wk fun r j z => .inr (.inr (.inl z)))).tr (e3.wk fun r j z => .inr (.inr (.inr z)))
      have rows : ∀ r j, ((r = (5, 0) ∧ j = 2) ∨ r = (50, 0) ∨ r = (50, 1) ∨ fgF r j) → shZ r j = false ∧ swZ r j = false ∧ tpZ r j = false ∧ prZ r j = false ∧ ptZ r j = false ∧ rcZ r j = false ∧ hnZ r j = false := by
        rintro r j (⟨z, z2⟩ | z | z | ⟨z, z2⟩ | ⟨z, z2⟩)
        · subst z; subst z2; exact ⟨rfl, rfl, rfl, rfl, rfl, rfl, rfl⟩
        · subst z; exact ⟨rfl, rfl, rfl, rfl, rfl, rfl, rfl⟩
        · subst z; exact ⟨rfl, rfl, rfl, rfl, rfl, rfl, rfl⟩
        · subst z; exact ⟨rfl, rfl, rfl, rfl, rfl, rfl, rfl⟩
        · subst z; exact ⟨rfl, rfl, rfl, rfl, rfl, rfl, rfl⟩
      have zh : zHn M4 A := h.2.1.sm all fun r j p => (rows r j p).2.2.2.2.2.2
      refine ⟨M4, ?_, ⟨h.1.1.sm all fun r j p => (rows r j p).1, ⟨_, by rw [(e3 (5, 0) 2 (by simp)).1, (d2 (5, 0) (by simp)).1]; exact g2, cb⟩, h.1.2.2.1.sm all fun r j p => (rows r j p).2.1, h.tp.sm all fun r j p => (rows r j p).2.2.1, h.Pr.sm all fun r j p => (rows r j p).2.2.2.1, ⟨⟨o0'.sm e3 (fun j => by simp), y0.sm e3 (fun j => by simp), ?_⟩, o1.sm e3 (fun j => by simp), y1.sm e3 (fun j => by simp), ?_⟩, h.pt.sm all fun r j p => (rows r j p).2.2.2.2.1, h.rc.sm all fun r j p => (rows r j p).2.2.2.2.2.1⟩, zHn.eq (A := A) rfl rfl zh, .inl e4, .inl e5, .inl e6⟩
      · have ne : ¬ bP (aBent A p = true) = bP (b = true) := fun z => e2 (bP_ne.mp z)
        have ex : iZ (bs : Int) ^^^ iZ ((2 ^ p : Nat) : Int) = iZ ((bs ^^^ 2 ^ p : Nat) : Int) := iZ_xor _ _
        clear rows all zh y0 y1 cb w0 w1 v1 o0 o1 o0' c3 d3 b3 hA'
        rw [eM1] at c1
        show xfix gX11_bent (0, [some (.inr (.inr (11, 0))), some (.inl (iZ (p))), some (.inl (bP ((b = true))))], [], M) = _; rw [xfix_unf, sX11_bent_0]
        simp (disch := omega) only [xk_none, xk_inl, xk_inr, xk_ite, xri_v, xrl_v, xrv_v, xb_z0, xb_z1, xb_b2, if_true, if_false, ite_true, ite_false, iZ_lit, iZ_m1, iZ_m99, iZ_m8, iZ_add, iZ_sub, iZ_mul, iZ_neg, nz0, nzi, iZ_lt, iZ_le, iZ_inj, b2_z, b2_o, ite_bPz, ite_bPo, xb_bP, iZ_xin, if_pos, ite_self, ↓reduceIte, Int.reduceAdd, Int.reduceSub, Int.reduceMul, Int.reduceNeg, Int.reduceLT, Int.reduceLE, if_neg, ↓xri_some k1, ↓xri_some kb, if_neg ne, b1, iZ_one, ex, ↓xrv_some c1, ↓xrv_some d1, ↓xrv_some e1]
      · rw [(e3 (50, 0) 0 (by simp)).2, (d2 (50, 0) (by simp)).2]; exact c4
      · rw [(e3 (50, 1) 0 (by simp)).2]; exact d4
  · rw [bP_f e1] at k1
    rw [bP_f (c := vP A p ∧ aBent A p.toNat ≠ b) (fun z => e1 z.1), if_neg (fun z => e1 z.1)]
    refine ⟨M, ?_, h⟩
    show xfix gX11_bent (0, [some (.inr (.inr (11, 0))), some (.inl (iZ (p))), some (.inl (bP ((b = true))))], [], M) = _; rw [xfix_unf, sX11_bent_0]
    simp (disch := omega) only [xk_none, xk_inl, xk_inr, xk_ite, xri_v, xrl_v, xrv_v, xb_z0, xb_z1, xb_b2, if_true, if_false, ite_true, ite_false, iZ_lit, iZ_m1, iZ_m99, iZ_m8, iZ_add, iZ_sub, iZ_mul, iZ_neg, nz0, nzi, iZ_lt, iZ_le, iZ_inj, b2_z, b2_o, ite_bPz, ite_bPo, xb_bP, iZ_xin, if_pos, ite_self, ↓reduceIte, Int.reduceAdd, Int.reduceSub, Int.reduceMul, Int.reduceNeg, Int.reduceLT, Int.reduceLE, if_neg, ↓xri_some k1]
theorem cOw.cg {k n : Nat} {R R' : Nat → Nat → Prop} (hn : n ≤ 9) (h : cOw M k n R) (hr : ∀ c, c < 512 → ∀ p, p < n → (R c p ↔ R' c p)) : cOw M k n R' := fun p hp w hw q hq => by
  rw [h p hp w hw q hq, ownR_b hw hn, ownR_b hw hn]
  unfold gB
  constructor
  · rintro ⟨a, b, c, c1, c2, m, m1, m2, m3, m4⟩
    exact ⟨a, b, c, c1, (hr c c1 p hp).mp c2, m, m1, m2, m3, (hr _ (rC_lt m3) q a).mp m4⟩
  · rintro ⟨a, b, c, c1, c2, m, m1, m2, m3, m4⟩
    exact ⟨a, b, c, c1, (hr c c1 p hp).mpr c2, m, m1, m2, m3, (hr _ (rC_lt m3) q a).mpr m4⟩
theorem cmb_cg {k n b : Nat} {R R' : Nat → Nat → Prop} (hn : n ≤ 9) (h : cWy M k n (cmb n b (ownR n R))) (hr : ∀ c, c < 512 → ∀ p, p < n → (R c p ↔ R' c p)) : cWy M k n (cmb n b (ownR n R')) := h.cg fun p hp w hw q hq => by
  rw [cmb_b hn hw, cmb_b hn hw]
  unfold gB
  constructor
  · rintro ⟨x, y, a, b, c, c1, c2, m, m1, m2, m3, m4⟩
    exact ⟨x, y, a, b, c, c1, (hr c c1 p hp).mp c2, m, m1, m2, m3, (hr _ (rC_lt m3) q a).mp m4⟩
  · rintro ⟨x, y, a, b, c, c1, c2, m, m1, m2, m3, m4⟩
    exact ⟨x, y, a, b, c, c1, (hr c c1 p hp).mpr c2, m, m1, m2, m3, (hr _ (rC_lt m3) q a).mpr m4⟩
theorem bd_rch {sw : Nat → Nat} (hB : cBd M 0 (aP A) (aC A)) (hall : ∀ c, c < 512 → (sB M 0 c = true ↔ aC A c ≠ -1)) (hsw : ∀ w, w < 6 → ∀ p, p < aP A → ((sw w).testBit p = true ↔ aSw A (6 * p + w) = true)) : ∀ c, c < 512 → ∀ p, p < aP A → (bdR M True sw c p ↔ rch A c p) := fun c hc p hp => by
  have body : ∀ c, c < 512 → (sB M (1 + p) c = true ↔ aC A c = p) := fun c hc => by
    have := hB.2.2 p hp c hc
    rw [show 10 * 0 + 1 + p = 1 + p by omega] at this
    exact this
  unfold bdR rch
  have st : ∀ w, w < 6 → (stB (sB M (1 + p)) w c = true ↔ ∃ c', c' < 512 ∧ aC A c' = p ∧ rIn c' w 1 ∧ rC c' w 1 = c) := fun w hw => by
    have := it_ray (f := sB M (1 + p)) hw (n := 1) hc
    rw [show itB (sB M (1 + p)) w 1 c = stB (sB M (1 + p)) w c from rfl] at this
    rw [this]
    exact ⟨fun ⟨x, x1, x2, x3⟩ => ⟨x, x1, (body x x1).mp x2, x3⟩, fun ⟨x, x1, x2, x3⟩ => ⟨x, x1, (body x x1).mpr x2, x3⟩⟩
  have emp : sB M 0 c = false ↔ aC A c = -1 := by
    have := hall c hc
    constructor
    · intro z
      refine Classical.byContradiction fun y => ?_
      rw [this.mpr y] at z; cases z
    · intro z
      cases e : sB M 0 c with
      | false => rfl
      | true => exact absurd z (this.mp e)
  rw [body c hc]
  constructor
  · rintro (z | ⟨_, w, w1, w2, w3, w4⟩)
    · exact .inl z
    · obtain ⟨x, x1, x2, x3⟩ := (st w w1).mp w3
      exact .inr ⟨emp.mp w4, x, w, x1, w1, x2, (hsw w w1 p hp).mp w2, x3⟩
  · rintro (z | ⟨z, x, w, x1, w1, x2, x3, x4⟩)
    · exact .inl z
    · exact .inr ⟨trivial, w, w1, (hsw w w1 p hp).mpr x3, (st w w1).mpr ⟨x, x1, x2, x4⟩, emp.mpr z⟩
theorem c_swollen (hA : aOk A) (h : cZ M A S) {p w : Int} (hp : r32 p) (hw : r32 w) (b : Bool) : cQ (nSwollen A p w b) S (fX11_swollen [.inr (.inr (11, 0)), .inl (iZ (p)), .inl (iZ (w)), .inl (bP ((b = true)))] M) (.inl (bP (vP A p ∧ vW w ∧ aSw A (6 * p.toNat + w.toNat) ≠ b))) := by
  have k1 := k5p h hp
  have k2 := x_isWay (M := M) hw
  have hP := h.P9
  unfold nSwollen
  by_cases e1 : vP A p
  · rw [bP_t e1] at k1
    by_cases e0 : vW w
    · rw [bP_t e0] at k2
      have e1' := e1
      have e0' := e0
      obtain ⟨p, rfl, p1⟩ := e1.n
      obtain ⟨w, rfl, w1⟩ := e0.n
      have enp : ((p : Int)).toNat = p := by omega
      have enw : ((w : Int)).toNat = w := by omega
      rw [enp, enw]
      obtain ⟨sw, hsw⟩ := h.1.2.2.1
      obtain ⟨q1, q2, q3⟩ := hsw w w1
      have kb := x_isSwollen (p := p) q1 q2 (by omega) w1
      rw [bP_c (q3 p (by omega))] at kb
      by_cases e2 : aSw A (6 * p + w) = b
      · rw [bP_f (c := vP A (p : Int) ∧ vW (w : Int) ∧ aSw A (6 * p + w) ≠ b) (fun z => z.2.2 e2), if_neg (fun z => z.2.2 e2)]
        refine ⟨M, ?_, h⟩
        rw [e2] at kb
        clear hsw q3
        show xfix gX11_swollen (0, [some (.inr (.inr (11, 0))), some (.inl (iZ (p))), some (.inl (iZ (w))), some (.inl (bP ((b = true))))], [], M) = _; rw [xfix_unf, sX11_swollen_0]
        simp (disch := omega) only [xk_none, xk_inl, xk_inr, xk_ite, xri_v, xrl_v, xrv_v, xb_z0, xb_z1, xb_b2, if_true, if_false, ite_true, ite_false, iZ_lit, iZ_m1, iZ_m99, iZ_m8, iZ_add, iZ_sub, iZ_mul, iZ_neg, nz0, nzi, iZ_lt, iZ_le, iZ_inj, b2_z, b2_o, ite_bPz, ite_bPo, xb_bP, iZ_xin, if_pos, ite_self, ↓reduceIte, Int.reduceAdd, Int.reduceSub, Int.reduceMul, Int.reduceNeg, Int.reduceLT, Int.reduceLE, if_neg, ↓xri_some k1, ↓xri_some k2, ↓xri_some kb]
      · rw [bP_t (c := vP A (p : Int) ∧ vW (w : Int) ∧ aSw A (6 * p + w) ≠ b) ⟨e1', e0', e2⟩, if_pos ⟨e1', e0', e2⟩]
        have hA' : aOk (wSw A (6 * p + w) b) := hA
        obtain ⟨sw', esw⟩ : ∃ sw' : Nat → Nat, sw' = fun v => if v = w then sw w ^^^ 2 ^ p else sw v := ⟨_, rfl⟩
        obtain ⟨M1, eM1⟩ : ∃ M1, M1 = xpI M (38, 0) w (iZ ((sw w ^^^ 2 ^ p : Nat) : Int)) := ⟨_, rfl⟩
        have s1 : xSm (fun r j => r = (38, 0)) M M1 := by rw [eM1]; exact xSm.rf.pI rfl
        have swb : ∀ v, v < 6 → ∀ q, q < 9 → ((sw' v).testBit q = true ↔ aSw (wSw A (6 * p + w) b) (6 * q + v) = true) := fun v hv q hq => by
          show _ ↔ (if 6 * q + v = 6 * p + w then b else aSw A (6 * q + v)) = true
          rw [esw]
          dsimp only
          by_cases ev : v = w
          · subst ev
            rw [if_pos rfl, xor_bit]
            by_cases eq : q = p
            · subst eq
              rw [if_pos rfl, if_pos rfl]
              have := q3 q hq
              cases x : (sw v).testBit q <;> cases y : aSw A (6 * q + v) <;> cases b <;> simp_all
            · rw [if_neg eq, if_neg (by omega)]; exact q3 q hq
          · rw [if_neg ev, if_neg (by omega)]; exact (hsw v hv).2.2 q hq
        have swr : ∀ v, v < 6 → xI M1 (38, 0) v = iZ (sw' v) ∧ sw' v < 512 := fun v hv => by
          rw [eM1, xI_pI, esw]
          dsimp only
          by_cases ev : v = w
          · subst ev; rw [if_pos ⟨rfl, rfl⟩, if_pos rfl]; exact ⟨rfl, xor_lt q2 (by omega)⟩
          · rw [if_neg (fun z => ev z.2), if_neg ev]; exact ⟨(hsw v hv).1, (hsw v hv).2.1⟩
        obtain ⟨bs, b1, b2⟩ := h.1.2.1
        have f2 : xI M1 (5, 0) 2 = iZ bs := by rw [(s1 (5, 0) 2 (by simp)).1]; exact b1
        have f0 : xI M1 (5, 0) 0 = iZ (aP A) := by rw [(s1 (5, 0) 0 (by simp)).1]; exact h.f0
        have w1' : zW1 M1 A := h.w1.sm s1 (by rintro r j z; subst z; rfl)
        obtain ⟨M2, c1, c2, c3, c4, c5⟩ := x_measure (k := 1) (v := True) (sw := sw') f0 h.P9 f2 b2.1 w1'.2.2 swr
        have sh1 : zSh M1 A S := h.1.1.sm s1 (by rintro r j z; subst z; rfl)
        have rr := bd_rch (A := wSw A (6 * p + w) b) (M := M1) (sw := sw') sh1.1.1 sh1.1.2.2.2.2 (fun v hv q hq => swb v hv q (by have : q < aP A := hq; omega))
        have o1 : cOw M2 1 (aP A) (rch (wSw A (6 * p + w) b)) := cOw.cg h.P9 c3 rr
        have y1 : cWy M2 1 (aP A) (sbrS (wSw A (6 * p + w) b)) := cmb_sbar (A := wSw A (6 * p + w) b) hA' b2 (cmb_cg h.P9 c4 rr)
        have all : xSm (fun r j => r = (38, 0) ∨ wyF 1 r) M M2 := (s1.wk fun r j z => .inl z).tr (c2.sm.wk fun r j z => .inr z)
        have rows : ∀ r j, (r = (38, 0) ∨ wyF 1 r) → shZ r j = false ∧ bnZ r j = false ∧ tpZ r j = false ∧ prZ r j = false ∧ w0Z r j = false ∧ ptZ r j = false ∧ rcZ r j = false ∧ hnZ r j = false ∧ orZ r j = false ∧ ntZ r j = false ∧ tmZ r j = false := by
          rintro r j (z | z | z | ⟨z, z2, z3⟩)
          · subst z; exact ⟨rfl, rfl, rfl, rfl, rfl, rfl, rfl, rfl, rfl, rfl, rfl⟩
          · subst z; exact ⟨rfl, rfl, rfl, rfl, rfl, rfl, rfl, rfl, rfl, rfl, rfl⟩
          · subst z; exact ⟨rfl, rfl, rfl, rfl, rfl, rfl, rfl, rfl, rfl, rfl, rfl⟩
          · obtain ⟨r1, r2⟩ := r
            dsimp only at z z2 z3
            subst z
            exact ⟨by simp [shZ]; omega, rfl, rfl, rfl, rfl, rfl, rfl, rfl, rfl, rfl, rfl⟩
        have zh : zHn M2 A := h.2.1.sm all fun r j p => (rows r j p).2.2.2.2.2.2.2.1
        have zo : zOr M2 A := h.2.2.1.sm all fun r j p => (rows r j p).2.2.2.2.2.2.2.2.1
        have zn : zNt M2 A := h.2.2.2.1.sm all fun r j p => (rows r j p).2.2.2.2.2.2.2.2.2.1
        have zt : zTm M2 A := h.2.2.2.2.sm all fun r j p => (rows r j p).2.2.2.2.2.2.2.2.2.2
        have z0 : zW0 M2 A := h.w0.sm all fun r j p => (rows r j p).2.2.2.2.1
        refine ⟨M2, ?_, ⟨h.1.1.sm all fun r j p => (rows r j p).1, h.1.2.1.sm all fun r j p => (rows r j p).2.1, ⟨sw', fun v hv => ?_⟩, h.tp.sm all fun r j p => (rows r j p).2.2.1, h.Pr.sm all fun r j p => (rows r j p).2.2.2.1, ⟨z0, o1, y1, c5⟩, h.pt.sm all fun r j p => (rows r j p).2.2.2.2.2.1, h.rc.sm all fun r j p => (rows r j p).2.2.2.2.2.2.1⟩, zHn.eq (A := A) rfl rfl zh, zo.eq (sEq_sw _ _ _) rfl, zn.eq (sEq_sw _ _ _), zt.eq (sEq_sw _ _ _)⟩
        · have ne : ¬ bP (aSw A (6 * p + w) = true) = bP (b = true) := fun z => e2 (bP_ne.mp z)
          have ex : iZ (sw w : Int) ^^^ iZ ((2 ^ p : Nat) : Int) = iZ ((sw w ^^^ 2 ^ p : Nat) : Int) := iZ_xor _ _
          rw [eM1, bP_t trivial] at c1
          clear rows all zh zo zn zt z0 y1 o1 rr sh1 c3 c4 w1' swr swb hsw hA' q3 b2
          show xfix gX11_swollen (0, [some (.inr (.inr (11, 0))), some (.inl (iZ (p))), some (.inl (iZ (w))), some (.inl (bP ((b = true))))], [], M) = _; rw [xfix_unf, sX11_swollen_0]
          simp (disch := omega) only [xk_none, xk_inl, xk_inr, xk_ite, xri_v, xrl_v, xrv_v, xb_z0, xb_z1, xb_b2, if_true, if_false, ite_true, ite_false, iZ_lit, iZ_m1, iZ_m99, iZ_m8, iZ_add, iZ_sub, iZ_mul, iZ_neg, nz0, nzi, iZ_lt, iZ_le, iZ_inj, b2_z, b2_o, ite_bPz, ite_bPo, xb_bP, iZ_xin, if_pos, ite_self, ↓reduceIte, Int.reduceAdd, Int.reduceSub, Int.reduceMul, Int.reduceNeg, Int.reduceLT, Int.reduceLE, if_neg, ↓xri_some k1, ↓xri_some k2, ↓xri_some kb, if_neg ne, iZ_clampN, q1, iZ_one, ex, ↓xrv_some c1]
        · rw [(c2 (38, 0) (by simp)).1]
          exact ⟨(swr v hv).1, (swr v hv).2, fun q hq => swb v hv q hq⟩
    · rw [bP_f e0] at k2
      rw [bP_f (c := vP A p ∧ vW w ∧ aSw A (6 * p.toNat + w.toNat) ≠ b) (fun z => e0 z.2.1), if_neg (fun z => e0 z.2.1)]
      refine ⟨M, ?_, h⟩
      show xfix gX11_swollen (0, [some (.inr (.inr (11, 0))), some (.inl (iZ (p))), some (.inl (iZ (w))), some (.inl (bP ((b = true))))], [], M) = _; rw [xfix_unf, sX11_swollen_0]
      simp (disch := omega) only [xk_none, xk_inl, xk_inr, xk_ite, xri_v, xrl_v, xrv_v, xb_z0, xb_z1, xb_b2, if_true, if_false, ite_true, ite_false, iZ_lit, iZ_m1, iZ_m99, iZ_m8, iZ_add, iZ_sub, iZ_mul, iZ_neg, nz0, nzi, iZ_lt, iZ_le, iZ_inj, b2_z, b2_o, ite_bPz, ite_bPo, xb_bP, iZ_xin, if_pos, ite_self, ↓reduceIte, Int.reduceAdd, Int.reduceSub, Int.reduceMul, Int.reduceNeg, Int.reduceLT, Int.reduceLE, if_neg, ↓xri_some k1, ↓xri_some k2]
  · rw [bP_f e1] at k1
    rw [bP_f (c := vP A p ∧ vW w ∧ aSw A (6 * p.toNat + w.toNat) ≠ b) (fun z => e1 z.1), if_neg (fun z => e1 z.1)]
    refine ⟨M, ?_, h⟩
    show xfix gX11_swollen (0, [some (.inr (.inr (11, 0))), some (.inl (iZ (p))), some (.inl (iZ (w))), some (.inl (bP ((b = true))))], [], M) = _; rw [xfix_unf, sX11_swollen_0]
    simp (disch := omega) only [xk_none, xk_inl, xk_inr, xk_ite, xri_v, xrl_v, xrv_v, xb_z0, xb_z1, xb_b2, if_true, if_false, ite_true, ite_false, iZ_lit, iZ_m1, iZ_m99, iZ_m8, iZ_add, iZ_sub, iZ_mul, iZ_neg, nz0, nzi, iZ_lt, iZ_le, iZ_inj, b2_z, b2_o, ite_bPz, ite_bPo, xb_bP, iZ_xin, if_pos, ite_self, ↓reduceIte, Int.reduceAdd, Int.reduceSub, Int.reduceMul, Int.reduceNeg, Int.reduceLT, Int.reduceLE, if_neg, ↓xri_some k1]
end
