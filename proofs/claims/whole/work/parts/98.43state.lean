/-! the class: all that it holds -/
def zSh (M : xM) (A : dA) (S : dS) : Prop := cSh M 0 A (fun q => wv (sNc S q) (sNl S q)) ∧ cJt M A
def zBn (M : xM) (A : dA) : Prop := ∃ b : Nat, xI M (5, 0) 2 = iZ b ∧ cBn A b
def zSw (M : xM) (A : dA) : Prop := ∃ sw : Nat → Nat, ∀ w, w < 6 → xI M (38, 0) w = iZ (sw w) ∧ sw w < 512 ∧ ∀ p, p < 9 → ((sw w).testBit p = true ↔ aSw A (6 * p + w) = true)
def zTp (M : xM) (S : dS) : Prop := cT M (sN S) (sT S) ∧ xI M (8, 0) 2 = iZ (sFk S) ∧ xI M (8, 0) 3 = iZ (sFp S)
def zPr (M : xM) (A : dA) : Prop := ∀ w, w < 7 → xI M (53, 0) w = iZ (aPr A w)
def zWy (M : xM) (A : dA) : Prop := (cOw M 0 (aP A) (fun c p => aC A c = p) ∧ cWy M 0 (aP A) (barS A) ∧ xL M (50, 0) 0 = 0) ∧ (cOw M 1 (aP A) (rch A) ∧ cWy M 1 (aP A) (sbrS A) ∧ xL M (50, 1) 0 = 0)
def zPt (M : xM) (A : dA) (S : dS) : Prop := (∀ p, p < 9 → xI M (35, 0) p = iZ (gx A (sH S) p)) ∧ xI M (3, 0) 1 = iZ (sC S)
def zRc (M : xM) (S : dS) : Prop := ((sJ S).1 = -1 ∧ xI M (4, 0) 6 = iZ (-1)) ∨ (((0 ≤ (sJ S).1 ∧ (sJ S).1 ≤ 16) ∧ 0 ≤ (sJ S).2.1 ∧ (sJ S).2.1 ≤ 16) ∧ xI M (4, 0) 6 = iZ (sJ S).2.1 ∧ xI M (4, 0) 7 = iZ (sJ S).1 ∧ xI M (4, 0) 8 = iZ (sJ S).2.2.1 ∧ xI M (4, 0) 9 = iZ (sJ S).2.2.2)
def zHn (M : xM) (A : dA) : Prop := xI M (0, 0) 6 = iZ 0 ∨ (xI M (0, 0) 6 = iZ 1 ∧ cHn M A (2 ^ aP A))
def zOr (M : xM) (A : dA) : Prop := xI M (2, 0) 4 = iZ 0 ∨ (xI M (2, 0) 4 = iZ 1 ∧ cOr M 0 0 on1 (ordA A) (leaA A) (2 ^ aP A))
def zNt (M : xM) (A : dA) : Prop := xI M (1, 0) 6 = iZ 0 ∨ (xI M (1, 0) 6 = iZ 1 ∧ cNt M A)
def zTm (M : xM) (A : dA) : Prop := xI M (1, 0) 7 = iZ 0 ∨ (xI M (1, 0) 7 = iZ 1 ∧ cTm M A (2 ^ aP A))
def cBs (M : xM) (A : dA) (S : dS) : Prop := zSh M A S ∧ zBn M A ∧ zSw M A ∧ zTp M S ∧ zPr M A ∧ zWy M A ∧ zPt M A S ∧ zRc M S
def cZ (M : xM) (A : dA) (S : dS) : Prop := cBs M A S ∧ zHn M A ∧ zOr M A ∧ zNt M A ∧ zTm M A
/-- the cells on which each of it depends -/
def bsZ (r : xR) (j : Nat) : Bool := if r.1 = 44 then decide (r.2 < 10) else if r.1 = 5 ∨ r.1 = 40 ∨ r.1 = 41 ∨ r.1 = 42 ∨ r.1 = 43 ∨ r.1 = 38 ∨ r.1 = 47 ∨ r.1 = 53 ∨ r.1 = 35 ∨ r.1 = 3 then decide (r.2 = 0) else if r.1 = 51 ∨ r.1 = 50 then true else if r.1 = 8 then decide (j = 1 ∨ j = 2 ∨ j = 3) else if r.1 = 4 then decide (6 ≤ j) else false
def hnZ (r : xR) (j : Nat) : Bool := decide (r = (22, 0) ∨ r = (23, 0) ∨ (r = (0, 0) ∧ j = 6))
def orZ (r : xR) (j : Nat) : Bool := decide (r = (30, 0) ∨ r = (31, 0) ∨ r = (32, 0) ∨ r = (33, 0) ∨ (r = (2, 0) ∧ j = 4))
def ntZ (r : xR) (j : Nat) : Bool := decide (r = (24, 0) ∨ r = (25, 0) ∨ r = (28, 0) ∨ (r = (1, 0) ∧ j = 6))
def tmZ (r : xR) (j : Nat) : Bool := decide (r = (26, 0) ∨ r = (27, 0) ∨ (r = (1, 0) ∧ j = 7))
theorem nP {P : xR → Nat → Prop} {z : xR → Nat → Bool} (h : ∀ r j, P r j → z r j = false) {r : xR} {j : Nat} (hz : z r j = true) : ¬ P r j := fun q => by rw [h r j q] at hz; cases hz
section
variable {P : xR → Nat → Prop} {M M' : xM} {A : dA} {S : dS}
theorem sB_sm (hs : xSm P M M') {k : Nat} (hk : ∀ j, ¬ P (44, k) j) (c : Nat) : sB M' k c = sB M k c := by unfold sB; rw [(hs (44, k) _ (hk _)).2]
theorem cBd.sm {p : Nat} {C : Nat → Int} (h : cBd M 0 p C) (hs : xSm P M M') (hz : ∀ r j, P r j → bsZ r j = false) : cBd M' 0 p C := by
  obtain ⟨a, b, c⟩ := h
  refine ⟨by rw [(hs (5, 0) 0 (nP hz rfl)).1]; exact a, b, fun q hq i hi => ?_⟩
  rw [sB_sm hs (fun j => nP hz (by simp [bsZ]; omega))]
  exact c q hq i hi
theorem cJt.zm (h : cJt M A) (hs : xSm P M M') (hz : ∀ r j, P r j → bsZ r j = false) : cJt M' A := by
  obtain ⟨a, b⟩ := h
  refine ⟨by rw [(hs (5, 0) 1 (nP hz rfl)).1]; exact a, fun j hj => ?_⟩
  rw [(hs (41, 0) j (nP hz rfl)).1, (hs (42, 0) j (nP hz rfl)).1]
  exact b j hj
theorem cOw.sm {k n : Nat} {R : Nat → Nat → Prop} (h : cOw M k n R) (hs : xSm P M M') (hz : ∀ j, ¬ P (51, k) j) : cOw M' k n R := fun p hp w hw q hq => by
  rw [(hs (51, k) p (hz p)).2]; exact h p hp w hw q hq
theorem cBs.sm (h : cBs M A S) (hs : xSm P M M') (hz : ∀ r j, P r j → bsZ r j = false) : cBs M' A S := by
  obtain ⟨⟨⟨s1, s2, s3, s4, s5⟩, sj⟩, ⟨b, b1, b2⟩, ⟨sw, hsw⟩, ⟨⟨t1, t2, t3⟩, t4, t5⟩, hp, ⟨⟨w1, w2, w3⟩, w4, w5, w6⟩, ⟨p1, p2⟩, hr⟩ := h
  refine ⟨⟨⟨s1.sm hs hz, ?_, fun q hq => ?_, fun j hj => ?_, fun c hc => ?_⟩, sj.zm hs hz⟩, ⟨b, ?_, b2⟩, ⟨sw, fun w hw => ?_⟩, ⟨⟨?_, t2, fun k hk => ?_⟩, ?_, ?_⟩, fun w hw => ?_, ⟨⟨w1.sm hs (fun j => nP hz rfl), w2.sm hs (fun j => nP hz rfl), ?_⟩, w4.sm hs (fun j => nP hz rfl), w5.sm hs (fun j => nP hz rfl), ?_⟩, ⟨fun p hp' => ?_, ?_⟩, ?_⟩
  · rw [(hs (5, 0) 1 (nP hz rfl)).1]; exact s2
  · rw [(hs (40, 0) q (nP hz rfl)).1]; exact s3 q hq
  · rw [(hs (41, 0) j (nP hz rfl)).1, (hs (43, 0) j (nP hz rfl)).1]; exact s4 j hj
  · rw [sB_sm hs (fun j => nP hz rfl)]; exact s5 c hc
  · rw [(hs (5, 0) 2 (nP hz rfl)).1]; exact b1
  · rw [(hs (38, 0) w (nP hz rfl)).1]; exact hsw w hw
  · rw [(hs (8, 0) 1 (nP hz rfl)).1]; exact t1
  · rw [(hs (47, 0) k (nP hz rfl)).1]; exact t3 k hk
  · rw [(hs (8, 0) 2 (nP hz rfl)).1]; exact t4
  · rw [(hs (8, 0) 3 (nP hz rfl)).1]; exact t5
  · rw [(hs (53, 0) w (nP hz rfl)).1]; exact hp w hw
  · rw [(hs (50, 0) 0 (nP hz rfl)).2]; exact w3
  · rw [(hs (50, 1) 0 (nP hz rfl)).2]; exact w6
  · rw [(hs (35, 0) p (nP hz rfl)).1]; exact p1 p hp'
  · rw [(hs (3, 0) 1 (nP hz rfl)).1]; exact p2
  · unfold zRc
    rw [(hs (4, 0) 6 (nP hz rfl)).1, (hs (4, 0) 7 (nP hz rfl)).1, (hs (4, 0) 8 (nP hz rfl)).1, (hs (4, 0) 9 (nP hz rfl)).1]; exact hr
theorem zHn.sm (h : zHn M A) (hs : xSm P M M') (hz : ∀ r j, P r j → hnZ r j = false) : zHn M' A := by
  unfold zHn at h ⊢
  rw [(hs (0, 0) 6 (nP hz rfl)).1]
  refine h.imp id fun z => ⟨z.1, fun k k1 k2 => ?_⟩
  rw [(hs (22, 0) k (nP hz rfl)).1, (hs (23, 0) k (nP hz rfl)).1]
  exact z.2 k k1 k2
theorem zOr.sm (h : zOr M A) (hs : xSm P M M') (hz : ∀ r j, P r j → orZ r j = false) : zOr M' A := by
  unfold zOr at h ⊢
  rw [(hs (2, 0) 4 (nP hz rfl)).1]
  refine h.imp id fun z => ⟨z.1, fun k k1 k2 k3 => ?_⟩
  rw [(hs (30, 0) k (nP hz rfl)).2, (hs (31, 0) k (nP hz rfl)).1, (hs (32, 0) k (nP hz rfl)).1, (hs (33, 0) k (nP hz rfl)).1]
  exact z.2 k k1 k2 k3
theorem zNt.sm (h : zNt M A) (hs : xSm P M M') (hz : ∀ r j, P r j → ntZ r j = false) : zNt M' A := by
  unfold zNt at h ⊢
  rw [(hs (1, 0) 6 (nP hz rfl)).1]
  refine h.imp id fun z => ⟨z.1, fun k k1 k2 => ?_, fun k hk => ?_⟩
  · rw [(hs (24, 0) k (nP hz rfl)).1, (hs (25, 0) k (nP hz rfl)).1]; exact z.2.1 k k1 k2
  · rw [(hs (28, 0) k (nP hz rfl)).1]; exact z.2.2 k hk
theorem zTm.sm (h : zTm M A) (hs : xSm P M M') (hz : ∀ r j, P r j → tmZ r j = false) : zTm M' A := by
  unfold zTm at h ⊢
  rw [(hs (1, 0) 7 (nP hz rfl)).1]
  refine h.imp id fun z => ⟨z.1, fun k k1 k2 => ?_⟩
  rw [(hs (26, 0) k (nP hz rfl)).1, (hs (27, 0) k (nP hz rfl)).1]
  exact z.2 k k1 k2
def alZ (r : xR) (j : Nat) : Bool := bsZ r j || hnZ r j || orZ r j || ntZ r j || tmZ r j
theorem cZ.sm (h : cZ M A S) (hs : xSm P M M') (hz : ∀ r j, P r j → alZ r j = false) : cZ M' A S := by
  obtain ⟨a, b, c, d, e⟩ := h
  have q : ∀ r j, P r j → (((bsZ r j = false ∧ hnZ r j = false) ∧ orZ r j = false) ∧ ntZ r j = false) ∧ tmZ r j = false := fun r j p => by
    have := hz r j p
    unfold alZ at this
    simpa [Bool.or_eq_false_iff] using this
  exact ⟨a.sm hs fun r j p => (q r j p).1.1.1.1, b.sm hs fun r j p => (q r j p).1.1.1.2, c.sm hs fun r j p => (q r j p).1.1.2, d.sm hs fun r j p => (q r j p).1.2, e.sm hs fun r j p => (q r j p).2⟩
end
theorem cZ.same {Q : xR → Prop} {M M' : xM} {A : dA} {S : dS} (h : cZ M A S) (hs : xSame Q M M') (hz : ∀ r, Q r → ∀ j, alZ r j = false) : cZ M' A S := h.sm hs.sm fun r j p => hz r p j
theorem cZ.B {M : xM} {A : dA} {S : dS} (h : cZ M A S) : cBd M 0 (aP A) (aC A) := h.1.1.1.1
theorem cZ.f0 {M : xM} {A : dA} {S : dS} (h : cZ M A S) : xI M (5, 0) 0 = iZ (aP A) := h.B.1
theorem cZ.P9 {M : xM} {A : dA} {S : dS} (h : cZ M A S) : aP A ≤ 9 := h.B.2.1
theorem cZ.J {M : xM} {A : dA} {S : dS} (h : cZ M A S) : cJt M A := h.1.1.2
theorem cZ.W {M : xM} {A : dA} {S : dS} (h : cZ M A S) : cWy M 0 (aP A) (barS A) := h.1.2.2.2.2.2.1.1.2.1
theorem cZ.W1 {M : xM} {A : dA} {S : dS} (h : cZ M A S) : cWy M 1 (aP A) (sbrS A) := h.1.2.2.2.2.2.1.2.2.1
theorem cZ.Pr {M : xM} {A : dA} {S : dS} (h : cZ M A S) : zPr M A := h.1.2.2.2.2.1
theorem bar5 (A : dA) (k : Nat) : barS A k < 512 := msk_lt _ 9
theorem sbr5 (A : dA) (k : Nat) : sbrS A k < 512 := msk_lt _ 9
/-- a question is answered, and all is held still -/
def cQ (A : dA) (S : dS) (o : Option (Option xV × xM)) (r : xV) : Prop := ∃ M', o = some (some r, M') ∧ cZ M' A S
theorem x_cHr {M : xM} {A : dA} {S : dS} (hA : aOk A) (hF : aFl A) (h : cZ M A S) : ∃ M', fX0_refresh [.inr (.inr (0, 0))] M = some (none, M') ∧ cZ M' A S ∧ cHn M' A (2 ^ aP A) := by
  obtain ⟨M', a1, a2, a3, a4⟩ := x_hrefresh hA hF h.B h.2.1
  have rows : ∀ r j, hdF r j → bsZ r j = false ∧ orZ r j = false ∧ ntZ r j = false ∧ tmZ r j = false := by
    rintro r j (e | e | e | e | e | ⟨e, e2⟩) <;> subst e <;> exact ⟨rfl, rfl, rfl, rfl⟩
  exact ⟨M', a1, ⟨h.1.sm a2 fun r j p => (rows r j p).1, .inr ⟨a3, a4⟩, h.2.2.1.sm a2 fun r j p => (rows r j p).2.1, h.2.2.2.1.sm a2 fun r j p => (rows r j p).2.2.1, h.2.2.2.2.sm a2 fun r j p => (rows r j p).2.2.2⟩, a4⟩
theorem x_freshPrices {M : xM} {A : dA} {S : dS} (hA : aOk A) (hF : aFl A) (h : cZ M A S) : ∃ M', fX11_freshPrices [.inr (.inr (11, 0))] M = some (none, M') ∧ cZ M' A S ∧ ∀ heap, 1 ≤ heap → heap < 2 ^ aP A → iZ (aPr A 6) * xI M' (23, 0) heap = iZ ((aPr A 6 : Int) * (hnd A heap : Int)) := by
  have f6 := h.Pr 6 (by omega)
  have p99 := hA.2.2.2.2 6 (by omega)
  by_cases e : aPr A 6 = 0
  · refine ⟨M, ?_, h, fun heap h1 h2 => ?_⟩
    · rw [e] at f6
      have c6 : Int32.toNatClampNeg (iZ 6) = 6 := iZ_clampN (n := 6) (by omega)
      have z0 : ((0 : Nat) : Int) = 0 := rfl
      rw [z0] at f6
      show xfix gX11_freshPrices (0, [some (.inr (.inr (11, 0)))], [], M) = _; rw [xfix_unf, sX11_freshPrices_0]
      simp (disch := omega) only [xk_none, xk_inl, xk_inr, xk_ite, xri_v, xrl_v, xrv_v, xb_z0, xb_z1, xb_b2, if_true, if_false, ite_true, ite_false, iZ_lit, iZ_m1, iZ_m99, iZ_m8, iZ_add, iZ_sub, iZ_mul, iZ_neg, nz0, nzi, iZ_lt, iZ_le, iZ_inj, b2_z, b2_o, ite_bPz, ite_bPo, xb_bP, iZ_xin, if_pos, ite_self, ↓reduceIte, Int.reduceAdd, Int.reduceSub, Int.reduceMul, Int.reduceNeg, Int.reduceLT, Int.reduceLE, if_neg, c6, f6]
    · rw [e]
      have z0 : ((0 : Nat) : Int) = 0 := rfl
      have z1 : iZ 0 = (0 : Int32) := rfl
      rw [z0, Int.zero_mul, z1, Int32.zero_mul]
  · obtain ⟨M', a1, a2, a3⟩ := x_cHr hA hF h
    refine ⟨M', ?_, a2, fun heap h1 h2 => ?_⟩
    · have c6 : Int32.toNatClampNeg (iZ 6) = 6 := iZ_clampN (n := 6) (by omega)
      generalize aPr A 6 = p6 at *
      show xfix gX11_freshPrices (0, [some (.inr (.inr (11, 0)))], [], M) = _; rw [xfix_unf, sX11_freshPrices_0]
      simp (disch := omega) only [xk_none, xk_inl, xk_inr, xk_ite, xri_v, xrl_v, xrv_v, xb_z0, xb_z1, xb_b2, if_true, if_false, ite_true, ite_false, iZ_lit, iZ_m1, iZ_m99, iZ_m8, iZ_add, iZ_sub, iZ_mul, iZ_neg, nz0, nzi, iZ_lt, iZ_le, iZ_inj, b2_z, b2_o, ite_bPz, ite_bPo, xb_bP, iZ_xin, if_pos, ite_self, ↓reduceIte, Int.reduceAdd, Int.reduceSub, Int.reduceMul, Int.reduceNeg, Int.reduceLT, Int.reduceLE, if_neg, c6, f6, ↓xrv_some a1]
    · rw [(a3 heap h1 h2).2, iZ_mul]
theorem x_freshOrders {M : xM} {A : dA} {S : dS} (hA : aOk A) (hF : aFl A) (h : cZ M A S) : ∃ M', fX11_freshOrders [.inr (.inr (11, 0))] M = some (none, M') ∧ cZ M' A S ∧ cOr M' 0 0 on1 (ordA A) (leaA A) (2 ^ aP A) := by
  rcases h.2.2.1 with e | ⟨e, e2⟩
  · obtain ⟨M1, a1, a2, a3⟩ := x_freshPrices hA hF h
    obtain ⟨M2, b1, b2, b3, b4⟩ := x_fill (k := 0) hA a2.f0 (oHy_1 hA) a2.J a2.W (bar5 A) a2.Pr a3
    have rows : ∀ r j, (orF 0 r ∨ (r = (2, 0) ∧ j = 4)) → bsZ r j = false ∧ hnZ r j = false ∧ ntZ r j = false ∧ tmZ r j = false := by
      rintro r j ((e | e | e | e) | ⟨e, e2⟩) <;> subst e <;> exact ⟨rfl, rfl, rfl, rfl⟩
    refine ⟨M2, ?_, ⟨a2.1.sm b2 fun r j p => (rows r j p).1, a2.2.1.sm b2 fun r j p => (rows r j p).2.1, .inr ⟨b3, b4⟩, a2.2.2.2.1.sm b2 fun r j p => (rows r j p).2.2.1, a2.2.2.2.2.sm b2 fun r j p => (rows r j p).2.2.2⟩, b4⟩
    have zz : ((0 : Nat) : Int) = 0 := rfl
    rw [zz] at b1
    clear a3 b4
    show xfix gX11_freshOrders (0, [some (.inr (.inr (11, 0)))], [], M) = _; rw [xfix_unf, sX11_freshOrders_0]
    simp (disch := omega) only [xk_none, xk_inl, xk_inr, xk_ite, xri_v, xrl_v, xrv_v, xb_z0, xb_z1, xb_b2, if_true, if_false, ite_true, ite_false, iZ_lit, iZ_m1, iZ_m99, iZ_m8, iZ_add, iZ_sub, iZ_mul, iZ_neg, nz0, nzi, iZ_lt, iZ_le, iZ_inj, b2_z, b2_o, ite_bPz, ite_bPo, xb_bP, iZ_xin, if_pos, ite_self, ↓reduceIte, Int.reduceAdd, Int.reduceSub, Int.reduceMul, Int.reduceNeg, Int.reduceLT, Int.reduceLE, if_neg, e, ↓xrv_some a1, ↓xrv_some b1]
  · refine ⟨M, ?_, h, e2⟩
    show xfix gX11_freshOrders (0, [some (.inr (.inr (11, 0)))], [], M) = _; rw [xfix_unf, sX11_freshOrders_0]
    simp (disch := omega) only [xk_none, xk_inl, xk_inr, xk_ite, xri_v, xrl_v, xrv_v, xb_z0, xb_z1, xb_b2, if_true, if_false, ite_true, ite_false, iZ_lit, iZ_m1, iZ_m99, iZ_m8, iZ_add, iZ_sub, iZ_mul, iZ_neg, nz0, nzi, iZ_lt, iZ_le, iZ_inj, b2_z, b2_o, ite_bPz, ite_bPo, xb_bP, iZ_xin, if_pos, ite_self, ↓reduceIte, Int.reduceAdd, Int.reduceSub, Int.reduceMul, Int.reduceNeg, Int.reduceLT, Int.reduceLE, if_neg, e]
theorem x_cNr {M : xM} {A : dA} {S : dS} (hA : aOk A) (h : cZ M A S) (hT : cOr M 0 0 on1 (ordA A) (leaA A) (2 ^ aP A)) : ∃ M', fX1_refresh [.inr (.inr (1, 0)), .inr (.inr (2, 0))] M = some (none, M') ∧ cZ M' A S ∧ cNt M' A := by
  obtain ⟨M', a1, a2, a3, a4⟩ := x_nrefresh hA h.f0 h.J h.W (bar5 A) hT h.2.2.2.1
  have rows : ∀ r j, ntF r j → bsZ r j = false ∧ hnZ r j = false ∧ orZ r j = false ∧ tmZ r j = false := by
    rintro r j (e | e | e | ⟨e, e2⟩)
    · subst e; exact ⟨rfl, rfl, rfl, rfl⟩
    · subst e; exact ⟨rfl, rfl, rfl, rfl⟩
    · subst e; exact ⟨rfl, rfl, rfl, rfl⟩
    · subst e; subst e2; exact ⟨rfl, rfl, rfl, rfl⟩
  exact ⟨M', a1, ⟨h.1.sm a2 fun r j p => (rows r j p).1, h.2.1.sm a2 fun r j p => (rows r j p).2.1, h.2.2.1.sm a2 fun r j p => (rows r j p).2.2.1, .inr ⟨a3, a4⟩, h.2.2.2.2.sm a2 fun r j p => (rows r j p).2.2.2⟩, a4⟩
theorem x_cTr {M : xM} {A : dA} {S : dS} (hA : aOk A) (hF : aFl A) (h : cZ M A S) : ∃ M', fX1_freshTimes [.inr (.inr (1, 0))] M = some (none, M') ∧ cZ M' A S ∧ cTm M' A (2 ^ aP A) := by
  obtain ⟨M', a1, a2, a3, a4⟩ := x_freshTimes hA hF h.B h.J h.W (bar5 A) h.2.2.2.2
  have rows : ∀ r j, ftF r j → bsZ r j = false ∧ hnZ r j = false ∧ orZ r j = false ∧ ntZ r j = false := by
    rintro r j (e | e | e | e | e | ⟨e, e2⟩)
    · subst e; exact ⟨rfl, rfl, rfl, rfl⟩
    · subst e; exact ⟨rfl, rfl, rfl, rfl⟩
    · subst e; exact ⟨rfl, rfl, rfl, rfl⟩
    · subst e; exact ⟨rfl, rfl, rfl, rfl⟩
    · subst e; exact ⟨rfl, rfl, rfl, rfl⟩
    · subst e; subst e2; exact ⟨rfl, rfl, rfl, rfl⟩
  exact ⟨M', a1, ⟨h.1.sm a2 fun r j p => (rows r j p).1, h.2.1.sm a2 fun r j p => (rows r j p).2.1, h.2.2.1.sm a2 fun r j p => (rows r j p).2.2.1, h.2.2.2.1.sm a2 fun r j p => (rows r j p).2.2.2, .inr ⟨a3, a4⟩⟩, a4⟩
