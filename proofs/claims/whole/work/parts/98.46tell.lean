/-! the class: what is told to it -/
section
variable {P : xR → Nat → Prop} {M M' : xM} {A : dA} {S : dS}
def shZ (r : xR) (j : Nat) : Bool := if r.1 = 44 then decide (r.2 < 10) else if r.1 = 5 then decide (r.2 = 0 ∧ j ≤ 1) else if r.1 = 40 ∨ r.1 = 41 ∨ r.1 = 42 ∨ r.1 = 43 then decide (r.2 = 0) else false
theorem zSh.sm (h : zSh M A S) (hs : xSm P M M') (hz : ∀ r j, P r j → shZ r j = false) : zSh M' A S := by
  obtain ⟨⟨⟨a, b, c⟩, s2, s3, s4, s5⟩, j1, j2⟩ := h
  refine ⟨⟨⟨?_, b, fun q hq i hi => ?_⟩, ?_, fun q hq => ?_, fun j hj => ?_, fun c hc => ?_⟩, ?_, fun j hj => ?_⟩
  · rw [(hs (5, 0) 0 (nP hz rfl)).1]; exact a
  · rw [sB_sm hs (fun j => nP hz (by simp [shZ]; omega))]; exact c q hq i hi
  · rw [(hs (5, 0) 1 (nP hz rfl)).1]; exact s2
  · rw [(hs (40, 0) q (nP hz rfl)).1]; exact s3 q hq
  · rw [(hs (41, 0) j (nP hz rfl)).1, (hs (43, 0) j (nP hz rfl)).1]; exact s4 j hj
  · rw [sB_sm hs (fun j => nP hz rfl)]; exact s5 c hc
  · rw [(hs (5, 0) 1 (nP hz rfl)).1]; exact j1
  · rw [(hs (41, 0) j (nP hz rfl)).1, (hs (42, 0) j (nP hz rfl)).1]; exact j2 j hj
def bnZ (r : xR) (j : Nat) : Bool := decide (r = (5, 0) ∧ j = 2)
theorem zBn.sm (h : zBn M A) (hs : xSm P M M') (hz : ∀ r j, P r j → bnZ r j = false) : zBn M' A := by
  obtain ⟨b, b1, b2⟩ := h
  exact ⟨b, by rw [(hs (5, 0) 2 (nP hz rfl)).1]; exact b1, b2⟩
def swZ (r : xR) (_ : Nat) : Bool := decide (r = (38, 0))
theorem zSw.sm (h : zSw M A) (hs : xSm P M M') (hz : ∀ r j, P r j → swZ r j = false) : zSw M' A := by
  obtain ⟨sw, hsw⟩ := h
  exact ⟨sw, fun w hw => by rw [(hs (38, 0) w (nP hz rfl)).1]; exact hsw w hw⟩
def tpZ (r : xR) (j : Nat) : Bool := decide (r = (47, 0) ∨ (r = (8, 0) ∧ (j = 1 ∨ j = 2 ∨ j = 3)))
theorem zTp.sm (h : zTp M S) (hs : xSm P M M') (hz : ∀ r j, P r j → tpZ r j = false) : zTp M' S := by
  obtain ⟨⟨t1, t2, t3⟩, t4, t5⟩ := h
  refine ⟨⟨?_, t2, fun k hk => ?_⟩, ?_, ?_⟩
  · rw [(hs (8, 0) 1 (nP hz rfl)).1]; exact t1
  · rw [(hs (47, 0) k (nP hz rfl)).1]; exact t3 k hk
  · rw [(hs (8, 0) 2 (nP hz rfl)).1]; exact t4
  · rw [(hs (8, 0) 3 (nP hz rfl)).1]; exact t5
def prZ (r : xR) (_ : Nat) : Bool := decide (r = (53, 0))
theorem zPr.sm (h : zPr M A) (hs : xSm P M M') (hz : ∀ r j, P r j → prZ r j = false) : zPr M' A := fun w hw => by rw [(hs (53, 0) w (nP hz rfl)).1]; exact h w hw
def zW0 (M : xM) (A : dA) : Prop := cOw M 0 (aP A) (fun c p => aC A c = p) ∧ cWy M 0 (aP A) (barS A) ∧ xL M (50, 0) 0 = 0
def zW1 (M : xM) (A : dA) : Prop := cOw M 1 (aP A) (rch A) ∧ cWy M 1 (aP A) (sbrS A) ∧ xL M (50, 1) 0 = 0
def w0Z (r : xR) (_ : Nat) : Bool := decide (r = (50, 0) ∨ r = (51, 0))
def w1Z (r : xR) (_ : Nat) : Bool := decide (r = (50, 1) ∨ r = (51, 1))
theorem zW0.sm (h : zW0 M A) (hs : xSm P M M') (hz : ∀ r j, P r j → w0Z r j = false) : zW0 M' A := ⟨h.1.sm hs (fun j => nP hz rfl), h.2.1.sm hs (fun j => nP hz rfl), by rw [(hs (50, 0) 0 (nP hz rfl)).2]; exact h.2.2⟩
theorem zW1.sm (h : zW1 M A) (hs : xSm P M M') (hz : ∀ r j, P r j → w1Z r j = false) : zW1 M' A := ⟨h.1.sm hs (fun j => nP hz rfl), h.2.1.sm hs (fun j => nP hz rfl), by rw [(hs (50, 1) 0 (nP hz rfl)).2]; exact h.2.2⟩
def ptZ (r : xR) (j : Nat) : Bool := decide (r = (35, 0) ∨ (r = (3, 0) ∧ j = 1))
theorem zPt.sm (h : zPt M A S) (hs : xSm P M M') (hz : ∀ r j, P r j → ptZ r j = false) : zPt M' A S := ⟨fun p hp => by rw [(hs (35, 0) p (nP hz rfl)).1]; exact h.1 p hp, by rw [(hs (3, 0) 1 (nP hz rfl)).1]; exact h.2⟩
def rcZ (r : xR) (j : Nat) : Bool := decide (r = (4, 0) ∧ 6 ≤ j)
theorem zRc.sm (h : zRc M S) (hs : xSm P M M') (hz : ∀ r j, P r j → rcZ r j = false) : zRc M' S := by
  unfold zRc at h ⊢
  rw [(hs (4, 0) 6 (nP hz rfl)).1, (hs (4, 0) 7 (nP hz rfl)).1, (hs (4, 0) 8 (nP hz rfl)).1, (hs (4, 0) 9 (nP hz rfl)).1]; exact h
end
section
variable {M : xM} {A : dA} {S : dS}
theorem cZ.w0 (h : cZ M A S) : zW0 M A := h.1.2.2.2.2.2.1.1
theorem cZ.w1 (h : cZ M A S) : zW1 M A := h.1.2.2.2.2.2.1.2
theorem cZ.tp (h : cZ M A S) : zTp M S := h.1.2.2.2.1
theorem cZ.pt (h : cZ M A S) : zPt M A S := h.1.2.2.2.2.2.2.1
theorem cZ.rc (h : cZ M A S) : zRc M S := h.1.2.2.2.2.2.2.2
/-- the tape alone is told anew -/
theorem cZ.tape {M' : xM} {S' : dS} (h : cZ M A S) {P : xR → Nat → Prop} (hs : xSm P M M') (hP : ∀ r j, P r j → (r = (8, 0) ∨ r = (47, 0) ∨ r = (9, 0) ∨ r = (48, 0) ∨ r = (36, 0) ∨ r = (37, 0) ∨ (r = (4, 0) ∧ j = 5) ∨ (r.2 = 1 ∧ (r.1 = 5 ∨ r.1 = 38 ∨ r.1 = 40 ∨ r.1 = 41 ∨ r.1 = 43)) ∨ (r.1 = 44 ∧ 10 ≤ r.2 ∧ r.2 ≤ 20))) (ht : zTp M' S') (e : S'.2.2 = S.2.2) : cZ M' A S' := by
  obtain ⟨⟨s1, s2, s3, _, s5, s6, s7, s8⟩, hh, ho, hn, hm⟩ := h
  have all : ∀ r j, P r j → shZ r j = false ∧ bnZ r j = false ∧ swZ r j = false ∧ prZ r j = false ∧ w0Z r j = false ∧ w1Z r j = false ∧ ptZ r j = false ∧ rcZ r j = false ∧ hnZ r j = false ∧ orZ r j = false ∧ ntZ r j = false ∧ tmZ r j = false := fun r j p => by
    rcases hP r j p with z | z | z | z | z | z | ⟨z, z2⟩ | ⟨z2, z | z | z | z | z⟩ | ⟨z, z2, z3⟩
    · subst z; exact ⟨rfl, rfl, rfl, rfl, rfl, rfl, rfl, rfl, rfl, rfl, rfl, rfl⟩
    · subst z; exact ⟨rfl, rfl, rfl, rfl, rfl, rfl, rfl, rfl, rfl, rfl, rfl, rfl⟩
    · subst z; exact ⟨rfl, rfl, rfl, rfl, rfl, rfl, rfl, rfl, rfl, rfl, rfl, rfl⟩
    · subst z; exact ⟨rfl, rfl, rfl, rfl, rfl, rfl, rfl, rfl, rfl, rfl, rfl, rfl⟩
    · subst z; exact ⟨rfl, rfl, rfl, rfl, rfl, rfl, rfl, rfl, rfl, rfl, rfl, rfl⟩
    · subst z; exact ⟨rfl, rfl, rfl, rfl, rfl, rfl, rfl, rfl, rfl, rfl, rfl, rfl⟩
    · subst z; subst z2; exact ⟨rfl, rfl, rfl, rfl, rfl, rfl, rfl, rfl, rfl, rfl, rfl, rfl⟩
    · obtain ⟨r1, r2⟩ := r; dsimp only at z z2; subst z; subst z2; exact ⟨rfl, rfl, rfl, rfl, rfl, rfl, rfl, rfl, rfl, rfl, rfl, rfl⟩
    · obtain ⟨r1, r2⟩ := r; dsimp only at z z2; subst z; subst z2; exact ⟨rfl, rfl, rfl, rfl, rfl, rfl, rfl, rfl, rfl, rfl, rfl, rfl⟩
    · obtain ⟨r1, r2⟩ := r; dsimp only at z z2; subst z; subst z2; exact ⟨rfl, rfl, rfl, rfl, rfl, rfl, rfl, rfl, rfl, rfl, rfl, rfl⟩
    · obtain ⟨r1, r2⟩ := r; dsimp only at z z2; subst z; subst z2; exact ⟨rfl, rfl, rfl, rfl, rfl, rfl, rfl, rfl, rfl, rfl, rfl, rfl⟩
    · obtain ⟨r1, r2⟩ := r; dsimp only at z z2; subst z; subst z2; exact ⟨rfl, rfl, rfl, rfl, rfl, rfl, rfl, rfl, rfl, rfl, rfl, rfl⟩
    · obtain ⟨r1, r2⟩ := r; dsimp only at z z2 z3; subst z
      exact ⟨by simp [shZ]; omega, rfl, rfl, rfl, rfl, rfl, rfl, rfl, rfl, rfl, rfl, rfl⟩
  have eS : S' = (S'.1, S'.2.1, S.2.2) := by rw [← e]
  rw [eS] at ht ⊢
  exact ⟨⟨s1.sm hs fun r j p => (all r j p).1, s2.sm hs fun r j p => (all r j p).2.1, s3.sm hs fun r j p => (all r j p).2.2.1, ht, s5.sm hs fun r j p => (all r j p).2.2.2.1, ⟨zW0.sm s6.1 hs fun r j p => (all r j p).2.2.2.2.1, zW1.sm s6.2 hs fun r j p => (all r j p).2.2.2.2.2.1⟩, s7.sm hs fun r j p => (all r j p).2.2.2.2.2.2.1, s8.sm hs fun r j p => (all r j p).2.2.2.2.2.2.2.1⟩, hh.sm hs fun r j p => (all r j p).2.2.2.2.2.2.2.2.1, ho.sm hs fun r j p => (all r j p).2.2.2.2.2.2.2.2.2.1, hn.sm hs fun r j p => (all r j p).2.2.2.2.2.2.2.2.2.2.1, hm.sm hs fun r j p => (all r j p).2.2.2.2.2.2.2.2.2.2.2⟩
theorem x_add1 {N : Nat} {T : Nat → Nat} (h : cT M N T) (v : Int32) (hN : N + 4 ≤ 800) : ∃ M', fX8_addNumber [.inr (.inr (8, 0)), .inl (v)] M = some (none, M') ∧ xSm (fun r j => (r = (8, 0) ∧ j = 1) ∨ r = (47, 0)) M M' ∧ cT M' (N + 4) (fun k => if k < N then T k else byt (v >>> (iZ (24 - 8 * ((k - N : Nat) : Int)) &&& iZ 31))) := by
  obtain ⟨M', a1, a2, a3, a4⟩ := x_addNumber (v := v) h.1 hN
  refine ⟨M', a1, a2.wk (fun r j z => z.elim .inl fun z => .inr z.1), a3, by omega, fun k hk => ?_⟩
  by_cases e : k < N
  · dsimp only
    rw [if_pos e, (a2 (47, 0) k (by simp; omega)).1]
    exact h.2.2 k e
  · dsimp only
    rw [if_neg e]
    have := a4 (k - N) (by omega)
    rw [show N + (k - N) = k by omega] at this
    exact ⟨this, byt_lt _⟩
theorem c_feed (h : cZ M A S) (a b c d e : Int32) : cQ A (nFeed S a b c d e) (fX11_feed [.inr (.inr (11, 0)), .inl (a), .inl (b), .inl (c), .inl (d), .inl (e)] M) (.inl (iZ (sFeed S))) := by
  have t := h.tp
  obtain ⟨⟨t1, t2, t3⟩, t4, t5⟩ := t
  unfold nFeed sFeed
  have z20 : (20 : Int32) = iZ 20 := rfl
  by_cases c0 : sN S + 20 ≤ 800
  · rw [if_pos c0, if_pos c0]
    have hr : fX8_hasRoom [.inr (.inr (8, 0)), .inl (iZ ((20 : Int)))] M = some (some (.inl (iZ (1))), M) := by
      generalize sN S = N at *
      show xfix gX8_hasRoom (0, [some (.inr (.inr (8, 0))), some (.inl (iZ ((20 : Int))))], [], M) = _; rw [xfix_unf, sX8_hasRoom_0]
      simp (disch := omega) only [xk_none, xk_inl, xk_inr, xk_ite, xri_v, xrl_v, xrv_v, xb_z0, xb_z1, xb_b2, if_true, if_false, ite_true, ite_false, iZ_lit, iZ_m1, iZ_m99, iZ_m8, iZ_add, iZ_sub, iZ_mul, iZ_neg, nz0, nzi, iZ_lt, iZ_le, iZ_inj, b2_z, b2_o, ite_bPz, ite_bPo, xb_bP, iZ_xin, if_pos, ite_self, ↓reduceIte, Int.reduceAdd, Int.reduceSub, Int.reduceMul, Int.reduceNeg, Int.reduceLT, Int.reduceLE, if_neg, t1]
    obtain ⟨M1, a1, a2, a3⟩ := x_add1 ⟨t1, t2, t3⟩ a (by omega)
    obtain ⟨M2, b1, b2, b3⟩ := x_add1 a3 b (by omega)
    obtain ⟨M3, c1, c2, c3⟩ := x_add1 b3 c (by omega)
    obtain ⟨M4, d1, d2, d3⟩ := x_add1 c3 d (by omega)
    obtain ⟨M5, e1, e2, e3⟩ := x_add1 d3 e (by omega)
    have s5 := (((a2.tr b2).tr c2).tr d2).tr e2
    refine ⟨M5, ?_, h.tape s5 (fun r j z => z.elim (fun z => .inl z.1) fun z => .inr (.inl z)) ⟨⟨?_, c0, fun k hk => ?_⟩, ?_, ?_⟩ rfl⟩
    · have f1 := e3.1
      have en : sN S + 4 + 4 + 4 + 4 + 4 = sN S + 20 := by omega
      rw [en] at f1
      clear a3 b3 c3 d3 e3 t3
      show xfix gX11_feed (0, [some (.inr (.inr (11, 0))), some (.inl (a)), some (.inl (b)), some (.inl (c)), some (.inl (d)), some (.inl (e))], [], M) = _; rw [xfix_unf, sX11_feed_0]
      simp (disch := omega) only [xk_none, xk_inl, xk_inr, xk_ite, xri_v, xrl_v, xrv_v, xb_z0, xb_z1, xb_b2, if_true, if_false, ite_true, ite_false, iZ_lit, iZ_m1, iZ_m99, iZ_m8, iZ_add, iZ_sub, iZ_mul, iZ_neg, nz0, nzi, iZ_lt, iZ_le, iZ_inj, b2_z, b2_o, ite_bPz, ite_bPo, xb_bP, iZ_xin, if_pos, ite_self, ↓reduceIte, Int.reduceAdd, Int.reduceSub, Int.reduceMul, Int.reduceNeg, Int.reduceLT, Int.reduceLE, if_neg, ↓xri_some hr, ↓xrv_some a1, ↓xrv_some b1, ↓xrv_some c1, ↓xrv_some d1, ↓xrv_some e1, f1]
    · have f1 := e3.1
      have en : sN S + 4 + 4 + 4 + 4 + 4 = sN S + 20 := by omega
      rw [en] at f1
      exact f1
    · have hk' : k < sN S + 4 + 4 + 4 + 4 + 4 := by
        have : k < sN S + 20 := hk
        omega
      obtain ⟨q1, q2⟩ := e3.2.2 k hk'
      have ef : (fun k => if k < sN S + 4 + 4 + 4 + 4 then (fun k => if k < sN S + 4 + 4 + 4 then (fun k => if k < sN S + 4 + 4 then (fun k => if k < sN S + 4 then (fun k => if k < sN S then sT S k else byt (a >>> (iZ (24 - 8 * ((k - sN S : Nat) : Int)) &&& iZ 31))) k else byt (b >>> (iZ (24 - 8 * ((k - (sN S + 4) : Nat) : Int)) &&& iZ 31))) k else byt (c >>> (iZ (24 - 8 * ((k - (sN S + 4 + 4) : Nat) : Int)) &&& iZ 31))) k else byt (d >>> (iZ (24 - 8 * ((k - (sN S + 4 + 4 + 4) : Nat) : Int)) &&& iZ 31))) k else byt (e >>> (iZ (24 - 8 * ((k - (sN S + 4 + 4 + 4 + 4) : Nat) : Int)) &&& iZ 31))) k = (if k < sN S then sT S k else fdB a b c d e (k - sN S)) := by
        dsimp only
        unfold fdB fdA
        generalize sN S = N at *
        by_cases k0 : k < N
        · rw [if_pos (by omega), if_pos (by omega), if_pos (by omega), if_pos (by omega), if_pos k0, if_pos k0]
        · rw [if_neg k0, if_neg k0]
          by_cases k1 : k < N + 4
          · rw [if_pos (by omega), if_pos (by omega), if_pos (by omega), if_pos k1, if_pos (by omega), show (k - N) % 4 = k - N by omega]
          · rw [if_neg k1, if_neg (show ¬ k - N < 4 by omega)]
            by_cases k2 : k < N + 4 + 4
            · rw [if_pos (by omega), if_pos (by omega), if_pos k2, if_pos (by omega), show (k - N) % 4 = k - (N + 4) by omega]
            · rw [if_neg k2, if_neg (show ¬ k - N < 8 by omega)]
              by_cases k3 : k < N + 4 + 4 + 4
              · rw [if_pos (by omega), if_pos k3, if_pos (by omega), show (k - N) % 4 = k - (N + 4 + 4) by omega]
              · rw [if_neg k3, if_neg (show ¬ k - N < 12 by omega)]
                by_cases k4 : k < N + 4 + 4 + 4 + 4
                · rw [if_pos k4, if_pos (by omega), show (k - N) % 4 = k - (N + 4 + 4 + 4) by omega]
                · rw [if_neg k4, if_neg (show ¬ k - N < 16 by omega), show (k - N) % 4 = k - (N + 4 + 4 + 4 + 4) by omega]
      rw [ef] at q1 q2
      exact ⟨q1, q2⟩
    · rw [(s5 (8, 0) 2 (by simp)).1]; exact t4
    · rw [(s5 (8, 0) 3 (by simp)).1]; exact t5
  · rw [if_neg c0, if_neg c0]
    have hr : fX8_hasRoom [.inr (.inr (8, 0)), .inl (iZ ((20 : Int)))] M = some (some (.inl (iZ (0))), M) := by
      generalize sN S = N at *
      show xfix gX8_hasRoom (0, [some (.inr (.inr (8, 0))), some (.inl (iZ ((20 : Int))))], [], M) = _; rw [xfix_unf, sX8_hasRoom_0]
      simp (disch := omega) only [xk_none, xk_inl, xk_inr, xk_ite, xri_v, xrl_v, xrv_v, xb_z0, xb_z1, xb_b2, if_true, if_false, ite_true, ite_false, iZ_lit, iZ_m1, iZ_m99, iZ_m8, iZ_add, iZ_sub, iZ_mul, iZ_neg, nz0, nzi, iZ_lt, iZ_le, iZ_inj, b2_z, b2_o, ite_bPz, ite_bPo, xb_bP, iZ_xin, if_pos, ite_self, ↓reduceIte, Int.reduceAdd, Int.reduceSub, Int.reduceMul, Int.reduceNeg, Int.reduceLT, Int.reduceLE, if_neg, t1]
    refine ⟨M, ?_, h⟩
    clear t3
    show xfix gX11_feed (0, [some (.inr (.inr (11, 0))), some (.inl (a)), some (.inl (b)), some (.inl (c)), some (.inl (d)), some (.inl (e))], [], M) = _; rw [xfix_unf, sX11_feed_0]
    simp (disch := omega) only [xk_none, xk_inl, xk_inr, xk_ite, xri_v, xrl_v, xrv_v, xb_z0, xb_z1, xb_b2, if_true, if_false, ite_true, ite_false, iZ_lit, iZ_m1, iZ_m99, iZ_m8, iZ_add, iZ_sub, iZ_mul, iZ_neg, nz0, nzi, iZ_lt, iZ_le, iZ_inj, b2_z, b2_o, ite_bPz, ite_bPo, xb_bP, iZ_xin, if_pos, ite_self, ↓reduceIte, Int.reduceAdd, Int.reduceSub, Int.reduceMul, Int.reduceNeg, Int.reduceLT, Int.reduceLE, if_neg, ↓xri_some hr]
theorem cT.cut {N n : Nat} {T : Nat → Nat} (h : cT M N T) (hn : n ≤ N) : cT (xpI M (8, 0) 1 (iZ n)) n T := ⟨pR_eq, by have := h.2.1; omega, fun k hk => by
  rw [xI_pI_ne (by decide)]; exact h.2.2 k (by omega)⟩
theorem c_end (h : cZ M A S) {n : Int} (hn : r32 n) : cQ A (nEnd S n) (fX11_end [.inr (.inr (11, 0)), .inl (iZ (n))] M) (.inl (bP (0 ≤ n ∧ n ≤ sN S))) := by
  have t := h.tp
  have k := x_shorten t.1.1 t.1.2.1 hn
  unfold nEnd
  by_cases c : 0 ≤ n ∧ n ≤ sN S
  · rw [if_pos c]
    rw [if_pos c, bP_t c] at k
    rw [bP_t c]
    obtain ⟨n, rfl⟩ : ∃ m : Nat, n = m := ⟨n.toNat, by omega⟩
    have en : ((n : Int)).toNat = n := by omega
    rw [en]
    refine ⟨xpI M (8, 0) 1 (iZ n), ?_, h.tape (P := fun r j => r = (8, 0) ∧ j = 1) (xSm.rf.pI ⟨rfl, rfl⟩) (fun r j z => .inl z.1) ⟨t.1.cut (n := n) (by omega), ?_, ?_⟩ rfl⟩
    · show xfix gX11_end (0, [some (.inr (.inr (11, 0))), some (.inl (iZ (n)))], [], M) = _; rw [xfix_unf, sX11_end_0]
      simp (disch := omega) only [xk_none, xk_inl, xk_inr, xk_ite, xri_v, xrl_v, xrv_v, xb_z0, xb_z1, xb_b2, if_true, if_false, ite_true, ite_false, iZ_lit, iZ_m1, iZ_m99, iZ_m8, iZ_add, iZ_sub, iZ_mul, iZ_neg, nz0, nzi, iZ_lt, iZ_le, iZ_inj, b2_z, b2_o, ite_bPz, ite_bPo, xb_bP, iZ_xin, if_pos, ite_self, ↓reduceIte, Int.reduceAdd, Int.reduceSub, Int.reduceMul, Int.reduceNeg, Int.reduceLT, Int.reduceLE, if_neg, ↓xri_some k]
    · rw [pR_ne (by omega)]; exact t.2.1
    · rw [pR_ne (by omega)]; exact t.2.2
  · rw [if_neg c]
    rw [if_neg c, bP_f c] at k
    rw [bP_f c]
    refine ⟨M, ?_, h⟩
    show xfix gX11_end (0, [some (.inr (.inr (11, 0))), some (.inl (iZ (n)))], [], M) = _; rw [xfix_unf, sX11_end_0]
    simp (disch := omega) only [xk_none, xk_inl, xk_inr, xk_ite, xri_v, xrl_v, xrv_v, xb_z0, xb_z1, xb_b2, if_true, if_false, ite_true, ite_false, iZ_lit, iZ_m1, iZ_m99, iZ_m8, iZ_add, iZ_sub, iZ_mul, iZ_neg, nz0, nzi, iZ_lt, iZ_le, iZ_inj, b2_z, b2_o, ite_bPz, ite_bPo, xb_bP, iZ_xin, if_pos, ite_self, ↓reduceIte, Int.reduceAdd, Int.reduceSub, Int.reduceMul, Int.reduceNeg, Int.reduceLT, Int.reduceLE, if_neg, ↓xri_some k]
theorem c_together (h : cZ M A S) : cQ A (nTog A S) (fX11_together [.inr (.inr (11, 0))] M) (.inl (iZ (sC S))) := by
  obtain ⟨M1, a1, a2, a3, a4⟩ := x_gather (M := M) (k := 0) (P := aP A) h.P9
  have f0 := h.f0
  have f1 := h.pt.2
  have rows : ∀ r j, (r = (35, 0) ∨ (r = (3, 0) ∧ j = 1)) → shZ r j = false ∧ bnZ r j = false ∧ swZ r j = false ∧ tpZ r j = false ∧ prZ r j = false ∧ w0Z r j = false ∧ w1Z r j = false ∧ rcZ r j = false ∧ hnZ r j = false ∧ orZ r j = false ∧ ntZ r j = false ∧ tmZ r j = false := by
    rintro r j (z | ⟨z, z2⟩) <;> subst z <;> exact ⟨rfl, rfl, rfl, rfl, rfl, rfl, rfl, rfl, rfl, rfl, rfl, rfl⟩
  refine ⟨M1, ?_, ⟨h.1.1.sm a2 fun r j p => (rows r j p).1, h.1.2.1.sm a2 fun r j p => (rows r j p).2.1, h.1.2.2.1.sm a2 fun r j p => (rows r j p).2.2.1, zTp.sm (S := S) h.tp a2 fun r j p => (rows r j p).2.2.2.1, h.Pr.sm a2 fun r j p => (rows r j p).2.2.2.2.1, ⟨h.w0.sm a2 fun r j p => (rows r j p).2.2.2.2.2.1, h.w1.sm a2 fun r j p => (rows r j p).2.2.2.2.2.2.1⟩, ⟨fun p hp => ?_, a3⟩, zRc.sm (S := S) h.rc a2 fun r j p => (rows r j p).2.2.2.2.2.2.2.1⟩, h.2.1.sm a2 fun r j p => (rows r j p).2.2.2.2.2.2.2.2.1, h.2.2.1.sm a2 fun r j p => (rows r j p).2.2.2.2.2.2.2.2.2.1, h.2.2.2.1.sm a2 fun r j p => (rows r j p).2.2.2.2.2.2.2.2.2.2.1, h.2.2.2.2.sm a2 fun r j p => (rows r j p).2.2.2.2.2.2.2.2.2.2.2⟩
  · clear a4
    show xfix gX11_together (0, [some (.inr (.inr (11, 0))), none], [], M) = _; rw [xfix_unf, sX11_together_0]
    simp (disch := omega) only [xk_none, xk_inl, xk_inr, xk_ite, xri_v, xrl_v, xrv_v, xb_z0, xb_z1, xb_b2, if_true, if_false, ite_true, ite_false, iZ_lit, iZ_m1, iZ_m99, iZ_m8, iZ_add, iZ_sub, iZ_mul, iZ_neg, nz0, nzi, iZ_lt, iZ_le, iZ_inj, b2_z, b2_o, ite_bPz, ite_bPo, xb_bP, iZ_xin, if_pos, ite_self, ↓reduceIte, Int.reduceAdd, Int.reduceSub, Int.reduceMul, Int.reduceNeg, Int.reduceLT, Int.reduceLE, if_neg, f0, f1, ↓xrv_some a1]
  · exact a4 p hp
end
