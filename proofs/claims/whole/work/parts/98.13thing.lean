/-! the class: a thing's text -/
def cRs (M : xM) (N : Nat) (T : Nat → Nat) (s : pS) (o : Option (Option xV × xM)) (r : pR pS) : Prop := ∃ M', xSm rdC M M' ∧ ((∃ f, r = .inl f ∧ o = some (some (.inl (iZ (0))), M') ∧ cFl M' f) ∨ ∃ s', r = .inr s' ∧ o = some (some (.inl (iZ (1))), M') ∧ pT M' N T (pSt s') ∧ cB M' T s' (pP s') ∧ pLt T s' (pP s') ∧ pP s' + pJ s' = pP s + pJ s + 1)
theorem x_readPart {M : xM} {N : Nat} {T : Nat → Nat} {s : pS} (hT : pT M N T (pSt s)) (hB : cB M T s (pP s)) (hL : pLt T s (pP s)) : cRs M N T s (fX9_readPart [.inr (.inr (9, 0))] M) (pPart N T s) := by
  have hP := hL.1.2.2
  have f0 := hB.1.1
  by_cases e : pP s = 9
  · obtain ⟨M1, a1, a2, a3⟩ := x_refuseTo hT 3
    refine ⟨M1, rdC_ff a2, .inl ⟨(3, pSt s), by unfold pPart; rw [if_pos e], ?_, a3⟩⟩
    have e9 : ((9 : Nat) : Int) = 9 := rfl
    rw [e, e9] at f0
    show xfix gX9_readPart (0, [some (.inr (.inr (9, 0))), none, none], [], M) = _; rw [xfix_unf, sX9_readPart_0]
    simp (disch := omega) only [xk_none, xk_inl, xk_inr, xk_ite, xri_v, xrl_v, xrv_v, xb_z0, xb_z1, xb_b2, if_true, if_false, ite_true, ite_false, iZ_lit, iZ_m1, iZ_m99, iZ_m8, iZ_add, iZ_sub, iZ_mul, iZ_neg, nz0, nzi, iZ_lt, iZ_le, iZ_inj, b2_z, b2_o, ite_bPz, ite_bPo, xb_bP, iZ_xin, if_pos, ite_self, ↓reduceIte, Int.reduceAdd, Int.reduceSub, Int.reduceMul, Int.reduceNeg, Int.reduceLT, Int.reduceLE, if_neg, f0, a1]
  · obtain ⟨M1, a1, a2, a3⟩ := x_adv hT
    have hN := x_isName a3
    have g0 : xI M1 (5, 1) 0 = iZ (pP s) := by rw [(a2 (5, 1) 0 (by simp)).1]; exact f0
    by_cases e3 : tk False N T (adv N T (pSt s)) = 3
    · have c1 := tk3_ck e3
      obtain ⟨v1, v2⟩ := a3.val c1
      have hB1 : cB M1 T s (pP s) := hB.sm hP a2 (fun r j z => .inl z.1)
      have hn := x_named a3 hB1 hL c1
      rw [bP_t e3] at hN
      obtain ⟨w, ew⟩ : ∃ w, w = wv (fun k => T (adv N T (pSt s) + k)) (tE N T (adv N T (pSt s)) - adv N T (pSt s)) := ⟨_, rfl⟩
      rw [← ew] at v1 v2 hn
      by_cases e4 : pKn N T s (adv N T (pSt s)) < pP s
      · rw [if_pos e4] at hn
        obtain ⟨M2, b1, b2, b3⟩ := x_refuseTo a3 2
        refine ⟨M2, (rdC_tp a2).tr (rdC_ff b2), .inl ⟨(2, adv N T (pSt s)), by unfold pPart; rw [if_neg e, if_neg (fun z => z e3), if_pos e4], ?_, b3⟩⟩
        generalize pKn N T s (adv N T (pSt s)) = y at *
        show xfix gX9_readPart (0, [some (.inr (.inr (9, 0))), none, none], [], M) = _; rw [xfix_unf, sX9_readPart_0]
        simp (disch := omega) only [xk_none, xk_inl, xk_inr, xk_ite, xri_v, xrl_v, xrv_v, xb_z0, xb_z1, xb_b2, if_true, if_false, ite_true, ite_false, iZ_lit, iZ_m1, iZ_m99, iZ_m8, iZ_add, iZ_sub, iZ_mul, iZ_neg, nz0, nzi, iZ_lt, iZ_le, iZ_inj, b2_z, b2_o, ite_bPz, ite_bPo, xb_bP, iZ_xin, if_pos, ite_self, ↓reduceIte, Int.reduceAdd, Int.reduceSub, Int.reduceMul, Int.reduceNeg, Int.reduceLT, Int.reduceLE, if_neg, f0, a1, hN, v1, hn, b1]
      · rw [if_neg e4] at hn
        obtain ⟨M5, b1, b2, b3⟩ := x_copy (M := M1) (k := 20) (j := 10) (by omega)
        have f5 : ∀ r j, r.1 ≠ 44 → xI M5 r j = xI M1 r j := fun r j hr => (b2 r (fun z => hr (by rw [z]))).1 j
        obtain ⟨M6, c1', c2, c3, c4, c5⟩ := x_addPart (M := M5) (s := 1) (P := pP s) (v := iZ w) (by omega) (by rw [f5 _ _ (by simp)]; exact g0)
        have hT5 : pT M5 N T (adv N T (pSt s)) := a3.same b2 (by simp) (by simp)
        have hT6 : pT M6 N T (adv N T (pSt s)) := hT5.sm c2 (by simp) (by simp)
        obtain ⟨M7, d1, d2, d3⟩ := x_adv hT6
        have v5 : xI M5 (8, 0) 6 = iZ w := by rw [f5 _ _ (by simp)]; exact v1
        obtain ⟨s0, es⟩ : ∃ s0 : pS, s0 = (adv N T (adv N T (pSt s)), (pP s, (fun q => if q = pP s then adv N T (pSt s) else pNa s q), fun q => if q = pP s then tE N T (adv N T (pSt s)) - adv N T (pSt s) else pNl s q), s.2.2) := ⟨_, rfl⟩
        have p1 : pSt s0 = adv N T (adv N T (pSt s)) := by rw [es]; rfl
        have p2 : pP s0 = pP s := by rw [es]; rfl
        have p3 : pX s0 = pX s ∧ pC s0 = pC s ∧ pJ s0 = pJ s ∧ pOne s0 = pOne s ∧ pTwo s0 = pTwo s ∧ pAt s0 = pAt s ∧ pWy s0 = pWy s := by rw [es]; exact ⟨rfl, rfl, rfl, rfl, rfl, rfl, rfl⟩
        have p4 : ∀ q, pNa s0 q = if q = pP s then adv N T (pSt s) else pNa s q := fun q => by rw [es]; rfl
        have p5 : ∀ q, pNl s0 q = if q = pP s then tE N T (adv N T (pSt s)) - adv N T (pSt s) else pNl s q := fun q => by rw [es]; rfl
        have eP : pPart N T s = if tk False N T (pSt s0) = 4 + 1 then bxG N T 31 s0 else .inl (1, pSt s0) := by
          unfold pPart
          rw [if_neg e, if_neg (fun z => z e3), if_neg e4, ← es]
          by_cases q : tk False N T (pSt s0) = 4 + 1
          · rw [if_pos q]
            unfold bxG
            rw [show pBoxes N T 31 s0 = (match pBox N T s0 with
              | .inl f => .inl f
              | .inr s' => pBoxes N T 30 s') from if_pos q]
            cases pBox N T s0 with
            | inl f => rfl
            | inr s1 => rfl
          · rw [if_neg q]
            have : pBox N T s0 = .inl (1, pSt s0) := by unfold pBox; rw [if_pos q]
            rw [this]
        have s7 : xSm rdC M M7 := (((rdC_tp a2).tr (b2.sm.wk fun r j z => by subst z; simp [rdC])).tr (c2.wk fun r j z => by
          rcases z with z | z | z
          · rw [z.1]; simp [rdC]
          · rw [z.1]; simp [rdC]
          · subst z; simp [rdC]; omega)).tr (rdC_tp d2)
        have hs := x_says (k := 1) d3.1 d3.2.1 d3.2.2.1 (by omega)
        rw [bP_c (tk_key (j := 1) (by omega))] at hs
        rw [← p1] at hs d3
        by_cases q : tk False N T (pSt s0) = 4 + 1
        · rw [bP_t q] at hs
          rw [eP, if_pos q]
          have sB7 : ∀ k c, k ≠ 20 → k ≠ 10 * 1 + 1 + pP s → sB M7 k c = sB M k c := fun k c k1 k2 => by
            have e1 : sB M7 k c = sB M6 k c := by unfold sB; rw [(d2 (44, k) (c / 64) (by simp)).2]
            have e2 : sB M6 k c = sB M5 k c := by unfold sB; rw [(c2 (44, k) (c / 64) (by simp; omega)).2]
            have e3 : sB M1 k c = sB M k c := by unfold sB; rw [(a2 (44, k) (c / 64) (by simp)).2]
            rw [e1, e2, sB_same b2 (by simp; omega) c, e3]
          have sI : ∀ r j, r.1 ≠ 44 → r ≠ (8, 0) → (r ≠ (5, 1) ∨ j ≠ 0) → (r ≠ (40, 1) ∨ j ≠ pP s) → xI M7 r j = xI M r j := fun r j r1 r2 r3 r4 => by
            rw [(d2 r j (fun z => r2 z.1)).1, (c2 r j (fun z => by
              rcases z with z | z | z
              · exact r3.elim (fun y => y z.1) (fun y => y z.2)
              · exact r4.elim (fun y => y z.1) (fun y => y z.2)
              · exact r1 (by rw [z]))).1, f5 r j r1, (a2 r j (fun z => r2 z.1)).1]
          have hB7 : cB M7 T s0 (pP s0 + 1) := by
            obtain ⟨⟨u1, u2, u3⟩, u4, u5, u6, u7⟩ := hB
            rw [p2]
            refine ⟨⟨?_, ?_, ?_⟩, fun q hq => ?_, fun p hp c hc => ?_, fun c hc => ?_, fun j hj => ⟨?_, ?_⟩⟩
            · rw [(d2 (5, 1) 0 (by simp)).1]; exact c3
            · rw [sI _ _ (by simp) (by simp) (by simp) (by simp), p3.2.2.1]; exact u2
            · rw [sI _ _ (by simp) (by simp) (by simp) (by simp), p3.1]; exact u3
            · have en : nmV T s0 q = if q = pP s then w else nmV T s q := by
                unfold nmV
                rw [p4 q, p5 q]
                by_cases z : q = pP s
                · rw [if_pos z, if_pos z, if_pos z, ew]
                · rw [if_neg z, if_neg z, if_neg z]
              rw [en]
              by_cases z : q = pP s
              · rw [if_pos z, z, (d2 (40, 1) _ (by simp)).1]; exact c4
              · rw [if_neg z, sI _ _ (by simp) (by simp) (by simp) (.inr z)]; exact u4 q (by omega)
            · rw [p3.2.1]
              by_cases z : p = pP s
              · subst z
                have e1 : sB M7 (10 * 1 + 1 + pP s) c = sB M6 (10 * 1 + 1 + pP s) c := by unfold sB; rw [(d2 (44, 10 * 1 + 1 + pP s) (c / 64) (by simp)).2]
                rw [e1, c5 c hc]
                have := hL.2.2 c hc
                exact ⟨fun z => Bool.noConfusion z, fun z => by omega⟩
              · rw [sB7 _ _ (by omega) (by omega)]; exact u5 p (by omega) c hc
            · rw [sB7 _ _ (by omega) (by omega), p3.2.1]; exact u6 c hc
            · rw [p3.2.2.1] at hj
              rw [sI _ _ (by simp) (by simp) (by simp) (by simp), p3.2.2.2.1, p3.2.2.2.2.1]; exact (u7 j hj).1
            · rw [p3.2.2.1] at hj
              rw [sI _ _ (by simp) (by simp) (by simp) (by simp), p3.2.2.2.2.2.1, p3.2.2.2.2.2.2]; exact (u7 j hj).2
          have hL7 : pLt T s0 (pP s0 + 1) := by
            rw [p2]
            obtain ⟨_, x3, x4, x5⟩ := ck1 c1
            refine ⟨⟨by rw [p3.2.2.1]; exact hL.1.1, by rw [p3.1]; exact hL.1.2.1, by omega⟩, fun q hq => ?_, fun c hc => by rw [p3.2.1]; have := hL.2.2 c hc; omega⟩
            rw [p4 q, p5 q]
            by_cases z : q = pP s
            · rw [if_pos z, if_pos z]; exact ⟨by omega, x3, x5⟩
            · rw [if_neg z, if_neg z]; exact hL.2.1 q (by omega)
          have hC7 : ∀ c, c < 512 → (sB M7 20 c = true ↔ pC s0 c ≠ -1 ∧ pC s0 c ≠ pP s0) := fun c hc => by
            have e1 : sB M7 20 c = sB M6 20 c := by unfold sB; rw [(d2 (44, 20) (c / 64) (by simp)).2]
            have e2 : sB M6 20 c = sB M5 20 c := by unfold sB; rw [(c2 (44, 20) (c / 64) (by simp; omega)).2]
            have e3 : sB M1 10 c = sB M 10 c := by unfold sB; rw [(a2 (44, 10) (c / 64) (by simp)).2]
            rw [e1, e2, b3 c hc, e3, show (10 : Nat) = 10 * 1 from rfl, hB.2.2.2.1 c hc, p3.2.1, p2]
            have := hL.2.2 c hc
            exact ⟨fun z => ⟨z, by omega⟩, fun z => z.1⟩
          obtain ⟨M8, h1, h2⟩ := x_boxes (N := N) (T := T) 31 0 s0 M7 (by omega) (by omega) d3 hB7 hL7 hC7
          have t0 : fX9_readPart [.inr (.inr (9, 0))] M = xfix gX9_readPart (129, [some (.inr (.inr (9, 0))), some (.inl (iZ (((0 : Nat))))), none], [], M7) := by
            have z0 : ((0 : Nat) : Int) = 0 := rfl
            show xfix gX9_readPart (0, [some (.inr (.inr (9, 0))), none, none], [], M) = _; rw [xfix_unf, sX9_readPart_0]
            simp (disch := omega) only [xk_none, xk_inl, xk_inr, xk_ite, xri_v, xrl_v, xrv_v, xb_z0, xb_z1, xb_b2, if_true, if_false, ite_true, ite_false, iZ_lit, iZ_m1, iZ_m99, iZ_m8, iZ_add, iZ_sub, iZ_mul, iZ_neg, nz0, nzi, iZ_lt, iZ_le, iZ_inj, b2_z, b2_o, ite_bPz, ite_bPo, xb_bP, iZ_xin, if_pos, ite_self, ↓reduceIte, Int.reduceAdd, Int.reduceSub, Int.reduceMul, Int.reduceNeg, Int.reduceLT, Int.reduceLE, if_neg, f0, a1, hN, v1, hn, b1, v5, c1', d1, hs, z0]
          refine ⟨M8, s7.tr h1, ?_⟩
          rw [t0]
          rcases h2 with ⟨f, k1, k2, k3⟩ | ⟨s', k1, k2, k3, k4, k5, k6, k7⟩
          · exact .inl ⟨f, k1, k2, k3⟩
          · exact .inr ⟨s', k1, k2, k3, k4, k5, by rw [k6, k7, p2, p3.2.2.1]; omega⟩
        · rw [bP_f q] at hs
          rw [eP, if_neg q]
          obtain ⟨M8, h1, h2, h3⟩ := x_refuseTo d3 1
          refine ⟨M8, s7.tr (rdC_ff h2), .inl ⟨_, rfl, ?_, h3⟩⟩
          show xfix gX9_readPart (0, [some (.inr (.inr (9, 0))), none, none], [], M) = _; rw [xfix_unf, sX9_readPart_0]
          simp (disch := omega) only [xk_none, xk_inl, xk_inr, xk_ite, xri_v, xrl_v, xrv_v, xb_z0, xb_z1, xb_b2, if_true, if_false, ite_true, ite_false, iZ_lit, iZ_m1, iZ_m99, iZ_m8, iZ_add, iZ_sub, iZ_mul, iZ_neg, nz0, nzi, iZ_lt, iZ_le, iZ_inj, b2_z, b2_o, ite_bPz, ite_bPo, xb_bP, iZ_xin, if_pos, ite_self, ↓reduceIte, Int.reduceAdd, Int.reduceSub, Int.reduceMul, Int.reduceNeg, Int.reduceLT, Int.reduceLE, if_neg, f0, a1, hN, v1, hn, b1, v5, c1', d1, hs, h1]
    · rw [bP_f e3] at hN
      obtain ⟨M2, b1, b2, b3⟩ := x_refuseTo a3 1
      refine ⟨M2, (rdC_tp a2).tr (rdC_ff b2), .inl ⟨(1, adv N T (pSt s)), by unfold pPart; rw [if_neg e, if_pos e3], ?_, b3⟩⟩
      show xfix gX9_readPart (0, [some (.inr (.inr (9, 0))), none, none], [], M) = _; rw [xfix_unf, sX9_readPart_0]
      simp (disch := omega) only [xk_none, xk_inl, xk_inr, xk_ite, xri_v, xrl_v, xrv_v, xb_z0, xb_z1, xb_b2, if_true, if_false, ite_true, ite_false, iZ_lit, iZ_m1, iZ_m99, iZ_m8, iZ_add, iZ_sub, iZ_mul, iZ_neg, nz0, nzi, iZ_lt, iZ_le, iZ_inj, b2_z, b2_o, ite_bPz, ite_bPo, xb_bP, iZ_xin, if_pos, ite_self, ↓reduceIte, Int.reduceAdd, Int.reduceSub, Int.reduceMul, Int.reduceNeg, Int.reduceLT, Int.reduceLE, if_neg, f0, a1, hN, b1]
def spv (b : Nat → Int) : Nat → Int
  | 0 => 0
  | k + 1 => 8 * spv b k + b k
theorem spv_cg {b b' : Nat → Int} : ∀ {k : Nat}, (∀ j, j < k → b j = b' j) → spv b k = spv b' k
  | 0, _ => rfl
  | k + 1, h => by unfold spv; rw [spv_cg (k := k) (fun j hj => h j (by omega)), h k (by omega)]
theorem x_spot {N : Nat} {T : Nat → Nat} {v : Int32} : ∀ (n k : Nat) (b : Nat → Int) (st : Nat) (M : xM), n + k = 3 → pT M N T st → (∀ j, j < k → 0 ≤ b j ∧ b j ≤ 7) → ∃ M', (∃ f, rdB N T 0 n k b (adv N T st) = .inl f ∧ xfix gX9_readSpot (4, [some (.inr (.inr (9, 0))), some (.inl (v)), some (.inl (iZ ((spv b k)))), some (.inl (iZ (k)))], [], M) = some (some (.inl (iZ (0))), M') ∧ cFl M' f ∧ xSm rdC M M') ∨ ∃ x st', rdB N T 0 n k b (adv N T st) = .inr x ∧ xfix gX9_readSpot (4, [some (.inr (.inr (9, 0))), some (.inl (v)), some (.inl (iZ ((spv b k)))), some (.inl (iZ (k)))], [], M) = xfix gX9_readSpot (4, [some (.inr (.inr (9, 0))), some (.inl (v)), some (.inl (iZ ((spv x.1 3)))), some (.inl (iZ ((3 : Int))))], [], M') ∧ pT M' N T st' ∧ x.2 = adv N T st' ∧ xSm tpF M M' ∧ ∀ j, j < 3 → 0 ≤ x.1 j ∧ x.1 j ≤ 7 := by
  intro n
  induction n with
  | zero =>
    intro k b st M hk hT hb
    have : k = 3 := by omega
    subst this
    exact ⟨M, .inr ⟨(b, adv N T st), st, rfl, rfl, hT, rfl, xSm.rf, hb⟩⟩
  | succ n ih =>
    intro k b st M hk hT hb
    obtain ⟨M1, a1, a2, a3⟩ := x_adv hT
    obtain ⟨u, eu⟩ : ∃ u, u = adv N T st := ⟨_, rfl⟩
    rw [← eu] at a3 ⊢
    have hkd := a3.2.1.2.2.1
    have hc := ck_b N T u
    have hn := (tk_num (N := N) (T := T) (st := u) False).1
    have eR : rdB N T 0 (n + 1) k b u = match num1 False N T u (bLo k) (if k < 0 then bHi k b else 7) with
      | .inl f => .inl f
      | .inr x => rdB N T 0 n (k + 1) (fun j => if j = k then x.1 else b j) x.2 := rfl
    have eL : bLo k = 0 := by unfold bLo; rw [if_pos (by omega)]
    rw [if_neg (by omega), eL] at eR
    have hk3 : k < 3 := by omega
    by_cases e : tk False N T u = 2
    · have e2 := hn.mpr e
      have hv := a3.num e2
      obtain ⟨_, v1, v2⟩ := ck2 e2
      rw [e2] at hkd
      by_cases e3 : dv T u (tE N T u - u) ≤ 7
      · have eN : num1 False N T u 0 7 = .inr (dv T u (tE N T u - u), adv N T u) := by
          unfold num1; rw [if_neg (fun z => z e), if_pos ⟨v1, e3⟩]
        rw [eN] at eR
        obtain ⟨M', g⟩ := ih (k + 1) (fun j => if j = k then dv T u (tE N T u - u) else b j) u M1 (by omega) a3 (fun j hj => by
          show 0 ≤ (if j = k then dv T u (tE N T u - u) else b j) ∧ (if j = k then dv T u (tE N T u - u) else b j) ≤ 7
          by_cases z : j = k
          · rw [if_pos z]; exact ⟨v1, e3⟩
          · rw [if_neg z]; exact hb j (by omega))
        have eS : spv (fun j => if j = k then dv T u (tE N T u - u) else b j) (k + 1) = 8 * spv b k + dv T u (tE N T u - u) := by
          show 8 * spv (fun j => if j = k then dv T u (tE N T u - u) else b j) k + (if k = k then dv T u (tE N T u - u) else b k) = _
          rw [if_pos rfl, spv_cg (b' := b) (fun j hj => if_neg (by omega))]
        have t1 : xfix gX9_readSpot (4, [some (.inr (.inr (9, 0))), some (.inl (v)), some (.inl (iZ ((spv b k)))), some (.inl (iZ (k)))], [], M) = xfix gX9_readSpot (4, [some (.inr (.inr (9, 0))), some (.inl (v)), some (.inl (iZ ((spv (fun j => if j = k then dv T u (tE N T u - u) else b j) (k + 1))))), some (.inl (iZ (((k + 1 : Nat)))))], [], M1) := by
          rw [eS, nS]
          generalize dv T u (tE N T u - u) = y at *
          rw [xfix_unf, sX9_readSpot_4]
          simp (disch := omega) only [xk_none, xk_inl, xk_inr, xk_ite, xri_v, xrl_v, xrv_v, xb_z0, xb_z1, xb_b2, if_true, if_false, ite_true, ite_false, iZ_lit, iZ_m1, iZ_m99, iZ_m8, iZ_add, iZ_sub, iZ_mul, iZ_neg, nz0, nzi, iZ_lt, iZ_le, iZ_inj, b2_z, b2_o, ite_bPz, ite_bPo, xb_bP, iZ_xin, if_pos, ite_self, ↓reduceIte, Int.reduceAdd, Int.reduceSub, Int.reduceMul, Int.reduceNeg, Int.reduceLT, Int.reduceLE, if_neg, a1, hkd, hv]
        rw [eR, t1]
        rcases g with ⟨f, g1, g2, g3, g4⟩ | ⟨x, st', g1, g2, g3, g4, g5, g6⟩
        · exact ⟨M', .inl ⟨f, g1, g2, g3, (rdC_tp a2).tr g4⟩⟩
        · exact ⟨M', .inr ⟨x, st', g1, g2, g3, g4, a2.tr g5, g6⟩⟩
      · have eN : num1 False N T u 0 7 = .inl (4, u) := by
          unfold num1; rw [if_neg (fun z => z e), if_neg (fun z => e3 z.2)]
        rw [eN] at eR
        obtain ⟨M2, b1, b2, b3⟩ := x_refuseTo a3 4
        refine ⟨M2, .inl ⟨(4, u), eR, ?_, b3, (rdC_tp a2).tr (rdC_ff b2)⟩⟩
        generalize dv T u (tE N T u - u) = y at *
        rw [xfix_unf, sX9_readSpot_4]
        simp (disch := omega) only [xk_none, xk_inl, xk_inr, xk_ite, xri_v, xrl_v, xrv_v, xb_z0, xb_z1, xb_b2, if_true, if_false, ite_true, ite_false, iZ_lit, iZ_m1, iZ_m99, iZ_m8, iZ_add, iZ_sub, iZ_mul, iZ_neg, nz0, nzi, iZ_lt, iZ_le, iZ_inj, b2_z, b2_o, ite_bPz, ite_bPo, xb_bP, iZ_xin, if_pos, ite_self, ↓reduceIte, Int.reduceAdd, Int.reduceSub, Int.reduceMul, Int.reduceNeg, Int.reduceLT, Int.reduceLE, if_neg, a1, hkd, hv, b1]
    · have eN : num1 False N T u 0 7 = .inl (1, u) := by
        unfold num1; rw [if_pos e]
      rw [eN] at eR
      obtain ⟨M2, b1, b2, b3⟩ := x_refuseTo a3 1
      have e2 : ¬ ck N T u = 2 := fun z => e (hn.mp z)
      refine ⟨M2, .inl ⟨(1, u), eR, ?_, b3, (rdC_tp a2).tr (rdC_ff b2)⟩⟩
      generalize ck N T u = y at *
      rw [xfix_unf, sX9_readSpot_4]
      simp (disch := omega) only [xk_none, xk_inl, xk_inr, xk_ite, xri_v, xrl_v, xrv_v, xb_z0, xb_z1, xb_b2, if_true, if_false, ite_true, ite_false, iZ_lit, iZ_m1, iZ_m99, iZ_m8, iZ_add, iZ_sub, iZ_mul, iZ_neg, nz0, nzi, iZ_lt, iZ_le, iZ_inj, b2_z, b2_o, ite_bPz, ite_bPo, xb_bP, iZ_xin, if_pos, ite_self, ↓reduceIte, Int.reduceAdd, Int.reduceSub, Int.reduceMul, Int.reduceNeg, Int.reduceLT, Int.reduceLE, if_neg, a1, hkd, b1]
