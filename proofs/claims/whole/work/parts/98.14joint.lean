/-! the class: a joint's text -/
theorem pow2_inj {a b : Nat} (h : (2 : Nat) ^ a = 2 ^ b) : a = b := by
  rcases Nat.lt_trichotomy a b with z | z | z
  · have := Nat.pow_lt_pow_right (a := 2) (by omega) z; omega
  · exact z
  · have := Nat.pow_lt_pow_right (a := 2) (by omega) z; omega
theorem x_jname {M : xM} {N st i pr : Nat} {T : Nat → Nat} {s : pS} (hT : pT M N T st) (hB : cB M T s (pP s)) (hL : pLt T s (pP s)) (hi : i < 2) (hp : pr < 512) : ∃ M', (tk False N T (adv N T st) ≠ 3 ∧ xfix gX9_readJoint (25, [some (.inr (.inr (9, 0))), some (.inl (iZ (pr))), some (.inl (iZ (i))), none], [], M) = some (some (.inl (iZ (0))), M') ∧ cFl M' (1, adv N T st) ∧ xSm rdC M M') ∨ (tk False N T (adv N T st) = 3 ∧ (¬ pKn N T s (adv N T st) < pP s ∨ pr = 2 ^ pKn N T s (adv N T st)) ∧ xfix gX9_readJoint (25, [some (.inr (.inr (9, 0))), some (.inl (iZ (pr))), some (.inl (iZ (i))), none], [], M) = some (some (.inl (iZ (0))), M') ∧ cFl M' (2, adv N T st) ∧ xSm rdC M M') ∨ (tk False N T (adv N T st) = 3 ∧ pKn N T s (adv N T st) < pP s ∧ pr ≠ 2 ^ pKn N T s (adv N T st) ∧ xfix gX9_readJoint (25, [some (.inr (.inr (9, 0))), some (.inl (iZ (pr))), some (.inl (iZ (i))), none], [], M) = xfix gX9_readJoint (25, [some (.inr (.inr (9, 0))), some (.inl (iZ (((pr ||| 2 ^ pKn N T s (adv N T st) : Nat))))), some (.inl (iZ (((i + 1 : Nat))))), none], [], M') ∧ pT M' N T (adv N T st) ∧ xSm tpF M M') := by
  have hP := hL.1.2.2
  obtain ⟨M1, a1, a2, a3⟩ := x_adv hT
  have hN := x_isName a3
  obtain ⟨u, eu⟩ : ∃ u, u = adv N T st := ⟨_, rfl⟩
  rw [← eu] at a3 hN ⊢
  by_cases e3 : tk False N T u = 3
  · have c1 := tk3_ck e3
    obtain ⟨v1, v2⟩ := a3.val c1
    have hB1 : cB M1 T s (pP s) := hB.sm hP a2 (fun r j z => .inl z.1)
    have hn := x_named a3 hB1 hL c1
    rw [bP_t e3] at hN
    generalize wv (fun k => T (u + k)) (tE N T u - u) = w at *
    by_cases e4 : pKn N T s u < pP s
    · rw [if_pos e4] at hn
      generalize pKn N T s u = q at *
      have hq : (2 : Nat) ^ q ≤ 512 := Nat.pow_le_pow_right (by omega) (show q ≤ 9 by omega)
      have hone := iZ_one (p := q) (by omega)
      by_cases e5 : pr = 2 ^ q
      · obtain ⟨M2, b1, b2, b3⟩ := x_refuseTo a3 2
        refine ⟨M2, .inr (.inl ⟨e3, .inr e5, ?_, b3, (rdC_tp a2).tr (rdC_ff b2)⟩)⟩
        generalize (2 : Nat) ^ q = Q at *
        subst e5
        rw [xfix_unf, sX9_readJoint_25]
        simp (disch := omega) only [xk_none, xk_inl, xk_inr, xk_ite, xri_v, xrl_v, xrv_v, xb_z0, xb_z1, xb_b2, if_true, if_false, ite_true, ite_false, iZ_lit, iZ_m1, iZ_m99, iZ_m8, iZ_add, iZ_sub, iZ_mul, iZ_neg, nz0, nzi, iZ_lt, iZ_le, iZ_inj, b2_z, b2_o, ite_bPz, ite_bPo, xb_bP, iZ_xin, if_pos, ite_self, ↓reduceIte, Int.reduceAdd, Int.reduceSub, Int.reduceMul, Int.reduceNeg, Int.reduceLT, Int.reduceLE, if_neg, a1, hN, v1, hn, hone, b1]
      · refine ⟨M1, .inr (.inr ⟨e3, e4, e5, ?_, a3, a2⟩)⟩
        have hor : iZ (pr : Int) ||| iZ ((2 ^ q : Nat) : Int) = iZ ((pr ||| 2 ^ q : Nat) : Int) := iZ_or pr (2 ^ q)
        generalize (pr ||| 2 ^ q : Nat) = R at *
        generalize (2 : Nat) ^ q = Q at *
        rw [nS]
        rw [xfix_unf, sX9_readJoint_25]
        simp (disch := omega) only [xk_none, xk_inl, xk_inr, xk_ite, xri_v, xrl_v, xrv_v, xb_z0, xb_z1, xb_b2, if_true, if_false, ite_true, ite_false, iZ_lit, iZ_m1, iZ_m99, iZ_m8, iZ_add, iZ_sub, iZ_mul, iZ_neg, nz0, nzi, iZ_lt, iZ_le, iZ_inj, b2_z, b2_o, ite_bPz, ite_bPo, xb_bP, iZ_xin, if_pos, ite_self, ↓reduceIte, Int.reduceAdd, Int.reduceSub, Int.reduceMul, Int.reduceNeg, Int.reduceLT, Int.reduceLE, if_neg, a1, hN, v1, hn, hone, hor]
    · rw [if_neg e4] at hn
      obtain ⟨M2, b1, b2, b3⟩ := x_refuseTo a3 2
      refine ⟨M2, .inr (.inl ⟨e3, .inl e4, ?_, b3, (rdC_tp a2).tr (rdC_ff b2)⟩)⟩
      rw [xfix_unf, sX9_readJoint_25]
      simp (disch := omega) only [xk_none, xk_inl, xk_inr, xk_ite, xri_v, xrl_v, xrv_v, xb_z0, xb_z1, xb_b2, if_true, if_false, ite_true, ite_false, iZ_lit, iZ_m1, iZ_m99, iZ_m8, iZ_add, iZ_sub, iZ_mul, iZ_neg, nz0, nzi, iZ_lt, iZ_le, iZ_inj, b2_z, b2_o, ite_bPz, ite_bPo, xb_bP, iZ_xin, if_pos, ite_self, ↓reduceIte, Int.reduceAdd, Int.reduceSub, Int.reduceMul, Int.reduceNeg, Int.reduceLT, Int.reduceLE, if_neg, a1, hN, v1, hn, b1]
  · rw [bP_f e3] at hN
    obtain ⟨M2, b1, b2, b3⟩ := x_refuseTo a3 1
    refine ⟨M2, .inl ⟨e3, ?_, b3, (rdC_tp a2).tr (rdC_ff b2)⟩⟩
    rw [xfix_unf, sX9_readJoint_25]
    simp (disch := omega) only [xk_none, xk_inl, xk_inr, xk_ite, xri_v, xrl_v, xrv_v, xb_z0, xb_z1, xb_b2, if_true, if_false, ite_true, ite_false, iZ_lit, iZ_m1, iZ_m99, iZ_m8, iZ_add, iZ_sub, iZ_mul, iZ_neg, nz0, nzi, iZ_lt, iZ_le, iZ_inj, b2_z, b2_o, ite_bPz, ite_bPo, xb_bP, iZ_xin, if_pos, ite_self, ↓reduceIte, Int.reduceAdd, Int.reduceSub, Int.reduceMul, Int.reduceNeg, Int.reduceLT, Int.reduceLE, if_neg, a1, hN, b1]
theorem x_readSpot {M : xM} {N st J : Nat} {T : Nat → Nat} {v : Int32} (hT : pT M N T st) (f1 : xI M (5, 1) 1 = iZ J) (hJ : J < 8) : ∃ M', (∃ f, rdB N T 0 3 0 (fun _ => 0) (adv N T st) = .inl f ∧ fX9_readSpot [.inr (.inr (9, 0)), .inl (v)] M = some (some (.inl (iZ (0))), M') ∧ cFl M' f ∧ xSm rdC M M') ∨ (∃ x, rdB N T 0 3 0 (fun _ => 0) (adv N T st) = .inr x ∧ ¬ (20 ≤ tk False N T x.2 ∧ tk False N T x.2 ≤ 25) ∧ fX9_readSpot [.inr (.inr (9, 0)), .inl (v)] M = some (some (.inl (iZ (0))), M') ∧ cFl M' (1, x.2) ∧ xSm rdC M M') ∨ ∃ x, rdB N T 0 3 0 (fun _ => 0) (adv N T st) = .inr x ∧ (20 ≤ tk False N T x.2 ∧ tk False N T x.2 ≤ 25) ∧ fX9_readSpot [.inr (.inr (9, 0)), .inl (v)] M = some (some (.inl (iZ (1))), M') ∧ pT M' N T (adv N T x.2) ∧ xSm (fun r j => tpF r j ∨ (r = (5, 1) ∧ j = 1) ∨ (r = (41, 1) ∧ j = J) ∨ (r = (43, 1) ∧ j = J)) M M' ∧ xI M' (5, 1) 1 = iZ ((J + 1 : Nat) : Int) ∧ xI M' (41, 1) J = v ∧ xI M' (43, 1) J = iZ ((spt (64 * x.1 2 + 8 * x.1 1 + x.1 0).toNat (tk False N T x.2 - 20) : Nat) : Int) := by
  have t0 : fX9_readSpot [.inr (.inr (9, 0)), .inl (v)] M = xfix gX9_readSpot (4, [some (.inr (.inr (9, 0))), some (.inl (v)), some (.inl (iZ ((spv (fun _ => 0) 0)))), some (.inl (iZ (((0 : Nat)))))], [], M) := by
    have z0 : ((0 : Nat) : Int) = 0 := rfl
    have z1 : spv (fun _ => 0) 0 = 0 := rfl
    rw [z0, z1]
    show xfix gX9_readSpot (0, [some (.inr (.inr (9, 0))), some (.inl (v)), none, none], [], M) = _; rw [xfix_unf, sX9_readSpot_0]
    simp (disch := omega) only [xk_none, xk_inl, xk_inr, xk_ite, xri_v, xrl_v, xrv_v, xb_z0, xb_z1, xb_b2, if_true, if_false, ite_true, ite_false, iZ_lit, iZ_m1, iZ_m99, iZ_m8, iZ_add, iZ_sub, iZ_mul, iZ_neg, nz0, nzi, iZ_lt, iZ_le, iZ_inj, b2_z, b2_o, ite_bPz, ite_bPo, xb_bP, iZ_xin, if_pos, ite_self, ↓reduceIte, Int.reduceAdd, Int.reduceSub, Int.reduceMul, Int.reduceNeg, Int.reduceLT, Int.reduceLE, if_neg]
  obtain ⟨M1, h1⟩ := x_spot (N := N) (T := T) (v := v) 3 0 (fun _ => 0) st M (by omega) hT (fun j hj => by omega)
  rw [t0]
  rcases h1 with ⟨f, a1, a2, a3, a4⟩ | ⟨x, st', a1, a2, a3, a4, a5, a6⟩
  · exact ⟨M1, .inl ⟨f, a1, a2, a3, a4⟩⟩
  · obtain ⟨M2, b1, b2, b3⟩ := x_adv a3
    rw [← a4] at b3
    have hw := x_wayHere False b3.1 b3.2.1 b3.2.2.1
    rw [a2]
    unfold wyA at hw
    by_cases e : 20 ≤ tk False N T x.2 ∧ tk False N T x.2 ≤ 25
    · rw [if_pos e] at hw
      obtain ⟨w, ew⟩ : ∃ w : Nat, (tk False N T x.2 : Int) - 20 = w := ⟨tk False N T x.2 - 20, by omega⟩
      have ew2 : tk False N T x.2 - 20 = w := by omega
      rw [ew] at hw
      have g1 : xI M2 (5, 1) 1 = iZ J := by rw [(b2 (5, 1) 1 (by simp)).1, (a5 (5, 1) 1 (by simp)).1]; exact f1
      have x0 := a6 0 (by omega)
      have x1 := a6 1 (by omega)
      have x2 := a6 2 (by omega)
      have es : 8 * spv x.1 3 + (w : Int) = ((spt (64 * x.1 2 + 8 * x.1 1 + x.1 0).toNat w : Nat) : Int) := by
        have e3 : spv x.1 3 = 8 * (8 * (8 * 0 + x.1 0) + x.1 1) + x.1 2 := rfl
        obtain ⟨n0, h0⟩ : ∃ n : Nat, x.1 0 = n := ⟨(x.1 0).toNat, by omega⟩
        obtain ⟨n1, h1⟩ : ∃ n : Nat, x.1 1 = n := ⟨(x.1 1).toNat, by omega⟩
        obtain ⟨n2, h2⟩ : ∃ n : Nat, x.1 2 = n := ⟨(x.1 2).toNat, by omega⟩
        rw [e3, h0, h1, h2]
        rw [h0] at x0
        rw [h1] at x1
        rw [h2] at x2
        have ea : (64 * (n2 : Int) + 8 * (n1 : Int) + (n0 : Int)).toNat = 64 * n2 + 8 * n1 + n0 := by omega
        rw [ea]
        unfold spt
        rw [show (64 * n2 + 8 * n1 + n0) % 8 = n0 by omega, show (64 * n2 + 8 * n1 + n0) / 8 % 8 = n1 by omega, show (64 * n2 + 8 * n1 + n0) / 64 = n2 by omega]
        omega
      obtain ⟨M3, c1, c2, c3, c4, c5⟩ := x_addJoint (M := M2) (s := 1) (J := J) (v := v) (w := iZ ((spt (64 * x.1 2 + 8 * x.1 1 + x.1 0).toNat w : Nat) : Int)) hJ g1
      have hT3 : pT M3 N T x.2 := b3.sm c2 (by simp) (by simp)
      obtain ⟨M4, d1, d2, d3⟩ := x_adv hT3
      refine ⟨M4, .inr (.inr ⟨x, a1, e, ?_, d3, (((a5.wk fun r j z => .inl z).tr (b2.wk fun r j z => .inl z)).tr (c2.wk fun r j z => .inr z)).tr (d2.wk fun r j z => .inl z), ?_, ?_, ?_⟩)⟩
      · generalize (spt (64 * x.1 2 + 8 * x.1 1 + x.1 0).toNat w : Nat) = sp at *
        rw [xfix_unf, sX9_readSpot_4]
        simp (disch := omega) only [xk_none, xk_inl, xk_inr, xk_ite, xri_v, xrl_v, xrv_v, xb_z0, xb_z1, xb_b2, if_true, if_false, ite_true, ite_false, iZ_lit, iZ_m1, iZ_m99, iZ_m8, iZ_add, iZ_sub, iZ_mul, iZ_neg, nz0, nzi, iZ_lt, iZ_le, iZ_inj, b2_z, b2_o, ite_bPz, ite_bPo, xb_bP, iZ_xin, if_pos, ite_self, ↓reduceIte, Int.reduceAdd, Int.reduceSub, Int.reduceMul, Int.reduceNeg, Int.reduceLT, Int.reduceLE, if_neg, b1, hw, es, c1, d1]
      · rw [(d2 (5, 1) 1 (by simp)).1]; exact c3
      · rw [(d2 (41, 1) J (by simp)).1]; exact c4
      · rw [(d2 (43, 1) J (by simp)).1, ew2]; exact c5
    · rw [if_neg e] at hw
      obtain ⟨M3, c1, c2, c3⟩ := x_refuseTo b3 1
      refine ⟨M3, .inr (.inl ⟨x, a1, e, ?_, c3, ((rdC_tp a5).tr (rdC_tp b2)).tr (rdC_ff c2)⟩)⟩
      rw [xfix_unf, sX9_readSpot_4]
      simp (disch := omega) only [xk_none, xk_inl, xk_inr, xk_ite, xri_v, xrl_v, xrv_v, xb_z0, xb_z1, xb_b2, if_true, if_false, ite_true, ite_false, iZ_lit, iZ_m1, iZ_m99, iZ_m8, iZ_add, iZ_sub, iZ_mul, iZ_neg, nz0, nzi, iZ_lt, iZ_le, iZ_inj, b2_z, b2_o, ite_bPz, ite_bPo, xb_bP, iZ_xin, if_pos, ite_self, ↓reduceIte, Int.reduceAdd, Int.reduceSub, Int.reduceMul, Int.reduceNeg, Int.reduceLT, Int.reduceLE, if_neg, b1, hw, c1]
theorem x_readJoint {M : xM} {N : Nat} {T : Nat → Nat} {s : pS} (hT : pT M N T (pSt s)) (hB : cB M T s (pP s)) (hL : pLt T s (pP s)) : cRs M N T s (fX9_readJoint [.inr (.inr (9, 0))] M) (pJoint N T s) := by
  have hP := hL.1.2.2
  have f1 := hB.1.2.1
  have hJ8 := hL.1.1
  by_cases e : pJ s = 8
  · obtain ⟨M1, a1, a2, a3⟩ := x_refuseTo hT 3
    refine ⟨M1, rdC_ff a2, .inl ⟨(3, pSt s), by unfold pJoint; rw [if_pos e], ?_, a3⟩⟩
    have e9 : ((8 : Nat) : Int) = 8 := rfl
    rw [e, e9] at f1
    show xfix gX9_readJoint (0, [some (.inr (.inr (9, 0))), none, none, none], [], M) = _; rw [xfix_unf, sX9_readJoint_0]
    simp (disch := omega) only [xk_none, xk_inl, xk_inr, xk_ite, xri_v, xrl_v, xrv_v, xb_z0, xb_z1, xb_b2, if_true, if_false, ite_true, ite_false, iZ_lit, iZ_m1, iZ_m99, iZ_m8, iZ_add, iZ_sub, iZ_mul, iZ_neg, nz0, nzi, iZ_lt, iZ_le, iZ_inj, b2_z, b2_o, ite_bPz, ite_bPo, xb_bP, iZ_xin, if_pos, ite_self, ↓reduceIte, Int.reduceAdd, Int.reduceSub, Int.reduceMul, Int.reduceNeg, Int.reduceLT, Int.reduceLE, if_neg, f1, a1]
  · have t0 : fX9_readJoint [.inr (.inr (9, 0))] M = xfix gX9_readJoint (25, [some (.inr (.inr (9, 0))), some (.inl (iZ (((0 : Nat))))), some (.inl (iZ (((0 : Nat))))), none], [], M) := by
      have z0 : ((0 : Nat) : Int) = 0 := rfl
      rw [z0]
      show xfix gX9_readJoint (0, [some (.inr (.inr (9, 0))), none, none, none], [], M) = _; rw [xfix_unf, sX9_readJoint_0]
      simp (disch := omega) only [xk_none, xk_inl, xk_inr, xk_ite, xri_v, xrl_v, xrv_v, xb_z0, xb_z1, xb_b2, if_true, if_false, ite_true, ite_false, iZ_lit, iZ_m1, iZ_m99, iZ_m8, iZ_add, iZ_sub, iZ_mul, iZ_neg, nz0, nzi, iZ_lt, iZ_le, iZ_inj, b2_z, b2_o, ite_bPz, ite_bPo, xb_bP, iZ_xin, if_pos, ite_self, ↓reduceIte, Int.reduceAdd, Int.reduceSub, Int.reduceMul, Int.reduceNeg, Int.reduceLT, Int.reduceLE, if_neg, f1]
    obtain ⟨M1, h1⟩ := x_jname (i := 0) (pr := 0) hT hB hL (by omega) (by omega)
    rw [t0]
    obtain ⟨A1, e1⟩ : ∃ A1, A1 = adv N T (pSt s) := ⟨_, rfl⟩
    rw [← e1] at h1
    rcases h1 with ⟨a1, a2, a3, a4⟩ | ⟨a1, a2, a3, a4, a5⟩ | ⟨a1, a2, a3, a4, a5, a6⟩
    · exact ⟨M1, a4, .inl ⟨(1, A1), by unfold pJoint; rw [if_neg e, ← e1, if_pos a1], a2, a3⟩⟩
    · refine ⟨M1, a5, .inl ⟨(2, A1), ?_, a3, a4⟩⟩
      have a2' : ¬ pKn N T s A1 < pP s := a2.elim id fun z => by have := Nat.two_pow_pos (pKn N T s A1); omega
      unfold pJoint; rw [if_neg e, ← e1, if_neg (fun z => z a1), if_pos a2']
    · have hB1 : cB M1 T s (pP s) := hB.sm hP a6 (fun r j z => .inl z.1)
      have q1 : (2 : Nat) ^ pKn N T s A1 < 512 := Nat.pow_lt_pow_right (n := 9) (by omega) (by omega)
      rw [Nat.zero_or] at a4
      obtain ⟨M2, h2⟩ := x_jname (i := 1) (pr := 2 ^ pKn N T s A1) a5 hB1 hL (by omega) q1
      obtain ⟨A2, e2⟩ : ∃ A2, A2 = adv N T A1 := ⟨_, rfl⟩
      rw [← e2] at h2
      rw [a4]
      rcases h2 with ⟨b1, b2, b3, b4⟩ | ⟨b1, b2, b3, b4, b5⟩ | ⟨b1, b2, b3, b4, b5, b6⟩
      · exact ⟨M2, (rdC_tp a6).tr b4, .inl ⟨(1, A2), by unfold pJoint; rw [if_neg e, ← e1, ← e2, if_neg (fun z => z a1), if_neg (fun z => z a2), if_pos b1], b2, b3⟩⟩
      · refine ⟨M2, (rdC_tp a6).tr b5, .inl ⟨(2, A2), ?_, b3, b4⟩⟩
        have b2' : ¬ pKn N T s A2 < pP s ∨ pKn N T s A2 = pKn N T s A1 := b2.imp id fun z => (pow2_inj z).symm
        unfold pJoint; rw [if_neg e, ← e1, ← e2, if_neg (fun z => z a1), if_neg (fun z => z a2), if_neg (fun z => z b1), if_pos b2']
      · have b3' : ¬ (¬ pKn N T s A2 < pP s ∨ pKn N T s A2 = pKn N T s A1) := fun z => z.elim (fun z => z b2) (fun z => b3 (by rw [z]))
        have g1 : xI M2 (5, 1) 1 = iZ (pJ s) := by rw [(b6 (5, 1) 1 (by simp)).1, (a6 (5, 1) 1 (by simp)).1]; exact f1
        have hB2 : cB M2 T s (pP s) := hB1.sm hP b6 (fun r j z => .inl z.1)
        obtain ⟨M3, h3⟩ := x_readSpot (v := iZ ((2 ^ pKn N T s A1 ||| 2 ^ pKn N T s A2 : Nat) : Int)) b5 g1 (by omega)
        obtain ⟨A3, e3⟩ : ∃ A3, A3 = adv N T A2 := ⟨_, rfl⟩
        rw [← e3] at h3
        have pre : pJoint N T s = match rdB N T 0 3 0 (fun _ => 0) A3 with
          | .inl f => .inl f
          | .inr x => if 20 ≤ tk False N T x.2 ∧ tk False N T x.2 ≤ 25 then pNeed False N T (adv N T x.2, s.2.1, (pJ s + 1, (fun j => if j = pJ s then pKn N T s A1 else pOne s j), (fun j => if j = pJ s then pKn N T s A2 else pTwo s j), (fun j => if j = pJ s then (64 * x.1 2 + 8 * x.1 1 + x.1 0).toNat else pAt s j), fun j => if j = pJ s then tk False N T x.2 - 20 else pWy s j), s.2.2.2) 59 else .inl (1, x.2) := by
          unfold pJoint; rw [if_neg e, ← e1, ← e2, ← e3, if_neg (fun z => z a1), if_neg (fun z => z a2), if_neg (fun z => z b1), if_neg b3']
          rfl
        have s2 : xSm rdC M M2 := (rdC_tp a6).tr (rdC_tp b6)
        rw [b4]
        have e2n : ((1 + 1 : Nat) : Int) = 2 := rfl
        rw [e2n]
        rcases h3 with ⟨f, c1, c2, c3, c4⟩ | ⟨x, c1, c2, c3, c4, c5⟩ | ⟨x, c1, c2, c3, c4, c5, c6, c7, c8⟩
        · refine ⟨M3, s2.tr c4, .inl ⟨f, by rw [pre, c1], ?_, c3⟩⟩
          generalize (2 ^ pKn N T s A1 ||| 2 ^ pKn N T s A2 : Nat) = R at *
          rw [xfix_unf, sX9_readJoint_25]
          simp (disch := omega) only [xk_none, xk_inl, xk_inr, xk_ite, xri_v, xrl_v, xrv_v, xb_z0, xb_z1, xb_b2, if_true, if_false, ite_true, ite_false, iZ_lit, iZ_m1, iZ_m99, iZ_m8, iZ_add, iZ_sub, iZ_mul, iZ_neg, nz0, nzi, iZ_lt, iZ_le, iZ_inj, b2_z, b2_o, ite_bPz, ite_bPo, xb_bP, iZ_xin, if_pos, ite_self, ↓reduceIte, Int.reduceAdd, Int.reduceSub, Int.reduceMul, Int.reduceNeg, Int.reduceLT, Int.reduceLE, if_neg, c2]
        · refine ⟨M3, s2.tr c5, .inl ⟨(1, x.2), by rw [pre, c1]; exact if_neg c2, ?_, c4⟩⟩
          generalize (2 ^ pKn N T s A1 ||| 2 ^ pKn N T s A2 : Nat) = R at *
          rw [xfix_unf, sX9_readJoint_25]
          simp (disch := omega) only [xk_none, xk_inl, xk_inr, xk_ite, xri_v, xrl_v, xrv_v, xb_z0, xb_z1, xb_b2, if_true, if_false, ite_true, ite_false, iZ_lit, iZ_m1, iZ_m99, iZ_m8, iZ_add, iZ_sub, iZ_mul, iZ_neg, nz0, nzi, iZ_lt, iZ_le, iZ_inj, b2_z, b2_o, ite_bPz, ite_bPo, xb_bP, iZ_xin, if_pos, ite_self, ↓reduceIte, Int.reduceAdd, Int.reduceSub, Int.reduceMul, Int.reduceNeg, Int.reduceLT, Int.reduceLE, if_neg, c3]
        · obtain ⟨M4, h4⟩ := x_pass c4
          have s3 : xSm rdC M2 M3 := c5.wk fun r j z => by
            rcases z with z | z | z | z
            · exact .inl ⟨z.1, by omega⟩
            · rw [z.1]; simp [rdC]
            · rw [z.1]; simp [rdC]
            · rw [z.1]; simp [rdC]
          have pre2 : pJoint N T s = pNeed False N T (adv N T x.2, s.2.1, (pJ s + 1, (fun j => if j = pJ s then pKn N T s A1 else pOne s j), (fun j => if j = pJ s then pKn N T s A2 else pTwo s j), (fun j => if j = pJ s then (64 * x.1 2 + 8 * x.1 1 + x.1 0).toNat else pAt s j), fun j => if j = pJ s then tk False N T x.2 - 20 else pWy s j), s.2.2.2) 59 := by rw [pre, c1]; exact if_pos c2
          rcases h4 with ⟨d1, d2, d3, d4⟩ | ⟨d1, d2, d3, d4⟩
          · refine ⟨M4, (s2.tr s3).tr (rdC_tp d3), .inr ⟨(adv N T (adv N T x.2), s.2.1, (pJ s + 1, (fun j => if j = pJ s then pKn N T s A1 else pOne s j), (fun j => if j = pJ s then pKn N T s A2 else pTwo s j), (fun j => if j = pJ s then (64 * x.1 2 + 8 * x.1 1 + x.1 0).toNat else pAt s j), fun j => if j = pJ s then tk False N T x.2 - 20 else pWy s j), s.2.2.2), by rw [pre2]; exact if_pos d1, ?_, d4, ?_, ?_, ?_⟩⟩
            · generalize (2 ^ pKn N T s A1 ||| 2 ^ pKn N T s A2 : Nat) = R at *
              rw [xfix_unf, sX9_readJoint_25]
              simp (disch := omega) only [xk_none, xk_inl, xk_inr, xk_ite, xri_v, xrl_v, xrv_v, xb_z0, xb_z1, xb_b2, if_true, if_false, ite_true, ite_false, iZ_lit, iZ_m1, iZ_m99, iZ_m8, iZ_add, iZ_sub, iZ_mul, iZ_neg, nz0, nzi, iZ_lt, iZ_le, iZ_inj, b2_z, b2_o, ite_bPz, ite_bPo, xb_bP, iZ_xin, if_pos, ite_self, ↓reduceIte, Int.reduceAdd, Int.reduceSub, Int.reduceMul, Int.reduceNeg, Int.reduceLT, Int.reduceLE, if_neg, c3, d2]
            · obtain ⟨⟨u1, u2, u3⟩, u4, u5, u6, u7⟩ := hB2
              have sI : ∀ r j, r ≠ (8, 0) → (r ≠ (5, 1) ∨ j ≠ 1) → ((r ≠ (41, 1) ∧ r ≠ (43, 1)) ∨ j ≠ pJ s) → xI M4 r j = xI M2 r j ∧ xL M4 r j = xL M2 r j := fun r j r1 r2 r3 => by
                have k1 := d3 r j (fun z => r1 z.1)
                have k2 := c5 r j (fun z => by
                  rcases z with z | z | z | z
                  · exact r1 z.1
                  · exact r2.elim (fun y => y z.1) (fun y => y z.2)
                  · exact r3.elim (fun y => y.1 z.1) (fun y => y z.2)
                  · exact r3.elim (fun y => y.2 z.1) (fun y => y z.2))
                exact ⟨k1.1.trans k2.1, k1.2.trans k2.2⟩
              have sS : ∀ k c, sB M4 k c = sB M2 k c := fun k c => by unfold sB; rw [(sI (44, k) (c / 64) (by simp) (by simp) (by simp)).2]
              refine ⟨⟨?_, ?_, ?_⟩, fun q hq => ?_, fun p hp c hc => ?_, fun c hc => ?_, fun j hj => ?_⟩
              · rw [(sI _ _ (by simp) (by simp) (by simp)).1]; exact u1
              · rw [(d3 (5, 1) 1 (by simp)).1]; exact c6
              · rw [(sI _ _ (by simp) (by simp) (by simp)).1]; exact u3
              · rw [(sI _ _ (by simp) (by simp) (by simp)).1]; exact u4 q hq
              · rw [sS]; exact u5 p hp c hc
              · rw [sS]; exact u6 c hc
              · show xI M4 (41, 1) j = iZ ((2 ^ (if j = pJ s then pKn N T s A1 else pOne s j) ||| 2 ^ (if j = pJ s then pKn N T s A2 else pTwo s j) : Nat) : Int) ∧ xI M4 (43, 1) j = iZ ((spt (if j = pJ s then (64 * x.1 2 + 8 * x.1 1 + x.1 0).toNat else pAt s j) (if j = pJ s then tk False N T x.2 - 20 else pWy s j) : Nat) : Int)
                by_cases z : j = pJ s
                · rw [if_pos z, if_pos z, if_pos z, if_pos z, z, (d3 (41, 1) _ (by simp)).1, (d3 (43, 1) _ (by simp)).1]
                  exact ⟨c7, c8⟩
                · have hj' : j < pJ s + 1 := hj
                  rw [if_neg z, if_neg z, if_neg z, if_neg z, (sI (41, 1) j (by simp) (by simp) (.inr z)).1, (sI (43, 1) j (by simp) (by simp) (.inr z)).1]
                  exact u7 j (by omega)
            · obtain ⟨⟨l1, l2, l3⟩, l4, l5⟩ := hL
              have : pJ s + 1 ≤ 8 := by omega
              exact ⟨⟨this, l2, l3⟩, l4, l5⟩
            · show pP s + (pJ s + 1) = pP s + pJ s + 1
              omega
          · refine ⟨M4, (s2.tr s3).tr (rdC_ff d3), .inl ⟨(1, adv N T x.2), by rw [pre2]; exact if_neg d1, ?_, d4⟩⟩
            generalize (2 ^ pKn N T s A1 ||| 2 ^ pKn N T s A2 : Nat) = R at *
            rw [xfix_unf, sX9_readJoint_25]
            simp (disch := omega) only [xk_none, xk_inl, xk_inr, xk_ite, xri_v, xrl_v, xrv_v, xb_z0, xb_z1, xb_b2, if_true, if_false, ite_true, ite_false, iZ_lit, iZ_m1, iZ_m99, iZ_m8, iZ_add, iZ_sub, iZ_mul, iZ_neg, nz0, nzi, iZ_lt, iZ_le, iZ_inj, b2_z, b2_o, ite_bPz, ite_bPo, xb_bP, iZ_xin, if_pos, ite_self, ↓reduceIte, Int.reduceAdd, Int.reduceSub, Int.reduceMul, Int.reduceNeg, Int.reduceLT, Int.reduceLE, if_neg, c3, d2]
theorem x_reads {N : Nat} {T : Nat → Nat} : ∀ (n : Nat) (M : xM) (s : pS), 18 ≤ pP s + pJ s + n → pT M N T (pSt s) → cB M T s (pP s) → pLt T s (pP s) → ∃ M', xSm rdC M M' ∧ ((∃ f, pAll N T n s = .inl f ∧ xfix gX9_readAll (23, [some (.inr (.inr (9, 0))), some (.inl (iZ ((1 : Int)))), some (.inl (iZ (((pP s + pJ s : Nat)))))], [], M) = some (some (.inl (iZ (0))), M') ∧ cFl M' f) ∨ ∃ s', pAll N T n s = .inr s' ∧ xfix gX9_readAll (23, [some (.inr (.inr (9, 0))), some (.inl (iZ ((1 : Int)))), some (.inl (iZ (((pP s + pJ s : Nat)))))], [], M) = some (some (.inl (iZ (1))), M') ∧ pT M' N T (pSt s') ∧ cB M' T s' (pP s') ∧ pLt T s' (pP s')) := by
  intro n
  induction n with
  | zero =>
    intro M s h1 _ _ hL
    have := hL.1
    omega
  | succ n ih =>
    intro M s h1 hT hB hL
    have hb := hL.1
    have hk := hT.2.1.2.2.1
    have hc := ck_b N T (pSt s)
    have hn := (tk_num (N := N) (T := T) (st := pSt s) False).2.1
    by_cases e0 : tk False N T (pSt s) = 0
    · refine ⟨M, xSm.rf, .inr ⟨s, if_pos e0, ?_, hT, hB, hL⟩⟩
      rw [hn.mpr e0] at hk
      generalize pP s + pJ s = m at *
      rw [xfix_unf, sX9_readAll_23]
      simp (disch := omega) only [xk_none, xk_inl, xk_inr, xk_ite, xri_v, xrl_v, xrv_v, xb_z0, xb_z1, xb_b2, if_true, if_false, ite_true, ite_false, iZ_lit, iZ_m1, iZ_m99, iZ_m8, iZ_add, iZ_sub, iZ_mul, iZ_neg, nz0, nzi, iZ_lt, iZ_le, iZ_inj, b2_z, b2_o, ite_bPz, ite_bPo, xb_bP, iZ_xin, if_pos, ite_self, ↓reduceIte, Int.reduceAdd, Int.reduceSub, Int.reduceMul, Int.reduceNeg, Int.reduceLT, Int.reduceLE, if_neg, hk]
    · have e0' : ¬ ck N T (pSt s) = 0 := fun z => e0 (hn.mp z)
      have h0 := x_says (k := 0) hT.1 hT.2.1 hT.2.2.1 (by omega)
      have h2 := x_says (k := 2) hT.1 hT.2.1 hT.2.2.1 (by omega)
      rw [bP_c (tk_key (j := 0) (by omega))] at h0
      rw [bP_c (tk_key (j := 2) (by omega))] at h2
      have fin0 : ∀ K : xM, ∀ m : Nat, m ≤ 19 → xfix gX9_readAll (23, [some (.inr (.inr (9, 0))), some (.inl (iZ ((0 : Int)))), some (.inl (iZ (m)))], [], K) = some (some (.inl (iZ (0))), K) := fun K m hm => by
        rw [xfix_unf, sX9_readAll_23]
        simp (disch := omega) only [xk_none, xk_inl, xk_inr, xk_ite, xri_v, xrl_v, xrv_v, xb_z0, xb_z1, xb_b2, if_true, if_false, ite_true, ite_false, iZ_lit, iZ_m1, iZ_m99, iZ_m8, iZ_add, iZ_sub, iZ_mul, iZ_neg, nz0, nzi, iZ_lt, iZ_le, iZ_inj, b2_z, b2_o, ite_bPz, ite_bPo, xb_bP, iZ_xin, if_pos, ite_self, ↓reduceIte, Int.reduceAdd, Int.reduceSub, Int.reduceMul, Int.reduceNeg, Int.reduceLT, Int.reduceLE, if_neg]
      by_cases e4 : tk False N T (pSt s) = 4 + 0
      · rw [bP_t e4] at h0
        have eA : pAll N T (n + 1) s = match pPart N T s with
          | .inl f => .inl f
          | .inr s' => pAll N T n s' := by
          show (if tk False N T (pSt s) = 0 then _ else if tk False N T (pSt s) = 4 then _ else _) = _
          rw [if_neg e0, if_pos e4]
          cases pPart N T s <;> rfl
        obtain ⟨M1, a1, a2⟩ := x_readPart hT hB hL
        rcases a2 with ⟨f, b1, b2, b3⟩ | ⟨s', b1, b2, b3, b4, b5, b6⟩
        · refine ⟨M1, a1, .inl ⟨f, by rw [eA, b1], ?_, b3⟩⟩
          refine Eq.trans ?_ (fin0 M1 (pP s + pJ s + 1) (by omega))
          rw [nS]
          have hm : pP s + pJ s ≤ 17 := by omega
          generalize pP s + pJ s = m at *
          generalize ck N T (pSt s) = y at *
          rw [xfix_unf, sX9_readAll_23]
          simp (disch := omega) only [xk_none, xk_inl, xk_inr, xk_ite, xri_v, xrl_v, xrv_v, xb_z0, xb_z1, xb_b2, if_true, if_false, ite_true, ite_false, iZ_lit, iZ_m1, iZ_m99, iZ_m8, iZ_add, iZ_sub, iZ_mul, iZ_neg, nz0, nzi, iZ_lt, iZ_le, iZ_inj, b2_z, b2_o, ite_bPz, ite_bPo, xb_bP, iZ_xin, if_pos, ite_self, ↓reduceIte, Int.reduceAdd, Int.reduceSub, Int.reduceMul, Int.reduceNeg, Int.reduceLT, Int.reduceLE, if_neg, hk, h0, b2]
        · obtain ⟨M2, g1, g2⟩ := ih M1 s' (by omega) b3 b4 b5
          have t1 : xfix gX9_readAll (23, [some (.inr (.inr (9, 0))), some (.inl (iZ ((1 : Int)))), some (.inl (iZ (((pP s + pJ s : Nat)))))], [], M) = xfix gX9_readAll (23, [some (.inr (.inr (9, 0))), some (.inl (iZ ((1 : Int)))), some (.inl (iZ (((pP s' + pJ s' : Nat)))))], [], M1) := by
            rw [b6, nS]
            have hm : pP s + pJ s ≤ 17 := by omega
            generalize pP s + pJ s = m at *
            generalize ck N T (pSt s) = y at *
            rw [xfix_unf, sX9_readAll_23]
            simp (disch := omega) only [xk_none, xk_inl, xk_inr, xk_ite, xri_v, xrl_v, xrv_v, xb_z0, xb_z1, xb_b2, if_true, if_false, ite_true, ite_false, iZ_lit, iZ_m1, iZ_m99, iZ_m8, iZ_add, iZ_sub, iZ_mul, iZ_neg, nz0, nzi, iZ_lt, iZ_le, iZ_inj, b2_z, b2_o, ite_bPz, ite_bPo, xb_bP, iZ_xin, if_pos, ite_self, ↓reduceIte, Int.reduceAdd, Int.reduceSub, Int.reduceMul, Int.reduceNeg, Int.reduceLT, Int.reduceLE, if_neg, hk, h0, b2]
          rw [eA, b1, t1]
          exact ⟨M2, a1.tr g1, g2⟩
      · rw [bP_f e4] at h0
        by_cases e6 : tk False N T (pSt s) = 4 + 2
        · rw [bP_t e6] at h2
          have eA : pAll N T (n + 1) s = match pJoint N T s with
            | .inl f => .inl f
            | .inr s' => pAll N T n s' := by
            show (if tk False N T (pSt s) = 0 then _ else if tk False N T (pSt s) = 4 then _ else if tk False N T (pSt s) = 6 then _ else _) = _
            rw [if_neg e0, if_neg e4, if_pos e6]
            cases pJoint N T s <;> rfl
          obtain ⟨M1, a1, a2⟩ := x_readJoint hT hB hL
          rcases a2 with ⟨f, b1, b2, b3⟩ | ⟨s', b1, b2, b3, b4, b5, b6⟩
          · refine ⟨M1, a1, .inl ⟨f, by rw [eA, b1], ?_, b3⟩⟩
            refine Eq.trans ?_ (fin0 M1 (pP s + pJ s + 1) (by omega))
            rw [nS]
            have hm : pP s + pJ s ≤ 17 := by omega
            generalize pP s + pJ s = m at *
            generalize ck N T (pSt s) = y at *
            rw [xfix_unf, sX9_readAll_23]
            simp (disch := omega) only [xk_none, xk_inl, xk_inr, xk_ite, xri_v, xrl_v, xrv_v, xb_z0, xb_z1, xb_b2, if_true, if_false, ite_true, ite_false, iZ_lit, iZ_m1, iZ_m99, iZ_m8, iZ_add, iZ_sub, iZ_mul, iZ_neg, nz0, nzi, iZ_lt, iZ_le, iZ_inj, b2_z, b2_o, ite_bPz, ite_bPo, xb_bP, iZ_xin, if_pos, ite_self, ↓reduceIte, Int.reduceAdd, Int.reduceSub, Int.reduceMul, Int.reduceNeg, Int.reduceLT, Int.reduceLE, if_neg, hk, h0, h2, b2]
          · obtain ⟨M2, g1, g2⟩ := ih M1 s' (by omega) b3 b4 b5
            have t1 : xfix gX9_readAll (23, [some (.inr (.inr (9, 0))), some (.inl (iZ ((1 : Int)))), some (.inl (iZ (((pP s + pJ s : Nat)))))], [], M) = xfix gX9_readAll (23, [some (.inr (.inr (9, 0))), some (.inl (iZ ((1 : Int)))), some (.inl (iZ (((pP s' + pJ s' : Nat)))))], [], M1) := by
              rw [b6, nS]
              have hm : pP s + pJ s ≤ 17 := by omega
              generalize pP s + pJ s = m at *
              generalize ck N T (pSt s) = y at *
              rw [xfix_unf, sX9_readAll_23]
              simp (disch := omega) only [xk_none, xk_inl, xk_inr, xk_ite, xri_v, xrl_v, xrv_v, xb_z0, xb_z1, xb_b2, if_true, if_false, ite_true, ite_false, iZ_lit, iZ_m1, iZ_m99, iZ_m8, iZ_add, iZ_sub, iZ_mul, iZ_neg, nz0, nzi, iZ_lt, iZ_le, iZ_inj, b2_z, b2_o, ite_bPz, ite_bPo, xb_bP, iZ_xin, if_pos, ite_self, ↓reduceIte, Int.reduceAdd, Int.reduceSub, Int.reduceMul, Int.reduceNeg, Int.reduceLT, Int.reduceLE, if_neg, hk, h0, h2, b2]
            rw [eA, b1, t1]
            exact ⟨M2, a1.tr g1, g2⟩
        · rw [bP_f e6] at h2
          have eA : pAll N T (n + 1) s = .inl (1, pSt s) := by
            show (if tk False N T (pSt s) = 0 then _ else if tk False N T (pSt s) = 4 then _ else if tk False N T (pSt s) = 6 then _ else _) = _
            rw [if_neg e0, if_neg e4, if_neg e6]
          obtain ⟨M1, b1, b2, b3⟩ := x_refuseTo hT 1
          refine ⟨M1, rdC_ff b2, .inl ⟨(1, pSt s), eA, ?_, b3⟩⟩
          refine Eq.trans ?_ (fin0 M1 (pP s + pJ s + 1) (by omega))
          rw [nS]
          have hm : pP s + pJ s ≤ 17 := by omega
          generalize pP s + pJ s = m at *
          generalize ck N T (pSt s) = y at *
          rw [xfix_unf, sX9_readAll_23]
          simp (disch := omega) only [xk_none, xk_inl, xk_inr, xk_ite, xri_v, xrl_v, xrv_v, xb_z0, xb_z1, xb_b2, if_true, if_false, ite_true, ite_false, iZ_lit, iZ_m1, iZ_m99, iZ_m8, iZ_add, iZ_sub, iZ_mul, iZ_neg, nz0, nzi, iZ_lt, iZ_le, iZ_inj, b2_z, b2_o, ite_bPz, ite_bPo, xb_bP, iZ_xin, if_pos, ite_self, ↓reduceIte, Int.reduceAdd, Int.reduceSub, Int.reduceMul, Int.reduceNeg, Int.reduceLT, Int.reduceLE, if_neg, hk, h0, h2, b1]
theorem x_rewind {M : xM} {N : Nat} {T : Nat → Nat} (h : cT M N T) : ∃ M', fX8_rewind [.inr (.inr (8, 0))] M = some (none, M') ∧ xSm (fun r j => r = (8, 0) ∧ 2 ≤ j ∧ j ≤ 7) M M' ∧ pT M' N T (sk N T 0) := by
  have s1 : xSm (fun r j => r = (8, 0) ∧ 2 ≤ j ∧ j ≤ 7) M (xpI (xpI (xpI M (8, 0) 7 (iZ 0)) (8, 0) 2 (iZ 0)) (8, 0) 3 (iZ (-1))) := ((xSm.rf.pI (by first | exact ⟨rfl, by omega⟩ | exact .inl ⟨rfl, by omega⟩ | exact .inr (.inl rfl) | exact .inr (.inl ⟨rfl, rfl⟩) | exact .inr (.inr (.inl rfl)) | exact .inr (.inr (.inr rfl)))).pI (by first | exact ⟨rfl, by omega⟩ | exact .inl ⟨rfl, by omega⟩ | exact .inr (.inl rfl) | exact .inr (.inl ⟨rfl, rfl⟩) | exact .inr (.inr (.inl rfl)) | exact .inr (.inr (.inr rfl)))).pI (by first | exact ⟨rfl, by omega⟩ | exact .inl ⟨rfl, by omega⟩ | exact .inr (.inl rfl) | exact .inr (.inl ⟨rfl, rfl⟩) | exact .inr (.inr (.inl rfl)) | exact .inr (.inr (.inr rfl)))
  have h1 : cT (xpI (xpI (xpI M (8, 0) 7 (iZ 0)) (8, 0) 2 (iZ 0)) (8, 0) 3 (iZ (-1))) N T := h.sm s1 (by simp) (by simp)
  obtain ⟨M1, a1, a2, a3⟩ := x_advance h1 (i := 0) (by rw [pR_ne (by omega), pR_ne (by omega), pR_eq]; rfl) (by omega)
  refine ⟨M1, ?_, s1.tr (a2.wk fun r j z => ⟨z.1, by omega⟩), h1.tp a2, a3, (rn_b (P := isB) (T := T) (by omega)).2, ?_, ?_⟩
  · show xfix gX8_rewind (0, [some (.inr (.inr (8, 0)))], [], M) = _; rw [xfix_unf, sX8_rewind_0]
    simp (disch := omega) only [xk_none, xk_inl, xk_inr, xk_ite, xri_v, xrl_v, xrv_v, xb_z0, xb_z1, xb_b2, if_true, if_false, ite_true, ite_false, iZ_lit, iZ_m1, iZ_m99, iZ_m8, iZ_add, iZ_sub, iZ_mul, iZ_neg, nz0, nzi, iZ_lt, iZ_le, iZ_inj, b2_z, b2_o, ite_bPz, ite_bPo, xb_bP, iZ_xin, if_pos, ite_self, ↓reduceIte, Int.reduceAdd, Int.reduceSub, Int.reduceMul, Int.reduceNeg, Int.reduceLT, Int.reduceLE, if_neg, a1]
  · rw [(a2 (8, 0) 2 (by simp)).1, pR_ne (by omega), pR_eq]
  · rw [(a2 (8, 0) 3 (by simp)).1, pR_eq]
theorem x_readAll {M : xM} {N : Nat} {T : Nat → Nat} (h : cT M N T) : ∃ M', xSm rdC M M' ∧ ((∃ f, pThing N T = .inl f ∧ fX9_readAll [.inr (.inr (9, 0))] M = some (some (.inl (iZ (0))), M') ∧ cFl M' f) ∨ ∃ s', pThing N T = .inr s' ∧ fX9_readAll [.inr (.inr (9, 0))] M = some (some (.inl (iZ (1))), M') ∧ pT M' N T (pSt s') ∧ cB M' T s' (pP s') ∧ pLt T s' (pP s')) := by
  obtain ⟨M1, a1, a2, ⟨a3, a4, a5⟩, a6, a7⟩ := x_clear (M := M) (s := 1)
  have s1 : xSm rdC M M1 := a2.wk fun r j z => by
    rcases z with z | z | z
    · rw [z.1]; simp [rdC]
    · subst z; simp [rdC]
    · subst z; simp [rdC]
  have s2 : xSm rdC M (xpI M1 (9, 0) 4 (iZ 0)) := s1.pI (by first | exact ⟨rfl, by omega⟩ | exact .inl ⟨rfl, by omega⟩ | exact .inr (.inl rfl) | exact .inr (.inl ⟨rfl, rfl⟩) | exact .inr (.inr (.inl rfl)) | exact .inr (.inr (.inr rfl)))
  have h1 : cT (xpI M1 (9, 0) 4 (iZ 0)) N T := h.sm s2 (by simp) (by simp)
  obtain ⟨M2, b1, b2, b3⟩ := x_rewind h1
  have s3 : xSm rdC M M2 := s2.tr (b2.wk fun r j z => .inl z)
  have f : ∀ r j, r ≠ (8, 0) → r ≠ (9, 0) → xI M2 r j = xI M1 r j := fun r j r1 r2 => by rw [(b2 r j (fun z => r1 z.1)).1, xI_pI, if_neg (fun z => r2 z.1)]
  obtain ⟨s0, es⟩ : ∃ s0 : pS, s0 = (sk N T 0, (0, (fun _ => 0), fun _ => 0), (0, (fun _ => 0), (fun _ => 0), (fun _ => 0), fun _ => 0), 0, fun _ => -1) := ⟨_, rfl⟩
  have p1 : pSt s0 = sk N T 0 := by rw [es]; rfl
  have p2 : pP s0 = 0 ∧ pJ s0 = 0 ∧ pX s0 = 0 := by rw [es]; exact ⟨rfl, rfl, rfl⟩
  have p3 : ∀ c, pC s0 c = -1 := fun c => by rw [es]; rfl
  have eT : pThing N T = pAll N T 900 s0 := by rw [es]; rfl
  have hB : cB M2 T s0 (pP s0) := by
    rw [p2.1]
    refine ⟨⟨?_, ?_, ?_⟩, fun q hq => by omega, fun p hp => by omega, fun c hc => ?_, fun j hj => by rw [p2.2.1] at hj; omega⟩
    · rw [f _ _ (by simp) (by simp)]; exact a3
    · rw [f _ _ (by simp) (by simp), p2.2.1]; exact a4
    · rw [(b2 (9, 0) 4 (by simp)).1, pR_eq, p2.2.2]; rfl
    · have e1 : sB M2 (10 * 1) c = sB M1 (10 * 1) c := by unfold sB; rw [(b2 (44, 10 * 1) (c / 64) (by simp)).2]; rfl
      rw [e1, a7 c hc, p3 c]
      exact ⟨fun z => Bool.noConfusion z, fun z => absurd rfl z⟩
  have hL : pLt T s0 (pP s0) := by
    rw [p2.1]
    exact ⟨⟨by omega, by omega, by omega⟩, fun q hq => by omega, fun c hc => by rw [p3 c]; omega⟩
  rw [← p1] at b3
  obtain ⟨M3, g1, g2⟩ := x_reads (N := N) (T := T) 900 M2 s0 (by omega) b3 hB hL
  have t0 : fX9_readAll [.inr (.inr (9, 0))] M = xfix gX9_readAll (23, [some (.inr (.inr (9, 0))), some (.inl (iZ ((1 : Int)))), some (.inl (iZ (((pP s0 + pJ s0 : Nat)))))], [], M2) := by
    have z0 : ((pP s0 + pJ s0 : Nat) : Int) = 0 := by omega
    rw [z0]
    show xfix gX9_readAll (0, [some (.inr (.inr (9, 0))), none, none], [], M) = _; rw [xfix_unf, sX9_readAll_0]
    simp (disch := omega) only [xk_none, xk_inl, xk_inr, xk_ite, xri_v, xrl_v, xrv_v, xb_z0, xb_z1, xb_b2, if_true, if_false, ite_true, ite_false, iZ_lit, iZ_m1, iZ_m99, iZ_m8, iZ_add, iZ_sub, iZ_mul, iZ_neg, nz0, nzi, iZ_lt, iZ_le, iZ_inj, b2_z, b2_o, ite_bPz, ite_bPo, xb_bP, iZ_xin, if_pos, ite_self, ↓reduceIte, Int.reduceAdd, Int.reduceSub, Int.reduceMul, Int.reduceNeg, Int.reduceLT, Int.reduceLE, if_neg, a1, b1]
  rw [eT, t0]
  exact ⟨M3, s3.tr g1, g2⟩
