/-! the class: a part's text -/
def nmV (T : Nat → Nat) (s : pS) (q : Nat) : Int := wv (fun k => T (pNa s q + k)) (pNl s q)
/-- the draft holds what was read so far; n parts -/
def cB (M : xM) (T : Nat → Nat) (s : pS) (n : Nat) : Prop := (xI M (5, 1) 0 = iZ n ∧ xI M (5, 1) 1 = iZ (pJ s) ∧ xI M (9, 0) 4 = iZ (pX s)) ∧ (∀ q, q < n → xI M (40, 1) q = iZ (nmV T s q)) ∧ (∀ p, p < n → ∀ c, c < 512 → (sB M (10 * 1 + 1 + p) c = true ↔ pC s c = p)) ∧ (∀ c, c < 512 → (sB M (10 * 1) c = true ↔ pC s c ≠ -1)) ∧ ∀ j, j < pJ s → xI M (41, 1) j = iZ ((2 ^ pOne s j ||| 2 ^ pTwo s j : Nat) : Int) ∧ xI M (43, 1) j = iZ (spt (pAt s j) (pWy s j))
theorem cB.sm {M M' : xM} {T : Nat → Nat} {s : pS} {n : Nat} {P : xR → Nat → Prop} (h : cB M T s n) (hn : n ≤ 9) (hs : xSm P M M') (h1 : ∀ r j, P r j → r = (8, 0) ∨ r = (48, 0) ∨ r = (44, 20)) : cB M' T s n := by
  obtain ⟨⟨a1, a2, a3⟩, b, c, d, e⟩ := h
  have f : ∀ r j, r ≠ (8, 0) → r ≠ (48, 0) → r ≠ (44, 20) → xI M' r j = xI M r j ∧ xL M' r j = xL M r j := fun r j x1 x2 x3 => hs r j fun z => (h1 r j z).elim x1 fun z => z.elim x2 x3
  have g : ∀ k c, k ≠ 20 → sB M' k c = sB M k c := fun k c hk => by unfold sB; rw [(f (44, k) (c / 64) (by simp) (by simp) (by simp; omega)).2]
  refine ⟨⟨?_, ?_, ?_⟩, fun q hq => ?_, fun p hp c' hc => ?_, fun c' hc => ?_, fun j hj => ⟨?_, ?_⟩⟩
  · rw [(f _ _ (by simp) (by simp) (by simp)).1]; exact a1
  · rw [(f _ _ (by simp) (by simp) (by simp)).1]; exact a2
  · rw [(f _ _ (by simp) (by simp) (by simp)).1]; exact a3
  · rw [(f _ _ (by simp) (by simp) (by simp)).1]; exact b q hq
  · rw [g _ _ (by omega)]; exact c p hp c' hc
  · rw [g _ _ (by omega)]; exact d c' hc
  · rw [(f _ _ (by simp) (by simp) (by simp)).1]; exact (e j hj).1
  · rw [(f _ _ (by simp) (by simp) (by simp)).1]; exact (e j hj).2
def pLt (T : Nat → Nat) (s : pS) (n : Nat) : Prop := (pJ s ≤ 8 ∧ pX s ≤ 24 ∧ n ≤ 9) ∧ (∀ q, q < n → 1 ≤ pNl s q ∧ pNl s q ≤ 6 ∧ ∀ k, k < pNl s q → isL (T (pNa s q + k))) ∧ ∀ c, c < 512 → -1 ≤ pC s c ∧ pC s c < n
abbrev rdC (r : xR) (j : Nat) : Prop := (r = (8, 0) ∧ 2 ≤ j ∧ j ≤ 7) ∨ r = (9, 0) ∨ r = (48, 0) ∨ (r.2 = 1 ∧ (r.1 = 5 ∨ r.1 = 38 ∨ r.1 = 40 ∨ r.1 = 41 ∨ r.1 = 43)) ∨ (r.1 = 44 ∧ 10 ≤ r.2 ∧ r.2 ≤ 20)
theorem rdC_tp {M M' : xM} (h : xSm tpF M M') : xSm rdC M M' := h.wk fun r j z => .inl ⟨z.1, by omega⟩
theorem rdC_ff {M M' : xM} (h : xSm ffF M M') : xSm rdC M M' := h.wk fun r j z => .inl ⟨z.1, by omega⟩
abbrev rbF (r : xR) (j : Nat) : Prop := (r = (8, 0) ∧ 2 ≤ j ∧ j ≤ 7) ∨ r = (48, 0)
theorem rbF_tp {M M' : xM} (h : xSm tpF M M') : xSm rbF M M' := h.wk fun r j z => .inl ⟨z.1, by omega⟩
theorem rbF_ff {M M' : xM} (h : xSm ffF M M') : xSm rbF M M' := h.wk fun r j z => .inl ⟨z.1, by omega⟩
theorem x_named {M : xM} {N st : Nat} {T : Nat → Nat} {s : pS} (hT : pT M N T st) (hB : cB M T s (pP s)) (hL : pLt T s (pP s)) (h3 : ck N T st = 1) : fX5_partNamed [.inr (.inr (5, 1)), .inl (iZ ((wv (fun k => T (st + k)) (tE N T st - st))))] M = some (some (.inl (iZ (if pKn N T s st < pP s then (pKn N T s st : Int) else -1))), M) := by
  obtain ⟨_, a3, a4, a5⟩ := ck1 h3
  have hv := (hT.val h3).2
  rw [x_partNamed (nm := nmV T s) hL.1.2.2 hB.1.1 hv (fun q hq => ⟨hB.2.1 q hq, by
    obtain ⟨x1, x2, x3⟩ := hL.2.1 q hq
    have := wv_b x2 x3
    unfold r32 nmV
    omega⟩)]
  have e : lst (fun q => nmV T s q = wv (fun k => T (st + k)) (tE N T st - st)) (pP s) = pKn N T s st := lst_cg fun q hq => by
    obtain ⟨x1, x2, x3⟩ := hL.2.1 q hq
    unfold nmV wSm
    constructor
    · intro z
      obtain ⟨y1, y2⟩ := wv_inj x3 a5 z
      exact ⟨y1, y2⟩
    · rintro ⟨y1, y2⟩
      rw [← y1]
      exact wv_cg y2
  rw [e]
theorem bHi_cg {k j : Nat} {v : Int} {b : Nat → Int} (hj : j ≤ k) : bHi j (fun i => if i = k then v else b i) = bHi j b := by
  unfold bHi
  by_cases e : j < 3
  · rw [if_pos e, if_pos e]
  · rw [if_neg e, if_neg e]
    show 8 - (if j - 3 = k then v else b (j - 3)) = _
    rw [if_neg (by omega)]
theorem x_numbers {N : Nat} {T : Nat → Nat} : ∀ (n k : Nat) (b : Nat → Int) (st : Nat) (M : xM), n + k = 6 → pT M N T st → (∀ j, j < k → xI M (48, 0) j = iZ (b j) ∧ bLo j ≤ b j ∧ b j ≤ bHi j b) → ∃ M', xSm rbF M M' ∧ ((∃ f, rdB N T 6 n k b st = .inl f ∧ xfix gX9_readBox (37, [some (.inr (.inr (9, 0))), some (.inl (iZ (k)))], [], M) = some (some (.inl (iZ (0))), M') ∧ cFl M' f) ∨ ∃ x, rdB N T 6 n k b st = .inr x ∧ xfix gX9_readBox (37, [some (.inr (.inr (9, 0))), some (.inl (iZ (k)))], [], M) = some (some (.inl (iZ (1))), M') ∧ pT M' N T x.2 ∧ ∀ j, j < 6 → xI M' (48, 0) j = iZ (x.1 j) ∧ bLo j ≤ x.1 j ∧ x.1 j ≤ bHi j x.1) := by
  intro n
  induction n with
  | zero =>
    intro k b st M hk hT hb
    refine ⟨M, xSm.rf, .inr ⟨(b, st), rfl, ?_, hT, fun j hj => hb j (by omega)⟩⟩
    rw [xfix_unf, sX9_readBox_37]
    simp (disch := omega) only [xk_none, xk_inl, xk_inr, xk_ite, xri_v, xrl_v, xrv_v, xb_z0, xb_z1, xb_b2, if_true, if_false, ite_true, ite_false, iZ_lit, iZ_m1, iZ_m99, iZ_m8, iZ_add, iZ_sub, iZ_mul, iZ_neg, nz0, nzi, iZ_lt, iZ_le, iZ_inj, b2_z, b2_o, ite_bPz, ite_bPo, xb_bP, iZ_xin, if_pos, ite_self, ↓reduceIte, Int.reduceAdd, Int.reduceSub, Int.reduceMul, Int.reduceNeg, Int.reduceLT, Int.reduceLE, if_neg]
  | succ n ih =>
    intro k b st M hk hT hb
    have hkd := hT.2.1.2.2.1
    have hc := ck_b N T st
    have hn := (tk_num (N := N) (T := T) (st := st) False).1
    have eR : rdB N T 6 (n + 1) k b st = match num1 False N T st (bLo k) (if k < 6 then bHi k b else 7) with
      | .inl f => .inl f
      | .inr x => rdB N T 6 n (k + 1) (fun j => if j = k then x.1 else b j) x.2 := rfl
    rw [if_pos (by omega)] at eR
    by_cases e : tk False N T st = 2
    · have e2 := hn.mpr e
      have hv := hT.num e2
      obtain ⟨_, v1, v2⟩ := ck2 e2
      have hf := x_fits (M := M) (k := k) (v := dv T st (tE N T st - st)) (b := b) (by omega) ⟨v1, v2⟩ (fun h3 => by
        obtain ⟨y1, y2, y3⟩ := hb (k - 3) (by omega)
        refine ⟨y1, ?_⟩
        unfold bLo bHi at *
        rw [if_pos (by omega)] at y2 y3
        omega)
      rw [e2] at hkd
      by_cases e3 : bLo k ≤ dv T st (tE N T st - st) ∧ dv T st (tE N T st - st) ≤ bHi k b
      · have eN : num1 False N T st (bLo k) (bHi k b) = .inr (dv T st (tE N T st - st), adv N T st) := by
          unfold num1; rw [if_neg (fun z => z e), if_pos e3]
        rw [eN] at eR
        rw [bP_t e3] at hf
        have hT2 : pT (xpI M (48, 0) k (iZ (dv T st (tE N T st - st)))) N T st := hT.sm (P := fun r j => r = (48, 0) ∧ j = k) (xSm.rf.pI ⟨rfl, rfl⟩) (by simp) (by simp)
        obtain ⟨M1, a1, a2, a3⟩ := x_adv hT2
        have s1 : xSm rbF M M1 := (xSm.rf.pI (.inr rfl)).tr (rbF_tp a2)
        have hb1 : ∀ j, j < k + 1 → xI M1 (48, 0) j = iZ (if j = k then dv T st (tE N T st - st) else b j) ∧ bLo j ≤ (if j = k then dv T st (tE N T st - st) else b j) ∧ (if j = k then dv T st (tE N T st - st) else b j) ≤ bHi j (fun i => if i = k then dv T st (tE N T st - st) else b i) := fun j hj => by
          rw [(a2 (48, 0) j (by simp)).1, bHi_cg (by omega)]
          by_cases z : j = k
          · rw [if_pos z, z, pR_eq]; exact ⟨rfl, e3⟩
          · rw [if_neg z, pR_ne z]; exact hb j (by omega)
        obtain ⟨M', g1, g2⟩ := ih (k + 1) (fun j => if j = k then dv T st (tE N T st - st) else b j) (adv N T st) M1 (by omega) a3 hb1
        have t1 : xfix gX9_readBox (37, [some (.inr (.inr (9, 0))), some (.inl (iZ (k)))], [], M) = xfix gX9_readBox (37, [some (.inr (.inr (9, 0))), some (.inl (iZ (((k + 1 : Nat)))))], [], M1) := by
          rw [nS]
          generalize dv T st (tE N T st - st) = v at *
          rw [xfix_unf, sX9_readBox_37]
          simp (disch := omega) only [xk_none, xk_inl, xk_inr, xk_ite, xri_v, xrl_v, xrv_v, xb_z0, xb_z1, xb_b2, if_true, if_false, ite_true, ite_false, iZ_lit, iZ_m1, iZ_m99, iZ_m8, iZ_add, iZ_sub, iZ_mul, iZ_neg, nz0, nzi, iZ_lt, iZ_le, iZ_inj, b2_z, b2_o, ite_bPz, ite_bPo, xb_bP, iZ_xin, if_pos, ite_self, ↓reduceIte, Int.reduceAdd, Int.reduceSub, Int.reduceMul, Int.reduceNeg, Int.reduceLT, Int.reduceLE, if_neg, hkd, hv, hf, iZ_clampN, a1]
        rw [eR, t1]
        exact ⟨M', s1.tr g1, g2⟩
      · have eN : num1 False N T st (bLo k) (bHi k b) = .inl (4, st) := by
          unfold num1; rw [if_neg (fun z => z e), if_neg e3]
        rw [eN] at eR
        rw [bP_f e3] at hf
        obtain ⟨M1, a1, a2, a3⟩ := x_refuseTo hT 4
        refine ⟨M1, rbF_ff a2, .inl ⟨(4, st), eR, ?_, a3⟩⟩
        generalize dv T st (tE N T st - st) = v at *
        rw [xfix_unf, sX9_readBox_37]
        simp (disch := omega) only [xk_none, xk_inl, xk_inr, xk_ite, xri_v, xrl_v, xrv_v, xb_z0, xb_z1, xb_b2, if_true, if_false, ite_true, ite_false, iZ_lit, iZ_m1, iZ_m99, iZ_m8, iZ_add, iZ_sub, iZ_mul, iZ_neg, nz0, nzi, iZ_lt, iZ_le, iZ_inj, b2_z, b2_o, ite_bPz, ite_bPo, xb_bP, iZ_xin, if_pos, ite_self, ↓reduceIte, Int.reduceAdd, Int.reduceSub, Int.reduceMul, Int.reduceNeg, Int.reduceLT, Int.reduceLE, if_neg, hkd, hv, hf, a1]
    · have eN : num1 False N T st (bLo k) (bHi k b) = .inl (1, st) := by
        unfold num1; rw [if_pos e]
      rw [eN] at eR
      obtain ⟨M1, a1, a2, a3⟩ := x_refuseTo hT 1
      have e2 : ¬ ck N T st = 2 := fun z => e (hn.mp z)
      refine ⟨M1, rbF_ff a2, .inl ⟨(1, st), eR, ?_, a3⟩⟩
      generalize ck N T st = y at *
      rw [xfix_unf, sX9_readBox_37]
      simp (disch := omega) only [xk_none, xk_inl, xk_inr, xk_ite, xri_v, xrl_v, xrv_v, xb_z0, xb_z1, xb_b2, if_true, if_false, ite_true, ite_false, iZ_lit, iZ_m1, iZ_m99, iZ_m8, iZ_add, iZ_sub, iZ_mul, iZ_neg, nz0, nzi, iZ_lt, iZ_le, iZ_inj, b2_z, b2_o, ite_bPz, ite_bPo, xb_bP, iZ_xin, if_pos, ite_self, ↓reduceIte, Int.reduceAdd, Int.reduceSub, Int.reduceMul, Int.reduceNeg, Int.reduceLT, Int.reduceLE, if_neg, hkd, a1]
abbrev rxF (r : xR) (j : Nat) : Prop := rbF r j ∨ (r = (9, 0) ∧ j = 4)
theorem x_readBox {M : xM} {N st X : Nat} {T : Nat → Nat} (hT : pT M N T st) (f4 : xI M (9, 0) 4 = iZ X) (hX : X ≤ 24) : ∃ M', xSm rxF M M' ∧ ((X = 24 ∧ fX9_readBox [.inr (.inr (9, 0))] M = some (some (.inl (iZ (0))), M') ∧ cFl M' (3, st)) ∨ (X < 24 ∧ ∃ f, rdB N T 6 6 0 (fun _ => 0) (adv N T st) = .inl f ∧ fX9_readBox [.inr (.inr (9, 0))] M = some (some (.inl (iZ (0))), M') ∧ cFl M' f) ∨ (X < 24 ∧ ∃ x, rdB N T 6 6 0 (fun _ => 0) (adv N T st) = .inr x ∧ fX9_readBox [.inr (.inr (9, 0))] M = some (some (.inl (iZ (1))), M') ∧ pT M' N T x.2 ∧ xI M' (9, 0) 4 = iZ ((X + 1 : Nat) : Int) ∧ ∀ j, j < 6 → xI M' (48, 0) j = iZ (x.1 j) ∧ bLo j ≤ x.1 j ∧ x.1 j ≤ bHi j x.1)) := by
  by_cases e : X = 24
  · subst e
    obtain ⟨M1, a1, a2, a3⟩ := x_refuseTo hT 3
    refine ⟨M1, (rbF_ff a2).wk fun r j z => .inl z, .inl ⟨rfl, ?_, a3⟩⟩
    have e24 : ((24 : Nat) : Int) = 24 := rfl
    show xfix gX9_readBox (0, [some (.inr (.inr (9, 0))), none], [], M) = _; rw [xfix_unf, sX9_readBox_0]
    simp (disch := omega) only [xk_none, xk_inl, xk_inr, xk_ite, xri_v, xrl_v, xrv_v, xb_z0, xb_z1, xb_b2, if_true, if_false, ite_true, ite_false, iZ_lit, iZ_m1, iZ_m99, iZ_m8, iZ_add, iZ_sub, iZ_mul, iZ_neg, nz0, nzi, iZ_lt, iZ_le, iZ_inj, b2_z, b2_o, ite_bPz, ite_bPo, xb_bP, iZ_xin, if_pos, ite_self, ↓reduceIte, Int.reduceAdd, Int.reduceSub, Int.reduceMul, Int.reduceNeg, Int.reduceLT, Int.reduceLE, if_neg, f4, e24, a1]
  · have hT2 : pT (xpI M (9, 0) 4 (iZ ((X : Int) + 1))) N T st := hT.sm (P := fun r j => r = (9, 0) ∧ j = 4) (xSm.rf.pI ⟨rfl, rfl⟩) (by simp) (by simp)
    obtain ⟨M1, a1, a2, a3⟩ := x_adv hT2
    obtain ⟨M2, b1, b2⟩ := x_numbers (N := N) (T := T) 6 0 (fun _ => 0) (adv N T st) M1 (by omega) a3 (fun j hj => by omega)
    have s2 : xSm rxF M M2 := ((xSm.rf.pI (.inr ⟨rfl, rfl⟩)).tr ((rbF_tp a2).wk fun r j z => .inl z)).tr (b1.wk fun r j z => .inl z)
    have t0 : fX9_readBox [.inr (.inr (9, 0))] M = xfix gX9_readBox (37, [some (.inr (.inr (9, 0))), some (.inl (iZ (((0 : Nat)))))], [], M1) := by
      have z0 : ((0 : Nat) : Int) = 0 := rfl
      show xfix gX9_readBox (0, [some (.inr (.inr (9, 0))), none], [], M) = _; rw [xfix_unf, sX9_readBox_0]
      simp (disch := omega) only [xk_none, xk_inl, xk_inr, xk_ite, xri_v, xrl_v, xrv_v, xb_z0, xb_z1, xb_b2, if_true, if_false, ite_true, ite_false, iZ_lit, iZ_m1, iZ_m99, iZ_m8, iZ_add, iZ_sub, iZ_mul, iZ_neg, nz0, nzi, iZ_lt, iZ_le, iZ_inj, b2_z, b2_o, ite_bPz, ite_bPo, xb_bP, iZ_xin, if_pos, ite_self, ↓reduceIte, Int.reduceAdd, Int.reduceSub, Int.reduceMul, Int.reduceNeg, Int.reduceLT, Int.reduceLE, if_neg, f4, a1, z0]
    refine ⟨M2, s2, .inr ?_⟩
    rw [t0]
    rcases b2 with ⟨f, c1, c2, c3⟩ | ⟨x, c1, c2, c3, c4⟩
    · exact .inl ⟨by omega, f, c1, c2, c3⟩
    · refine .inr ⟨by omega, x, c1, c2, c3, ?_, c4⟩
      rw [(b1 (9, 0) 4 (by simp)).1, (a2 (9, 0) 4 (by simp)).1, pR_eq]; rfl
/-- the rest of a part's text, from a box on -/
noncomputable def bxG (N : Nat) (T : Nat → Nat) (n : Nat) (s : pS) : pR pS := match pBoxes N T n s with
  | .inl f => .inl f
  | .inr s2 => pNeed False N T (pSt s2, (pP s2 + 1, s2.2.1.2), s2.2.2) 59
theorem x_boxes {N : Nat} {T : Nat → Nat} : ∀ (n i : Nat) (s : pS) (M : xM), 25 ≤ n + pX s → i ≤ pX s → pT M N T (pSt s) → cB M T s (pP s + 1) → pLt T s (pP s + 1) → (∀ c, c < 512 → (sB M 20 c = true ↔ pC s c ≠ -1 ∧ pC s c ≠ pP s)) → ∃ M', xSm rdC M M' ∧ ((∃ f, bxG N T n s = .inl f ∧ xfix gX9_readPart (129, [some (.inr (.inr (9, 0))), some (.inl (iZ (i))), none], [], M) = some (some (.inl (iZ (0))), M') ∧ cFl M' f) ∨ ∃ s', bxG N T n s = .inr s' ∧ xfix gX9_readPart (129, [some (.inr (.inr (9, 0))), some (.inl (iZ (i))), none], [], M) = some (some (.inl (iZ (1))), M') ∧ pT M' N T (pSt s') ∧ cB M' T s' (pP s') ∧ pLt T s' (pP s') ∧ pP s' = pP s + 1 ∧ pJ s' = pJ s) := by
  intro n
  induction n with
  | zero =>
    intro i s M h1 h2 hT hB hL hC
    have := hL.1.2.1
    omega
  | succ n ih =>
    intro i s M h1 h2 hT hB hL hC
    have hX := hL.1.2.1
    have hP := hL.1.2.2
    have hs := x_says (k := 1) hT.1 hT.2.1 hT.2.2.1 (by omega)
    rw [bP_c (tk_key (j := 1) (by omega))] at hs
    by_cases e : tk False N T (pSt s) = 4 + 1
    · rw [bP_t e] at hs
      have eB : bxG N T (n + 1) s = match pBox N T s with
        | .inl f => .inl f
        | .inr s' => bxG N T n s' := by
        unfold bxG
        rw [show pBoxes N T (n + 1) s = (match pBox N T s with
          | .inl f => .inl f
          | .inr s' => pBoxes N T n s') from if_pos e]
        cases pBox N T s <;> rfl
      obtain ⟨M1, a1, a2⟩ := x_readBox hT hB.1.2.2 hX
      have f5 := hT.2.1.1
      have s1 : xSm rdC M M1 := a1.wk fun r j z => by
        rcases z with (z | z) | z
        · exact .inl z
        · exact .inr (.inr (.inl z))
        · exact .inr (.inl z.1)
      rcases a2 with ⟨b1, b2, b3⟩ | ⟨b1, f, b2, b3, b4⟩ | ⟨b1, x, b2, b3, b4, b5, b6⟩
      · have eP : pBox N T s = .inl (3, pSt s) := by unfold pBox; rw [if_neg (fun z => z e), if_pos b1]
        rw [eP] at eB
        refine ⟨M1, s1, .inl ⟨_, eB, ?_, b3⟩⟩
        rw [xfix_unf, sX9_readPart_129]
        simp (disch := omega) only [xk_none, xk_inl, xk_inr, xk_ite, xri_v, xrl_v, xrv_v, xb_z0, xb_z1, xb_b2, if_true, if_false, ite_true, ite_false, iZ_lit, iZ_m1, iZ_m99, iZ_m8, iZ_add, iZ_sub, iZ_mul, iZ_neg, nz0, nzi, iZ_lt, iZ_le, iZ_inj, b2_z, b2_o, ite_bPz, ite_bPo, xb_bP, iZ_xin, if_pos, ite_self, ↓reduceIte, Int.reduceAdd, Int.reduceSub, Int.reduceMul, Int.reduceNeg, Int.reduceLT, Int.reduceLE, if_neg, hs, b2]
      · have eP : pBox N T s = .inl f := by unfold pBox; rw [if_neg (fun z => z e), if_neg (by omega), b2]
        rw [eP] at eB
        refine ⟨M1, s1, .inl ⟨_, eB, ?_, b4⟩⟩
        rw [xfix_unf, sX9_readPart_129]
        simp (disch := omega) only [xk_none, xk_inl, xk_inr, xk_ite, xri_v, xrl_v, xrv_v, xb_z0, xb_z1, xb_b2, if_true, if_false, ite_true, ite_false, iZ_lit, iZ_m1, iZ_m99, iZ_m8, iZ_add, iZ_sub, iZ_mul, iZ_neg, nz0, nzi, iZ_lt, iZ_le, iZ_inj, b2_z, b2_o, ite_bPz, ite_bPo, xb_bP, iZ_xin, if_pos, ite_self, ↓reduceIte, Int.reduceAdd, Int.reduceSub, Int.reduceMul, Int.reduceNeg, Int.reduceLT, Int.reduceLE, if_neg, hs, b3]
      · have g0 : xI M1 (5, 1) 0 = iZ ((pP s + 1 : Nat) : Int) := by rw [(a1 (5, 1) 0 (by simp)).1]; exact hB.1.1
        have hd1 : ∀ k, k < 3 → 0 ≤ x.1 k ∧ x.1 k ≤ 7 := fun k hk => by
          have := (b6 k (by omega)).2
          unfold bLo bHi at this
          rw [if_pos hk, if_pos hk] at this
          exact this
        have hd2 : ∀ k, k < 3 → 1 ≤ x.1 (k + 3) ∧ x.1 (k + 3) ≤ 8 - x.1 k := fun k hk => by
          have := (b6 (k + 3) (by omega)).2
          unfold bLo bHi at this
          rw [if_neg (by omega), if_neg (by omega), Nat.add_sub_cancel] at this
          exact this
        obtain ⟨M2, c1, c2⟩ := x_fillBox (M := M1) (b := x.1) (p := pP s) (by omega) g0 (fun k hk => (b6 k hk).1) hd1 hd2
        have sB1 : ∀ k c, sB M1 k c = sB M k c := fun k c => by unfold sB; rw [(a1 (44, k) (c / 64) (by simp)).2]
        have ecf : tcl M1 x.1 ↔ cfl x.1 (pP s) (pC s) := by
          unfold tcl cfl
          constructor
          · rintro ⟨c, q1, q2, q3⟩
            rw [sB1] at q3
            exact ⟨c, q1, q2, (hC c q1).mp q3⟩
          · rintro ⟨c, q1, q2, q3⟩
            exact ⟨c, q1, q2, by rw [sB1]; exact (hC c q1).mpr q3⟩
        have s2 : xSm rdC M M2 := s1.tr (c1.sm.wk fun r j z => by
          rcases z with z | z <;> subst z <;> simp [rdC] <;> omega)
        have f5' : xI M (8, 0) 5 = iZ (pSt s : Int) := f5
        rcases c2 with ⟨d1, d2⟩ | ⟨d1, d2, d3⟩
        · have eP : pBox N T s = .inl (5, pSt s) := by unfold pBox; rw [if_neg (fun z => z e), if_neg (by omega), b2]; exact if_pos (ecf.mp d1)
          rw [eP] at eB
          have hr := x_refuse (M := M2) (a := 5) (b := (pSt s : Int))
          refine ⟨xpI (xpI M2 (8, 0) 2 (iZ 5)) (8, 0) 3 (iZ (pSt s : Int)), (s2.pI (by first | exact ⟨rfl, by omega⟩ | exact .inl ⟨rfl, by omega⟩ | exact .inr (.inl rfl) | exact .inr (.inl ⟨rfl, rfl⟩) | exact .inr (.inr (.inl rfl)) | exact .inr (.inr (.inr rfl)))).pI (by first | exact ⟨rfl, by omega⟩ | exact .inl ⟨rfl, by omega⟩ | exact .inr (.inl rfl) | exact .inr (.inl ⟨rfl, rfl⟩) | exact .inr (.inr (.inl rfl)) | exact .inr (.inr (.inr rfl))), .inl ⟨_, eB, ?_, ?_, ?_⟩⟩
          · rw [xfix_unf, sX9_readPart_129]
            simp (disch := omega) only [xk_none, xk_inl, xk_inr, xk_ite, xri_v, xrl_v, xrv_v, xb_z0, xb_z1, xb_b2, if_true, if_false, ite_true, ite_false, iZ_lit, iZ_m1, iZ_m99, iZ_m8, iZ_add, iZ_sub, iZ_mul, iZ_neg, nz0, nzi, iZ_lt, iZ_le, iZ_inj, b2_z, b2_o, ite_bPz, ite_bPo, xb_bP, iZ_xin, if_pos, ite_self, ↓reduceIte, Int.reduceAdd, Int.reduceSub, Int.reduceMul, Int.reduceNeg, Int.reduceLT, Int.reduceLE, if_neg, hs, b3, d2, f5', hr]
          · rw [pR_ne (by omega), pR_eq]
          · rw [pR_eq]
        · have eP : pBox N T s = .inr (x.2, s.2.1, s.2.2.1, pX s + 1, fil x.1 (pP s) (pC s)) := by unfold pBox; rw [if_neg (fun z => z e), if_neg (by omega), b2]; exact if_neg (fun z => d1 (ecf.mpr z))
          rw [eP] at eB
          obtain ⟨s', es⟩ : ∃ s' : pS, s' = (x.2, s.2.1, s.2.2.1, pX s + 1, fil x.1 (pP s) (pC s)) := ⟨_, rfl⟩
          rw [← es] at eB
          have p1 : pSt s' = x.2 := by rw [es]; rfl
          have p2 : pP s' = pP s := by rw [es]; rfl
          have p3 : pX s' = pX s + 1 := by rw [es]; rfl
          have p4 : pC s' = fil x.1 (pP s) (pC s) := by rw [es]; rfl
          have p5 : pJ s' = pJ s ∧ pOne s' = pOne s ∧ pTwo s' = pTwo s ∧ pAt s' = pAt s ∧ pWy s' = pWy s ∧ pNa s' = pNa s ∧ pNl s' = pNl s := by rw [es]; exact ⟨rfl, rfl, rfl, rfl, rfl, rfl, rfl⟩
          have fl : ∀ c, pC s' c = @ite _ (inBx x.1 c) (Classical.propDecidable _) (pP s : Int) (pC s c) := fun c => by rw [p4]; rfl
          have ntl : ∀ c, c < 512 → inBx x.1 c → pC s c = -1 ∨ pC s c = pP s := fun c hc hi => Classical.byContradiction fun z => d1 ⟨c, hc, hi, by rw [sB1]; exact (hC c hc).mpr ⟨fun w => z (.inl w), fun w => z (.inr w)⟩⟩
          have sB2 : ∀ k c, k ≠ 10 * 1 → k ≠ 10 * 1 + 1 + pP s → sB M2 k c = sB M k c := fun k c k1 k2 => by rw [sB_same c1 (by simp; omega) c, sB1]
          have fI : ∀ r j, r.1 ≠ 44 → r ≠ (9, 0) → ¬ rbF r j → xI M2 r j = xI M r j := fun r j r1 r2 r3 => by
            rw [(c1 r (fun z => by rcases z with z | z <;> exact r1 (by rw [z]))).1, (a1 r j (fun z => z.elim r3 fun z => r2 z.1)).1]
          have hT2 : pT M2 N T (pSt s') := by rw [p1]; exact b4.same c1 (by simp) (by simp)
          have hB2 : cB M2 T s' (pP s' + 1) := by
            obtain ⟨⟨u1, u2, u3⟩, u4, u5, u6, u7⟩ := hB
            rw [p2]
            refine ⟨⟨?_, ?_, ?_⟩, fun q hq => ?_, fun p hp c hc => ?_, fun c hc => ?_, fun j hj => ⟨?_, ?_⟩⟩
            · rw [fI _ _ (by simp) (by simp) (by simp)]; exact u1
            · rw [fI _ _ (by simp) (by simp) (by simp), p5.1]; exact u2
            · rw [(c1 (9, 0) (by simp)).1, b5, p3]
            · rw [fI _ _ (by simp) (by simp) (by simp)]
              have : nmV T s' q = nmV T s q := by unfold nmV; rw [p5.2.2.2.2.2.1, p5.2.2.2.2.2.2]
              rw [this]; exact u4 q hq
            · rw [fl c]
              by_cases ep : p = pP s
              · subst ep
                rw [(d3 c hc).1, sB1, u5 _ hp c hc]
                by_cases hi : inBx x.1 c
                · rw [if_pos hi]; exact ⟨fun _ => rfl, fun _ => .inr hi⟩
                · rw [if_neg hi]; exact ⟨fun z => z.elim id fun z => absurd z hi, .inl⟩
              · rw [sB2 _ _ (by omega) (by omega), u5 p hp c hc]
                by_cases hi : inBx x.1 c
                · rw [if_pos hi]
                  have := ntl c hc hi
                  exact ⟨fun z => by omega, fun z => by omega⟩
                · rw [if_neg hi]
            · rw [(d3 c hc).2, sB1, u6 c hc, fl c]
              by_cases hi : inBx x.1 c
              · rw [if_pos hi]; exact ⟨fun _ => by omega, fun _ => .inr hi⟩
              · rw [if_neg hi]; exact ⟨fun z => z.elim id fun z => absurd z hi, .inl⟩
            · rw [p5.1] at hj
              rw [fI _ _ (by simp) (by simp) (by simp), p5.2.1, p5.2.2.1]; exact (u7 j hj).1
            · rw [p5.1] at hj
              rw [fI _ _ (by simp) (by simp) (by simp), p5.2.2.2.1, p5.2.2.2.2.1]; exact (u7 j hj).2
          have hL2 : pLt T s' (pP s' + 1) := by
            rw [p2]
            refine ⟨⟨by rw [p5.1]; exact hL.1.1, by omega, hP⟩, fun q hq => ?_, fun c hc => ?_⟩
            · rw [p5.2.2.2.2.2.1, p5.2.2.2.2.2.2]; exact hL.2.1 q hq
            · rw [fl c]
              by_cases hi : inBx x.1 c
              · rw [if_pos hi]; omega
              · rw [if_neg hi]; exact hL.2.2 c hc
          have hC2 : ∀ c, c < 512 → (sB M2 20 c = true ↔ pC s' c ≠ -1 ∧ pC s' c ≠ pP s') := fun c hc => by
            rw [sB2 _ _ (by omega) (by omega), hC c hc, fl c, p2]
            by_cases hi : inBx x.1 c
            · rw [if_pos hi]
              have := ntl c hc hi
              exact ⟨fun z => by omega, fun z => by omega⟩
            · rw [if_neg hi]
          obtain ⟨M3, g1, g2⟩ := ih (i + 1) s' M2 (by omega) (by omega) hT2 hB2 hL2 hC2
          have t1 : xfix gX9_readPart (129, [some (.inr (.inr (9, 0))), some (.inl (iZ (i))), none], [], M) = xfix gX9_readPart (129, [some (.inr (.inr (9, 0))), some (.inl (iZ (((i + 1 : Nat))))), none], [], M2) := by
            rw [nS]
            rw [xfix_unf, sX9_readPart_129]
            simp (disch := omega) only [xk_none, xk_inl, xk_inr, xk_ite, xri_v, xrl_v, xrv_v, xb_z0, xb_z1, xb_b2, if_true, if_false, ite_true, ite_false, iZ_lit, iZ_m1, iZ_m99, iZ_m8, iZ_add, iZ_sub, iZ_mul, iZ_neg, nz0, nzi, iZ_lt, iZ_le, iZ_inj, b2_z, b2_o, ite_bPz, ite_bPo, xb_bP, iZ_xin, if_pos, ite_self, ↓reduceIte, Int.reduceAdd, Int.reduceSub, Int.reduceMul, Int.reduceNeg, Int.reduceLT, Int.reduceLE, if_neg, hs, b3, d2]
          rw [eB, t1]
          rw [p2, p5.1] at g2
          exact ⟨M3, s2.tr g1, g2⟩
    · rw [bP_f e] at hs
      have eB : bxG N T (n + 1) s = pNeed False N T (pSt s, (pP s + 1, s.2.1.2), s.2.2) 59 := by
        unfold bxG
        rw [show pBoxes N T (n + 1) s = .inr s from if_neg e]
      rw [eB]
      obtain ⟨M1, a1⟩ := x_pass hT
      rcases a1 with ⟨b1, b2, b3, b4⟩ | ⟨b1, b2, b3, b4⟩
      · refine ⟨M1, rdC_tp b3, .inr ⟨(adv N T (pSt s), (pP s + 1, s.2.1.2), s.2.2), if_pos b1, ?_, b4, hB.sm hP b3 (fun r j z => .inl z.1), hL, rfl, rfl⟩⟩
        rw [xfix_unf, sX9_readPart_129]
        simp (disch := omega) only [xk_none, xk_inl, xk_inr, xk_ite, xri_v, xrl_v, xrv_v, xb_z0, xb_z1, xb_b2, if_true, if_false, ite_true, ite_false, iZ_lit, iZ_m1, iZ_m99, iZ_m8, iZ_add, iZ_sub, iZ_mul, iZ_neg, nz0, nzi, iZ_lt, iZ_le, iZ_inj, b2_z, b2_o, ite_bPz, ite_bPo, xb_bP, iZ_xin, if_pos, ite_self, ↓reduceIte, Int.reduceAdd, Int.reduceSub, Int.reduceMul, Int.reduceNeg, Int.reduceLT, Int.reduceLE, if_neg, hs, b2]
      · refine ⟨M1, rdC_ff b3, .inl ⟨(1, pSt s), if_neg b1, ?_, b4⟩⟩
        rw [xfix_unf, sX9_readPart_129]
        simp (disch := omega) only [xk_none, xk_inl, xk_inr, xk_ite, xri_v, xrl_v, xrv_v, xb_z0, xb_z1, xb_b2, if_true, if_false, ite_true, ite_false, iZ_lit, iZ_m1, iZ_m99, iZ_m8, iZ_add, iZ_sub, iZ_mul, iZ_neg, nz0, nzi, iZ_lt, iZ_le, iZ_inj, b2_z, b2_o, ite_bPz, ite_bPo, xb_bP, iZ_xin, if_pos, ite_self, ↓reduceIte, Int.reduceAdd, Int.reduceSub, Int.reduceMul, Int.reduceNeg, Int.reduceLT, Int.reduceLE, if_neg, hs, b2]
