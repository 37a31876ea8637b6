/-! the class: records and things that are told -/
section
variable {M : xM} {A : dA} {S : dS}
theorem jRun_b {s : rS} (h16 : s.2.1 ≤ 16) : ∀ (f i : Nat) (G : Nat → Nat) (w : Int), i ≤ 16 → 0 ≤ (jRun A s f i G w).1 ∧ (jRun A s f i G w).1 ≤ 16
  | 0, i, G, w, h => by unfold jRun; dsimp only; omega
  | f + 1, i, G, w, h => by
    unfold jRun
    by_cases c : s.2.1 ≤ i
    · rw [if_pos c]; dsimp only; omega
    · rw [if_neg c]
      by_cases c2 : (jOne A G (s.2.2.1 i) (s.2.2.2 i)).1 = 0
      · rw [if_pos c2]; exact jRun_b h16 f (i + 1) _ _ (by omega)
      · rw [if_neg c2]; dsimp only; omega
theorem x_cut0 {N : Nat} (f1 : xI M (8, 0) 1 = iZ N) (hN : N ≤ 800) : fX8_shorten [.inr (.inr (8, 0)), .inl (iZ ((0 : Int)))] M = some (some (.inl (iZ (1))), xpI M (8, 0) 1 (iZ 0)) := by
  have k := x_shorten (n := 0) f1 hN (by unfold r32; omega)
  have y : (0 : Int) ≤ 0 ∧ (0 : Int) ≤ N := ⟨by omega, by omega⟩
  rw [bP_t y, if_pos y] at k
  exact k
theorem zTp_cut {S' : dS} {a b : Int} (e1 : sN S' = 0) (e2 : sFk S' = a) (e3 : sFp S' = b) (f2 : xI M (8, 0) 2 = iZ a) (f3 : xI M (8, 0) 3 = iZ b) : zTp (xpI M (8, 0) 1 (iZ 0)) S' := by
  refine ⟨⟨?_, by omega, fun k hk => by omega⟩, ?_, ?_⟩
  · rw [e1]; exact pR_eq
  · rw [e2, pR_ne (by omega)]; exact f2
  · rw [e3, pR_ne (by omega)]; exact f3
theorem c_record (hA : aOk A) (hO : stO A S) (h : cZ M A S) : cQ A (tRec A S).2 (fX11_record [.inr (.inr (11, 0))] M) (.inl (iZ (tRec A S).1)) := by
  have hN : cNm M A S := ⟨⟨h.f0, h.P9⟩, fun q hq => ⟨h.1.1.1.2.2.1 q hq, hO.2.2.2 q hq⟩⟩
  obtain ⟨M1, s1, hr⟩ := x_recAll h.tp.1 hN
  have f1 : xI M1 (8, 0) 1 = iZ (sN S) := by rw [(s1 (8, 0) 1 (by simp)).1]; exact h.tp.1.1
  have kc := x_cut0 f1 h.tp.1.2.1
  have s2 : xSm (fun r j => rcC r j ∨ r = (8, 0)) M (xpI M1 (8, 0) 1 (iZ 0)) := (s1.wk fun r j z => .inl z).pI (.inr rfl)
  have rw2 : ∀ r j, (rcC r j ∨ r = (8, 0)) → (r = (8, 0) ∨ r = (47, 0) ∨ r = (9, 0) ∨ r = (48, 0) ∨ r = (36, 0) ∨ r = (37, 0) ∨ (r = (4, 0) ∧ j = 5) ∨ (r.2 = 1 ∧ (r.1 = 5 ∨ r.1 = 38 ∨ r.1 = 40 ∨ r.1 = 41 ∨ r.1 = 43)) ∨ (r.1 = 44 ∧ 10 ≤ r.2 ∧ r.2 ≤ 20)) := by
    rintro r j ((⟨z, _⟩ | z | z | z) | z)
    · exact .inl z
    · exact .inr (.inr (.inr (.inr (.inr (.inr (.inl z))))))
    · exact .inr (.inr (.inr (.inr (.inl z))))
    · exact .inr (.inr (.inr (.inr (.inr (.inl z)))))
    · exact .inl z
  unfold tRec
  rcases hr with ⟨f, e1, e2, e3⟩ | ⟨s, e1, e2, e3, e4⟩
  · rw [e1]
    refine ⟨_, ?_, h.tape s2 rw2 (zTp_cut (S' := nFlt S f) rfl rfl rfl e3.1 e3.2) rfl⟩
    clear rw2 s1 s2 hN e3
    show xfix gX11_record (0, [some (.inr (.inr (11, 0))), none], [], M) = _; rw [xfix_unf, sX11_record_0]
    simp (disch := omega) only [xk_none, xk_inl, xk_inr, xk_ite, xri_v, xrl_v, xrv_v, xb_z0, xb_z1, xb_b2, if_true, if_false, ite_true, ite_false, iZ_lit, iZ_m1, iZ_m99, iZ_m8, iZ_add, iZ_sub, iZ_mul, iZ_neg, nz0, nzi, iZ_lt, iZ_le, iZ_inj, b2_z, b2_o, ite_bPz, ite_bPo, xb_bP, iZ_xin, if_pos, ite_self, ↓reduceIte, Int.reduceAdd, Int.reduceSub, Int.reduceMul, Int.reduceNeg, Int.reduceLT, Int.reduceLE, if_neg, ↓xri_some e2, ↓xri_some kc]
  · rw [e1]
    dsimp only
    have h' : cZ (xpI M1 (8, 0) 1 (iZ 0)) A ((0, sT S), (0, -1), S.2.2) := h.tape s2 rw2 (zTp_cut rfl rfl rfl e3.2.2.2.1 e3.2.2.2.2) rfl
    obtain ⟨⟨g1, g2⟩, g3⟩ := e4
    have hR : cRc (xpI M1 (8, 0) 1 (iZ 0)) A s := ⟨⟨by rw [xI_pI_ne (by decide)]; exact g1, g2⟩, fun j hj => by
      rw [xI_pI_ne (by decide), xI_pI_ne (by decide)]; exact g3 j hj⟩
    obtain ⟨M3, j1, j2, j3, j4, j5, j6⟩ := x_judge hA h'.f0 h'.J h'.W hR
    have jb := jRun_b (A := A) g2 17 0 (fun _ => 2 ^ aP A - 1) (-1) (by omega)
    have rows : ∀ r j, jgF r j → shZ r j = false ∧ bnZ r j = false ∧ swZ r j = false ∧ tpZ r j = false ∧ prZ r j = false ∧ w0Z r j = false ∧ w1Z r j = false ∧ ptZ r j = false ∧ hnZ r j = false ∧ orZ r j = false ∧ ntZ r j = false ∧ tmZ r j = false := by
      rintro r j (z | ⟨z, z2⟩ | ⟨z, z2⟩) <;> subst z <;> exact ⟨rfl, rfl, rfl, rfl, rfl, rfl, rfl, rfl, rfl, rfl, rfl, rfl⟩
    have zs := h'.1.1.sm j2 fun r j p => (rows r j p).1
    have zp := h'.tp.sm j2 fun r j p => (rows r j p).2.2.2.1
    have zq := h'.pt.sm j2 fun r j p => (rows r j p).2.2.2.2.2.2.2.1
    refine ⟨M3, ?_, ⟨zs, h'.1.2.1.sm j2 fun r j p => (rows r j p).2.1, h'.1.2.2.1.sm j2 fun r j p => (rows r j p).2.2.1, zp, h'.Pr.sm j2 fun r j p => (rows r j p).2.2.2.2.1, ⟨h'.w0.sm j2 fun r j p => (rows r j p).2.2.2.2.2.1, h'.w1.sm j2 fun r j p => (rows r j p).2.2.2.2.2.2.1⟩, zq, .inr ⟨⟨jb, ?_, ?_⟩, j3, j4, j5, j6⟩⟩, h'.2.1.sm j2 fun r j p => (rows r j p).2.2.2.2.2.2.2.2.1, h'.2.2.1.sm j2 fun r j p => (rows r j p).2.2.2.2.2.2.2.2.2.1, h'.2.2.2.1.sm j2 fun r j p => (rows r j p).2.2.2.2.2.2.2.2.2.2.1, h'.2.2.2.2.sm j2 fun r j p => (rows r j p).2.2.2.2.2.2.2.2.2.2.2⟩
    · clear rows zs zp zq jb h' hR g3 rw2 s1 s2 hN e3
      show xfix gX11_record (0, [some (.inr (.inr (11, 0))), none], [], M) = _; rw [xfix_unf, sX11_record_0]
      simp (disch := omega) only [xk_none, xk_inl, xk_inr, xk_ite, xri_v, xrl_v, xrv_v, xb_z0, xb_z1, xb_b2, if_true, if_false, ite_true, ite_false, iZ_lit, iZ_m1, iZ_m99, iZ_m8, iZ_add, iZ_sub, iZ_mul, iZ_neg, nz0, nzi, iZ_lt, iZ_le, iZ_inj, b2_z, b2_o, ite_bPz, ite_bPo, xb_bP, iZ_xin, if_pos, ite_self, ↓reduceIte, Int.reduceAdd, Int.reduceSub, Int.reduceMul, Int.reduceNeg, Int.reduceLT, Int.reduceLE, if_neg, ↓xri_some e2, ↓xri_some kc, ↓xrv_some j1, j4]
    · show (0 : Int) ≤ (s.2.1 : Int)
      omega
    · show (s.2.1 : Int) ≤ 16
      omega
theorem rch_no {A : dA} (h : ∀ i, aSw A i = false) : ∀ c, c < 512 → ∀ p, p < aP A → (aC A c = p ↔ rch A c p) := fun c _ p _ => by
  unfold rch
  constructor
  · exact .inl
  · rintro (z | ⟨_, _, _, _, _, _, z, _⟩)
    · exact z
    · rw [h] at z; cases z
theorem c_thing (hA' : aOk (tTh A S).2.1) (h : cZ M A S) : cQ (tTh A S).2.1 (tTh A S).2.2 (fX11_thing [.inr (.inr (11, 0))] M) (.inl (iZ (tTh A S).1)) := by
  obtain ⟨M1, s1, hr⟩ := x_readAll h.tp.1
  have f1 : xI M1 (8, 0) 1 = iZ (sN S) := by rw [(s1 (8, 0) 1 (by simp)).1]; exact h.tp.1.1
  have kc := x_cut0 f1 h.tp.1.2.1
  have s2 : xSm (fun r j => rdC r j ∨ r = (8, 0)) M (xpI M1 (8, 0) 1 (iZ 0)) := (s1.wk fun r j z => .inl z).pI (.inr rfl)
  unfold tTh at hA' ⊢
  rcases hr with ⟨f, e1, e2, e3⟩ | ⟨s, e1, e2, e3, e4, e5⟩
  · rw [e1]
    refine ⟨_, ?_, h.tape s2 ?_ (zTp_cut (S' := nFlt S f) rfl rfl rfl e3.1 e3.2) rfl⟩
    · clear s1 s2 e3
      show xfix gX11_thing (0, [some (.inr (.inr (11, 0))), none], [], M) = _; rw [xfix_unf, sX11_thing_0]
      simp (disch := omega) only [xk_none, xk_inl, xk_inr, xk_ite, xri_v, xrl_v, xrv_v, xb_z0, xb_z1, xb_b2, if_true, if_false, ite_true, ite_false, iZ_lit, iZ_m1, iZ_m99, iZ_m8, iZ_add, iZ_sub, iZ_mul, iZ_neg, nz0, nzi, iZ_lt, iZ_le, iZ_inj, b2_z, b2_o, ite_bPz, ite_bPo, xb_bP, iZ_xin, if_pos, ite_self, ↓reduceIte, Int.reduceAdd, Int.reduceSub, Int.reduceMul, Int.reduceNeg, Int.reduceLT, Int.reduceLE, if_neg, ↓xri_some e2, ↓xri_some kc]
    · rintro r j ((⟨z, _⟩ | z | z | z | z) | z)
      · exact .inl z
      · exact .inr (.inr (.inl z))
      · exact .inr (.inr (.inr (.inl z)))
      · exact .inr (.inr (.inr (.inr (.inr (.inr (.inr (.inl z)))))))
      · exact .inr (.inr (.inr (.inr (.inr (.inr (.inr (.inr z)))))))
      · exact .inl z
  · rw [e1] at hA' ⊢
    dsimp only at hA' ⊢
    obtain ⟨M2, eM2⟩ : ∃ M2, M2 = xpI M1 (8, 0) 1 (iZ 0) := ⟨_, rfl⟩
    have tp2 : zTp M2 (thS S s) := by rw [eM2]; exact zTp_cut rfl rfl rfl e3.2.2.2.1 e3.2.2.2.2
    rw [← eM2] at kc s2
    have s12 : xSm (fun r _ => r = (8, 0)) M1 M2 := by rw [eM2]; exact xSm.rf.pI rfl
    obtain ⟨⟨u0, u1, _⟩, u2, u3, u4, u5⟩ := e4
    have sh1 : cSh M2 1 (thA A s) (fun q => wv (sNc (thS S s) q) (sNl (thS S s) q)) := by
      refine ⟨⟨?_, hA'.1, fun p hp c hc => ?_⟩, ?_, fun q hq => ?_, fun j hj => ?_, fun c hc => ?_⟩
      · rw [(s12 (5, 1) 0 (by simp)).1]; exact u0
      · rw [sB_sm s12 (fun j => by simp)]; exact u3 p hp c hc
      · rw [(s12 (5, 1) 1 (by simp)).1]; exact u1
      · rw [(s12 (40, 1) q (by simp)).1]; exact u2 q hq
      · rw [(s12 (41, 1) j (by simp)).1, (s12 (43, 1) j (by simp)).1]; exact u5 j hj
      · rw [sB_sm s12 (fun j => by simp)]; exact u4 c hc
    obtain ⟨M3, b1, b2, b3, b4, b5, b6⟩ := x_become hA' sh1
    have hP : pP s ≤ 9 := hA'.1
    obtain ⟨M4, g1, g2, g3, g4⟩ := x_gather (M := M3) (k := 0) (P := pP s) hP
    obtain ⟨M5, eM5⟩ : ∃ M5, M5 = xpI M4 (4, 0) 6 (iZ (-1)) := ⟨_, rfl⟩
    obtain ⟨M6, eM6⟩ : ∃ M6, M6 = xpI M5 (0, 0) 6 (iZ 0) := ⟨_, rfl⟩
    have r5 : fX4_forget [.inr (.inr (4, 0))] M4 = some (none, M5) := by
      rw [eM5]
      show xfix gX4_forget (0, [some (.inr (.inr (4, 0)))], [], M4) = _; rw [xfix_unf, sX4_forget_0]
      simp (disch := omega) only [xk_none, xk_inl, xk_inr, xk_ite, xri_v, xrl_v, xrv_v, xb_z0, xb_z1, xb_b2, if_true, if_false, ite_true, ite_false, iZ_lit, iZ_m1, iZ_m99, iZ_m8, iZ_add, iZ_sub, iZ_mul, iZ_neg, nz0, nzi, iZ_lt, iZ_le, iZ_inj, b2_z, b2_o, ite_bPz, ite_bPo, xb_bP, iZ_xin, if_pos, ite_self, ↓reduceIte, Int.reduceAdd, Int.reduceSub, Int.reduceMul, Int.reduceNeg, Int.reduceLT, Int.reduceLE, if_neg]
    have r6 : fX0_stale [.inr (.inr (0, 0))] M5 = some (none, M6) := by
      rw [eM6]
      show xfix gX0_stale (0, [some (.inr (.inr (0, 0)))], [], M5) = _; rw [xfix_unf, sX0_stale_0]
      simp (disch := omega) only [xk_none, xk_inl, xk_inr, xk_ite, xri_v, xrl_v, xrv_v, xb_z0, xb_z1, xb_b2, if_true, if_false, ite_true, ite_false, iZ_lit, iZ_m1, iZ_m99, iZ_m8, iZ_add, iZ_sub, iZ_mul, iZ_neg, nz0, nzi, iZ_lt, iZ_le, iZ_inj, b2_z, b2_o, ite_bPz, ite_bPo, xb_bP, iZ_xin, if_pos, ite_self, ↓reduceIte, Int.reduceAdd, Int.reduceSub, Int.reduceMul, Int.reduceNeg, Int.reduceLT, Int.reduceLE, if_neg]
    have s45 : xSm (fun r j => r = (4, 0) ∧ j = 6) M4 M5 := by rw [eM5]; exact xSm.rf.pI ⟨rfl, rfl⟩
    have s56 : xSm (fun r j => r = (0, 0) ∧ j = 6) M5 M6 := by rw [eM6]; exact xSm.rf.pI ⟨rfl, rfl⟩
    have s36 : xSm (fun r j => (r = (35, 0) ∨ (r = (3, 0) ∧ j = 1)) ∨ (r = (4, 0) ∧ j = 6) ∨ (r = (0, 0) ∧ j = 6)) M3 M6 := ((g2.wk fun r j z => .inl z).tr (s45.wk fun r j z => .inr (.inl z))).tr (s56.wk fun r j z => .inr (.inr z))
    have s03 : xSm (fun r j => rdC r j ∨ r = (8, 0) ∨ bcF r) M M3 := (s2.wk fun r j z => z.imp id .inl).tr (b2.sm.wk fun r j z => .inr (.inr z))
    have z3 : zSh M3 (thA A s) (thS S s) := ⟨b3, b6⟩
    have z6 : zSh M6 (thA A s) (thS S s) := z3.sm s36 (by rintro r j ((z | ⟨z, z2⟩) | ⟨z, z2⟩ | ⟨z, z2⟩) <;> subst z <;> rfl)
    have p3 : zPr M3 A := h.Pr.sm s03 (by
      rintro r j ((⟨z, _⟩ | z | z | ⟨z, z2⟩ | ⟨z, _⟩) | z | z | z | z | z | z | z | ⟨z, z2⟩)
      · subst z; rfl
      · subst z; rfl
      · subst z; rfl
      · obtain ⟨r1, r2⟩ := r; dsimp only at z z2; subst z; simp [prZ]
      · obtain ⟨r1, r2⟩ := r; dsimp only at z; subst z; simp [prZ]
      · subst z; rfl
      · subst z; rfl
      · subst z; rfl
      · subst z; rfl
      · subst z; rfl
      · subst z; rfl
      · subst z; rfl
      · obtain ⟨r1, r2⟩ := r; dsimp only at z; subst z; simp [prZ])
    have t3 : zTp M3 (thS S s) := tp2.sm b2.sm (by
      rintro r j (z | z | z | z | z | z | ⟨z, z2⟩)
      · subst z; rfl
      · subst z; rfl
      · subst z; rfl
      · subst z; rfl
      · subst z; rfl
      · subst z; rfl
      · obtain ⟨r1, r2⟩ := r; dsimp only at z; subst z; simp [tpZ])
    have q0 : ∀ k, k < 2 → xL M6 (50, k) 0 = 0 := fun k hk => by
      rw [(s36 (50, k) 0 (by simp)).2, (s03 (50, k) 0 (by simp)).2]
      have : k = 0 ∨ k = 1 := by omega
      rcases this with e | e
      · subst e; exact h.w0.2.2
      · subst e; exact h.w1.2.2
    have f50 : xI M6 (5, 0) 0 = iZ (pP s) := z6.1.1.1
    have f52 : xI M6 (5, 0) 2 = iZ ((0 : Nat) : Int) := by rw [(s36 (5, 0) 2 (by simp)).1]; exact b4
    have f38 : ∀ w, w < 6 → xI M6 (38, 0) w = iZ (((fun _ => 0 : Nat → Nat) w : Nat) : Int) ∧ (fun _ => 0 : Nat → Nat) w < 512 := fun w hw => ⟨by rw [(s36 (38, 0) w (by simp)).1]; exact b5 w hw, by dsimp only; omega⟩
    obtain ⟨M7, m1, m2, m3, m4, m5⟩ := x_measure (k := 0) (v := False) f50 hP f52 (by omega) (q0 0 (by omega)) f38
    have hr : ∀ c, c < 512 → ∀ p, p < pP s → (bdR M6 False (fun _ => 0) c p ↔ aC (thA A s) c = p) := fun c hc p hp => by
      have := z6.1.1.2.2 p hp c hc
      rw [show 10 * 0 + 1 + p = 1 + p by omega] at this
      unfold bdR
      rw [this]
      exact ⟨fun z => z.elim id fun z => z.1.elim, .inl⟩
    have hb : cBn (thA A s) 0 := ⟨by omega, fun p hp => by
      rw [Nat.zero_testBit]
      exact ⟨fun z => (by cases z), fun z => absurd (show false = true from z) (by decide)⟩⟩
    have o7 := cOw.cg hP m3 hr
    have y7 : cWy M7 0 (aP (thA A s)) (barS (thA A s)) := cmb_bar hA' hb (cmb_cg hP m4 hr)
    have g50 : xI M7 (5, 0) 0 = iZ (pP s) := by rw [(m2 (5, 0) (by simp)).1]; exact f50
    have g52 : xI M7 (5, 0) 2 = iZ ((0 : Nat) : Int) := by rw [(m2 (5, 0) (by simp)).1]; exact f52
    obtain ⟨M8, w1, w2, w3, w4, w5⟩ := x_wcopy (k := 1) (j := 0) (by omega) g50 hP g52 (by omega) (by rw [(m2 (50, 1) (by simp)).2]; exact q0 1 (by omega)) o7
    have hrc := rch_no (A := thA A s) fun i => rfl
    have o8 : cOw M8 1 (aP (thA A s)) (rch (thA A s)) := cOw.cg hP w3 hrc
    have y8 : cWy M8 1 (aP (thA A s)) (sbrS (thA A s)) := cmb_sbar hA' hb (cmb_cg hP w4 hrc)
    obtain ⟨M9, v1, v2, v3, v4, v5⟩ := x_forget' M8
    have v1' := v1
    have s69 : xSm (fun r j => wyF 0 r ∨ (r = (50, 1) ∨ r = (51, 1)) ∨ fgF r j) M6 M9 := ((m2.sm.wk fun r j z => .inl z).tr (w2.sm.wk fun r j z => .inr (.inl z))).tr (v2.wk fun r j z => .inr (.inr z))
    have rows : ∀ r j, (wyF 0 r ∨ (r = (50, 1) ∨ r = (51, 1)) ∨ fgF r j) → shZ r j = false ∧ bnZ r j = false ∧ swZ r j = false ∧ tpZ r j = false ∧ prZ r j = false ∧ ptZ r j = false := by
      rintro r j ((z | z | ⟨z, z2, z3⟩) | (z | z) | ⟨z, z2⟩ | ⟨z, z2⟩)
      · subst z; exact ⟨rfl, rfl, rfl, rfl, rfl, rfl⟩
      · subst z; exact ⟨rfl, rfl, rfl, rfl, rfl, rfl⟩
      · obtain ⟨r1, r2⟩ := r
        dsimp only at z z2 z3
        subst z
        exact ⟨by simp [shZ]; omega, rfl, rfl, rfl, rfl, rfl⟩
      · subst z; exact ⟨rfl, rfl, rfl, rfl, rfl, rfl⟩
      · subst z; exact ⟨rfl, rfl, rfl, rfl, rfl, rfl⟩
      · subst z; exact ⟨rfl, rfl, rfl, rfl, rfl, rfl⟩
      · subst z; exact ⟨rfl, rfl, rfl, rfl, rfl, rfl⟩
    have s39 : xSm (fun r j => ((r = (35, 0) ∨ (r = (3, 0) ∧ j = 1)) ∨ (r = (4, 0) ∧ j = 6) ∨ (r = (0, 0) ∧ j = 6)) ∨ (wyF 0 r ∨ (r = (50, 1) ∨ r = (51, 1)) ∨ fgF r j)) M3 M9 := (s36.wk fun r j z => .inl z).tr (s69.wk fun r j z => .inr z)
    have rows3 : ∀ r j, (((r = (35, 0) ∨ (r = (3, 0) ∧ j = 1)) ∨ (r = (4, 0) ∧ j = 6) ∨ (r = (0, 0) ∧ j = 6)) ∨ (wyF 0 r ∨ (r = (50, 1) ∨ r = (51, 1)) ∨ fgF r j)) → shZ r j = false ∧ bnZ r j = false ∧ swZ r j = false ∧ tpZ r j = false ∧ prZ r j = false := by
      rintro r j (((z | ⟨z, z2⟩) | ⟨z, z2⟩ | ⟨z, z2⟩) | z)
      · subst z; exact ⟨rfl, rfl, rfl, rfl, rfl⟩
      · subst z; exact ⟨rfl, rfl, rfl, rfl, rfl⟩
      · subst z; exact ⟨rfl, rfl, rfl, rfl, rfl⟩
      · subst z; exact ⟨rfl, rfl, rfl, rfl, rfl⟩
      · exact ⟨(rows r j z).1, (rows r j z).2.1, (rows r j z).2.2.1, (rows r j z).2.2.2.1, (rows r j z).2.2.2.2.1⟩
    have bn3 : zBn M3 (thA A s) := ⟨0, b4, hb⟩
    have sw3 : zSw M3 (thA A s) := ⟨fun _ => 0, fun w hw => ⟨b5 w hw, (show 0 < 512 by omega), fun p hp => by
      rw [Nat.zero_testBit]
      exact ⟨fun z => (by cases z), fun z => absurd (show false = true from z) (by decide)⟩⟩⟩
    have s49 : xSm (fun r j => ((r = (4, 0) ∧ j = 6) ∨ (r = (0, 0) ∧ j = 6)) ∨ (wyF 0 r ∨ (r = (50, 1) ∨ r = (51, 1)) ∨ fgF r j)) M4 M9 := ((s45.wk fun r j z => .inl (.inl z)).tr (s56.wk fun r j z => .inl (.inr z))).tr (s69.wk fun r j z => .inr z)
    have pt4 : zPt M4 (thA A s) (thS S s) := ⟨fun p hp => g4 p hp, g3⟩
    have rows4 : ∀ r j, (((r = (4, 0) ∧ j = 6) ∨ (r = (0, 0) ∧ j = 6)) ∨ (wyF 0 r ∨ (r = (50, 1) ∨ r = (51, 1)) ∨ fgF r j)) → ptZ r j = false := by
      rintro r j ((⟨z, z2⟩ | ⟨z, z2⟩) | z)
      · subst z; rfl
      · subst z; rfl
      · exact (rows r j z).2.2.2.2.2
    have f46 : xI M9 (4, 0) 6 = iZ (-1) := by
      rw [(s69 (4, 0) 6 (by simp)).1, (s56 (4, 0) 6 (by simp)).1, eM5]; exact pR_eq
    have f06 : xI M9 (0, 0) 6 = iZ 0 := by
      rw [(s69 (0, 0) 6 (by simp)).1, eM6]; exact pR_eq
    have s79 : xSm (fun r j => (r = (50, 1) ∨ r = (51, 1)) ∨ fgF r j) M7 M9 := (w2.sm.wk fun r j z => .inl z).tr (v2.wk fun r j z => .inr z)
    have z07 : zW0 M7 (thA A s) := ⟨o7, y7, m5⟩
    have z18 : zW1 M8 (thA A s) := ⟨o8, y8, w5⟩
    have z09 : zW0 M9 (thA A s) := z07.sm s79 (by rintro r j ((z | z) | ⟨z, z2⟩ | ⟨z, z2⟩) <;> subst z <;> rfl)
    have z19 : zW1 M9 (thA A s) := z18.sm v2 (by rintro r j (⟨z, z2⟩ | ⟨z, z2⟩) <;> subst z <;> rfl)
    have p9 : zPr M9 A := p3.sm s39 fun r j p => (rows3 r j p).2.2.2.2
    have z9 := z3.sm s39 fun r j p => (rows3 r j p).1
    refine ⟨M9, ?_, ⟨z9, bn3.sm s39 fun r j p => (rows3 r j p).2.1, sw3.sm s39 fun r j p => (rows3 r j p).2.2.1, t3.sm s39 fun r j p => (rows3 r j p).2.2.2.1, p9, ⟨z09, z19⟩, pt4.sm s49 rows4, .inl ⟨rfl, f46⟩⟩, .inl f06, .inl v3, .inl v4, .inl v5⟩
    have f9 : xI M9 (5, 0) 0 = iZ (pP s) := z9.1.1.1
    have f3 : xI M3 (5, 0) 0 = iZ (pP s) := z3.1.1.1
    rw [bP_f (c := False) id] at m1
    rw [eM2] at kc b1
    clear rows rows3 rows4 z9 z3 z6 p3 p9 t3 tp2 z07 z18 z09 z19 o7 o8 y7 y8 w3 w4 m3 m4 hr hrc hb q0 g4 b3 b5 b6 sh1 u2 u3 u4 u5 e3 e5 bn3 sw3 pt4 s39 s49 s69 s79 s36 s03 s2 s1 s12 m2 w2 v2 b2 f38
    show xfix gX11_thing (0, [some (.inr (.inr (11, 0))), none], [], M) = _; rw [xfix_unf, sX11_thing_0]
    simp (disch := omega) only [xk_none, xk_inl, xk_inr, xk_ite, xri_v, xrl_v, xrv_v, xb_z0, xb_z1, xb_b2, if_true, if_false, ite_true, ite_false, iZ_lit, iZ_m1, iZ_m99, iZ_m8, iZ_add, iZ_sub, iZ_mul, iZ_neg, nz0, nzi, iZ_lt, iZ_le, iZ_inj, b2_z, b2_o, ite_bPz, ite_bPo, xb_bP, iZ_xin, if_pos, ite_self, ↓reduceIte, Int.reduceAdd, Int.reduceSub, Int.reduceMul, Int.reduceNeg, Int.reduceLT, Int.reduceLE, if_neg, ↓xri_some e2, ↓xri_some kc, ↓xrv_some b1, f3, ↓xrv_some g1, ↓xrv_some r5, ↓xrv_some r6, ↓xrv_some m1, ↓xrv_some w1, ↓xrv_some v1, f9]
end
