/-! the reference: a record judged -/
noncomputable def jRun (A : dA) (s : rS) : Nat → Nat → (Nat → Nat) → Int → Int × Int × Int
  | 0, i, _, w => ((i : Int), 0, w)
  | f + 1, i, G, w => if s.2.1 ≤ i then ((i : Int), 0, w) else if (jOne A G (s.2.2.1 i) (s.2.2.2 i)).1 = 0 then jRun A s f (i + 1) (jOne A G (s.2.2.1 i) (s.2.2.2 i)).2.2 (jOne A G (s.2.2.1 i) (s.2.2.2 i)).2.1 else ((i : Int), (jOne A G (s.2.2.1 i) (s.2.2.2 i)).1, (jOne A G (s.2.2.1 i) (s.2.2.2 i)).2.1)
noncomputable def jAll (A : dA) (s : rS) : Int × Int × Int := jRun A s 17 0 (fun _ => 2 ^ aP A - 1) (-1)
noncomputable def tRec (A : dA) (S : dS) : Int × dS := match pRec A S (sN S) (sT S) with
  | .inl f => (-1, nFlt S f)
  | .inr s => ((jAll A s).1, ((0, sT S), (0, -1), S.2.2.1, S.2.2.2.1, ((jAll A s).1, (s.2.1 : Int), (jAll A s).2.1, (jAll A s).2.2)))
abbrev jF (r : xR) (j : Nat) : Prop := r = (169, 0) ∨ (r = (12, 0) ∧ (j = 71 ∨ j = 73 ∨ j = 74))
theorem mA.jf {M M' : xM} {A : dA} (h : mA M A) (hs : xSm jF M M') : mA M' A := h.sm hs (by simp) (by simp) (by intro r hr j; simp only [List.mem_cons, List.mem_nil_iff, or_false] at hr; rcases hr with e | e | e | e | e | e | e | e <;> subst e <;> simp)
theorem rc_run {A : dA} {s : rS} : ∀ (f i : Nat) (G : Nat → Nat) (w : Int) (K : xM), s.2.1 + 1 ≤ i + f → i ≤ s.2.1 → s.2.1 ≤ 16 → mA K A → mB K (barS A) → (∀ p, p < 9 → xI K (169, 0) p = iZ (G p) ∧ G p < 512) → (∀ j, j < s.2.1 → (xI K (167, 0) j = iZ (s.2.2.1 j) ∧ xI K (168, 0) j = iZ (s.2.2.2 j)) ∧ 1 ≤ s.2.2.1 j ∧ s.2.2.1 j < 2 ^ aP A ∧ s.2.2.2 j < 6) → xI K (12, 0) 70 = iZ s.2.1 → xI K (12, 0) 71 = iZ i → xI K (12, 0) 73 = iZ 0 → xI K (12, 0) 74 = iZ w → ∃ K', xfix gX12_record (131, [some (.inr (.inr (12, 0))), none, none], [], K) = some (some (.inl (iZ ((jRun A s f i G w).1))), K') ∧ xSm jF K K' ∧ xI K' (12, 0) 71 = iZ (jRun A s f i G w).1 ∧ xI K' (12, 0) 73 = iZ (jRun A s f i G w).2.1 ∧ xI K' (12, 0) 74 = iZ (jRun A s f i G w).2.2 ∧ 0 ≤ (jRun A s f i G w).1 ∧ (jRun A s f i G w).1 ≤ 16 := by
  intro f
  induction f with
  | zero =>
    intro i G w K h1 h2
    omega
  | succ f ih =>
    intro i G w K h1 h2 h16 hA hB hG hr f70 f71 f73 f74
    unfold jRun
    by_cases c1 : s.2.1 ≤ i
    · rw [if_pos c1]
      refine ⟨K, ?_, xSm.rf, f71, f73, f74, (by dsimp only; omega), (by dsimp only; omega)⟩
      rw [xfix_unf, sX12_record_131]
      simp (disch := omega) only [xk_none, xk_inl, xk_inr, xk_ite, xri_v, xrl_v, xrv_v, xb_z0, xb_z1, xb_b2, if_true, if_false, ite_true, ite_false, iZ_lit, iZ_m1, iZ_m99, iZ_m8, iZ_add, iZ_sub, iZ_mul, iZ_neg, nz0, nzi, iZ_lt, iZ_le, iZ_inj, b2_z, b2_o, ite_bPz, ite_bPo, xb_bP, iZ_xin, if_pos, ite_self, ↓reduceIte, Int.reduceAdd, Int.reduceSub, Int.reduceMul, Int.reduceNeg, Int.reduceLT, Int.reduceLE, if_neg, nS, iZ_clampN, iZ_bit, iZ_one, iZ_and, iZ_or, iZ_ndn, f70, f71]
    rw [if_neg c1]
    obtain ⟨⟨g1, g2⟩, g3, g4, g5⟩ := hr i (by omega)
    obtain ⟨K1, x1, x2, x3, x4, x5⟩ := m_judgesOne hA hB hG g3 g4 g5
    have sj : xSm jF K K1 := x2.wk fun r j z => z.imp id fun z => ⟨z.1, by omega⟩
    have k71 : xI (xpI K1 (12, 0) 73 (iZ (jOne A G (s.2.2.1 i) (s.2.2.2 i)).1)) (12, 0) 71 = iZ i := by rw [pF_ne (by decide), (x2 (12, 0) 71 (by simp)).1]; exact f71
    have k73 : xI (xpI K1 (12, 0) 73 (iZ (jOne A G (s.2.2.1 i) (s.2.2.2 i)).1)) (12, 0) 73 = iZ (jOne A G (s.2.2.1 i) (s.2.2.2 i)).1 := pF_eq
    generalize hjo : jOne A G (s.2.2.1 i) (s.2.2.2 i) = jo at *
    obtain ⟨c, w', G'⟩ := jo
    simp only at x1 x3 x4 x5 k71 k73 ⊢
    by_cases c2 : c = 0
    · rw [if_pos c2]
      subst c2
      have s2 : xSm jF K (xpI (xpI K1 (12, 0) 73 (iZ 0)) (12, 0) 71 (iZ ((i : Int) + 1))) := (sj.pI (.inr ⟨rfl, by omega⟩)).pI (.inr ⟨rfl, by omega⟩)
      obtain ⟨K', y1, y2, y3⟩ := ih (i + 1) G' w' (xpI (xpI K1 (12, 0) 73 (iZ 0)) (12, 0) 71 (iZ ((i : Int) + 1))) (by omega) (by omega) h16 (hA.jf s2) ⟨fun k hk => by rw [(s2 (132, 0) k (by simp)).1]; exact hB.1 k hk, hB.2⟩ (fun p hp => by
        rw [xI_pI, if_neg (by simp), xI_pI, if_neg (by simp)]; exact x3 p hp) (fun j hj => by
        rw [(s2 (167, 0) j (by simp)).1, (s2 (168, 0) j (by simp)).1]; exact hr j hj) (by rw [(s2 (12, 0) 70 (by simp)).1]; exact f70) (by rw [pF_eq]; rfl) (by rw [pF_ne (by decide), pF_eq]) (by rw [pF_ne (by decide), pF_ne (by decide)]; exact x4)
      refine ⟨K', Eq.trans ?_ y1, s2.tr y2, y3⟩
      rw [xfix_unf, sX12_record_131]
      simp (disch := omega) only [xk_none, xk_inl, xk_inr, xk_ite, xri_v, xrl_v, xrv_v, xb_z0, xb_z1, xb_b2, if_true, if_false, ite_true, ite_false, iZ_lit, iZ_m1, iZ_m99, iZ_m8, iZ_add, iZ_sub, iZ_mul, iZ_neg, nz0, nzi, iZ_lt, iZ_le, iZ_inj, b2_z, b2_o, ite_bPz, ite_bPo, xb_bP, iZ_xin, if_pos, ite_self, ↓reduceIte, Int.reduceAdd, Int.reduceSub, Int.reduceMul, Int.reduceNeg, Int.reduceLT, Int.reduceLE, if_neg, nS, iZ_clampN, iZ_bit, iZ_one, iZ_and, iZ_or, iZ_ndn, f70, f71, f73, g1, g2, x1, k73, k71]
    · rw [if_neg c2]
      have s2 : xSm jF K (xpI (xpI K1 (12, 0) 73 (iZ c)) (12, 0) 71 (iZ i)) := (sj.pI (.inr ⟨rfl, by omega⟩)).pI (.inr ⟨rfl, by omega⟩)
      have q70 : xI (xpI (xpI K1 (12, 0) 73 (iZ c)) (12, 0) 71 (iZ i)) (12, 0) 70 = iZ s.2.1 := by rw [(s2 (12, 0) 70 (by simp)).1]; exact f70
      have q71 : xI (xpI (xpI K1 (12, 0) 73 (iZ c)) (12, 0) 71 (iZ i)) (12, 0) 71 = iZ i := pF_eq
      have q73 : xI (xpI (xpI K1 (12, 0) 73 (iZ c)) (12, 0) 71 (iZ i)) (12, 0) 73 = iZ c := by rw [pF_ne (by decide), pF_eq]
      refine ⟨xpI (xpI K1 (12, 0) 73 (iZ c)) (12, 0) 71 (iZ i), ?_, s2, pF_eq, q73, by rw [pF_ne (by decide), pF_ne (by decide)]; exact x4, (by dsimp only; omega), (by dsimp only; omega)⟩
      have e0 : (i : Int) + 0 = i := Int.add_zero _
      rw [xfix_unf, sX12_record_131]
      simp (disch := omega) only [xk_none, xk_inl, xk_inr, xk_ite, xri_v, xrl_v, xrv_v, xb_z0, xb_z1, xb_b2, if_true, if_false, ite_true, ite_false, iZ_lit, iZ_m1, iZ_m99, iZ_m8, iZ_add, iZ_sub, iZ_mul, iZ_neg, nz0, nzi, iZ_lt, iZ_le, iZ_inj, b2_z, b2_o, ite_bPz, ite_bPo, xb_bP, iZ_xin, if_pos, ite_self, ↓reduceIte, Int.reduceAdd, Int.reduceSub, Int.reduceMul, Int.reduceNeg, Int.reduceLT, Int.reduceLE, if_neg, nS, iZ_clampN, iZ_bit, iZ_one, iZ_and, iZ_or, iZ_ndn, f70, f71, f73, g1, g2, x1, k73, k71, e0]
      rw [xfix_unf, sX12_record_131]
      simp (disch := omega) only [xk_none, xk_inl, xk_inr, xk_ite, xri_v, xrl_v, xrv_v, xb_z0, xb_z1, xb_b2, if_true, if_false, ite_true, ite_false, iZ_lit, iZ_m1, iZ_m99, iZ_m8, iZ_add, iZ_sub, iZ_mul, iZ_neg, nz0, nzi, iZ_lt, iZ_le, iZ_inj, b2_z, b2_o, ite_bPz, ite_bPo, xb_bP, iZ_xin, if_pos, ite_self, ↓reduceIte, Int.reduceAdd, Int.reduceSub, Int.reduceMul, Int.reduceNeg, Int.reduceLT, Int.reduceLE, if_neg, nS, iZ_clampN, iZ_bit, iZ_one, iZ_and, iZ_or, iZ_ndn, q70, q71, q73]
theorem rcF_scr {M M' : xM} (h : xSm rcF M M') : scr M M' := h.wk fun r j z => by
  rcases z with z | z | z | z
  · obtain ⟨z1, z2⟩ := z
    subst z1
    rcases z2 with e | e | e | e | e | e | e | e <;> subst e <;> exact ⟨rfl, rfl⟩
  all_goals (subst z; exact ⟨rfl, rfl⟩)
theorem z_record {A : dA} {S : dS} {M : xM} (h : mZ M A S) : zR (fX12_record [.inr (.inr (12, 0))] M) (.inl (iZ (tRec A S).1)) A (tRec A S).2 ∧ (tRec A S).1 ≤ 16 := by
  have h0 := h
  obtain ⟨hQ, hS, hO, hF⟩ := h
  have hS' := hS
  obtain ⟨⟨a1, a2⟩, _, _, aN, _⟩ := hS'
  generalize hM0 : xpI (xpI (xpI (xpI M (12, 0) 30 (iZ 1)) (12, 0) 23 (iZ 0)) (12, 0) 19 (iZ 0)) (12, 0) 70 (iZ 0) = M0
  have s0 : xSm rcF M M0 := by
    rw [← hM0]
    exact (((xSm.rf.pI (by simp [rcF])).pI (by simp [rcF])).pI (by simp [rcF])).pI (by simp [rcF])
  have hT : rT M0 (sN S) (sT S) := ⟨by rw [(s0 (12, 0) 18 (by simp)).1]; exact a1, hO.1, fun k hk => ⟨by rw [(s0 (110, 0) k (by simp)).1]; exact a2 k hk, hO.2.1 k hk⟩⟩
  have g19 : xI M0 (12, 0) 19 = iZ ((0 : Nat) : Int) := by rw [← hM0, pF_ne (by decide), pF_eq]; rfl
  have g30 : xI M0 (12, 0) 30 = bP True := by rw [← hM0, pF_ne (by decide), pF_ne (by decide), pF_ne (by decide), pF_eq, bP_t trivial]
  have g23 : xI M0 (12, 0) 23 = iZ 0 := by rw [← hM0, pF_ne (by decide), pF_ne (by decide), pF_eq]
  have g70 : xI M0 (12, 0) 70 = iZ 0 := by rw [← hM0, pF_eq]
  obtain ⟨M1, c1, c2, c3⟩ := m_next0 hT g19 (by omega) g30
  have s1 : xSm rcF M M1 := s0.tr (rcF_nx c2)
  have hsk : sk (sN S) (sT S) 0 ≤ sN S := (rn_b (P := isB) (T := sT S) (i := 0) (Nat.zero_le _)).2
  have hm : mNm M A S := ⟨⟨hQ.1.2.1, hQ.1.ok.P⟩, aN, hO.2.2.2⟩
  have hM1 : rM M1 A (sN S) (sT S) (sk (sN S) (sT S) 0, 0, (fun _ => 0), fun _ => 0) := ⟨⟨hT.nx c2, ⟨by rw [(c2 (12, 0) 30 (by decide)).1]; exact g30, by rw [(c2 (12, 0) 23 (by decide)).1]; exact g23⟩, hsk, c3⟩, ⟨by rw [(c2 (12, 0) 70 (by decide)).1]; exact g70, Nat.zero_le _⟩, fun j hj => absurd hj (Nat.not_lt_zero _)⟩
  have top : fX12_record [.inr (.inr (12, 0))] M = xfix gX12_record (26, [some (.inr (.inr (12, 0))), some (.inl (iZ ((1 : Int)))), none], [], M1) := by
    show xfix gX12_record (0, [some (.inr (.inr (12, 0))), none, none], [], M) = _; rw [xfix_unf, sX12_record_0]
    simp (disch := omega) only [xk_none, xk_inl, xk_inr, xk_ite, xri_v, xrl_v, xrv_v, xb_z0, xb_z1, xb_b2, if_true, if_false, ite_true, ite_false, iZ_lit, iZ_m1, iZ_m99, iZ_m8, iZ_add, iZ_sub, iZ_mul, iZ_neg, nz0, nzi, iZ_lt, iZ_le, iZ_inj, b2_z, b2_o, ite_bPz, ite_bPo, xb_bP, iZ_xin, if_pos, ite_self, ↓reduceIte, Int.reduceAdd, Int.reduceSub, Int.reduceMul, Int.reduceNeg, Int.reduceLT, Int.reduceLE, if_neg]
    rw [hM0, c1]
    rfl
  obtain ⟨M2, d1, d2⟩ := rc_all (S := S) 30 M1 (sk (sN S) (sT S) 0, 0, (fun _ => 0), fun _ => 0) (by omega) hM1 (hm.rc s1)
  have s2 : xSm rcF M M2 := s1.tr d1
  unfold tRec pRec
  rcases d2 with ⟨f, x1, x2, x3⟩ | ⟨s, x1, x2, x3⟩
  · rw [x1]
    refine ⟨⟨_, ?_, th_bad h0 (rcF_scr s2) f⟩, (by dsimp only; omega)⟩
    have k23 : xI (xpI M2 (12, 0) 18 (iZ 0)) (12, 0) 23 = iZ f.1 := by rw [pF_ne (by decide)]; exact x3.1
    have k24 : xI (xpI (xpI M2 (12, 0) 18 (iZ 0)) (12, 0) 25 (iZ f.1)) (12, 0) 24 = iZ f.2 := by rw [pF_ne (by decide), pF_ne (by decide)]; exact x3.2
    rw [top, x2]
    rw [xfix_unf, sX12_record_45]
    simp (disch := omega) only [xk_none, xk_inl, xk_inr, xk_ite, xri_v, xrl_v, xrv_v, xb_z0, xb_z1, xb_b2, if_true, if_false, ite_true, ite_false, iZ_lit, iZ_m1, iZ_m99, iZ_m8, iZ_add, iZ_sub, iZ_mul, iZ_neg, nz0, nzi, iZ_lt, iZ_le, iZ_inj, b2_z, b2_o, ite_bPz, ite_bPo, xb_bP, iZ_xin, if_pos, ite_self, ↓reduceIte, Int.reduceAdd, Int.reduceSub, Int.reduceMul, Int.reduceNeg, Int.reduceLT, Int.reduceLE, if_neg, k23, k24]
  · rw [x1]
    obtain ⟨hK, ⟨n1, n2⟩, n3⟩ := x3
    have k23 : xI (xpI M2 (12, 0) 18 (iZ 0)) (12, 0) 23 = iZ 0 := by rw [pF_ne (by decide)]; exact hK.2.1.2
    have z3 := th_bad h0 (rcF_scr s2) (0, 0)
    generalize hM3 : xpI (xpI (xpI M2 (12, 0) 18 (iZ 0)) (12, 0) 25 (iZ 0)) (12, 0) 29 (iZ (-1)) = M3
    have s3 : xSm stF M2 M3 := by rw [← hM3]; exact ((xSm.rf.pI (.inl ⟨rfl, by omega⟩)).pI (.inl ⟨rfl, by omega⟩)).pI (.inl ⟨rfl, by omega⟩)
    have s3' : xSm (fun r j => r = (12, 0) ∧ (j = 18 ∨ j = 25 ∨ j = 29)) M2 M3 := by rw [← hM3]; exact ((xSm.rf.pI ⟨rfl, by omega⟩).pI ⟨rfl, by omega⟩).pI ⟨rfl, by omega⟩
    have v18 : xI M3 (12, 0) 18 = iZ 0 := by rw [← hM3, pF_ne (by decide), pF_ne (by decide), pF_eq]
    have v25 : xI M3 (12, 0) 25 = iZ 0 := by rw [← hM3, pF_ne (by decide), pF_eq]
    have v29 : xI M3 (12, 0) 29 = iZ (-1) := by rw [← hM3, pF_eq]
    have hQ3 : mQ M3 A := (hQ.scr (rcF_scr s2)).st s3
    obtain ⟨M4, e1, e2, e3, e4, e5⟩ := hQ3.kn
    obtain ⟨M4', e1', e6, _⟩ := m_knows hQ3.A hQ3.H hQ3.2.2.2.2.1
    have eM : M4' = M4 := by
      have := e1'.symm.trans e1
      injection this with this
      injection this
    rw [eM] at e6
    have w70 : xI M4 (12, 0) 70 = iZ s.2.1 := by rw [(e6 (12, 0) 70 (by simp [kR, cR])).1, (s3' (12, 0) 70 (by simp)).1]; exact n1
    have hP := hQ.1.ok.P
    have e0 : ((2 ^ aP A : Nat) : Int) - 1 = ((2 ^ aP A - 1 : Nat) : Int) := by
      have := Nat.two_pow_pos (aP A)
      omega
    obtain ⟨M5, b1, b2, b3⟩ := xfor_M (sg := gX12_record) (st := fun i M => (86, [some (.inr (.inr (12, 0))), none, some (.inl (iZ (i)))], [], M)) (I := fun k K => xSame (fun r => r = (169, 0)) M4 K ∧ ∀ c, c < k → xI K (169, 0) c = iZ ((2 ^ aP A - 1 : Nat) : Int)) (n := 9) (fun i K hi hK => by
      obtain ⟨k1, k2⟩ := hK
      have hw := m_whole (P := aP A) K ⟨by rw [(k1 (12, 0) (by decide)).1]; exact e2.A.2.1, hP⟩
      rw [e0] at hw
      refine ⟨xpI K (169, 0) i (iZ ((2 ^ aP A - 1 : Nat) : Int)), ?_, k1.pI rfl, fun c hc => ?_⟩
      · rw [xfix_unf, sX12_record_86]
        simp (disch := omega) only [xk_none, xk_inl, xk_inr, xk_ite, xri_v, xrl_v, xrv_v, xb_z0, xb_z1, xb_b2, if_true, if_false, ite_true, ite_false, iZ_lit, iZ_m1, iZ_m99, iZ_m8, iZ_add, iZ_sub, iZ_mul, iZ_neg, nz0, nzi, iZ_lt, iZ_le, iZ_inj, b2_z, b2_o, ite_bPz, ite_bPo, xb_bP, iZ_xin, if_pos, ite_self, ↓reduceIte, Int.reduceAdd, Int.reduceSub, Int.reduceMul, Int.reduceNeg, Int.reduceLT, Int.reduceLE, if_neg, nS, iZ_clampN, iZ_bit, iZ_one, iZ_and, iZ_or, iZ_ndn, hw]
      · rw [xI_pI]
        by_cases e : c = i
        · rw [if_pos ⟨rfl, e⟩]
        · rw [if_neg (fun z => e z.2)]; exact k2 c (by omega)) (a := 0) (M := M4) (by omega) ⟨xSame.rf, fun c hc => by omega⟩
    have y70 : xI M5 (12, 0) 70 = iZ s.2.1 := by rw [(b2 (12, 0) (by decide)).1]; exact w70
    generalize hM6 : xpI (xpI (xpI (xpI M5 (12, 0) 72 (iZ s.2.1)) (12, 0) 71 (iZ 0)) (12, 0) 73 (iZ 0)) (12, 0) 74 (iZ (-1)) = M6
    have s6 : xSm (fun r j => r = (12, 0) ∧ (j = 71 ∨ j = 72 ∨ j = 73 ∨ j = 74)) M5 M6 := by rw [← hM6]; exact (((xSm.rf.pI ⟨rfl, by omega⟩).pI ⟨rfl, by omega⟩).pI ⟨rfl, by omega⟩).pI ⟨rfl, by omega⟩
    have s46 : xSm stF M4 M6 := (b2.sm.wk fun r j z => .inr (.inr (.inr z))).tr (s6.wk fun r j z => .inl ⟨z.1, by omega⟩)
    have hQ6 : mQ M6 A := e2.st s46
    have hB6 : mB M6 (barS A) := ⟨fun k hk => by rw [(s46 (132, 0) k (by simp [stF])).1]; exact e4.1.1 k hk, e4.1.2⟩
    have h9 : (2 : Nat) ^ aP A ≤ 512 := Nat.pow_le_pow_right (n := 2) (by omega) hP
    obtain ⟨M7, r1, r2, r3, r4, r5, r6, r7⟩ := rc_run (A := A) (s := s) 17 0 (fun _ => 2 ^ aP A - 1) (-1) M6 (by omega) (by omega) n2 hQ6.A hB6 (fun p hp => ⟨by rw [(s6 (169, 0) p (by simp)).1]; exact b3 p hp, by omega⟩) (fun j hj => by
      rw [(s6 (167, 0) j (by simp)).1, (s6 (168, 0) j (by simp)).1, (b2 (167, 0) (by decide)).1, (b2 (168, 0) (by decide)).1, (e6 (167, 0) j (by simp [kR, cR])).1, (e6 (168, 0) j (by simp [kR, cR])).1, (s3' (167, 0) j (by simp)).1, (s3' (168, 0) j (by simp)).1]
      exact n3 j hj) (by rw [(s6 (12, 0) 70 (by simp)).1]; exact y70) (by rw [← hM6, pF_ne (by decide), pF_ne (by decide), pF_eq]; rfl) (by rw [← hM6, pF_ne (by decide), pF_eq]) (by rw [← hM6, pF_eq])
    have s7 : xSm stF M6 M7 := r2.wk fun r j z => z.elim (fun z => .inr (.inr (.inr z))) (fun z => .inl ⟨z.1, by omega⟩)
    have hS2 := hS.ro (rcF_scr s2).fB
    have s47 : xSm (fun r j => r = (169, 0) ∨ (r = (12, 0) ∧ (j = 71 ∨ j = 72 ∨ j = 73 ∨ j = 74))) M4 M7 := ((b2.sm.wk fun r j z => .inl z).tr (s6.wk fun r j z => .inr z)).tr (r2.wk fun r j z => z.imp id fun z => ⟨z.1, by omega⟩)
    have hf : ∀ r j, bsB r j = true → ¬ (r = (169, 0) ∨ (r = (12, 0) ∧ (j = 71 ∨ j = 72 ∨ j = 73 ∨ j = 74 ∨ j = 18 ∨ j = 25 ∨ j = 29))) → xI M7 r j = xI M2 r j := fun r j hb hn => by
      rw [(s47 r j (fun z => hn (z.imp id fun z => ⟨z.1, by omega⟩))).1, (e3 r j (fun z => Bool.noConfusion (hb.symm.trans z))).1, (s3' r j (fun z => hn (.inr ⟨z.1, by omega⟩))).1]
    have hg : ∀ j, bsB (12, 0) j = true → ¬ (j = 71 ∨ j = 72 ∨ j = 73 ∨ j = 74) → xI M7 (12, 0) j = xI M3 (12, 0) j := fun j hb hn => by
      rw [(s47 (12, 0) j (by simp; omega)).1, (e3 (12, 0) j (fun z => Bool.noConfusion (hb.symm.trans z))).1]
    refine ⟨⟨M7, ?_, hQ6.st s7, ⟨⟨?_, fun k hk => absurd hk (Nat.not_lt_zero _)⟩, ⟨?_, ?_⟩, ⟨fun p hp => ?_, ?_⟩, fun q hq => ⟨?_, fun k hk => ?_⟩, ?_, ?_, ?_, ?_⟩, ?_, hF⟩, r7⟩
    · rw [top, x2]
      have t45 : xfix gX12_record (45, [some (.inr (.inr (12, 0))), some (.inl (iZ ((1 : Int)))), none], [], M2) = xfix gX12_record (86, [some (.inr (.inr (12, 0))), none, some (.inl (iZ (((0 : Nat)))))], [], M4) := by
        rw [xfix_unf, sX12_record_45]
        simp (disch := omega) only [xk_none, xk_inl, xk_inr, xk_ite, xri_v, xrl_v, xrv_v, xb_z0, xb_z1, xb_b2, if_true, if_false, ite_true, ite_false, iZ_lit, iZ_m1, iZ_m99, iZ_m8, iZ_add, iZ_sub, iZ_mul, iZ_neg, nz0, nzi, iZ_lt, iZ_le, iZ_inj, b2_z, b2_o, ite_bPz, ite_bPo, xb_bP, iZ_xin, if_pos, ite_self, ↓reduceIte, Int.reduceAdd, Int.reduceSub, Int.reduceMul, Int.reduceNeg, Int.reduceLT, Int.reduceLE, if_neg, k23]
        rw [hM3, e1]
        rfl
      rw [t45, b1]
      have t86 : xfix gX12_record (86, [some (.inr (.inr (12, 0))), none, some (.inl (iZ (((9 : Nat)))))], [], M5) = xfix gX12_record (131, [some (.inr (.inr (12, 0))), none, none], [], M6) := by
        rw [xfix_unf, sX12_record_86]
        have e9 : ((9 : Nat) : Int) = 9 := rfl
        simp (disch := omega) only [xk_none, xk_inl, xk_inr, xk_ite, xri_v, xrl_v, xrv_v, xb_z0, xb_z1, xb_b2, if_true, if_false, ite_true, ite_false, iZ_lit, iZ_m1, iZ_m99, iZ_m8, iZ_add, iZ_sub, iZ_mul, iZ_neg, nz0, nzi, iZ_lt, iZ_le, iZ_inj, b2_z, b2_o, ite_bPz, ite_bPo, xb_bP, iZ_xin, if_pos, ite_self, ↓reduceIte, Int.reduceAdd, Int.reduceSub, Int.reduceMul, Int.reduceNeg, Int.reduceLT, Int.reduceLE, if_neg, e9, y70]
        rw [hM6]
      rw [t86]
      exact r1
    · rw [hg 18 rfl (by omega)]; exact v18
    · rw [hg 25 rfl (by omega)]; exact v25
    · rw [hg 29 rfl (by omega)]; exact v29
    · rw [hf (157, 0) p rfl (by simp)]; exact hS2.2.2.1.1 p hp
    · rw [hf (12, 0) 58 rfl (by simp)]; exact hS2.2.2.1.2
    · rw [hf (166, 0) q rfl (by simp)]; exact (hS2.2.2.2.1 q hq).1
    · rw [hf (165, 0) (6 * q + k) rfl (by simp)]; exact (hS2.2.2.2.1 q hq).2 k hk
    · exact r3
    · show xI M7 (12, 0) 72 = iZ s.2.1
      rw [(r2 (12, 0) 72 (by simp)).1, ← hM6, pF_ne (by decide), pF_ne (by decide), pF_ne (by decide), pF_eq]
    · exact r4
    · exact r5
    · obtain ⟨p1, p2, p3, p4⟩ := hO
      exact ⟨Nat.zero_le _, fun k hk => absurd hk (Nat.not_lt_zero _), p3, p4⟩
