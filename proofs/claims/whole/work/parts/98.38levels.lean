/-! the class: levels of offsets -/
theorem bPor (P Q : Prop) : bP P ||| bP Q = bP (P ∨ Q) := by
  have o00 : (iZ 0 : Int32) ||| iZ 0 = iZ 0 := by decide
  have o01 : (iZ 0 : Int32) ||| iZ 1 = iZ 1 := by decide
  have o10 : (iZ 1 : Int32) ||| iZ 0 = iZ 1 := by decide
  have o11 : (iZ 1 : Int32) ||| iZ 1 = iZ 1 := by decide
  by_cases p : P <;> by_cases q : Q
  · rw [bP_t p, bP_t q, bP_t (c := P ∨ Q) (.inl p), o11]
  · rw [bP_t p, bP_f q, bP_t (c := P ∨ Q) (.inl p), o10]
  · rw [bP_f p, bP_t q, bP_t (c := P ∨ Q) (.inr q), o01]
  · rw [bP_f p, bP_f q, bP_f (c := P ∨ Q) (fun z => z.elim p q), o00]
theorem lv_word {M : xM} {k w : Nat} (h : lg_cmp (xL M (46, k) w) 0 = iZ 0) : ∀ s, s / 64 = w → ofM M k s = false := fun s hs => by
  rw [show iZ 0 = 0 from rfl, lg_cmp_eq] at h
  unfold ofM
  rw [hs, h, lB_0]
theorem lv_word2 {M : xM} {k w : Nat} (h : ¬ lg_cmp (xL M (46, k) w) 0 = iZ 0) : ∃ s, s / 64 = w ∧ ofM M k s = true := by
  refine Classical.byContradiction fun no => h ?_
  rw [show iZ 0 = 0 from rfl, lg_cmp_eq]
  refine lB_z.mpr fun i hi => ?_
  by_cases y : lB (xL M (46, k) w) i = true
  · refine absurd ⟨64 * w + i, by omega, ?_⟩ no
    unfold ofM
    rw [show (64 * w + i) / 64 = w by omega, show (64 * w + i) % 64 = i by omega]
    exact y
  · simpa using y
theorem x_takeLevel {M : xM} : ∃ M', fX7_takeLevel [.inr (.inr (7, 0))] M = some (some (.inl (bP (∃ u, u < 4928 ∧ ofM M 4 u = true))), M') ∧ xSame (fun r => r = (46, 3) ∨ r = (46, 4)) M M' ∧ ∀ u, u < 4928 → ofM M' 3 u = ofM M 4 u ∧ ofM M' 4 u = false := by
  obtain ⟨M2, b1, b2, b3, b4⟩ := xfor_M (sg := gX7_takeLevel) (st := fun w K => (4, [some (.inr (.inr (7, 0))), some (.inl (bP ((∃ u, u / 64 < w ∧ ofM M 4 u = true)))), some (.inl (iZ (w)))], [], K)) (I := fun w K => xSame (fun r => r = (46, 3) ∨ r = (46, 4)) M K ∧ (∀ i, i < w → xL K (46, 3) i = xL M (46, 4) i ∧ xL K (46, 4) i = 0) ∧ ∀ i, w ≤ i → xL K (46, 4) i = xL M (46, 4) i) (n := 77) (fun w K hw hI => by
    obtain ⟨i1, i2, i3⟩ := hI
    have e3 : xL (xpL (xpL K (46, 3) w (xL K (46, 4) w)) (46, 4) w 0) (46, 3) w = xL M (46, 4) w := by
      rw [xL_pL, if_neg (by simp), xL_pL, if_pos ⟨rfl, rfl⟩, i3 w (Nat.le_refl _)]
    have stepP : bP (∃ u, u / 64 < w + 1 ∧ ofM M 4 u = true) = bP (∃ u, u / 64 < w ∧ ofM M 4 u = true) ||| bP (∃ u, u / 64 = w ∧ ofM M 4 u = true) := by
      rw [bPor]
      refine bP_c ⟨fun ⟨u, u1, u2⟩ => ?_, fun z => z.elim (fun ⟨u, u1, u2⟩ => ⟨u, by omega, u2⟩) (fun ⟨u, u1, u2⟩ => ⟨u, by omega, u2⟩)⟩
      by_cases e : u / 64 = w
      · exact .inr ⟨u, e, u2⟩
      · exact .inl ⟨u, by omega, u2⟩
    refine ⟨xpL (xpL K (46, 3) w (xL K (46, 4) w)) (46, 4) w 0, ?_, (i1.pL (.inl rfl)).pL (.inr rfl), fun i hi => ⟨?_, ?_⟩, fun i hi => ?_⟩
    · rw [stepP, nS]
      by_cases y : lg_cmp (xL M (46, 4) w) 0 = iZ 0
      · have y2 : lg_cmp (xL (xpL (xpL K (46, 3) w (xL K (46, 4) w)) (46, 4) w 0) (46, 3) w) 0 = iZ 0 := by rw [e3]; exact y
        rw [bP_f (c := ∃ u, u / 64 = w ∧ ofM M 4 u = true) (fun ⟨u, u1, u2⟩ => by rw [lv_word y u u1] at u2; cases u2)]
        generalize bP (∃ u, u / 64 < w ∧ ofM M 4 u = true) = b at *
        rw [xfix_unf, sX7_takeLevel_4]
        simp (disch := omega) only [xk_none, xk_inl, xk_inr, xk_ite, xri_v, xrl_v, xrv_v, xb_z0, xb_z1, xb_b2, if_true, if_false, ite_true, ite_false, iZ_lit, iZ_m1, iZ_m99, iZ_m8, iZ_add, iZ_sub, iZ_mul, iZ_neg, nz0, nzi, iZ_lt, iZ_le, iZ_inj, b2_z, b2_o, ite_bPz, ite_bPo, xb_bP, iZ_xin, if_pos, ite_self, ↓reduceIte, Int.reduceAdd, Int.reduceSub, Int.reduceMul, Int.reduceNeg, Int.reduceLT, Int.reduceLE, if_neg, iZ_clampN, y2]
      · have y2 : ¬ lg_cmp (xL (xpL (xpL K (46, 3) w (xL K (46, 4) w)) (46, 4) w 0) (46, 3) w) 0 = iZ 0 := by rw [e3]; exact y
        rw [bP_t (c := ∃ u, u / 64 = w ∧ ofM M 4 u = true) (lv_word2 y)]
        generalize bP (∃ u, u / 64 < w ∧ ofM M 4 u = true) = b at *
        rw [xfix_unf, sX7_takeLevel_4]
        simp (disch := omega) only [xk_none, xk_inl, xk_inr, xk_ite, xri_v, xrl_v, xrv_v, xb_z0, xb_z1, xb_b2, if_true, if_false, ite_true, ite_false, iZ_lit, iZ_m1, iZ_m99, iZ_m8, iZ_add, iZ_sub, iZ_mul, iZ_neg, nz0, nzi, iZ_lt, iZ_le, iZ_inj, b2_z, b2_o, ite_bPz, ite_bPo, xb_bP, iZ_xin, if_pos, ite_self, ↓reduceIte, Int.reduceAdd, Int.reduceSub, Int.reduceMul, Int.reduceNeg, Int.reduceLT, Int.reduceLE, if_neg, iZ_clampN, y2]
    · rw [xL_pL, if_neg (by simp), xL_pL]
      by_cases e : i = w
      · rw [if_pos ⟨rfl, e⟩, e, i3 w (Nat.le_refl _)]
      · rw [if_neg (fun z => e z.2)]; exact (i2 i (by omega)).1
    · rw [xL_pL]
      by_cases e : i = w
      · rw [if_pos ⟨rfl, e⟩]
      · rw [if_neg (fun z => e z.2), xL_pL, if_neg (by simp)]; exact (i2 i (by omega)).2
    · rw [xL_pL, if_neg (fun z => by omega), xL_pL, if_neg (by simp)]; exact i3 i (by omega)) (a := 0) (M := M) (by omega) ⟨xSame.rf, fun i hi => by omega, fun i hi => rfl⟩
  refine ⟨M2, ?_, b2, fun u hu => ⟨?_, ?_⟩⟩
  · have e0 : bP (∃ u, u / 64 < 0 ∧ ofM M 4 u = true) = iZ 0 := bP_f (fun ⟨u, u1, _⟩ => by omega)
    have zz : ((0 : Nat) : Int) = 0 := rfl
    have e77 : ((77 : Nat) : Int) = 77 := rfl
    rw [e0, zz, e77] at b1
    have e1 : bP (∃ u, u < 4928 ∧ ofM M 4 u = true) = bP (∃ u, u / 64 < 77 ∧ ofM M 4 u = true) := bP_c ⟨fun ⟨u, u1, u2⟩ => ⟨u, by omega, u2⟩, fun ⟨u, u1, u2⟩ => ⟨u, by omega, u2⟩⟩
    rw [e1]
    show xfix gX7_takeLevel (0, [some (.inr (.inr (7, 0))), none, none], [], M) = _; rw [xfix_unf, sX7_takeLevel_0]
    simp (disch := omega) only [xk_none, xk_inl, xk_inr, xk_ite, xri_v, xrl_v, xrv_v, xb_z0, xb_z1, xb_b2, if_true, if_false, ite_true, ite_false, iZ_lit, iZ_m1, iZ_m99, iZ_m8, iZ_add, iZ_sub, iZ_mul, iZ_neg, nz0, nzi, iZ_lt, iZ_le, iZ_inj, b2_z, b2_o, ite_bPz, ite_bPo, xb_bP, iZ_xin, if_pos, ite_self, ↓reduceIte, Int.reduceAdd, Int.reduceSub, Int.reduceMul, Int.reduceNeg, Int.reduceLT, Int.reduceLE, if_neg]
    refine Eq.trans b1 ?_
    rw [xfix_unf, sX7_takeLevel_4]
    simp (disch := omega) only [xk_none, xk_inl, xk_inr, xk_ite, xri_v, xrl_v, xrv_v, xb_z0, xb_z1, xb_b2, if_true, if_false, ite_true, ite_false, iZ_lit, iZ_m1, iZ_m99, iZ_m8, iZ_add, iZ_sub, iZ_mul, iZ_neg, nz0, nzi, iZ_lt, iZ_le, iZ_inj, b2_z, b2_o, ite_bPz, ite_bPo, xb_bP, iZ_xin, if_pos, ite_self, ↓reduceIte, Int.reduceAdd, Int.reduceSub, Int.reduceMul, Int.reduceNeg, Int.reduceLT, Int.reduceLE, if_neg]
  · unfold ofM; rw [(b3 (u / 64) (by omega)).1]
  · unfold ofM; rw [(b3 (u / 64) (by omega)).2, lB_0]
theorem x_spreadLevel {M : xM} {A : dA} {half rest : Nat} (hL : cLd M A half rest) (hK : cKn M A half rest) (hr : ∀ s, s < 4928 → ofM M 3 s = true → s < 4913 ∧ ofM M 2 s = true) (h4 : ∀ s, s < 4928 → ofM M 4 s = false) : ∃ M', fX7_spreadLevel [.inr (.inr (7, 0))] M = some (none, M') ∧ xSame (fun r => ckF r ∨ r = (46, 2) ∨ r = (46, 4)) M M' ∧ cKn M' A half rest ∧ ∀ u, u < 4928 → (ofM M' 2 u = true ↔ ofM M 2 u = true ∨ ∃ s, s < 4928 ∧ ofM M 3 s = true ∧ mvE A half rest s u) ∧ (ofM M' 4 u = true ↔ ¬ ofM M 2 u = true ∧ ∃ s, s < 4928 ∧ ofM M 3 s = true ∧ mvE A half rest s u) := by
  obtain ⟨J, eJ⟩ : ∃ J : Nat → xM → Prop, J = fun n K => xSame (fun r => ckF r ∨ r = (46, 2) ∨ r = (46, 4)) M K ∧ cKn K A half rest ∧ ∀ u, u < 4928 → (ofM K 2 u = true ↔ ofM M 2 u = true ∨ ∃ s, s < n ∧ ofM M 3 s = true ∧ mvE A half rest s u) ∧ (ofM K 4 u = true ↔ ¬ ofM M 2 u = true ∧ ∃ s, s < n ∧ ofM M 3 s = true ∧ mvE A half rest s u) := ⟨_, rfl⟩
  have J_no : ∀ n n' K, n ≤ n' → (∀ s, n ≤ s → s < n' → ofM M 3 s = false) → J n K → J n' K := fun n n' K hn hno hJ => by
    rw [eJ] at hJ ⊢
    obtain ⟨j1, j2, j3⟩ := hJ
    have ex : ∀ u, (∃ s, s < n ∧ ofM M 3 s = true ∧ mvE A half rest s u) ↔ ∃ s, s < n' ∧ ofM M 3 s = true ∧ mvE A half rest s u := fun u => by
      constructor
      · rintro ⟨s, s1, s2⟩; exact ⟨s, by omega, s2⟩
      · rintro ⟨s, s1, s2, s3⟩
        by_cases e : s < n
        · exact ⟨s, e, s2, s3⟩
        · rw [hno s (by omega) s1] at s2; cases s2
    refine ⟨j1, j2, fun u hu => ?_⟩
    rw [← ex u]
    exact j3 u hu
  have J_is : ∀ n K, n < 4928 → ofM M 3 n = true → J n K → ∃ K', fX7_spreadFrom [.inr (.inr (7, 0)), .inl (iZ (n))] K = some (none, K') ∧ J (n + 1) K' := fun n K hn h3 hJ => by
    rw [eJ] at hJ ⊢
    obtain ⟨j1, j2, j3⟩ := hJ
    obtain ⟨n1, n2⟩ := hr n hn h3
    obtain ⟨K', a1, a2, a3, a4⟩ := x_spreadFrom (M := K) n1 (hL.same j1 (by simp) (by simp)) j2 ((j3 n hn).1.mpr (.inl n2))
    refine ⟨K', a1, j1.tr a2, a3, fun u hu => ?_⟩
    rw [(a4 u).1, (a4 u).2, (j3 u hu).1, (j3 u hu).2]
    constructor
    · constructor
      · rintro ((z | ⟨s, s1, s2⟩) | z)
        · exact .inl z
        · exact .inr ⟨s, by omega, s2⟩
        · exact .inr ⟨n, by omega, h3, z⟩
      · rintro (z | ⟨s, s1, s2, s3⟩)
        · exact .inl (.inl z)
        · by_cases e : s = n
          · subst e; exact .inr s3
          · exact .inl (.inr ⟨s, by omega, s2, s3⟩)
    · constructor
      · rintro (⟨y, s, s1, s2⟩ | ⟨y, z⟩)
        · exact ⟨y, s, by omega, s2⟩
        · exact ⟨fun q => y (.inl q), n, by omega, h3, z⟩
      · rintro ⟨y, s, s1, s2, s3⟩
        by_cases e : s = n
        · subst e
          by_cases o : ∃ s', s' < s ∧ ofM M 3 s' = true ∧ mvE A half rest s' u
          · exact .inl ⟨y, o⟩
          · exact .inr ⟨fun q => q.elim y o, s3⟩
        · exact .inl ⟨y, s, by omega, s2, s3⟩
  have row3 : ∀ n K, J n K → ∀ i, xL K (46, 3) i = xL M (46, 3) i := fun n K hJ i => by
    rw [eJ] at hJ
    exact (hJ.1 (46, 3) (by simp)).2 i
  have inn : ∀ w, w < 77 → ∀ d b K, b + d = 64 → J (64 * w + b) K → ∃ K', xfix gX7_spreadLevel (10, [some (.inr (.inr (7, 0))), some (.inl (iZ (w))), some (.inl (iZ (b)))], [], K) = xfix gX7_spreadLevel (2, [some (.inr (.inr (7, 0))), some (.inl (iZ (((w : Int) + 1)))), none], [], K') ∧ J (64 * (w + 1)) K' := by
    intro w hw d
    induction d with
    | zero =>
      intro b K hb hJ
      have : b = 64 := by omega
      subst this
      refine ⟨K, ?_, hJ⟩
      have e64 : ((64 : Nat) : Int) = 64 := rfl
      rw [e64]
      rw [xfix_unf, sX7_spreadLevel_10]
      simp (disch := omega) only [xk_none, xk_inl, xk_inr, xk_ite, xri_v, xrl_v, xrv_v, xb_z0, xb_z1, xb_b2, if_true, if_false, ite_true, ite_false, iZ_lit, iZ_m1, iZ_m99, iZ_m8, iZ_add, iZ_sub, iZ_mul, iZ_neg, nz0, nzi, iZ_lt, iZ_le, iZ_inj, b2_z, b2_o, ite_bPz, ite_bPo, xb_bP, iZ_xin, if_pos, ite_self, ↓reduceIte, Int.reduceAdd, Int.reduceSub, Int.reduceMul, Int.reduceNeg, Int.reduceLT, Int.reduceLE, if_neg]
    | succ d ih =>
      intro b K hb hJ
      have r3' := row3 _ _ hJ w
      by_cases y : lg_cmp (xL M (46, 3) w) 0 = iZ 0
      · refine ⟨K, ?_, J_no _ _ K (by omega) (fun s s1 s2 => lv_word y s (by omega)) hJ⟩
        rw [← r3'] at y
        clear J_no J_is row3 ih
        rw [xfix_unf, sX7_spreadLevel_10]
        simp (disch := omega) only [xk_none, xk_inl, xk_inr, xk_ite, xri_v, xrl_v, xrv_v, xb_z0, xb_z1, xb_b2, if_true, if_false, ite_true, ite_false, iZ_lit, iZ_m1, iZ_m99, iZ_m8, iZ_add, iZ_sub, iZ_mul, iZ_neg, nz0, nzi, iZ_lt, iZ_le, iZ_inj, b2_z, b2_o, ite_bPz, ite_bPo, xb_bP, iZ_xin, if_pos, ite_self, ↓reduceIte, Int.reduceAdd, Int.reduceSub, Int.reduceMul, Int.reduceNeg, Int.reduceLT, Int.reduceLE, if_neg, iZ_clampN, y]
      · rw [← r3'] at y
        have es : (64 * (w : Int) + (b : Int)) = ((64 * w + b : Nat) : Int) := by omega
        have im := x_isMarked (M := K) (k := 3) (s := 64 * w + b) (by omega)
        have e3 : ofM K 3 (64 * w + b) = ofM M 3 (64 * w + b) := by unfold ofM; rw [row3 _ _ hJ]
        by_cases z : ofM M 3 (64 * w + b) = true
        · obtain ⟨K', a1, a2⟩ := J_is _ K (by omega) z hJ
          obtain ⟨K2, c1, c2⟩ := ih (b + 1) K' (by omega) a2
          refine ⟨K2, ?_, c2⟩
          rw [← c1, nS]
          rw [e3, bP_t z] at im
          clear J_no J_is row3 ih c1
          generalize ((64 * w + b : Nat) : Int) = ss at *
          rw [xfix_unf, sX7_spreadLevel_10]
          simp (disch := omega) only [xk_none, xk_inl, xk_inr, xk_ite, xri_v, xrl_v, xrv_v, xb_z0, xb_z1, xb_b2, if_true, if_false, ite_true, ite_false, iZ_lit, iZ_m1, iZ_m99, iZ_m8, iZ_add, iZ_sub, iZ_mul, iZ_neg, nz0, nzi, iZ_lt, iZ_le, iZ_inj, b2_z, b2_o, ite_bPz, ite_bPo, xb_bP, iZ_xin, if_pos, ite_self, ↓reduceIte, Int.reduceAdd, Int.reduceSub, Int.reduceMul, Int.reduceNeg, Int.reduceLT, Int.reduceLE, if_neg, iZ_clampN, y, es, ↓xri_some im, ↓xrv_some a1]
        · obtain ⟨K2, c1, c2⟩ := ih (b + 1) K (by omega) (J_no _ _ K (by omega) (fun s s1 s2 => by
            have : s = 64 * w + b := by omega
            rw [this]; simpa using z) hJ)
          refine ⟨K2, ?_, c2⟩
          rw [← c1, nS]
          rw [e3, bP_f z] at im
          clear J_no J_is row3 ih c1
          generalize ((64 * w + b : Nat) : Int) = ss at *
          rw [xfix_unf, sX7_spreadLevel_10]
          simp (disch := omega) only [xk_none, xk_inl, xk_inr, xk_ite, xri_v, xrl_v, xrv_v, xb_z0, xb_z1, xb_b2, if_true, if_false, ite_true, ite_false, iZ_lit, iZ_m1, iZ_m99, iZ_m8, iZ_add, iZ_sub, iZ_mul, iZ_neg, nz0, nzi, iZ_lt, iZ_le, iZ_inj, b2_z, b2_o, ite_bPz, ite_bPo, xb_bP, iZ_xin, if_pos, ite_self, ↓reduceIte, Int.reduceAdd, Int.reduceSub, Int.reduceMul, Int.reduceNeg, Int.reduceLT, Int.reduceLE, if_neg, iZ_clampN, y, es, ↓xri_some im]
  obtain ⟨M2, b1, b2⟩ := xfor_M (sg := gX7_spreadLevel) (st := fun w K => (2, [some (.inr (.inr (7, 0))), some (.inl (iZ (w))), none], [], K)) (I := fun w K => J (64 * w) K) (n := 77) (fun w K hw hI => by
    obtain ⟨K', a1, a2⟩ := inn w hw 64 0 K (by omega) hI
    refine ⟨K', ?_, a2⟩
    have zz : ((0 : Nat) : Int) = 0 := rfl
    rw [zz] at a1
    rw [nS, ← a1]
    clear J_no J_is row3 inn a1
    rw [xfix_unf, sX7_spreadLevel_2]
    simp (disch := omega) only [xk_none, xk_inl, xk_inr, xk_ite, xri_v, xrl_v, xrv_v, xb_z0, xb_z1, xb_b2, if_true, if_false, ite_true, ite_false, iZ_lit, iZ_m1, iZ_m99, iZ_m8, iZ_add, iZ_sub, iZ_mul, iZ_neg, nz0, nzi, iZ_lt, iZ_le, iZ_inj, b2_z, b2_o, ite_bPz, ite_bPo, xb_bP, iZ_xin, if_pos, ite_self, ↓reduceIte, Int.reduceAdd, Int.reduceSub, Int.reduceMul, Int.reduceNeg, Int.reduceLT, Int.reduceLE, if_neg]) (a := 0) (M := M) (by omega) (by
      rw [eJ]
      refine ⟨xSame.rf, hK, fun u hu => ⟨⟨.inl, fun z => z.elim id fun ⟨s, s1, _⟩ => by omega⟩, ⟨fun z => ?_, fun ⟨_, s, s1, _⟩ => by omega⟩⟩⟩
      rw [h4 u hu] at z; cases z)
  rw [eJ] at b2
  obtain ⟨c1, c2, c3⟩ := b2
  refine ⟨M2, ?_, c1, c2, c3⟩
  have zz : ((0 : Nat) : Int) = 0 := rfl
  have e77 : ((77 : Nat) : Int) = 77 := rfl
  rw [zz, e77] at b1
  show xfix gX7_spreadLevel (0, [some (.inr (.inr (7, 0))), none, none], [], M) = _; rw [xfix_unf, sX7_spreadLevel_0]
  simp (disch := omega) only [xk_none, xk_inl, xk_inr, xk_ite, xri_v, xrl_v, xrv_v, xb_z0, xb_z1, xb_b2, if_true, if_false, ite_true, ite_false, iZ_lit, iZ_m1, iZ_m99, iZ_m8, iZ_add, iZ_sub, iZ_mul, iZ_neg, nz0, nzi, iZ_lt, iZ_le, iZ_inj, b2_z, b2_o, ite_bPz, ite_bPo, xb_bP, iZ_xin, if_pos, ite_self, ↓reduceIte, Int.reduceAdd, Int.reduceSub, Int.reduceMul, Int.reduceNeg, Int.reduceLT, Int.reduceLE, if_neg]
  refine Eq.trans b1 ?_
  rw [xfix_unf, sX7_spreadLevel_2]
  simp (disch := omega) only [xk_none, xk_inl, xk_inr, xk_ite, xri_v, xrl_v, xrv_v, xb_z0, xb_z1, xb_b2, if_true, if_false, ite_true, ite_false, iZ_lit, iZ_m1, iZ_m99, iZ_m8, iZ_add, iZ_sub, iZ_mul, iZ_neg, nz0, nzi, iZ_lt, iZ_le, iZ_inj, b2_z, b2_o, ite_bPz, ite_bPo, xb_bP, iZ_xin, if_pos, ite_self, ↓reduceIte, Int.reduceAdd, Int.reduceSub, Int.reduceMul, Int.reduceNeg, Int.reduceLT, Int.reduceLE, if_neg]
theorem x_someComesOut {M : xM} {A : dA} {half rest : Nat} (hL : cLd M A half rest) (hK : cKn M A half rest) (hr : ∀ s, s < 4928 → ofM M 3 s = true → s < 4913) : ∃ M', fX7_someComesOut [.inr (.inr (7, 0))] M = some (some (.inl (bP (∃ s, s < 4928 ∧ ofM M 3 s = true ∧ ouT A half rest s))), M') ∧ xSame ckF M M' ∧ cKn M' A half rest := by
  obtain ⟨Q, eQ⟩ : ∃ Q : Option (Option xV × xM) → Prop, Q = fun res => ∃ M', res = some (some (.inl (bP (∃ s, s < 4928 ∧ ofM M 3 s = true ∧ ouT A half rest s))), M') ∧ xSame ckF M M' ∧ cKn M' A half rest := ⟨_, rfl⟩
  obtain ⟨J, eJ⟩ : ∃ J : Nat → xM → Prop, J = fun n K => xSame ckF M K ∧ cKn K A half rest ∧ ∀ s, s < n → ofM M 3 s = true → ¬ ouT A half rest s := ⟨_, rfl⟩
  have J_no : ∀ n n' K, n ≤ n' → (∀ s, n ≤ s → s < n' → ofM M 3 s = false) → J n K → J n' K := fun n n' K hn hno hJ => by
    rw [eJ] at hJ ⊢
    refine ⟨hJ.1, hJ.2.1, fun s s1 s2 => ?_⟩
    by_cases e : s < n
    · exact hJ.2.2 s e s2
    · rw [hno s (by omega) s1] at s2; cases s2
  have row3 : ∀ n K, J n K → ∀ i, xL K (46, 3) i = xL M (46, 3) i := fun n K hJ i => by
    rw [eJ] at hJ
    exact (hJ.1 (46, 3) (by simp)).2 i
  -- the six ways of one
  have wy : ∀ w b : Nat, w < 77 → b < 64 → ofM M 3 (64 * w + b) = true → ∀ d v K, v + d = 6 → J (64 * w + b) K → (∀ x, x < v → ¬ fwS A half rest x (oX (64 * w + b)) (oY (64 * w + b)) (oZ (64 * w + b))) → (∃ K', xfix gX7_someComesOut (29, [some (.inr (.inr (7, 0))), some (.inl (iZ (w))), some (.inl (iZ (b))), some (.inl (iZ (v)))], [], K) = xfix gX7_someComesOut (10, [some (.inr (.inr (7, 0))), some (.inl (iZ (w))), some (.inl (iZ (((b : Int) + 1)))), none], [], K') ∧ J (64 * w + b + 1) K') ∨ Q (xfix gX7_someComesOut (29, [some (.inr (.inr (7, 0))), some (.inl (iZ (w))), some (.inl (iZ (b))), some (.inl (iZ (v)))], [], K)) := by
    intro w b hw hb h3 d
    have hs := hr _ (by omega) h3
    induction d with
    | zero =>
      intro v K hv hJ hno
      have : v = 6 := by omega
      subst this
      refine .inl ⟨K, ?_, ?_⟩
      · have e6 : ((6 : Nat) : Int) = 6 := rfl
        rw [e6]
        clear J_no row3
        rw [xfix_unf, sX7_someComesOut_29]
        simp (disch := omega) only [xk_none, xk_inl, xk_inr, xk_ite, xri_v, xrl_v, xrv_v, xb_z0, xb_z1, xb_b2, if_true, if_false, ite_true, ite_false, iZ_lit, iZ_m1, iZ_m99, iZ_m8, iZ_add, iZ_sub, iZ_mul, iZ_neg, nz0, nzi, iZ_lt, iZ_le, iZ_inj, b2_z, b2_o, ite_bPz, ite_bPo, xb_bP, iZ_xin, if_pos, ite_self, ↓reduceIte, Int.reduceAdd, Int.reduceSub, Int.reduceMul, Int.reduceNeg, Int.reduceLT, Int.reduceLE, if_neg]
      · rw [eJ] at hJ ⊢
        refine ⟨hJ.1, hJ.2.1, fun s s1 s2 => ?_⟩
        by_cases e : s = 64 * w + b
        · rw [e]; rintro ⟨x, x1, x2⟩; exact hno x x1 x2
        · exact hJ.2.2 s (by omega) s2
    | succ d ih =>
      intro v K hv hJ hno
      have hJ' := hJ
      rw [eJ] at hJ'
      obtain ⟨j1, j2, j3⟩ := hJ'
      have es : (64 * (w : Int) + (b : Int)) = ((64 * w + b : Nat) : Int) := by omega
      have im := x_isMarked (M := K) (k := 3) (s := 64 * w + b) (by omega)
      have e3 : ofM K 3 (64 * w + b) = ofM M 3 (64 * w + b) := by unfold ofM; rw [row3 _ _ hJ]
      rw [e3, bP_t h3] at im
      obtain ⟨K1, o1, o2, o3⟩ := x_isOpen (M := K) (w := v) hs (by omega) (hL.same j1 (by simp) (by simp)) j2
      by_cases y : fwS A half rest v (oX (64 * w + b)) (oY (64 * w + b)) (oZ (64 * w + b))
      · refine .inr ?_
        rw [eQ]
        refine ⟨K1, ?_, j1.tr o2, o3⟩
        rw [bP_t y] at o1
        rw [bP_t (c := ∃ s, s < 4928 ∧ ofM M 3 s = true ∧ ouT A half rest s) ⟨_, by omega, h3, v, by omega, y⟩]
        clear J_no row3 ih hno j3 eJ eQ hJ
        generalize 64 * w + b = ss at *
        rw [xfix_unf, sX7_someComesOut_29]
        simp (disch := omega) only [xk_none, xk_inl, xk_inr, xk_ite, xri_v, xrl_v, xrv_v, xb_z0, xb_z1, xb_b2, if_true, if_false, ite_true, ite_false, iZ_lit, iZ_m1, iZ_m99, iZ_m8, iZ_add, iZ_sub, iZ_mul, iZ_neg, nz0, nzi, iZ_lt, iZ_le, iZ_inj, b2_z, b2_o, ite_bPz, ite_bPo, xb_bP, iZ_xin, if_pos, ite_self, ↓reduceIte, Int.reduceAdd, Int.reduceSub, Int.reduceMul, Int.reduceNeg, Int.reduceLT, Int.reduceLE, if_neg, es, ↓xri_some im, ↓xri_some o1]
      · have st1 : xfix gX7_someComesOut (29, [some (.inr (.inr (7, 0))), some (.inl (iZ (w))), some (.inl (iZ (b))), some (.inl (iZ (v)))], [], K) = xfix gX7_someComesOut (29, [some (.inr (.inr (7, 0))), some (.inl (iZ (w))), some (.inl (iZ (b))), some (.inl (iZ ((v + 1 : Nat))))], [], K1) := by
          rw [bP_f y] at o1
          rw [nS]
          clear J_no row3 ih hno j3 eJ eQ hJ
          generalize 64 * w + b = ss at *
          rw [xfix_unf, sX7_someComesOut_29]
          simp (disch := omega) only [xk_none, xk_inl, xk_inr, xk_ite, xri_v, xrl_v, xrv_v, xb_z0, xb_z1, xb_b2, if_true, if_false, ite_true, ite_false, iZ_lit, iZ_m1, iZ_m99, iZ_m8, iZ_add, iZ_sub, iZ_mul, iZ_neg, nz0, nzi, iZ_lt, iZ_le, iZ_inj, b2_z, b2_o, ite_bPz, ite_bPo, xb_bP, iZ_xin, if_pos, ite_self, ↓reduceIte, Int.reduceAdd, Int.reduceSub, Int.reduceMul, Int.reduceNeg, Int.reduceLT, Int.reduceLE, if_neg, es, ↓xri_some im, ↓xri_some o1]
        rw [st1]
        refine ih (v + 1) K1 (by omega) ?_ (fun x hx => ?_)
        · rw [eJ]; exact ⟨j1.tr o2, o3, j3⟩
        · by_cases e : x = v
          · rw [e]; exact y
          · exact hno x (by omega)
  have inn : ∀ w, w < 77 → ∀ d b K, b + d = 64 → J (64 * w + b) K → (∃ K', xfix gX7_someComesOut (10, [some (.inr (.inr (7, 0))), some (.inl (iZ (w))), some (.inl (iZ (b))), none], [], K) = xfix gX7_someComesOut (2, [some (.inr (.inr (7, 0))), some (.inl (iZ (((w : Int) + 1)))), none, none], [], K') ∧ J (64 * (w + 1)) K') ∨ Q (xfix gX7_someComesOut (10, [some (.inr (.inr (7, 0))), some (.inl (iZ (w))), some (.inl (iZ (b))), none], [], K)) := by
    intro w hw d
    induction d with
    | zero =>
      intro b K hb hJ
      have : b = 64 := by omega
      subst this
      refine .inl ⟨K, ?_, hJ⟩
      have e64 : ((64 : Nat) : Int) = 64 := rfl
      rw [e64]
      clear wy J_no row3
      rw [xfix_unf, sX7_someComesOut_10]
      simp (disch := omega) only [xk_none, xk_inl, xk_inr, xk_ite, xri_v, xrl_v, xrv_v, xb_z0, xb_z1, xb_b2, if_true, if_false, ite_true, ite_false, iZ_lit, iZ_m1, iZ_m99, iZ_m8, iZ_add, iZ_sub, iZ_mul, iZ_neg, nz0, nzi, iZ_lt, iZ_le, iZ_inj, b2_z, b2_o, ite_bPz, ite_bPo, xb_bP, iZ_xin, if_pos, ite_self, ↓reduceIte, Int.reduceAdd, Int.reduceSub, Int.reduceMul, Int.reduceNeg, Int.reduceLT, Int.reduceLE, if_neg]
    | succ d ih =>
      intro b K hb hJ
      have r3' := row3 _ _ hJ w
      by_cases y : lg_cmp (xL M (46, 3) w) 0 = iZ 0
      · refine .inl ⟨K, ?_, J_no _ _ K (by omega) (fun s s1 s2 => lv_word y s (by omega)) hJ⟩
        rw [← r3'] at y
        clear J_no wy row3 ih
        rw [xfix_unf, sX7_someComesOut_10]
        simp (disch := omega) only [xk_none, xk_inl, xk_inr, xk_ite, xri_v, xrl_v, xrv_v, xb_z0, xb_z1, xb_b2, if_true, if_false, ite_true, ite_false, iZ_lit, iZ_m1, iZ_m99, iZ_m8, iZ_add, iZ_sub, iZ_mul, iZ_neg, nz0, nzi, iZ_lt, iZ_le, iZ_inj, b2_z, b2_o, ite_bPz, ite_bPo, xb_bP, iZ_xin, if_pos, ite_self, ↓reduceIte, Int.reduceAdd, Int.reduceSub, Int.reduceMul, Int.reduceNeg, Int.reduceLT, Int.reduceLE, if_neg, iZ_clampN, y]
      · rw [← r3'] at y
        have t29 : xfix gX7_someComesOut (10, [some (.inr (.inr (7, 0))), some (.inl (iZ (w))), some (.inl (iZ (b))), none], [], K) = xfix gX7_someComesOut (29, [some (.inr (.inr (7, 0))), some (.inl (iZ (w))), some (.inl (iZ (b))), some (.inl (iZ (((0 : Nat) : Int))))], [], K) := by
          have zz : ((0 : Nat) : Int) = 0 := rfl
          rw [zz]
          clear J_no wy row3 ih
          rw [xfix_unf, sX7_someComesOut_10]
          simp (disch := omega) only [xk_none, xk_inl, xk_inr, xk_ite, xri_v, xrl_v, xrv_v, xb_z0, xb_z1, xb_b2, if_true, if_false, ite_true, ite_false, iZ_lit, iZ_m1, iZ_m99, iZ_m8, iZ_add, iZ_sub, iZ_mul, iZ_neg, nz0, nzi, iZ_lt, iZ_le, iZ_inj, b2_z, b2_o, ite_bPz, ite_bPo, xb_bP, iZ_xin, if_pos, ite_self, ↓reduceIte, Int.reduceAdd, Int.reduceSub, Int.reduceMul, Int.reduceNeg, Int.reduceLT, Int.reduceLE, if_neg, iZ_clampN, y]
        rw [t29]
        by_cases z : ofM M 3 (64 * w + b) = true
        · rcases wy w b hw (by omega) z 6 0 K (by omega) hJ (fun x hx => by omega) with ⟨K', a1, a2⟩ | a
          · rw [← nS] at a1
            rw [a1]
            exact ih (b + 1) K' (by omega) a2
          · exact .inr a
        · have im := x_isMarked (M := K) (k := 3) (s := 64 * w + b) (by omega)
          have e3 : ofM K 3 (64 * w + b) = ofM M 3 (64 * w + b) := by unfold ofM; rw [row3 _ _ hJ]
          rw [e3, bP_f z] at im
          have es : (64 * (w : Int) + (b : Int)) = ((64 * w + b : Nat) : Int) := by omega
          have t10 : xfix gX7_someComesOut (29, [some (.inr (.inr (7, 0))), some (.inl (iZ (w))), some (.inl (iZ (b))), some (.inl (iZ (((0 : Nat) : Int))))], [], K) = xfix gX7_someComesOut (10, [some (.inr (.inr (7, 0))), some (.inl (iZ (w))), some (.inl (iZ ((b + 1 : Nat)))), none], [], K) := by
            have zz : ((0 : Nat) : Int) = 0 := rfl
            rw [nS, zz]
            clear J_no wy row3 ih z e3 eJ eQ hJ t29
            generalize 64 * w + b = ss at *
            rw [xfix_unf, sX7_someComesOut_29]
            simp (disch := omega) only [xk_none, xk_inl, xk_inr, xk_ite, xri_v, xrl_v, xrv_v, xb_z0, xb_z1, xb_b2, if_true, if_false, ite_true, ite_false, iZ_lit, iZ_m1, iZ_m99, iZ_m8, iZ_add, iZ_sub, iZ_mul, iZ_neg, nz0, nzi, iZ_lt, iZ_le, iZ_inj, b2_z, b2_o, ite_bPz, ite_bPo, xb_bP, iZ_xin, if_pos, ite_self, ↓reduceIte, Int.reduceAdd, Int.reduceSub, Int.reduceMul, Int.reduceNeg, Int.reduceLT, Int.reduceLE, if_neg, es, ↓xri_some im]
          rw [t10]
          exact ih (b + 1) K (by omega) (J_no _ _ K (by omega) (fun s s1 s2 => by
            have : s = 64 * w + b := by omega
            rw [this]; simpa using z) hJ)
  have r := xfor_R (sg := gX7_someComesOut) (st := fun w K => (2, [some (.inr (.inr (7, 0))), some (.inl (iZ (w))), none, none], [], K)) (I := fun w K => J (64 * w) K) (Q := Q) (n := 77) (fun w K hw hI => by
    have t10 : xfix gX7_someComesOut (2, [some (.inr (.inr (7, 0))), some (.inl (iZ (w))), none, none], [], K) = xfix gX7_someComesOut (10, [some (.inr (.inr (7, 0))), some (.inl (iZ (w))), some (.inl (iZ (((0 : Nat) : Int)))), none], [], K) := by
      have zz : ((0 : Nat) : Int) = 0 := rfl
      rw [zz]
      clear J_no wy row3 inn
      rw [xfix_unf, sX7_someComesOut_2]
      simp (disch := omega) only [xk_none, xk_inl, xk_inr, xk_ite, xri_v, xrl_v, xrv_v, xb_z0, xb_z1, xb_b2, if_true, if_false, ite_true, ite_false, iZ_lit, iZ_m1, iZ_m99, iZ_m8, iZ_add, iZ_sub, iZ_mul, iZ_neg, nz0, nzi, iZ_lt, iZ_le, iZ_inj, b2_z, b2_o, ite_bPz, ite_bPo, xb_bP, iZ_xin, if_pos, ite_self, ↓reduceIte, Int.reduceAdd, Int.reduceSub, Int.reduceMul, Int.reduceNeg, Int.reduceLT, Int.reduceLE, if_neg]
    rw [t10, nS]
    exact inn w hw 64 0 K (by omega) hI) (fun K hJ => by
    rw [eQ]
    rw [eJ] at hJ
    refine ⟨K, ?_, hJ.1, hJ.2.1⟩
    rw [bP_f (fun ⟨s, s1, s2, s3⟩ => hJ.2.2 s (by omega) s2 s3)]
    have e77 : ((77 : Nat) : Int) = 77 := rfl
    rw [e77]
    rw [xfix_unf, sX7_someComesOut_2]
    simp (disch := omega) only [xk_none, xk_inl, xk_inr, xk_ite, xri_v, xrl_v, xrv_v, xb_z0, xb_z1, xb_b2, if_true, if_false, ite_true, ite_false, iZ_lit, iZ_m1, iZ_m99, iZ_m8, iZ_add, iZ_sub, iZ_mul, iZ_neg, nz0, nzi, iZ_lt, iZ_le, iZ_inj, b2_z, b2_o, ite_bPz, ite_bPo, xb_bP, iZ_xin, if_pos, ite_self, ↓reduceIte, Int.reduceAdd, Int.reduceSub, Int.reduceMul, Int.reduceNeg, Int.reduceLT, Int.reduceLE, if_neg]) (a := 0) (M := M) (by omega) (by rw [eJ]; exact ⟨xSame.rf, hK, fun s hs => by omega⟩)
  rw [eQ] at r
  obtain ⟨M', r1, r2⟩ := r
  refine ⟨M', Eq.trans ?_ r1, r2⟩
  have zz : ((0 : Nat) : Int) = 0 := rfl
  rw [zz]
  show xfix gX7_someComesOut (0, [some (.inr (.inr (7, 0))), none, none, none], [], M) = _; rw [xfix_unf, sX7_someComesOut_0]
  simp (disch := omega) only [xk_none, xk_inl, xk_inr, xk_ite, xri_v, xrl_v, xrv_v, xb_z0, xb_z1, xb_b2, if_true, if_false, ite_true, ite_false, iZ_lit, iZ_m1, iZ_m99, iZ_m8, iZ_add, iZ_sub, iZ_mul, iZ_neg, nz0, nzi, iZ_lt, iZ_le, iZ_inj, b2_z, b2_o, ite_bPz, ite_bPo, xb_bP, iZ_xin, if_pos, ite_self, ↓reduceIte, Int.reduceAdd, Int.reduceSub, Int.reduceMul, Int.reduceNeg, Int.reduceLT, Int.reduceLE, if_neg]
