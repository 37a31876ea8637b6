/-! the class: times -/
theorem x_lesser {M : xM} {a b : Int} (ha : r32 a) (hb : r32 b) : fX1_lesser [.inl (iZ (a)), .inl (iZ (b))] M = some (some (.inl (iZ (if a = -1 then b else if b < a then b else a))), M) := by
  have hm := x_min (M := M) ha hb
  unfold r32 at ha hb
  by_cases c : a = -1
  · rw [if_pos c]
    show xfix gX1_lesser (0, [some (.inl (iZ (a))), some (.inl (iZ (b)))], [], M) = _; rw [xfix_unf, sX1_lesser_0]
    simp (disch := omega) only [xk_none, xk_inl, xk_inr, xk_ite, xri_v, xrl_v, xrv_v, xb_z0, xb_z1, xb_b2, if_true, if_false, ite_true, ite_false, iZ_lit, iZ_m1, iZ_m99, iZ_m8, iZ_add, iZ_sub, iZ_mul, iZ_neg, nz0, nzi, iZ_lt, iZ_le, iZ_inj, b2_z, b2_o, ite_bPz, ite_bPo, xb_bP, iZ_xin, if_pos, ite_self, ↓reduceIte, Int.reduceAdd, Int.reduceSub, Int.reduceMul, Int.reduceNeg, Int.reduceLT, Int.reduceLE, if_neg]
  · rw [if_neg c]
    generalize (if b < a then b else a) = m at *
    show xfix gX1_lesser (0, [some (.inl (iZ (a))), some (.inl (iZ (b)))], [], M) = _; rw [xfix_unf, sX1_lesser_0]
    simp (disch := omega) only [xk_none, xk_inl, xk_inr, xk_ite, xri_v, xrl_v, xrv_v, xb_z0, xb_z1, xb_b2, if_true, if_false, ite_true, ite_false, iZ_lit, iZ_m1, iZ_m99, iZ_m8, iZ_add, iZ_sub, iZ_mul, iZ_neg, nz0, nzi, iZ_lt, iZ_le, iZ_inj, b2_z, b2_o, ite_bPz, ite_bPo, xb_bP, iZ_xin, if_pos, ite_self, ↓reduceIte, Int.reduceAdd, Int.reduceSub, Int.reduceMul, Int.reduceNeg, Int.reduceLT, Int.reduceLE, if_neg, hm]
theorem isM.add {S : Nat → Prop} {v : Int} (h : isM S v) (hv : v ≠ -1) (k : Nat) : isM (fun n => ∃ m, S m ∧ n = m + k) (v + k) := by
  rcases h with ⟨z, _⟩ | ⟨m, z, z2, z3⟩
  · exact absurd z hv
  · refine .inr ⟨m + k, by omega, ⟨m, z2, rfl⟩, fun n hn ⟨m', q1, q2⟩ => z3 m' (by omega) q1⟩
def mtW (A : dA) (heap half n i : Nat) : Prop := ∃ w, w < i ∧ gdw A (barS A) heap half w ∧ n = mnt A heap half w
theorem x_quickest {M : xM} {A : dA} {heap half : Nat} (hA : aOk A) (hF : aFl A) (h : cBd M 0 (aP A) (aC A)) (hh : heap < 2 ^ aP A) (h1 : 1 ≤ half) (h2 : half < heap) (hs : half &&& heap = half) : ∃ M' v, fX1_quickest [.inr (.inr (1, 0)), .inl (iZ (heap)), .inl (iZ (half)), .inl (iZ ((gwS A (barS A) heap half)))] M = some (some (.inl (iZ (v))), M') ∧ xSame (fun r => r = (44, 44) ∨ r = (44, 45) ∨ r = (44, 46)) M M' ∧ (-1 ≤ v ∧ v ≤ 17) ∧ isM (fun n => mtW A heap half n 6) v := by
  have hP := hA.P
  obtain ⟨M1, a1, a2, a3⟩ := x_load hA h hh hs
  have hr := hlf_rest (one := fun _ => False) (ok := fun _ _ => True) (heap := heap) (half := half) ⟨id, h1, hs, trivial⟩ h2
  have he : ∃ c, c < 512 ∧ inH A (ndn heap half) c := by
    obtain ⟨l1, l2⟩ := jLw_P (half := ndn heap half) (P := aP A) (by omega) (by omega) hP
    have hb : (ndn heap half).testBit (jLw (ndn heap half) 9) = true := lst_is (fun p => (ndn heap half).testBit p = true) 9 (show jLw (ndn heap half) 9 < 9 by omega)
    obtain ⟨c, c1, c2⟩ := hF _ l2
    exact ⟨c, c1, _, c2, hb⟩
  have gl : gwS A (barS A) heap half < 64 := msk_lt _ 6
  have gb : ∀ w, w < 6 → ((gwS A (barS A) heap half).testBit w = true ↔ gdw A (barS A) heap half w) := fun w hw => by
    unfold gwS; rw [msk_bit]; exact ⟨fun z => z.2, fun z => ⟨hw, z⟩⟩
  have key : ∀ n i v K, i + n = 6 → xSame (fun r => r = (44, 46)) M1 K → (-1 ≤ v ∧ v ≤ 17) → isM (fun n => mtW A heap half n i) v → ∃ K' v', xfix gX1_quickest (15, [some (.inr (.inr (1, 0))), none, none, some (.inl (iZ ((gwS A (barS A) heap half)))), some (.inl (iZ (v))), some (.inl (iZ (i)))], [], K) = some (some (.inl (iZ (v'))), K') ∧ xSame (fun r => r = (44, 46)) M1 K' ∧ (-1 ≤ v' ∧ v' ≤ 17) ∧ isM (fun n => mtW A heap half n 6) v' := by
    intro n
    induction n with
    | zero =>
      intro i v K hi hK hv hm
      have : i = 6 := by omega
      subst this
      refine ⟨K, v, ?_, hK, hv, hm⟩
      have e6 : ((6 : Nat) : Int) = 6 := rfl
      rw [e6]
      rw [xfix_unf, sX1_quickest_15]
      simp (disch := omega) only [xk_none, xk_inl, xk_inr, xk_ite, xri_v, xrl_v, xrv_v, xb_z0, xb_z1, xb_b2, if_true, if_false, ite_true, ite_false, iZ_lit, iZ_m1, iZ_m99, iZ_m8, iZ_add, iZ_sub, iZ_mul, iZ_neg, nz0, nzi, iZ_lt, iZ_le, iZ_inj, b2_z, b2_o, ite_bPz, ite_bPo, xb_bP, iZ_xin, if_pos, ite_self, ↓reduceIte, Int.reduceAdd, Int.reduceSub, Int.reduceMul, Int.reduceNeg, Int.reduceLT, Int.reduceLE, if_neg]
    | succ n ih =>
      intro i v K hi hK hv hm
      have i6 : i < 6 := by omega
      by_cases y : gdw A (barS A) heap half i
      · have yb := bP_t (c := (gwS A (barS A) heap half).testBit i = true) ((gb i i6).mpr y)
        have hL : cLd K A half (ndn heap half) := fun c hc => by rw [sB_same hK (by simp) c, sB_same hK (by simp) c]; exact a3 c hc
        obtain ⟨K1, d1, d2⟩ := x_cellsTillOut (M := K) i6 hL he
        have ml : mnt A heap half i ≤ 17 := lst_le _ 17
        have hls := x_lesser (M := K1) (a := v) (b := (mnt A heap half i : Int)) (by unfold r32; omega) (by unfold r32; omega)
        have hm1 : isM (fun n => n = mnt A heap half i) (mnt A heap half i : Int) := .inr ⟨_, rfl, rfl, fun n hn z => by omega⟩
        have un := hm.un hm1
        rw [if_neg (show ¬ (mnt A heap half i : Int) = -1 by omega)] at un
        have e1 : (if v = -1 ∨ (mnt A heap half i : Int) < v then (mnt A heap half i : Int) else v) = if v = -1 then (mnt A heap half i : Int) else if (mnt A heap half i : Int) < v then (mnt A heap half i : Int) else v := by
          by_cases z : v = -1
          · rw [if_pos (.inl z), if_pos z]
          · rw [if_neg z]
            by_cases z2 : (mnt A heap half i : Int) < v
            · rw [if_pos (.inr z2), if_pos z2]
            · rw [if_neg (fun q => q.elim z z2), if_neg z2]
        rw [e1] at un
        have hvb : -1 ≤ (if v = -1 then (mnt A heap half i : Int) else if (mnt A heap half i : Int) < v then (mnt A heap half i : Int) else v) ∧ (if v = -1 then (mnt A heap half i : Int) else if (mnt A heap half i : Int) < v then (mnt A heap half i : Int) else v) ≤ 17 := by (repeat' split) <;> omega
        obtain ⟨K', v', g1, g2⟩ := ih (i + 1) _ K1 (by omega) (hK.tr d2) hvb (un.cg fun n => by
          constructor
          · rintro (⟨w, q1, q2⟩ | q)
            · exact ⟨w, by omega, q2⟩
            · exact ⟨i, by omega, y, q⟩
          · rintro ⟨w, q1, q2, q3⟩
            by_cases z : w = i
            · subst z; exact .inr q3
            · exact .inl ⟨w, by omega, q2, q3⟩)
        refine ⟨K', v', ?_, g2⟩
        rw [← g1, nS]
        generalize (if v = -1 then (mnt A heap half i : Int) else if (mnt A heap half i : Int) < v then (mnt A heap half i : Int) else v) = nv at *
        generalize mnt A heap half i = mi at *
        generalize gwS A (barS A) heap half = gm at *
        rw [xfix_unf, sX1_quickest_15]
        simp (disch := omega) only [xk_none, xk_inl, xk_inr, xk_ite, xri_v, xrl_v, xrv_v, xb_z0, xb_z1, xb_b2, if_true, if_false, ite_true, ite_false, iZ_lit, iZ_m1, iZ_m99, iZ_m8, iZ_add, iZ_sub, iZ_mul, iZ_neg, nz0, nzi, iZ_lt, iZ_le, iZ_inj, b2_z, b2_o, ite_bPz, ite_bPo, xb_bP, iZ_xin, if_pos, ite_self, ↓reduceIte, Int.reduceAdd, Int.reduceSub, Int.reduceMul, Int.reduceNeg, Int.reduceLT, Int.reduceLE, if_neg, iZ_bit, yb, d1, hls]
      · have yb := bP_f (c := (gwS A (barS A) heap half).testBit i = true) (fun z => y ((gb i i6).mp z))
        obtain ⟨K', v', g1, g2⟩ := ih (i + 1) v K (by omega) hK hv (hm.cg fun n => ⟨fun ⟨w, q1, q2⟩ => ⟨w, by omega, q2⟩, fun ⟨w, q1, q2, q3⟩ => ⟨w, by
          by_cases z : w = i
          · subst z; exact absurd q2 y
          · omega, q2, q3⟩⟩)
        refine ⟨K', v', ?_, g2⟩
        rw [← g1, nS]
        generalize gwS A (barS A) heap half = gm at *
        rw [xfix_unf, sX1_quickest_15]
        simp (disch := omega) only [xk_none, xk_inl, xk_inr, xk_ite, xri_v, xrl_v, xrv_v, xb_z0, xb_z1, xb_b2, if_true, if_false, ite_true, ite_false, iZ_lit, iZ_m1, iZ_m99, iZ_m8, iZ_add, iZ_sub, iZ_mul, iZ_neg, nz0, nzi, iZ_lt, iZ_le, iZ_inj, b2_z, b2_o, ite_bPz, ite_bPo, xb_bP, iZ_xin, if_pos, ite_self, ↓reduceIte, Int.reduceAdd, Int.reduceSub, Int.reduceMul, Int.reduceNeg, Int.reduceLT, Int.reduceLE, if_neg, iZ_bit, yb]
  obtain ⟨M', v', g1, g2, g3, g4⟩ := key 6 0 (-1) M1 (by omega) xSame.rf (by omega) (.inl ⟨rfl, fun n ⟨w, q1, _⟩ => by omega⟩)
  refine ⟨M', v', ?_, (a2.wk fun r z => z.imp id .inl).tr (g2.wk fun r z => .inr (.inr z)), g3, g4⟩
  refine Eq.trans ?_ g1
  have zz : ((0 : Nat) : Int) = 0 := rfl
  rw [zz]
  generalize gwS A (barS A) heap half = gm at *
  show xfix gX1_quickest (0, [some (.inr (.inr (1, 0))), some (.inl (iZ (heap))), some (.inl (iZ (half))), some (.inl (iZ (gm))), none, none], [], M) = _; rw [xfix_unf, sX1_quickest_0]
  simp (disch := omega) only [xk_none, xk_inl, xk_inr, xk_ite, xri_v, xrl_v, xrv_v, xb_z0, xb_z1, xb_b2, if_true, if_false, ite_true, ite_false, iZ_lit, iZ_m1, iZ_m99, iZ_m8, iZ_add, iZ_sub, iZ_mul, iZ_neg, nz0, nzi, iZ_lt, iZ_le, iZ_inj, b2_z, b2_o, ite_bPz, ite_bPo, xb_bP, iZ_xin, if_pos, ite_self, ↓reduceIte, Int.reduceAdd, Int.reduceSub, Int.reduceMul, Int.reduceNeg, Int.reduceLT, Int.reduceLE, if_neg, a1]
theorem x_mayBe {M : xM} {heap half rest : Nat} {a b c a2 b2 c2 : Int} (h1 : heap < 512) (h2 : half < 512) (h3 : rest < 512) (f1 : xI M (26, 0) half = iZ a) (f2 : xI M (26, 0) rest = iZ b) (f3 : xI M (26, 0) heap = iZ c) (g1 : xI M (27, 0) half = iZ a2) (g2 : xI M (27, 0) rest = iZ b2) (g3 : xI M (27, 0) heap = iZ c2) (ba : -1 ≤ a ∧ a ≤ 5000) (bb : -1 ≤ b ∧ b ≤ 5000) (bc' : -1 ≤ c ∧ c ≤ 5000) (ba2 : -1 ≤ a2 ∧ a2 ≤ 5000) (bb2 : -1 ≤ b2 ∧ b2 ≤ 5000) (bc2 : -1 ≤ c2 ∧ c2 ≤ 5000) : fX1_mayBeQuicker [.inr (.inr (1, 0)), .inl (iZ (heap)), .inl (iZ (half)), .inl (iZ (rest))] M = some (some (.inl (bP (a ≠ -1 ∧ b ≠ -1 ∧ (c = -1 ∨ a + b < c ∨ imx a2 b2 < c2)))), M) := by
  have hm := x_max (M := M) (a := a2) (b := b2) (by unfold r32; omega) (by unfold r32; omega)
  have em : (if a2 < b2 then b2 else a2) = imx a2 b2 := by
    unfold imx
    by_cases w : a2 < b2
    · rw [if_pos w, if_neg (by omega)]
    · rw [if_neg w]
      by_cases w2 : b2 < a2
      · rw [if_pos w2]
      · rw [if_neg w2]; omega
  rw [em] at hm
  have mb : -1 ≤ imx a2 b2 ∧ imx a2 b2 ≤ 5000 := by unfold imx; split <;> omega
  generalize imx a2 b2 = m at *
  by_cases c1 : a = -1
  · rw [bP_f fun z => z.1 c1]
    show xfix gX1_mayBeQuicker (0, [some (.inr (.inr (1, 0))), some (.inl (iZ (heap))), some (.inl (iZ (half))), some (.inl (iZ (rest))), none, none], [], M) = _; rw [xfix_unf, sX1_mayBeQuicker_0]
    simp (disch := omega) only [xk_none, xk_inl, xk_inr, xk_ite, xri_v, xrl_v, xrv_v, xb_z0, xb_z1, xb_b2, if_true, if_false, ite_true, ite_false, iZ_lit, iZ_m1, iZ_m99, iZ_m8, iZ_add, iZ_sub, iZ_mul, iZ_neg, nz0, nzi, iZ_lt, iZ_le, iZ_inj, b2_z, b2_o, ite_bPz, ite_bPo, xb_bP, iZ_xin, if_pos, ite_self, ↓reduceIte, Int.reduceAdd, Int.reduceSub, Int.reduceMul, Int.reduceNeg, Int.reduceLT, Int.reduceLE, if_neg, iZ_clampN, f1]
  · by_cases c3 : b = -1
    · rw [bP_f fun z => z.2.1 c3]
      show xfix gX1_mayBeQuicker (0, [some (.inr (.inr (1, 0))), some (.inl (iZ (heap))), some (.inl (iZ (half))), some (.inl (iZ (rest))), none, none], [], M) = _; rw [xfix_unf, sX1_mayBeQuicker_0]
      simp (disch := omega) only [xk_none, xk_inl, xk_inr, xk_ite, xri_v, xrl_v, xrv_v, xb_z0, xb_z1, xb_b2, if_true, if_false, ite_true, ite_false, iZ_lit, iZ_m1, iZ_m99, iZ_m8, iZ_add, iZ_sub, iZ_mul, iZ_neg, nz0, nzi, iZ_lt, iZ_le, iZ_inj, b2_z, b2_o, ite_bPz, ite_bPo, xb_bP, iZ_xin, if_pos, ite_self, ↓reduceIte, Int.reduceAdd, Int.reduceSub, Int.reduceMul, Int.reduceNeg, Int.reduceLT, Int.reduceLE, if_neg, iZ_clampN, f1, f2]
    · have s80 : ∀ t u : Int, (t = 0 ∨ t = 1) → (u = 0 ∨ u = 1) → (t = 1 ↔ a + b < c) → (u = 1 ↔ m < c2) → xfix gX1_mayBeQuicker (80, [some (.inr (.inr (1, 0))), some (.inl (iZ (heap))), none, none, some (.inl (iZ (t))), none], [.inl (iZ (u))], M) = some (some (.inl (bP (a ≠ -1 ∧ b ≠ -1 ∧ (c = -1 ∨ a + b < c ∨ m < c2)))), M) := fun t u ht hu e1 e2 => by
        by_cases y : c = -1
        · rw [bP_t ⟨c1, c3, .inl y⟩]
          rw [xfix_unf, sX1_mayBeQuicker_80]
          simp (disch := omega) only [xk_none, xk_inl, xk_inr, xk_ite, xri_v, xrl_v, xrv_v, xb_z0, xb_z1, xb_b2, if_true, if_false, ite_true, ite_false, iZ_lit, iZ_m1, iZ_m99, iZ_m8, iZ_add, iZ_sub, iZ_mul, iZ_neg, nz0, nzi, iZ_lt, iZ_le, iZ_inj, b2_z, b2_o, ite_bPz, ite_bPo, xb_bP, iZ_xin, if_pos, ite_self, ↓reduceIte, Int.reduceAdd, Int.reduceSub, Int.reduceMul, Int.reduceNeg, Int.reduceLT, Int.reduceLE, if_neg, iZ_clampN, f3]
        · by_cases y2 : a + b < c
          · rw [bP_t ⟨c1, c3, .inr (.inl y2)⟩, e1.mpr y2]
            rw [xfix_unf, sX1_mayBeQuicker_80]
            simp (disch := omega) only [xk_none, xk_inl, xk_inr, xk_ite, xri_v, xrl_v, xrv_v, xb_z0, xb_z1, xb_b2, if_true, if_false, ite_true, ite_false, iZ_lit, iZ_m1, iZ_m99, iZ_m8, iZ_add, iZ_sub, iZ_mul, iZ_neg, nz0, nzi, iZ_lt, iZ_le, iZ_inj, b2_z, b2_o, ite_bPz, ite_bPo, xb_bP, iZ_xin, if_pos, ite_self, ↓reduceIte, Int.reduceAdd, Int.reduceSub, Int.reduceMul, Int.reduceNeg, Int.reduceLT, Int.reduceLE, if_neg, iZ_clampN, f3]
          · have t0 : t = 0 := ht.resolve_right fun z => y2 (e1.mp z)
            rw [t0]
            by_cases y3 : m < c2
            · rw [bP_t ⟨c1, c3, .inr (.inr y3)⟩, e2.mpr y3]
              rw [xfix_unf, sX1_mayBeQuicker_80]
              simp (disch := omega) only [xk_none, xk_inl, xk_inr, xk_ite, xri_v, xrl_v, xrv_v, xb_z0, xb_z1, xb_b2, if_true, if_false, ite_true, ite_false, iZ_lit, iZ_m1, iZ_m99, iZ_m8, iZ_add, iZ_sub, iZ_mul, iZ_neg, nz0, nzi, iZ_lt, iZ_le, iZ_inj, b2_z, b2_o, ite_bPz, ite_bPo, xb_bP, iZ_xin, if_pos, ite_self, ↓reduceIte, Int.reduceAdd, Int.reduceSub, Int.reduceMul, Int.reduceNeg, Int.reduceLT, Int.reduceLE, if_neg, iZ_clampN, f3]
            · have u0 : u = 0 := hu.resolve_right fun z => y3 (e2.mp z)
              rw [bP_f fun z => z.2.2.elim y fun z => z.elim y2 y3, u0]
              rw [xfix_unf, sX1_mayBeQuicker_80]
              simp (disch := omega) only [xk_none, xk_inl, xk_inr, xk_ite, xri_v, xrl_v, xrv_v, xb_z0, xb_z1, xb_b2, if_true, if_false, ite_true, ite_false, iZ_lit, iZ_m1, iZ_m99, iZ_m8, iZ_add, iZ_sub, iZ_mul, iZ_neg, nz0, nzi, iZ_lt, iZ_le, iZ_inj, b2_z, b2_o, ite_bPz, ite_bPo, xb_bP, iZ_xin, if_pos, ite_self, ↓reduceIte, Int.reduceAdd, Int.reduceSub, Int.reduceMul, Int.reduceNeg, Int.reduceLT, Int.reduceLE, if_neg, iZ_clampN, f3]
      have s49 : ∀ t : Int, (t = 0 ∨ t = 1) → (t = 1 ↔ a + b < c) → xfix gX1_mayBeQuicker (49, [some (.inr (.inr (1, 0))), some (.inl (iZ (heap))), some (.inl (iZ (half))), some (.inl (iZ (rest))), none, none], [.inl (iZ (t))], M) = some (some (.inl (bP (a ≠ -1 ∧ b ≠ -1 ∧ (c = -1 ∨ a + b < c ∨ m < c2)))), M) := fun t ht e1 => by
        by_cases y3 : m < c2
        · refine Eq.trans ?_ (s80 t 1 ht (.inr rfl) e1 ⟨fun _ => y3, fun _ => rfl⟩)
          rw [xfix_unf, sX1_mayBeQuicker_49]
          simp (disch := omega) only [xk_none, xk_inl, xk_inr, xk_ite, xri_v, xrl_v, xrv_v, xb_z0, xb_z1, xb_b2, if_true, if_false, ite_true, ite_false, iZ_lit, iZ_m1, iZ_m99, iZ_m8, iZ_add, iZ_sub, iZ_mul, iZ_neg, nz0, nzi, iZ_lt, iZ_le, iZ_inj, b2_z, b2_o, ite_bPz, ite_bPo, xb_bP, iZ_xin, if_pos, ite_self, ↓reduceIte, Int.reduceAdd, Int.reduceSub, Int.reduceMul, Int.reduceNeg, Int.reduceLT, Int.reduceLE, if_neg, iZ_clampN, g1, g2, hm, g3]
        · refine Eq.trans ?_ (s80 t 0 ht (.inl rfl) e1 ⟨fun z => by omega, fun z => absurd z y3⟩)
          rw [xfix_unf, sX1_mayBeQuicker_49]
          simp (disch := omega) only [xk_none, xk_inl, xk_inr, xk_ite, xri_v, xrl_v, xrv_v, xb_z0, xb_z1, xb_b2, if_true, if_false, ite_true, ite_false, iZ_lit, iZ_m1, iZ_m99, iZ_m8, iZ_add, iZ_sub, iZ_mul, iZ_neg, nz0, nzi, iZ_lt, iZ_le, iZ_inj, b2_z, b2_o, ite_bPz, ite_bPo, xb_bP, iZ_xin, if_pos, ite_self, ↓reduceIte, Int.reduceAdd, Int.reduceSub, Int.reduceMul, Int.reduceNeg, Int.reduceLT, Int.reduceLE, if_neg, iZ_clampN, g1, g2, hm, g3]
      by_cases y2 : a + b < c
      · refine Eq.trans ?_ (s49 1 (.inr rfl) ⟨fun _ => y2, fun _ => rfl⟩)
        show xfix gX1_mayBeQuicker (0, [some (.inr (.inr (1, 0))), some (.inl (iZ (heap))), some (.inl (iZ (half))), some (.inl (iZ (rest))), none, none], [], M) = _; rw [xfix_unf, sX1_mayBeQuicker_0]
        simp (disch := omega) only [xk_none, xk_inl, xk_inr, xk_ite, xri_v, xrl_v, xrv_v, xb_z0, xb_z1, xb_b2, if_true, if_false, ite_true, ite_false, iZ_lit, iZ_m1, iZ_m99, iZ_m8, iZ_add, iZ_sub, iZ_mul, iZ_neg, nz0, nzi, iZ_lt, iZ_le, iZ_inj, b2_z, b2_o, ite_bPz, ite_bPo, xb_bP, iZ_xin, if_pos, ite_self, ↓reduceIte, Int.reduceAdd, Int.reduceSub, Int.reduceMul, Int.reduceNeg, Int.reduceLT, Int.reduceLE, if_neg, iZ_clampN, f1, f2, f3]
      · refine Eq.trans ?_ (s49 0 (.inl rfl) ⟨fun z => by omega, fun z => absurd z y2⟩)
        show xfix gX1_mayBeQuicker (0, [some (.inr (.inr (1, 0))), some (.inl (iZ (heap))), some (.inl (iZ (half))), some (.inl (iZ (rest))), none, none], [], M) = _; rw [xfix_unf, sX1_mayBeQuicker_0]
        simp (disch := omega) only [xk_none, xk_inl, xk_inr, xk_ite, xri_v, xrl_v, xrv_v, xb_z0, xb_z1, xb_b2, if_true, if_false, ite_true, ite_false, iZ_lit, iZ_m1, iZ_m99, iZ_m8, iZ_add, iZ_sub, iZ_mul, iZ_neg, nz0, nzi, iZ_lt, iZ_le, iZ_inj, b2_z, b2_o, ite_bPz, ite_bPo, xb_bP, iZ_xin, if_pos, ite_self, ↓reduceIte, Int.reduceAdd, Int.reduceSub, Int.reduceMul, Int.reduceNeg, Int.reduceLT, Int.reduceLE, if_neg, iZ_clampN, f1, f2, f3]
