/-! the class: its questions, second half -/
section
variable {M : xM} {A : dA} {S : dS}
theorem c_plan (hA : aOk A) (hF : aFl A) (h : cZ M A S) {k w : Int} (hk : r32 k) (hw : r32 w) : cQ A S (fX11_plan [.inr (.inr (11, 0)), .inl (iZ (k)), .inl (iZ (w))] M) (.inl (iZ (sPlan A k w))) := by
  obtain ⟨M1, a1, a2, a3⟩ := x_freshOrders hA hF h
  obtain ⟨M2, b1, b2⟩ := x_planHeap hA a2.f0 a3 hk
  have hP := pow9 h.P9
  refine ⟨M2, ?_, a2.same b2 (by rintro r e j; subst e; rfl)⟩
  unfold sPlan
  unfold r32 at hw
  cases e : plH A k with
  | none =>
    rw [e] at b1
    show _ = (some (some (.inl (iZ (-1))), M2) : Option (Option xV × xM))
    have b1' : fX2_planHeap [.inr (.inr (2, 0)), .inl (iZ (k))] M1 = some (some (.inl (iZ (-1))), M2) := b1
    clear a3 b1
    show xfix gX11_plan (0, [some (.inr (.inr (11, 0))), some (.inl (iZ (k))), some (.inl (iZ (w))), none], [], M) = _; rw [xfix_unf, sX11_plan_0]
    simp (disch := omega) only [xk_none, xk_inl, xk_inr, xk_ite, xri_v, xrl_v, xrv_v, xb_z0, xb_z1, xb_b2, if_true, if_false, ite_true, ite_false, iZ_lit, iZ_m1, iZ_m99, iZ_m8, iZ_add, iZ_sub, iZ_mul, iZ_neg, nz0, nzi, iZ_lt, iZ_le, iZ_inj, b2_z, b2_o, ite_bPz, ite_bPo, xb_bP, iZ_xin, if_pos, ite_self, ↓reduceIte, Int.reduceAdd, Int.reduceSub, Int.reduceMul, Int.reduceNeg, Int.reduceLT, Int.reduceLE, if_neg, ↓xrv_some a1, ↓xri_some b1']
  | some hp =>
    rw [e] at b1
    obtain ⟨p1, p2, p3, p4⟩ := plH_ok h.P9 e
    have q := (a3 hp p1 p2 (hAN_0 hp)).2.2 (fun z => p4 z) p3
    have q1 : xI M2 (32, 0) hp = iZ (leaA A hp).2.1 := by rw [(b2 (32, 0) (by simp)).1]; exact q.1
    have q2 : xI M2 (33, 0) hp = iZ (leaA A hp).2.2 := by rw [(b2 (33, 0) (by simp)).1]; exact q.2
    have b1' : fX2_planHeap [.inr (.inr (2, 0)), .inl (iZ (k))] M1 = some (some (.inl (iZ ((hp : Int)))), M2) := b1
    show _ = (some (some (.inl (iZ (if w = 0 then (hp : Int) else if w = 1 then ((leaA A hp).2.1 : Int) else if w = 2 then ((leaA A hp).2.2 : Int) else -1))), M2) : Option (Option xV × xM))
    clear a3 b1 q
    generalize (leaA A hp).2.1 = v1 at *
    generalize (leaA A hp).2.2 = v2 at *
    show xfix gX11_plan (0, [some (.inr (.inr (11, 0))), some (.inl (iZ (k))), some (.inl (iZ (w))), none], [], M) = _; rw [xfix_unf, sX11_plan_0]
    by_cases e0 : w = 0
    · rw [if_pos e0]
      simp (disch := omega) only [xk_none, xk_inl, xk_inr, xk_ite, xri_v, xrl_v, xrv_v, xb_z0, xb_z1, xb_b2, if_true, if_false, ite_true, ite_false, iZ_lit, iZ_m1, iZ_m99, iZ_m8, iZ_add, iZ_sub, iZ_mul, iZ_neg, nz0, nzi, iZ_lt, iZ_le, iZ_inj, b2_z, b2_o, ite_bPz, ite_bPo, xb_bP, iZ_xin, if_pos, ite_self, ↓reduceIte, Int.reduceAdd, Int.reduceSub, Int.reduceMul, Int.reduceNeg, Int.reduceLT, Int.reduceLE, if_neg, ↓xrv_some a1, ↓xri_some b1']
    · rw [if_neg e0]
      by_cases e1 : w = 1
      · rw [if_pos e1]
        simp (disch := omega) only [xk_none, xk_inl, xk_inr, xk_ite, xri_v, xrl_v, xrv_v, xb_z0, xb_z1, xb_b2, if_true, if_false, ite_true, ite_false, iZ_lit, iZ_m1, iZ_m99, iZ_m8, iZ_add, iZ_sub, iZ_mul, iZ_neg, nz0, nzi, iZ_lt, iZ_le, iZ_inj, b2_z, b2_o, ite_bPz, ite_bPo, xb_bP, iZ_xin, if_pos, ite_self, ↓reduceIte, Int.reduceAdd, Int.reduceSub, Int.reduceMul, Int.reduceNeg, Int.reduceLT, Int.reduceLE, if_neg, ↓xrv_some a1, ↓xri_some b1', iZ_clampN, q1]
      · rw [if_neg e1]
        by_cases e2 : w = 2
        · rw [if_pos e2]
          simp (disch := omega) only [xk_none, xk_inl, xk_inr, xk_ite, xri_v, xrl_v, xrv_v, xb_z0, xb_z1, xb_b2, if_true, if_false, ite_true, ite_false, iZ_lit, iZ_m1, iZ_m99, iZ_m8, iZ_add, iZ_sub, iZ_mul, iZ_neg, nz0, nzi, iZ_lt, iZ_le, iZ_inj, b2_z, b2_o, ite_bPz, ite_bPo, xb_bP, iZ_xin, if_pos, ite_self, ↓reduceIte, Int.reduceAdd, Int.reduceSub, Int.reduceMul, Int.reduceNeg, Int.reduceLT, Int.reduceLE, if_neg, ↓xrv_some a1, ↓xri_some b1', iZ_clampN, q2]
        · rw [if_neg e2]
          simp (disch := omega) only [xk_none, xk_inl, xk_inr, xk_ite, xri_v, xrl_v, xrv_v, xb_z0, xb_z1, xb_b2, if_true, if_false, ite_true, ite_false, iZ_lit, iZ_m1, iZ_m99, iZ_m8, iZ_add, iZ_sub, iZ_mul, iZ_neg, nz0, nzi, iZ_lt, iZ_le, iZ_inj, b2_z, b2_o, ite_bPz, ite_bPo, xb_bP, iZ_xin, if_pos, ite_self, ↓reduceIte, Int.reduceAdd, Int.reduceSub, Int.reduceMul, Int.reduceNeg, Int.reduceLT, Int.reduceLE, if_neg, ↓xrv_some a1, ↓xri_some b1']
theorem c_ring (hA : aOk A) (h : cZ M A S) {a w t : Int} (ha : r32 a) (hw : r32 w) (ht : r32 t) : cQ A S (fX11_ring [.inr (.inr (11, 0)), .inl (iZ (a)), .inl (iZ (w)), .inl (iZ (t))] M) (.inl (iZ (sRing A a w t))) := by
  have k1 := k5h h ha
  have k2 := x_isWay (M := M) hw
  unfold sRing
  unfold r32 at ht
  by_cases e1 : vH A a
  · rw [bP_t e1] at k1
    by_cases e2 : vW w
    · rw [bP_t e2] at k2
      have e1' := e1
      have e2' := e2
      obtain ⟨a, rfl, h1, h2⟩ := e1.n
      obtain ⟨w, rfl, w1⟩ := e2.n
      have ena : ((a : Int)).toNat = a := by omega
      have enw : ((w : Int)).toNat = w := by omega
      rw [ena, enw]
      by_cases e3 : 0 ≤ t ∧ t ≤ 9
      · obtain ⟨t, rfl⟩ : ∃ n : Nat, t = n := ⟨t.toNat, by omega⟩
        obtain ⟨M1, b1, b2⟩ := x_findRing (k := 0) (what := t) hA h.f0 h.W h2 w1 (by omega)
        refine ⟨M1, ?_, h.same b2 (by rintro r e j; subst e; rfl)⟩
        have key : vI (vH A (a : Int) ∧ vW (w : Int) ∧ 0 ≤ (t : Int) ∧ rgL A a w < 10 ∧ (t : Int) ≤ rgL A a w) (if (t : Int) = 0 then (rgL A a w : Int) else rgK A a w ((t : Int) - 1).toNat) = frA A a w t := by
          unfold frA
          by_cases z : rgL A a w < 10 ∧ t ≤ rgL A a w
          · rw [vI_t ⟨e1', e2', by omega, z.1, by omega⟩, if_pos z]
            have et : ((t : Int) - 1).toNat = t - 1 := by omega
            rw [et]
            by_cases z0 : t = 0
            · rw [if_pos (by omega), if_pos z0]
            · rw [if_neg (by omega), if_neg z0]
          · rw [vI_f (fun q => z ⟨q.2.2.2.1, by omega⟩), if_neg z]
        rw [key]
        generalize frA A a w t = v at *
        clear key
        show xfix gX11_ring (0, [some (.inr (.inr (11, 0))), some (.inl (iZ (a))), some (.inl (iZ (w))), some (.inl (iZ (t)))], [], M) = _; rw [xfix_unf, sX11_ring_0]
        simp (disch := omega) only [xk_none, xk_inl, xk_inr, xk_ite, xri_v, xrl_v, xrv_v, xb_z0, xb_z1, xb_b2, if_true, if_false, ite_true, ite_false, iZ_lit, iZ_m1, iZ_m99, iZ_m8, iZ_add, iZ_sub, iZ_mul, iZ_neg, nz0, nzi, iZ_lt, iZ_le, iZ_inj, b2_z, b2_o, ite_bPz, ite_bPo, xb_bP, iZ_xin, if_pos, ite_self, ↓reduceIte, Int.reduceAdd, Int.reduceSub, Int.reduceMul, Int.reduceNeg, Int.reduceLT, Int.reduceLE, if_neg, ↓xri_some k1, ↓xri_some k2, ↓xri_some b1]
      · rw [vI_f (fun z => e3 ⟨z.2.2.1, by have := z.2.2.2; omega⟩)]
        refine h.q ?_
        show xfix gX11_ring (0, [some (.inr (.inr (11, 0))), some (.inl (iZ (a))), some (.inl (iZ (w))), some (.inl (iZ (t)))], [], M) = _; rw [xfix_unf, sX11_ring_0]
        simp (disch := omega) only [xk_none, xk_inl, xk_inr, xk_ite, xri_v, xrl_v, xrv_v, xb_z0, xb_z1, xb_b2, if_true, if_false, ite_true, ite_false, iZ_lit, iZ_m1, iZ_m99, iZ_m8, iZ_add, iZ_sub, iZ_mul, iZ_neg, nz0, nzi, iZ_lt, iZ_le, iZ_inj, b2_z, b2_o, ite_bPz, ite_bPo, xb_bP, iZ_xin, if_pos, ite_self, ↓reduceIte, Int.reduceAdd, Int.reduceSub, Int.reduceMul, Int.reduceNeg, Int.reduceLT, Int.reduceLE, if_neg, ↓xri_some k1, ↓xri_some k2]
    · rw [bP_f e2] at k2
      rw [vI_f (fun z => e2 z.2.1)]
      refine h.q ?_
      show xfix gX11_ring (0, [some (.inr (.inr (11, 0))), some (.inl (iZ (a))), some (.inl (iZ (w))), some (.inl (iZ (t)))], [], M) = _; rw [xfix_unf, sX11_ring_0]
      simp (disch := omega) only [xk_none, xk_inl, xk_inr, xk_ite, xri_v, xrl_v, xrv_v, xb_z0, xb_z1, xb_b2, if_true, if_false, ite_true, ite_false, iZ_lit, iZ_m1, iZ_m99, iZ_m8, iZ_add, iZ_sub, iZ_mul, iZ_neg, nz0, nzi, iZ_lt, iZ_le, iZ_inj, b2_z, b2_o, ite_bPz, ite_bPo, xb_bP, iZ_xin, if_pos, ite_self, ↓reduceIte, Int.reduceAdd, Int.reduceSub, Int.reduceMul, Int.reduceNeg, Int.reduceLT, Int.reduceLE, if_neg, ↓xri_some k1, ↓xri_some k2]
  · rw [bP_f e1] at k1
    rw [vI_f (fun z => e1 z.1)]
    refine h.q ?_
    show xfix gX11_ring (0, [some (.inr (.inr (11, 0))), some (.inl (iZ (a))), some (.inl (iZ (w))), some (.inl (iZ (t)))], [], M) = _; rw [xfix_unf, sX11_ring_0]
    simp (disch := omega) only [xk_none, xk_inl, xk_inr, xk_ite, xri_v, xrl_v, xrv_v, xb_z0, xb_z1, xb_b2, if_true, if_false, ite_true, ite_false, iZ_lit, iZ_m1, iZ_m99, iZ_m8, iZ_add, iZ_sub, iZ_mul, iZ_neg, nz0, nzi, iZ_lt, iZ_le, iZ_inj, b2_z, b2_o, ite_bPz, ite_bPo, xb_bP, iZ_xin, if_pos, ite_self, ↓reduceIte, Int.reduceAdd, Int.reduceSub, Int.reduceMul, Int.reduceNeg, Int.reduceLT, Int.reduceLE, if_neg, ↓xri_some k1]
theorem c_missing (hA : aOk A) (hF : aFl A) (h : cZ M A S) {p : Int} (hp : r32 p) : cQ A S (fX11_missing [.inr (.inr (11, 0)), .inl (iZ (p))] M) (.inl (iZ (sMissing A p))) := by
  have k1 := k5p h hp
  unfold sMissing
  by_cases e1 : vP A p
  · rw [bP_t e1] at k1
    rw [vI_t e1]
    obtain ⟨p, rfl, p1⟩ := e1.n
    have enp : ((p : Int)).toNat = p := by omega
    rw [enp]
    obtain ⟨M1, a1, a2, a3⟩ := x_freshOrders hA hF h
    obtain ⟨M2, b1, b2, b3⟩ := x_cNr hA a2 a3
    have l := x_largest hA b2.f0 b3 p1
    refine ⟨M2, ?_, b2⟩
    generalize misR A p (2 ^ aP A) = v at *
    clear a3 b3
    show xfix gX11_missing (0, [some (.inr (.inr (11, 0))), some (.inl (iZ (p)))], [], M) = _; rw [xfix_unf, sX11_missing_0]
    simp (disch := omega) only [xk_none, xk_inl, xk_inr, xk_ite, xri_v, xrl_v, xrv_v, xb_z0, xb_z1, xb_b2, if_true, if_false, ite_true, ite_false, iZ_lit, iZ_m1, iZ_m99, iZ_m8, iZ_add, iZ_sub, iZ_mul, iZ_neg, nz0, nzi, iZ_lt, iZ_le, iZ_inj, b2_z, b2_o, ite_bPz, ite_bPo, xb_bP, iZ_xin, if_pos, ite_self, ↓reduceIte, Int.reduceAdd, Int.reduceSub, Int.reduceMul, Int.reduceNeg, Int.reduceLT, Int.reduceLE, if_neg, ↓xri_some k1, ↓xrv_some a1, ↓xrv_some b1, ↓xri_some l]
  · rw [bP_f e1] at k1
    rw [vI_f e1]
    refine h.q ?_
    show xfix gX11_missing (0, [some (.inr (.inr (11, 0))), some (.inl (iZ (p)))], [], M) = _; rw [xfix_unf, sX11_missing_0]
    simp (disch := omega) only [xk_none, xk_inl, xk_inr, xk_ite, xri_v, xrl_v, xrv_v, xb_z0, xb_z1, xb_b2, if_true, if_false, ite_true, ite_false, iZ_lit, iZ_m1, iZ_m99, iZ_m8, iZ_add, iZ_sub, iZ_mul, iZ_neg, nz0, nzi, iZ_lt, iZ_le, iZ_inj, b2_z, b2_o, ite_bPz, ite_bPo, xb_bP, iZ_xin, if_pos, ite_self, ↓reduceIte, Int.reduceAdd, Int.reduceSub, Int.reduceMul, Int.reduceNeg, Int.reduceLT, Int.reduceLE, if_neg, ↓xri_some k1]
theorem c_down (hA : aOk A) (h : cZ M A S) {p : Int} (hp : r32 p) : cQ A S (fX11_down [.inr (.inr (11, 0)), .inl (iZ (p))] M) (.inl (iZ (sDown A p))) := by
  have k1 := k5p h hp
  unfold sDown
  by_cases e1 : vP A p
  · rw [bP_t e1] at k1
    rw [vI_t e1]
    obtain ⟨p, rfl, p1⟩ := e1.n
    have enp : ((p : Int)).toNat = p := by omega
    rw [enp]
    obtain ⟨M1, a1, a2⟩ := x_cutsDownTo hA h.f0 h.J h.W (bar5 A) p1
    refine ⟨M1, ?_, h.same a2 (by rintro r e j; subst e; rfl)⟩
    obtain ⟨v, ev⟩ : ∃ v, v = lsI (fun n => pf (dnE A p) n (2 ^ aP A - 1) (2 ^ p)) 600 := ⟨_, rfl⟩
    rw [← ev] at a1 ⊢
    show xfix gX11_down (0, [some (.inr (.inr (11, 0))), some (.inl (iZ (p)))], [], M) = _; rw [xfix_unf, sX11_down_0]
    simp (disch := omega) only [xk_none, xk_inl, xk_inr, xk_ite, xri_v, xrl_v, xrv_v, xb_z0, xb_z1, xb_b2, if_true, if_false, ite_true, ite_false, iZ_lit, iZ_m1, iZ_m99, iZ_m8, iZ_add, iZ_sub, iZ_mul, iZ_neg, nz0, nzi, iZ_lt, iZ_le, iZ_inj, b2_z, b2_o, ite_bPz, ite_bPo, xb_bP, iZ_xin, if_pos, ite_self, ↓reduceIte, Int.reduceAdd, Int.reduceSub, Int.reduceMul, Int.reduceNeg, Int.reduceLT, Int.reduceLE, if_neg, ↓xri_some k1, ↓xri_some a1]
  · rw [bP_f e1] at k1
    rw [vI_f e1]
    refine h.q ?_
    show xfix gX11_down (0, [some (.inr (.inr (11, 0))), some (.inl (iZ (p)))], [], M) = _; rw [xfix_unf, sX11_down_0]
    simp (disch := omega) only [xk_none, xk_inl, xk_inr, xk_ite, xri_v, xrl_v, xrv_v, xb_z0, xb_z1, xb_b2, if_true, if_false, ite_true, ite_false, iZ_lit, iZ_m1, iZ_m99, iZ_m8, iZ_add, iZ_sub, iZ_mul, iZ_neg, nz0, nzi, iZ_lt, iZ_le, iZ_inj, b2_z, b2_o, ite_bPz, ite_bPo, xb_bP, iZ_xin, if_pos, ite_self, ↓reduceIte, Int.reduceAdd, Int.reduceSub, Int.reduceMul, Int.reduceNeg, Int.reduceLT, Int.reduceLE, if_neg, ↓xri_some k1]
theorem pow_or {P p q : Nat} (hp : p < P) (hq : q < P) : 2 ^ p ||| 2 ^ q < 2 ^ P := Nat.or_lt_two_pow (Nat.pow_lt_pow_right (by omega) hp) (Nat.pow_lt_pow_right (by omega) hq)
theorem c_inOne (hA : aOk A) (hF : aFl A) (h : cZ M A S) {p q w : Int} (hp : r32 p) (hq : r32 q) (hw : r32 w) : cQ A S (fX11_inOne [.inr (.inr (11, 0)), .inl (iZ (p)), .inl (iZ (q)), .inl (iZ (w))] M) (.inr (.inl (lZ (sInOne A p q w)))) := by
  have k1 := k5p h hp
  have k2 := k5p h hq
  have hP := pow9 h.P9
  have hP9 := h.P9
  have lm : (-1 : Int64) = lZ (-1) := lZ_m1
  unfold sInOne
  unfold r32 at hw
  by_cases e1 : vP A p
  · rw [bP_t e1] at k1
    by_cases e2 : vP A q
    · rw [bP_t e2] at k2
      by_cases e3 : p = q
      · rw [vI_f (fun z => z.2.2.1 e3)]
        refine h.q ?_
        subst e3
        show xfix gX11_inOne (0, [some (.inr (.inr (11, 0))), some (.inl (iZ (p))), some (.inl (iZ (p))), some (.inl (iZ (w)))], [], M) = _; rw [xfix_unf, sX11_inOne_0]
        simp (disch := omega) only [xk_none, xk_inl, xk_inr, xk_ite, xri_v, xrl_v, xrv_v, xb_z0, xb_z1, xb_b2, if_true, if_false, ite_true, ite_false, iZ_lit, iZ_m1, iZ_m99, iZ_m8, iZ_add, iZ_sub, iZ_mul, iZ_neg, nz0, nzi, iZ_lt, iZ_le, iZ_inj, b2_z, b2_o, ite_bPz, ite_bPo, xb_bP, iZ_xin, if_pos, ite_self, ↓reduceIte, Int.reduceAdd, Int.reduceSub, Int.reduceMul, Int.reduceNeg, Int.reduceLT, Int.reduceLE, if_neg, ↓xri_some k1, ↓xri_some k2, lm]
      · have e1' := e1
        have e2' := e2
        obtain ⟨p, rfl, p1⟩ := e1.n
        obtain ⟨q, rfl, q1⟩ := e2.n
        have enp : ((p : Int)).toNat = p := by omega
        have enq : ((q : Int)).toNat = q := by omega
        rw [enp, enq]
        by_cases e4 : 0 ≤ w ∧ w ≤ 1
        · rw [vI_t ⟨e1', e2', e3, e4⟩]
          have gl := pow_or p1 q1
          obtain ⟨M1, a1, a2, a3⟩ := x_freshPrices hA hF h
          obtain ⟨M2, b1, b2, b3, b4⟩ := x_fill (k := 1) (g := 2 ^ p ||| 2 ^ q) hA a2.f0 (oHy_g hA (by omega)) a2.J a2.W (bar5 A) a2.Pr a3
          have z2 : cZ M2 A S := a2.sm b2 (by
            rintro r j ((e | e | e | e) | ⟨e, e2⟩) <;> subst e <;> rfl)
          have ow := x_ofWhole (k := 1) (what := w) z2.f0 h.P9 gl b4 (by unfold r32; omega) (fun k k1 k2 => by
            have := leaT_b (one := onp (2 ^ p ||| 2 ^ q)) (ok := okp (2 ^ p ||| 2 ^ q)) (gw := gdw A (barS A)) (cst := cstA A) (fun heap w hw => cstA_b hA heap hw) (k + 1) k k1 (by omega)
            exact ⟨this.1, by have := this.2; omega⟩)
          refine ⟨M2, ?_, z2⟩
          have key : (if w = 0 then (if aP A = 0 then 0 else ordT (onp (2 ^ p ||| 2 ^ q)) (okp (2 ^ p ||| 2 ^ q)) (prt A (barS A)) (2 ^ aP A - 1 + 1) (2 ^ aP A - 1)) else (if aP A = 0 then -1 else (leaT (onp (2 ^ p ||| 2 ^ q)) (okp (2 ^ p ||| 2 ^ q)) (gdw A (barS A)) (cstA A) (2 ^ aP A - 1 + 1) (2 ^ aP A - 1)).1)) = (if w = 0 then ordG A (2 ^ p ||| 2 ^ q) (2 ^ aP A - 1) else (leaG A (2 ^ p ||| 2 ^ q) (2 ^ aP A - 1)).1) := by
            rw [if_neg (show ¬ aP A = 0 by omega), if_neg (show ¬ aP A = 0 by omega)]
            rfl
          rw [key] at ow
          clear key b4 a3
          generalize (if w = 0 then ordG A (2 ^ p ||| 2 ^ q) (2 ^ aP A - 1) else (leaG A (2 ^ p ||| 2 ^ q) (2 ^ aP A - 1)).1) = v at *
          have eo : iZ ((2 ^ p : Nat) : Int) ||| iZ ((2 ^ q : Nat) : Int) = iZ ((2 ^ p ||| 2 ^ q : Nat) : Int) := iZ_or _ _
          generalize 2 ^ p ||| 2 ^ q = g at *
          show xfix gX11_inOne (0, [some (.inr (.inr (11, 0))), some (.inl (iZ (p))), some (.inl (iZ (q))), some (.inl (iZ (w)))], [], M) = _; rw [xfix_unf, sX11_inOne_0]
          simp (disch := omega) only [xk_none, xk_inl, xk_inr, xk_ite, xri_v, xrl_v, xrv_v, xb_z0, xb_z1, xb_b2, if_true, if_false, ite_true, ite_false, iZ_lit, iZ_m1, iZ_m99, iZ_m8, iZ_add, iZ_sub, iZ_mul, iZ_neg, nz0, nzi, iZ_lt, iZ_le, iZ_inj, b2_z, b2_o, ite_bPz, ite_bPo, xb_bP, iZ_xin, if_pos, ite_self, ↓reduceIte, Int.reduceAdd, Int.reduceSub, Int.reduceMul, Int.reduceNeg, Int.reduceLT, Int.reduceLE, if_neg, ↓xri_some k1, ↓xri_some k2, ↓xrv_some a1, iZ_one, eo, ↓xrv_some b1, ↓xrl_some ow]
        · rw [vI_f (fun z => e4 z.2.2.2)]
          refine h.q ?_
          show xfix gX11_inOne (0, [some (.inr (.inr (11, 0))), some (.inl (iZ (p))), some (.inl (iZ (q))), some (.inl (iZ (w)))], [], M) = _; rw [xfix_unf, sX11_inOne_0]
          simp (disch := omega) only [xk_none, xk_inl, xk_inr, xk_ite, xri_v, xrl_v, xrv_v, xb_z0, xb_z1, xb_b2, if_true, if_false, ite_true, ite_false, iZ_lit, iZ_m1, iZ_m99, iZ_m8, iZ_add, iZ_sub, iZ_mul, iZ_neg, nz0, nzi, iZ_lt, iZ_le, iZ_inj, b2_z, b2_o, ite_bPz, ite_bPo, xb_bP, iZ_xin, if_pos, ite_self, ↓reduceIte, Int.reduceAdd, Int.reduceSub, Int.reduceMul, Int.reduceNeg, Int.reduceLT, Int.reduceLE, if_neg, ↓xri_some k1, ↓xri_some k2, lm]
    · rw [bP_f e2] at k2
      rw [vI_f (fun z => e2 z.2.1)]
      refine h.q ?_
      show xfix gX11_inOne (0, [some (.inr (.inr (11, 0))), some (.inl (iZ (p))), some (.inl (iZ (q))), some (.inl (iZ (w)))], [], M) = _; rw [xfix_unf, sX11_inOne_0]
      simp (disch := omega) only [xk_none, xk_inl, xk_inr, xk_ite, xri_v, xrl_v, xrv_v, xb_z0, xb_z1, xb_b2, if_true, if_false, ite_true, ite_false, iZ_lit, iZ_m1, iZ_m99, iZ_m8, iZ_add, iZ_sub, iZ_mul, iZ_neg, nz0, nzi, iZ_lt, iZ_le, iZ_inj, b2_z, b2_o, ite_bPz, ite_bPo, xb_bP, iZ_xin, if_pos, ite_self, ↓reduceIte, Int.reduceAdd, Int.reduceSub, Int.reduceMul, Int.reduceNeg, Int.reduceLT, Int.reduceLE, if_neg, ↓xri_some k1, ↓xri_some k2, lm]
  · rw [bP_f e1] at k1
    rw [vI_f (fun z => e1 z.1)]
    refine h.q ?_
    show xfix gX11_inOne (0, [some (.inr (.inr (11, 0))), some (.inl (iZ (p))), some (.inl (iZ (q))), some (.inl (iZ (w)))], [], M) = _; rw [xfix_unf, sX11_inOne_0]
    simp (disch := omega) only [xk_none, xk_inl, xk_inr, xk_ite, xri_v, xrl_v, xrv_v, xb_z0, xb_z1, xb_b2, if_true, if_false, ite_true, ite_false, iZ_lit, iZ_m1, iZ_m99, iZ_m8, iZ_add, iZ_sub, iZ_mul, iZ_neg, nz0, nzi, iZ_lt, iZ_le, iZ_inj, b2_z, b2_o, ite_bPz, ite_bPo, xb_bP, iZ_xin, if_pos, ite_self, ↓reduceIte, Int.reduceAdd, Int.reduceSub, Int.reduceMul, Int.reduceNeg, Int.reduceLT, Int.reduceLE, if_neg, ↓xri_some k1, lm]
theorem sub_of {k a : Nat} (h : ndn k a = 0) : k &&& a = k := ndn_and.mp h
theorem k_load (hA : aOk A) (h : cZ M A S) {a b : Nat} (x3 : a < 2 ^ aP A) (x4 : ndn b a = 0) : ∃ M', fX7_load [.inr (.inr (7, 0)), .inl (iZ (a)), .inl (iZ (b))] M = some (none, M') ∧ cZ M' A S ∧ cLd M' A b (ndn a b) := by
  obtain ⟨M1, a1, a2, a3⟩ := x_load hA h.B x3 (sub_of x4)
  exact ⟨M1, a1, h.same a2 (by rintro r (e | e) j <;> subst e <;> rfl), a3⟩
theorem c_view (hA : aOk A) (h : cZ M A S) {a b w : Int} (ha : r32 a) (hb : r32 b) (hw : r32 w) : cQ A S (fX11_view [.inr (.inr (11, 0)), .inl (iZ (a)), .inl (iZ (b)), .inl (iZ (w))] M) (.inl (iZ (sView A a b w))) := by
  have k1 := k5f h ha hb
  unfold sView
  unfold r32 at hw
  by_cases e1 : vF A a b
  · rw [bP_t e1] at k1
    have e1' := e1
    obtain ⟨a, b, rfl, rfl, x1, x2, x3, x4⟩ := e1'
    have ena : ((a : Int)).toNat = a := by omega
    have enb : ((b : Int)).toNat = b := by omega
    rw [ena, enb]
    by_cases e2 : 0 ≤ w ∧ w ≤ 6
    · rw [vI_t ⟨e1, e2⟩]
      obtain ⟨M1, a1, a2, a3⟩ := k_load hA h x3 x4
      obtain ⟨w, rfl⟩ : ∃ n : Nat, w = n := ⟨w.toNat, by omega⟩
      have enw : ((w : Int)).toNat = w := by omega
      rw [enw]
      by_cases e6 : w = 6
      · subst e6
        have z6 : ((6 : Nat) : Int) = 6 := rfl
        rw [z6, if_pos rfl]
        obtain ⟨M2, b1, b2⟩ := x_bestSide (sub_of x4) a3
        refine ⟨M2, ?_, a2.same b2 (by rintro r (e | e) j <;> subst e <;> rfl)⟩
        generalize vwR A a b 6 = v at *
        show xfix gX11_view (0, [some (.inr (.inr (11, 0))), some (.inl (iZ (a))), some (.inl (iZ (b))), some (.inl (iZ ((6 : Int))))], [], M) = _; rw [xfix_unf, sX11_view_0]
        simp (disch := omega) only [xk_none, xk_inl, xk_inr, xk_ite, xri_v, xrl_v, xrv_v, xb_z0, xb_z1, xb_b2, if_true, if_false, ite_true, ite_false, iZ_lit, iZ_m1, iZ_m99, iZ_m8, iZ_add, iZ_sub, iZ_mul, iZ_neg, nz0, nzi, iZ_lt, iZ_le, iZ_inj, b2_z, b2_o, ite_bPz, ite_bPo, xb_bP, iZ_xin, if_pos, ite_self, ↓reduceIte, Int.reduceAdd, Int.reduceSub, Int.reduceMul, Int.reduceNeg, Int.reduceLT, Int.reduceLE, if_neg, ↓xri_some k1, ↓xrv_some a1, ↓xri_some b1]
      · rw [if_neg (by omega)]
        obtain ⟨M2, b1, b2⟩ := x_linesSeen (w := w) (by omega) (sub_of x4) a3
        refine ⟨M2, ?_, a2.same b2 (by rintro r (e | e) j <;> subst e <;> rfl)⟩
        generalize snA A a b w = v at *
        show xfix gX11_view (0, [some (.inr (.inr (11, 0))), some (.inl (iZ (a))), some (.inl (iZ (b))), some (.inl (iZ (w)))], [], M) = _; rw [xfix_unf, sX11_view_0]
        simp (disch := omega) only [xk_none, xk_inl, xk_inr, xk_ite, xri_v, xrl_v, xrv_v, xb_z0, xb_z1, xb_b2, if_true, if_false, ite_true, ite_false, iZ_lit, iZ_m1, iZ_m99, iZ_m8, iZ_add, iZ_sub, iZ_mul, iZ_neg, nz0, nzi, iZ_lt, iZ_le, iZ_inj, b2_z, b2_o, ite_bPz, ite_bPo, xb_bP, iZ_xin, if_pos, ite_self, ↓reduceIte, Int.reduceAdd, Int.reduceSub, Int.reduceMul, Int.reduceNeg, Int.reduceLT, Int.reduceLE, if_neg, ↓xri_some k1, ↓xrv_some a1, ↓xri_some b1]
    · rw [vI_f (fun z => e2 z.2)]
      refine h.q ?_
      show xfix gX11_view (0, [some (.inr (.inr (11, 0))), some (.inl (iZ (a))), some (.inl (iZ (b))), some (.inl (iZ (w)))], [], M) = _; rw [xfix_unf, sX11_view_0]
      simp (disch := omega) only [xk_none, xk_inl, xk_inr, xk_ite, xri_v, xrl_v, xrv_v, xb_z0, xb_z1, xb_b2, if_true, if_false, ite_true, ite_false, iZ_lit, iZ_m1, iZ_m99, iZ_m8, iZ_add, iZ_sub, iZ_mul, iZ_neg, nz0, nzi, iZ_lt, iZ_le, iZ_inj, b2_z, b2_o, ite_bPz, ite_bPo, xb_bP, iZ_xin, if_pos, ite_self, ↓reduceIte, Int.reduceAdd, Int.reduceSub, Int.reduceMul, Int.reduceNeg, Int.reduceLT, Int.reduceLE, if_neg, ↓xri_some k1]
  · rw [bP_f e1] at k1
    rw [vI_f (fun z => e1 z.1)]
    refine h.q ?_
    show xfix gX11_view (0, [some (.inr (.inr (11, 0))), some (.inl (iZ (a))), some (.inl (iZ (b))), some (.inl (iZ (w)))], [], M) = _; rw [xfix_unf, sX11_view_0]
    simp (disch := omega) only [xk_none, xk_inl, xk_inr, xk_ite, xri_v, xrl_v, xrv_v, xb_z0, xb_z1, xb_b2, if_true, if_false, ite_true, ite_false, iZ_lit, iZ_m1, iZ_m99, iZ_m8, iZ_add, iZ_sub, iZ_mul, iZ_neg, nz0, nzi, iZ_lt, iZ_le, iZ_inj, b2_z, b2_o, ite_bPz, ite_bPo, xb_bP, iZ_xin, if_pos, ite_self, ↓reduceIte, Int.reduceAdd, Int.reduceSub, Int.reduceMul, Int.reduceNeg, Int.reduceLT, Int.reduceLE, if_neg, ↓xri_some k1]
theorem c_moves (hA : aOk A) (h : cZ M A S) {a b : Int} (ha : r32 a) (hb : r32 b) : cQ A S (fX11_moves [.inr (.inr (11, 0)), .inl (iZ (a)), .inl (iZ (b))] M) (.inl (iZ (sMoves A a b))) := by
  have k1 := k5f h ha hb
  unfold sMoves
  by_cases e1 : vF A a b
  · rw [bP_t e1] at k1
    rw [vI_t e1]
    obtain ⟨a, b, rfl, rfl, x1, x2, x3, x4⟩ := e1
    have ena : ((a : Int)).toNat = a := by omega
    have enb : ((b : Int)).toNat = b := by omega
    rw [ena, enb]
    obtain ⟨M1, a1, a2, a3⟩ := k_load hA h x3 x4
    obtain ⟨M2, b1, b2⟩ := x_fewestGoings a3
    refine ⟨M2, ?_, a2.same b2 (by rintro r (e | e | e | e | e) j <;> subst e <;> rfl)⟩
    obtain ⟨v, ev⟩ : ∃ v, v = lsI (fun n => ∃ u, pf (mvE A b (ndn a b)) n 2456 u ∧ ouT A b (ndn a b) u) 5000 := ⟨_, rfl⟩
    rw [← ev] at b1 ⊢
    show xfix gX11_moves (0, [some (.inr (.inr (11, 0))), some (.inl (iZ (a))), some (.inl (iZ (b)))], [], M) = _; rw [xfix_unf, sX11_moves_0]
    simp (disch := omega) only [xk_none, xk_inl, xk_inr, xk_ite, xri_v, xrl_v, xrv_v, xb_z0, xb_z1, xb_b2, if_true, if_false, ite_true, ite_false, iZ_lit, iZ_m1, iZ_m99, iZ_m8, iZ_add, iZ_sub, iZ_mul, iZ_neg, nz0, nzi, iZ_lt, iZ_le, iZ_inj, b2_z, b2_o, ite_bPz, ite_bPo, xb_bP, iZ_xin, if_pos, ite_self, ↓reduceIte, Int.reduceAdd, Int.reduceSub, Int.reduceMul, Int.reduceNeg, Int.reduceLT, Int.reduceLE, if_neg, ↓xri_some k1, ↓xrv_some a1, ↓xri_some b1]
  · rw [bP_f e1] at k1
    rw [vI_f e1]
    refine h.q ?_
    show xfix gX11_moves (0, [some (.inr (.inr (11, 0))), some (.inl (iZ (a))), some (.inl (iZ (b)))], [], M) = _; rw [xfix_unf, sX11_moves_0]
    simp (disch := omega) only [xk_none, xk_inl, xk_inr, xk_ite, xri_v, xrl_v, xrv_v, xb_z0, xb_z1, xb_b2, if_true, if_false, ite_true, ite_false, iZ_lit, iZ_m1, iZ_m99, iZ_m8, iZ_add, iZ_sub, iZ_mul, iZ_neg, nz0, nzi, iZ_lt, iZ_le, iZ_inj, b2_z, b2_o, ite_bPz, ite_bPo, xb_bP, iZ_xin, if_pos, ite_self, ↓reduceIte, Int.reduceAdd, Int.reduceSub, Int.reduceMul, Int.reduceNeg, Int.reduceLT, Int.reduceLE, if_neg, ↓xri_some k1]
theorem c_pull (hA : aOk A) (h : cZ M A S) {a b w s : Int} (ha : r32 a) (hb : r32 b) (hw : r32 w) (hs : r32 s) : cQ A S (fX11_pull [.inr (.inr (11, 0)), .inl (iZ (a)), .inl (iZ (b)), .inl (iZ (w)), .inl (iZ (s))] M) (.inl (iZ (sPull A a b w s))) := by
  have k1 := k5f h ha hb
  have k2 := x_isWay (M := M) hw
  have k3 := x_isWay (M := M) hs
  unfold sPull
  by_cases e1 : vF A a b
  · rw [bP_t e1] at k1
    by_cases e2 : vW w
    · rw [bP_t e2] at k2
      by_cases e3 : vW s
      · rw [bP_t e3] at k3
        rw [vI_t ⟨e1, e2, e3⟩]
        obtain ⟨a, b, rfl, rfl, x1, x2, x3, x4⟩ := e1
        obtain ⟨w, rfl, w1⟩ := e2.n
        obtain ⟨s, rfl, s1⟩ := e3.n
        have ena : ((a : Int)).toNat = a := by omega
        have enb : ((b : Int)).toNat = b := by omega
        have enw : ((w : Int)).toNat = w := by omega
        have ens : ((s : Int)).toNat = s := by omega
        rw [ena, enb, enw, ens]
        obtain ⟨M1, a1, a2, a3⟩ := k_load hA h x3 x4
        obtain ⟨M2, b1, b2⟩ := x_leastPull w1 s1 a3
        refine ⟨M2, ?_, a2.same b2 (by rintro r (e | e) j <;> subst e <;> rfl)⟩
        obtain ⟨v, ev⟩ : ∃ v, v = lsI (fun d => clr A b (ndn a b) w d s) 17 := ⟨_, rfl⟩
        rw [← ev] at b1 ⊢
        show xfix gX11_pull (0, [some (.inr (.inr (11, 0))), some (.inl (iZ (a))), some (.inl (iZ (b))), some (.inl (iZ (w))), some (.inl (iZ (s)))], [], M) = _; rw [xfix_unf, sX11_pull_0]
        simp (disch := omega) only [xk_none, xk_inl, xk_inr, xk_ite, xri_v, xrl_v, xrv_v, xb_z0, xb_z1, xb_b2, if_true, if_false, ite_true, ite_false, iZ_lit, iZ_m1, iZ_m99, iZ_m8, iZ_add, iZ_sub, iZ_mul, iZ_neg, nz0, nzi, iZ_lt, iZ_le, iZ_inj, b2_z, b2_o, ite_bPz, ite_bPo, xb_bP, iZ_xin, if_pos, ite_self, ↓reduceIte, Int.reduceAdd, Int.reduceSub, Int.reduceMul, Int.reduceNeg, Int.reduceLT, Int.reduceLE, if_neg, ↓xri_some k1, ↓xri_some k2, ↓xri_some k3, ↓xrv_some a1, ↓xri_some b1]
      · rw [bP_f e3] at k3
        rw [vI_f (fun z => e3 z.2.2)]
        refine h.q ?_
        show xfix gX11_pull (0, [some (.inr (.inr (11, 0))), some (.inl (iZ (a))), some (.inl (iZ (b))), some (.inl (iZ (w))), some (.inl (iZ (s)))], [], M) = _; rw [xfix_unf, sX11_pull_0]
        simp (disch := omega) only [xk_none, xk_inl, xk_inr, xk_ite, xri_v, xrl_v, xrv_v, xb_z0, xb_z1, xb_b2, if_true, if_false, ite_true, ite_false, iZ_lit, iZ_m1, iZ_m99, iZ_m8, iZ_add, iZ_sub, iZ_mul, iZ_neg, nz0, nzi, iZ_lt, iZ_le, iZ_inj, b2_z, b2_o, ite_bPz, ite_bPo, xb_bP, iZ_xin, if_pos, ite_self, ↓reduceIte, Int.reduceAdd, Int.reduceSub, Int.reduceMul, Int.reduceNeg, Int.reduceLT, Int.reduceLE, if_neg, ↓xri_some k1, ↓xri_some k2, ↓xri_some k3]
    · rw [bP_f e2] at k2
      rw [vI_f (fun z => e2 z.2.1)]
      refine h.q ?_
      show xfix gX11_pull (0, [some (.inr (.inr (11, 0))), some (.inl (iZ (a))), some (.inl (iZ (b))), some (.inl (iZ (w))), some (.inl (iZ (s)))], [], M) = _; rw [xfix_unf, sX11_pull_0]
      simp (disch := omega) only [xk_none, xk_inl, xk_inr, xk_ite, xri_v, xrl_v, xrv_v, xb_z0, xb_z1, xb_b2, if_true, if_false, ite_true, ite_false, iZ_lit, iZ_m1, iZ_m99, iZ_m8, iZ_add, iZ_sub, iZ_mul, iZ_neg, nz0, nzi, iZ_lt, iZ_le, iZ_inj, b2_z, b2_o, ite_bPz, ite_bPo, xb_bP, iZ_xin, if_pos, ite_self, ↓reduceIte, Int.reduceAdd, Int.reduceSub, Int.reduceMul, Int.reduceNeg, Int.reduceLT, Int.reduceLE, if_neg, ↓xri_some k1, ↓xri_some k2]
  · rw [bP_f e1] at k1
    rw [vI_f (fun z => e1 z.1)]
    refine h.q ?_
    show xfix gX11_pull (0, [some (.inr (.inr (11, 0))), some (.inl (iZ (a))), some (.inl (iZ (b))), some (.inl (iZ (w))), some (.inl (iZ (s)))], [], M) = _; rw [xfix_unf, sX11_pull_0]
    simp (disch := omega) only [xk_none, xk_inl, xk_inr, xk_ite, xri_v, xrl_v, xrv_v, xb_z0, xb_z1, xb_b2, if_true, if_false, ite_true, ite_false, iZ_lit, iZ_m1, iZ_m99, iZ_m8, iZ_add, iZ_sub, iZ_mul, iZ_neg, nz0, nzi, iZ_lt, iZ_le, iZ_inj, b2_z, b2_o, ite_bPz, ite_bPo, xb_bP, iZ_xin, if_pos, ite_self, ↓reduceIte, Int.reduceAdd, Int.reduceSub, Int.reduceMul, Int.reduceNeg, Int.reduceLT, Int.reduceLE, if_neg, ↓xri_some k1]
theorem c_like (hA : aOk A) (hF : aFl A) (h : cZ M A S) {p q w : Int} (hp : r32 p) (hq : r32 q) (hw : r32 w) : cQ A S (fX11_like [.inr (.inr (11, 0)), .inl (iZ (p)), .inl (iZ (q)), .inl (iZ (w))] M) (.inl (iZ (sLike A p q w))) := by
  have k1 := k5p h hp
  have k2 := k5p h hq
  unfold sLike
  unfold r32 at hw
  by_cases e1 : vP A p
  · rw [bP_t e1] at k1
    by_cases e2 : vP A q
    · rw [bP_t e2] at k2
      by_cases e3 : 0 ≤ w ∧ w ≤ 3
      · rw [vI_t ⟨e1, e2, e3⟩]
        obtain ⟨p, rfl, p1⟩ := e1.n
        obtain ⟨q, rfl, q1⟩ := e2.n
        have enp : ((p : Int)).toNat = p := by omega
        have enq : ((q : Int)).toNat = q := by omega
        rw [enp, enq]
        obtain ⟨ax, eax⟩ : ∃ ax, ax = (if w = 0 then 3 else (w - 1).toNat) := ⟨_, rfl⟩
        rw [← eax]
        have ax4 : ax < 4 := by rw [eax]; split <;> omega
        have hv : w - 1 = if ax = 3 then -1 else (ax : Int) := by
          by_cases z : w = 0
          · rw [if_pos z] at eax; rw [if_pos eax]; omega
          · rw [if_neg z] at eax; rw [if_neg (by omega)]; omega
        obtain ⟨M1, a1, a2⟩ := x_areLike (ax := ax) (v := w - 1) h.B hF p1 q1 ax4 hv
        refine ⟨M1, ?_, h.same a2 (by rintro r (e | e) j <;> subst e <;> rfl)⟩
        clear hv eax
        by_cases y : smS A p q ax
        · rw [bP_t y] at a1
          rw [ind_t y]
          show xfix gX11_like (0, [some (.inr (.inr (11, 0))), some (.inl (iZ (p))), some (.inl (iZ (q))), some (.inl (iZ (w)))], [], M) = _; rw [xfix_unf, sX11_like_0]
          simp (disch := omega) only [xk_none, xk_inl, xk_inr, xk_ite, xri_v, xrl_v, xrv_v, xb_z0, xb_z1, xb_b2, if_true, if_false, ite_true, ite_false, iZ_lit, iZ_m1, iZ_m99, iZ_m8, iZ_add, iZ_sub, iZ_mul, iZ_neg, nz0, nzi, iZ_lt, iZ_le, iZ_inj, b2_z, b2_o, ite_bPz, ite_bPo, xb_bP, iZ_xin, if_pos, ite_self, ↓reduceIte, Int.reduceAdd, Int.reduceSub, Int.reduceMul, Int.reduceNeg, Int.reduceLT, Int.reduceLE, if_neg, ↓xri_some k1, ↓xri_some k2, ↓xri_some a1]
        · rw [bP_f y] at a1
          rw [ind_f y]
          show xfix gX11_like (0, [some (.inr (.inr (11, 0))), some (.inl (iZ (p))), some (.inl (iZ (q))), some (.inl (iZ (w)))], [], M) = _; rw [xfix_unf, sX11_like_0]
          simp (disch := omega) only [xk_none, xk_inl, xk_inr, xk_ite, xri_v, xrl_v, xrv_v, xb_z0, xb_z1, xb_b2, if_true, if_false, ite_true, ite_false, iZ_lit, iZ_m1, iZ_m99, iZ_m8, iZ_add, iZ_sub, iZ_mul, iZ_neg, nz0, nzi, iZ_lt, iZ_le, iZ_inj, b2_z, b2_o, ite_bPz, ite_bPo, xb_bP, iZ_xin, if_pos, ite_self, ↓reduceIte, Int.reduceAdd, Int.reduceSub, Int.reduceMul, Int.reduceNeg, Int.reduceLT, Int.reduceLE, if_neg, ↓xri_some k1, ↓xri_some k2, ↓xri_some a1]
      · rw [vI_f (fun z => e3 z.2.2)]
        refine h.q ?_
        show xfix gX11_like (0, [some (.inr (.inr (11, 0))), some (.inl (iZ (p))), some (.inl (iZ (q))), some (.inl (iZ (w)))], [], M) = _; rw [xfix_unf, sX11_like_0]
        simp (disch := omega) only [xk_none, xk_inl, xk_inr, xk_ite, xri_v, xrl_v, xrv_v, xb_z0, xb_z1, xb_b2, if_true, if_false, ite_true, ite_false, iZ_lit, iZ_m1, iZ_m99, iZ_m8, iZ_add, iZ_sub, iZ_mul, iZ_neg, nz0, nzi, iZ_lt, iZ_le, iZ_inj, b2_z, b2_o, ite_bPz, ite_bPo, xb_bP, iZ_xin, if_pos, ite_self, ↓reduceIte, Int.reduceAdd, Int.reduceSub, Int.reduceMul, Int.reduceNeg, Int.reduceLT, Int.reduceLE, if_neg, ↓xri_some k1, ↓xri_some k2]
    · rw [bP_f e2] at k2
      rw [vI_f (fun z => e2 z.2.1)]
      refine h.q ?_
      show xfix gX11_like (0, [some (.inr (.inr (11, 0))), some (.inl (iZ (p))), some (.inl (iZ (q))), some (.inl (iZ (w)))], [], M) = _; rw [xfix_unf, sX11_like_0]
      simp (disch := omega) only [xk_none, xk_inl, xk_inr, xk_ite, xri_v, xrl_v, xrv_v, xb_z0, xb_z1, xb_b2, if_true, if_false, ite_true, ite_false, iZ_lit, iZ_m1, iZ_m99, iZ_m8, iZ_add, iZ_sub, iZ_mul, iZ_neg, nz0, nzi, iZ_lt, iZ_le, iZ_inj, b2_z, b2_o, ite_bPz, ite_bPo, xb_bP, iZ_xin, if_pos, ite_self, ↓reduceIte, Int.reduceAdd, Int.reduceSub, Int.reduceMul, Int.reduceNeg, Int.reduceLT, Int.reduceLE, if_neg, ↓xri_some k1, ↓xri_some k2]
  · rw [bP_f e1] at k1
    rw [vI_f (fun z => e1 z.1)]
    refine h.q ?_
    show xfix gX11_like (0, [some (.inr (.inr (11, 0))), some (.inl (iZ (p))), some (.inl (iZ (q))), some (.inl (iZ (w)))], [], M) = _; rw [xfix_unf, sX11_like_0]
    simp (disch := omega) only [xk_none, xk_inl, xk_inr, xk_ite, xri_v, xrl_v, xrv_v, xb_z0, xb_z1, xb_b2, if_true, if_false, ite_true, ite_false, iZ_lit, iZ_m1, iZ_m99, iZ_m8, iZ_add, iZ_sub, iZ_mul, iZ_neg, nz0, nzi, iZ_lt, iZ_le, iZ_inj, b2_z, b2_o, ite_bPz, ite_bPo, xb_bP, iZ_xin, if_pos, ite_self, ↓reduceIte, Int.reduceAdd, Int.reduceSub, Int.reduceMul, Int.reduceNeg, Int.reduceLT, Int.reduceLE, if_neg, ↓xri_some k1]
theorem c_mirrored (hA : aOk A) (hF : aFl A) (h : cZ M A S) {p a : Int} (hp : r32 p) (ha : r32 a) : cQ A S (fX11_mirrored [.inr (.inr (11, 0)), .inl (iZ (p)), .inl (iZ (a))] M) (.inl (iZ (sMirrored A p a))) := by
  have k1 := k5p h hp
  unfold sMirrored
  unfold r32 at ha
  by_cases e1 : vP A p
  · rw [bP_t e1] at k1
    by_cases e3 : 0 ≤ a ∧ a ≤ 2
    · rw [vI_t ⟨e1, e3⟩]
      obtain ⟨p, rfl, p1⟩ := e1.n
      obtain ⟨ax, rfl⟩ : ∃ n : Nat, a = n := ⟨a.toNat, by omega⟩
      have enp : ((p : Int)).toNat = p := by omega
      have ena : ((ax : Int)).toNat = ax := by omega
      rw [enp, ena]
      obtain ⟨M1, a1, a2⟩ := x_goesInMirrored (ax := ax) h.B hA hF (fun c hc => by
        have := h.1.1.1.2.2.2.2 c hc
        exact this) p1 (by omega)
      refine ⟨M1, ?_, h.same a2 (by rintro r (e | e) j <;> subst e <;> rfl)⟩
      by_cases y : ¬ smS A p p ax ∧ ∀ c, c < 512 → mrC A p ax c
      · rw [bP_t y] at a1
        rw [ind_t y]
        clear y
        show xfix gX11_mirrored (0, [some (.inr (.inr (11, 0))), some (.inl (iZ (p))), some (.inl (iZ (ax)))], [], M) = _; rw [xfix_unf, sX11_mirrored_0]
        simp (disch := omega) only [xk_none, xk_inl, xk_inr, xk_ite, xri_v, xrl_v, xrv_v, xb_z0, xb_z1, xb_b2, if_true, if_false, ite_true, ite_false, iZ_lit, iZ_m1, iZ_m99, iZ_m8, iZ_add, iZ_sub, iZ_mul, iZ_neg, nz0, nzi, iZ_lt, iZ_le, iZ_inj, b2_z, b2_o, ite_bPz, ite_bPo, xb_bP, iZ_xin, if_pos, ite_self, ↓reduceIte, Int.reduceAdd, Int.reduceSub, Int.reduceMul, Int.reduceNeg, Int.reduceLT, Int.reduceLE, if_neg, ↓xri_some k1, ↓xri_some a1]
      · rw [bP_f y] at a1
        rw [ind_f y]
        clear y
        show xfix gX11_mirrored (0, [some (.inr (.inr (11, 0))), some (.inl (iZ (p))), some (.inl (iZ (ax)))], [], M) = _; rw [xfix_unf, sX11_mirrored_0]
        simp (disch := omega) only [xk_none, xk_inl, xk_inr, xk_ite, xri_v, xrl_v, xrv_v, xb_z0, xb_z1, xb_b2, if_true, if_false, ite_true, ite_false, iZ_lit, iZ_m1, iZ_m99, iZ_m8, iZ_add, iZ_sub, iZ_mul, iZ_neg, nz0, nzi, iZ_lt, iZ_le, iZ_inj, b2_z, b2_o, ite_bPz, ite_bPo, xb_bP, iZ_xin, if_pos, ite_self, ↓reduceIte, Int.reduceAdd, Int.reduceSub, Int.reduceMul, Int.reduceNeg, Int.reduceLT, Int.reduceLE, if_neg, ↓xri_some k1, ↓xri_some a1]
    · rw [vI_f (fun z => e3 z.2)]
      refine h.q ?_
      show xfix gX11_mirrored (0, [some (.inr (.inr (11, 0))), some (.inl (iZ (p))), some (.inl (iZ (a)))], [], M) = _; rw [xfix_unf, sX11_mirrored_0]
      simp (disch := omega) only [xk_none, xk_inl, xk_inr, xk_ite, xri_v, xrl_v, xrv_v, xb_z0, xb_z1, xb_b2, if_true, if_false, ite_true, ite_false, iZ_lit, iZ_m1, iZ_m99, iZ_m8, iZ_add, iZ_sub, iZ_mul, iZ_neg, nz0, nzi, iZ_lt, iZ_le, iZ_inj, b2_z, b2_o, ite_bPz, ite_bPo, xb_bP, iZ_xin, if_pos, ite_self, ↓reduceIte, Int.reduceAdd, Int.reduceSub, Int.reduceMul, Int.reduceNeg, Int.reduceLT, Int.reduceLE, if_neg, ↓xri_some k1]
  · rw [bP_f e1] at k1
    rw [vI_f (fun z => e1 z.1)]
    refine h.q ?_
    show xfix gX11_mirrored (0, [some (.inr (.inr (11, 0))), some (.inl (iZ (p))), some (.inl (iZ (a)))], [], M) = _; rw [xfix_unf, sX11_mirrored_0]
    simp (disch := omega) only [xk_none, xk_inl, xk_inr, xk_ite, xri_v, xrl_v, xrv_v, xb_z0, xb_z1, xb_b2, if_true, if_false, ite_true, ite_false, iZ_lit, iZ_m1, iZ_m99, iZ_m8, iZ_add, iZ_sub, iZ_mul, iZ_neg, nz0, nzi, iZ_lt, iZ_le, iZ_inj, b2_z, b2_o, ite_bPz, ite_bPo, xb_bP, iZ_xin, if_pos, ite_self, ↓reduceIte, Int.reduceAdd, Int.reduceSub, Int.reduceMul, Int.reduceNeg, Int.reduceLT, Int.reduceLE, if_neg, ↓xri_some k1]
theorem rest_cell (hF : aFl A) {a b : Nat} (x2 : b < a) (x3 : a < 2 ^ aP A) (x4 : ndn b a = 0) : ∃ c, c < 512 ∧ inH A (ndn a b) c := by
  have nz : ndn a b ≠ 0 := fun z => by
    have e1 := ndn_and.mp z
    have e2 := sub_of x4
    rw [Nat.and_comm] at e1
    omega
  obtain ⟨p, hp⟩ := Nat.exists_testBit_of_ne_zero nz
  have pa : a.testBit p = true := by rw [ndn_bit, Bool.and_eq_true] at hp; exact hp.1
  have pl := bit_lt x3 pa
  obtain ⟨c, c1, c2⟩ := hF p pl
  exact ⟨c, c1, p, c2, hp⟩
theorem c_minutes (hA : aOk A) (hF : aFl A) (h : cZ M A S) {a b w : Int} (ha : r32 a) (hb : r32 b) (hw : r32 w) : cQ A S (fX11_minutes [.inr (.inr (11, 0)), .inl (iZ (a)), .inl (iZ (b)), .inl (iZ (w))] M) (.inl (iZ (sMinutes A a b w))) := by
  have k1 := k5f h ha hb
  have k2 := x_isWay (M := M) hw
  unfold sMinutes
  by_cases e1 : vF A a b
  · rw [bP_t e1] at k1
    by_cases e2 : vW w
    · rw [bP_t e2] at k2
      have e1' := e1
      have e2' := e2
      obtain ⟨a, b, rfl, rfl, x1, x2, x3, x4⟩ := e1
      obtain ⟨w, rfl, w1⟩ := e2.n
      have ena : ((a : Int)).toNat = a := by omega
      have enb : ((b : Int)).toNat = b := by omega
      have enw : ((w : Int)).toNat = w := by omega
      rw [ena, enb, enw]
      have g := k_good hA h x2 x3 x4 w1
      by_cases y : gdw A (barS A) a b w
      · rw [bP_t y] at g
        rw [vI_t ⟨e1', e2', y⟩]
        obtain ⟨M1, a1, a2, a3⟩ := k_load hA h x3 x4
        obtain ⟨M2, b1, b2⟩ := x_cellsTillOut w1 a3 (rest_cell hF x2 x3 x4)
        refine ⟨M2, ?_, a2.same b2 (by rintro r e j; subst e; rfl)⟩
        generalize mnt A a b w = v at *
        clear y
        show xfix gX11_minutes (0, [some (.inr (.inr (11, 0))), some (.inl (iZ (a))), some (.inl (iZ (b))), some (.inl (iZ (w)))], [], M) = _; rw [xfix_unf, sX11_minutes_0]
        simp (disch := omega) only [xk_none, xk_inl, xk_inr, xk_ite, xri_v, xrl_v, xrv_v, xb_z0, xb_z1, xb_b2, if_true, if_false, ite_true, ite_false, iZ_lit, iZ_m1, iZ_m99, iZ_m8, iZ_add, iZ_sub, iZ_mul, iZ_neg, nz0, nzi, iZ_lt, iZ_le, iZ_inj, b2_z, b2_o, ite_bPz, ite_bPo, xb_bP, iZ_xin, if_pos, ite_self, ↓reduceIte, Int.reduceAdd, Int.reduceSub, Int.reduceMul, Int.reduceNeg, Int.reduceLT, Int.reduceLE, if_neg, ↓xri_some k1, ↓xri_some k2, ↓xri_some g, ↓xrv_some a1, ↓xri_some b1]
      · rw [bP_f y] at g
        rw [vI_f (fun z => y z.2.2)]
        refine h.q ?_
        clear y
        show xfix gX11_minutes (0, [some (.inr (.inr (11, 0))), some (.inl (iZ (a))), some (.inl (iZ (b))), some (.inl (iZ (w)))], [], M) = _; rw [xfix_unf, sX11_minutes_0]
        simp (disch := omega) only [xk_none, xk_inl, xk_inr, xk_ite, xri_v, xrl_v, xrv_v, xb_z0, xb_z1, xb_b2, if_true, if_false, ite_true, ite_false, iZ_lit, iZ_m1, iZ_m99, iZ_m8, iZ_add, iZ_sub, iZ_mul, iZ_neg, nz0, nzi, iZ_lt, iZ_le, iZ_inj, b2_z, b2_o, ite_bPz, ite_bPo, xb_bP, iZ_xin, if_pos, ite_self, ↓reduceIte, Int.reduceAdd, Int.reduceSub, Int.reduceMul, Int.reduceNeg, Int.reduceLT, Int.reduceLE, if_neg, ↓xri_some k1, ↓xri_some k2, ↓xri_some g]
    · rw [bP_f e2] at k2
      rw [vI_f (fun z => e2 z.2.1)]
      refine h.q ?_
      show xfix gX11_minutes (0, [some (.inr (.inr (11, 0))), some (.inl (iZ (a))), some (.inl (iZ (b))), some (.inl (iZ (w)))], [], M) = _; rw [xfix_unf, sX11_minutes_0]
      simp (disch := omega) only [xk_none, xk_inl, xk_inr, xk_ite, xri_v, xrl_v, xrv_v, xb_z0, xb_z1, xb_b2, if_true, if_false, ite_true, ite_false, iZ_lit, iZ_m1, iZ_m99, iZ_m8, iZ_add, iZ_sub, iZ_mul, iZ_neg, nz0, nzi, iZ_lt, iZ_le, iZ_inj, b2_z, b2_o, ite_bPz, ite_bPo, xb_bP, iZ_xin, if_pos, ite_self, ↓reduceIte, Int.reduceAdd, Int.reduceSub, Int.reduceMul, Int.reduceNeg, Int.reduceLT, Int.reduceLE, if_neg, ↓xri_some k1, ↓xri_some k2]
  · rw [bP_f e1] at k1
    rw [vI_f (fun z => e1 z.1)]
    refine h.q ?_
    show xfix gX11_minutes (0, [some (.inr (.inr (11, 0))), some (.inl (iZ (a))), some (.inl (iZ (b))), some (.inl (iZ (w)))], [], M) = _; rw [xfix_unf, sX11_minutes_0]
    simp (disch := omega) only [xk_none, xk_inl, xk_inr, xk_ite, xri_v, xrl_v, xrv_v, xb_z0, xb_z1, xb_b2, if_true, if_false, ite_true, ite_false, iZ_lit, iZ_m1, iZ_m99, iZ_m8, iZ_add, iZ_sub, iZ_mul, iZ_neg, nz0, nzi, iZ_lt, iZ_le, iZ_inj, b2_z, b2_o, ite_bPz, ite_bPo, xb_bP, iZ_xin, if_pos, ite_self, ↓reduceIte, Int.reduceAdd, Int.reduceSub, Int.reduceMul, Int.reduceNeg, Int.reduceLT, Int.reduceLE, if_neg, ↓xri_some k1]
theorem c_time (hA : aOk A) (hF : aFl A) (h : cZ M A S) {a w : Int} (ha : r32 a) (hw : r32 w) : cQ A S (fX11_time [.inr (.inr (11, 0)), .inl (iZ (a)), .inl (iZ (w))] M) (.inl (iZ (sTime A a w))) := by
  have k1 := k5h h ha
  have hP := pow9 h.P9
  unfold sTime
  unfold r32 at hw
  by_cases e1 : vH A a
  · rw [bP_t e1] at k1
    by_cases e2 : 0 ≤ w ∧ w ≤ 1
    · rw [vI_t ⟨e1, e2⟩]
      obtain ⟨a, rfl, h1, h2⟩ := e1.n
      have ena : ((a : Int)).toNat = a := by omega
      rw [ena]
      obtain ⟨M1, a1, a2, a3⟩ := x_cTr hA hF h
      obtain ⟨q1, q2⟩ := a3 a h1 h2
      refine ⟨M1, ?_, a2⟩
      clear a3
      generalize (timA A a).1 = v1 at *
      generalize (timA A a).2 = v2 at *
      show xfix gX11_time (0, [some (.inr (.inr (11, 0))), some (.inl (iZ (a))), some (.inl (iZ (w)))], [], M) = _; rw [xfix_unf, sX11_time_0]
      by_cases e0 : w = 0
      · rw [if_pos e0]
        simp (disch := omega) only [xk_none, xk_inl, xk_inr, xk_ite, xri_v, xrl_v, xrv_v, xb_z0, xb_z1, xb_b2, if_true, if_false, ite_true, ite_false, iZ_lit, iZ_m1, iZ_m99, iZ_m8, iZ_add, iZ_sub, iZ_mul, iZ_neg, nz0, nzi, iZ_lt, iZ_le, iZ_inj, b2_z, b2_o, ite_bPz, ite_bPo, xb_bP, iZ_xin, if_pos, ite_self, ↓reduceIte, Int.reduceAdd, Int.reduceSub, Int.reduceMul, Int.reduceNeg, Int.reduceLT, Int.reduceLE, if_neg, ↓xri_some k1, ↓xrv_some a1, iZ_clampN, q1]
      · rw [if_neg e0]
        simp (disch := omega) only [xk_none, xk_inl, xk_inr, xk_ite, xri_v, xrl_v, xrv_v, xb_z0, xb_z1, xb_b2, if_true, if_false, ite_true, ite_false, iZ_lit, iZ_m1, iZ_m99, iZ_m8, iZ_add, iZ_sub, iZ_mul, iZ_neg, nz0, nzi, iZ_lt, iZ_le, iZ_inj, b2_z, b2_o, ite_bPz, ite_bPo, xb_bP, iZ_xin, if_pos, ite_self, ↓reduceIte, Int.reduceAdd, Int.reduceSub, Int.reduceMul, Int.reduceNeg, Int.reduceLT, Int.reduceLE, if_neg, ↓xri_some k1, ↓xrv_some a1, iZ_clampN, q2]
    · rw [vI_f (fun z => e2 z.2)]
      refine h.q ?_
      show xfix gX11_time (0, [some (.inr (.inr (11, 0))), some (.inl (iZ (a))), some (.inl (iZ (w)))], [], M) = _; rw [xfix_unf, sX11_time_0]
      simp (disch := omega) only [xk_none, xk_inl, xk_inr, xk_ite, xri_v, xrl_v, xrv_v, xb_z0, xb_z1, xb_b2, if_true, if_false, ite_true, ite_false, iZ_lit, iZ_m1, iZ_m99, iZ_m8, iZ_add, iZ_sub, iZ_mul, iZ_neg, nz0, nzi, iZ_lt, iZ_le, iZ_inj, b2_z, b2_o, ite_bPz, ite_bPo, xb_bP, iZ_xin, if_pos, ite_self, ↓reduceIte, Int.reduceAdd, Int.reduceSub, Int.reduceMul, Int.reduceNeg, Int.reduceLT, Int.reduceLE, if_neg, ↓xri_some k1]
  · rw [bP_f e1] at k1
    rw [vI_f (fun z => e1 z.1)]
    refine h.q ?_
    show xfix gX11_time (0, [some (.inr (.inr (11, 0))), some (.inl (iZ (a))), some (.inl (iZ (w)))], [], M) = _; rw [xfix_unf, sX11_time_0]
    simp (disch := omega) only [xk_none, xk_inl, xk_inr, xk_ite, xri_v, xrl_v, xrv_v, xb_z0, xb_z1, xb_b2, if_true, if_false, ite_true, ite_false, iZ_lit, iZ_m1, iZ_m99, iZ_m8, iZ_add, iZ_sub, iZ_mul, iZ_neg, nz0, nzi, iZ_lt, iZ_le, iZ_inj, b2_z, b2_o, ite_bPz, ite_bPo, xb_bP, iZ_xin, if_pos, ite_self, ↓reduceIte, Int.reduceAdd, Int.reduceSub, Int.reduceMul, Int.reduceNeg, Int.reduceLT, Int.reduceLE, if_neg, ↓xri_some k1]
theorem c_holding (hA : aOk A) (hF : aFl A) (h : cZ M A S) {a : Int} (ha : r32 a) : cQ A S (fX11_holding [.inr (.inr (11, 0)), .inl (iZ (a))] M) (.inl (iZ (sHold A a))) := by
  have k1 := k5h h ha
  have hP := pow9 h.P9
  unfold sHold
  by_cases e1 : vH A a
  · rw [bP_t e1] at k1
    rw [vI_t e1]
    obtain ⟨a, rfl, h1, h2⟩ := e1.n
    have ena : ((a : Int)).toNat = a := by omega
    rw [ena]
    obtain ⟨M1, a1, a2, a3⟩ := x_cHr hA hF h
    obtain ⟨q1, q2⟩ := a3 a h1 h2
    refine ⟨M1, ?_, a2⟩
    show _ = (some (some (.inl (iZ ((hldA A a : Int)))), M1) : Option (Option xV × xM))
    clear a3
    generalize hldA A a = v at *
    show xfix gX11_holding (0, [some (.inr (.inr (11, 0))), some (.inl (iZ (a)))], [], M) = _; rw [xfix_unf, sX11_holding_0]
    simp (disch := omega) only [xk_none, xk_inl, xk_inr, xk_ite, xri_v, xrl_v, xrv_v, xb_z0, xb_z1, xb_b2, if_true, if_false, ite_true, ite_false, iZ_lit, iZ_m1, iZ_m99, iZ_m8, iZ_add, iZ_sub, iZ_mul, iZ_neg, nz0, nzi, iZ_lt, iZ_le, iZ_inj, b2_z, b2_o, ite_bPz, ite_bPo, xb_bP, iZ_xin, if_pos, ite_self, ↓reduceIte, Int.reduceAdd, Int.reduceSub, Int.reduceMul, Int.reduceNeg, Int.reduceLT, Int.reduceLE, if_neg, ↓xri_some k1, ↓xrv_some a1, iZ_clampN, q1]
  · rw [bP_f e1] at k1
    rw [vI_f e1]
    refine h.q ?_
    show xfix gX11_holding (0, [some (.inr (.inr (11, 0))), some (.inl (iZ (a)))], [], M) = _; rw [xfix_unf, sX11_holding_0]
    simp (disch := omega) only [xk_none, xk_inl, xk_inr, xk_ite, xri_v, xrl_v, xrv_v, xb_z0, xb_z1, xb_b2, if_true, if_false, ite_true, ite_false, iZ_lit, iZ_m1, iZ_m99, iZ_m8, iZ_add, iZ_sub, iZ_mul, iZ_neg, nz0, nzi, iZ_lt, iZ_le, iZ_inj, b2_z, b2_o, ite_bPz, ite_bPo, xb_bP, iZ_xin, if_pos, ite_self, ↓reduceIte, Int.reduceAdd, Int.reduceSub, Int.reduceMul, Int.reduceNeg, Int.reduceLT, Int.reduceLE, if_neg, ↓xri_some k1]
theorem c_oneByOne (hA : aOk A) (h : cZ M A S) {a : Int} (ha : r32 a) : cQ A S (fX11_oneByOne [.inr (.inr (11, 0)), .inl (iZ (a))] M) (.inr (.inl (lZ (sOneByOne A a)))) := by
  have k1 := k5h h ha
  have lm : (-1 : Int64) = lZ (-1) := lZ_m1
  unfold sOneByOne
  by_cases e1 : vH A a
  · rw [bP_t e1] at k1
    rw [vI_t e1]
    obtain ⟨a, rfl, h1, h2⟩ := e1.n
    have ena : ((a : Int)).toNat = a := by omega
    rw [ena]
    obtain ⟨M1, a1, a2⟩ := x_lonely hA h.f0 h.J h.W (bar5 A) h1 h2
    refine ⟨M1, ?_, h.same a2 (by rintro r e j; subst e; rfl)⟩
    generalize sngA A a = v at *
    show xfix gX11_oneByOne (0, [some (.inr (.inr (11, 0))), some (.inl (iZ (a)))], [], M) = _; rw [xfix_unf, sX11_oneByOne_0]
    simp (disch := omega) only [xk_none, xk_inl, xk_inr, xk_ite, xri_v, xrl_v, xrv_v, xb_z0, xb_z1, xb_b2, if_true, if_false, ite_true, ite_false, iZ_lit, iZ_m1, iZ_m99, iZ_m8, iZ_add, iZ_sub, iZ_mul, iZ_neg, nz0, nzi, iZ_lt, iZ_le, iZ_inj, b2_z, b2_o, ite_bPz, ite_bPo, xb_bP, iZ_xin, if_pos, ite_self, ↓reduceIte, Int.reduceAdd, Int.reduceSub, Int.reduceMul, Int.reduceNeg, Int.reduceLT, Int.reduceLE, if_neg, ↓xri_some k1, ↓xrl_some a1]
  · rw [bP_f e1] at k1
    rw [vI_f e1]
    refine h.q ?_
    show xfix gX11_oneByOne (0, [some (.inr (.inr (11, 0))), some (.inl (iZ (a)))], [], M) = _; rw [xfix_unf, sX11_oneByOne_0]
    simp (disch := omega) only [xk_none, xk_inl, xk_inr, xk_ite, xri_v, xrl_v, xrv_v, xb_z0, xb_z1, xb_b2, if_true, if_false, ite_true, ite_false, iZ_lit, iZ_m1, iZ_m99, iZ_m8, iZ_add, iZ_sub, iZ_mul, iZ_neg, nz0, nzi, iZ_lt, iZ_le, iZ_inj, b2_z, b2_o, ite_bPz, ite_bPo, xb_bP, iZ_xin, if_pos, ite_self, ↓reduceIte, Int.reduceAdd, Int.reduceSub, Int.reduceMul, Int.reduceNeg, Int.reduceLT, Int.reduceLE, if_neg, ↓xri_some k1, lm]
theorem c_fu (hA : aOk A) : ∀ (n i : Nat) (M : xM), i + n = 9 → cZ M A S → cOr M 0 0 on1 (ordA A) (leaA A) (2 ^ aP A) → cQ A S (xfix gX11_firstUnsafe (2, [some (.inr (.inr (11, 0))), some (.inl (iZ (i))), none], [], M)) (.inl (iZ (fuR A n i)))
  | 0, i, M, hi, h, hT => by
    have : i = 9 := by omega
    subst this
    refine ⟨M, ?_, h⟩
    have e : fuR A 0 9 = -1 := rfl
    have z9 : ((9 : Nat) : Int) = 9 := rfl
    rw [e, z9]
    rw [xfix_unf, sX11_firstUnsafe_2]
    simp (disch := omega) only [xk_none, xk_inl, xk_inr, xk_ite, xri_v, xrl_v, xrv_v, xb_z0, xb_z1, xb_b2, if_true, if_false, ite_true, ite_false, iZ_lit, iZ_m1, iZ_m99, iZ_m8, iZ_add, iZ_sub, iZ_mul, iZ_neg, nz0, nzi, iZ_lt, iZ_le, iZ_inj, b2_z, b2_o, ite_bPz, ite_bPo, xb_bP, iZ_xin, if_pos, ite_self, ↓reduceIte, Int.reduceAdd, Int.reduceSub, Int.reduceMul, Int.reduceNeg, Int.reduceLT, Int.reduceLE, if_neg]
  | n + 1, i, M, hi, h, hT => by
    have hP := pow9 h.P9
    obtain ⟨M2, b1, b2⟩ := x_planHeap (k := (i : Int)) hA h.f0 hT (by unfold r32; omega)
    have z2 : cZ M2 A S := h.same b2 (by rintro r e j; subst e; rfl)
    cases e : plH A i with
    | none =>
      rw [e] at b1
      have b1' : fX2_planHeap [.inr (.inr (2, 0)), .inl (iZ (i))] M = some (some (.inl (iZ (-1))), M2) := b1
      have ef : fuR A (n + 1) i = -1 := by
        show (match plH A i with | none => -1 | some h => _) = (-1 : Int)
        rw [e]
      rw [ef]
      refine ⟨M2, ?_, z2⟩
      rw [xfix_unf, sX11_firstUnsafe_2]
      simp (disch := omega) only [xk_none, xk_inl, xk_inr, xk_ite, xri_v, xrl_v, xrv_v, xb_z0, xb_z1, xb_b2, if_true, if_false, ite_true, ite_false, iZ_lit, iZ_m1, iZ_m99, iZ_m8, iZ_add, iZ_sub, iZ_mul, iZ_neg, nz0, nzi, iZ_lt, iZ_le, iZ_inj, b2_z, b2_o, ite_bPz, ite_bPo, xb_bP, iZ_xin, if_pos, ite_self, ↓reduceIte, Int.reduceAdd, Int.reduceSub, Int.reduceMul, Int.reduceNeg, Int.reduceLT, Int.reduceLE, if_neg, ↓xri_some b1']
    | some hp =>
      rw [e] at b1
      obtain ⟨p1, p2, p3, p4⟩ := plH_ok h.P9 e
      have hT2 : cOr M2 0 0 on1 (ordA A) (leaA A) (2 ^ aP A) := fun k k1 k2 k3 => by
        rw [(b2 (30, 0) (by simp)).2, (b2 (31, 0) (by simp)).1, (b2 (32, 0) (by simp)).1, (b2 (33, 0) (by simp)).1]
        exact hT k k1 k2 k3
      have q := (hT2 hp p1 p2 (hAN_0 hp)).2.2 (fun z => p4 z) p3
      have b1' : fX2_planHeap [.inr (.inr (2, 0)), .inl (iZ (i))] M = some (some (.inl (iZ ((hp : Int)))), M2) := b1
      obtain ⟨⟨o1, o2, o3⟩, _, _, o6, _⟩ := leaA_ok (A := A) (h := hp) (fun z => p4 z) p3
      have sf := x_isSafe hA z2 o2 p2 (ndn_and.mpr o3) o6
      have ef : fuR A (n + 1) i = @ite _ (gds A hp (leaA A hp).2.1 (leaA A hp).2.2) (Classical.propDecidable _) (fuR A n (i + 1)) (i : Int) := by
        show (match plH A i with | none => -1 | some h => @ite _ (gds A h (leaA A h).2.1 (leaA A h).2.2) (Classical.propDecidable _) (fuR A n (i + 1)) (i : Int)) = _
        rw [e]
      rw [ef]
      by_cases y : gds A hp (leaA A hp).2.1 (leaA A hp).2.2
      · rw [if_pos y]
        rw [bP_t y] at sf
        obtain ⟨M3, r1, r2⟩ := c_fu hA n (i + 1) M2 (by omega) z2 hT2
        refine ⟨M3, ?_, r2⟩
        rw [← r1, nS]
        obtain ⟨q1, q2⟩ := q
        clear y ef r1 hT hT2 e o2 o3 o6
        generalize (leaA A hp).2.1 = v1 at *
        generalize (leaA A hp).2.2 = v2 at *
        rw [xfix_unf, sX11_firstUnsafe_2]
        simp (disch := omega) only [xk_none, xk_inl, xk_inr, xk_ite, xri_v, xrl_v, xrv_v, xb_z0, xb_z1, xb_b2, if_true, if_false, ite_true, ite_false, iZ_lit, iZ_m1, iZ_m99, iZ_m8, iZ_add, iZ_sub, iZ_mul, iZ_neg, nz0, nzi, iZ_lt, iZ_le, iZ_inj, b2_z, b2_o, ite_bPz, ite_bPo, xb_bP, iZ_xin, if_pos, ite_self, ↓reduceIte, Int.reduceAdd, Int.reduceSub, Int.reduceMul, Int.reduceNeg, Int.reduceLT, Int.reduceLE, if_neg, ↓xri_some b1', iZ_clampN, q1, q2, ↓xri_some sf]
      · rw [if_neg y]
        rw [bP_f y] at sf
        refine ⟨M2, ?_, z2⟩
        obtain ⟨q1, q2⟩ := q
        clear y ef hT hT2 e o2 o3 o6
        generalize (leaA A hp).2.1 = v1 at *
        generalize (leaA A hp).2.2 = v2 at *
        rw [xfix_unf, sX11_firstUnsafe_2]
        simp (disch := omega) only [xk_none, xk_inl, xk_inr, xk_ite, xri_v, xrl_v, xrv_v, xb_z0, xb_z1, xb_b2, if_true, if_false, ite_true, ite_false, iZ_lit, iZ_m1, iZ_m99, iZ_m8, iZ_add, iZ_sub, iZ_mul, iZ_neg, nz0, nzi, iZ_lt, iZ_le, iZ_inj, b2_z, b2_o, ite_bPz, ite_bPo, xb_bP, iZ_xin, if_pos, ite_self, ↓reduceIte, Int.reduceAdd, Int.reduceSub, Int.reduceMul, Int.reduceNeg, Int.reduceLT, Int.reduceLE, if_neg, ↓xri_some b1', iZ_clampN, q1, q2, ↓xri_some sf]
theorem c_safe (hA : aOk A) (hF : aFl A) (h : cZ M A S) {w : Int} (hw : r32 w) : cQ A S (fX11_safe [.inr (.inr (11, 0)), .inl (iZ (w))] M) (.inr (.inl (lZ (sSafe A w)))) := by
  have hP := pow9 h.P9
  have lm : (-1 : Int64) = lZ (-1) := lZ_m1
  unfold r32 at hw
  by_cases c : w = 0 ∨ w = 1
  · obtain ⟨M1, a1, a2, a3⟩ := x_freshPrices hA hF h
    obtain ⟨M2, b1, b2, b3, b4⟩ := x_fill (k := 1) hA a2.f0 (oHy_s hA) a2.J a2.W1 (sbr5 A) a2.Pr a3
    have z2 : cZ M2 A S := a2.sm b2 (by
      rintro r j ((e | e | e | e) | ⟨e, e2⟩) <;> subst e <;> rfl)
    have ow := x_ofWhole (k := 1) (what := w) z2.f0 h.P9 (by omega) b4 (by unfold r32; omega) (fun k k1 k2 => by
      have := leaT_b (one := on1) (ok := ok1) (gw := gds A) (cst := cstA A) (fun heap w hw => cstA_b hA heap hw) (k + 1) k k1 (by omega)
      exact ⟨this.1, by have := this.2; omega⟩)
    refine ⟨M2, ?_, z2⟩
    have key : (if w = 0 then (if aP A = 0 then 0 else ordT on1 ok1 (ptS A) (2 ^ aP A - 1 + 1) (2 ^ aP A - 1)) else (if aP A = 0 then -1 else (leaT on1 ok1 (gds A) (cstA A) (2 ^ aP A - 1 + 1) (2 ^ aP A - 1)).1)) = sSafe A w := by
      unfold sSafe
      rcases c with e | e
      · rw [if_pos e, if_pos e]; rfl
      · subst e
        rw [if_neg (show ¬ (1 : Int) = 0 by omega), if_neg (show ¬ (1 : Int) = 0 by omega), if_pos rfl]; rfl
    rw [key] at ow
    clear key b4 a3
    generalize sSafe A w = v at *
    have zz : ((0 : Nat) : Int) = 0 := rfl
    rw [zz] at b1
    have t9 : fX11_safe [.inr (.inr (11, 0)), .inl (iZ (w))] M = xfix gX11_safe (9, [some (.inr (.inr (11, 0))), some (.inl (iZ (w)))], [], M) := by
      rcases c with e | e <;> subst e
      · show xfix gX11_safe (0, [some (.inr (.inr (11, 0))), some (.inl (iZ ((0 : Int))))], [], M) = _; rw [xfix_unf, sX11_safe_0]
        simp (disch := omega) only [xk_none, xk_inl, xk_inr, xk_ite, xri_v, xrl_v, xrv_v, xb_z0, xb_z1, xb_b2, if_true, if_false, ite_true, ite_false, iZ_lit, iZ_m1, iZ_m99, iZ_m8, iZ_add, iZ_sub, iZ_mul, iZ_neg, nz0, nzi, iZ_lt, iZ_le, iZ_inj, b2_z, b2_o, ite_bPz, ite_bPo, xb_bP, iZ_xin, if_pos, ite_self, ↓reduceIte, Int.reduceAdd, Int.reduceSub, Int.reduceMul, Int.reduceNeg, Int.reduceLT, Int.reduceLE, if_neg]
      · show xfix gX11_safe (0, [some (.inr (.inr (11, 0))), some (.inl (iZ ((1 : Int))))], [], M) = _; rw [xfix_unf, sX11_safe_0]
        simp (disch := omega) only [xk_none, xk_inl, xk_inr, xk_ite, xri_v, xrl_v, xrv_v, xb_z0, xb_z1, xb_b2, if_true, if_false, ite_true, ite_false, iZ_lit, iZ_m1, iZ_m99, iZ_m8, iZ_add, iZ_sub, iZ_mul, iZ_neg, nz0, nzi, iZ_lt, iZ_le, iZ_inj, b2_z, b2_o, ite_bPz, ite_bPo, xb_bP, iZ_xin, if_pos, ite_self, ↓reduceIte, Int.reduceAdd, Int.reduceSub, Int.reduceMul, Int.reduceNeg, Int.reduceLT, Int.reduceLE, if_neg]
    rw [t9]
    rw [xfix_unf, sX11_safe_9]
    simp (disch := omega) only [xk_none, xk_inl, xk_inr, xk_ite, xri_v, xrl_v, xrv_v, xb_z0, xb_z1, xb_b2, if_true, if_false, ite_true, ite_false, iZ_lit, iZ_m1, iZ_m99, iZ_m8, iZ_add, iZ_sub, iZ_mul, iZ_neg, nz0, nzi, iZ_lt, iZ_le, iZ_inj, b2_z, b2_o, ite_bPz, ite_bPo, xb_bP, iZ_xin, if_pos, ite_self, ↓reduceIte, Int.reduceAdd, Int.reduceSub, Int.reduceMul, Int.reduceNeg, Int.reduceLT, Int.reduceLE, if_neg, ↓xrv_some a1, ↓xrv_some b1, ↓xrl_some ow]
  · obtain ⟨M1, a1, a2, a3⟩ := x_freshOrders hA hF h
    unfold sSafe
    rw [if_neg (by omega), if_neg (by omega)]
    by_cases e2 : w = 2
    · rw [if_pos e2]
      obtain ⟨M2, r1, r2⟩ := c_fu hA 9 0 M1 (by omega) a2 a3
      refine ⟨M2, ?_, r2⟩
      have fb := fuR_b A 9 0
      have iL := iL_toInt64 (z := fuR A 9 0) (by omega) (by omega)
      have fu : fX11_firstUnsafe [.inr (.inr (11, 0))] M1 = some (some (.inl (iZ (fuR A 9 0))), M2) := by
        rw [← r1]
        have zz : ((0 : Nat) : Int) = 0 := rfl
        rw [zz]
        show xfix gX11_firstUnsafe (0, [some (.inr (.inr (11, 0))), none, none], [], M1) = _; rw [xfix_unf, sX11_firstUnsafe_0]
        simp (disch := omega) only [xk_none, xk_inl, xk_inr, xk_ite, xri_v, xrl_v, xrv_v, xb_z0, xb_z1, xb_b2, if_true, if_false, ite_true, ite_false, iZ_lit, iZ_m1, iZ_m99, iZ_m8, iZ_add, iZ_sub, iZ_mul, iZ_neg, nz0, nzi, iZ_lt, iZ_le, iZ_inj, b2_z, b2_o, ite_bPz, ite_bPo, xb_bP, iZ_xin, if_pos, ite_self, ↓reduceIte, Int.reduceAdd, Int.reduceSub, Int.reduceMul, Int.reduceNeg, Int.reduceLT, Int.reduceLE, if_neg]
      clear r1 a3
      generalize fuR A 9 0 = v at *
      subst e2
      show xfix gX11_safe (0, [some (.inr (.inr (11, 0))), some (.inl (iZ ((2 : Int))))], [], M) = _; rw [xfix_unf, sX11_safe_0]
      simp (disch := omega) only [xk_none, xk_inl, xk_inr, xk_ite, xri_v, xrl_v, xrv_v, xb_z0, xb_z1, xb_b2, if_true, if_false, ite_true, ite_false, iZ_lit, iZ_m1, iZ_m99, iZ_m8, iZ_add, iZ_sub, iZ_mul, iZ_neg, nz0, nzi, iZ_lt, iZ_le, iZ_inj, b2_z, b2_o, ite_bPz, ite_bPo, xb_bP, iZ_xin, if_pos, ite_self, ↓reduceIte, Int.reduceAdd, Int.reduceSub, Int.reduceMul, Int.reduceNeg, Int.reduceLT, Int.reduceLE, if_neg, ↓xrv_some a1, ↓xri_some fu, iL]
    · rw [if_neg e2]
      refine ⟨M1, ?_, a2⟩
      clear a3
      show xfix gX11_safe (0, [some (.inr (.inr (11, 0))), some (.inl (iZ (w)))], [], M) = _; rw [xfix_unf, sX11_safe_0]
      simp (disch := omega) only [xk_none, xk_inl, xk_inr, xk_ite, xri_v, xrl_v, xrv_v, xb_z0, xb_z1, xb_b2, if_true, if_false, ite_true, ite_false, iZ_lit, iZ_m1, iZ_m99, iZ_m8, iZ_add, iZ_sub, iZ_mul, iZ_neg, nz0, nzi, iZ_lt, iZ_le, iZ_inj, b2_z, b2_o, ite_bPz, ite_bPo, xb_bP, iZ_xin, if_pos, ite_self, ↓reduceIte, Int.reduceAdd, Int.reduceSub, Int.reduceMul, Int.reduceNeg, Int.reduceLT, Int.reduceLE, if_neg, ↓xrv_some a1, lm]
end
