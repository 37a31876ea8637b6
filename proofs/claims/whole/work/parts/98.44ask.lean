/-! the class: its questions -/
section
variable {M : xM} {A : dA} {S : dS}
theorem cZ.q (h : cZ M A S) {o : Option (Option xV × xM)} {r : xV} (e : o = some (some r, M)) : cQ A S o r := ⟨M, e, h⟩
theorem k5p (h : cZ M A S) {p : Int} (hp : r32 p) : fX5_isPart [.inr (.inr (5, 0)), .inl (iZ (p))] M = some (some (.inl (bP (vP A p))), M) := x_isPart h.f0 h.P9 hp
theorem k5h (h : cZ M A S) {a : Int} (ha : r32 a) : fX5_isHeap [.inr (.inr (5, 0)), .inl (iZ (a))] M = some (some (.inl (bP (vH A a))), M) := x_isHeap h.f0 h.P9 ha
theorem k5f (h : cZ M A S) {a b : Int} (ha : r32 a) (hb : r32 b) : fX5_isHalf [.inr (.inr (5, 0)), .inl (iZ (a)), .inl (iZ (b))] M = some (some (.inl (bP (vF A a b))), M) := x_isHalf h.f0 h.P9 ha hb
theorem bwy_bar {p w : Nat} (hp : p < aP A) (hw : w < 6) : bwy (aP A) (barS A) (2 ^ p) w = barS A (6 * p + w) := Nat.eq_of_testBit_eq fun i => by
  have e : (bwy (aP A) (barS A) (2 ^ p) w).testBit i = true ↔ (barS A (6 * p + w)).testBit i = true := by
    unfold bwy
    rw [msk_bit]
    constructor
    · rintro ⟨_, q, q1, q2, q3⟩
      rw [Nat.testBit_two_pow] at q2
      have : p = q := by simpa using q2
      rw [this]; exact q3
    · intro z
      exact ⟨((barS_bit hw).mp z).1, p, hp, by rw [Nat.testBit_two_pow]; simp, z⟩
  cases x : (bwy (aP A) (barS A) (2 ^ p) w).testBit i <;> cases y : (barS A (6 * p + w)).testBit i <;> simp_all
theorem c_bars (h : cZ M A S) {p w : Int} (hp : r32 p) (hw : r32 w) : cQ A S (fX11_bars [.inr (.inr (11, 0)), .inl (iZ (p)), .inl (iZ (w))] M) (.inl (iZ (sBars A p w))) := by
  have k1 := k5p h hp
  have k2 := x_isWay (M := M) hw
  refine h.q ?_
  unfold sBars
  by_cases e1 : vP A p
  · rw [bP_t e1] at k1
    by_cases e2 : vW w
    · rw [bP_t e2] at k2
      rw [vI_t ⟨e1, e2⟩]
      obtain ⟨p, rfl, p1⟩ := e1.n
      obtain ⟨w, rfl, w1⟩ := e2.n
      have enp : ((p : Int)).toNat = p := by omega
      have enw : ((w : Int)).toNat = w := by omega
      rw [enp, enw]
      have hP := h.P9
      have b := x_barring (half := 2 ^ p) h.W h.P9 (Nat.pow_lt_pow_right (by omega) p1) w1
      rw [bwy_bar p1 w1] at b
      have bl := bar5 A (6 * p + w)
      have pl : 2 ^ p < 512 := (pow9 (P := p) (by omega)).2 |> fun z => by
        have : 2 ^ p < 2 ^ 9 := Nat.pow_lt_pow_right (by omega) (by omega)
        exact this
      generalize barS A (6 * p + w) = bb at *
      show xfix gX11_bars (0, [some (.inr (.inr (11, 0))), some (.inl (iZ (p))), some (.inl (iZ (w)))], [], M) = _; rw [xfix_unf, sX11_bars_0]
      simp (disch := omega) only [xk_none, xk_inl, xk_inr, xk_ite, xri_v, xrl_v, xrv_v, xb_z0, xb_z1, xb_b2, if_true, if_false, ite_true, ite_false, iZ_lit, iZ_m1, iZ_m99, iZ_m8, iZ_add, iZ_sub, iZ_mul, iZ_neg, nz0, nzi, iZ_lt, iZ_le, iZ_inj, b2_z, b2_o, ite_bPz, ite_bPo, xb_bP, iZ_xin, if_pos, ite_self, ↓reduceIte, Int.reduceAdd, Int.reduceSub, Int.reduceMul, Int.reduceNeg, Int.reduceLT, Int.reduceLE, if_neg, ↓xri_some k1, ↓xri_some k2, iZ_one, ↓xri_some b]
    · rw [bP_f e2] at k2
      rw [vI_f (fun z => e2 z.2)]
      show xfix gX11_bars (0, [some (.inr (.inr (11, 0))), some (.inl (iZ (p))), some (.inl (iZ (w)))], [], M) = _; rw [xfix_unf, sX11_bars_0]
      simp (disch := omega) only [xk_none, xk_inl, xk_inr, xk_ite, xri_v, xrl_v, xrv_v, xb_z0, xb_z1, xb_b2, if_true, if_false, ite_true, ite_false, iZ_lit, iZ_m1, iZ_m99, iZ_m8, iZ_add, iZ_sub, iZ_mul, iZ_neg, nz0, nzi, iZ_lt, iZ_le, iZ_inj, b2_z, b2_o, ite_bPz, ite_bPo, xb_bP, iZ_xin, if_pos, ite_self, ↓reduceIte, Int.reduceAdd, Int.reduceSub, Int.reduceMul, Int.reduceNeg, Int.reduceLT, Int.reduceLE, if_neg, ↓xri_some k1, ↓xri_some k2]
  · rw [bP_f e1] at k1
    rw [vI_f (fun z => e1 z.1)]
    show xfix gX11_bars (0, [some (.inr (.inr (11, 0))), some (.inl (iZ (p))), some (.inl (iZ (w)))], [], M) = _; rw [xfix_unf, sX11_bars_0]
    simp (disch := omega) only [xk_none, xk_inl, xk_inr, xk_ite, xri_v, xrl_v, xrv_v, xb_z0, xb_z1, xb_b2, if_true, if_false, ite_true, ite_false, iZ_lit, iZ_m1, iZ_m99, iZ_m8, iZ_add, iZ_sub, iZ_mul, iZ_neg, nz0, nzi, iZ_lt, iZ_le, iZ_inj, b2_z, b2_o, ite_bPz, ite_bPo, xb_bP, iZ_xin, if_pos, ite_self, ↓reduceIte, Int.reduceAdd, Int.reduceSub, Int.reduceMul, Int.reduceNeg, Int.reduceLT, Int.reduceLE, if_neg, ↓xri_some k1]
theorem k_good (hA : aOk A) (h : cZ M A S) {a b w : Nat} (x2 : b < a) (x3 : a < 2 ^ aP A) (x4 : ndn b a = 0) (hw : w < 6) : fX10_isGood [.inr (.inr (10, 0)), .inl (iZ (a)), .inl (iZ (b)), .inl (iZ (w))] M = some (some (.inl (bP (gdw A (barS A) a b w))), M) := by
  have hP := pow9 h.P9
  exact x_isGood hA h.J h.W (bar5 A) (by omega) (by omega) x4 hw
theorem c_cut (hA : aOk A) (h : cZ M A S) {a b w : Int} (ha : r32 a) (hb : r32 b) (hw : r32 w) : cQ A S (fX11_cut [.inr (.inr (11, 0)), .inl (iZ (a)), .inl (iZ (b)), .inl (iZ (w))] M) (.inl (iZ (sCut A a b w))) := by
  have k1 := k5f h ha hb
  have k2 := x_isWay (M := M) hw
  refine h.q ?_
  unfold sCut
  by_cases e1 : vF A a b
  · rw [bP_t e1] at k1
    by_cases e2 : vW w
    · rw [bP_t e2] at k2
      rw [vI_t ⟨e1, e2⟩]
      have e1' := e1
      obtain ⟨a, b, rfl, rfl, x1, x2, x3, x4⟩ := e1'
      obtain ⟨w, rfl, w1⟩ := e2.n
      have ena : ((a : Int)).toNat = a := by omega
      have enb : ((b : Int)).toNat = b := by omega
      have enw : ((w : Int)).toNat = w := by omega
      rw [ena, enb, enw]
      have g := k_good hA h x2 x3 x4 w1
      by_cases y : gdw A (barS A) a b w
      · rw [bP_t y] at g
        rw [ind_t y]
        show xfix gX11_cut (0, [some (.inr (.inr (11, 0))), some (.inl (iZ (a))), some (.inl (iZ (b))), some (.inl (iZ (w)))], [], M) = _; rw [xfix_unf, sX11_cut_0]
        simp (disch := omega) only [xk_none, xk_inl, xk_inr, xk_ite, xri_v, xrl_v, xrv_v, xb_z0, xb_z1, xb_b2, if_true, if_false, ite_true, ite_false, iZ_lit, iZ_m1, iZ_m99, iZ_m8, iZ_add, iZ_sub, iZ_mul, iZ_neg, nz0, nzi, iZ_lt, iZ_le, iZ_inj, b2_z, b2_o, ite_bPz, ite_bPo, xb_bP, iZ_xin, if_pos, ite_self, ↓reduceIte, Int.reduceAdd, Int.reduceSub, Int.reduceMul, Int.reduceNeg, Int.reduceLT, Int.reduceLE, if_neg, ↓xri_some k1, ↓xri_some k2, ↓xri_some g]
      · rw [bP_f y] at g
        rw [ind_f y]
        show xfix gX11_cut (0, [some (.inr (.inr (11, 0))), some (.inl (iZ (a))), some (.inl (iZ (b))), some (.inl (iZ (w)))], [], M) = _; rw [xfix_unf, sX11_cut_0]
        simp (disch := omega) only [xk_none, xk_inl, xk_inr, xk_ite, xri_v, xrl_v, xrv_v, xb_z0, xb_z1, xb_b2, if_true, if_false, ite_true, ite_false, iZ_lit, iZ_m1, iZ_m99, iZ_m8, iZ_add, iZ_sub, iZ_mul, iZ_neg, nz0, nzi, iZ_lt, iZ_le, iZ_inj, b2_z, b2_o, ite_bPz, ite_bPo, xb_bP, iZ_xin, if_pos, ite_self, ↓reduceIte, Int.reduceAdd, Int.reduceSub, Int.reduceMul, Int.reduceNeg, Int.reduceLT, Int.reduceLE, if_neg, ↓xri_some k1, ↓xri_some k2, ↓xri_some g]
    · rw [bP_f e2] at k2
      rw [vI_f (fun z => e2 z.2)]
      show xfix gX11_cut (0, [some (.inr (.inr (11, 0))), some (.inl (iZ (a))), some (.inl (iZ (b))), some (.inl (iZ (w)))], [], M) = _; rw [xfix_unf, sX11_cut_0]
      simp (disch := omega) only [xk_none, xk_inl, xk_inr, xk_ite, xri_v, xrl_v, xrv_v, xb_z0, xb_z1, xb_b2, if_true, if_false, ite_true, ite_false, iZ_lit, iZ_m1, iZ_m99, iZ_m8, iZ_add, iZ_sub, iZ_mul, iZ_neg, nz0, nzi, iZ_lt, iZ_le, iZ_inj, b2_z, b2_o, ite_bPz, ite_bPo, xb_bP, iZ_xin, if_pos, ite_self, ↓reduceIte, Int.reduceAdd, Int.reduceSub, Int.reduceMul, Int.reduceNeg, Int.reduceLT, Int.reduceLE, if_neg, ↓xri_some k1, ↓xri_some k2]
  · rw [bP_f e1] at k1
    rw [vI_f (fun z => e1 z.1)]
    show xfix gX11_cut (0, [some (.inr (.inr (11, 0))), some (.inl (iZ (a))), some (.inl (iZ (b))), some (.inl (iZ (w)))], [], M) = _; rw [xfix_unf, sX11_cut_0]
    simp (disch := omega) only [xk_none, xk_inl, xk_inr, xk_ite, xri_v, xrl_v, xrv_v, xb_z0, xb_z1, xb_b2, if_true, if_false, ite_true, ite_false, iZ_lit, iZ_m1, iZ_m99, iZ_m8, iZ_add, iZ_sub, iZ_mul, iZ_neg, nz0, nzi, iZ_lt, iZ_le, iZ_inj, b2_z, b2_o, ite_bPz, ite_bPo, xb_bP, iZ_xin, if_pos, ite_self, ↓reduceIte, Int.reduceAdd, Int.reduceSub, Int.reduceMul, Int.reduceNeg, Int.reduceLT, Int.reduceLE, if_neg, ↓xri_some k1]
theorem x_isSafe (hA : aOk A) (h : cZ M A S) {a b w : Nat} (x2 : b < a) (x3 : a < 2 ^ aP A) (x4 : ndn b a = 0) (hw : w < 6) : fX11_isSafe [.inr (.inr (11, 0)), .inl (iZ (a)), .inl (iZ (b)), .inl (iZ (w))] M = some (some (.inl (bP (gds A a b w))), M) := by
  have g := k_good hA h x2 x3 x4 hw
  have hP := pow9 h.P9
  have g2 := x_isGood hA h.J h.W1 (sbr5 A) (show a < 512 by omega) (show b < 2 ^ aP A by omega) x4 hw
  have key : gds A a b w ↔ gdw A (barS A) a b w ∧ gdw A (sbrS A) a b w := ⟨fun z => ⟨⟨z.1.1, z.2⟩, z.1.2, z.2⟩, fun z => ⟨⟨z.1.1, z.2.1⟩, z.1.2⟩⟩
  rw [bP_c key]
  by_cases y : gdw A (barS A) a b w
  · rw [bP_t y] at g
    by_cases y2 : gdw A (sbrS A) a b w
    · rw [bP_t y2] at g2
      rw [bP_t ⟨y, y2⟩]
      show xfix gX11_isSafe (0, [some (.inr (.inr (11, 0))), some (.inl (iZ (a))), some (.inl (iZ (b))), some (.inl (iZ (w)))], [], M) = _; rw [xfix_unf, sX11_isSafe_0]
      simp (disch := omega) only [xk_none, xk_inl, xk_inr, xk_ite, xri_v, xrl_v, xrv_v, xb_z0, xb_z1, xb_b2, if_true, if_false, ite_true, ite_false, iZ_lit, iZ_m1, iZ_m99, iZ_m8, iZ_add, iZ_sub, iZ_mul, iZ_neg, nz0, nzi, iZ_lt, iZ_le, iZ_inj, b2_z, b2_o, ite_bPz, ite_bPo, xb_bP, iZ_xin, if_pos, ite_self, ↓reduceIte, Int.reduceAdd, Int.reduceSub, Int.reduceMul, Int.reduceNeg, Int.reduceLT, Int.reduceLE, if_neg, ↓xri_some g, ↓xri_some g2]
    · rw [bP_f y2] at g2
      rw [bP_f (fun z => y2 z.2)]
      show xfix gX11_isSafe (0, [some (.inr (.inr (11, 0))), some (.inl (iZ (a))), some (.inl (iZ (b))), some (.inl (iZ (w)))], [], M) = _; rw [xfix_unf, sX11_isSafe_0]
      simp (disch := omega) only [xk_none, xk_inl, xk_inr, xk_ite, xri_v, xrl_v, xrv_v, xb_z0, xb_z1, xb_b2, if_true, if_false, ite_true, ite_false, iZ_lit, iZ_m1, iZ_m99, iZ_m8, iZ_add, iZ_sub, iZ_mul, iZ_neg, nz0, nzi, iZ_lt, iZ_le, iZ_inj, b2_z, b2_o, ite_bPz, ite_bPo, xb_bP, iZ_xin, if_pos, ite_self, ↓reduceIte, Int.reduceAdd, Int.reduceSub, Int.reduceMul, Int.reduceNeg, Int.reduceLT, Int.reduceLE, if_neg, ↓xri_some g, ↓xri_some g2]
  · rw [bP_f y] at g
    rw [bP_f (fun z => y z.1)]
    show xfix gX11_isSafe (0, [some (.inr (.inr (11, 0))), some (.inl (iZ (a))), some (.inl (iZ (b))), some (.inl (iZ (w)))], [], M) = _; rw [xfix_unf, sX11_isSafe_0]
    simp (disch := omega) only [xk_none, xk_inl, xk_inr, xk_ite, xri_v, xrl_v, xrv_v, xb_z0, xb_z1, xb_b2, if_true, if_false, ite_true, ite_false, iZ_lit, iZ_m1, iZ_m99, iZ_m8, iZ_add, iZ_sub, iZ_mul, iZ_neg, nz0, nzi, iZ_lt, iZ_le, iZ_inj, b2_z, b2_o, ite_bPz, ite_bPo, xb_bP, iZ_xin, if_pos, ite_self, ↓reduceIte, Int.reduceAdd, Int.reduceSub, Int.reduceMul, Int.reduceNeg, Int.reduceLT, Int.reduceLE, if_neg, ↓xri_some g]
theorem c_safeCut (hA : aOk A) (h : cZ M A S) {a b w : Int} (ha : r32 a) (hb : r32 b) (hw : r32 w) : cQ A S (fX11_safeCut [.inr (.inr (11, 0)), .inl (iZ (a)), .inl (iZ (b)), .inl (iZ (w))] M) (.inl (iZ (sSafeCut A a b w))) := by
  have k1 := k5f h ha hb
  have k2 := x_isWay (M := M) hw
  refine h.q ?_
  unfold sSafeCut
  by_cases e1 : vF A a b
  · rw [bP_t e1] at k1
    by_cases e2 : vW w
    · rw [bP_t e2] at k2
      rw [vI_t ⟨e1, e2⟩]
      have e1' := e1
      obtain ⟨a, b, rfl, rfl, x1, x2, x3, x4⟩ := e1'
      obtain ⟨w, rfl, w1⟩ := e2.n
      have ena : ((a : Int)).toNat = a := by omega
      have enb : ((b : Int)).toNat = b := by omega
      have enw : ((w : Int)).toNat = w := by omega
      rw [ena, enb, enw]
      have g := x_isSafe hA h x2 x3 x4 w1
      by_cases y : gds A a b w
      · rw [bP_t y] at g
        rw [ind_t y]
        show xfix gX11_safeCut (0, [some (.inr (.inr (11, 0))), some (.inl (iZ (a))), some (.inl (iZ (b))), some (.inl (iZ (w)))], [], M) = _; rw [xfix_unf, sX11_safeCut_0]
        simp (disch := omega) only [xk_none, xk_inl, xk_inr, xk_ite, xri_v, xrl_v, xrv_v, xb_z0, xb_z1, xb_b2, if_true, if_false, ite_true, ite_false, iZ_lit, iZ_m1, iZ_m99, iZ_m8, iZ_add, iZ_sub, iZ_mul, iZ_neg, nz0, nzi, iZ_lt, iZ_le, iZ_inj, b2_z, b2_o, ite_bPz, ite_bPo, xb_bP, iZ_xin, if_pos, ite_self, ↓reduceIte, Int.reduceAdd, Int.reduceSub, Int.reduceMul, Int.reduceNeg, Int.reduceLT, Int.reduceLE, if_neg, ↓xri_some k1, ↓xri_some k2, ↓xri_some g]
      · rw [bP_f y] at g
        rw [ind_f y]
        show xfix gX11_safeCut (0, [some (.inr (.inr (11, 0))), some (.inl (iZ (a))), some (.inl (iZ (b))), some (.inl (iZ (w)))], [], M) = _; rw [xfix_unf, sX11_safeCut_0]
        simp (disch := omega) only [xk_none, xk_inl, xk_inr, xk_ite, xri_v, xrl_v, xrv_v, xb_z0, xb_z1, xb_b2, if_true, if_false, ite_true, ite_false, iZ_lit, iZ_m1, iZ_m99, iZ_m8, iZ_add, iZ_sub, iZ_mul, iZ_neg, nz0, nzi, iZ_lt, iZ_le, iZ_inj, b2_z, b2_o, ite_bPz, ite_bPo, xb_bP, iZ_xin, if_pos, ite_self, ↓reduceIte, Int.reduceAdd, Int.reduceSub, Int.reduceMul, Int.reduceNeg, Int.reduceLT, Int.reduceLE, if_neg, ↓xri_some k1, ↓xri_some k2, ↓xri_some g]
    · rw [bP_f e2] at k2
      rw [vI_f (fun z => e2 z.2)]
      show xfix gX11_safeCut (0, [some (.inr (.inr (11, 0))), some (.inl (iZ (a))), some (.inl (iZ (b))), some (.inl (iZ (w)))], [], M) = _; rw [xfix_unf, sX11_safeCut_0]
      simp (disch := omega) only [xk_none, xk_inl, xk_inr, xk_ite, xri_v, xrl_v, xrv_v, xb_z0, xb_z1, xb_b2, if_true, if_false, ite_true, ite_false, iZ_lit, iZ_m1, iZ_m99, iZ_m8, iZ_add, iZ_sub, iZ_mul, iZ_neg, nz0, nzi, iZ_lt, iZ_le, iZ_inj, b2_z, b2_o, ite_bPz, ite_bPo, xb_bP, iZ_xin, if_pos, ite_self, ↓reduceIte, Int.reduceAdd, Int.reduceSub, Int.reduceMul, Int.reduceNeg, Int.reduceLT, Int.reduceLE, if_neg, ↓xri_some k1, ↓xri_some k2]
  · rw [bP_f e1] at k1
    rw [vI_f (fun z => e1 z.1)]
    show xfix gX11_safeCut (0, [some (.inr (.inr (11, 0))), some (.inl (iZ (a))), some (.inl (iZ (b))), some (.inl (iZ (w)))], [], M) = _; rw [xfix_unf, sX11_safeCut_0]
    simp (disch := omega) only [xk_none, xk_inl, xk_inr, xk_ite, xri_v, xrl_v, xrv_v, xb_z0, xb_z1, xb_b2, if_true, if_false, ite_true, ite_false, iZ_lit, iZ_m1, iZ_m99, iZ_m8, iZ_add, iZ_sub, iZ_mul, iZ_neg, nz0, nzi, iZ_lt, iZ_le, iZ_inj, b2_z, b2_o, ite_bPz, ite_bPo, xb_bP, iZ_xin, if_pos, ite_self, ↓reduceIte, Int.reduceAdd, Int.reduceSub, Int.reduceMul, Int.reduceNeg, Int.reduceLT, Int.reduceLE, if_neg, ↓xri_some k1]
theorem c_cell (hA : aOk A) (h : cZ M A S) {x y z : Int} (hx : r32 x) (hy : r32 y) (hz : r32 z) : cQ A S (fX11_cell [.inr (.inr (11, 0)), .inl (iZ (x)), .inl (iZ (y)), .inl (iZ (z))] M) (.inl (iZ (sCell A x y z))) := by
  have k1 := x_partAt' h.B hA hx hy hz
  refine h.q ?_
  unfold sCell
  generalize aat A x y z = v at *
  show xfix gX11_cell (0, [some (.inr (.inr (11, 0))), some (.inl (iZ (x))), some (.inl (iZ (y))), some (.inl (iZ (z)))], [], M) = _; rw [xfix_unf, sX11_cell_0]
  simp (disch := omega) only [xk_none, xk_inl, xk_inr, xk_ite, xri_v, xrl_v, xrv_v, xb_z0, xb_z1, xb_b2, if_true, if_false, ite_true, ite_false, iZ_lit, iZ_m1, iZ_m99, iZ_m8, iZ_add, iZ_sub, iZ_mul, iZ_neg, nz0, nzi, iZ_lt, iZ_le, iZ_inj, b2_z, b2_o, ite_bPz, ite_bPo, xb_bP, iZ_xin, if_pos, ite_self, ↓reduceIte, Int.reduceAdd, Int.reduceSub, Int.reduceMul, Int.reduceNeg, Int.reduceLT, Int.reduceLE, if_neg, ↓xri_some k1]
theorem c_fault (h : cZ M A S) {w : Int} (hw : r32 w) : cQ A S (fX11_fault [.inr (.inr (11, 0)), .inl (iZ (w))] M) (.inl (iZ (sFault S w))) := by
  obtain ⟨_, f2, f3⟩ := h.1.2.2.2.1
  refine h.q ?_
  unfold sFault
  unfold r32 at hw
  show xfix gX11_fault (0, [some (.inr (.inr (11, 0))), some (.inl (iZ (w)))], [], M) = _; rw [xfix_unf, sX11_fault_0]
  by_cases e0 : w = 0
  · rw [if_pos e0]
    simp (disch := omega) only [xk_none, xk_inl, xk_inr, xk_ite, xri_v, xrl_v, xrv_v, xb_z0, xb_z1, xb_b2, if_true, if_false, ite_true, ite_false, iZ_lit, iZ_m1, iZ_m99, iZ_m8, iZ_add, iZ_sub, iZ_mul, iZ_neg, nz0, nzi, iZ_lt, iZ_le, iZ_inj, b2_z, b2_o, ite_bPz, ite_bPo, xb_bP, iZ_xin, if_pos, ite_self, ↓reduceIte, Int.reduceAdd, Int.reduceSub, Int.reduceMul, Int.reduceNeg, Int.reduceLT, Int.reduceLE, if_neg, f2]
  · rw [if_neg e0]
    by_cases e1 : w = 1
    · rw [if_pos e1]
      simp (disch := omega) only [xk_none, xk_inl, xk_inr, xk_ite, xri_v, xrl_v, xrv_v, xb_z0, xb_z1, xb_b2, if_true, if_false, ite_true, ite_false, iZ_lit, iZ_m1, iZ_m99, iZ_m8, iZ_add, iZ_sub, iZ_mul, iZ_neg, nz0, nzi, iZ_lt, iZ_le, iZ_inj, b2_z, b2_o, ite_bPz, ite_bPo, xb_bP, iZ_xin, if_pos, ite_self, ↓reduceIte, Int.reduceAdd, Int.reduceSub, Int.reduceMul, Int.reduceNeg, Int.reduceLT, Int.reduceLE, if_neg, f3]
    · rw [if_neg e1]
      simp (disch := omega) only [xk_none, xk_inl, xk_inr, xk_ite, xri_v, xrl_v, xrv_v, xb_z0, xb_z1, xb_b2, if_true, if_false, ite_true, ite_false, iZ_lit, iZ_m1, iZ_m99, iZ_m8, iZ_add, iZ_sub, iZ_mul, iZ_neg, nz0, nzi, iZ_lt, iZ_le, iZ_inj, b2_z, b2_o, ite_bPz, ite_bPo, xb_bP, iZ_xin, if_pos, ite_self, ↓reduceIte, Int.reduceAdd, Int.reduceSub, Int.reduceMul, Int.reduceNeg, Int.reduceLT, Int.reduceLE, if_neg]
theorem c_where (h : cZ M A S) {p : Int} (hp : r32 p) : cQ A S (fX11_where [.inr (.inr (11, 0)), .inl (iZ (p))] M) (.inl (iZ (sWhere A S p))) := by
  have k1 := k5p h hp
  refine h.q ?_
  unfold sWhere
  by_cases e1 : vP A p
  · rw [bP_t e1] at k1
    rw [vI_t e1]
    obtain ⟨p, rfl, p1⟩ := e1.n
    have enp : ((p : Int)).toNat = p := by omega
    rw [enp]
    have hP := h.P9
    have f := h.1.2.2.2.2.2.2.1.1 p (by omega)
    have g : gx A (sH S) p = sH S p := if_pos p1
    rw [g] at f
    show xfix gX11_where (0, [some (.inr (.inr (11, 0))), some (.inl (iZ (p)))], [], M) = _; rw [xfix_unf, sX11_where_0]
    simp (disch := omega) only [xk_none, xk_inl, xk_inr, xk_ite, xri_v, xrl_v, xrv_v, xb_z0, xb_z1, xb_b2, if_true, if_false, ite_true, ite_false, iZ_lit, iZ_m1, iZ_m99, iZ_m8, iZ_add, iZ_sub, iZ_mul, iZ_neg, nz0, nzi, iZ_lt, iZ_le, iZ_inj, b2_z, b2_o, ite_bPz, ite_bPo, xb_bP, iZ_xin, if_pos, ite_self, ↓reduceIte, Int.reduceAdd, Int.reduceSub, Int.reduceMul, Int.reduceNeg, Int.reduceLT, Int.reduceLE, if_neg, ↓xri_some k1, iZ_clampN, f]
  · rw [bP_f e1] at k1
    rw [vI_f e1]
    show xfix gX11_where (0, [some (.inr (.inr (11, 0))), some (.inl (iZ (p)))], [], M) = _; rw [xfix_unf, sX11_where_0]
    simp (disch := omega) only [xk_none, xk_inl, xk_inr, xk_ite, xri_v, xrl_v, xrv_v, xb_z0, xb_z1, xb_b2, if_true, if_false, ite_true, ite_false, iZ_lit, iZ_m1, iZ_m99, iZ_m8, iZ_add, iZ_sub, iZ_mul, iZ_neg, nz0, nzi, iZ_lt, iZ_le, iZ_inj, b2_z, b2_o, ite_bPz, ite_bPo, xb_bP, iZ_xin, if_pos, ite_self, ↓reduceIte, Int.reduceAdd, Int.reduceSub, Int.reduceMul, Int.reduceNeg, Int.reduceLT, Int.reduceLE, if_neg, ↓xri_some k1]
theorem c_judged (h : cZ M A S) {w : Int} (hw : r32 w) : cQ A S (fX11_judged [.inr (.inr (11, 0)), .inl (iZ (w))] M) (.inl (iZ (sJudged S w))) := by
  refine h.q ?_
  have key : fX4_answer [.inr (.inr (4, 0)), .inl (iZ (w))] M = some (some (.inl (iZ (sJudged S w))), M) := by
    unfold sJudged
    rcases h.1.2.2.2.2.2.2.2 with ⟨z1, z2⟩ | ⟨⟨z1, z2, z3⟩, f6, f7, f8, f9⟩
    · rw [if_pos z1]
      obtain ⟨x7, e7⟩ : ∃ x, xI M (4, 0) 7 = iZ x := ⟨(xI M (4, 0) 7).toInt, by unfold iZ; exact (Int32.ofInt_toInt _).symm⟩
      obtain ⟨x8, e8⟩ : ∃ x, xI M (4, 0) 8 = iZ x := ⟨(xI M (4, 0) 8).toInt, by unfold iZ; exact (Int32.ofInt_toInt _).symm⟩
      obtain ⟨x9, e9⟩ : ∃ x, xI M (4, 0) 9 = iZ x := ⟨(xI M (4, 0) 9).toInt, by unfold iZ; exact (Int32.ofInt_toInt _).symm⟩
      rw [x_answer hw (by unfold r32; omega) z2 e7 e8 e9, if_pos rfl]
    · rw [if_neg (by omega), x_answer hw (by unfold r32; omega) f6 f7 f8 f9, if_neg (by omega)]
  generalize sJudged S w = v at *
  show xfix gX11_judged (0, [some (.inr (.inr (11, 0))), some (.inl (iZ (w)))], [], M) = _; rw [xfix_unf, sX11_judged_0]
  simp (disch := omega) only [xk_none, xk_inl, xk_inr, xk_ite, xri_v, xrl_v, xrv_v, xb_z0, xb_z1, xb_b2, if_true, if_false, ite_true, ite_false, iZ_lit, iZ_m1, iZ_m99, iZ_m8, iZ_add, iZ_sub, iZ_mul, iZ_neg, nz0, nzi, iZ_lt, iZ_le, iZ_inj, b2_z, b2_o, ite_bPz, ite_bPo, xb_bP, iZ_xin, if_pos, ite_self, ↓reduceIte, Int.reduceAdd, Int.reduceSub, Int.reduceMul, Int.reduceNeg, Int.reduceLT, Int.reduceLE, if_neg, ↓xri_some key]
theorem c_net (hA : aOk A) (hF : aFl A) (h : cZ M A S) {w : Int} (hw : r32 w) : cQ A S (fX11_net [.inr (.inr (11, 0)), .inl (iZ (w))] M) (.inl (iZ (sNet A w))) := by
  by_cases c : 0 ≤ w ∧ w < 3
  · obtain ⟨M1, a1, a2, a3⟩ := x_freshOrders hA hF h
    obtain ⟨M2, b1, b2, b3⟩ := x_cNr hA a2 a3
    refine ⟨M2, ?_, b2⟩
    obtain ⟨n, rfl⟩ : ∃ n : Nat, w = n := ⟨w.toNat, by omega⟩
    have hm := x_howMany hA b2.f0 b3 (show n < 3 by omega)
    generalize sNet A (n : Int) = v at *
    clear a3 b3
    rcases (by omega : n = 0 ∨ n = 1 ∨ n = 2) with e | e | e <;> subst e
    · have z : ((0 : Nat) : Int) = 0 := rfl
      rw [z] at hm ⊢
      show xfix gX11_net (0, [some (.inr (.inr (11, 0))), some (.inl (iZ ((0 : Int))))], [], M) = _; rw [xfix_unf, sX11_net_0]
      simp (disch := omega) only [xk_none, xk_inl, xk_inr, xk_ite, xri_v, xrl_v, xrv_v, xb_z0, xb_z1, xb_b2, if_true, if_false, ite_true, ite_false, iZ_lit, iZ_m1, iZ_m99, iZ_m8, iZ_add, iZ_sub, iZ_mul, iZ_neg, nz0, nzi, iZ_lt, iZ_le, iZ_inj, b2_z, b2_o, ite_bPz, ite_bPo, xb_bP, iZ_xin, if_pos, ite_self, ↓reduceIte, Int.reduceAdd, Int.reduceSub, Int.reduceMul, Int.reduceNeg, Int.reduceLT, Int.reduceLE, if_neg, ↓xrv_some a1, ↓xrv_some b1, ↓xri_some hm]
    · have z : ((1 : Nat) : Int) = 1 := rfl
      rw [z] at hm ⊢
      show xfix gX11_net (0, [some (.inr (.inr (11, 0))), some (.inl (iZ ((1 : Int))))], [], M) = _; rw [xfix_unf, sX11_net_0]
      simp (disch := omega) only [xk_none, xk_inl, xk_inr, xk_ite, xri_v, xrl_v, xrv_v, xb_z0, xb_z1, xb_b2, if_true, if_false, ite_true, ite_false, iZ_lit, iZ_m1, iZ_m99, iZ_m8, iZ_add, iZ_sub, iZ_mul, iZ_neg, nz0, nzi, iZ_lt, iZ_le, iZ_inj, b2_z, b2_o, ite_bPz, ite_bPo, xb_bP, iZ_xin, if_pos, ite_self, ↓reduceIte, Int.reduceAdd, Int.reduceSub, Int.reduceMul, Int.reduceNeg, Int.reduceLT, Int.reduceLE, if_neg, ↓xrv_some a1, ↓xrv_some b1, ↓xri_some hm]
    · have z : ((2 : Nat) : Int) = 2 := rfl
      rw [z] at hm ⊢
      show xfix gX11_net (0, [some (.inr (.inr (11, 0))), some (.inl (iZ ((2 : Int))))], [], M) = _; rw [xfix_unf, sX11_net_0]
      simp (disch := omega) only [xk_none, xk_inl, xk_inr, xk_ite, xri_v, xrl_v, xrv_v, xb_z0, xb_z1, xb_b2, if_true, if_false, ite_true, ite_false, iZ_lit, iZ_m1, iZ_m99, iZ_m8, iZ_add, iZ_sub, iZ_mul, iZ_neg, nz0, nzi, iZ_lt, iZ_le, iZ_inj, b2_z, b2_o, ite_bPz, ite_bPo, xb_bP, iZ_xin, if_pos, ite_self, ↓reduceIte, Int.reduceAdd, Int.reduceSub, Int.reduceMul, Int.reduceNeg, Int.reduceLT, Int.reduceLE, if_neg, ↓xrv_some a1, ↓xrv_some b1, ↓xri_some hm]
  · refine h.q ?_
    unfold sNet
    unfold r32 at hw
    rw [if_neg (by omega), if_neg (by omega), if_neg (by omega)]
    have f0 := h.f0
    have f1 := h.J.1
    have hwh := x_whole (M := M) (s := 0) h.f0 h.P9
    show xfix gX11_net (0, [some (.inr (.inr (11, 0))), some (.inl (iZ (w)))], [], M) = _; rw [xfix_unf, sX11_net_0]
    by_cases e3 : w = 3
    · rw [if_pos e3]
      simp (disch := omega) only [xk_none, xk_inl, xk_inr, xk_ite, xri_v, xrl_v, xrv_v, xb_z0, xb_z1, xb_b2, if_true, if_false, ite_true, ite_false, iZ_lit, iZ_m1, iZ_m99, iZ_m8, iZ_add, iZ_sub, iZ_mul, iZ_neg, nz0, nzi, iZ_lt, iZ_le, iZ_inj, b2_z, b2_o, ite_bPz, ite_bPo, xb_bP, iZ_xin, if_pos, ite_self, ↓reduceIte, Int.reduceAdd, Int.reduceSub, Int.reduceMul, Int.reduceNeg, Int.reduceLT, Int.reduceLE, if_neg, f0]
    · rw [if_neg e3]
      by_cases e4 : w = 4
      · rw [if_pos e4]
        simp (disch := omega) only [xk_none, xk_inl, xk_inr, xk_ite, xri_v, xrl_v, xrv_v, xb_z0, xb_z1, xb_b2, if_true, if_false, ite_true, ite_false, iZ_lit, iZ_m1, iZ_m99, iZ_m8, iZ_add, iZ_sub, iZ_mul, iZ_neg, nz0, nzi, iZ_lt, iZ_le, iZ_inj, b2_z, b2_o, ite_bPz, ite_bPo, xb_bP, iZ_xin, if_pos, ite_self, ↓reduceIte, Int.reduceAdd, Int.reduceSub, Int.reduceMul, Int.reduceNeg, Int.reduceLT, Int.reduceLE, if_neg, f1]
      · rw [if_neg e4]
        by_cases e5 : w = 5
        · rw [if_pos e5]
          generalize ((2 ^ aP A : Nat) : Int) - 1 = v at *
          simp (disch := omega) only [xk_none, xk_inl, xk_inr, xk_ite, xri_v, xrl_v, xrv_v, xb_z0, xb_z1, xb_b2, if_true, if_false, ite_true, ite_false, iZ_lit, iZ_m1, iZ_m99, iZ_m8, iZ_add, iZ_sub, iZ_mul, iZ_neg, nz0, nzi, iZ_lt, iZ_le, iZ_inj, b2_z, b2_o, ite_bPz, ite_bPo, xb_bP, iZ_xin, if_pos, ite_self, ↓reduceIte, Int.reduceAdd, Int.reduceSub, Int.reduceMul, Int.reduceNeg, Int.reduceLT, Int.reduceLE, if_neg, ↓xri_some hwh]
        · rw [if_neg e5]
          simp (disch := omega) only [xk_none, xk_inl, xk_inr, xk_ite, xri_v, xrl_v, xrv_v, xb_z0, xb_z1, xb_b2, if_true, if_false, ite_true, ite_false, iZ_lit, iZ_m1, iZ_m99, iZ_m8, iZ_add, iZ_sub, iZ_mul, iZ_neg, nz0, nzi, iZ_lt, iZ_le, iZ_inj, b2_z, b2_o, ite_bPz, ite_bPo, xb_bP, iZ_xin, if_pos, ite_self, ↓reduceIte, Int.reduceAdd, Int.reduceSub, Int.reduceMul, Int.reduceNeg, Int.reduceLT, Int.reduceLE, if_neg]
theorem c_heap (hA : aOk A) (hF : aFl A) (h : cZ M A S) {a w : Int} (ha : r32 a) (hw : r32 w) : cQ A S (fX11_heap [.inr (.inr (11, 0)), .inl (iZ (a)), .inl (iZ (w))] M) (.inr (.inl (lZ (sHeap A a w)))) := by
  have k1 := k5h h ha
  have hP := pow9 h.P9
  have lm : (-1 : Int64) = lZ (-1) := lZ_m1
  unfold sHeap
  by_cases e1 : vH A a
  · rw [bP_t e1] at k1
    rw [vI_t e1]
    obtain ⟨a, rfl, h1, h2⟩ := e1.n
    have en : ((a : Int)).toNat = a := by omega
    rw [en]
    unfold r32 at hw
    have c2 : 0 ≤ ptC A (barS A) a a ∧ ptC A (barS A) a a ≤ a := sm_ind (ptW A (barS A) a) a
    have c3 := leaA_b hA h1
    have c4 := rndA_b (A := A) h1
    have c5 := hnd_le A a
    by_cases d56 : w = 5 ∨ w = 6
    · obtain ⟨M1, a1, a2, a3⟩ := x_cHr hA hF h
      obtain ⟨q1, q2⟩ := a3 a h1 h2
      refine ⟨M1, ?_, a2⟩
      have t26 : fX11_heap [.inr (.inr (11, 0)), .inl (iZ (a)), .inl (iZ (w))] M = xfix gX11_heap (26, [some (.inr (.inr (11, 0))), some (.inl (iZ (a))), some (.inl (iZ (w)))], [], M) := by
        clear a3
        rcases d56 with e | e <;> subst e
        · show xfix gX11_heap (0, [some (.inr (.inr (11, 0))), some (.inl (iZ (a))), some (.inl (iZ ((5 : Int))))], [], M) = _; rw [xfix_unf, sX11_heap_0]
          simp (disch := omega) only [xk_none, xk_inl, xk_inr, xk_ite, xri_v, xrl_v, xrv_v, xb_z0, xb_z1, xb_b2, if_true, if_false, ite_true, ite_false, iZ_lit, iZ_m1, iZ_m99, iZ_m8, iZ_add, iZ_sub, iZ_mul, iZ_neg, nz0, nzi, iZ_lt, iZ_le, iZ_inj, b2_z, b2_o, ite_bPz, ite_bPo, xb_bP, iZ_xin, if_pos, ite_self, ↓reduceIte, Int.reduceAdd, Int.reduceSub, Int.reduceMul, Int.reduceNeg, Int.reduceLT, Int.reduceLE, if_neg, ↓xri_some k1]
        · show xfix gX11_heap (0, [some (.inr (.inr (11, 0))), some (.inl (iZ (a))), some (.inl (iZ ((6 : Int))))], [], M) = _; rw [xfix_unf, sX11_heap_0]
          simp (disch := omega) only [xk_none, xk_inl, xk_inr, xk_ite, xri_v, xrl_v, xrv_v, xb_z0, xb_z1, xb_b2, if_true, if_false, ite_true, ite_false, iZ_lit, iZ_m1, iZ_m99, iZ_m8, iZ_add, iZ_sub, iZ_mul, iZ_neg, nz0, nzi, iZ_lt, iZ_le, iZ_inj, b2_z, b2_o, ite_bPz, ite_bPo, xb_bP, iZ_xin, if_pos, ite_self, ↓reduceIte, Int.reduceAdd, Int.reduceSub, Int.reduceMul, Int.reduceNeg, Int.reduceLT, Int.reduceLE, if_neg, ↓xri_some k1]
      rw [t26]
      rcases d56 with e | e <;> subst e
      · rw [if_neg (by omega), if_neg (by omega), if_neg (by omega), if_neg (by omega), if_neg (by omega), if_pos rfl]
        have iL := iL_toInt64 (z := (hnd A a : Int)) (by omega) (by omega)
        generalize hnd A a = v at *
        clear a3 t26
        rw [xfix_unf, sX11_heap_26]
        simp (disch := omega) only [xk_none, xk_inl, xk_inr, xk_ite, xri_v, xrl_v, xrv_v, xb_z0, xb_z1, xb_b2, if_true, if_false, ite_true, ite_false, iZ_lit, iZ_m1, iZ_m99, iZ_m8, iZ_add, iZ_sub, iZ_mul, iZ_neg, nz0, nzi, iZ_lt, iZ_le, iZ_inj, b2_z, b2_o, ite_bPz, ite_bPo, xb_bP, iZ_xin, if_pos, ite_self, ↓reduceIte, Int.reduceAdd, Int.reduceSub, Int.reduceMul, Int.reduceNeg, Int.reduceLT, Int.reduceLE, if_neg, ↓xrv_some a1, iZ_clampN, q2, iL]
      · rw [if_neg (by omega), if_neg (by omega), if_neg (by omega), if_neg (by omega), if_neg (by omega), if_neg (by omega), if_pos rfl]
        have hl5 : hldA A a < 512 := by
          have := hldR_le A a (flr A a (aP A)) a (Nat.le_refl _)
          show hldR A a (flr A a (aP A)) a < 512
          omega
        have bcv := x_bitCount (M := M1) (v := hldA A a) hl5
        have hm : bc (hldA A a) = fw A a (flr A a (aP A)) := held_min h1 h2 h.P9
        have bc9 : bc (hldA A a) ≤ 9 := bc_le _
        have hn2 : (hnd A a : Int) - (bc (hldA A a) : Int) = ind (tps A a (flr A a (aP A))) := by
          unfold hnd
          rw [hm]
          by_cases y : tps A a (flr A a (aP A))
          · rw [if_pos y, ind_t y]; omega
          · rw [if_neg y, ind_f y]; omega
        have tip : fX0_tipping [.inr (.inr (0, 0)), .inl (iZ (a))] M1 = some (some (.inl (iZ (ind (tps A a (flr A a (aP A)))))), M1) := by
          rw [← hn2]
          generalize hldA A a = hl at *
          generalize hnd A a = hn at *
          clear a3 t26
          show xfix gX0_tipping (0, [some (.inr (.inr (0, 0))), some (.inl (iZ (a)))], [], M1) = _; rw [xfix_unf, sX0_tipping_0]
          simp (disch := omega) only [xk_none, xk_inl, xk_inr, xk_ite, xri_v, xrl_v, xrv_v, xb_z0, xb_z1, xb_b2, if_true, if_false, ite_true, ite_false, iZ_lit, iZ_m1, iZ_m99, iZ_m8, iZ_add, iZ_sub, iZ_mul, iZ_neg, nz0, nzi, iZ_lt, iZ_le, iZ_inj, b2_z, b2_o, ite_bPz, ite_bPo, xb_bP, iZ_xin, if_pos, ite_self, ↓reduceIte, Int.reduceAdd, Int.reduceSub, Int.reduceMul, Int.reduceNeg, Int.reduceLT, Int.reduceLE, if_neg, iZ_clampN, q1, q2, ↓xri_some bcv]
        have ib := ind_b (tps A a (flr A a (aP A)))
        have iL := iL_toInt64 (z := ind (tps A a (flr A a (aP A)))) (by omega) (by omega)
        generalize ind (tps A a (flr A a (aP A))) = v at *
        clear a3 t26
        rw [xfix_unf, sX11_heap_26]
        simp (disch := omega) only [xk_none, xk_inl, xk_inr, xk_ite, xri_v, xrl_v, xrv_v, xb_z0, xb_z1, xb_b2, if_true, if_false, ite_true, ite_false, iZ_lit, iZ_m1, iZ_m99, iZ_m8, iZ_add, iZ_sub, iZ_mul, iZ_neg, nz0, nzi, iZ_lt, iZ_le, iZ_inj, b2_z, b2_o, ite_bPz, ite_bPo, xb_bP, iZ_xin, if_pos, ite_self, ↓reduceIte, Int.reduceAdd, Int.reduceSub, Int.reduceMul, Int.reduceNeg, Int.reduceLT, Int.reduceLE, if_neg, ↓xrv_some a1, ↓xri_some tip, iL]
    · obtain ⟨M1, a1, a2, a3⟩ := x_freshOrders hA hF h
      by_cases d23 : w = 2 ∨ w = 3
      · obtain ⟨q1, q2, _⟩ := a3 a h1 h2 (hAN_0 a)
        refine ⟨M1, ?_, a2⟩
        have t71 : fX11_heap [.inr (.inr (11, 0)), .inl (iZ (a)), .inl (iZ (w))] M = xfix gX11_heap (71, [some (.inr (.inr (11, 0))), some (.inl (iZ (a))), some (.inl (iZ (w)))], [], M) := by
          clear a3
          rcases d23 with e | e <;> subst e
          · show xfix gX11_heap (0, [some (.inr (.inr (11, 0))), some (.inl (iZ (a))), some (.inl (iZ ((2 : Int))))], [], M) = _; rw [xfix_unf, sX11_heap_0]
            simp (disch := omega) only [xk_none, xk_inl, xk_inr, xk_ite, xri_v, xrl_v, xrv_v, xb_z0, xb_z1, xb_b2, if_true, if_false, ite_true, ite_false, iZ_lit, iZ_m1, iZ_m99, iZ_m8, iZ_add, iZ_sub, iZ_mul, iZ_neg, nz0, nzi, iZ_lt, iZ_le, iZ_inj, b2_z, b2_o, ite_bPz, ite_bPo, xb_bP, iZ_xin, if_pos, ite_self, ↓reduceIte, Int.reduceAdd, Int.reduceSub, Int.reduceMul, Int.reduceNeg, Int.reduceLT, Int.reduceLE, if_neg, ↓xri_some k1]
          · show xfix gX11_heap (0, [some (.inr (.inr (11, 0))), some (.inl (iZ (a))), some (.inl (iZ ((3 : Int))))], [], M) = _; rw [xfix_unf, sX11_heap_0]
            simp (disch := omega) only [xk_none, xk_inl, xk_inr, xk_ite, xri_v, xrl_v, xrv_v, xb_z0, xb_z1, xb_b2, if_true, if_false, ite_true, ite_false, iZ_lit, iZ_m1, iZ_m99, iZ_m8, iZ_add, iZ_sub, iZ_mul, iZ_neg, nz0, nzi, iZ_lt, iZ_le, iZ_inj, b2_z, b2_o, ite_bPz, ite_bPo, xb_bP, iZ_xin, if_pos, ite_self, ↓reduceIte, Int.reduceAdd, Int.reduceSub, Int.reduceMul, Int.reduceNeg, Int.reduceLT, Int.reduceLE, if_neg, ↓xri_some k1]
        rw [t71]
        rcases d23 with e | e <;> subst e
        · rw [if_neg (by omega), if_neg (by omega), if_pos rfl]
          clear a3 t71
          rw [xfix_unf, sX11_heap_71]
          simp (disch := omega) only [xk_none, xk_inl, xk_inr, xk_ite, xri_v, xrl_v, xrv_v, xb_z0, xb_z1, xb_b2, if_true, if_false, ite_true, ite_false, iZ_lit, iZ_m1, iZ_m99, iZ_m8, iZ_add, iZ_sub, iZ_mul, iZ_neg, nz0, nzi, iZ_lt, iZ_le, iZ_inj, b2_z, b2_o, ite_bPz, ite_bPo, xb_bP, iZ_xin, if_pos, ite_self, ↓reduceIte, Int.reduceAdd, Int.reduceSub, Int.reduceMul, Int.reduceNeg, Int.reduceLT, Int.reduceLE, if_neg, ↓xrv_some a1, iZ_clampN, q1]
        · rw [if_neg (by omega), if_neg (by omega), if_neg (by omega), if_pos rfl]
          have iL := iL_toInt64 (z := (leaA A a).1) (by omega) (by omega)
          generalize (leaA A a).1 = v at *
          clear a3 t71
          rw [xfix_unf, sX11_heap_71]
          simp (disch := omega) only [xk_none, xk_inl, xk_inr, xk_ite, xri_v, xrl_v, xrv_v, xb_z0, xb_z1, xb_b2, if_true, if_false, ite_true, ite_false, iZ_lit, iZ_m1, iZ_m99, iZ_m8, iZ_add, iZ_sub, iZ_mul, iZ_neg, nz0, nzi, iZ_lt, iZ_le, iZ_inj, b2_z, b2_o, ite_bPz, ite_bPo, xb_bP, iZ_xin, if_pos, ite_self, ↓reduceIte, Int.reduceAdd, Int.reduceSub, Int.reduceMul, Int.reduceNeg, Int.reduceLT, Int.reduceLE, if_neg, ↓xrv_some a1, iZ_clampN, q2, iL]
      · obtain ⟨M2, b1, b2, b3⟩ := x_cNr hA a2 a3
        refine ⟨M2, ?_, b2⟩
        obtain ⟨q1, q2⟩ := b3.1 a h1 h2
        have mN := x_inNet b3.2 (show a < 512 by omega) (fun z => liv_net z)
        have mL := x_isLive b3.2 (show a < 512 by omega)
        clear a3 b3
        have l0 : (0 : Int64) = lZ 0 := by decide +kernel
        have l1 : (1 : Int64) = lZ 1 := by decide +kernel
        by_cases d0 : w = 0
        · subst d0
          rw [if_pos rfl]
          by_cases y : netA A a
          · rw [bP_t y] at mN
            rw [ind_t y]
            show xfix gX11_heap (0, [some (.inr (.inr (11, 0))), some (.inl (iZ (a))), some (.inl (iZ ((0 : Int))))], [], M) = _; rw [xfix_unf, sX11_heap_0]
            simp (disch := omega) only [xk_none, xk_inl, xk_inr, xk_ite, xri_v, xrl_v, xrv_v, xb_z0, xb_z1, xb_b2, if_true, if_false, ite_true, ite_false, iZ_lit, iZ_m1, iZ_m99, iZ_m8, iZ_add, iZ_sub, iZ_mul, iZ_neg, nz0, nzi, iZ_lt, iZ_le, iZ_inj, b2_z, b2_o, ite_bPz, ite_bPo, xb_bP, iZ_xin, if_pos, ite_self, ↓reduceIte, Int.reduceAdd, Int.reduceSub, Int.reduceMul, Int.reduceNeg, Int.reduceLT, Int.reduceLE, if_neg, ↓xri_some k1, ↓xrv_some a1, ↓xrv_some b1, ↓xri_some mN, l1]
          · rw [bP_f y] at mN
            rw [ind_f y]
            show xfix gX11_heap (0, [some (.inr (.inr (11, 0))), some (.inl (iZ (a))), some (.inl (iZ ((0 : Int))))], [], M) = _; rw [xfix_unf, sX11_heap_0]
            simp (disch := omega) only [xk_none, xk_inl, xk_inr, xk_ite, xri_v, xrl_v, xrv_v, xb_z0, xb_z1, xb_b2, if_true, if_false, ite_true, ite_false, iZ_lit, iZ_m1, iZ_m99, iZ_m8, iZ_add, iZ_sub, iZ_mul, iZ_neg, nz0, nzi, iZ_lt, iZ_le, iZ_inj, b2_z, b2_o, ite_bPz, ite_bPo, xb_bP, iZ_xin, if_pos, ite_self, ↓reduceIte, Int.reduceAdd, Int.reduceSub, Int.reduceMul, Int.reduceNeg, Int.reduceLT, Int.reduceLE, if_neg, ↓xri_some k1, ↓xrv_some a1, ↓xrv_some b1, ↓xri_some mN, l0]
        · rw [if_neg d0]
          by_cases d1 : w = 1
          · subst d1
            rw [if_pos rfl]
            have iL := iL_toInt64 (z := ptC A (barS A) a a) (by omega) (by omega)
            generalize ptC A (barS A) a a = v at *
            show xfix gX11_heap (0, [some (.inr (.inr (11, 0))), some (.inl (iZ (a))), some (.inl (iZ ((1 : Int))))], [], M) = _; rw [xfix_unf, sX11_heap_0]
            simp (disch := omega) only [xk_none, xk_inl, xk_inr, xk_ite, xri_v, xrl_v, xrv_v, xb_z0, xb_z1, xb_b2, if_true, if_false, ite_true, ite_false, iZ_lit, iZ_m1, iZ_m99, iZ_m8, iZ_add, iZ_sub, iZ_mul, iZ_neg, nz0, nzi, iZ_lt, iZ_le, iZ_inj, b2_z, b2_o, ite_bPz, ite_bPo, xb_bP, iZ_xin, if_pos, ite_self, ↓reduceIte, Int.reduceAdd, Int.reduceSub, Int.reduceMul, Int.reduceNeg, Int.reduceLT, Int.reduceLE, if_neg, ↓xri_some k1, ↓xrv_some a1, ↓xrv_some b1, iZ_clampN, q1, iL]
          · rw [if_neg d1, if_neg (by omega), if_neg (by omega)]
            by_cases d4 : w = 4
            · subst d4
              rw [if_pos rfl]
              have iL := iL_toInt64 (z := rndA A a) (by omega) (by omega)
              generalize rndA A a = v at *
              show xfix gX11_heap (0, [some (.inr (.inr (11, 0))), some (.inl (iZ (a))), some (.inl (iZ ((4 : Int))))], [], M) = _; rw [xfix_unf, sX11_heap_0]
              simp (disch := omega) only [xk_none, xk_inl, xk_inr, xk_ite, xri_v, xrl_v, xrv_v, xb_z0, xb_z1, xb_b2, if_true, if_false, ite_true, ite_false, iZ_lit, iZ_m1, iZ_m99, iZ_m8, iZ_add, iZ_sub, iZ_mul, iZ_neg, nz0, nzi, iZ_lt, iZ_le, iZ_inj, b2_z, b2_o, ite_bPz, ite_bPo, xb_bP, iZ_xin, if_pos, ite_self, ↓reduceIte, Int.reduceAdd, Int.reduceSub, Int.reduceMul, Int.reduceNeg, Int.reduceLT, Int.reduceLE, if_neg, ↓xri_some k1, ↓xrv_some a1, ↓xrv_some b1, iZ_clampN, q2, iL]
            · rw [if_neg d4, if_neg (by omega), if_neg (by omega)]
              by_cases d7 : w = 7
              · subst d7
                rw [if_pos rfl]
                by_cases y : livA A a
                · rw [bP_t y] at mL
                  rw [ind_t y]
                  show xfix gX11_heap (0, [some (.inr (.inr (11, 0))), some (.inl (iZ (a))), some (.inl (iZ ((7 : Int))))], [], M) = _; rw [xfix_unf, sX11_heap_0]
                  simp (disch := omega) only [xk_none, xk_inl, xk_inr, xk_ite, xri_v, xrl_v, xrv_v, xb_z0, xb_z1, xb_b2, if_true, if_false, ite_true, ite_false, iZ_lit, iZ_m1, iZ_m99, iZ_m8, iZ_add, iZ_sub, iZ_mul, iZ_neg, nz0, nzi, iZ_lt, iZ_le, iZ_inj, b2_z, b2_o, ite_bPz, ite_bPo, xb_bP, iZ_xin, if_pos, ite_self, ↓reduceIte, Int.reduceAdd, Int.reduceSub, Int.reduceMul, Int.reduceNeg, Int.reduceLT, Int.reduceLE, if_neg, ↓xri_some k1, ↓xrv_some a1, ↓xrv_some b1, ↓xri_some mL, l1]
                · rw [bP_f y] at mL
                  rw [ind_f y]
                  show xfix gX11_heap (0, [some (.inr (.inr (11, 0))), some (.inl (iZ (a))), some (.inl (iZ ((7 : Int))))], [], M) = _; rw [xfix_unf, sX11_heap_0]
                  simp (disch := omega) only [xk_none, xk_inl, xk_inr, xk_ite, xri_v, xrl_v, xrv_v, xb_z0, xb_z1, xb_b2, if_true, if_false, ite_true, ite_false, iZ_lit, iZ_m1, iZ_m99, iZ_m8, iZ_add, iZ_sub, iZ_mul, iZ_neg, nz0, nzi, iZ_lt, iZ_le, iZ_inj, b2_z, b2_o, ite_bPz, ite_bPo, xb_bP, iZ_xin, if_pos, ite_self, ↓reduceIte, Int.reduceAdd, Int.reduceSub, Int.reduceMul, Int.reduceNeg, Int.reduceLT, Int.reduceLE, if_neg, ↓xri_some k1, ↓xrv_some a1, ↓xrv_some b1, ↓xri_some mL, l0]
              · rw [if_neg d7]
                show xfix gX11_heap (0, [some (.inr (.inr (11, 0))), some (.inl (iZ (a))), some (.inl (iZ (w)))], [], M) = _; rw [xfix_unf, sX11_heap_0]
                simp (disch := omega) only [xk_none, xk_inl, xk_inr, xk_ite, xri_v, xrl_v, xrv_v, xb_z0, xb_z1, xb_b2, if_true, if_false, ite_true, ite_false, iZ_lit, iZ_m1, iZ_m99, iZ_m8, iZ_add, iZ_sub, iZ_mul, iZ_neg, nz0, nzi, iZ_lt, iZ_le, iZ_inj, b2_z, b2_o, ite_bPz, ite_bPo, xb_bP, iZ_xin, if_pos, ite_self, ↓reduceIte, Int.reduceAdd, Int.reduceSub, Int.reduceMul, Int.reduceNeg, Int.reduceLT, Int.reduceLE, if_neg, ↓xri_some k1, ↓xrv_some a1, ↓xrv_some b1, lm]
  · rw [bP_f e1] at k1
    rw [vI_f e1]
    refine h.q ?_
    show xfix gX11_heap (0, [some (.inr (.inr (11, 0))), some (.inl (iZ (a))), some (.inl (iZ (w)))], [], M) = _; rw [xfix_unf, sX11_heap_0]
    simp (disch := omega) only [xk_none, xk_inl, xk_inr, xk_ite, xri_v, xrl_v, xrv_v, xb_z0, xb_z1, xb_b2, if_true, if_false, ite_true, ite_false, iZ_lit, iZ_m1, iZ_m99, iZ_m8, iZ_add, iZ_sub, iZ_mul, iZ_neg, nz0, nzi, iZ_lt, iZ_le, iZ_inj, b2_z, b2_o, ite_bPz, ite_bPo, xb_bP, iZ_xin, if_pos, ite_self, ↓reduceIte, Int.reduceAdd, Int.reduceSub, Int.reduceMul, Int.reduceNeg, Int.reduceLT, Int.reduceLE, if_neg, ↓xri_some k1, lm]
end
