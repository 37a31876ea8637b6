/-! the class: tipping, and all hands -/
theorem x_falls {M : xM} {n s lo hi : Int} {ft : Nat} (hf : ft < 256) (hn : 0 ≤ n ∧ n ≤ 512) (hs : 0 ≤ s ∧ s ≤ 10000) (hl : (if ft = 0 then 0 else (jLw ft 8 : Int)) = lo) (hh : (if ft = 0 then 0 else jHw ft) = hi) (bl : 0 ≤ lo ∧ lo ≤ 7) (bh : 0 ≤ hi ∧ hi ≤ 7) : fX0_falls [.inl (iZ (n)), .inl (iZ (s)), .inl (iZ (ft))] M = some (some (.inl (bP (fls n s lo hi))), M) := by
  have h1 := x_lowest (M := M) hf
  have h2 := x_highest (M := M) hf
  rw [hl] at h1
  rw [hh] at h2
  have q1 := mul_b (a := 2 * n) (b := lo) (m := 1024) (n := 7) (by omega) bl
  have q2 := mul_b (a := 2 * n) (b := hi + 1) (m := 1024) (n := 8) (by omega) (by omega)
  unfold fls
  generalize e1 : 2 * n * lo = x at *
  generalize e2 : 2 * n * (hi + 1) = y at *
  by_cases c1 : s < x
  · rw [bP_t (.inl c1)]
    show xfix gX0_falls (0, [some (.inl (iZ (n))), some (.inl (iZ (s))), some (.inl (iZ (ft)))], [], M) = _; rw [xfix_unf, sX0_falls_0]
    simp (disch := omega) only [xk_none, xk_inl, xk_inr, xk_ite, xri_v, xrl_v, xrv_v, xb_z0, xb_z1, xb_b2, if_true, if_false, ite_true, ite_false, iZ_lit, iZ_m1, iZ_m99, iZ_m8, iZ_add, iZ_sub, iZ_mul, iZ_neg, nz0, nzi, iZ_lt, iZ_le, iZ_inj, b2_z, b2_o, ite_bPz, ite_bPo, xb_bP, iZ_xin, if_pos, ite_self, ↓reduceIte, Int.reduceAdd, Int.reduceSub, Int.reduceMul, Int.reduceNeg, Int.reduceLT, Int.reduceLE, if_neg, h1, e1]
  · by_cases c2 : y < s
    · rw [bP_t (.inr c2)]
      show xfix gX0_falls (0, [some (.inl (iZ (n))), some (.inl (iZ (s))), some (.inl (iZ (ft)))], [], M) = _; rw [xfix_unf, sX0_falls_0]
      simp (disch := omega) only [xk_none, xk_inl, xk_inr, xk_ite, xri_v, xrl_v, xrv_v, xb_z0, xb_z1, xb_b2, if_true, if_false, ite_true, ite_false, iZ_lit, iZ_m1, iZ_m99, iZ_m8, iZ_add, iZ_sub, iZ_mul, iZ_neg, nz0, nzi, iZ_lt, iZ_le, iZ_inj, b2_z, b2_o, ite_bPz, ite_bPo, xb_bP, iZ_xin, if_pos, ite_self, ↓reduceIte, Int.reduceAdd, Int.reduceSub, Int.reduceMul, Int.reduceNeg, Int.reduceLT, Int.reduceLE, if_neg, h1, e1, h2, e2]
    · rw [bP_f (by omega)]
      show xfix gX0_falls (0, [some (.inl (iZ (n))), some (.inl (iZ (s))), some (.inl (iZ (ft)))], [], M) = _; rw [xfix_unf, sX0_falls_0]
      simp (disch := omega) only [xk_none, xk_inl, xk_inr, xk_ite, xri_v, xrl_v, xrv_v, xb_z0, xb_z1, xb_b2, if_true, if_false, ite_true, ite_false, iZ_lit, iZ_m1, iZ_m99, iZ_m8, iZ_add, iZ_sub, iZ_mul, iZ_neg, nz0, nzi, iZ_lt, iZ_le, iZ_inj, b2_z, b2_o, ite_bPz, ite_bPo, xb_bP, iZ_xin, if_pos, ite_self, ↓reduceIte, Int.reduceAdd, Int.reduceSub, Int.reduceMul, Int.reduceNeg, Int.reduceLT, Int.reduceLE, if_neg, h1, e1, h2, e2]
theorem sh_lh {p : Nat → Prop} {f : Nat → Bool} {a : Nat} (hp : ∃ v, v < 8 ∧ p v) (h : ∀ v, v < 8 → ((∃ c, c < 512 ∧ f c = true ∧ alg c a = v) ↔ p v)) : (if shW f a = 0 then 0 else (jLw (shW f a) 8 : Int)) = (lst p 8 : Int) ∧ (if shW f a = 0 then 0 else jHw (shW f a)) = hst p 8 ∧ lst p 8 < 8 ∧ 0 ≤ hst p 8 := by
  have hb : ∀ v, v < 8 → ((shW f a).testBit v = true ↔ p v) := fun v hv => by
    unfold shW
    rw [msk_bit, h v hv]
    exact ⟨fun z => z.2, fun z => ⟨hv, z⟩⟩
  obtain ⟨v, v1, v2⟩ := hp
  have n0 : shW f a ≠ 0 := fun z => by
    have := (hb v v1).mpr v2
    rw [z, Nat.zero_testBit] at this; cases this
  have e1 : jLw (shW f a) 8 = lst p 8 := lst_cg hb
  have e2 : jHw (shW f a) = hst p 8 := hst_cg hb
  refine ⟨by rw [if_neg n0, e1], by rw [if_neg n0, e2], ?_, ?_⟩
  · exact Classical.byContradiction fun z => lst_no p 8 v (by omega) v2
  · have key : ∀ n, v < n → 0 ≤ hst p n := fun n => by
      induction n with
      | zero => intro h; omega
      | succ n ih =>
        intro hn
        show 0 ≤ @ite _ (p n) (Classical.propDecidable _) (n : Int) (hst p n)
        by_cases z : p n
        · rw [if_pos z]; omega
        · rw [if_neg z]
          refine ih ?_
          by_cases w : v = n
          · subst w; exact absurd v2 z
          · omega
    exact key 8 v1
theorem x_tips {M : xM} {A : dA} {heap fl : Nat} (hA : aOk A) (h : cBd M 0 (aP A) (aC A)) (hh : heap < 2 ^ aP A) (hf : fl ≤ 7) (he : ∃ c, c < 512 ∧ inH A heap c ∧ c / 64 = fl) : ∃ M', fX0_tips [.inr (.inr (0, 0)), .inl (iZ (heap)), .inl (iZ (fl))] M = some (some (.inl (bP (tps A heap fl))), M') ∧ xSame (fun r => r = (44, 43)) M M' := by
  have hP := hA.P
  have h512 := Nat.lt_of_lt_of_le hh (pow9 hP).2
  obtain ⟨M1, a1, a2, a3⟩ := x_collect (M := M) (s := 0) (k := 43) (set := heap) h (fun p hp => by omega) h512
  have hin : ∀ c, c < 512 → (sB M1 43 c = true ↔ inH A heap c) := fun c hc => by
    rw [a3 c hc]
    unfold inH
    constructor
    · rintro ⟨p, p1, p2, p3⟩; exact ⟨p, p3, p2⟩
    · rintro ⟨p, p3, p2⟩
      have := (hA.C hc).2
      exact ⟨p, by omega, p2, p3⟩
  have hc1 := x_count (M := M1) (k := 43)
  have hd0 := x_doubledSum (M := M1) (k := 43) (a := 0) (by omega)
  have hd1 := x_doubledSum (M := M1) (k := 43) (a := 1) (by omega)
  have eN : sm (fun c => if sB M1 43 c = true then 1 else 0) 512 = tN A heap 512 := sm_cg fun c hc => by
    by_cases z : inH A heap c
    · rw [if_pos z, if_pos ((hin c hc).mpr z)]
    · rw [if_neg z, if_neg (fun w => z ((hin c hc).mp w))]
  have eX : sm (fun c => if sB M1 43 c = true then 2 * (alg c 0 : Int) + 1 else 0) 512 = tX A heap 512 := sm_cg fun c hc => by
    by_cases z : inH A heap c
    · rw [if_pos z, if_pos ((hin c hc).mpr z)]; rfl
    · rw [if_neg z, if_neg (fun w => z ((hin c hc).mp w))]
  have eY : sm (fun c => if sB M1 43 c = true then 2 * (alg c 1 : Int) + 1 else 0) 512 = tY A heap 512 := sm_cg fun c hc => by
    by_cases z : inH A heap c
    · rw [if_pos z, if_pos ((hin c hc).mpr z)]; rfl
    · rw [if_neg z, if_neg (fun w => z ((hin c hc).mp w))]
  rw [eN] at hc1
  rw [eX] at hd0
  rw [eY] at hd1
  have bN := tN_b A heap (i := 512) (by omega)
  have bX := tX_b A heap (i := 512) (by omega)
  have bY := tY_b A heap (i := 512) (by omega)
  have hpw : (2 : Nat) ^ fl < 2147483648 := Nat.lt_of_le_of_lt (Nat.pow_le_pow_right (n := 2) (by omega) hf) (by decide)
  obtain ⟨M2, b1, b2, b3⟩ := x_keep (M := M1) (k := 43) (a := 2) (b := 2 ^ fl) (by omega) hpw
  have hk : ∀ c, c < 512 → (sB M2 43 c = true ↔ inH A heap c ∧ c / 64 = fl) := fun c hc => by
    rw [b3 c hc, Bool.and_eq_true, hin c hc, Nat.testBit_two_pow, decide_eq_true_eq]
    have : alg c 2 = c / 64 := rfl
    rw [this]
    exact ⟨fun z => ⟨z.1, z.2.symm⟩, fun z => ⟨z.1, z.2.symm⟩⟩
  have hs0 := x_shadow (M := M2) (k := 43) (a := 0) (by omega)
  have hs1 := x_shadow (M := M2) (k := 43) (a := 1) (by omega)
  obtain ⟨c0, c1, c2, c3⟩ := he
  obtain ⟨x1, x2, x3, x4⟩ := sh_lh (p := onX A heap fl 512) (f := sB M2 43) (a := 0) ⟨c0 % 8, by omega, c0, c1, c2, c3, rfl⟩ (fun v hv => by
    constructor
    · rintro ⟨c, q1, q2, q3⟩
      have := (hk c q1).mp q2
      exact ⟨c, q1, this.1, this.2, q3⟩
    · rintro ⟨c, q1, q2, q3, q4⟩
      exact ⟨c, q1, (hk c q1).mpr ⟨q2, q3⟩, q4⟩)
  obtain ⟨y1, y2, y3, y4⟩ := sh_lh (p := onY A heap fl 512) (f := sB M2 43) (a := 1) ⟨c0 / 8 % 8, by omega, c0, c1, c2, c3, rfl⟩ (fun v hv => by
    constructor
    · rintro ⟨c, q1, q2, q3⟩
      have := (hk c q1).mp q2
      exact ⟨c, q1, this.1, this.2, q3⟩
    · rintro ⟨c, q1, q2, q3, q4⟩
      exact ⟨c, q1, (hk c q1).mpr ⟨q2, q3⟩, q4⟩)
  have xh := hst_rng (onX A heap fl 512) 8
  have yh := hst_rng (onY A heap fl 512) 8
  have s0l : shW (sB M2 43) 0 < 256 := msk_lt _ 8
  have s1l : shW (sB M2 43) 1 < 256 := msk_lt _ 8
  have hf0 := x_falls (M := M2) (n := tN A heap 512) (s := tX A heap 512) s0l bN (by omega) x1 x2 (by omega) (by omega)
  have hf1 := x_falls (M := M2) (n := tN A heap 512) (s := tY A heap 512) s1l bN (by omega) y1 y2 (by omega) (by omega)
  refine ⟨M2, ?_, a2.tr b2⟩
  have one := iZ_one (p := fl) (by omega)
  have e0 : ((0 : Nat) : Int) = 0 := rfl
  have e1 : ((1 : Nat) : Int) = 1 := rfl
  have e2 : ((2 : Nat) : Int) = 2 := rfl
  rw [e0] at hd0 hs0
  rw [e1] at hd1 hs1
  rw [e2] at b1
  unfold tps
  generalize shW (sB M2 43) 0 = u0 at *
  generalize shW (sB M2 43) 1 = u1 at *
  generalize tN A heap 512 = tn at *
  generalize tX A heap 512 = tx at *
  generalize tY A heap 512 = ty at *
  generalize (2 : Nat) ^ fl = pf at *
  by_cases q0 : fls tn tx (lst (onX A heap fl 512) 8) (hst (onX A heap fl 512) 8)
  · rw [bP_t q0] at hf0
    rw [bP_t (.inl q0)]
    show xfix gX0_tips (0, [some (.inr (.inr (0, 0))), some (.inl (iZ (heap))), some (.inl (iZ (fl))), none, none, none], [], M) = _; rw [xfix_unf, sX0_tips_0]
    simp (disch := omega) only [xk_none, xk_inl, xk_inr, xk_ite, xri_v, xrl_v, xrv_v, xb_z0, xb_z1, xb_b2, if_true, if_false, ite_true, ite_false, iZ_lit, iZ_m1, iZ_m99, iZ_m8, iZ_add, iZ_sub, iZ_mul, iZ_neg, nz0, nzi, iZ_lt, iZ_le, iZ_inj, b2_z, b2_o, ite_bPz, ite_bPo, xb_bP, iZ_xin, if_pos, ite_self, ↓reduceIte, Int.reduceAdd, Int.reduceSub, Int.reduceMul, Int.reduceNeg, Int.reduceLT, Int.reduceLE, if_neg, a1, hc1, hd0, hd1, one, b1, hs0, hf0]
  · rw [bP_f q0] at hf0
    by_cases q1 : fls tn ty (lst (onY A heap fl 512) 8) (hst (onY A heap fl 512) 8)
    · rw [bP_t q1] at hf1
      rw [bP_t (.inr q1)]
      show xfix gX0_tips (0, [some (.inr (.inr (0, 0))), some (.inl (iZ (heap))), some (.inl (iZ (fl))), none, none, none], [], M) = _; rw [xfix_unf, sX0_tips_0]
      simp (disch := omega) only [xk_none, xk_inl, xk_inr, xk_ite, xri_v, xrl_v, xrv_v, xb_z0, xb_z1, xb_b2, if_true, if_false, ite_true, ite_false, iZ_lit, iZ_m1, iZ_m99, iZ_m8, iZ_add, iZ_sub, iZ_mul, iZ_neg, nz0, nzi, iZ_lt, iZ_le, iZ_inj, b2_z, b2_o, ite_bPz, ite_bPo, xb_bP, iZ_xin, if_pos, ite_self, ↓reduceIte, Int.reduceAdd, Int.reduceSub, Int.reduceMul, Int.reduceNeg, Int.reduceLT, Int.reduceLE, if_neg, a1, hc1, hd0, hd1, one, b1, hs0, hf0, hs1, hf1]
    · rw [bP_f q1] at hf1
      rw [bP_f (fun z => z.elim q0 q1)]
      show xfix gX0_tips (0, [some (.inr (.inr (0, 0))), some (.inl (iZ (heap))), some (.inl (iZ (fl))), none, none, none], [], M) = _; rw [xfix_unf, sX0_tips_0]
      simp (disch := omega) only [xk_none, xk_inl, xk_inr, xk_ite, xri_v, xrl_v, xrv_v, xb_z0, xb_z1, xb_b2, if_true, if_false, ite_true, ite_false, iZ_lit, iZ_m1, iZ_m99, iZ_m8, iZ_add, iZ_sub, iZ_mul, iZ_neg, nz0, nzi, iZ_lt, iZ_le, iZ_inj, b2_z, b2_o, ite_bPz, ite_bPo, xb_bP, iZ_xin, if_pos, ite_self, ↓reduceIte, Int.reduceAdd, Int.reduceSub, Int.reduceMul, Int.reduceNeg, Int.reduceLT, Int.reduceLE, if_neg, a1, hc1, hd0, hd1, one, b1, hs0, hf0, hs1, hf1]
noncomputable def hldA (A : dA) (heap : Nat) : Nat := hldR A heap (flr A heap (aP A)) heap
/-- the class knows what must be held -/
def cHn (M : xM) (A : dA) (n : Nat) : Prop := ∀ heap, 1 ≤ heap → heap < n → xI M (22, 0) heap = iZ (hldA A heap) ∧ xI M (23, 0) heap = iZ (hnd A heap)
theorem flr_is {A : dA} {heap : Nat} : ∀ n, flr A heap n ≤ 7 → ∃ p, p < n ∧ heap.testBit p = true ∧ lowS A p = flr A heap n
  | 0, h => by unfold flr at h; omega
  | n + 1, h => by
    have e : flr A heap (n + 1) = if heap.testBit n = true ∧ lowS A n < flr A heap n then lowS A n else flr A heap n := rfl
    by_cases y : heap.testBit n = true ∧ lowS A n < flr A heap n
    · rw [e, if_pos y]; exact ⟨n, by omega, y.1, rfl⟩
    · rw [e, if_neg y] at h ⊢
      obtain ⟨p, p1, p2, p3⟩ := flr_is n h
      exact ⟨p, by omega, p2, p3⟩
abbrev hdF (r : xR) (j : Nat) : Prop := r = (20, 0) ∨ r = (21, 0) ∨ r = (22, 0) ∨ r = (23, 0) ∨ r = (44, 43) ∨ (r = (0, 0) ∧ j = 6)
theorem x_hrefresh {M : xM} {A : dA} (hA : aOk A) (hF : aFl A) (h : cBd M 0 (aP A) (aC A)) (hf : xI M (0, 0) 6 = iZ 0 ∨ (xI M (0, 0) 6 = iZ 1 ∧ cHn M A (2 ^ aP A))) : ∃ M', fX0_refresh [.inr (.inr (0, 0))] M = some (none, M') ∧ xSm hdF M M' ∧ xI M' (0, 0) 6 = iZ 1 ∧ cHn M' A (2 ^ aP A) := by
  have hP := hA.P
  have h9 := pow9 hP
  rcases hf with hf | ⟨hf, hn⟩
  · obtain ⟨M1, a1, a2, a3⟩ := x_findUnder hA hF h
    obtain ⟨f0, _, hB⟩ := h
    obtain ⟨M2, b1, b2, b3⟩ := xfor_M (sg := gX0_refresh) (st := fun i M => (14, [some (.inr (.inr (0, 0))), some (.inl (iZ (((i + 1 : Nat))))), none], [], M)) (I := fun n K => xSame (fun r => r = (22, 0) ∨ r = (23, 0) ∨ r = (44, 43)) M1 K ∧ cHn K A (n + 1)) (n := 2 ^ aP A - 1) (fun i K hi hK => by
      obtain ⟨k1, k2⟩ := hK
      obtain ⟨heap, eh⟩ : ∃ heap, heap = i + 1 := ⟨_, rfl⟩
      have h1 : 1 ≤ heap := by omega
      have hh : heap < 2 ^ aP A := by omega
      have g0 : xI K (5, 0) 0 = iZ (aP A) := by rw [(k1 (5, 0) (by simp)).1, (a2 (5, 0) (by simp)).1]; exact f0
      have hBK : cBd K 0 (aP A) (aC A) := ⟨g0, hP, fun p hp c hc => by
        rw [sB_same k1 (by simp; omega) c, sB_same a2 (by simp; omega) c]; exact hB p hp c hc⟩
      have hU : cUn K A := fun p hp => by rw [(k1 (21, 0) (by simp)).1, (k1 (20, 0) (by simp)).1]; exact a3 p hp
      obtain ⟨c1, c2⟩ := x_floorOf (M := K) hA hF g0 hU h1 hh
      have c3 := x_onFloor (M := K) (heap := heap) (fl := flr A heap (aP A)) hA hF g0 hU (by omega) (by omega)
      have c4 := x_findHeld (M := K) (heap := heap) (fl := flr A heap (aP A)) hA g0 hU h1 hh
      have hw := x_whole (M := K) (s := 0) g0 hP
      have hl := hldR_le A heap (flr A heap (aP A)) heap (Nat.le_refl _)
      have eH : hldR A heap (flr A heap (aP A)) heap = hldA A heap := rfl
      have hmin := held_min (fl := flr A heap (aP A)) h1 hh hP
      rw [eH] at c4 hl hmin
      obtain ⟨K4, eK4⟩ : ∃ K4, K4 = xpI K (22, 0) heap (iZ (hldA A heap)) := ⟨_, rfl⟩
      have k4 : xSame (fun r => r = (22, 0)) K K4 := by rw [eK4]; exact xSame.rf.pI rfl
      have hB4 : cBd K4 0 (aP A) (aC A) := ⟨by rw [(k4 (5, 0) (by simp)).1]; exact g0, hP, fun p hp c hc => by rw [sB_same k4 (by simp) c]; exact hBK.2.2 p hp c hc⟩
      have c5 := x_bitCount (M := K4) (v := hldA A heap) (by omega)
      have q22 : xI K4 (22, 0) heap = iZ (hldA A heap) := by rw [eK4, pR_eq]
      obtain ⟨p, p1, p2, p3⟩ := flr_is (A := A) (heap := heap) (aP A) c2
      have h7 := low_7 hF p1
      obtain ⟨cc, e1, e2, e3⟩ := lst_is (fun z => ∃ c, c < 512 ∧ c / 64 = z ∧ aC A c = p) 8 h7
      obtain ⟨K6, d1, d2⟩ := x_tips (M := K4) (fl := flr A heap (aP A)) hA hB4 hh c2 ⟨cc, e1, ⟨p, e3, p2⟩, by rw [e2]; exact p3⟩
      have hdd : (hnd A heap : Int) = (bc (hldA A heap) : Int) + @ite _ (tps A heap (flr A heap (aP A))) (Classical.propDecidable _) 1 0 := by
        unfold hnd
        rw [hmin]
        by_cases z : tps A heap (flr A heap (aP A))
        · rw [if_pos z, if_pos z]; rfl
        · rw [if_neg z, if_neg z]; rfl
      refine ⟨xpI K6 (23, 0) heap (iZ (hnd A heap)), ?_, ((k1.tr (k4.wk fun r z => .inl z)).tr (d2.wk fun r z => .inr (.inr z))).pI (.inr (.inl rfl)), fun hp hp1 hp2 => ?_⟩
      · have en : ((i + 1 + 1 : Nat) : Int) = (heap : Int) + 1 := by omega
        rw [en, ← eh, hdd]
        generalize hldA A heap = hl' at *
        generalize flr A heap (aP A) = fl at *
        generalize onF A heap fl (aP A) = og at *
        generalize bc hl' = bh at *
        have hwb : (heap : Int) ≤ ((2 ^ aP A : Nat) : Int) - 1 ∧ ((2 ^ aP A : Nat) : Int) - 1 ≤ 511 := by omega
        generalize ((2 ^ aP A : Nat) : Int) - 1 = W at *
        by_cases z : tps A heap fl
        · rw [bP_t z] at d1
          rw [if_pos z]
          rw [xfix_unf, sX0_refresh_14]
          simp (disch := omega) only [xk_none, xk_inl, xk_inr, xk_ite, xri_v, xrl_v, xrv_v, xb_z0, xb_z1, xb_b2, if_true, if_false, ite_true, ite_false, iZ_lit, iZ_m1, iZ_m99, iZ_m8, iZ_add, iZ_sub, iZ_mul, iZ_neg, nz0, nzi, iZ_lt, iZ_le, iZ_inj, b2_z, b2_o, ite_bPz, ite_bPo, xb_bP, iZ_xin, if_pos, ite_self, ↓reduceIte, Int.reduceAdd, Int.reduceSub, Int.reduceMul, Int.reduceNeg, Int.reduceLT, Int.reduceLE, if_neg, hw, c1, c3, c4, iZ_clampN, ← eK4, q22, c5, d1]
        · rw [bP_f z] at d1
          rw [if_neg z]
          rw [xfix_unf, sX0_refresh_14]
          simp (disch := omega) only [xk_none, xk_inl, xk_inr, xk_ite, xri_v, xrl_v, xrv_v, xb_z0, xb_z1, xb_b2, if_true, if_false, ite_true, ite_false, iZ_lit, iZ_m1, iZ_m99, iZ_m8, iZ_add, iZ_sub, iZ_mul, iZ_neg, nz0, nzi, iZ_lt, iZ_le, iZ_inj, b2_z, b2_o, ite_bPz, ite_bPo, xb_bP, iZ_xin, if_pos, ite_self, ↓reduceIte, Int.reduceAdd, Int.reduceSub, Int.reduceMul, Int.reduceNeg, Int.reduceLT, Int.reduceLE, if_neg, hw, c1, c3, c4, iZ_clampN, ← eK4, q22, c5, d1]
      · by_cases z : hp = heap
        · rw [z, pR_eq, pR_nr (by omega), (d2 (22, 0) (by simp)).1]
          exact ⟨q22, rfl⟩
        · rw [pR_ne z, pR_nr (by omega), (d2 (22, 0) (by simp)).1, (d2 (23, 0) (by simp)).1, eK4, pR_ne z, pR_nr (by omega)]
          exact k2 hp hp1 (by omega)) (a := 0) (M := M1) (by omega) ⟨xSame.rf, fun hp h1 h2 => by omega⟩
    refine ⟨xpI M2 (0, 0) 6 (iZ 1), ?_, (((a2.sm.wk fun r j z => by rcases z with z | z | z <;> subst z <;> simp [hdF]).tr (b2.sm.wk fun r j z => by rcases z with z | z | z <;> subst z <;> simp [hdF]))).pI (.inr (.inr (.inr (.inr (.inr ⟨rfl, rfl⟩))))), pR_eq, fun hp h1 h2 => ?_⟩
    · have g0 : xI M2 (5, 0) 0 = iZ (aP A) := by rw [(b2 (5, 0) (by simp)).1, (a2 (5, 0) (by simp)).1]; exact f0
      have hw := x_whole (M := M2) (s := 0) g0 hP
      have e1 : ((0 + 1 : Nat) : Int) = 1 := rfl
      rw [e1] at b1
      have e2 : ((2 ^ aP A - 1 + 1 : Nat) : Int) = ((2 ^ aP A : Nat) : Int) := by omega
      rw [e2] at b1
      show xfix gX0_refresh (0, [some (.inr (.inr (0, 0))), none, none], [], M) = _; rw [xfix_unf, sX0_refresh_0]
      simp (disch := omega) only [xk_none, xk_inl, xk_inr, xk_ite, xri_v, xrl_v, xrv_v, xb_z0, xb_z1, xb_b2, if_true, if_false, ite_true, ite_false, iZ_lit, iZ_m1, iZ_m99, iZ_m8, iZ_add, iZ_sub, iZ_mul, iZ_neg, nz0, nzi, iZ_lt, iZ_le, iZ_inj, b2_z, b2_o, ite_bPz, ite_bPo, xb_bP, iZ_xin, if_pos, ite_self, ↓reduceIte, Int.reduceAdd, Int.reduceSub, Int.reduceMul, Int.reduceNeg, Int.reduceLT, Int.reduceLE, if_neg, hf, a1]
      refine Eq.trans b1 ?_
      generalize ((2 ^ aP A : Nat) : Int) = W at *
      have hW : 0 ≤ W ∧ W ≤ 512 := by omega
      rw [xfix_unf, sX0_refresh_14]
      simp (disch := omega) only [xk_none, xk_inl, xk_inr, xk_ite, xri_v, xrl_v, xrv_v, xb_z0, xb_z1, xb_b2, if_true, if_false, ite_true, ite_false, iZ_lit, iZ_m1, iZ_m99, iZ_m8, iZ_add, iZ_sub, iZ_mul, iZ_neg, nz0, nzi, iZ_lt, iZ_le, iZ_inj, b2_z, b2_o, ite_bPz, ite_bPo, xb_bP, iZ_xin, if_pos, ite_self, ↓reduceIte, Int.reduceAdd, Int.reduceSub, Int.reduceMul, Int.reduceNeg, Int.reduceLT, Int.reduceLE, if_neg, hw]
    · rw [pR_nr (by omega), pR_nr (by omega)]
      exact b3 hp h1 (by omega)
  · refine ⟨M, ?_, xSm.rf, hf, hn⟩
    show xfix gX0_refresh (0, [some (.inr (.inr (0, 0))), none, none], [], M) = _; rw [xfix_unf, sX0_refresh_0]
    simp (disch := omega) only [xk_none, xk_inl, xk_inr, xk_ite, xri_v, xrl_v, xrv_v, xb_z0, xb_z1, xb_b2, if_true, if_false, ite_true, ite_false, iZ_lit, iZ_m1, iZ_m99, iZ_m8, iZ_add, iZ_sub, iZ_mul, iZ_neg, nz0, nzi, iZ_lt, iZ_le, iZ_inj, b2_z, b2_o, ite_bPz, ite_bPo, xb_bP, iZ_xin, if_pos, ite_self, ↓reduceIte, Int.reduceAdd, Int.reduceSub, Int.reduceMul, Int.reduceNeg, Int.reduceLT, Int.reduceLE, if_neg, hf]
